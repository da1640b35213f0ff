/-! signs of a text; sign, end, undo, keep, again, count -/
theorem zushU (x : Int) (v : UInt32) (k : Nat) (hv : v.toNat % 32 = k) : (((Int32.ofInt x).toUInt32 >>> v).toInt32).toInt = Int.bmod (((x % 4294967296).toNat / 2 ^ k : Nat) : Int) 4294967296 := by
  show (((Int32.ofInt x).toUInt32 >>> v).toBitVec).toInt = _
  rw [BitVec.toInt_eq_toNat_bmod]
  show Int.bmod ((((Int32.ofInt x).toUInt32 >>> v).toNat : Nat) : Int) 4294967296 = _
  rw [UInt32.toNat_shiftRight, Nat.shiftRight_eq_div_pow, hv]
  show Int.bmod ((((BitVec.ofInt 32 x).toNat) / 2 ^ k : Nat) : Int) 4294967296 = _
  rw [BitVec.toNat_ofInt]
  rfl
theorem zbm_e (y : Int) : Int.bmod y 4294967296 = y % 4294967296 ∨ Int.bmod y 4294967296 = y % 4294967296 - 4294967296 := by
  simp only [Int.bmod]
  split
  · exact Or.inl rfl
  · exact Or.inr rfl
theorem zush_l (x : Int) : zushr x 0 % 256 = x % 256 ∧ zushr x 8 % 256 = x / 256 % 256 ∧ zushr x 16 % 256 = x / 65536 % 256 ∧ zushr x 24 % 256 = x / 16777216 % 256 := by
  refine ⟨?_, ?_, ?_, ?_⟩
  · have e : zushr x 0 = _ := zushU x _ 0 (by decide)
    rw [e]
    rcases zbm_e (((x % 4294967296).toNat / 2 ^ 0 : Nat) : Int) with h | h <;> rw [h] <;> omega
  · have e : zushr x 8 = _ := zushU x _ 8 (by decide)
    rw [e]
    rcases zbm_e (((x % 4294967296).toNat / 2 ^ 8 : Nat) : Int) with h | h <;> rw [h] <;> omega
  · have e : zushr x 16 = _ := zushU x _ 16 (by decide)
    rw [e]
    rcases zbm_e (((x % 4294967296).toNat / 2 ^ 16 : Nat) : Int) with h | h <;> rw [h] <;> omega
  · have e : zushr x 24 = _ := zushU x _ 24 (by decide)
    rw [e]
    rcases zbm_e (((x % 4294967296).toNat / 2 ^ 24 : Nat) : Int) with h | h <;> rw [h] <;> omega
theorem zshU (x : Int) (v : Int32) (k : Nat) (hv : (v.toBitVec.smod 32).toNat = k) : (Int32.ofInt x >>> v).toInt = (Int.bmod x 4294967296) / 2 ^ k := by
  show (((Int32.ofInt x).toBitVec).sshiftRight' (v.toBitVec.smod 32)).toInt = _
  show (((BitVec.ofInt 32 x)).sshiftRight (v.toBitVec.smod 32).toNat).toInt = _
  rw [hv, BitVec.toInt_sshiftRight, Int.shiftRight_eq_div_pow, BitVec.toInt_ofInt]
  rfl
theorem zsh_l (x : Int) : zshr x 0 % 256 = x % 256 ∧ zshr x 8 % 256 = x / 256 % 256 ∧ zshr x 16 % 256 = x / 65536 % 256 ∧ zshr x 24 % 256 = x / 16777216 % 256 := by
  refine ⟨?_, ?_, ?_, ?_⟩
  · have e : zshr x 0 = _ := zshU x _ 0 (by decide)
    rw [e]
    rcases zbm_e x with h | h <;> rw [h] <;> omega
  · have e : zshr x 8 = _ := zshU x _ 8 (by decide)
    rw [e]
    rcases zbm_e x with h | h <;> rw [h] <;> omega
  · have e : zshr x 16 = _ := zshU x _ 16 (by decide)
    rw [e]
    rcases zbm_e x with h | h <;> rw [h] <;> omega
  · have e : zshr x 24 = _ := zshU x _ 24 (by decide)
    rw [e]
    rcases zbm_e x with h | h <;> rw [h] <;> omega
/-- the four signs of a number -/
def zs4 (v : Int) : List Int := [v / 16777216 % 256, v / 65536 % 256, v / 256 % 256, v % 256]
theorem zb_b (y : Int) : zb (zb y) = if y % 256 < 128 then y % 256 else y % 256 - 256 := by
  unfold zb
  split <;> omega
theorem zT_app {T : List Int} {v : Int} {f : Int → Int} (h : ∀ k : Nat, k < T.length → f k = T.getD k 0) (hl : f T.length = v) (k : Nat) (hk : k < (T ++ [v]).length) : f k = (T ++ [v]).getD k 0 := by
  rw [List.length_append, List.length_singleton] at hk
  by_cases c : k < T.length
  · rw [List.getD_eq_getElem?_getD, List.getElem?_append_left c, ← List.getD_eq_getElem?_getD]; exact h k c
  · have hk2 : k = T.length := by omega
    subst hk2
    rw [hl]; simp
theorem zTv_app {T : List Int} {v : Int} (h : zTv T) (hl : T.length < 80) (hv : 0 ≤ v ∧ v < 256) : zTv (T ++ [v]) := by
  refine ⟨by rw [List.length_append]; simp; omega, fun k hk => ?_⟩
  have := zT_app (f := fun i => if i < (T.length : Int) then T.getD i.toNat 0 else v) (T := T) (v := v) (fun k hk => by simp [hk]) (by simp) k hk
  rw [← this]
  by_cases c : k < T.length
  · rw [if_pos (by omega)]; exact h.2 _ (by omega)
  · rw [if_neg (by omega)]; exact hv
section
variable {G : zG} {μ : zM} {S : Int → Int} {c : Int} {W U : List (Int → Int)} {kp : Int → Int} {K : Int → Int → Int} {T R : List Int}
/-- only the text changes -/
theorem zXg.txt {μ' : zM} {T' : List Int} (h : zXg μ S c W kp K T R) (hm : zsm (fun b _ => b = 1 ∨ b = 2) μ μ') (ht : zXt μ' T') : zXg μ' S c W kp K T' R := by
  obtain ⟨h1, h2, ⟨g, hg, e1, e2, h3⟩, ⟨h4, h5⟩, h6, h7, h8⟩ := h
  have hL : ∀ (b : Nat) (j : Int), zlb b → ¬ (b = 1 ∨ b = 2) := fun b j hb z => by
    rcases hb with y | ⟨i, hi, y⟩ | y | y | y <;> omega
  exact ⟨h1.sm hm (fun b j i0 i1 z => by omega), by rw [hm.2.1]; exact h2.sm hm hL, ⟨g, hg, by rw [hm.1 13 1 (by omega)]; exact e1, by rw [hm.1 13 2 (by omega)]; exact e2, fun k hk => ⟨(h3 k hk).1.sm hm (fun b j i0 i1 z => by unfold zslo at *; omega), by rw [hm.2.1]; exact (h3 k hk).2.sm hm hL⟩⟩, ⟨h4.sm hm (fun b j q z => by omega), fun i i0 i1 e => by rw [hm.2.1]; exact (h5 i i0 i1 e).sm hm hL⟩, ht, h7.sm hm (by omega) (by omega), h8.sm hm (by omega)⟩
theorem zXa.txt {μ' : zM} {T' : List Int} (h : zXa μ S U kp K T R) (hm : zsm (fun b _ => b = 1 ∨ b = 2) μ μ') (ht : zXt μ' T') : zXa μ' S U kp K T' R := ⟨h.1, h.2.txt hm ht⟩
theorem kX9_append {F : zM → Prop} {v : Int} (ht : zXt μ T) (hl : T.length < 80) (h : ∀ μ', zsm (fun b _ => b = 1 ∨ b = 2) μ μ' → zXt μ' (T ++ [v]) → F μ') : qX9_append G v μ F := by
  obtain ⟨h1, h2⟩ := ht
  refine eX9_append fun J C => rX9_append_e C _ ?_
  rw [h1]
  refine ⟨by constructor <;> omega, fun c => absurd c (by omega), fun _ => ⟨by omega, h _ (((zsm.refl _ _).up _ (Or.inr rfl)).up _ (Or.inl rfl)) ⟨?_, ?_⟩⟩⟩
  · rw [zi_at, zi_off (by omega), h1, List.length_append]; simp
  · refine zT_app (f := fun k => zi _ 2 k) (fun k hk => ?_) ?_
    · show zi _ 2 _ = _
      rw [zi_off (by omega), zi_off (by omega)]; exact h2 k hk
    · show zi _ 2 _ = v
      rw [zi_off (by omega)]; exact zi_at
def zsgT (T : List Int) (v : Int) : List Int := if T.length + 4 ≤ 80 then T ++ zs4 v else T
def zsgA (T : List Int) : Int := if T.length + 4 ≤ 80 then T.length + 4 else -1
theorem zsgT_v {T : List Int} (h : zTv T) (v : Int) : zTv (zsgT T v) := by
  unfold zsgT
  split
  · have e : T ++ zs4 v = (((T ++ [v / 16777216 % 256]) ++ [v / 65536 % 256]) ++ [v / 256 % 256]) ++ [v % 256] := by unfold zs4; simp
    rw [e]
    exact zTv_app (zTv_app (zTv_app (zTv_app h (by omega) (by omega)) (by simp; omega) (by omega)) (by simp; omega) (by omega)) (by simp; omega) (by omega)
  · exact h
theorem kX10_sign {F : Int → zM → Prop} (hx : zXa μ S U kp K T R) (hT : zTv T) {v : Int} (h : ∀ μ', zxm μ μ' → zXa μ' S U kp K (zsgT T v) R → F (zsgA T) μ') : qX10_sign G v μ F := by
  have ht := hx.2.2.2.2.2.1
  have hl := hT.1
  refine eX10_sign fun J C => rX10_sign_e C _ ?_
  rw [ht.1]
  unfold zsgT zsgA at h
  refine ⟨by constructor <;> omega, fun c1 => ?_, fun c1 => ?_⟩
  · rw [if_pos (by omega), if_pos (by omega)] at h
    obtain ⟨u0, u1, u2, u3⟩ := zush_l v
    refine rX10_sign_19 C _ _ ⟨by decide, fun z => absurd z (by decide), fun _ => kX9_append ht (by omega) fun μ1 g1 t1 => ?_⟩
    refine rX10_sign_19 C _ _ ⟨by decide, fun z => absurd z (by decide), fun _ => kX9_append t1 (by simp; omega) fun μ2 g2 t2 => ?_⟩
    refine rX10_sign_19 C _ _ ⟨by decide, fun z => absurd z (by decide), fun _ => kX9_append t2 (by simp; omega) fun μ3 g3 t3 => ?_⟩
    refine rX10_sign_19 C _ _ ⟨by decide, fun z => absurd z (by decide), fun _ => kX9_append t3 (by simp; omega) fun μ4 g4 t4 => ?_⟩
    refine rX10_sign_19 C _ _ ⟨by decide, fun _ => ?_, fun z => absurd (by decide) z⟩
    have e : T ++ zs4 v = (((T ++ [zushr v 24 % 256]) ++ [zushr v (24 + -8) % 256]) ++ [zushr v (24 + -8 + -8) % 256]) ++ [zushr v (24 + -8 + -8 + -8) % 256] := by
      show T ++ [v / 16777216 % 256, v / 65536 % 256, v / 256 % 256, v % 256] = (((T ++ [zushr v 24 % 256]) ++ [zushr v 16 % 256]) ++ [zushr v 8 % 256]) ++ [zushr v 0 % 256]
      rw [u0, u1, u2, u3]; simp
    rw [t4.1]
    have gx := ((g1.trans g2).trans g3).trans g4
    have := h μ4 (gx.xm (fun b j z => by omega)) (hx.txt gx (by rw [e]; exact t4))
    have e2 : (((((((T ++ [zushr v 24 % 256]) ++ [zushr v (24 + -8) % 256]) ++ [zushr v (24 + -8 + -8) % 256]) ++ [zushr v (24 + -8 + -8 + -8) % 256]).length : Nat) : Int)) = (T.length : Int) + 4 := by simp
    rw [e2]
    exact this
  · rw [if_neg (by omega), if_neg (by omega)] at h
    exact h μ (zxm.refl _) hx
theorem kX10_end {F : Int → zM → Prop} (hx : zXa μ S U kp K T R) (hT : zTv T) {n : Int} (ix : zin n) (h : ∀ μ', zxm μ μ' → zXa μ' S U kp K (if 0 ≤ n ∧ n ≤ T.length then T.take n.toNat else T) R → F (if 0 ≤ n ∧ n ≤ T.length then 1 else 0) μ') : qX10_end G n μ F := by
  have ht := hx.2.2.2.2.2.1
  have hl := hT.1
  refine eX10_end fun J C => rX10_end_e C _ ?_
  rw [ht.1]
  refine ⟨ix, fun c1 => ?_, fun c1 => ⟨by constructor <;> omega, fun c2 => ?_, fun c2 => ?_⟩⟩
  · rw [if_neg (by omega), if_neg (by omega)] at h
    exact h μ (zxm.refl _) hx
  · rw [if_pos (by omega), if_pos (by omega)] at h
    have gm : zsm (fun b _ => b = 1 ∨ b = 2) μ (zup μ 1 1 n) := (zsm.refl _ _).up _ (Or.inl rfl)
    have hlt : (T.take n.toNat).length = n.toNat := by rw [List.length_take]; omega
    refine h _ (gm.xm (fun b j z => by omega)) (hx.txt gm ⟨by rw [zi_at, hlt]; omega, fun k hk => ?_⟩)
    rw [hlt] at hk
    rw [zi_off (by omega), ht.2 k (by omega), List.getD_eq_getElem?_getD, List.getD_eq_getElem?_getD, List.getElem?_take_of_lt hk]
  · rw [if_neg (by omega), if_neg (by omega)] at h
    exact h μ (zxm.refl _) hx
theorem kX11_sign {F : Int → zM → Prop} (hM : zMa μ S U kp K T R) (hT : zTv T) {v : Int} (h : ∀ μ', zsm zPW μ μ' → zMa μ' S U kp K (zsgT T v) R → F (zsgA T) μ') : qX11_sign G v μ F := by
  have hl := hT.1
  have g0 : zsm zPW μ (zup μ 153 5 0) := (zsm.refl _ _).up _ (by decide)
  have hM := hM.pub (zMthr μ) hM.2.2.2.2.1.thr
  refine eX11_sign fun J C => rX11_sign_e C _ ?_
  generalize zup μ 153 5 0 = μ0 at *
  have ht := hM.2.2.2.1
  rw [ht.1]
  unfold zsgT zsgA at h
  have step : ∀ (T1 : List Int) (μ1 : zM) (k : Int), 0 ≤ k → k < 4 → zsm (fun b j => b = 155 ∨ (b = 153 ∧ j = 2)) μ0 μ1 → zMt μ1 T1 → T1.length < 80 → (∀ μ2, zsm (fun b j => b = 155 ∨ (b = 153 ∧ j = 2)) μ0 μ2 → zMt μ2 (T1 ++ [zshr v (8 * k) % 256]) → J 20 ([some (zR (some 153)), some (zI v), some (zI (k + -1))], [], μ2, 0, 0)) → J 20 ([some (zR (some 153)), some (zI v), some (zI k)], [], μ1, 0, 0) := by
    intro T1 μ1 k k0 k1 g1 t1 hl1 hj
    refine rX11_sign_20 C _ _ ⟨by constructor <;> omega, fun z => absurd z (by omega), fun _ => ⟨by rw [t1.1]; omega, ?_⟩⟩
    rw [t1.1]
    refine hj _ ((g1.up _ (Or.inr ⟨rfl, rfl⟩)).up _ (Or.inl rfl)) ⟨?_, fun i hi => ?_⟩
    · rw [zi_off (by omega), zi_at, List.length_append]; simp
    · rw [List.length_append, List.length_singleton] at hi
      by_cases ci : i < T1.length
      · rw [zi_off (by omega), zi_off (by omega), List.getD_eq_getElem?_getD, List.getElem?_append_left ci, ← List.getD_eq_getElem?_getD]
        exact t1.2 i ci
      · have hi2 : i = T1.length := by omega
        subst hi2
        rw [zi_at, zb_b]
        have : (T1 ++ [zshr v (8 * k) % 256]).getD T1.length 0 = zshr v (8 * k) % 256 := by simp
        rw [this]
  refine ⟨by constructor <;> omega, fun c1 => ?_, fun c1 => ?_⟩
  · rw [if_pos (by omega), if_pos (by omega)] at h
    obtain ⟨u0, u1, u2, u3⟩ := zsh_l v
    refine step T μ0 3 (by decide) (by decide) (zsm.refl _ _) ht (by omega) fun μ1 g1 t1 => ?_
    refine step _ μ1 (3 + -1) (by decide) (by decide) g1 t1 (by simp; omega) fun μ2 g2 t2 => ?_
    refine step _ μ2 (3 + -1 + -1) (by decide) (by decide) g2 t2 (by simp; omega) fun μ3 g3 t3 => ?_
    refine step _ μ3 (3 + -1 + -1 + -1) (by decide) (by decide) g3 t3 (by simp; omega) fun μ4 g4 t4 => ?_
    refine rX11_sign_20 C _ _ ⟨by decide, fun _ => ?_, fun z => absurd (by decide) z⟩
    have e : T ++ zs4 v = (((T ++ [zshr v (8 * 3) % 256]) ++ [zshr v (8 * (3 + -1)) % 256]) ++ [zshr v (8 * (3 + -1 + -1)) % 256]) ++ [zshr v (8 * (3 + -1 + -1 + -1)) % 256] := by
      show T ++ [v / 16777216 % 256, v / 65536 % 256, v / 256 % 256, v % 256] = (((T ++ [zshr v 24 % 256]) ++ [zshr v 16 % 256]) ++ [zshr v 8 % 256]) ++ [zshr v 0 % 256]
      rw [u0, u1, u2, u3]; simp
    rw [t4.1]
    have hM4 : zMa μ4 S U kp K (T ++ zs4 v) R := ⟨hM.1.sm g4 (by omega), hM.2.1.sm g4 (by omega) (by omega), hM.2.2.1.sm g4 (by omega), by rw [e]; exact t4, hM.2.2.2.2.1.sm g4 (by omega) (by omega), hM.2.2.2.2.2.sm g4 (by omega)⟩
    have := h μ4 (g0.trans (g4.mono (fun b j => by unfold zPW; omega))) hM4
    have e2 : (((((((T ++ [zshr v (8 * 3) % 256]) ++ [zshr v (8 * (3 + -1)) % 256]) ++ [zshr v (8 * (3 + -1 + -1)) % 256]) ++ [zshr v (8 * (3 + -1 + -1 + -1)) % 256]).length : Nat) : Int)) = (T.length : Int) + 4 := by simp
    rw [e2]
    exact this
  · rw [if_neg (by omega), if_neg (by omega)] at h
    exact h μ0 g0 hM
theorem kX11_end {F : Int → zM → Prop} (hM : zMa μ S U kp K T R) (hT : zTv T) {n : Int} (ix : zin n) (h : ∀ μ', zsm zPW μ μ' → zMa μ' S U kp K (if 0 ≤ n ∧ n ≤ T.length then T.take n.toNat else T) R → F (if 0 ≤ n ∧ n ≤ T.length then 1 else 0) μ') : qX11_end G n μ F := by
  have hl := hT.1
  have g0 : zsm zPW μ (zup μ 153 5 0) := (zsm.refl _ _).up _ (by decide)
  have hM := hM.pub (zMthr μ) hM.2.2.2.2.1.thr
  refine eX11_end fun J C => rX11_end_e C _ ?_
  generalize zup μ 153 5 0 = μ0 at *
  have ht := hM.2.2.2.1
  rw [ht.1]
  refine kX11_in ix (by decide) (by constructor <;> omega) (fun c1 => ⟨by decide, fun _ => ?_, fun z => absurd z (by decide)⟩) (fun c1 => ⟨by decide, fun z => absurd rfl z, fun _ => ?_⟩)
  · rw [if_pos c1, if_pos c1] at h
    have gm : zsm (fun b j => b = 153 ∧ j = 2) μ0 (zup μ0 153 2 n) := (zsm.refl _ _).up _ ⟨rfl, rfl⟩
    have hlt : (T.take n.toNat).length = n.toNat := by rw [List.length_take]; omega
    refine h _ (g0.trans (gm.mono (fun b j => by unfold zPW; omega))) ⟨hM.1.sm gm (by omega), hM.2.1.sm gm (by omega) (by omega), hM.2.2.1.sm gm (by omega), ⟨by rw [zi_at, hlt]; omega, fun k hk => ?_⟩, hM.2.2.2.2.1.sm gm (by omega) (by omega), hM.2.2.2.2.2.sm gm (by omega)⟩
    rw [hlt] at hk
    have e : (T.take n.toNat).getD k 0 = T.getD k 0 := by rw [List.getD_eq_getElem?_getD, List.getD_eq_getElem?_getD, List.getElem?_take_of_lt hk]
    rw [zi_off (by omega), e]
    exact ht.2 k (by omega)
  · rw [if_neg c1, if_neg c1] at h
    exact h μ0 g0 hM
end
