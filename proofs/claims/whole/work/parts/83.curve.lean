/-! curve -/
def zcvl (T : List Int) (n : Nat) : Int := if n = 0 then 48 else zat T ((n : Int) - 1)
def zcvF (T : List Int) : Nat → Int
  | 0 => -1
  | n + 1 => if 0 ≤ zcvF T n then zcvF T n else if n = 9 ∨ zat T n < zcvl T n ∨ 56 < zat T n then (n : Int) else -1
def zcvW (T : List Int) : Int := if 0 ≤ zcvF T T.length then zcvF T T.length else if 0 < T.length ∧ T.length < 9 then T.length else -1
theorem zcvF_r (T : List Int) : ∀ n : Nat, -1 ≤ zcvF T n ∧ zcvF T n < n
  | 0 => ⟨Int.le_refl (-1), (by decide : (-1 : Int) < 0)⟩
  | n + 1 => by
    have := zcvF_r T n
    rw [zcvF]
    split
    · omega
    · split <;> omega
theorem zcvF_m (T : List Int) {n : Nat} (h : 0 ≤ zcvF T n) : ∀ m : Nat, zcvF T (n + m) = zcvF T n
  | 0 => rfl
  | m + 1 => by
    have := zcvF_m T h m
    show (if 0 ≤ zcvF T (n + m) then zcvF T (n + m) else _) = _
    rw [this, if_pos h]
theorem zcvF_b {T : List Int} {n : Nat} (h : zcvF T n = -1) (hb : n = 9 ∨ zat T n < zcvl T n ∨ 56 < zat T n) {m : Nat} (hm : n < m) : zcvF T m = n := by
  have e : zcvF T (n + 1) = n := by rw [zcvF, if_neg (by omega), if_pos hb]
  have := zcvF_m T (n := n + 1) (by omega) (m - (n + 1))
  rw [show n + 1 + (m - (n + 1)) = m by omega] at this
  rw [this, e]
theorem zcvF_g {T : List Int} {n : Nat} (h : zcvF T n = -1) (hb : ¬ (n = 9 ∨ zat T n < zcvl T n ∨ 56 < zat T n)) : zcvF T (n + 1) = -1 := by rw [zcvF, if_neg (by omega), if_neg hb]
theorem zcvF_l {T : List Int} {n m : Nat} (h : zcvF T m = -1) (hn : n ≤ m) : zcvF T n = -1 := by
  have h1 := zcvF_r T n
  by_cases c : 0 ≤ zcvF T n
  · have := zcvF_m T c (m - n)
    rw [show n + (m - n) = m by omega] at this
    omega
  · omega
theorem zcvF_d {T : List Int} : ∀ {n : Nat}, zcvF T n = -1 → n ≤ 9 ∧ ∀ p : Nat, p < n → 48 ≤ zat T p ∧ zat T p ≤ 56
  | 0, _ => ⟨by decide, fun p hp => absurd hp (by omega)⟩
  | n + 1, h => by
    have h1 : zcvF T n = -1 := zcvF_l h (by omega)
    obtain ⟨q0, q⟩ := zcvF_d h1
    have hb : ¬ (n = 9 ∨ zat T n < zcvl T n ∨ 56 < zat T n) := fun z => by
      have := zcvF_b h1 z (m := n + 1) (by omega)
      omega
    refine ⟨by omega, fun p hp => ?_⟩
    by_cases c : p < n
    · exact q p c
    · have hp2 : p = n := by omega
      subst hp2
      have hl : 48 ≤ zcvl T p := by
        unfold zcvl
        split
        · omega
        · have := q (p - 1) (by omega)
          rw [show (((p - 1 : Nat)) : Int) = (p : Int) - 1 by omega] at this
          exact this.1
      omega
theorem zcvl_r {T : List Int} {n : Nat} (h : zcvF T n = -1) : 48 ≤ zcvl T n ∧ zcvl T n ≤ 56 := by
  unfold zcvl
  split
  · omega
  · have := (zcvF_d h).2 (n - 1) (by omega)
    rw [show (((n - 1 : Nat)) : Int) = (n : Int) - 1 by omega] at this
    exact this
theorem zcvW_r {T : List Int} (hT : zTv T) : -1 ≤ zcvW T ∧ zcvW T ≤ 80 := by
  have := zcvF_r T T.length
  have := hT.1
  unfold zcvW
  split
  · omega
  · split <;> omega
theorem zcvW_n {T : List Int} (h : zcvW T < 0) : T.length = 0 ∨ (T.length = 9 ∧ zcvF T 9 = -1) := by
  have h1 := zcvF_r T T.length
  unfold zcvW at h
  by_cases c : 0 ≤ zcvF T T.length
  · rw [if_pos c] at h; omega
  · rw [if_neg c] at h
    have h2 : zcvF T T.length = -1 := by omega
    have := (zcvF_d h2).1
    by_cases d : 0 < T.length ∧ T.length < 9
    · rw [if_pos d] at h; omega
    · by_cases e : T.length = 0
      · exact Or.inl e
      · have e9 : T.length = 9 := by omega
        rw [e9] at h2
        exact Or.inr ⟨e9, h2⟩
def zcuV (T : List Int) (n : Int) : Int := if T.length = 0 then n else zat T n - 48
def zcuS (S : Int → Int) (T : List Int) (ink : Int) : Nat → Int → Int
  | 0 => S
  | n + 1 => zupd (zcuS S T ink n) (324 + (9 * ink + n)) (zcuV T n)
def zcuT (T : List Int) : Nat → Int
  | 0 => 0
  | n + 1 => zcuT T n + max (zcuV T n - n) (-(zcuV T n - n))
theorem zcuV_r {T : List Int} (h : zcvW T < 0) {n : Int} (h0 : 0 ≤ n) (h1 : n < 9) : 0 ≤ zcuV T n ∧ zcuV T n ≤ 8 := by
  unfold zcuV
  rcases zcvW_n h with c | ⟨c, d⟩
  · rw [if_pos c]; omega
  · rw [if_neg (by omega)]
    have := (zcvF_d d).2 n.toNat (by omega)
    rw [show ((n.toNat : Nat) : Int) = n by omega] at this
    omega
theorem zcuT_r {T : List Int} (h : zcvW T < 0) : ∀ n : Nat, n ≤ 9 → 0 ≤ zcuT T n ∧ zcuT T n ≤ 8 * n
  | 0, _ => ⟨Int.le_refl _, Int.le_refl _⟩
  | n + 1, hn => by
    have h1 := zcuT_r h n (by omega)
    have h2 := zcuV_r h (n := (n : Int)) (by omega) (by omega)
    rw [zcuT]
    omega
theorem zcuS_o {S : Int → Int} {T : List Int} {ink : Int} : ∀ (n : Nat) (i : Int), i < 324 + 9 * ink ∨ 324 + 9 * ink + n ≤ i → zcuS S T ink n i = S i
  | 0, _, _ => rfl
  | n + 1, i, h => by
    rw [zcuS, zupd_off (by omega)]
    exact zcuS_o n i (by omega)
theorem zcuS_i {S : Int → Int} {T : List Int} {ink : Int} : ∀ (n : Nat) (k : Int), 0 ≤ k → k < n → zcuS S T ink n (324 + (9 * ink + k)) = zcuV T k
  | 0, k, h0, h1 => absurd h1 (by omega)
  | n + 1, k, h0, h1 => by
    by_cases c : k = n
    · rw [c, zcuS, zupd_at]
    · rw [zcuS, zupd_off (by omega)]
      exact zcuS_i n k h0 (by omega)
theorem zcuS_v {S : Int → Int} {T : List Int} {ink : Int} (hv : zval S) (h : zcvW T < 0) (hi : 0 ≤ ink ∧ ink ≤ 3) : ∀ n : Nat, n ≤ 9 → zval (zcuS S T ink n)
  | 0, _ => hv
  | n + 1, hn => by
    obtain ⟨h1, h2, h3, h4, h5, h6, h7, h8, h9⟩ := zcuS_v hv h hi n (by omega)
    have hr := zcuV_r h (n := (n : Int)) (by omega) (by omega)
    have hs : ∀ i, i < 324 ∨ 360 ≤ i → zcuS S T ink (n + 1) i = zcuS S T ink n i := fun i hi => by rw [zcuS, zupd_off (by omega)]
    refine ⟨⟨fun x x0 x1 => by rw [hs _ (by omega)]; exact h1.1 x x0 x1, fun x x0 x1 => by rw [hs _ (by omega)]; exact h1.2 x x0 x1⟩, zSet_c (fun i i0 i1 => hs i (by omega)) h2, ⟨by rw [hs 702 (by decide), hs 703 (by decide)]; exact h3.1, fun i i0 i1 => by rw [hs _ (by omega)]; exact h3.2.1 i i0 i1, fun i i0 i1 => by rw [hs _ (by omega)]; exact h3.2.2 i i0 i1⟩, fun i i0 i1 => ?_, zLw_c (fun i i0 _ => hs i (by omega)) h5, fun i i0 i1 => ?_, fun x x0 x1 hx => by rw [hs _ (by omega)]; exact h7 x x0 x1 hx, by rw [hs _ (by decide)]; exact h8, by rw [hs _ (by decide)]; exact h9⟩
    · by_cases c : 324 + i = 324 + (9 * ink + n)
      · rw [c, zcuS, zupd_at]; exact hr
      · rw [zcuS, zupd_off c]; exact h4 i i0 i1
    · by_cases c : i = 324 + (9 * ink + n)
      · rw [c, zcuS, zupd_at]; constructor <;> omega
      · rw [zcuS, zupd_off c]; exact h6 i i0 i1
abbrev zcuO (T : List Int) (ink : Int) : Prop := zcvW T < 0 ∧ 0 ≤ ink ∧ ink ≤ 3
def zcuSS (S : Int → Int) (T : List Int) (ink : Int) : Int → Int := if zcuO T ink then zcuS S T ink 9 else S
def zcuA (T : List Int) (ink : Int) : Int := if 0 ≤ zcvW T then -1 - zcvW T else if 0 ≤ ink ∧ ink ≤ 3 then zcuT T 9 else -1
theorem zcuSS_v {S : Int → Int} (hv : zval S) (T : List Int) (ink : Int) : zval (zcuSS S T ink) := by
  unfold zcuSS
  split
  · rename_i c; exact zcuS_v hv c.1 c.2 9 (by decide)
  · exact hv
section
variable {G : zG} {μ : zM} {S : Int → Int} {c : Int} {W U : List (Int → Int)} {kp : Int → Int} {K : Int → Int → Int} {T R : List Int}
theorem kX9_curveWrongAt {F : Int → zM → Prop} (ht : zXt μ T) (hT : zTv T) (h : F (zcvW T) μ) : qX9_curveWrongAt G μ F := by
  have hl := hT.1
  refine eX9_curveWrongAt fun J C => rX9_curveWrongAt_e C ?_
  refine znfor (N := T.length) (P := fun n => zcvF T n = -1 → J 5 ([some (zR (some 1)), some (zI (zcvl T n)), some (zI (n : Int))], [], μ, 0, 0)) ?_ ?_ rfl
  · intro hn
    have hr := zcvl_r hn
    refine rX9_curveWrongAt_5 C _ _ ?_
    rw [ht.1]
    unfold zcvW at h
    rw [if_neg (by omega)] at h
    have h9 := (zcvF_d hn).1
    refine ⟨by constructor <;> omega, by constructor <;> omega, fun _ => ⟨fun c1 => ?_, fun c1 => ⟨fun c2 => ?_, fun c2 => ?_⟩⟩, fun z => absurd (Int.le_refl _) z⟩
    · rw [if_neg (by omega)] at h; exact h
    · rw [if_neg (by omega)] at h; exact h
    · rw [if_pos (by omega)] at h; exact h
  · intro n hn ih hf
    have hr := zcvl_r hf
    have e : zi μ 2 n = zat T n := ht.2 n hn
    have hrT := zat_r hT (i := (n : Int)) (by omega) (by omega)
    have bad : (n = 9 ∨ zat T n < zcvl T n ∨ 56 < zat T n) → F (n : Int) μ := fun hb => by
      have e2 := zcvF_b hf hb hn
      unfold zcvW at h
      rw [e2, if_pos (by omega)] at h
      exact h
    refine rX9_curveWrongAt_5 C _ _ ?_
    rw [ht.1, e]
    refine ⟨by constructor <;> omega, by constructor <;> omega, fun z => absurd z (by omega), fun _ => ⟨fun c1 => bad (Or.inl (by omega)), fun c1 => ⟨by omega, by constructor <;> omega, by constructor <;> omega, fun c2 => bad (Or.inr (Or.inl c2)), fun c2 => ⟨fun c3 => ?_, fun c3 => bad (Or.inr (Or.inr (by omega)))⟩⟩⟩⟩
    have := ih (zcvF_g hf (by omega))
    have e3 : zcvl T (n + 1) = zat T n := by
      unfold zcvl
      rw [if_neg (by omega), show (((n + 1 : Nat) : Int) - 1) = n by omega]
    rw [e3] at this
    exact this
theorem kX7_bentFromStraight {F : Int → zM → Prop} {ink : Int} (hX : zXs μ 5 (zcuS S T ink 9)) (h0 : zcvW T < 0) (hi : 0 ≤ ink ∧ ink ≤ 3) (h : F (zcuT T 9) μ) : qX7_bentFromStraight G 5 ink μ F := by
  refine eX7_bentFromStraight fun J C => rX7_bentFromStraight_e C zSt_5 _ ?_
  refine znfor (N := 9) (P := fun n => J 4 ([some (zR (some 5)), some (zI ink), some (zI (zcuT T n)), some (zI (n : Int))], [], μ, 0, 0)) ?_ ?_
  · exact rX7_bentFromStraight_4 C zSt_5 _ _ _ ⟨by decide, fun _ => h, fun z => absurd (by decide) z⟩
  · intro n hn ih
    have e : zi μ (5 + 4) (ink * 9 + n) = zcuV T n := by
      rw [Int.mul_comm ink 9]
      have := hX.2.2.2.1 (9 * ink + n) (by omega) (by omega)
      rw [zcuS_i 9 (n : Int) (by omega) (by omega)] at this
      exact this
    have hr := zcuV_r h0 (n := (n : Int)) (by omega) (by omega)
    refine rX7_bentFromStraight_4 C zSt_5 _ _ _ ?_
    rw [e]
    exact ⟨by constructor <;> omega, fun z => absurd z (by omega), fun _ => ⟨by omega, by constructor <;> omega, ih⟩⟩
theorem kX10_curve {F : Int → zM → Prop} (hx : zXa μ S U kp K T R) (hv : zval S) (hT : zTv T) {ink : Int} (ii : zin ink) (h : ∀ μ', zxm μ μ' → zXa μ' (zcuSS S T ink) (if zcuO T ink then zpush U S else U) kp K [] R → F (zcuA T ink) μ') : qX10_curve G ink μ F := by
  have ht := hx.2.2.2.2.2.1
  have hw := zcvW_r hT
  unfold zcuSS zcuA at h
  refine eX10_curve fun J C => rX10_curve_e C _ (kX9_curveWrongAt ht hT ⟨by constructor <;> omega, fun c1 => ?_, fun c1 => ?_⟩)
  · refine kX10_isInk ii (fun c2 => ⟨by decide, fun _ => ?_, fun z => absurd z (by decide)⟩) (fun c2 => ⟨by decide, fun z => absurd rfl z, fun _ => ?_⟩)
    · have hO : zcuO T ink := ⟨c1, c2⟩
      rw [if_pos hO, if_pos hO, if_neg (by omega), if_pos c2] at h
      obtain ⟨hu, hx⟩ := hx
      refine kX1_draft hx hu hv.pic hv.1 fun μ1 g1 x1 => ?_
      have ht1 := x1.2.2.2.2.1
      refine znfor (N := 9) (P := fun n => ∀ μ2, zsm (fun b _ => b = 9) μ1 μ2 → zXs μ2 5 (zcuS S T ink n) → J 48 ([some (zR (some 0)), some (zI ink), none, some (zI (n : Int))], [], μ2, 0, 0)) ?_ ?_ μ1 (zsm.refl _ _) x1.1
      · intro μ2 g2 x2
        have hx2 := x1.st g2 (fun b j z => by omega) x2 (fun i i0 i1 => zcuS_o 9 i (by omega)) hv.2.2.2.2.1
        have gm : zsm (fun b _ => b = 1 ∨ b = 2) μ2 (zup μ2 1 1 0) := (zsm.refl _ _).up _ (Or.inl rfl)
        have hx3 := hx2.txt (T' := []) gm ⟨zi_at, fun k hk => absurd hk (by simp)⟩
        have hr := zcuT_r c1 9 (by decide)
        refine rX10_curve_48 C _ _ ⟨by decide, fun _ => kX7_bentFromStraight hx3.1 c1 c2 (kX10_settled (by constructor <;> omega) hx3 hu (fun z => absurd z (by omega)) (fun _ μ3 g3 x4 => h μ3 (((g1.trans (g2.xm (fun b j z => by omega))).trans (gm.xm (fun b j z => by omega))).trans g3) x4)), fun z => absurd (by decide) z⟩
      · intro n hn ih μ2 g2 x2
        have hvn := zcuS_v hv c1 c2 n (by omega)
        have e1 : zi μ2 1 1 = T.length := by rw [g2.1 _ _ (by omega)]; exact ht1.1
        have ht2 : zXt μ2 T := ⟨e1, fun k hk => by rw [g2.1 _ _ (by omega)]; exact ht1.2 k hk⟩
        have fin : ∀ v, v = zcuV T n → J 48 ([some (zR (some 0)), some (zI ink), none, some (zI ((n : Int) + 1))], [], zup μ2 9 (ink * 9 + n) v, 0, 0) := fun v e => by
          rw [e, Int.mul_comm ink 9]
          exact ih _ (g2.up _ rfl) (x2.up hvn.pic (b := 9) (Or.inr (Or.inr (Or.inr (Or.inl ⟨rfl, rfl, by omega, by omega⟩)))))
        refine rX10_curve_48 C _ _ ⟨by constructor <;> omega, fun z => absurd z (by omega), fun _ => ?_⟩
        rw [e1]
        have hl := hT.1
        refine ⟨by constructor <;> omega, fun z => ?_, fun z => ⟨by omega, fin _ (by unfold zcuV; rw [if_pos (by omega)])⟩⟩
        exact kX9_digit ht2 hT (by constructor <;> omega) (by omega) ⟨by omega, fin _ (by unfold zcuV; rw [if_neg (by omega)])⟩
    · rw [if_neg (fun y => c2 y.2), if_neg (fun y => c2 y.2), if_neg (by omega), if_neg c2] at h
      have gm : zsm (fun b _ => b = 1 ∨ b = 2) μ (zup μ 1 1 0) := (zsm.refl _ _).up _ (Or.inl rfl)
      exact h _ (gm.xm (fun b j z => by omega)) (hx.txt gm ⟨zi_at, fun k hk => absurd hk (by simp)⟩)
  · rw [if_neg (fun y => c1 y.1), if_neg (fun y => c1 y.1), if_pos (by omega)] at h
    exact kX10_refusedText hx fun μ1 g1 x1 => h μ1 g1 x1
theorem kX11_straighten {F : zM → Prop} {ink : Int} (hM : zMs μ S) (hi : 0 ≤ ink ∧ ink ≤ 3) (h0 : T.length = 0) (h : ∀ μ', zsm (fun b _ => b = 154) μ μ' → zMs μ' (zcuS S T ink 9) → F μ') : qX11_straighten G ink μ F := by
  refine eX11_straighten fun J C => rX11_straighten_e C _ ?_
  refine znfor (N := 9) (P := fun n => ∀ μ1, zsm (fun b _ => b = 154) μ μ1 → zMs μ1 (zcuS S T ink n) → J 2 ([some (zR (some 153)), some (zI ink), some (zI (n : Int))], [], μ1, 0, 0)) ?_ ?_ μ (zsm.refl _ _) hM
  · intro μ1 g1 m1
    exact rX11_straighten_2 C _ _ ⟨by decide, fun _ => h μ1 g1 m1, fun z => absurd (by decide) z⟩
  · intro n hn ih μ1 g1 m1
    refine rX11_straighten_2 C _ _ ⟨by constructor <;> omega, fun z => absurd z (by omega), fun _ => ⟨by omega, ?_⟩⟩
    have := ih _ (g1.up _ rfl) (m1.up (324 + (9 * ink + n)) (zcuV T n))
    rw [show zcuV T (n : Int) = n by unfold zcuV; rw [if_pos h0], show 324 + (9 * ink + (n : Int)) = 324 + 9 * ink + n by omega] at this
    exact this
theorem kX11_curve {F : Int → zM → Prop} (hM : zMa μ S U kp K T R) (hv : zval S) (hT : zTv T) {ink : Int} (ii : zin ink) (h : ∀ μ', zsm zPW μ μ' → zMa μ' (zcuSS S T ink) (if zcuO T ink then zpush U S else U) kp K [] R → F (zcuA T ink) μ') : qX11_curve G ink μ F := by
  have g0 : zsm zPW μ (zup μ 153 5 0) := (zsm.refl _ _).up _ (by decide)
  have hM := hM.pub (zMthr μ) hM.2.2.2.2.1.thr
  have hl := hT.1
  have hwr := zcvW_r hT
  unfold zcuSS zcuA at h
  refine eX11_curve fun J C => rX11_curve_e C _ ?_
  generalize zup μ 153 5 0 = μa at *
  refine kX11_begin hM fun μ0 _ g1 hM p0 => ?_
  have g0 := g0.trans g1
  -- what follows when all was read
  have after : ∀ (x2 : Int) (μ1 : zM) (a w : Int), (x2 = 0 ∧ T.length ≠ 0 ∨ x2 = 1 ∧ T.length = 0) → zsm (fun b j => zPp b j ∨ b = 157) μ0 μ1 → zPs μ1 T 80 a w → 0 ≤ a → a ≤ 80 → zin w → (if w = -1 ∧ a < T.length then a else w) = zcvW T → (zcvW T = -1 → x2 = 0 → ∀ k : Nat, k < 9 → zi μ1 157 k = zat T k - 48) → J 87 ([some (zR (some 153)), some (zI ink), some (zI x2), none, none, none], [], μ1, 0, 0) := by
    intro x2 μ1 a w hx2 g2 p1 a0 a1 iw hwe hd
    have gP : zsm zPM μ0 μ1 := g2.mono (fun b j => by unfold zPM; omega)
    have hM1 := hM.pub gP (hM.2.2.2.2.1.sm g2 (by omega) (by omega))
    refine rX11_curve_87 C _ _ (kX11_wasRight p1 iw hT a0 (by omega) fun μ2 g3 p2 => ?_)
    have gQ : zsm zPM μ1 μ2 := g3.mono (fun b j => by unfold zPM; omega)
    have hM2 := hM1.pub gQ (hM1.2.2.2.2.1.sm g3 (by omega) (by omega))
    have gx : zsm zPW μ μ2 := (g0.trans (g2.mono (fun b j => by unfold zPW; omega))).trans (g3.mono (fun b j => by unfold zPW; omega))
    rw [hwe] at p2
    by_cases cw : zcvW T = -1
    · have hok : w = -1 ∧ ¬ a < (T.length : Int) := by
        by_cases z : w = -1 ∧ a < (T.length : Int)
        · rw [if_pos z] at hwe; omega
        · rw [if_neg z] at hwe; omega
      rw [if_pos hok]
      refine ⟨by decide, fun _ => kX11_isInk ii (fun c2 => ⟨by decide, fun _ => ?_, fun z => absurd z (by decide)⟩) (fun c2 => ⟨by decide, fun z => absurd rfl z, fun _ => ?_⟩), fun z => absurd z (by decide)⟩
      · have hO : zcuO T ink := ⟨by omega, c2⟩
        rw [if_pos hO, if_pos hO, if_neg (by omega), if_pos c2] at h
        refine kX11_change hM2.1 hM2.2.1 fun μ3 g4 u3 => ?_
        have m3 := hM2.1.sm g4 (by omega)
        have fin : ∀ μ4, zsm (fun b j => b = 154 ∨ b = 175 ∨ b = 177 ∨ (b = 153 ∧ j = 39)) μ2 μ4 → zMs μ4 (zcuS S T ink 9) → zMu μ4 (zpush U S) → F (zcuT T 9) μ4 := fun μ4 g5 m4 u4 => h μ4 (gx.trans (g5.mono (fun b j => by unfold zPW; omega))) (hM2.st g5 (fun b j z => z) m4 u4)
        have g4' : zsm (fun b j => b = 154 ∨ b = 175 ∨ b = 177 ∨ (b = 153 ∧ j = 39)) μ2 μ3 := g4.mono (fun b j => by omega)
        rcases hx2 with ⟨e, hne⟩ | ⟨e, hz⟩
        · subst e
          refine ⟨by decide, fun _ => ?_, fun z => absurd rfl z⟩
          have hdd := hd cw rfl
          refine znfor (N := 9) (P := fun n => ∀ μ4, zsm (fun b _ => b = 154) μ3 μ4 → zMs μ4 (zcuS S T ink n) → J 129 ([some (zR (some 153)), some (zI ink), some (zI 0), none, some (zI (zcuT T n)), some (zI (n : Int))], [], μ4, 0, 0)) ?_ ?_ μ3 (zsm.refl _ _) m3
          · intro μ4 g5 m4
            exact rX11_curve_129 C _ _ _ _ ⟨by decide, fun _ => fin μ4 (g4'.trans (g5.mono (fun b j => by omega))) m4 (u3.sm g5 (by omega) (by omega)), fun z => absurd (by decide) z⟩
          · intro n hn ih μ4 g5 m4
            have e157 : zi μ4 157 n = zat T n - 48 := by rw [g5.1 _ _ (by omega), g4.1 _ _ (by omega), g3.1 _ _ (by omega)]; exact hdd n hn
            have eV : zcuV T n = zat T n - 48 := by unfold zcuV; rw [if_neg hne]
            have hr := zcuV_r (T := T) (by omega) (n := (n : Int)) (by omega) (by omega)
            refine rX11_curve_129 C _ _ _ _ ⟨by constructor <;> omega, fun z => absurd z (by omega), fun _ => ⟨by decide, fun z => absurd rfl z, fun _ => ?_⟩⟩
            rw [zi_at, e157, ← eV]
            refine ⟨by omega, by omega, by constructor <;> omega, ?_⟩
            have := ih _ (g5.up _ rfl) (m4.up (324 + (9 * ink + n)) (zcuV T n))
            rw [show 324 + (9 * ink + (n : Int)) = 324 + 9 * ink + n by omega] at this
            exact this
        · subst e
          refine ⟨by decide, fun z => absurd z (by decide), fun _ => kX11_straighten m3 c2 hz fun μ4 g5 m4 => ?_⟩
          refine znfor (N := 9) (P := fun n => J 129 ([some (zR (some 153)), some (zI ink), some (zI 1), none, some (zI (zcuT T n)), some (zI (n : Int))], [], μ4, 0, 0)) ?_ ?_
          · exact rX11_curve_129 C _ _ _ _ ⟨by decide, fun _ => fin μ4 (g4'.trans (g5.mono (fun b j => by omega))) m4 (u3.sm g5 (by omega) (by omega)), fun z => absurd (by decide) z⟩
          · intro n hn ih
            have e : zi μ4 154 (324 + 9 * ink + n) = zcuV T n := by
              rw [m4 _ (by omega) (by omega), show 324 + 9 * ink + (n : Int) = 324 + (9 * ink + n) by omega]
              exact zcuS_i 9 (n : Int) (by omega) (by omega)
            have hr := zcuV_r (T := T) (by omega) (n := (n : Int)) (by omega) (by omega)
            refine rX11_curve_129 C _ _ _ _ ⟨by constructor <;> omega, fun z => absurd z (by omega), fun _ => ⟨by decide, fun _ => ?_, fun z => absurd z (by decide)⟩⟩
            rw [e]
            exact ⟨by omega, by constructor <;> omega, ih⟩
      · rw [if_neg (fun y => c2 y.2), if_neg (fun y => c2 y.2), if_neg (by omega), if_neg c2] at h
        exact h μ2 gx hM2
    · have hno : ¬ (w = -1 ∧ ¬ a < (T.length : Int)) := fun z => by
        rw [if_neg (by omega)] at hwe
        omega
      rw [if_neg hno]
      refine ⟨by decide, fun z => absurd rfl z, fun _ => ?_⟩
      rw [p2.2.2.2.1]
      rw [if_neg (fun y => by have := y.1; omega), if_neg (fun y => by have := y.1; omega), if_pos (by omega)] at h
      exact h μ2 gx hM2
  rw [p0.1]
  refine ⟨by constructor <;> omega, fun c0 => ?_, fun c0 => ?_⟩
  · have hne : T.length ≠ 0 := by omega
    refine znfor (N := 9) (P := fun v => ∀ (μ1 : zM) (least : Int), zsm (fun b j => zPp b j ∨ b = 157) μ0 μ1 → ((zPs μ1 T 80 v (-1) ∧ zcvF T v = -1 ∧ v ≤ T.length ∧ least = zcvl T v - 48 ∧ ∀ k : Nat, k < v → zi μ1 157 k = zat T k - 48) ∨ (∃ a, zPs μ1 T 80 a (zcvW T) ∧ 0 ≤ a ∧ a ≤ 80 ∧ zcvW T ≠ -1 ∧ least = 0)) → J 29 ([some (zR (some 153)), some (zI ink), some (zI 0), some (zI least), some (zI (v : Int)), none], [], μ1, 0, 0)) ?_ ?_ μ0 0 (zsm.refl _ _) (Or.inl ⟨p0, rfl, by omega, rfl, fun k hk => absurd hk (by omega)⟩)
    · intro μ1 least g2 hh
      refine rX11_curve_29 C _ _ _ _ ⟨by decide, fun _ => ?_, fun z => absurd (by decide) z⟩
      rcases hh with ⟨p1, hf, h9, hle, hd⟩ | ⟨a, p1, a0, a1, hwn, hle⟩
      · refine after 0 μ1 9 (-1) (Or.inl ⟨rfl, hne⟩) g2 p1 (by decide) (by decide) (by decide) ?_ (fun _ _ => hd)
        unfold zcvW
        by_cases c9 : 9 < T.length
        · have e2 := zcvF_b hf (Or.inl rfl) c9
          rw [e2, if_pos (by omega), if_pos (by decide)]; rfl
        · have e9 : T.length = 9 := by omega
          rw [e9, hf, if_neg (by decide), if_neg (by decide), if_neg (by decide)]
      · exact after 0 μ1 a _ (Or.inl ⟨rfl, hne⟩) g2 p1 a0 a1 (by constructor <;> omega) (by rw [if_neg (fun z => hwn z.1)]) (fun z => absurd z hwn)
    · intro v hv1 ih μ1 least g2 hh
      refine rX11_curve_29 C _ _ _ _ ⟨by constructor <;> omega, fun z => absurd z (by omega), fun _ => ⟨by decide, fun z => absurd rfl z, fun _ => ?_⟩⟩
      rcases hh with ⟨p1, hf, hvl, hle, hd⟩ | ⟨a, p1, a0, a1, hwn, hle⟩
      · have hr := zcvl_r hf
        rw [show (48 + least) % 65536 = zcvl T v by omega, show 9 - least = 57 - zcvl T v by omega]
        refine kX11_oneOf p1 (by decide) hT (by omega) (by omega) (by decide) (by omega) (by omega) (by omega) (fun z => absurd rfl z) (fun _ hb μ2 g3 p2 => ?_) (fun _ hb μ2 g3 p2 => ?_)
        · have hc : (v : Int) < T.length ∧ (v : Int) < 80 := by
            by_cases z : (v : Int) < T.length ∧ (v : Int) < 80
            · exact z
            · have e : zher T 80 v = -1 := by unfold zher; rw [if_neg z]
              omega
          have he : zher T 80 v = zat T v := by unfold zher; rw [if_pos hc]
          have hgood := zcvF_g hf (show ¬ (v = 9 ∨ zat T v < zcvl T v ∨ 56 < zat T v) by omega)
          have gm : zsm (fun b j => zPp b j ∨ b = 157) μ0 (zup μ2 157 v (least + (zat T v - zcvl T v))) := (g2.trans (g3.mono (fun b j => by omega))).up _ (Or.inr rfl)
          have p3 : zPs (zup μ2 157 v (least + (zat T v - zcvl T v))) T 80 ((v : Int) + 1) (-1) := p2.sm ((zsm.refl (fun b _ => b = 157) _).up _ rfl) (fun j hj => by omega) (fun j => by omega)
          refine ⟨by omega, kX11_fine p3 (by decide) (fun _ => ⟨by decide, fun z => absurd z (by decide), fun _ => ?_⟩) (fun z => absurd rfl z)⟩
          rw [zi_at]
          refine ih _ _ gm (Or.inl ⟨p3, hgood, by omega, ?_, fun k hk => ?_⟩)
          · have e3 : zcvl T (v + 1) = zat T v := by
              unfold zcvl
              rw [if_neg (by omega), show (((v + 1 : Nat) : Int) - 1) = v by omega]
            rw [e3]; omega
          · by_cases ck : k = v
            · subst ck; rw [zi_at]; omega
            · rw [zi_off (by omega), g3.1 _ _ (by omega)]; exact hd k (by omega)
        · have hw : zcvW T = v := by
            by_cases z : v < T.length
            · have he : zher T 80 v = zat T v := by unfold zher; rw [if_pos (by omega)]
              have e2 := zcvF_b hf (show v = 9 ∨ zat T v < zcvl T v ∨ 56 < zat T v by omega) z
              unfold zcvW
              rw [e2, if_pos (by omega)]
            · have ev : v = T.length := by omega
              unfold zcvW
              rw [← ev, hf, if_neg (by decide), if_pos (by omega)]
          have p3 : zPs (zup μ2 157 v (least + 0)) T 80 v v := p2.sm ((zsm.refl (fun b _ => b = 157) _).up _ rfl) (fun j hj => by omega) (fun j => by omega)
          have gm : zsm (fun b j => zPp b j ∨ b = 157) μ0 (zup μ2 157 v (least + 0)) := (g2.trans (g3.mono (fun b j => by omega))).up _ (Or.inr rfl)
          refine ⟨by omega, kX11_fine p3 (by constructor <;> omega) (fun z => absurd z (by omega)) (fun _ => ⟨by decide, fun _ => ?_, fun z => absurd rfl z⟩)⟩
          exact ih _ 0 gm (Or.inr ⟨v, by rw [hw]; exact p3, by omega, by omega, by omega, rfl⟩)
      · subst hle
        refine kX11_oneOf p1 (by constructor <;> omega) hT a0 (by omega) (by decide) (by decide) (by decide) (by decide) (fun _ => ?_) (fun z => absurd z hwn) (fun z => absurd z hwn)
        have p3 : zPs (zup μ1 157 v (0 + 0)) T 80 a (zcvW T) := p1.sm ((zsm.refl (fun b _ => b = 157) _).up _ rfl) (fun j hj => by omega) (fun j => by omega)
        have gm : zsm (fun b j => zPp b j ∨ b = 157) μ0 (zup μ1 157 v (0 + 0)) := g2.up _ (Or.inr rfl)
        refine ⟨by omega, kX11_fine p3 (by constructor <;> omega) (fun z => absurd z hwn) (fun _ => ⟨by decide, fun _ => ?_, fun z => absurd rfl z⟩)⟩
        exact ih _ 0 gm (Or.inr ⟨a, p3, a0, a1, hwn, rfl⟩)
  · have hz : T.length = 0 := by omega
    have hw : zcvW T = -1 := by unfold zcvW; rw [hz]; rfl
    refine rX11_curve_29 C _ _ _ _ ⟨by decide, fun z => absurd z (by decide), fun _ => ⟨by decide, fun _ => ?_, fun z => absurd z (by decide)⟩⟩
    exact after 1 μ0 0 (-1) (Or.inr ⟨rfl, hz⟩) (zsm.refl _ _) p0 (by decide) (by decide) (by decide) (by rw [hw, if_neg (by omega)]) (fun _ z => absurd z (by decide))
end
