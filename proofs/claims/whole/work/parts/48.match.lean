/-! what is matched -/
def zsX (μ : zM) (s : Nat) (S : Int → Int) : Prop := ∀ i, 0 ≤ i → i < 7 → zi μ (s + 3) i = S (704 + i)
def zsMM (μ : zM) (S : Int → Int) : Prop := ∀ i, 0 ≤ i → i < 7 → zi μ 154 (704 + i) = S (704 + i)
def zmop (μ : zM) (S : Int → Int) : Prop := zi μ 125 1 = zON S ∧ ∀ k : Nat, k < zON S → zi μ 126 k = zO S k
theorem zsX.sm {P : Nat → Int → Prop} {μ μ' : zM} {s : Nat} {S : Int → Int} (h : zsX μ s S) (hm : zsm P μ μ') (hP : ∀ j, ¬ P (s + 3) j) : zsX μ' s S := fun i h0 h1 => by rw [hm.1 _ _ (hP _)]; exact h i h0 h1
theorem zsMM.sm {P : Nat → Int → Prop} {μ μ' : zM} {S : Int → Int} (h : zsMM μ S) (hm : zsm P μ μ') (hP : ∀ j, ¬ P 154 j) : zsMM μ' S := fun i h0 h1 => by rw [hm.1 _ _ (hP _)]; exact h i h0 h1
theorem zmop.sm {P : Nat → Int → Prop} {μ μ' : zM} {S : Int → Int} (h : zmop μ S) (hm : zsm P μ μ') (hP : ∀ j, ¬ P 126 j) (hP1 : ¬ P 125 1) : zmop μ' S := ⟨by rw [hm.1 _ _ hP1]; exact h.1, fun k hk => by rw [hm.1 _ _ (hP _)]; exact h.2 k hk⟩
theorem zlaid.sm {P : Nat → Int → Prop} {μ μ' : zM} {S : Int → Int} (h : zlaid μ S) (hm : zsm P μ μ') (h1 : ∀ j, ¬ P 158 j) (h2 : ∀ j, ¬ P 159 j) (h3 : ∀ j, ¬ P 163 j) (h4 : ¬ P 153 18) : zlaid μ' S :=
  ⟨fun i q0 q1 => by rw [hm.1 _ _ (h1 _)]; exact h.1 i q0 q1, fun p b hp q0 q1 => by rw [hm.1 _ _ (h2 _)]; exact h.2.1 p b hp q0 q1, by rw [hm.1 _ _ h4]; exact h.2.2.1, fun k hk => by rw [hm.1 _ _ (h3 _)]; exact h.2.2.2 k hk⟩
theorem zcds.sm {P : Nat → Int → Prop} {μ μ' : zM} (h : zcds μ) (hm : zsm P μ μ') (hP : ∀ j, ¬ P 162 j) : zcds μ' := fun i h0 h1 => by rw [hm.1 _ _ (hP _)]; exact h i h0 h1
noncomputable def zdk (S : Int → Int) (r q b : Int) (k : Nat) : Int := zdi S (zO S k) r q b
noncomputable def zlsn (S : Int → Int) (r q b : Int) : Nat → Int
  | 0 => 2147483647
  | n + 1 => min (zlsn S r q b n) (zdk S r q b n)
noncomputable def zlst (S : Int → Int) (r q b : Int) : Int := zlsn S r q b (zON S)
abbrev zfit (S : Int → Int) (r q b : Int) (k : Nat) : Prop := zdk S r q b k ≤ zlst S r q b + S 706
noncomputable def zfts (S : Int → Int) (r q b : Int) : Nat → Int
  | 0 => 0
  | n + 1 => if zfit S r q b n then zfts S r q b n + 1 else zfts S r q b n
noncomputable def zlow (S : Int → Int) (r q b : Int) : Nat → Int
  | 0 => 8
  | n + 1 => if zfit S r q b n then min (zlow S r q b n) (zam (zO S n) 3) else zlow S r q b n
noncomputable def zhigh (S : Int → Int) (r q b : Int) : Nat → Int
  | 0 => 0
  | n + 1 => if zfit S r q b n then max (zhigh S r q b n) (zam (zO S n) 3) else zhigh S r q b n
noncomputable def zwsh (S : Int → Int) (r q b : Int) : Int := zlow S r q b (zON S) + (zhigh S r q b (zON S) - zlow S r q b (zON S)) * S 705 / 4
abbrev zab (x : Int) : Int := max x (-x)
noncomputable def zrnk (S : Int → Int) (r q b : Int) (k : Nat) : Int := ((zab (zam (zO S k) 3 - zwsh S r q b) * 10 + zam (zO S k) 3) * 10000000 + zdk S r q b k) * 100 + ztot (zO S k)
/-- the place of the best among the first n, one more; 0 if there is none -/
noncomputable def zbst (S : Int → Int) (r q b : Int) : Nat → Nat
  | 0 => 0
  | n + 1 => if zfit S r q b n ∧ (zbst S r q b n = 0 ∨ zrnk S r q b n < zrnk S r q b (zbst S r q b n - 1)) then n + 1 else zbst S r q b n
noncomputable def zmk (S : Int → Int) (r q b : Int) : Nat := zbst S r q b (zON S) - 1
noncomputable def zmat (S : Int → Int) (r q b : Int) : Int := zO S (zmk S r q b)
theorem zdk_r {S : Int → Int} (hs : zSet S) (hr : zLr S) {r q b : Int} (h1 : zw4 r) (h2 : zw4 q) (h3 : zw4 b) (k : Nat) : 0 ≤ zdk S r q b k ∧ zdk S r q b k ≤ 4320000 := zdi_r hs hr h1 h2 h3
theorem zlsn_r {S : Int → Int} (hs : zSet S) (hr : zLr S) {r q b : Int} (h1 : zw4 r) (h2 : zw4 q) (h3 : zw4 b) : ∀ n : Nat, 0 ≤ zlsn S r q b n ∧ (n = 0 ∧ zlsn S r q b n = 2147483647 ∨ 0 < n ∧ zlsn S r q b n ≤ 4320000 ∧ ∃ k, k < n ∧ zdk S r q b k = zlsn S r q b n)
  | 0 => ⟨by unfold zlsn; decide, Or.inl ⟨rfl, rfl⟩⟩
  | n + 1 => by
    have ih := zlsn_r hs hr h1 h2 h3 n
    have hd := zdk_r hs hr h1 h2 h3 n
    have e : zlsn S r q b (n + 1) = min (zlsn S r q b n) (zdk S r q b n) := rfl
    refine ⟨by omega, Or.inr ⟨by omega, by omega, ?_⟩⟩
    by_cases c : zdk S r q b n ≤ zlsn S r q b n
    · exact ⟨n, by omega, by omega⟩
    · obtain ⟨i1, i2⟩ := ih
      rcases i2 with ⟨i2, i3⟩ | ⟨i2, i3, k, hk, ek⟩
      · omega
      · exact ⟨k, by omega, by omega⟩
theorem zlst_r {S : Int → Int} (hs : zSet S) (hr : zLr S) {r q b : Int} (h1 : zw4 r) (h2 : zw4 q) (h3 : zw4 b) : 0 ≤ zlst S r q b ∧ zlst S r q b ≤ 4320000 ∧ ∃ k, k < zON S ∧ zdk S r q b k = zlst S r q b := by
  have h := zlsn_r hs hr h1 h2 h3 (zON S)
  have hp := zON_pos hs
  unfold zlst
  rcases h with ⟨i1, ⟨i2, i3⟩ | ⟨i2, i3, i4⟩⟩
  · omega
  · exact ⟨i1, i3, i4⟩
theorem zfts_r (S : Int → Int) (r q b : Int) : ∀ n : Nat, 0 ≤ zfts S r q b n ∧ zfts S r q b n ≤ n
  | 0 => by simp [zfts]
  | n + 1 => by
    have := zfts_r S r q b n
    unfold zfts
    split <;> omega
theorem zlow_r (S : Int → Int) (r q b : Int) : ∀ n : Nat, (0 ≤ zlow S r q b n ∧ zlow S r q b n ≤ 8) ∧ (0 ≤ zhigh S r q b n ∧ zhigh S r q b n ≤ 8) ∧ ((∃ k, k < n ∧ zfit S r q b k) → zlow S r q b n ≤ zhigh S r q b n) ∧ (zlow S r q b n ≤ zhigh S r q b n ∨ (zlow S r q b n = 8 ∧ zhigh S r q b n = 0))
  | 0 => ⟨by simp [zlow], by simp [zhigh], fun ⟨k, hk, _⟩ => absurd hk (by omega), Or.inr ⟨rfl, rfl⟩⟩
  | n + 1 => by
    obtain ⟨h1, h2, h3, h4⟩ := zlow_r S r q b n
    have ha := zam_r (zO S n) 3
    unfold zlow zhigh
    by_cases c : zfit S r q b n
    · rw [if_pos c, if_pos c]
      exact ⟨by omega, by omega, fun _ => by omega, by omega⟩
    · rw [if_neg c, if_neg c]
      refine ⟨h1, h2, fun ⟨k, hk, hf⟩ => h3 ⟨k, ?_, hf⟩, h4⟩
      by_cases e : k = n
      · subst e; exact absurd hf c
      · omega
theorem zfit_ex {S : Int → Int} (hs : zSet S) (hr : zLr S) {r q b : Int} (h1 : zw4 r) (h2 : zw4 q) (h3 : zw4 b) : ∃ k, k < zON S ∧ zfit S r q b k := by
  obtain ⟨-, -, k, hk, e⟩ := zlst_r hs hr h1 h2 h3
  have := hs.2.2.1
  exact ⟨k, hk, by unfold zfit; omega⟩
theorem zmul4 {a b : Int} (h1 : 0 ≤ a) (h2 : a ≤ 8) (h3 : 0 ≤ b) (h4 : b ≤ 4) : 0 ≤ a * b ∧ a * b ≤ 4 * a := by
  have hb : b = 0 ∨ b = 1 ∨ b = 2 ∨ b = 3 ∨ b = 4 := by omega
  rcases hb with rfl | rfl | rfl | rfl | rfl <;> omega
theorem zwsh_r {S : Int → Int} (hs : zSet S) (hr : zLr S) {r q b : Int} (h1 : zw4 r) (h2 : zw4 q) (h3 : zw4 b) : (0 ≤ (zhigh S r q b (zON S) - zlow S r q b (zON S)) * S 705 ∧ (zhigh S r q b (zON S) - zlow S r q b (zON S)) * S 705 ≤ 32) ∧ 0 ≤ zwsh S r q b ∧ zwsh S r q b ≤ 8 := by
  obtain ⟨l1, l2, l3, -⟩ := zlow_r S r q b (zON S)
  have l3 := l3 (zfit_ex hs hr h1 h2 h3)
  have hg := hs.2.1
  have hm := zmul4 (a := zhigh S r q b (zON S) - zlow S r q b (zON S)) (b := S 705) (by omega) (by omega) hg.1 hg.2
  unfold zwsh
  omega
theorem zbst_r (S : Int → Int) (r q b : Int) : ∀ n : Nat, zbst S r q b n ≤ n ∧ ((∃ k, k < n ∧ zfit S r q b k) → 0 < zbst S r q b n) ∧ (0 < zbst S r q b n → zfit S r q b (zbst S r q b n - 1))
  | 0 => ⟨Nat.le_refl _, fun ⟨k, hk, _⟩ => absurd hk (by omega), fun h => absurd h (by simp [zbst])⟩
  | n + 1 => by
    obtain ⟨h1, h2, h3⟩ := zbst_r S r q b n
    unfold zbst
    by_cases c : zfit S r q b n ∧ (zbst S r q b n = 0 ∨ zrnk S r q b n < zrnk S r q b (zbst S r q b n - 1))
    · rw [if_pos c]
      exact ⟨Nat.le_refl _, fun _ => by omega, fun _ => c.1⟩
    · rw [if_neg c]
      refine ⟨by omega, fun ⟨k, hk, hf⟩ => ?_, h3⟩
      by_cases e : k = n
      · subst e
        by_cases z : zbst S r q b k = 0
        · exact absurd ⟨hf, Or.inl z⟩ c
        · omega
      · exact h2 ⟨k, by omega, hf⟩
theorem zmk_lt {S : Int → Int} (hs : zSet S) (hr : zLr S) {r q b : Int} (h1 : zw4 r) (h2 : zw4 q) (h3 : zw4 b) : 0 < zbst S r q b (zON S) ∧ zmk S r q b < zON S := by
  obtain ⟨k1, k2, -⟩ := zbst_r S r q b (zON S)
  have := k2 (zfit_ex hs hr h1 h2 h3)
  exact ⟨this, by unfold zmk; omega⟩
theorem zmat_pl {S : Int → Int} (hs : zSet S) (hr : zLr S) {r q b : Int} (h1 : zw4 r) (h2 : zw4 q) (h3 : zw4 b) : zPl (zmat S r q b) := (zO_mem (zmk_lt hs hr h1 h2 h3).2).1
theorem zrnk_r {S : Int → Int} (hs : zSet S) (hr : zLr S) {r q b : Int} (h1 : zw4 r) (h2 : zw4 q) (h3 : zw4 b) (k : Nat) : 0 ≤ zrnk S r q b k ∧ zrnk S r q b k < 1000000000000 := by
  have hd := zdk_r hs hr h1 h2 h3 k
  have hw := (zwsh_r hs hr h1 h2 h3).2
  have ha := zam_r (zO S k) 3
  have ht := ztot_r (zO S k)
  unfold zrnk zab
  omega
section
variable {G : zG} {μ : zM} {S : Int → Int}
theorem kX0_number {F : Int → zM → Prop} {a : Nat} (ha : zIsCh a) (hc : zchis μ a S) {p b : Int} (hp : zPl p) (hb : 0 ≤ b ∧ b < 3) (h : F (zC S p b) μ) : qX0_number G a p b μ F := by
  refine eX0_number fun J C => rX0_number_e C ha _ _ ⟨by obtain ⟨q1, q2⟩ := hp; constructor <;> omega, ?_⟩
  rw [hc.2 p b hp hb.1 hb.2]; exact h
theorem kX7_weighed {F : Int → zM → Prop} {s : Nat} (hs : zIsSt s) (hX : zsX μ s S) {x y z : Int} (h : F (zdw S x y z) μ) : qX7_weighed G s x y z μ F := by
  refine eX7_weighed fun J C => rX7_weighed_e C hs _ _ _ ?_
  rw [hX 4 (by decide) (by decide), hX 5 (by decide) (by decide), hX 6 (by decide) (by decide)]
  exact h
theorem kX0_distanceTo {F : Int → zM → Prop} {a s : Nat} (ha : zIsCh a) (hs : zIsSt s) (hc : zchis μ a S) (hX : zsX μ s S) {p r q b : Int} (hp : zPl p) (h : F (zdi S p r q b) μ) : qX0_distanceTo G a s p r q b μ F :=
  eX0_distanceTo fun J C => rX0_distanceTo_e C ha hs _ _ _ _ (kX0_number ha hc hp (by decide) (kX0_number ha hc hp (by decide) (kX0_number ha hc hp (by decide) (kX7_weighed hs hX h))))
theorem kX11_apart {F : Int → zM → Prop} {a n : Nat} (ha : zIsAr a n) (hn : n < 2147483648) (hM : zsMM μ S) {x r q b : Int} (hx : 0 ≤ x) (hx2 : x + 2 < n) (h : F (zdw S (zi μ a x - r) (zi μ a (x + 1) - q) (zi μ a (x + 2) - b)) μ) : qX11_apart G r q b a x μ F := by
  refine eX11_apart fun J C => rX11_apart_e C _ _ _ ha hn _ ⟨by omega, by omega, by omega, ?_⟩
  have e4 : zi μ 154 708 = S 708 := hM 4 (by decide) (by decide)
  have e5 : zi μ 154 709 = S 709 := hM 5 (by decide) (by decide)
  have e6 : zi μ 154 710 = S 710 := hM 6 (by decide) (by decide)
  rw [e4, e5, e6]
  exact h
theorem kX11_apartOf {F : Int → zM → Prop} (hM : zsMM μ S) (hC : ∀ p b, zPl p → 0 ≤ b → b < 3 → zi μ 159 (3 * p + b) = zC S p b) {p r q b : Int} (hp : zPl p) (h : F (zdi S p r q b) μ) : qX11_apartOf G p r q b μ F := by
  refine eX11_apartOf fun J C => rX11_apartOf_e C _ _ _ _ (kX11_apart z159 (by decide) hM (by have := hp.1; omega) (by have := hp.2; omega) ?_)
  have e0 : zi μ 159 (3 * p) = zC S p 0 := by rw [← hC p 0 hp (by decide) (by decide), Int.add_zero]
  rw [e0, hC p 1 hp (by decide) (by decide), hC p 2 hp (by decide) (by decide)]
  exact h
theorem kX4_leastDistance {F : Int → zM → Prop} {a s : Nat} (ha : zIsCh a) (hs : zIsSt s) (ha2 : a + 5 < 127 ∨ 127 < a) (hs2 : s + 6 < 127 ∨ 127 < s) (hc : zchis μ a S) (hX : zsX μ s S) (hO : zmop μ S) (hv : zSet S) (hr : zLr S) {r q b : Int} (h1 : zw4 r) (h2 : zw4 q) (h3 : zw4 b) (h : ∀ μ', zsm (fun b _ => b = 127) μ μ' → (∀ k : Nat, k < zON S → zi μ' 127 k = zdk S r q b k) → F (zlst S r q b) μ') : qX4_leastDistance G s a r q b μ F := by
  refine eX4_leastDistance fun J C => rX4_leastDistance_e C hs ha _ _ _ ?_
  have hN := zON_le S
  refine znfor (N := zON S) (P := fun n => ∀ μ', zsm (fun b _ => b = 127) μ μ' → (∀ k : Nat, k < n → zi μ' 127 k = zdk S r q b k) → J 7 ([some (zR (some 125)), some (zR (some s)), some (zR (some a)), some (zI r), some (zI q), some (zI b), some (zI (zlsn S r q b n)), some (zI (n : Int))], [], μ', 0, 0)) ?_ ?_ μ (zsm.refl _ _) (fun k hk => absurd hk (by omega))
  · intro μ1 g1 g2
    refine rX4_leastDistance_7 C hs ha _ _ _ _ _ ?_
    rw [g1.1 125 1 (by omega), hO.1]
    exact ⟨by constructor <;> omega, by constructor <;> omega, fun _ => h μ1 g1 g2, fun c => absurd (Int.le_refl _) c⟩
  · intro n hn hj μ1 g1 g2
    have hd := zdk_r hv hr h1 h2 h3 n
    have hl := zlsn_r hv hr h1 h2 h3 n
    have hO1 := hO.sm g1 (by omega) (by omega)
    refine rX4_leastDistance_7 C hs ha _ _ _ _ _ ?_
    rw [hO1.1, hO1.2 n hn]
    refine ⟨by constructor <;> omega, by constructor <;> omega, fun c => absurd c (by omega), fun _ => ⟨by omega, kX0_distanceTo ha hs (hc.sm g1 (by omega)) (hX.sm g1 (by omega)) (zO_mem hn).1 ?_⟩⟩
    rw [zi_at]
    refine ⟨by constructor <;> omega, ⟨by unfold zdk at hd; omega, by unfold zdk at hd; omega⟩, hj _ (g1.up _ rfl) (fun k hk => ?_)⟩
    by_cases e : k = n
    · subst e; exact zi_at
    · rw [zi_off (by omega)]; exact g2 k (by omega)
theorem kX11_leastOf {F : Int → zM → Prop} (hM : zsMM μ S) (hl : zlaid μ S) (hv : zSet S) (hr : zLr S) {r q b : Int} (h1 : zw4 r) (h2 : zw4 q) (h3 : zw4 b) (h : ∀ μ', zsm (fun b _ => b = 165) μ μ' → (∀ k : Nat, k < zON S → zi μ' 165 k = zdk S r q b k) → F (zlst S r q b) μ') : qX11_leastOf G r q b μ F := by
  refine eX11_leastOf fun J C => rX11_leastOf_e C _ _ _ ?_
  have hN := zON_le S
  have hp := zON_pos hv
  refine znfor (N := zON S) (P := fun n => ∀ μ', zsm (fun b _ => b = 165) μ μ' → (∀ k : Nat, k < n → zi μ' 165 k = zdk S r q b k) → J 6 ([some (zR (some 153)), some (zI r), some (zI q), some (zI b), some (zI (if n = 0 then -1 else zlsn S r q b n)), some (zI (n : Int))], [], μ', 0, 0)) ?_ ?_ μ (zsm.refl _ _) (fun k hk => absurd hk (by omega))
  · intro μ1 g1 g2
    refine rX11_leastOf_6 C _ _ _ _ _ ?_
    rw [g1.1 153 18 (by omega), hl.2.2.1, if_neg (by omega)]
    exact ⟨by constructor <;> omega, by constructor <;> omega, fun _ => h μ1 g1 g2, fun c => absurd (Int.le_refl _) c⟩
  · intro n hn hj μ1 g1 g2
    have hd := zdk_r hv hr h1 h2 h3 n
    have hl' := zlsn_r hv hr h1 h2 h3 n
    have hl1 := hl.sm g1 (by omega) (by omega) (by omega) (by omega)
    have hnx : zlsn S r q b (n + 1) = min (zlsn S r q b n) (zdk S r q b n) := rfl
    refine rX11_leastOf_6 C _ _ _ _ _ ?_
    rw [hl1.2.2.1, hl1.2.2.2 n hn]
    refine ⟨by constructor <;> omega, by constructor <;> omega, fun c => absurd c (by omega), fun _ => ⟨by omega, kX11_apartOf (hM.sm g1 (by omega)) hl1.2.1 (zO_mem hn).1 ?_⟩⟩
    rw [zi_at]
    have hj := hj (zup μ1 165 n (zdk S r q b n)) (g1.up _ rfl) (fun k hk => by
      by_cases e : k = n
      · subst e; exact zi_at
      · rw [zi_off (by omega)]; exact g2 k (by omega))
    rw [if_neg (by omega), hnx] at hj
    refine ⟨by split <;> constructor <;> omega, fun c => ?_, fun c => ⟨⟨by unfold zdk at hd; omega, by unfold zdk at hd; omega⟩, fun c2 => ?_, fun c2 => ?_⟩⟩
    · have e0 : n = 0 := by
        by_cases e : n = 0
        · exact e
        · rw [if_neg e] at c; omega
      rw [show min (zlsn S r q b n) (zdk S r q b n) = zdk S r q b n by omega] at hj
      exact hj
    · have e0 : ¬ n = 0 := fun e => c (if_pos e)
      rw [if_neg e0] at c2 ⊢
      change _ ≤ zdk S r q b n at c2
      rw [show min (zlsn S r q b n) (zdk S r q b n) = zlsn S r q b n by omega] at hj
      exact hj
    · have e0 : ¬ n = 0 := fun e => c (if_pos e)
      rw [if_neg e0] at c2
      change ¬ _ ≤ zdk S r q b n at c2
      rw [show min (zlsn S r q b n) (zdk S r q b n) = zdk S r q b n by omega] at hj
      exact hj
end
