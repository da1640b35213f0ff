/-! texts that are made of forms without a bracket -/
/-- where the n-th piece begins -/
def zpos (tl : Int) (T : List Int) : Nat → Nat
  | 0 => 0
  | n + 1 => zpos tl T n + (zstx (zfor3 tl (zat T (zpos tl T n)))).length
/-- a piece that keeps a form -/
def zfpc (T : List Int) (t a : Nat) : Prop := 0 < (zstx t).length ∧ a + (zstx t).length ≤ T.length ∧ ∀ k : Nat, k < (zstx t).length → zcs (zat T ((a : Int) + k)) (zfch t k) 0
/-- n pieces are the text -/
def zpcs (tl : Int) (T : List Int) (n : Nat) : Prop := zpos tl T n = T.length ∧ ∀ k : Nat, k < n → zfpc T (zfor3 tl (zat T (zpos tl T k))) (zpos tl T k)
theorem zpos_s (tl : Int) (T : List Int) (n : Nat) : zpos tl T (n + 1) = zpos tl T n + (zstx (zfor3 tl (zat T (zpos tl T n)))).length := rfl
theorem zpcs_m {tl : Int} {T : List Int} {n : Nat} (h : zpcs tl T n) : ∀ (d k : Nat), k + d = n → (zpos tl T k + d ≤ T.length ∧ (0 < d → zpos tl T k < T.length))
  | 0, k, hk => by have := h.1; rw [show n = k by omega] at this; exact ⟨by omega, fun z => absurd z (by omega)⟩
  | d + 1, k, hk => by
    have i := zpcs_m h d (k + 1) (by omega)
    have f := h.2 k (by omega)
    rw [zpos_s] at i
    exact ⟨by have := f.1; omega, fun _ => by have := f.1; have := f.2.1; omega⟩
theorem zpcs_lt {tl : Int} {T : List Int} {n k : Nat} (h : zpcs tl T n) (hk : k ≤ n) : (zpos tl T k < T.length ↔ k < n) ∧ zpos tl T k ≤ T.length := by
  have i := zpcs_m h (n - k) k (by omega)
  refine ⟨⟨fun z => ?_, fun z => i.2 (by omega)⟩, by omega⟩
  by_cases c : k = n
  · rw [c, h.1] at z; omega
  · omega
theorem zpcs_n {tl : Int} {T : List Int} {n : Nat} (h : zpcs tl T n) : n ≤ T.length := by
  have i := zpcs_m h n 0 (by omega)
  rw [zpos] at i
  omega
/-- what a form bears, when nothing is wrong -/
theorem zform_r {T : List Int} {tl most : Int} (hm : 0 ≤ most) {t : Nat} {d : Int} : ∀ (n a j : Nat), j + n ≤ (zstx t).length → (∀ k : Nat, j ≤ k → k < j + n → zfch t k ≠ 40) → a ≤ zN2 T most → zwro T tl most (zN2 T most - a) a t j d < 0 → a + n ≤ zN2 T most ∧ (∀ k : Nat, k < n → zcs (zat T ((a : Int) + k)) (zfch t (j + k)) d) ∧ zwro T tl most (zN2 T most - (a + n)) (a + n) t (j + n) d < 0
  | 0, a, j, hj, hb, ha, hw => ⟨by omega, fun k hk => absurd hk (by omega), hw⟩
  | n + 1, a, j, hj, hb, ha, hw => by
    have hj2 : j < (zstx t).length := by omega
    by_cases e : a = zN2 T most
    · rw [e, zwro_e hm (Or.inl hj2)] at hw; omega
    · by_cases c : zcs (zat T a) (zfch t j) d
      · rw [zwro_m (by omega) hj2 c, if_neg (hb j (by omega) (by omega))] at hw
        obtain ⟨r1, r2, r3⟩ := zform_r hm n (a + 1) (j + 1) (by omega) (fun k k0 k1 => hb k (by omega) (by omega)) (by omega) hw
        refine ⟨by omega, fun k hk => ?_, by rw [show a + (n + 1) = a + 1 + n by omega, show j + (n + 1) = j + 1 + n by omega]; exact r3⟩
        cases k with
        | zero => exact c
        | succ k =>
          have := r2 k (by omega)
          rw [show (a : Int) + ((k + 1 : Nat) : Int) = ((a + 1 : Nat) : Int) + (k : Int) by omega, show j + (k + 1) = j + 1 + k by omega]
          exact this
      · rw [zwro_b (by omega) hj2 c] at hw; omega
theorem zfree : ∀ t : Fin 20, (t.val = 0 ∨ t.val = 1 ∨ 12 ≤ t.val) → ∀ k : Fin 11, zfch t.val k.val ≠ 40 := by decide +kernel
theorem zfree_f {tl : Int} (h : tl = 0 ∨ tl = 2) (c : Int) : zfor3 tl c = 0 ∨ zfor3 tl c = 1 ∨ 12 ≤ zfor3 tl c := by
  unfold zfor3 zaf
  rcases h with h | h
  · rw [if_pos h]; omega
  · rw [if_neg (by omega), if_neg (by omega)]
    (repeat' split) <;> omega
theorem zfree_r {tl : Int} (h : tl = 0 ∨ tl = 2) (c : Int) (k : Nat) (hk : k < (zstx (zfor3 tl c)).length) : zfch (zfor3 tl c) k ≠ 40 := by
  have hl := zstx_l (zfor3_r tl c)
  exact zfree ⟨zfor3 tl c, zfor3_r tl c⟩ (zfree_f h c) ⟨k, by omega⟩
/-- a text in which nothing is wrong is made of pieces -/
theorem zforms {T : List Int} {tl most : Int} (h02 : tl = 0 ∨ tl = 2) (hm : 0 ≤ most) (hw : zwro T tl most (zN2 T most) 0 0 0 0 < 0) : ∃ n, zpcs tl T n := by
  have key : ∀ (f i t : Nat), zN2 T most - zpos tl T i ≤ f → zpos tl T i ≤ zN2 T most → zwro T tl most (zN2 T most - zpos tl T i) (zpos tl T i) t (zstx t).length 0 < 0 → (∀ k : Nat, k < i → zfpc T (zfor3 tl (zat T (zpos tl T k))) (zpos tl T k)) → ∃ n, zpcs tl T n := by
    intro f
    induction f with
    | zero =>
      intro i t hf hp hw hk
      rw [show zN2 T most - zpos tl T i = 0 by omega, zwro] at hw
      by_cases c : most < T.length
      · rw [if_pos c] at hw; omega
      · have hs := zN2_s T hm
        exact ⟨i, by omega, hk⟩
    | succ f ih =>
      intro i t hf hp hw hk
      by_cases e : zpos tl T i = zN2 T most
      · exact ih i t (by omega) hp hw hk
      · obtain ⟨n, hn⟩ : ∃ n, zN2 T most - zpos tl T i = n + 1 := ⟨zN2 T most - zpos tl T i - 1, by omega⟩
        have hl0 : 0 < (zstx (zfor3 tl (zat T (zpos tl T i)))).length := by
          by_cases z : 0 < (zstx (zfor3 tl (zat T (zpos tl T i)))).length
          · exact z
          · rw [hn, zwro, if_neg (by omega), if_pos rfl, if_pos (Or.inl (by omega))] at hw; omega
        rw [zwro_s (by omega) (by omega) hl0 _ rfl] at hw
        obtain ⟨r1, r2, r3⟩ := zform_r hm (zstx (zfor3 tl (zat T (zpos tl T i)))).length (zpos tl T i) 0 (by omega) (fun k k0 k1 => zfree_r h02 _ k (by omega)) hp hw
        rw [Nat.zero_add] at r3
        have hs := zN2_s T hm
        refine ih (i + 1) _ (by rw [zpos_s]; omega) (by rw [zpos_s]; omega) (by rw [zpos_s]; exact r3) (fun k hk2 => ?_)
        by_cases c : k = i
        · subst c; exact ⟨hl0, by omega, fun k hk3 => by have := r2 k hk3; rw [Nat.zero_add] at this; exact this⟩
        · exact hk k (by omega)
  exact key _ 0 0 (Nat.le_refl _) (Nat.zero_le _) (by rw [zpos, Nat.sub_zero]; exact hw) (fun k hk => absurd hk (by omega))
