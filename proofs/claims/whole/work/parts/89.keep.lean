/-! the reference's reading keeps the class's answer -/
abbrev zN2 (T : List Int) (most : Int) : Nat := min T.length most.toNat
theorem zN2_s (T : List Int) {most : Int} (hm : 0 ≤ most) : (zN2 T most : Int) ≤ T.length ∧ (zN2 T most : Int) ≤ most ∧ ((zN2 T most : Int) = T.length ∨ (zN2 T most : Int) = most) := by
  unfold zN2
  omega
theorem zwro_m {T : List Int} {tl most : Int} {a t j : Nat} {d : Int} (ha : a < zN2 T most) (hj : j < (zstx t).length) (hc : zcs (zat T a) (zfch t j) d) : zwro T tl most (zN2 T most - a) a t j d = zwro T tl most (zN2 T most - (a + 1)) (a + 1) t (j + 1) (if zfch t j = 40 then d + 1 else d) := by
  obtain ⟨n, hn⟩ : ∃ n, zN2 T most - a = n + 1 := ⟨zN2 T most - a - 1, by omega⟩
  rw [hn, show zN2 T most - (a + 1) = n by omega, zwro, if_neg (by omega), if_neg (by omega), if_neg (fun z => z hc)]
theorem zwro_b {T : List Int} {tl most : Int} {a t j : Nat} {d : Int} (ha : a < zN2 T most) (hj : j < (zstx t).length) (hc : ¬ zcs (zat T a) (zfch t j) d) : zwro T tl most (zN2 T most - a) a t j d = a := by
  obtain ⟨n, hn⟩ : ∃ n, zN2 T most - a = n + 1 := ⟨zN2 T most - a - 1, by omega⟩
  rw [hn, zwro, if_neg (by omega), if_neg (by omega), if_pos hc]
theorem zwro_e {T : List Int} {tl most : Int} {t j : Nat} {d : Int} (hm : 0 ≤ most) (hj : j < (zstx t).length ∨ 0 < d) : zwro T tl most (zN2 T most - zN2 T most) (zN2 T most) t j d = zN2 T most := by
  have hs := zN2_s T hm
  rw [Nat.sub_self, zwro]
  by_cases c : most < T.length
  · rw [if_pos c]; omega
  · rw [if_neg c, if_pos hj]; omega
theorem zN2_le {T : List Int} {most : Int} (hT : zTv T) : zN2 T most ≤ 80 ∧ zN2 T most ≤ T.length := by
  have := hT.1
  unfold zN2
  omega
theorem zher_in {T : List Int} {most : Int} {a : Nat} (hm : 0 ≤ most) : (a < zN2 T most → zher T most a = zat T a) ∧ (¬ a < zN2 T most → zher T most a = -1) := by
  have hs := zN2_s T hm
  unfold zher
  exact ⟨fun z => if_pos (by omega), fun z => if_neg (by omega)⟩
/-- something was wrong, at A -/
def zBad (μ : zM) (T : List Int) (most A : Int) : Prop := ∃ a : Nat, a ≤ 80 ∧ zPs μ T most a A ∧ 0 ≤ A ∧ A ≤ 80
theorem zBad.sm {P : Nat → Int → Prop} {μ μ' : zM} {T : List Int} {most A : Int} (h : zBad μ T most A) (hm : zsm P μ μ') (hP : ∀ j, j = 6 ∨ j = 7 ∨ j = 8 ∨ j = 9 → ¬ P 153 j) (h2 : ∀ j, ¬ P 155 j) : zBad μ' T most A := by
  obtain ⟨a, h1, h3, h4⟩ := h
  exact ⟨a, h1, h3.sm hm hP h2, h4⟩
section
variable {G : zG} {μ : zM} {T : List Int} {tl most A d : Int} {a t j : Nat}
theorem kX11_fineB {F : Int → zM → Prop} (hb : zBad μ T most A) (h : F 0 μ) : qX11_fine G μ F := by
  obtain ⟨a, h1, h2, h3, h4⟩ := hb
  exact kX11_fine h2 (by constructor <;> omega) (fun z => absurd z (by omega)) (fun _ => h)
theorem kX11_oneOfB {F : Int → zM → Prop} (hb : zBad μ T most A) (hT : zTv T) (ht : zin most) {f m : Int} (hf : 0 ≤ f) (hm : 1 ≤ m) (hfm : f + m ≤ 128) (h : F 0 μ) : qX11_oneOf G f m μ F := by
  obtain ⟨a, h1, h2, h3, h4⟩ := hb
  exact kX11_oneOf h2 (by constructor <;> omega) hT (by omega) (by omega) ht hf hm hfm (fun _ => h) (fun z => absurd z (by omega)) (fun z => absurd z (by omega))
theorem kX11_readInkB {F : Int → zM → Prop} (hb : zBad μ T most A) (h : F 0 μ) : qX11_readInk G μ F :=
  eX11_readInk fun J C => rX11_readInk_e C (kX11_fineB hb ⟨by decide, fun z => absurd rfl z, fun _ => h⟩)
theorem kX11_needB {F : zM → Prop} (hb : zBad μ T most A) (hT : zTv T) (ht : zin most) {f : Int} (hf : 0 ≤ f) (hfm : f ≤ 127) (h : F μ) : qX11_need G f μ F :=
  eX11_need fun J C => rX11_need_e C _ (kX11_oneOfB hb hT ht hf (by decide) (by omega) h)
/-- a digit up to some -/
theorem kX11_digA {F : Int → zM → Prop} (hp : zPs μ T most a (-1)) (hT : zTv T) (hm : 0 ≤ most ∧ most ≤ 80) (ha : a ≤ zN2 T most) (hA : zwro T tl most (zN2 T most - a) a t j d = A) (hj : j < (zstx t).length) {m : Int} (hm1 : 1 ≤ m ∧ m ≤ 10) (hf : zfch t j = 47 + m) (hok : a < zN2 T most → 48 ≤ zat T a → zat T a < 48 + m → ∀ μ', zsm zPp μ μ' → zPs μ' T most ((a : Int) + 1) (-1) → zwro T tl most (zN2 T most - (a + 1)) (a + 1) t (j + 1) d = A → F (zat T a - 48) μ') (hbad : ∀ μ', zsm zPp μ μ' → zBad μ' T most A → F 0 μ') : qX11_oneOf G 48 m μ F := by
  have hN := zN2_le (most := most) hT
  have hs := zN2_s T hm.1
  obtain ⟨e1, e2⟩ := zher_in (T := T) (a := a) hm.1
  have hcs : zcs (zat T a) (zfch t j) d ↔ 48 ≤ zat T a ∧ zat T a < 48 + m := by
    rw [hf]; unfold zcs; omega
  refine kX11_oneOf hp (by decide) hT (by omega) (by omega) (by constructor <;> omega) (by decide) hm1.1 (by omega) (fun z => absurd rfl z) (fun _ hb μ1 g1 p1 => ?_) (fun _ hb μ1 g1 p1 => ?_)
  · have hlt : a < zN2 T most := by
      by_cases z : a < zN2 T most
      · exact z
      · rw [e2 z] at hb; omega
    rw [e1 hlt] at hb
    have := zwro_m (tl := tl) hlt hj (hcs.2 hb)
    rw [hA, if_neg (by omega)] at this
    exact hok hlt hb.1 hb.2 μ1 g1 p1 this.symm
  · have hAa : A = a := by
      by_cases z : a < zN2 T most
      · rw [e1 z] at hb
        rw [← hA]; exact zwro_b z hj (fun w => hb (hcs.1 w))
      · have ea : a = zN2 T most := by omega
        rw [← hA, ea]; exact zwro_e hm.1 (Or.inl hj)
    refine hbad μ1 g1 ⟨a, by omega, by rw [hAa]; exact p1, by omega, by omega⟩
end
