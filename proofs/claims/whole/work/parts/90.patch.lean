/-! a patch and three lights out of a text; patches on both sides -/
def zpnum (T : List Int) (a : Int) : Int := 27 * (zat T a - 48) + 9 * (zat T (a + 1) - 48) + 3 * (zat T (a + 2) - 48) + (zat T (a + 3) - 48)
def ztwo (T : List Int) (a : Int) : Int := 10 * (zat T a - 48) + (zat T (a + 1) - 48)
section
variable {G : zG} {μ : zM} {T : List Int} {tl most A d : Int} {a t j : Nat}
theorem kX11_readPatchB {F : Int → zM → Prop} (hb : zBad μ T most A) (hT : zTv T) (ht : zin most) (h : ∀ v, F v μ) : qX11_readPatch G μ F := by
  refine eX11_readPatch fun J C => rX11_readPatch_e C ?_
  have key : ∀ (n : Nat) (k x : Int), (n : Int) = 4 - k → 0 ≤ k → k ≤ 4 → J 4 ([some (zR (some 153)), some (zI x), some (zI k)], [], μ, 0, 0) := by
    intro n
    induction n with
    | zero => intro k x hk h0 h1; exact rX11_readPatch_4 C _ _ ⟨by constructor <;> omega, fun _ => h x, fun z => absurd (by omega) z⟩
    | succ n ih => intro k x hk h0 h1; exact rX11_readPatch_4 C _ _ ⟨by constructor <;> omega, fun z => absurd z (by omega), fun _ => kX11_oneOfB hb hT ht (by decide) (by decide) (by decide) (ih (k + 1) _ (by omega) (by omega) (by omega))⟩
  exact key 4 0 0 (by decide) (by decide) (by decide)
theorem kX11_twoB {F : Int → zM → Prop} (hb : zBad μ T most A) (hT : zTv T) (ht : zin most) (h : ∀ v, F v μ) : qX11_twoDigits G μ F :=
  eX11_twoDigits fun J C => rX11_twoDigits_e C (kX11_oneOfB hb hT ht (by decide) (by decide) (by decide) (kX11_oneOfB hb hT ht (by decide) (by decide) (by decide) (h _)))
theorem kX11_twoA {F : Int → zM → Prop} (hp : zPs μ T most a (-1)) (hT : zTv T) (hm : 0 ≤ most ∧ most ≤ 80) (ha : a ≤ zN2 T most) (hA : zwro T tl most (zN2 T most - a) a t j d = A) (hj : j + 2 ≤ (zstx t).length) (h1 : zfch t j = 57) (h2 : zfch t (j + 1) = 57) (hok : a + 2 ≤ zN2 T most → 0 ≤ ztwo T a → ztwo T a ≤ 99 → ∀ μ', zsm zPp μ μ' → zPs μ' T most ((a : Int) + 2) (-1) → zwro T tl most (zN2 T most - (a + 2)) (a + 2) t (j + 2) d = A → F (ztwo T a) μ') (hbad : ∀ v μ', zsm zPp μ μ' → zBad μ' T most A → F v μ') : qX11_twoDigits G μ F := by
  refine eX11_twoDigits fun J C => rX11_twoDigits_e C (kX11_digA hp hT hm ha hA (by omega) (by decide) (by rw [h1]; rfl) (fun ha1 c1 c2 μ1 g1 p1 A1 => ?_) (fun μ1 g1 b1 => ?_))
  · refine kX11_digA (a := a + 1) p1 hT hm (by omega) A1 (by omega) (by decide) (by rw [h2]; rfl) (fun ha2 c3 c4 μ2 g2 p2 A2 => ?_) (fun μ2 g2 b2 => hbad _ μ2 (g1.trans g2) b2)
    have e : ((a + 1 : Nat) : Int) = (a : Int) + 1 := by omega
    rw [e] at c3 c4 p2 ⊢
    have := hok (by omega) (by unfold ztwo; omega) (by unfold ztwo; omega) μ2 (g1.trans g2) (by rw [show (a : Int) + 2 = a + 1 + 1 by omega]; exact p2) A2
    exact this
  · exact kX11_oneOfB b1 hT (by constructor <;> omega) (by decide) (by decide) (by decide) (hbad _ μ1 g1 b1)
end
