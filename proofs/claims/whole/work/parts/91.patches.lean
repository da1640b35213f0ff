/-! patches on both sides -/
section
variable {G : zG} {μ : zM} {T : List Int} {tl most A d : Int} {a t j : Nat}
theorem kX11_readPatchA {F : Int → zM → Prop} (hp : zPs μ T most a (-1)) (hT : zTv T) (hm : 0 ≤ most ∧ most ≤ 80) (ha : a ≤ zN2 T most) (hA : zwro T tl most (zN2 T most - a) a t j d = A) (hj : j + 4 ≤ (zstx t).length) (h1 : ∀ k, k < 4 → zfch t (j + k) = 50) (hok : a + 4 ≤ zN2 T most → 0 ≤ zpnum T a → zpnum T a ≤ 80 → ∀ μ', zsm zPp μ μ' → zPs μ' T most ((a : Int) + 4) (-1) → zwro T tl most (zN2 T most - (a + 4)) (a + 4) t (j + 4) d = A → F (zpnum T a) μ') (hbad : ∀ v μ', zsm zPp μ μ' → zBad μ' T most A → F v μ') : qX11_readPatch G μ F := by
  have ht : zin most := by constructor <;> omega
  refine eX11_readPatch fun J C => rX11_readPatch_e C ?_
  have bad : ∀ (n : Nat) (k x : Int) (μ1 : zM), (n : Int) = 4 - k → 0 ≤ k → k ≤ 4 → zsm zPp μ μ1 → zBad μ1 T most A → J 4 ([some (zR (some 153)), some (zI x), some (zI k)], [], μ1, 0, 0) := by
    intro n
    induction n with
    | zero => intro k x μ1 hk k0 k1 g1 b1; exact rX11_readPatch_4 C _ _ ⟨by constructor <;> omega, fun _ => hbad x μ1 g1 b1, fun z => absurd (by omega) z⟩
    | succ n ih => intro k x μ1 hk k0 k1 g1 b1; exact rX11_readPatch_4 C _ _ ⟨by constructor <;> omega, fun z => absurd z (by omega), fun _ => kX11_oneOfB b1 hT ht (by decide) (by decide) (by decide) (ih (k + 1) _ μ1 (by omega) (by omega) (by omega) g1 b1)⟩
  have h10 := h1 0 (by decide); have h11 := h1 1 (by decide); have h12 := h1 2 (by decide); have h13 := h1 3 (by decide)
  refine rX11_readPatch_4 C _ _ ⟨by decide, fun z => absurd z (by decide), fun _ => kX11_digA hp hT hm ha hA (by omega) (by decide) (by rw [show zfch t j = 50 from h10]; rfl) (fun l1 c1 c2 μ1 g1 p1 A1 => ?_) (fun μ1 g1 b1 => bad 3 (0 + 1) _ μ1 (by decide) (by decide) (by decide) g1 b1)⟩
  refine rX11_readPatch_4 C _ _ ⟨by decide, fun z => absurd z (by decide), fun _ => kX11_digA (a := a + 1) p1 hT hm (by omega) A1 (by omega) (by decide) (by rw [h11]; rfl) (fun l2 c3 c4 μ2 g2 p2 A2 => ?_) (fun μ2 g2 b2 => bad 2 (0 + 1 + 1) _ μ2 (by decide) (by decide) (by decide) (g1.trans g2) b2)⟩
  refine rX11_readPatch_4 C _ _ ⟨by decide, fun z => absurd z (by decide), fun _ => kX11_digA (a := a + 1 + 1) p2 hT hm (by omega) A2 (by omega) (by decide) (by rw [h12]; rfl) (fun l3 c5 c6 μ3 g3 p3 A3 => ?_) (fun μ3 g3 b3 => bad 1 (0 + 1 + 1 + 1) _ μ3 (by decide) (by decide) (by decide) ((g1.trans g2).trans g3) b3)⟩
  refine rX11_readPatch_4 C _ _ ⟨by decide, fun z => absurd z (by decide), fun _ => kX11_digA (a := a + 1 + 1 + 1) p3 hT hm (by omega) A3 (by omega) (by decide) (by rw [h13]; rfl) (fun l4 c7 c8 μ4 g4 p4 A4 => ?_) (fun μ4 g4 b4 => bad 0 (0 + 1 + 1 + 1 + 1) _ μ4 (by decide) (by decide) (by decide) (((g1.trans g2).trans g3).trans g4) b4)⟩
  have e1 : ((a + 1 : Nat) : Int) = (a : Int) + 1 := by omega
  have e2 : ((a + 1 + 1 : Nat) : Int) = (a : Int) + 2 := by omega
  have e3 : ((a + 1 + 1 + 1 : Nat) : Int) = (a : Int) + 3 := by omega
  rw [e1] at c3 c4; rw [e2] at c5 c6; rw [e3] at c7 c8 p4
  rw [e1, e2, e3]
  have := hok (by omega) (by unfold zpnum; omega) (by unfold zpnum; omega) μ4 (((g1.trans g2).trans g3).trans g4) (by rw [show (a : Int) + 4 = a + 3 + 1 by omega]; exact p4) A4
  refine rX11_readPatch_4 C _ _ ⟨by decide, fun _ => ?_, fun z => absurd (by decide) z⟩
  rw [show 3 * (3 * (3 * (3 * 0 + (zat T a - 48)) + (zat T ((a : Int) + 1) - 48)) + (zat T ((a : Int) + 2) - 48)) + (zat T ((a : Int) + 3) - 48) = zpnum T a by unfold zpnum; omega]
  exact this
end
