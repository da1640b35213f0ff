/-! the class's light, bent, row, which may throw -/
section
variable {G : zG} {μ : zM} {S : Int → Int} {U : List (Int → Int)} {kp : Int → Int} {K : Int → Int → Int} {T R : List Int}
theorem kX10_lightX {F : Int → zM → Prop} {KX : zM → Prop} (hfl : (zl G).stackTraces = false) (hX : zXa μ S U kp K T R) (hv : zval S) {p b : Int} (ip : zin p) (ib : zin b) (h1 : (0 ≤ p ∧ p ≤ 80) ∧ 0 ≤ b ∧ b ≤ 2 → F (zlt S p b) μ) (h0 : ¬ ((0 ≤ p ∧ p ≤ 80) ∧ 0 ≤ b ∧ b ≤ 2) → KX μ) : zRunX G mX10_light [zR (some 0), zI p, zI b] μ (zKI F) KX := by
  refine eX10_lightX fun J C => rX10_light_e hfl C _ _ ?_
  obtain ⟨s1, s2, -⟩ := hX.2.1
  refine kX10_isPatch ip (fun c1 => ⟨by decide, fun z => absurd z (by decide), fun _ => kX10_isBand ib (fun c2 => ⟨by decide, fun _ => kX7_lightOf (a := 5) (by unfold zIsSt; decide) s1 s2 hv.1 (by omega) (by omega) (h1 ⟨c1, c2⟩), fun z => absurd z (by decide)⟩) (fun c2 => ⟨by decide, fun z => absurd rfl z, fun _ => h0 (fun z => c2 z.2)⟩)⟩) (fun c1 => ⟨by decide, fun _ => h0 (fun z => c1 z.1), fun z => absurd rfl z⟩)
theorem kX10_bentX {F : Int → zM → Prop} {KX : zM → Prop} (hfl : (zl G).stackTraces = false) (hX : zXa μ S U kp K T R) {p b : Int} (ip : zin p) (ib : zin b) (h1 : (0 ≤ p ∧ p ≤ 3) ∧ 0 ≤ b ∧ b ≤ 8 → F (S (324 + 9 * p + b)) μ) (h0 : ¬ ((0 ≤ p ∧ p ≤ 3) ∧ 0 ≤ b ∧ b ≤ 8) → KX μ) : zRunX G mX10_bent [zR (some 0), zI p, zI b] μ (zKI F) KX := by
  refine eX10_bentX fun J C => rX10_bent_e hfl C _ _ ?_
  obtain ⟨-, -, -, s4, -⟩ := hX.2.1
  refine kX10_isInk ip (fun c1 => ⟨by decide, fun z => absurd z (by decide), fun _ => kX10_isIn ib (by decide) (by decide) (fun c2 => ⟨by decide, fun _ => ⟨by omega, ?_⟩, fun z => absurd z (by decide)⟩) (fun c2 => ⟨by decide, fun z => absurd rfl z, fun _ => h0 (fun z => c2 z.2)⟩)⟩) (fun c1 => ⟨by decide, fun _ => h0 (fun z => c1 z.1), fun z => absurd rfl z⟩)
  have e := s4 (p * 9 + b) (by omega) (by omega)
  rw [show 324 + (p * 9 + b) = 324 + 9 * p + b by omega] at e
  have e : zi μ 9 (p * 9 + b) = S (324 + 9 * p + b) := e
  rw [e]
  exact h1 ⟨c1, c2⟩
theorem kX10_rowX {F : Int → zM → Prop} {KX : zM → Prop} (hfl : (zl G).stackTraces = false) (hX : zXa μ S U kp K T R) {p : Int} (ip : zin p) (h1 : 0 ≤ p ∧ p < R.length → F (R.getD p.toNat 0) μ) (h0 : ¬ (0 ≤ p ∧ p < R.length) → KX μ) : zRunX G mX10_row [zR (some 0), zI p] μ (zKL F) KX := by
  refine eX10_rowX fun J C => rX10_row_e hfl C _ ?_
  obtain ⟨r1, r2, r3⟩ := hX.2.2.2.2.2.2.1
  rw [r2]
  refine ⟨ip, fun c => h0 (by omega), fun c => ⟨by constructor <;> omega, fun c2 => ⟨by omega, ?_⟩, fun c2 => h0 (by omega)⟩⟩
  have := r3 p.toNat (by omega)
  rw [show ((p.toNat : Nat) : Int) = p by omega] at this
  rw [this]
  exact h1 (by omega)
end
