/-! how it begins -/
theorem zS0_l : ∀ p : Fin 243, 0 ≤ zS0 (p.val : Int) ∧ zS0 (p.val : Int) ≤ 100 := by decide +kernel
theorem zS0_x : ∀ p : Fin 711, -2147483648 ≤ zS0 (p.val : Int) ∧ zS0 (p.val : Int) < 2147483648 := by decide +kernel
theorem zfin {P : Int → Prop} {n : Nat} (h : ∀ p : Fin n, P (p.val : Int)) {i : Int} (h0 : 0 ≤ i) (h1 : i < n) : P i := by
  have := h ⟨i.toNat, by omega⟩
  rw [show (((⟨i.toNat, by omega⟩ : Fin n).val : Nat) : Int) = i from by show ((i.toNat : Nat) : Int) = i; omega] at this
  exact this
theorem zS0_m2 {i : Int} (h0 : 243 ≤ i) (h1 : i < 324) : zS0 i = 0 := by unfold zS0; rw [if_neg (by omega), if_pos h1]
theorem zS0_c {i : Int} (h0 : 324 ≤ i) (h1 : i < 360) : zS0 i = (i - 324) % 9 := by unfold zS0; rw [if_neg (by omega), if_neg (by omega), if_pos h1]
theorem zS0_z {i : Int} (h0 : 360 ≤ i) (h1 : i < 704) : zS0 i = 0 := by unfold zS0; rw [if_neg (by omega), if_neg (by omega), if_neg (by omega), if_neg (by omega)]
theorem zS0_s {i : Int} (h0 : 704 ≤ i) : zS0 i = zta 6 (i - 704) := by unfold zS0; rw [if_neg (by omega), if_neg (by omega), if_neg (by omega), if_pos h0]
theorem zS0_v : zval zS0 ∧ zLe zS0 := by
  refine ⟨⟨⟨fun p p0 p1 => zfin (P := fun i => 0 ≤ zS0 i ∧ zS0 i ≤ 100) zS0_l p0 p1, fun p p0 p1 => Or.inl (zS0_m2 (by omega) (by omega))⟩, ?_, ⟨by rw [zS0_z (i := 702) (by decide) (by decide), zS0_z (i := 703) (by decide) (by decide)]; decide, fun i i0 i1 => by rw [zS0_z (by omega) (by omega)]; decide, fun i i0 i1 => by rw [zS0_z (by omega) (by omega)]; decide⟩, fun i i0 i1 => by rw [zS0_c (by omega) (by omega)]; omega, ⟨by rw [zS0_z (i := 612) (by decide) (by decide)]; decide, fun z => by rw [zS0_z (i := 612) (by decide) (by decide)] at z; exact absurd z (by decide)⟩, fun i i0 i1 => zfin (P := fun i => zin (zS0 i)) (fun p => zS0_x p) i0 i1, fun p p0 p1 _ => zS0_m2 (by omega) (by omega), by rw [zS0_s (i := 704) (by decide)]; decide, by rw [zS0_z (i := 613) (by decide) (by decide)]; decide⟩, ?_⟩
  · rw [zSet, zS0_s (i := 704) (by decide), zS0_s (i := 705) (by decide), zS0_s (i := 706) (by decide), zS0_s (i := 707) (by decide), zS0_s (i := 708) (by decide), zS0_s (i := 709) (by decide), zS0_s (i := 710) (by decide)]
    decide +kernel
  · refine ⟨by rw [zS0_z (i := 613) (by decide) (by decide)]; decide, fun _ => zS0_z (by decide) (by decide), fun z => ?_⟩
    rw [zS0_z (i := 612) (by decide) (by decide)] at z
    exact absurd z (by decide)
abbrev zkp0 : Int → Int := fun _ => 0
abbrev zK0 : Int → Int → Int := fun _ _ => 0
theorem zX_first {μ : zM} (h : zmade μ) : zXa μ zS0 [] zkp0 zK0 [] [] := by
  obtain ⟨-, -, -, a5, -, -, -, -, -, -, -, -, -, -, c1, c3, c131, c132, c104, c106, c120, c125⟩ := h
  obtain ⟨s1, s2, s3, s4, s5, s6, s7, s8, s9, s10, s11, s12⟩ := a5
  have z612 : zS0 612 = 0 := zS0_z (by decide) (by decide)
  refine ⟨Nat.zero_le _, ⟨s1, fun p p0 p1 => by rw [zS0_m2 (by omega) (by omega)]; exact s2 p p0 p1, fun i i0 i1 => by rw [zS0_s (by omega), show 704 + i - 704 = i by omega]; exact s3 i i0 i1, fun i i0 i1 => by rw [zS0_c (by omega) (by omega), show 324 + i - 324 = i by omega]; exact s4 i i0 i1, fun i i0 i1 => by rw [zS0_z (by omega) (by omega)]; exact s5 i, by rw [zS0_z (by decide) (by decide)]; exact s6, by rw [zS0_z (by decide) (by decide)]; exact s7, fun i i0 i1 => ?_⟩, ?_, ⟨0, by decide, c131, c132, fun k hk => absurd hk (by simp)⟩, ⟨fun i i0 i1 => ⟨c104 i, fun e => absurd e (by show ¬ ((0 : Int) = 1); decide)⟩, fun i i0 i1 e => absurd e (by show ¬ ((0 : Int) = 1); decide)⟩, ⟨c1, fun k hk => absurd hk (by simp)⟩, ⟨Nat.zero_le _, c3, fun k hk => absurd hk (by simp)⟩, ⟨Or.inl c106, Or.inl c120, Or.inl c125⟩⟩
  · rw [zS0_z (i := 702) (by decide) (by decide), Int.zero_mul] at i1
    omega
  · refine ⟨12, s12, Or.inl rfl, zk_12 _, by rw [zS0_z (i := 613) (by decide) (by decide)]; exact s8, by rw [z612]; exact s9, fun _ => s10, fun z => ?_⟩
    rw [z612] at z
    exact absurd z (by decide)
theorem zM_first {μ : zM} (hM : zMs μ zS0) (hc : zcds μ) (hz : ∀ a, a = 153 ∨ a = 180 → ∀ i, zi μ a i = 0) : zMa μ zS0 [] zkp0 zK0 [] [] :=
  ⟨hM, ⟨Nat.zero_le _, hz 153 (Or.inl rfl) 39, fun k hk => absurd hk (by simp)⟩, fun i i0 i1 => ⟨hz 180 (Or.inr rfl) i, fun e => absurd e (by show ¬ ((0 : Int) = 1); decide)⟩, ⟨hz 153 (Or.inl rfl) 2, fun k hk => absurd hk (by simp)⟩, ⟨Nat.zero_le _, hz 153 (Or.inl rfl) 4, fun k hk => absurd hk (by simp)⟩, hc⟩
/-! the reference's light, bent, row -/
abbrev zP5 (b : Nat) (j : Int) : Prop := b = 153 ∧ j = 5
section
variable {G : zG} {μ μ' : zM} {S : Int → Int} {U : List (Int → Int)} {kp : Int → Int} {K : Int → Int → Int} {T R : List Int}
theorem kX11_lost {F : Int → zM → Prop} (h : F 0 (zup μ 153 5 1)) : qX11_lost G μ F := eX11_lost fun J C => rX11_lost_e C h
theorem kX11_thrown {F : Int → zM → Prop} (h : F (zi μ 153 5) μ) : qX11_thrown G μ F := eX11_thrown fun J C => rX11_thrown_e C h
theorem kX11_light {F : Int → zM → Prop} (hM : zMa μ S U kp K T R) (hv : zval S) {p b : Int} (ip : zin p) (ib : zin b) (h1 : (0 ≤ p ∧ p ≤ 80) ∧ 0 ≤ b ∧ b ≤ 2 → ∀ μ', zsm zP5 μ μ' → zMa μ' S U kp K T R → zi μ' 153 5 = 0 → F (zlt S p b) μ') (h0 : ¬ ((0 ≤ p ∧ p ≤ 80) ∧ 0 ≤ b ∧ b ≤ 2) → ∀ μ', zsm zP5 μ μ' → zMa μ' S U kp K T R → zi μ' 153 5 = 1 → F 0 μ') : qX11_light G p b μ F := by
  have g0 : zsm zP5 μ (zup μ 153 5 0) := (zsm.refl _ _).up _ ⟨rfl, rfl⟩
  have hM := hM.pub (zMthr μ) hM.2.2.2.2.1.thr
  have e5 : zi (zup μ 153 5 0) 153 5 = 0 := zi_at
  refine eX11_light fun J C => rX11_light_e C _ _ ?_
  generalize zup μ 153 5 0 = μ0 at *
  have no : ¬ ((0 ≤ p ∧ p ≤ 80) ∧ 0 ≤ b ∧ b ≤ 2) → qX11_lost G μ0 (fun v4 μ4 => F v4 μ4) := fun z =>
    kX11_lost (h0 z _ (g0.up _ ⟨rfl, rfl⟩) (hM.pub ((zsm.refl _ _).up _ (by unfold zPM; omega)) (hM.2.2.2.2.1.sm ((zsm.refl (fun b j => b = 153 ∧ j = 5) μ0).up 1 ⟨rfl, rfl⟩) (by omega) (by omega))) zi_at)
  refine kX11_in ip (by decide) (by decide) (fun c1 => ⟨by decide, fun z => absurd z (by decide), fun _ => kX11_in ib (by decide) (by decide) (fun c2 => ⟨by decide, fun z => absurd z (by decide), fun _ => ?_⟩) (fun c2 => ⟨by decide, fun _ => no (fun z => c2 z.2), fun z => absurd rfl z⟩)⟩) (fun c1 => ⟨by decide, fun _ => no (fun z => c1 z.1), fun z => absurd rfl z⟩)
  exact kX11_lightOf (S := S) (n := 711) ⟨by decide, by decide +kernel⟩ (by decide) (by decide) (fun q q0 q1 => hM.1 q q0 (by omega)) hv.1 (by omega) (by omega) (h1 ⟨c1, c2⟩ μ0 g0 hM e5)
theorem kX11_bent {F : Int → zM → Prop} (hM : zMa μ S U kp K T R) {p b : Int} (ip : zin p) (ib : zin b) (h1 : (0 ≤ p ∧ p ≤ 3) ∧ 0 ≤ b ∧ b ≤ 8 → ∀ μ', zsm zP5 μ μ' → zMa μ' S U kp K T R → zi μ' 153 5 = 0 → F (S (324 + 9 * p + b)) μ') (h0 : ¬ ((0 ≤ p ∧ p ≤ 3) ∧ 0 ≤ b ∧ b ≤ 8) → ∀ μ', zsm zP5 μ μ' → zMa μ' S U kp K T R → zi μ' 153 5 = 1 → F 0 μ') : qX11_bent G p b μ F := by
  have g0 : zsm zP5 μ (zup μ 153 5 0) := (zsm.refl _ _).up _ ⟨rfl, rfl⟩
  have hM := hM.pub (zMthr μ) hM.2.2.2.2.1.thr
  have e5 : zi (zup μ 153 5 0) 153 5 = 0 := zi_at
  refine eX11_bent fun J C => rX11_bent_e C _ _ ?_
  generalize zup μ 153 5 0 = μ0 at *
  have no : ¬ ((0 ≤ p ∧ p ≤ 3) ∧ 0 ≤ b ∧ b ≤ 8) → qX11_lost G μ0 (fun v4 μ4 => F v4 μ4) := fun z =>
    kX11_lost (h0 z _ (g0.up _ ⟨rfl, rfl⟩) (hM.pub ((zsm.refl _ _).up _ (by unfold zPM; omega)) (hM.2.2.2.2.1.sm ((zsm.refl (fun b j => b = 153 ∧ j = 5) μ0).up 1 ⟨rfl, rfl⟩) (by omega) (by omega))) zi_at)
  refine kX11_isInk ip (fun c1 => ⟨by decide, fun z => absurd z (by decide), fun _ => kX11_in ib (by decide) (by decide) (fun c2 => ⟨by decide, fun z => absurd z (by decide), fun _ => ⟨by omega, ?_⟩⟩) (fun c2 => ⟨by decide, fun _ => no (fun z => c2 z.2), fun z => absurd rfl z⟩)⟩) (fun c1 => ⟨by decide, fun _ => no (fun z => c1 z.1), fun z => absurd rfl z⟩)
  rw [hM.1 (324 + 9 * p + b) (by omega) (by omega)]
  exact h1 ⟨c1, c2⟩ μ0 g0 hM e5
theorem kX11_row {F : Int → zM → Prop} (hM : zMa μ S U kp K T R) {p : Int} (ip : zin p) (h1 : 0 ≤ p ∧ p < R.length → ∀ μ', zsm zP5 μ μ' → zMa μ' S U kp K T R → zi μ' 153 5 = 0 → F (R.getD p.toNat 0) μ') (h0 : ¬ (0 ≤ p ∧ p < R.length) → ∀ μ', zsm zP5 μ μ' → zMa μ' S U kp K T R → zi μ' 153 5 = 1 → F 0 μ') : qX11_row G p μ F := by
  have g0 : zsm zP5 μ (zup μ 153 5 0) := (zsm.refl _ _).up _ ⟨rfl, rfl⟩
  have hM := hM.pub (zMthr μ) hM.2.2.2.2.1.thr
  have e5 : zi (zup μ 153 5 0) 153 5 = 0 := zi_at
  refine eX11_row fun J C => rX11_row_e C _ ?_
  generalize zup μ 153 5 0 = μ0 at *
  obtain ⟨r1, r2, r3⟩ := hM.2.2.2.2.1
  rw [r2]
  refine kX11_in ip (by decide) (by constructor <;> omega) (fun c1 => ⟨by decide, fun z => absurd z (by decide), fun _ => ⟨by omega, ?_⟩⟩) (fun c1 => ⟨by decide, fun _ => kX11_lost ⟨by decide, ?_⟩, fun z => absurd rfl z⟩)
  · have := r3 p.toNat (by omega)
    rw [show ((p.toNat : Nat) : Int) = p by omega] at this
    rw [this]
    exact h1 (by omega) μ0 g0 hM e5
  · exact h0 (by omega) _ (g0.up _ ⟨rfl, rfl⟩) (hM.pub ((zsm.refl _ _).up _ (by unfold zPM; omega)) (hM.2.2.2.2.1.sm ((zsm.refl (fun b j => b = 153 ∧ j = 5) μ0).up 1 ⟨rfl, rfl⟩) (by omega) (by omega))) zi_at
end
