/-! what a day tells: the acts, both sides -/
/-- the state when an act was done -/
def zactS (S : Int → Int) (T : List Int) (a : Int) : Int → Int :=
  if zat T a = 101 then zpaiS S (zat T (a + 1) - 97) (4 * ztwo T (a + 2)) (4 * ztwo T (a + 4)) (4 * ztwo T (a + 6))
  else if zat T a = 102 then zfogS S (zpnum T (a + 1))
  else if zat T a = 103 then zsetS S 1 (zat T (a + 1) - 48)
  else if zat T a = 108 then zsetS S 0 (ztwo T (a + 1))
  else if zat T a = 109 then zmeaS S (zpnum T (a + 1)) (ztwo T (a + 5)) (ztwo T (a + 7)) (ztwo T (a + 9))
  else if zat T a = 116 then zsetS S 3 (zat T (a + 1) - 48)
  else zsetS S (4 + (zat T (a + 1) - 48)) (zat T (a + 2) - 48)
/-- can it be done -/
def zactO (S : Int → Int) (T : List Int) (a : Int) : Prop := zat T a = 101 ∨ zat T a = 109 ∨ (zat T a = 102 ∧ zfogO S (zpnum T (a + 1))) ∨ (zat T a = 103 ∧ zsetO S 1 (zat T (a + 1) - 48)) ∨ (zat T a = 108 ∧ zsetO S 0 (ztwo T (a + 1))) ∨ (zat T a = 116 ∧ zsetO S 3 (zat T (a + 1) - 48)) ∨ (zat T a = 119 ∧ zsetO S (4 + (zat T (a + 1) - 48)) (zat T (a + 2) - 48))
section
variable {S : Int → Int} {T : List Int} {a : Int}
theorem zactS_101 (z : zat T a = 101) : zactS S T a = zpaiS S (zat T (a + 1) - 97) (4 * ztwo T (a + 2)) (4 * ztwo T (a + 4)) (4 * ztwo T (a + 6)) := by unfold zactS; rw [if_pos z]
theorem zactS_102 (z : zat T a = 102) : zactS S T a = zfogS S (zpnum T (a + 1)) := by unfold zactS; rw [if_neg (by rw [z]; decide), if_pos z]
theorem zactS_103 (z : zat T a = 103) : zactS S T a = zsetS S 1 (zat T (a + 1) - 48) := by unfold zactS; rw [if_neg (by rw [z]; decide), if_neg (by rw [z]; decide), if_pos z]
theorem zactS_108 (z : zat T a = 108) : zactS S T a = zsetS S 0 (ztwo T (a + 1)) := by unfold zactS; rw [if_neg (by rw [z]; decide), if_neg (by rw [z]; decide), if_neg (by rw [z]; decide), if_pos z]
theorem zactS_109 (z : zat T a = 109) : zactS S T a = zmeaS S (zpnum T (a + 1)) (ztwo T (a + 5)) (ztwo T (a + 7)) (ztwo T (a + 9)) := by unfold zactS; rw [if_neg (by rw [z]; decide), if_neg (by rw [z]; decide), if_neg (by rw [z]; decide), if_neg (by rw [z]; decide), if_pos z]
theorem zactS_116 (z : zat T a = 116) : zactS S T a = zsetS S 3 (zat T (a + 1) - 48) := by unfold zactS; rw [if_neg (by rw [z]; decide), if_neg (by rw [z]; decide), if_neg (by rw [z]; decide), if_neg (by rw [z]; decide), if_neg (by rw [z]; decide), if_pos z]
theorem zactS_119 (z : zat T a = 119) : zactS S T a = zsetS S (4 + (zat T (a + 1) - 48)) (zat T (a + 2) - 48) := by unfold zactS; rw [if_neg (by rw [z]; decide), if_neg (by rw [z]; decide), if_neg (by rw [z]; decide), if_neg (by rw [z]; decide), if_neg (by rw [z]; decide), if_neg (by rw [z]; decide)]
theorem zactO_101 (z : zat T a = 101) : zactO S T a := Or.inl z
theorem zactO_109 (z : zat T a = 109) : zactO S T a := Or.inr (Or.inl z)
theorem zactO_102 (z : zat T a = 102) : zactO S T a ↔ zfogO S (zpnum T (a + 1)) := ⟨fun w => by
  unfold zactO at w
  rcases w with y | y | y | y | y | y | y <;> first | exact y.2 | exact absurd (z.symm.trans y) (by decide) | exact absurd (z.symm.trans y.1) (by decide), fun w => Or.inr (Or.inr (Or.inl ⟨z, w⟩))⟩
theorem zactO_103 (z : zat T a = 103) : zactO S T a ↔ zsetO S 1 (zat T (a + 1) - 48) := ⟨fun w => by
  unfold zactO at w
  rcases w with y | y | y | y | y | y | y <;> first | exact absurd (z.symm.trans y) (by decide) | exact absurd (z.symm.trans y.1) (by decide) | exact y.2, fun w => Or.inr (Or.inr (Or.inr (Or.inl ⟨z, w⟩)))⟩
theorem zactO_108 (z : zat T a = 108) : zactO S T a ↔ zsetO S 0 (ztwo T (a + 1)) := ⟨fun w => by
  unfold zactO at w
  rcases w with y | y | y | y | y | y | y <;> first | exact absurd (z.symm.trans y) (by decide) | exact absurd (z.symm.trans y.1) (by decide) | exact y.2, fun w => Or.inr (Or.inr (Or.inr (Or.inr (Or.inl ⟨z, w⟩))))⟩
theorem zactO_116 (z : zat T a = 116) : zactO S T a ↔ zsetO S 3 (zat T (a + 1) - 48) := ⟨fun w => by
  unfold zactO at w
  rcases w with y | y | y | y | y | y | y <;> first | exact absurd (z.symm.trans y) (by decide) | exact absurd (z.symm.trans y.1) (by decide) | exact y.2, fun w => Or.inr (Or.inr (Or.inr (Or.inr (Or.inr (Or.inl ⟨z, w⟩)))))⟩
theorem zactO_119 (z : zat T a = 119) : zactO S T a ↔ zsetO S (4 + (zat T (a + 1) - 48)) (zat T (a + 2) - 48) := ⟨fun w => by
  unfold zactO at w
  rcases w with y | y | y | y | y | y | y <;> first | exact absurd (z.symm.trans y) (by decide) | exact absurd (z.symm.trans y.1) (by decide) | exact y.2, fun w => Or.inr (Or.inr (Or.inr (Or.inr (Or.inr (Or.inr ⟨z, w⟩)))))⟩
end
theorem zaf_at (c : Int) : 0 < (zstx (zaf c)).length → c = 101 ∨ c = 102 ∨ c = 103 ∨ c = 108 ∨ c = 109 ∨ c = 116 ∨ c = 119 := by
  intro h
  unfold zaf at h
  by_cases h1 : c = 101 ∨ c = 102 ∨ c = 103 ∨ c = 108 ∨ c = 109 ∨ c = 116 ∨ c = 119
  · exact h1
  · rw [if_neg (by omega), if_neg (by omega), if_neg (by omega), if_neg (by omega), if_neg (by omega), if_neg (by omega)] at h
    exact absurd h (by decide)
theorem zfpc_d {T : List Int} {t a : Nat} (h : zfpc T t a) (k : Nat) {f : Int} (hk : k < (zstx t).length) (hf : zfch t k = f) (h2 : 48 ≤ f ∧ f ≤ 57) : 48 ≤ zat T ((a : Int) + k) ∧ zat T ((a : Int) + k) ≤ f := by
  have := h.2.2 k hk
  rw [hf] at this
  unfold zcs at this
  omega
theorem zaf_101 : zaf 101 = 17 := rfl
theorem zaf_102 : zaf 102 = 13 := rfl
theorem zaf_103 : zaf 103 = 15 := rfl
theorem zaf_108 : zaf 108 = 14 := rfl
theorem zaf_109 : zaf 109 = 12 := rfl
theorem zaf_116 : zaf 116 = 15 := rfl
theorem zaf_119 : zaf 119 = 16 := rfl
/-- what the pieces hold -/
theorem zfpc_101 {T : List Int} {a : Nat} (h : zfpc T (zaf (zat T a)) a) (z : zat T a = 101) : (97 ≤ zat T ((a : Int) + 1) ∧ zat T ((a : Int) + 1) ≤ 104) ∧ (0 ≤ ztwo T ((a : Int) + 2) ∧ ztwo T ((a : Int) + 2) ≤ 99) ∧ (0 ≤ ztwo T ((a : Int) + 4) ∧ ztwo T ((a : Int) + 4) ≤ 99) ∧ (0 ≤ ztwo T ((a : Int) + 6) ∧ ztwo T ((a : Int) + 6) ≤ 99) := by
  rw [z, zaf_101] at h
  have h1 := h.2.2 1 (by decide)
  rw [show zfch 17 1 = 104 from rfl] at h1
  unfold zcs at h1
  have d2 := zfpc_d h 2 (by decide) (f := 57) rfl (by decide); have d3 := zfpc_d h 3 (by decide) (f := 57) rfl (by decide); have d4 := zfpc_d h 4 (by decide) (f := 57) rfl (by decide); have d5 := zfpc_d h 5 (by decide) (f := 57) rfl (by decide); have d6 := zfpc_d h 6 (by decide) (f := 57) rfl (by decide); have d7 := zfpc_d h 7 (by decide) (f := 57) rfl (by decide)
  rw [show (a : Int) + ((1 : Nat) : Int) = a + 1 by omega] at h1
  rw [show (a : Int) + ((2 : Nat) : Int) = a + 2 by omega] at d2
  rw [show (a : Int) + ((3 : Nat) : Int) = a + 2 + 1 by omega] at d3
  rw [show (a : Int) + ((4 : Nat) : Int) = a + 4 by omega] at d4
  rw [show (a : Int) + ((5 : Nat) : Int) = a + 4 + 1 by omega] at d5
  rw [show (a : Int) + ((6 : Nat) : Int) = a + 6 by omega] at d6
  rw [show (a : Int) + ((7 : Nat) : Int) = a + 6 + 1 by omega] at d7
  unfold ztwo
  omega
theorem zfpc_102 {T : List Int} {a : Nat} (h : zfpc T (zaf (zat T a)) a) (z : zat T a = 102) : 0 ≤ zpnum T ((a : Int) + 1) ∧ zpnum T ((a : Int) + 1) ≤ 80 := by
  rw [z, zaf_102] at h
  have d1 := zfpc_d h 1 (by decide) (f := 50) rfl (by decide); have d2 := zfpc_d h 2 (by decide) (f := 50) rfl (by decide); have d3 := zfpc_d h 3 (by decide) (f := 50) rfl (by decide); have d4 := zfpc_d h 4 (by decide) (f := 50) rfl (by decide)
  rw [show (a : Int) + ((1 : Nat) : Int) = a + 1 by omega] at d1
  rw [show (a : Int) + ((2 : Nat) : Int) = a + 1 + 1 by omega] at d2
  rw [show (a : Int) + ((3 : Nat) : Int) = a + 1 + 2 by omega] at d3
  rw [show (a : Int) + ((4 : Nat) : Int) = a + 1 + 3 by omega] at d4
  unfold zpnum
  omega
theorem zfpc_109 {T : List Int} {a : Nat} (h : zfpc T (zaf (zat T a)) a) (z : zat T a = 109) : zmeaO (zpnum T ((a : Int) + 1)) (ztwo T ((a : Int) + 5)) (ztwo T ((a : Int) + 7)) (ztwo T ((a : Int) + 9)) := by
  rw [z, zaf_109] at h
  have d1 := zfpc_d h 1 (by decide) (f := 50) rfl (by decide); have d2 := zfpc_d h 2 (by decide) (f := 50) rfl (by decide); have d3 := zfpc_d h 3 (by decide) (f := 50) rfl (by decide); have d4 := zfpc_d h 4 (by decide) (f := 50) rfl (by decide)
  have d5 := zfpc_d h 5 (by decide) (f := 57) rfl (by decide); have d6 := zfpc_d h 6 (by decide) (f := 57) rfl (by decide); have d7 := zfpc_d h 7 (by decide) (f := 57) rfl (by decide); have d8 := zfpc_d h 8 (by decide) (f := 57) rfl (by decide); have d9 := zfpc_d h 9 (by decide) (f := 57) rfl (by decide); have d10 := zfpc_d h 10 (by decide) (f := 57) rfl (by decide)
  rw [show (a : Int) + ((1 : Nat) : Int) = a + 1 by omega] at d1
  rw [show (a : Int) + ((2 : Nat) : Int) = a + 1 + 1 by omega] at d2
  rw [show (a : Int) + ((3 : Nat) : Int) = a + 1 + 2 by omega] at d3
  rw [show (a : Int) + ((4 : Nat) : Int) = a + 1 + 3 by omega] at d4
  rw [show (a : Int) + ((5 : Nat) : Int) = a + 5 by omega] at d5
  rw [show (a : Int) + ((6 : Nat) : Int) = a + 5 + 1 by omega] at d6
  rw [show (a : Int) + ((7 : Nat) : Int) = a + 7 by omega] at d7
  rw [show (a : Int) + ((8 : Nat) : Int) = a + 7 + 1 by omega] at d8
  rw [show (a : Int) + ((9 : Nat) : Int) = a + 9 by omega] at d9
  rw [show (a : Int) + ((10 : Nat) : Int) = a + 9 + 1 by omega] at d10
  unfold zpnum ztwo
  exact ⟨by omega, by omega, by omega, by omega⟩
theorem zfpc_103 {T : List Int} {a : Nat} (h : zfpc T (zaf (zat T a)) a) (z : zat T a = 103 ∨ zat T a = 116) : 0 ≤ zat T ((a : Int) + 1) - 48 ∧ zat T ((a : Int) + 1) - 48 ≤ 9 := by
  have h15 : zaf (zat T a) = 15 := by rcases z with z | z <;> rw [z] <;> rfl
  rw [h15] at h
  have d1 := zfpc_d h 1 (by decide) (f := 57) rfl (by decide)
  rw [show (a : Int) + ((1 : Nat) : Int) = a + 1 by omega] at d1
  omega
theorem zfpc_108 {T : List Int} {a : Nat} (h : zfpc T (zaf (zat T a)) a) (z : zat T a = 108) : 0 ≤ ztwo T ((a : Int) + 1) ∧ ztwo T ((a : Int) + 1) ≤ 99 := by
  rw [z, zaf_108] at h
  have d1 := zfpc_d h 1 (by decide) (f := 57) rfl (by decide); have d2 := zfpc_d h 2 (by decide) (f := 57) rfl (by decide)
  rw [show (a : Int) + ((1 : Nat) : Int) = a + 1 by omega] at d1
  rw [show (a : Int) + ((2 : Nat) : Int) = a + 1 + 1 by omega] at d2
  unfold ztwo
  omega
theorem zfpc_119 {T : List Int} {a : Nat} (h : zfpc T (zaf (zat T a)) a) (z : zat T a = 119) : (0 ≤ zat T ((a : Int) + 1) - 48 ∧ zat T ((a : Int) + 1) - 48 ≤ 2) ∧ (0 ≤ zat T ((a : Int) + 2) - 48 ∧ zat T ((a : Int) + 2) - 48 ≤ 9) := by
  rw [z, zaf_119] at h
  have d1 := zfpc_d h 1 (by decide) (f := 50) rfl (by decide); have d2 := zfpc_d h 2 (by decide) (f := 57) rfl (by decide)
  rw [show (a : Int) + ((1 : Nat) : Int) = a + 1 by omega] at d1
  rw [show (a : Int) + ((2 : Nat) : Int) = a + 2 by omega] at d2
  omega
theorem zactS_v {S : Int → Int} (hv : zval S) {T : List Int} {a : Nat} (h : zfpc T (zaf (zat T a)) a) : zval (zactS S T a) := by
  rcases zaf_at _ h.1 with z | z | z | z | z | z | z
  · rw [zactS_101 z]; exact zpaiS_v hv _ _ _ _
  · rw [zactS_102 z]; exact zfogS_v hv _
  · rw [zactS_103 z]; exact zsetS_v hv _ _
  · rw [zactS_108 z]; exact zsetS_v hv _ _
  · rw [zactS_109 z]; exact zmeaS_v hv (zfpc_109 h z)
  · rw [zactS_116 z]; exact zsetS_v hv _ _
  · rw [zactS_119 z]; exact zsetS_v hv _ _
theorem zact_no {S : Int → Int} {T : List Int} {a : Int} (f0 : zat T a = 101 ∨ zat T a = 102 ∨ zat T a = 103 ∨ zat T a = 108 ∨ zat T a = 109 ∨ zat T a = 116 ∨ zat T a = 119) (h : ¬ zactO S T a) : zactS S T a = S := by
  rcases f0 with z | z | z | z | z | z | z
  · exact absurd (zactO_101 z) h
  · rw [zactS_102 z]; unfold zfogS; exact if_neg (fun w => h ((zactO_102 z).2 w))
  · rw [zactS_103 z]; unfold zsetS; exact if_neg (fun w => h ((zactO_103 z).2 w))
  · rw [zactS_108 z]; unfold zsetS; exact if_neg (fun w => h ((zactO_108 z).2 w))
  · exact absurd (zactO_109 z) h
  · rw [zactS_116 z]; unfold zsetS; exact if_neg (fun w => h ((zactO_116 z).2 w))
  · rw [zactS_119 z]; unfold zsetS; exact if_neg (fun w => h ((zactO_119 z).2 w))
section
variable {G : zG} {μ μ' : zM} {S : Int → Int} {W U : List (Int → Int)} {kp : Int → Int} {K : Int → Int → Int} {T R : List Int} {c : Int}
theorem kX10_doAct {F : Int → zM → Prop} (hx : zXg μ S c W kp K T R) (hv : zval S) (hT : zTv T) {a : Nat} (ha : a < 100) (hf : zfpc T (zaf (zat T a)) a) (h : ∀ μ' v, zsm (fun b _ => b = 6 ∨ b = 7 ∨ b = 8 ∨ b = 10) μ μ' → zXg μ' (zactS S T a) c W kp K T R → zin v → (0 ≤ v ↔ zactO S T a) → F v μ') : qX10_doAct G a μ F := by
  have ht := hx.2.2.2.2.1
  have hr := zat_r hT (i := (a : Int)) (by omega) (by have := hf.2.1; have := hf.1; omega)
  refine eX10_doAct fun J C => rX10_doAct_e C _ (kX9_at ht hT (by constructor <;> omega) ?_)
  rw [if_pos (by omega)]
  refine ⟨by constructor <;> omega, fun z => ?_, fun z => ?_, fun z => ?_, fun z => ?_, fun z => ?_, fun z => ?_, fun z => ?_, fun z => absurd (zaf_at _ hf.1) (by omega)⟩
  · have f1 := zfpc_101 hf z
    refine kX9_at ht hT (by constructor <;> omega) ?_
    rw [if_pos (by omega)]
    refine kX9_two ht hT (by omega) (kX9_two ht hT (by omega) (kX9_two ht hT (by omega) (kX7_paintLetter hx hv (by constructor <;> omega) (by constructor <;> omega) (by constructor <;> omega) (by constructor <;> omega) fun μ1 g1 x1 => ?_)))
    obtain ⟨r1, r2, r3⟩ := zpaiA_r hv (zat T ((a : Int) + 1) - 97) (4 * ztwo T ((a : Int) + 2)) (4 * ztwo T ((a : Int) + 4)) (4 * ztwo T ((a : Int) + 6))
    exact h μ1 _ (g1.mono (fun b j y => Or.inr (Or.inr (Or.inr y)))) (by rw [zactS_101 z]; exact x1) (by constructor <;> omega) ⟨fun _ => zactO_101 z, fun _ => r3.2 ⟨by omega, by omega, by omega, by omega⟩⟩
  · have f2 := zfpc_102 hf z
    refine kX9_patch ht hT (by omega) (kX7_dropPatch hx hv (by constructor <;> omega) fun μ1 g1 x1 => ?_)
    obtain ⟨r1, r2, r3⟩ := zfogA_r hv (zpnum T ((a : Int) + 1))
    exact h μ1 _ (g1.mono (fun b j y => Or.inr (Or.inl y))) (by rw [zactS_102 z]; exact x1) (by constructor <;> omega) (r3.trans (zactO_102 z).symm)
  · have f4 := zfpc_103 hf (Or.inl z)
    refine kX9_digit ht hT (by constructor <;> omega) (by omega) (kX7_change hx hv (by decide) (by constructor <;> omega) fun μ1 g1 x1 => ?_)
    obtain ⟨r1, r2, r3⟩ := zsetA_r hv 1 (zat T ((a : Int) + 1) - 48)
    exact h μ1 _ (g1.mono (fun b j y => Or.inr (Or.inr (Or.inl y)))) (by rw [zactS_103 z]; exact x1) (by constructor <;> omega) (r3.trans (zactO_103 z).symm)
  · have f5 := zfpc_108 hf z
    refine kX9_two ht hT (by omega) (kX7_change hx hv (by decide) (by constructor <;> omega) fun μ1 g1 x1 => ?_)
    obtain ⟨r1, r2, r3⟩ := zsetA_r hv 0 (ztwo T ((a : Int) + 1))
    exact h μ1 _ (g1.mono (fun b j y => Or.inr (Or.inr (Or.inl y)))) (by rw [zactS_108 z]; exact x1) (by constructor <;> omega) (r3.trans (zactO_108 z).symm)
  · have f3 := zfpc_109 hf z
    refine kX10_tellPatchAt hx hv hT (by omega) (by rw [show (a : Int) + 1 + 4 = a + 5 by omega, show (a : Int) + 1 + 6 = a + 7 by omega, show (a : Int) + 1 + 8 = a + 9 by omega]; exact f3) fun μ1 g1 x1 => ?_
    rw [show (a : Int) + 1 + 4 = a + 5 by omega, show (a : Int) + 1 + 6 = a + 7 by omega, show (a : Int) + 1 + 8 = a + 9 by omega] at x1 ⊢
    have hr := zcme_r (zmeaS_v hv f3).1 81 (by decide)
    exact h μ1 _ (g1.mono (fun b j y => y.elim Or.inl (fun y => Or.inr (Or.inl y)))) (by rw [zactS_109 z]; exact x1) (by constructor <;> omega) ⟨fun _ => zactO_109 z, fun _ => hr.1⟩
  · have f4 := zfpc_103 hf (Or.inr z)
    refine kX9_digit ht hT (by constructor <;> omega) (by omega) (kX7_change hx hv (by decide) (by constructor <;> omega) fun μ1 g1 x1 => ?_)
    obtain ⟨r1, r2, r3⟩ := zsetA_r hv 3 (zat T ((a : Int) + 1) - 48)
    exact h μ1 _ (g1.mono (fun b j y => Or.inr (Or.inr (Or.inl y)))) (by rw [zactS_116 z]; exact x1) (by constructor <;> omega) (r3.trans (zactO_116 z).symm)
  · have f6 := zfpc_119 hf z
    refine kX9_digit ht hT (by constructor <;> omega) (by omega) (kX9_digit ht hT (by constructor <;> omega) (by omega) (kX7_change hx hv (by constructor <;> omega) (by constructor <;> omega) fun μ1 g1 x1 => ?_))
    obtain ⟨r1, r2, r3⟩ := zsetA_r hv (4 + (zat T ((a : Int) + 1) - 48)) (zat T ((a : Int) + 2) - 48)
    exact h μ1 _ (g1.mono (fun b j y => Or.inr (Or.inr (Or.inl y)))) (by rw [zactS_119 z]; exact x1) (by constructor <;> omega) (r3.trans (zactO_119 z).symm)
theorem kX11_set {F : Int → zM → Prop} (hM : zMs μ S) (hv : zval S) {w v : Int} (iw : zin w) (iv : zin v) (h1 : zsetO S w v → ∀ μ', zsm (fun b _ => b = 154) μ μ' → zMs μ' (zsetS S w v) → F 1 μ') (h0 : ¬ zsetO S w v → F 0 μ) : qX11_set G w v μ F := by
  obtain ⟨r1, r2, r3⟩ := zsetA_r hv w v
  refine eX11_set fun J C => rX11_set_e C _ _ (kX11_refusesSet hM hv iw iv (fun hO => ⟨by decide, fun _ => ⟨by omega, ?_⟩, fun z => absurd (by decide) z⟩) (fun hO => ⟨by constructor <;> omega, fun z => absurd (r3.1 z) hO, fun _ => h0 hO⟩))
  have := h1 hO _ ((zsm.refl (fun b _ => b = 154) _).up v rfl) (by unfold zsetS; rw [if_pos hO]; exact hM.up _ _)
  exact this
/-- five numbers of an act -/
def zrow5 (μ : zM) (T : List Int) (a : Nat) (x : Int) : Prop := zi μ 178 x = zat T a ∧
  (zat T a = 102 → zi μ 178 (x + 1) = zpnum T ((a : Int) + 1)) ∧
  (zat T a = 103 ∨ zat T a = 116 → zi μ 178 (x + 1) = zat T ((a : Int) + 1) - 48) ∧
  (zat T a = 108 → zi μ 178 (x + 1) = ztwo T ((a : Int) + 1)) ∧
  (zat T a = 109 → zi μ 178 (x + 1) = zpnum T ((a : Int) + 1) ∧ zi μ 178 (x + 2) = ztwo T ((a : Int) + 5) ∧ zi μ 178 (x + 3) = ztwo T ((a : Int) + 7) ∧ zi μ 178 (x + 4) = ztwo T ((a : Int) + 9)) ∧
  (zat T a = 119 → zi μ 178 (x + 1) = zat T ((a : Int) + 1) - 48 ∧ zi μ 178 (x + 2) = zat T ((a : Int) + 2) - 48) ∧
  (zat T a = 101 → zi μ 178 (x + 1) = zat T ((a : Int) + 1) - 97 ∧ zi μ 178 (x + 2) = 4 * ztwo T ((a : Int) + 2) ∧ zi μ 178 (x + 3) = 4 * ztwo T ((a : Int) + 4) ∧ zi μ 178 (x + 4) = 4 * ztwo T ((a : Int) + 6))
theorem zrow5.sm {P : Nat → Int → Prop} {a : Nat} {x : Int} (h : zrow5 μ T a x) (hm : zsm P μ μ') (hP : ∀ j, x ≤ j → j ≤ x + 4 → ¬ P 178 j) : zrow5 μ' T a x := by
  unfold zrow5 at *
  rw [hm.1 _ _ (hP x (by omega) (by omega)), hm.1 _ _ (hP (x + 1) (by omega) (by omega)), hm.1 _ _ (hP (x + 2) (by omega) (by omega)), hm.1 _ _ (hP (x + 3) (by omega) (by omega)), hm.1 _ _ (hP (x + 4) (by omega) (by omega))]
  exact h
theorem kX11_act {F : Int → zM → Prop} (hM : zMs μ S) (hv : zval S) {a : Nat} {x : Int} (hx : 0 ≤ x ∧ x + 4 < 400) (hr : zrow5 μ T a x) (hT : zTv T) (hf : zfpc T (zaf (zat T a)) a) (h1 : zactO S T a → ∀ μ', zsm (fun b _ => b = 154) μ μ' → zMs μ' (zactS S T a) → F 1 μ') (h0 : ¬ zactO S T a → F 0 μ) : qX11_act G x μ F := by
  have hra := zat_r hT (i := (a : Int)) (by omega) (by have := hf.2.1; have := hf.1; omega)
  refine eX11_act fun J C => rX11_act_e C _ ⟨by omega, by omega, by omega, ?_⟩
  rw [hr.1]
  refine ⟨by constructor <;> omega, fun z => ?_, fun z => ?_, fun z => ?_, fun z => ?_, fun z => ?_, fun z => ?_, fun z => ?_⟩
  · have f2 := zfpc_102 hf z
    have h7 := hv.1.2 (zpnum T ((a : Int) + 1)) (by omega) (by omega)
    rw [hr.2.1 z, hM (243 + zpnum T ((a : Int) + 1)) (by omega) (by omega)]
    refine ⟨by omega, by constructor <;> omega, fun y => ?_, fun y => ?_⟩
    · have hO : zfogO S (zpnum T ((a : Int) + 1)) := ⟨f2, by omega⟩
      exact h1 ((zactO_102 z).2 hO) _ ((zsm.refl (fun b _ => b = 154) μ).up (a := 154) (i := 243 + zpnum T ((a : Int) + 1)) 0 rfl) (by rw [zactS_102 z]; unfold zfogS; rw [if_pos hO]; exact hM.up _ _)
    · exact h0 (fun w => by have := ((zactO_102 z).1 w).2; omega)
  · rw [hr.2.2.1 (Or.inl z)]
    have f4 := zfpc_103 hf (Or.inl z)
    exact kX11_set hM hv (by decide) (by constructor <;> omega) (fun hO μ1 g1 m1 => ⟨Or.inr rfl, h1 ((zactO_103 z).2 hO) μ1 g1 (by rw [zactS_103 z]; exact m1)⟩) (fun hO => ⟨Or.inl rfl, h0 (fun w => hO ((zactO_103 z).1 w))⟩)
  · rw [hr.2.2.2.1 z]
    have f5 := zfpc_108 hf z
    exact kX11_set hM hv (by decide) (by constructor <;> omega) (fun hO μ1 g1 m1 => ⟨Or.inr rfl, h1 ((zactO_108 z).2 hO) μ1 g1 (by rw [zactS_108 z]; exact m1)⟩) (fun hO => ⟨Or.inl rfl, h0 (fun w => hO ((zactO_108 z).1 w))⟩)
  · obtain ⟨q1, q2, q3, q4⟩ := hr.2.2.2.2.1 z
    rw [q1, q2, q3, q4]
    exact ⟨by omega, by omega, kX11_putLight hM (zfpc_109 hf z).1 fun μ1 g1 m1 => h1 (zactO_109 z) μ1 g1 (by rw [zactS_109 z]; exact m1)⟩
  · rw [hr.2.2.1 (Or.inr z)]
    have f4 := zfpc_103 hf (Or.inr z)
    exact kX11_set hM hv (by decide) (by constructor <;> omega) (fun hO μ1 g1 m1 => ⟨Or.inr rfl, h1 ((zactO_116 z).2 hO) μ1 g1 (by rw [zactS_116 z]; exact m1)⟩) (fun hO => ⟨Or.inl rfl, h0 (fun w => hO ((zactO_116 z).1 w))⟩)
  · obtain ⟨q1, q2⟩ := hr.2.2.2.2.2.1 z
    rw [q1, q2]
    have f6 := zfpc_119 hf z
    exact kX11_set hM hv (by constructor <;> omega) (by constructor <;> omega) (fun hO μ1 g1 m1 => ⟨Or.inr rfl, h1 ((zactO_119 z).2 hO) μ1 g1 (by rw [zactS_119 z]; exact m1)⟩) (fun hO => ⟨Or.inl rfl, h0 (fun w => hO ((zactO_119 z).1 w))⟩)
  · have z : zat T a = 101 := by have := zaf_at _ hf.1; omega
    obtain ⟨q1, q2, q3, q4⟩ := hr.2.2.2.2.2.2 z
    rw [q1, q2, q3, q4]
    have f1 := zfpc_101 hf z
    exact ⟨by omega, by omega, kX11_paint hM (by omega) fun μ1 g1 m1 => h1 (zactO_101 z) μ1 g1 (by rw [zactS_101 z]; unfold zpaiS; rw [if_pos ⟨by omega, by omega, by omega, by omega⟩]; exact m1)⟩
end
