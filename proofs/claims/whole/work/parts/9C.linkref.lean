/-! a link told: the reference -/
noncomputable def zhpI (T : List Int) : Int := @ite _ (∃ k : Nat, k < T.length ∧ zat T k = 112) (Classical.propDecidable _) 1 0
/-- the AGE, the LONG that are told -/
noncomputable def zlnG (S : Int → Int) (T : List Int) : Int := if T.length = 0 then 0 else if zhpI T = 0 then 1 else S 612 + 1
def zlnV (S : Int → Int) (T : List Int) : Int := zlgo (zsT T (S 704)) (S 613) 0 (T.length + 1) 0 T.length
def zlnW (S : Int → Int) (T : List Int) (g v : Int) : Int → Int := fun i =>
  if i = 612 then g else if i = 613 then v else if g = 0 then S i
  else if i = 600 + g - 1 then T.length else if i = 606 + g - 1 then S 704
  else if 360 + 40 * (g - 1) ≤ i ∧ i < 360 + 40 * (g - 1) + T.length then zat T (i - (360 + 40 * (g - 1))) else S i
noncomputable def zliS (S : Int → Int) (T : List Int) : Int → Int := if 0 ≤ zwr0 T 1 40 then S else if 500 < zlnV S T then S else if 6 < zlnG S T then S else zlnW S T (zlnG S T) (zlnV S T)
noncomputable def zliU (S : Int → Int) (U : List (Int → Int)) (T : List Int) : List (Int → Int) := if 0 ≤ zwr0 T 1 40 then U else if 500 < zlnV S T then U else if 6 < zlnG S T then U else zpush U S
noncomputable def zliA (S : Int → Int) (T : List Int) : Int := if 0 ≤ zwr0 T 1 40 then -1 - zwr0 T 1 40 else if 500 < zlnV S T then -200 else if 6 < zlnG S T then -201 else zlnV S T
theorem zhpI_r (T : List Int) : (zhpI T = 1 ∧ ∃ k : Nat, k < T.length ∧ zat T k = 112) ∨ (zhpI T = 0 ∧ ∀ k : Nat, k < T.length → zat T k ≠ 112) := by
  unfold zhpI
  by_cases h : ∃ k : Nat, k < T.length ∧ zat T k = 112
  · rw [if_pos h]; exact Or.inl ⟨rfl, h⟩
  · rw [if_neg h]; exact Or.inr ⟨rfl, fun k hk z => h ⟨k, hk, z⟩⟩
/-- what a LONG may be -/
def zbd : Nat → Int
  | 0 => 1000
  | D + 1 => 10 * zbd D
theorem zbd_p : ∀ D, 1000 ≤ zbd D
  | 0 => Int.le_refl _
  | D + 1 => by have := zbd_p D; rw [zbd]; omega
theorem zlgo_r {S : Int → Int} {L : Int} (hL : 0 ≤ L ∧ L ≤ 500) : ∀ (f D : Nat) (k t : Int), zWF S f D 0 k t → 0 ≤ zlgo S L 0 f k t ∧ zlgo S L 0 f k t ≤ zbd D * (t - k)
  | 0, _, _, _, h => h.elim
  | f + 1, D, k, t, h => by
    have hb := zbd_p D
    rw [zlgo]
    rcases h with h | ⟨h1, h2, h3, h4, h5, h6⟩
    · rw [if_pos (by omega), h, Int.sub_self, Int.mul_zero]; omega
    · rw [if_neg (by omega)]
      by_cases c : zaro (S (zba 0 + k))
      · rw [if_pos c]
        obtain ⟨-, -, q3, q4, ⟨D1, e1, q5⟩, q6⟩ := h4 c
        clear h4 h5 h6
        have i1 := zlgo_r hL f D1 _ _ q5
        have i2 := zlgo_r hL f D _ _ q6
        have hq := zqp_r (S (zba 0 + k))
        have hm : 0 ≤ zmul (S (zba 0 + k)) (zf1 S 0 k) ∧ zmul (S (zba 0 + k)) (zf1 S 0 k) ≤ 9 := by
          obtain ⟨o1, o2, o3, o4, o5, o6, o7⟩ := h3
          unfold zmul
          by_cases z : S (zba 0 + k) = 110
          · rw [if_pos z]; exact o5 z
          · rw [if_neg z]; split <;> omega
        generalize zmul (S (zba 0 + k)) (zf1 S 0 k) = m at *
        generalize zlgo S L 0 f (k + zqp (S (zba 0 + k)) + 1) (zcl1 S 0 k) = x at *
        generalize zlgo S L 0 f (zcl1 S 0 k + 1) t = y at *
        generalize zcl1 S 0 k = e at *
        generalize zqp (S (zba 0 + k)) = q at *
        have hb1 := zbd_p D1
        rw [e1] at hb i2 ⊢
        rw [zbd] at hb i2 ⊢
        generalize zbd D1 = B at *
        have m1 : m * x ≤ 9 * x := Int.mul_le_mul_of_nonneg_right hm.2 i1.1
        have m0 : 0 ≤ m * x := Int.mul_nonneg hm.1 i1.1
        rw [show t - k = (t - (e + 1)) + ((e - (k + q + 1)) + (q + 2)) by omega, Int.mul_add, Int.mul_add]
        have m2 : 10 * B * (e - (k + q + 1)) = 10 * (B * (e - (k + q + 1))) := Int.mul_assoc _ _ _
        have m3 : 10 * B * (q + 2) = 10 * (B * (q + 2)) := Int.mul_assoc _ _ _
        have m4 : B * 1 ≤ B * (q + 2) := Int.mul_le_mul_of_nonneg_left (by omega) (by omega)
        rw [Int.mul_one] at m4
        have i12 := i1.2
        have i22 := i2.2
        generalize B * (e - (k + q + 1)) = X at *
        generalize 10 * B * (t - (e + 1)) = Y at *
        generalize B * (q + 2) = Z at *
        omega
      · rw [if_neg c]
        by_cases c2 : S (zba 0 + k) = 112
        · rw [if_pos c2]
          have i2 := zlgo_r hL f D _ _ (h5 c2).2
          rw [show t - k = (t - (k + 1)) + 1 by omega, Int.mul_add, Int.mul_one]
          generalize zlgo S L 0 f (k + 1) t = y at *
          generalize zbd D * (t - (k + 1)) = Y at *
          omega
        · rw [if_neg c2]
          have i2 := zlgo_r hL f D _ _ (h6 c c2).2
          have hw := zwd_r (S (zba 0 + k))
          generalize zwd (S (zba 0 + k)) = w at *
          rw [show t - k = (t - (k + w)) + w by omega, Int.mul_add]
          have m4 : zbd D * 1 ≤ zbd D * w := Int.mul_le_mul_of_nonneg_left (by omega) (by omega)
          rw [Int.mul_one] at m4
          generalize zlgo S L 0 f (k + w) t = y at *
          generalize zbd D * (t - (k + w)) = Y at *
          generalize zbd D * w = Z at *
          omega
theorem zkin_a {c : Int} (h : zkin c) : c < 128 := by unfold zkin zaro at h; omega
/-- signs of what is well made -/
theorem zWF_asc {S : Int → Int} : ∀ (f D : Nat) (k t : Int), zWF S f D 0 k t → ∀ i, k ≤ i → i < t → S (zba 0 + i) < 128
  | 0, _, _, _, h => h.elim
  | f + 1, D, k, t, h => by
    intro i i0 i1
    rcases h with h | ⟨h1, h2, h3, h4, h5, h6⟩
    · omega
    · have hk : S (zba 0 + k) < 128 := zkin_a h2
      have o1 : zaro (S (zba 0 + k)) ∨ 2 ≤ zwd (S (zba 0 + k)) → S (zba 0 + (k + 1)) < 128 := fun z => by
        clear h4 h5 h6
        obtain ⟨q1, q2, q3, q4, q5, q6, q7⟩ := h3
        rw [show zba 0 + (k + 1) = zba 0 + k + 1 by omega]
        by_cases c : S (zba 0 + k) = 103 ∨ S (zba 0 + k) = 117 ∨ S (zba 0 + k) = 110
        · unfold zf1 at q2 q3 q5
          rw [if_neg (by omega), if_pos c] at q2 q3 q5
          omega
        · have c2 : S (zba 0 + k) = 97 ∨ S (zba 0 + k) = 115 ∨ S (zba 0 + k) = 119 ∨ S (zba 0 + k) = 104 ∨ S (zba 0 + k) = 120 ∨ S (zba 0 + k) = 111 ∨ S (zba 0 + k) = 105 ∨ S (zba 0 + k) = 106 := by
            unfold zwd at z
            by_cases c3 : S (zba 0 + k) = 103 ∨ S (zba 0 + k) = 117 ∨ S (zba 0 + k) = 104
            · omega
            · rw [if_neg c3] at z
              by_cases c4 : S (zba 0 + k) = 97 ∨ S (zba 0 + k) = 115 ∨ S (zba 0 + k) = 119 ∨ S (zba 0 + k) = 120
              · omega
              · rw [if_neg c4] at z; omega
          have q4 := q4 c2
          unfold zf1 at q4
          rw [if_neg (by omega), if_neg c] at q4
          have := zik_br q4.1
          omega
      have o2 : S (zba 0 + k) = 105 ∨ S (zba 0 + k) = 106 ∨ 3 ≤ zwd (S (zba 0 + k)) → S (zba 0 + (k + 2)) < 128 := fun z => by
        clear h4 h5 h6 o1
        obtain ⟨q1, q2, q3, q4, q5, q6, q7⟩ := h3
        rw [show zba 0 + (k + 2) = zba 0 + k + 2 by omega]
        have c2 : S (zba 0 + k) = 97 ∨ S (zba 0 + k) = 115 ∨ S (zba 0 + k) = 119 ∨ S (zba 0 + k) = 120 ∨ S (zba 0 + k) = 105 ∨ S (zba 0 + k) = 106 := by
          unfold zwd at z
          by_cases c3 : S (zba 0 + k) = 103 ∨ S (zba 0 + k) = 117 ∨ S (zba 0 + k) = 104
          · rw [if_pos c3] at z; omega
          · rw [if_neg c3] at z
            by_cases c4 : S (zba 0 + k) = 97 ∨ S (zba 0 + k) = 115 ∨ S (zba 0 + k) = 119 ∨ S (zba 0 + k) = 120
            · omega
            · rw [if_neg c4] at z; omega
        by_cases c : S (zba 0 + k) = 120 ∨ S (zba 0 + k) = 106
        · have q7 := q7 c
          unfold zf2 at q7
          rw [if_pos c] at q7
          have := zik_br q7.1
          omega
        · have q6 := q6 (by omega)
          unfold zf2 at q6
          rw [if_neg c] at q6
          omega
      by_cases e0 : i = k
      · rw [e0]; exact hk
      by_cases c : zaro (S (zba 0 + k))
      · obtain ⟨b1, b2, b3, b4, ⟨D1, -, b5⟩, b6⟩ := h4 c
        have r1 := zWF_asc f D1 _ _ b5
        have r2 := zWF_asc f D _ _ b6
        clear h4 h5 h6 b5 b6
        have hq := zqp_r (S (zba 0 + k))
        have hq3 : zqp (S (zba 0 + k)) = 3 → S (zba 0 + k) = 105 ∨ S (zba 0 + k) = 106 := fun z => by
          by_cases y : S (zba 0 + k) = 110 ∨ S (zba 0 + k) = 111
          · unfold zqp at z; rw [if_pos y] at z; omega
          · omega
        generalize zcl1 S 0 k = cl at *
        generalize hqq : zqp (S (zba 0 + k)) = q at *
        by_cases y1 : cl + 1 ≤ i
        · exact r2 i y1 i1
        by_cases y2 : i = cl
        · rw [y2, b2]; decide
        by_cases y3 : k + q + 1 ≤ i
        · exact r1 i y3 (by omega)
        by_cases y4 : i = k + q
        · rw [y4, show zba 0 + (k + q) = zba 0 + k + q by omega, b1]; decide
        by_cases y5 : i = k + 1
        · rw [y5]; exact o1 (Or.inl c)
        · rw [show i = k + 2 by omega]; exact o2 (by have := hq3 (by omega); omega)
      · by_cases c2 : S (zba 0 + k) = 112
        · exact zWF_asc f D _ _ (h5 c2).2 i (by omega) i1
        · obtain ⟨g1, g2⟩ := h6 c c2
          have r := zWF_asc f D _ _ g2
          clear h4 h5 h6
          have hw := zwd_r (S (zba 0 + k))
          by_cases y : k + zwd (S (zba 0 + k)) ≤ i
          · exact r i y i1
          by_cases y5 : i = k + 1
          · rw [y5]; exact o1 (Or.inr (by omega))
          · rw [show i = k + 2 by omega]; exact o2 (Or.inr (Or.inr (by omega)))
/-- more that a state is -/
def zno (S : Int → Int) : Nat → Int → Int → Int → Prop
  | 0, _, _, _ => False
  | f + 1, a, k, t => k = t ∨ (k < t ∧ S (zba a + k) = 112 ∧ (0 < a → zno S f (a - 1) 0 (S (600 + a - 1))) ∧ zno S f a (k + 1) t)
def zLe (S : Int → Int) : Prop := 0 ≤ S 613 ∧ (S 612 ≤ 0 → S 613 = 0) ∧ (0 < S 612 → zWF S (64 * S 612).toNat (4 * S 612).toNat (S 612 - 1) 0 (S (600 + S 612 - 1)) ∧ (zno S 400 (S 612 - 1) 0 (S (600 + S 612 - 1)) → S 613 = 0))
/-- a right text is not too long -/
theorem zlnV_r {S : Int → Int} {T : List Int} (hv : zval S) (hle : zLe S) (hlim : 8 ≤ S 704 ∧ S 704 ≤ 32) (hT : zTv T) (hw : ¬ 0 ≤ zwr0 T 1 40) : 0 ≤ zlnV S T ∧ zlnV S T ≤ 40000000 := by
  obtain ⟨h1, h2⟩ := zlink_ok hT hlim hw
  have h := zlgo_r (S := zsT T (S 704)) (L := S 613) ⟨hle.1, hv.2.2.2.2.2.2.2.2⟩ (T.length + 1) 3 0 T.length h2
  have e : zbd 3 = 1000000 := rfl
  unfold zlnV
  rw [e] at h
  omega
