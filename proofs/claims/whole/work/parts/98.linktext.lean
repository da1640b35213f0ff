/-! the text of a link: its pieces, its length -/
/-- a text as if it were the first level of a state -/
def zsT (T : List Int) (lim : Int) : Int → Int := fun i => if 606 ≤ i then lim else zat T (i - 360)
theorem zsT_at {T : List Int} {lim k : Int} (h0 : 0 ≤ k) (h1 : k < 200) : zsT T lim (zba 0 + k) = zat T k := by
  have e : zba 0 = 360 := rfl
  unfold zsT
  rw [if_neg (by omega), show zba 0 + k - 360 = k by omega]
abbrev zmul (c f : Int) : Int := if c = 110 then f else if c = 111 then 8 else 1
/-- LONG of a text from k to t, where a p is as long as L -/
def zlgo (S : Int → Int) (L a : Int) : Nat → Int → Int → Int
  | 0, _, _ => 0
  | f + 1, k, t =>
    if t ≤ k then 0
    else if zaro (S (zba a + k)) then 1 + zmul (S (zba a + k)) (zf1 S a k) * zlgo S L a f (k + zqp (S (zba a + k)) + 1) (zcl1 S a k) + zlgo S L a f (zcl1 S a k + 1) t
    else if S (zba a + k) = 112 then L + zlgo S L a f (k + 1) t
    else 1 + zlgo S L a f (k + zwd (S (zba a + k))) t
theorem zWF_up {S : Int → Int} : ∀ (f D : Nat) (a k t : Int), zWF S f D a k t → ∀ f' D', f ≤ f' → D ≤ D' → zWF S f' D' a k t
  | 0, _, _, _, _, h => h.elim
  | f + 1, D, a, k, t, h => by
    intro f' D' hf hD
    obtain ⟨g, rfl⟩ : ∃ g, f' = g + 1 := ⟨f' - 1, by omega⟩
    rcases h with h | ⟨h1, h2, h3, h4, h5, h6⟩
    · exact Or.inl h
    · refine Or.inr ⟨h1, h2, h3, fun z => ?_, fun z => ?_, fun z w => ⟨(h6 z w).1, zWF_up f D _ _ _ (h6 z w).2 g D' (by omega) hD⟩⟩
      · obtain ⟨q1, q2, q3, q4, ⟨D1, e1, q5⟩, q6⟩ := h4 z
        exact ⟨q1, q2, q3, q4, ⟨D' - 1, by omega, zWF_up f D1 _ _ _ q5 g (D' - 1) (by omega) (by omega)⟩, zWF_up f D _ _ _ q6 g D' (by omega) hD⟩
      · obtain ⟨q1, q2⟩ := h5 z
        refine ⟨fun y => ?_, zWF_up f D _ _ _ q2 g D' (by omega) hD⟩
        obtain ⟨r1, D1, e1, r2⟩ := q1 y
        exact ⟨r1, D' - 1, by omega, zWF_up f D1 _ _ _ r2 g (D' - 1) (by omega) (by omega)⟩
theorem zTX_up {S : Int → Int} {μ : zM} : ∀ (f : Nat) (r : Option Nat) (a k t : Int), zTX S μ f r a k t → ∀ f', f ≤ f' → zTX S μ f' r a k t
  | 0, _, _, _, _, h => h.elim
  | f + 1, r, a, k, t, h => by
    intro f' hf
    obtain ⟨g, rfl⟩ : ∃ g, f' = g + 1 := ⟨f' - 1, by omega⟩
    rcases h with h | ⟨h1, h2, h3, h4⟩ | ⟨h1, b, h2, h3, h4, h5, h6, h7, h8, h9⟩
    · exact Or.inl h
    · exact Or.inr (Or.inl ⟨h1, h2, fun z => zTX_up f _ _ _ _ (h3 z) g (by omega), zTX_up f _ _ _ _ h4 g (by omega)⟩)
    · exact Or.inr (Or.inr ⟨h1, b, h2, h3, h4, h5, h6, fun z => ⟨zTX_up f _ _ _ _ (h7 z).1 g (by omega), zTX_up f _ _ _ _ (h7 z).2 g (by omega)⟩, fun z => ⟨(h8 z).1, zTX_up f _ _ _ _ (h8 z).2.1 g (by omega), zTX_up f _ _ _ _ (h8 z).2.2 g (by omega)⟩, fun z w => ⟨(h9 z w).1, zTX_up f _ _ _ _ (h9 z w).2 g (by omega)⟩⟩)
/-- what is well made in few steps stands in the memory in few steps -/
theorem zTX_dn {S : Int → Int} {μ : zM} : ∀ (f D : Nat) (r : Option Nat) (a k t : Int), zWF S f D a k t → ∀ f', zTX S μ f' r a k t → zTX S μ f r a k t
  | 0, _, _, _, _, _, h => h.elim
  | f + 1, D, r, a, k, t, h => by
    intro f' hT
    cases f' with
    | zero => exact hT.elim
    | succ g =>
      rcases hT with hT | ⟨h1, h2, h3, h4⟩ | ⟨h1, b, h2, h3, h4, h5, h6, h7, h8, h9⟩
      · exact Or.inl hT
      · rcases h with h | ⟨w1, w2, w3, w4, w5, w6⟩
        · omega
        · obtain ⟨q1, q2⟩ := w5 h2
          exact Or.inr (Or.inl ⟨h1, h2, fun z => by obtain ⟨-, D1, -, r2⟩ := q1 z; exact zTX_dn f D1 _ _ _ _ r2 g (h3 z), zTX_dn f D _ _ _ _ q2 g h4⟩)
      · rcases h with h | ⟨w1, w2, w3, w4, w5, w6⟩
        · omega
        · refine Or.inr (Or.inr ⟨h1, b, h2, h3, h4, h5, h6, fun z => ?_, fun z => ?_, fun z w => ⟨(h9 z w).1, zTX_dn f D _ _ _ _ (w6 z w).2 g (h9 z w).2⟩⟩)
          · obtain ⟨-, -, -, -, ⟨D1, -, q5⟩, q6⟩ := w4 z
            exact ⟨zTX_dn f D1 _ _ _ _ q5 g (h7 z).1, zTX_dn f D _ _ _ _ q6 g (h7 z).2⟩
          · obtain ⟨q1, q2⟩ := w5 z
            obtain ⟨e1, e2, e3⟩ := h8 z
            obtain ⟨-, D1, -, r2⟩ := q1 e1
            exact ⟨e1, zTX_dn f D1 _ _ _ _ r2 g e2, zTX_dn f D _ _ _ _ q2 g e3⟩
theorem zlgo_up {S : Int → Int} {L : Int} : ∀ (f D : Nat) (a k t : Int), zWF S f D a k t → ∀ f', f ≤ f' → zlgo S L a f' k t = zlgo S L a f k t
  | 0, _, _, _, _, h => h.elim
  | f + 1, D, a, k, t, h => by
    intro f' hf
    obtain ⟨g, rfl⟩ : ∃ g, f' = g + 1 := ⟨f' - 1, by omega⟩
    rw [zlgo, zlgo]
    rcases h with h | ⟨h1, h2, h3, h4, h5, h6⟩
    · rw [if_pos (show t ≤ k by omega), if_pos (show t ≤ k by omega)]
    · rw [if_neg (show ¬ t ≤ k by omega), if_neg (show ¬ t ≤ k by omega)]
      by_cases c : zaro (S (zba a + k))
      · rw [if_pos c, if_pos c]
        obtain ⟨-, -, -, -, ⟨D1, -, q5⟩, q6⟩ := h4 c
        rw [zlgo_up f D1 a _ _ q5 g (by omega), zlgo_up f D a _ _ q6 g (by omega)]
      · rw [if_neg c, if_neg c]
        by_cases c2 : S (zba a + k) = 112
        · rw [if_pos c2, if_pos c2, zlgo_up f D a _ _ (h5 c2).2 g (by omega)]
        · rw [if_neg c2, if_neg c2, zlgo_up f D a _ _ (h6 c c2).2 g (by omega)]
theorem zWF_le {S : Int → Int} {f D : Nat} {a k t : Int} (h : zWF S f D a k t) : k ≤ t := by
  cases f with
  | zero => exact h.elim
  | succ f => rcases h with h | ⟨h, -⟩ <;> omega
theorem zik_br {c : Int} (h : 0 ≤ zik c) : c = 99 ∨ c = 109 ∨ c = 121 ∨ c = 107 := by
  unfold zik at h
  by_cases c1 : c = 99
  · omega
  rw [if_neg c1] at h
  by_cases c2 : c = 109
  · omega
  rw [if_neg c2] at h
  by_cases c3 : c = 121
  · omega
  rw [if_neg c3] at h
  by_cases c4 : c = 107
  · omega
  rw [if_neg c4] at h
  omega
theorem zclo_1 {S : Int → Int} {b : Int} {n d : Nat} {k : Int} (h1 : S (b + k) ≠ 41) (h2 : S (b + k) ≠ 40) : zclo S b (n + 1) d k = zclo S b n d (k + 1) := by rw [zclo, if_neg h1, if_neg h2]
theorem zclo_m {S : Int → Int} {b : Int} : ∀ (m n d : Nat) (k : Int), (∀ i : Int, 0 ≤ i → i < m → S (b + (k + i)) ≠ 41 ∧ S (b + (k + i)) ≠ 40) → zclo S b (n + m) d k = zclo S b n d (k + m)
  | 0, n, d, k, _ => by rw [show k + ((0 : Nat) : Int) = k by omega]; rfl
  | m + 1, n, d, k, h => by
    have h0 := h 0 (by decide) (by omega)
    rw [show k + 0 = k by omega] at h0
    rw [show n + (m + 1) = (n + m) + 1 by omega, zclo_1 h0.1 h0.2, zclo_m m n d (k + 1) (fun i i0 i1 => by have := h (i + 1) (by omega) (by omega); rw [show k + 1 + i = k + (i + 1) by omega]; exact this), show k + 1 + (m : Int) = k + ((m + 1 : Nat) : Int) by omega]
/-- what stands behind a letter -/
theorem zfok_1 {S : Int → Int} {a k : Int} (hk : zkin (S (zba a + k))) (h : zfok (S (zba a + k)) (zf1 S a k) (zf2 S a k)) :
    (S (zba a + k) ≠ 41 ∧ S (zba a + k) ≠ 40) ∧ (zaro (S (zba a + k)) ∨ 2 ≤ zwd (S (zba a + k)) → S (zba a + (k + 1)) ≠ 41 ∧ S (zba a + (k + 1)) ≠ 40 ∧ S (zba a + (k + 1)) ≠ 112) ∧ (S (zba a + k) = 105 ∨ S (zba a + k) = 106 ∨ 3 ≤ zwd (S (zba a + k)) → S (zba a + (k + 2)) ≠ 41 ∧ S (zba a + (k + 2)) ≠ 40 ∧ S (zba a + (k + 2)) ≠ 112) := by
  obtain ⟨q1, q2, q3, q4, q5, q6, q7⟩ := h
  unfold zkin at hk
  refine ⟨by omega, fun z => ?_, fun z => ?_⟩
  · rw [show zba a + (k + 1) = zba a + k + 1 by omega]
    by_cases c : S (zba a + k) = 103 ∨ S (zba a + k) = 117 ∨ S (zba a + k) = 110
    · unfold zf1 at q2 q3 q5
      rw [if_neg (by omega), if_pos c] at q2 q3 q5
      omega
    · have c2 : S (zba a + k) = 97 ∨ S (zba a + k) = 115 ∨ S (zba a + k) = 119 ∨ S (zba a + k) = 104 ∨ S (zba a + k) = 120 ∨ S (zba a + k) = 111 ∨ S (zba a + k) = 105 ∨ S (zba a + k) = 106 := by
        unfold zwd at z
        by_cases c3 : S (zba a + k) = 103 ∨ S (zba a + k) = 117 ∨ S (zba a + k) = 104
        · omega
        · rw [if_neg c3] at z
          by_cases c4 : S (zba a + k) = 97 ∨ S (zba a + k) = 115 ∨ S (zba a + k) = 119 ∨ S (zba a + k) = 120
          · omega
          · rw [if_neg c4] at z; omega
      have q4 := q4 c2
      unfold zf1 at q4
      rw [if_neg (by omega), if_neg c] at q4
      have := zik_br q4.1
      omega
  · rw [show zba a + (k + 2) = zba a + k + 2 by omega]
    have c2 : S (zba a + k) = 97 ∨ S (zba a + k) = 115 ∨ S (zba a + k) = 119 ∨ S (zba a + k) = 120 ∨ S (zba a + k) = 105 ∨ S (zba a + k) = 106 := by
      unfold zwd at z
      by_cases c3 : S (zba a + k) = 103 ∨ S (zba a + k) = 117 ∨ S (zba a + k) = 104
      · rw [if_pos c3] at z; omega
      · rw [if_neg c3] at z
        by_cases c4 : S (zba a + k) = 97 ∨ S (zba a + k) = 115 ∨ S (zba a + k) = 119 ∨ S (zba a + k) = 120
        · omega
        · rw [if_neg c4] at z; omega
    by_cases c : S (zba a + k) = 120 ∨ S (zba a + k) = 106
    · have q7 := q7 c
      unfold zf2 at q7
      rw [if_pos c] at q7
      have := zik_br q7.1
      omega
    · have q6 := q6 (by omega)
      unfold zf2 at q6
      rw [if_neg c] at q6
      omega
/-- the look for the closing bracket passes what is well made -/
theorem zclo_pass {S : Int → Int} : ∀ (f D : Nat) (a k t : Int), zWF S f D a k t → ∀ (n d : Nat), zclo S (zba a) (n + (t - k).toNat) d k = zclo S (zba a) n d t
  | 0, _, _, _, _, h => h.elim
  | f + 1, D, a, k, t, h => by
    intro n d
    rcases h with h | ⟨h1, h2, h3, h4, h5, h6⟩
    · subst h; rw [show (k - k).toNat = 0 by omega]; rfl
    · obtain ⟨e0, e1, e2⟩ := zfok_1 h2 h3
      by_cases c : zaro (S (zba a + k))
      · obtain ⟨b1, b2, b3, b4, ⟨D1, -, b5⟩, b6⟩ := h4 c
        have hq := zqp_r (S (zba a + k))
        have hq3 : zqp (S (zba a + k)) = 3 → S (zba a + k) = 105 ∨ S (zba a + k) = 106 := fun z => by
          by_cases y : S (zba a + k) = 110 ∨ S (zba a + k) = 111
          · unfold zqp at z; rw [if_pos y] at z; omega
          · omega
        have p1 := zclo_pass f D1 a _ _ b5
        have p2 := zclo_pass f D a _ _ b6
        generalize hcl : zcl1 S a k = cl at *
        generalize hqq : zqp (S (zba a + k)) = q at *
        have s1 : zclo S (zba a) (n + (t - k).toNat) d k = zclo S (zba a) (n + (t - (k + q)).toNat) d (k + q) := by
          rcases hq with hq | hq
          · rw [hq, show n + (t - k).toNat = n + (t - (k + 2)).toNat + 2 by omega, zclo_m 2 _ _ _ (fun i i0 i1 => ?_)]
            · rfl
            · by_cases z : i = 0
              · rw [z, show k + 0 = k by omega]; exact e0
              · rw [show i = 1 by omega]; have := e1 (Or.inl c); exact ⟨this.1, this.2.1⟩
          · rw [hq, show n + (t - k).toNat = n + (t - (k + 3)).toNat + 3 by omega, zclo_m 3 _ _ _ (fun i i0 i1 => ?_)]
            · rfl
            · by_cases z : i = 0
              · rw [z, show k + 0 = k by omega]; exact e0
              · by_cases z1 : i = 1
                · rw [z1]; have := e1 (Or.inl c); exact ⟨this.1, this.2.1⟩
                · rw [show i = 2 by omega]; have := e2 (by have := hq3 hq; omega); exact ⟨this.1, this.2.1⟩
        rw [s1]
        rw [show zba a + k + q = zba a + (k + q) by omega] at b1
        rw [show n + (t - (k + q)).toNat = (n + (t - (cl + 1)).toNat + 1 + (cl - (k + q + 1)).toNat) + 1 by omega, zclo, if_neg (by omega), if_pos b1, p1]
        rw [zclo, if_pos b2, if_neg (by omega), show d + 1 - 1 = d by omega, p2]
      · by_cases c2 : S (zba a + k) = 112
        · have p := zclo_pass f D a _ _ (h5 c2).2
          have hle := zWF_le (h5 c2).2
          rw [show n + (t - k).toNat = n + (t - (k + 1)).toNat + 1 by omega, zclo_1 e0.1 e0.2, p]
        · obtain ⟨g1, g2⟩ := h6 c c2
          have p := zclo_pass f D a _ _ g2
          rcases zwd_r (S (zba a + k)) with w | w | w
          · rw [w] at p g1
            rw [show n + (t - k).toNat = n + (t - (k + 1)).toNat + 1 by omega, zclo_1 e0.1 e0.2, p]
          · rw [w] at p g1
            rw [show n + (t - k).toNat = n + (t - (k + 2)).toNat + 2 by omega, zclo_m 2 _ _ _ (fun i i0 i1 => ?_)]
            · exact p n d
            · by_cases z : i = 0
              · rw [z, show k + 0 = k by omega]; exact e0
              · rw [show i = 1 by omega]; have := e1 (Or.inr (by omega)); exact ⟨this.1, this.2.1⟩
          · rw [w] at p g1
            rw [show n + (t - k).toNat = n + (t - (k + 3)).toNat + 3 by omega, zclo_m 3 _ _ _ (fun i i0 i1 => ?_)]
            · exact p n d
            · by_cases z : i = 0
              · rw [z, show k + 0 = k by omega]; exact e0
              · by_cases z1 : i = 1
                · rw [z1]; have := e1 (Or.inr (by omega)); exact ⟨this.1, this.2.1⟩
                · rw [show i = 2 by omega]; have := e2 (Or.inr (Or.inr (by omega))); exact ⟨this.1, this.2.1⟩
/-- the closing bracket of what is well made within -/
theorem zcl1_e {S : Int → Int} {f D : Nat} {a k e : Int} (h : zWF S f D a (k + zqp (S (zba a + k)) + 1) e) (h41 : S (zba a + e) = 41) (hl : e - (k + zqp (S (zba a + k)) + 1) < 64) : zcl1 S a k = e := by
  have hle := zWF_le h
  have p := zclo_pass f D a _ _ h (63 - (e - (k + zqp (S (zba a + k)) + 1)).toNat + 1) 0
  rw [show 63 - (e - (k + zqp (S (zba a + k)) + 1)).toNat + 1 + (e - (k + zqp (S (zba a + k)) + 1)).toNat = 64 by omega] at p
  unfold zcl1
  rw [p, zclo, if_pos h41, if_pos rfl]
