/-! what a link is does not hang on other numbers of the state -/
def zagr (S S' : Int → Int) (a : Int) : Prop := ∀ i, (360 ≤ i ∧ i < 400 + 40 * a) ∨ (600 ≤ i ∧ i ≤ 600 + a) ∨ (606 ≤ i ∧ i ≤ 606 + a) → S' i = S i
theorem zclo_c {S S' : Int → Int} {b : Int} : ∀ (f d : Nat) (k : Int), (∀ i, k ≤ i → i ≤ zclo S b f d k → S' (b + i) = S (b + i)) → zclo S' b f d k = zclo S b f d k
  | 0, _, _, _ => rfl
  | f + 1, d, k, h => by
    have h0 := h k (Int.le_refl _) (zclo_ge S b (f + 1) d k)
    rw [zclo] at h
    rw [zclo, zclo, h0]
    by_cases c1 : S (b + k) = 41
    · rw [if_pos c1] at h ⊢
      rw [if_pos c1]
      by_cases c2 : d = 0
      · rw [if_pos c2, if_pos c2]
      · rw [if_neg c2] at h ⊢
        rw [if_neg c2]
        exact zclo_c f (d - 1) (k + 1) (fun i i0 i1 => h i (by omega) i1)
    · rw [if_neg c1] at h ⊢
      rw [if_neg c1]
      by_cases c2 : S (b + k) = 40
      · rw [if_pos c2] at h ⊢
        rw [if_pos c2]
        exact zclo_c f (d + 1) (k + 1) (fun i i0 i1 => h i (by omega) i1)
      · rw [if_neg c2] at h ⊢
        rw [if_neg c2]
        exact zclo_c f d (k + 1) (fun i i0 i1 => h i (by omega) i1)
theorem zfok_c {c f s f' s' : Int} (h1 : zuf1 c → f' = f) (h2 : zus1 c → s' = s) (h : zfok c f s) : zfok c f' s' := by
  obtain ⟨q1, q2, q3, q4, q5, q6, q7⟩ := h
  refine ⟨fun z => ?_, fun z => ?_, fun z => ?_, fun z => ?_, fun z => ?_, fun z => ?_, fun z => ?_⟩
  · rw [h1 (by unfold zuf1; omega)]; exact q1 z
  · rw [h1 (by unfold zuf1; omega)]; exact q2 z
  · rw [h1 (by unfold zuf1; omega)]; exact q3 z
  · rw [h1 (by unfold zuf1 zaro; omega)]; exact q4 z
  · rw [h1 (by unfold zuf1 zaro; omega)]; exact q5 z
  · rw [h2 (by unfold zus1; omega)]; exact q6 z
  · rw [h2 (by unfold zus1; omega)]; exact q7 z
theorem zqp_r (c : Int) : zqp c = 2 ∨ zqp c = 3 := by unfold zqp; split <;> omega
theorem zqp_3 {c : Int} (h : c = 105 ∨ c = 106) : zqp c = 3 := by unfold zqp; rw [if_neg (by omega)]
theorem zwd_r (c : Int) : zwd c = 1 ∨ zwd c = 2 ∨ zwd c = 3 := by unfold zwd; split <;> (try split) <;> omega
theorem zwd_2 {c : Int} (h : c = 103 ∨ c = 117 ∨ c = 104) : zwd c = 2 := by unfold zwd; rw [if_pos h]
theorem zwd_3 {c : Int} (h : c = 97 ∨ c = 115 ∨ c = 119 ∨ c = 120) : zwd c = 3 := by unfold zwd; rw [if_neg (by omega), if_pos h]
theorem zTX_c {S S' : Int → Int} (μ : zM) : ∀ (f D : Nat) (a k t : Int), 0 ≤ a → 0 ≤ k → t ≤ 40 → zagr S S' a → zWF S f D a k t → zWF S' f D a k t ∧ ∀ r, zTX S μ f r a k t → zTX S' μ f r a k t
  | 0, _, _, _, _, _, _, _, _, h => h.elim
  | f + 1, D, a, k, t, a0, k0, t0, hg, h => by
    rcases h with h | ⟨h1, h2, h3, h4, h5, h6⟩
    · refine ⟨Or.inl h, fun r hr => ?_⟩
      rcases hr with hr | hr | hr
      · exact Or.inl hr
      · exact absurd hr.1 (by omega)
      · exact absurd hr.1 (by omega)
    · have hba : zba a = 360 + 40 * a := rfl
      have ec : S' (zba a + k) = S (zba a + k) := hg _ (by omega)
      have hu1 : zuf1 (S (zba a + k)) → S (zba a + k) ≠ 108 → k + 1 < t := fun u n => by
        by_cases ca : zaro (S (zba a + k))
        · have := (h4 ca).2.2.1; have := (h4 ca).2.2.2.1; have := zqp_r (S (zba a + k)); omega
        · have hz : S (zba a + k) ≠ 112 := fun z => by rw [z] at u; revert u; decide
          have := (h6 ca hz).1
          by_cases cw : S (zba a + k) = 103 ∨ S (zba a + k) = 117 ∨ S (zba a + k) = 104
          · rw [zwd_2 cw] at this; omega
          · rw [zwd_3 (by unfold zuf1 zaro at *; omega)] at this; omega
      have hu2 : zus1 (S (zba a + k)) → k + 2 < t := fun u => by
        by_cases ca : zaro (S (zba a + k))
        · have q1 := (h4 ca).2.2.1; have := (h4 ca).2.2.2.1; rw [zqp_3 (by unfold zus1 zaro at *; omega)] at q1; omega
        · have hz : S (zba a + k) ≠ 112 := fun z => by rw [z] at u; revert u; decide
          have := (h6 ca hz).1
          rw [zwd_3 (by unfold zus1 zaro at *; omega)] at this; omega
      have e1 : zuf1 (S (zba a + k)) → zf1 S' a k = zf1 S a k := fun u => by
        unfold zf1
        rw [ec]
        by_cases c8 : S (zba a + k) = 108
        · rw [if_pos c8, if_pos c8]; exact hg _ (by omega)
        · rw [if_neg c8, if_neg c8, hg (zba a + k + 1) (by have := hu1 u c8; omega)]
      have e2 : zus1 (S (zba a + k)) → zf2 S' a k = zf2 S a k := fun u => by
        unfold zf2
        rw [ec, hg (zba a + k + 2) (by have := hu2 u; omega)]
      have ez : zaro (S (zba a + k)) → zcl1 S' a k = zcl1 S a k := fun u => by
        obtain ⟨p1, p2, p3, p4, _, _⟩ := h4 u
        show zclo S' (zba a) 64 0 (k + zqp (S' (zba a + k)) + 1) = zclo S (zba a) 64 0 (k + zqp (S (zba a + k)) + 1)
        rw [ec]
        have := zqp_r (S (zba a + k))
        exact zclo_c 64 0 _ (fun i i0 i1 => hg _ (by have : i ≤ zcl1 S a k := i1; omega))
      have hgd : 0 < a → zagr S S' (a - 1) := fun z i hi => hg i (by omega)
      have esz : 0 < a → S' (600 + a - 1) = S (600 + a - 1) := fun z => hg _ (by omega)
      have hA : zaro (S (zba a + k)) → (∀ D', zWF S f D' a (k + zqp (S (zba a + k)) + 1) (zcl1 S a k) → zWF S' f D' a (k + zqp (S (zba a + k)) + 1) (zcl1 S a k) ∧ ∀ r, zTX S μ f r a (k + zqp (S (zba a + k)) + 1) (zcl1 S a k) → zTX S' μ f r a (k + zqp (S (zba a + k)) + 1) (zcl1 S a k)) := fun u D' hw => by
        obtain ⟨p1, p2, p3, p4, _, _⟩ := h4 u
        have := zqp_r (S (zba a + k))
        exact zTX_c μ f D' a _ _ a0 (by omega) (by omega) hg hw
      have hB : ∀ m, k ≤ m → zWF S f D a m t → zWF S' f D a m t ∧ ∀ r, zTX S μ f r a m t → zTX S' μ f r a m t := fun m hm hw => zTX_c μ f D a m t a0 (by omega) t0 hg hw
      have hP : S (zba a + k) = 112 → 0 < a → (∀ D', zWF S f D' (a - 1) 0 (S (600 + a - 1)) → zWF S' f D' (a - 1) 0 (S (600 + a - 1)) ∧ ∀ r, zTX S μ f r (a - 1) 0 (S (600 + a - 1)) → zTX S' μ f r (a - 1) 0 (S (600 + a - 1))) := fun u z D' hw =>
        zTX_c μ f D' (a - 1) 0 _ (by omega) (Int.le_refl _) (((h5 u).1 z).1.2) (hgd z) hw
      have hwd := zwd_r (S (zba a + k))
      have hqp := zqp_r (S (zba a + k))
      constructor
      · refine Or.inr ⟨h1, by rw [ec]; exact h2, by rw [ec]; exact zfok_c e1 e2 h3, ?_, ?_, ?_⟩
        · rw [ec]
          intro u
          obtain ⟨p1, p2, p3, p4, ⟨D', p5, p6⟩, p7⟩ := h4 u
          rw [ez u]
          exact ⟨by rw [hg _ (by omega)]; exact p1, by rw [hg _ (by omega)]; exact p2, p3, p4, ⟨D', p5, (hA u D' p6).1⟩, (hB _ (by omega) p7).1⟩
        · rw [ec]
          intro u
          refine ⟨fun z => ?_, (hB _ (by omega) (h5 u).2).1⟩
          obtain ⟨p1, D', p5, p6⟩ := (h5 u).1 z
          rw [esz z]
          exact ⟨p1, D', p5, (hP u z D' p6).1⟩
        · rw [ec]
          intro u v
          exact ⟨(h6 u v).1, (hB _ (by omega) (h6 u v).2).1⟩
      · intro r hr
        rcases hr with hr | ⟨r1, r2, r3, r4⟩ | ⟨r1, b, r2, r3, r4, r5, r6, r7, r8, r9⟩
        · exact absurd hr.1 (by omega)
        · refine Or.inr (Or.inl ⟨r1, by rw [ec]; exact r2, fun z => ?_, (hB _ (by omega) (h5 r2).2).2 r r4⟩)
          obtain ⟨p1, D', p5, p6⟩ := (h5 r2).1 z
          rw [esz z]
          exact (hP r2 z D' p6).2 none (r3 z)
        · refine Or.inr (Or.inr ⟨r1, b, r2, r3, by rw [ec]; exact r4, ?_, ?_, ?_, ?_, ?_⟩)
          · rw [ec]; intro u; rw [e1 u]; exact r5 u
          · rw [ec]; intro u; rw [e2 u]; exact r6 u
          · rw [ec]
            intro u
            rw [ez u]
            obtain ⟨p1, p2, p3, p4, ⟨D', p5, p6⟩, p7⟩ := h4 u
            exact ⟨(hA u D' p6).2 _ (r7 u).1, (hB _ (by omega) p7).2 _ (r7 u).2⟩
          · rw [ec]
            intro u
            obtain ⟨z, q1, q2⟩ := r8 u
            obtain ⟨p1, D', p5, p6⟩ := (h5 u).1 z
            rw [esz z]
            exact ⟨z, (hP u z D' p6).2 _ q1, (hB _ (by omega) (h5 u).2).2 _ q2⟩
          · rw [ec]
            intro u v
            exact ⟨(r9 u v).1, (hB _ (by omega) (h6 u v).2).2 _ (r9 u v).2⟩
theorem zLw_c {S S' : Int → Int} (hs : ∀ i, 360 ≤ i → i < 614 → S' i = S i) (h : zLw S) : zLw S' := by
  obtain ⟨h1, h2⟩ := h
  have e := hs 612 (by decide) (by decide)
  refine ⟨by rw [e]; exact h1, fun z => ?_⟩
  rw [e] at z ⊢
  rw [hs _ (by omega) (by omega)]
  obtain ⟨w1, w2⟩ := h2 z
  exact ⟨w1, (zTX_c (fun _ _ => 0, fun _ _ => none, fun _ => (0, 0), 0) 400 24 (S 612 - 1) 0 _ (by omega) (Int.le_refl _) w1.2 (fun i hi => hs i (by omega) (by omega)) w2).1⟩
theorem zLnk_c {S S' : Int → Int} {μ : zM} {r : Option Nat} (hs : ∀ i, 360 ≤ i → i < 614 → S' i = S i) (hw : zLw S) (h : zLnk S μ r) : zLnk S' μ r := by
  obtain ⟨b, p1, p2, p3, p4, p5, p6, p7⟩ := h
  obtain ⟨h1, h2⟩ := hw
  have e := hs 612 (by decide) (by decide)
  refine ⟨b, p1, p2, p3, by rw [hs 613 (by decide) (by decide)]; exact p4, by rw [e]; exact p5, fun z => p6 (by rw [← e]; exact z), fun z => ?_⟩
  rw [e] at z ⊢
  rw [hs _ (by omega) (by omega)]
  obtain ⟨w1, w2⟩ := h2 z
  exact (zTX_c μ 400 24 (S 612 - 1) 0 _ (by omega) (Int.le_refl _) w1.2 (fun i hi => hs i (by omega) (by omega)) w2).2 _ (p7 z)
