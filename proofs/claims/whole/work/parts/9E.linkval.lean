/-! the state after a link was told -/
abbrev zM0 : zM := (fun _ _ => 0, fun _ _ => none, fun _ => (0, 0), 0)
theorem zclo_t {S S' : Int → Int} {b b' : Int} : ∀ (f d : Nat) (k : Int), (∀ i, k ≤ i → i ≤ zclo S b f d k → S' (b' + i) = S (b + i)) → zclo S' b' f d k = zclo S b f d k
  | 0, _, _, _ => rfl
  | f + 1, d, k, h => by
    have h0 := h k (Int.le_refl _) (zclo_ge S b (f + 1) d k)
    rw [zclo] at h
    rw [zclo, zclo, h0]
    by_cases c1 : S (b + k) = 41
    · rw [if_pos c1] at h ⊢
      rw [if_pos c1]
      by_cases c2 : d = 0
      · rw [if_pos c2, if_pos c2]
      · rw [if_neg c2] at h ⊢
        rw [if_neg c2]
        exact zclo_t f (d - 1) (k + 1) (fun i i0 i1 => h i (by omega) i1)
    · rw [if_neg c1] at h ⊢
      rw [if_neg c1]
      by_cases c2 : S (b + k) = 40
      · rw [if_pos c2] at h ⊢
        rw [if_pos c2]
        exact zclo_t f (d + 1) (k + 1) (fun i i0 i1 => h i (by omega) i1)
      · rw [if_neg c2] at h ⊢
        rw [if_neg c2]
        exact zclo_t f d (k + 1) (fun i i0 i1 => h i (by omega) i1)
/-- operands at another place -/
theorem zfs_t {S S' : Int → Int} {a' k t : Int} (hs : ∀ i, 0 ≤ i → i < t → S' (zba a' + i) = S (zba 0 + i)) (h6 : S' (606 + a') = S (606 + 0)) (h0 : 0 ≤ k) (h1 : k < t) (c1 : zaro (S (zba 0 + k)) → k + zqp (S (zba 0 + k)) < t) (c2 : ¬ zaro (S (zba 0 + k)) → S (zba 0 + k) ≠ 112 → k + zwd (S (zba 0 + k)) ≤ t) : (zuf1 (S (zba 0 + k)) → zf1 S' a' k = zf1 S 0 k) ∧ (zus1 (S (zba 0 + k)) → zf2 S' a' k = zf2 S 0 k) := by
  have e0 := hs k h0 h1
  refine ⟨fun z => ?_, fun z => ?_⟩
  · unfold zf1
    rw [e0, h6]
    by_cases q0 : S (zba 0 + k) = 108
    · rw [if_pos q0, if_pos q0]
    · rw [if_neg q0, if_neg q0]
      have hk1 : k + 1 < t := by
        by_cases ca : zaro (S (zba 0 + k))
        · have := c1 ca; have := zqp_r (S (zba 0 + k)); omega
        · have hw : 2 ≤ zwd (S (zba 0 + k)) := by
            unfold zwd
            by_cases y : S (zba 0 + k) = 103 ∨ S (zba 0 + k) = 117 ∨ S (zba 0 + k) = 104
            · rw [if_pos y]; omega
            · rw [if_neg y, if_pos (by unfold zuf1 at z; unfold zaro at ca z; omega)]; omega
          have := c2 ca (by unfold zuf1 zaro at z; omega)
          omega
      have e1 := hs (k + 1) (by omega) hk1
      rw [show zba a' + k + 1 = zba a' + (k + 1) by omega, show zba 0 + k + 1 = zba 0 + (k + 1) by omega, e1]
  · unfold zf2
    have hk2 : k + 2 < t := by
      by_cases ca : zaro (S (zba 0 + k))
      · have := c1 ca
        have h3 := zqp_3 (c := S (zba 0 + k)) (by unfold zus1 at z; unfold zaro at ca; omega)
        omega
      · have hw := zwd_3 (c := S (zba 0 + k)) (by unfold zus1 at z; unfold zaro at ca; omega)
        have := c2 ca (by unfold zus1 at z; omega)
        omega
    have e2 := hs (k + 2) (by omega) hk2
    rw [e0, show zba a' + k + 2 = zba a' + (k + 2) by omega, show zba 0 + k + 2 = zba 0 + (k + 2) by omega, e2]
/-- a text well made by itself is well made where it stands -/
theorem zWF_t {S S' : Int → Int} {a' t0 : Int} {f0 D0 : Nat} (hs : ∀ i, 0 ≤ i → i < t0 → S' (zba a' + i) = S (zba 0 + i)) (h6 : S' (606 + a') = S (606 + 0)) (hf : 0 < a' → (0 ≤ S' (600 + a' - 1) ∧ S' (600 + a' - 1) ≤ 40) ∧ zWF S' f0 D0 (a' - 1) 0 (S' (600 + a' - 1))) : ∀ (f D : Nat) (k t : Int), 0 ≤ k → t ≤ t0 → zWF S f D 0 k t → zWF S' (f + f0) (D + D0 + 1) a' k t
  | 0, _, _, _, _, _, h => h.elim
  | f + 1, D, k, t, hk0, ht, h => by
    rw [show f + 1 + f0 = (f + f0) + 1 by omega]
    rcases h with h | ⟨h1, h2, h3, h4, h5, h6'⟩
    · exact Or.inl h
    · have e0 := hs k hk0 (by omega)
      have c1 : zaro (S (zba 0 + k)) → k + zqp (S (zba 0 + k)) < t := fun z => by
        obtain ⟨-, -, q3, q4, -⟩ := h4 z
        omega
      have c2 : ¬ zaro (S (zba 0 + k)) → S (zba 0 + k) ≠ 112 → k + zwd (S (zba 0 + k)) ≤ t := fun z y => (h6' z y).1
      obtain ⟨f1, f2⟩ := zfs_t (a' := a') (t := t) (fun i i0 i1 => hs i i0 (by omega)) h6 hk0 h1 c1 c2
      refine Or.inr ⟨h1, by rw [e0]; exact h2, by rw [e0]; exact zfok_c f1 f2 h3, fun z => ?_, fun z => ?_, fun z y => ?_⟩
      · rw [e0] at z ⊢
        obtain ⟨q1, q2, q3, q4, ⟨D1, e1, q5⟩, q6⟩ := h4 z
        have hq := zqp_r (S (zba 0 + k))
        have ec : zcl1 S' a' k = zcl1 S 0 k := by
          unfold zcl1
          rw [e0]
          refine zclo_t _ _ _ (fun i i0 i1 => hs i (by omega) ?_)
          have : i ≤ zcl1 S 0 k := i1
          omega
        rw [ec]
        refine ⟨?_, ?_, q3, q4, ⟨D1 + D0 + 1, by omega, zWF_t hs h6 hf f D1 _ _ (by omega) (by omega) q5⟩, zWF_t hs h6 hf f D _ _ (by omega) (by omega) q6⟩
        · have := hs (k + zqp (S (zba 0 + k))) (by omega) (by omega)
          rw [show zba a' + k + zqp (S (zba 0 + k)) = zba a' + (k + zqp (S (zba 0 + k))) by omega, this, show zba 0 + (k + zqp (S (zba 0 + k))) = zba 0 + k + zqp (S (zba 0 + k)) by omega]
          exact q1
        · rw [hs _ (by omega) (by omega)]; exact q2
      · rw [e0] at z
        refine ⟨fun y => ?_, zWF_t hs h6 hf f D _ _ (by omega) ht (h5 z).2⟩
        obtain ⟨w1, w2⟩ := hf y
        exact ⟨w1, D + D0, rfl, zWF_up _ _ _ _ _ w2 _ _ (by omega) (by omega)⟩
      · rw [e0] at z y ⊢
        obtain ⟨q1, q2⟩ := h6' z y
        have hw := zwd_r (S (zba 0 + k))
        exact ⟨q1, zWF_t hs h6 hf f D _ _ (by omega) ht q2⟩
theorem zno_up {S : Int → Int} : ∀ (f : Nat) (a k t : Int), zno S f a k t → ∀ f', f ≤ f' → zno S f' a k t
  | 0, _, _, _, h => h.elim
  | f + 1, a, k, t, h => by
    intro f' hf
    obtain ⟨g, rfl⟩ : ∃ g, f' = g + 1 := ⟨f' - 1, by omega⟩
    rcases h with h | ⟨h1, h2, h3, h4⟩
    · exact Or.inl h
    · exact Or.inr ⟨h1, h2, fun z => zno_up f _ _ _ (h3 z) g (by omega), zno_up f _ _ _ h4 g (by omega)⟩
theorem zno_c {S S' : Int → Int} : ∀ (f fw D : Nat) (a k t : Int), 0 ≤ a → 0 ≤ k → t ≤ 40 → zagr S S' a → zWF S fw D a k t → zno S' f a k t → zno S f a k t
  | 0, _, _, _, _, _, _, _, _, _, _, h => h.elim
  | f + 1, fw, D, a, k, t, ha, hk, ht, hg, hw, h => by
    rcases h with h | ⟨h1, h2, h3, h4⟩
    · exact Or.inl h
    · have eb : zba a = 360 + 40 * a := rfl
      have e := hg (zba a + k) (Or.inl ⟨by omega, by omega⟩)
      rw [e] at h2
      cases fw with
      | zero => exact hw.elim
      | succ fw =>
        rcases hw with hw | ⟨w1, w2, w3, w4, w5, w6⟩
        · omega
        · obtain ⟨q1, q2⟩ := w5 h2
          refine Or.inr ⟨h1, h2, fun z => ?_, zno_c f fw D a _ _ ha (by omega) ht hg q2 h4⟩
          obtain ⟨r1, D1, -, r2⟩ := q1 z
          have h3 := h3 z
          rw [hg (600 + a - 1) (Or.inr (Or.inl ⟨by omega, by omega⟩))] at h3
          exact zno_c f fw D1 (a - 1) 0 _ (by omega) (Int.le_refl _) r1.2 (fun i hi => hg i (by omega)) r2 h3
theorem zno_ch {S : Int → Int} : ∀ (f : Nat) (a k t : Int), zno S f a k t → ∀ i, k ≤ i → i < t → S (zba a + i) = 112
  | 0, _, _, _, h => h.elim
  | f + 1, a, k, t, h => by
    intro i i0 i1
    rcases h with h | ⟨h1, h2, h3, h4⟩
    · omega
    · by_cases c : i = k
      · rw [c]; exact h2
      · exact zno_ch f a _ _ h4 i (by omega) i1
theorem zno_fm {S : Int → Int} {f : Nat} {a k t : Int} (h : zno S f a k t) (hk : k < t) (ha : 0 < a) : ∃ g, g < f ∧ zno S g (a - 1) 0 (S (600 + a - 1)) := by
  cases f with
  | zero => exact h.elim
  | succ f =>
    rcases h with h | ⟨h1, h2, h3, h4⟩
    · omega
    · exact ⟨f, by omega, h3 ha⟩
theorem zlgo_0 {S : Int → Int} : ∀ (f : Nat) (k t : Int), (∀ i, k ≤ i → i < t → S (zba 0 + i) = 112) → zlgo S 0 0 f k t = 0
  | 0, _, _, _ => rfl
  | f + 1, k, t, h => by
    rw [zlgo]
    by_cases c : t ≤ k
    · rw [if_pos c]
    · have e := h k (Int.le_refl _) (by omega)
      rw [if_neg c, e, if_neg (by unfold zaro; decide), if_pos rfl, zlgo_0 f (k + 1) t (fun i i0 i1 => h i (by omega) i1)]
      rfl
section
variable {S : Int → Int} {T : List Int}
theorem zlnW_off {g v i : Int} (hg : 0 ≤ g ∧ g ≤ 6) (hl : T.length ≤ 40) (h : i < 360 ∨ 614 ≤ i) : zlnW S T g v i = S i := by
  unfold zlnW
  rw [if_neg (by omega), if_neg (by omega)]
  by_cases c : g = 0
  · rw [if_pos c]
  · rw [if_neg c, if_neg (by omega), if_neg (by omega), if_neg (by omega)]
theorem zlnW_612 {g v : Int} : zlnW S T g v 612 = g := by unfold zlnW; rw [if_pos rfl]
theorem zlnW_613 {g v : Int} : zlnW S T g v 613 = v := by unfold zlnW; rw [if_neg (by decide), if_pos rfl]
theorem zlnW_sz {g v : Int} (hg : 1 ≤ g ∧ g ≤ 6) : zlnW S T g v (600 + g - 1) = T.length := by
  unfold zlnW
  rw [if_neg (by omega), if_neg (by omega), if_neg (by omega), if_pos rfl]
theorem zlnW_by {g v : Int} (hg : 1 ≤ g ∧ g ≤ 6) : zlnW S T g v (606 + (g - 1)) = S 704 := by
  unfold zlnW
  rw [if_neg (by omega), if_neg (by omega), if_neg (by omega), if_neg (by omega), if_pos (by omega)]
theorem zlnW_at {g v i : Int} (hg : 1 ≤ g ∧ g ≤ 6) (hl : T.length ≤ 40) (h0 : 0 ≤ i) (h1 : i < T.length) : zlnW S T g v (zba (g - 1) + i) = zat T i := by
  have e : zba (g - 1) = 360 + 40 * (g - 1) := rfl
  unfold zlnW
  rw [if_neg (by omega), if_neg (by omega), if_neg (by omega), if_neg (by omega), if_neg (by omega), if_pos (by omega), show zba (g - 1) + i - (360 + 40 * (g - 1)) = i by omega]
theorem zlnW_agr {g v : Int} (hg : 1 ≤ g ∧ g ≤ 6) (hl : T.length ≤ 40) : zagr S (zlnW S T g v) (g - 1 - 1) := by
  intro i hi
  unfold zlnW
  rw [if_neg (by omega), if_neg (by omega), if_neg (by omega), if_neg (by omega), if_neg (by omega), if_neg (by omega)]
theorem zlnG_r (hv : zval S) (T : List Int) : 0 ≤ zlnG S T ∧ zlnG S T ≤ 7 ∧ (zlnG S T = 0 ↔ T.length = 0) ∧ (2 ≤ zlnG S T → zlnG S T = S 612 + 1) ∧ (∀ k : Nat, k < T.length → zat T k = 112 → zlnG S T = S 612 + 1) := by
  have h6 : 0 ≤ S 612 ∧ S 612 ≤ 6 := hv.2.2.2.2.1.1
  unfold zlnG
  by_cases c : T.length = 0
  · rw [if_pos c]
    exact ⟨by omega, by omega, ⟨fun _ => c, fun _ => rfl⟩, fun z => by omega, fun k hk => by omega⟩
  · rw [if_neg c]
    by_cases c2 : zhpI T = 0
    · rw [if_pos c2]
      refine ⟨by omega, by omega, ⟨fun z => absurd z (by decide), fun z => absurd z c⟩, fun z => by omega, fun k hk hz => ?_⟩
      rcases zhpI_r T with ⟨q1, -⟩ | ⟨-, q2⟩
      · omega
      · exact absurd hz (q2 k hk)
    · rw [if_neg c2]
      exact ⟨by omega, by omega, ⟨fun z => by omega, fun z => absurd z c⟩, fun _ => rfl, fun _ _ _ => rfl⟩
/-- the new text is well made where it stands -/
theorem zlnW_wf (hv : zval S) (hle : zLe S) (hT : zTv T) (hw : ¬ 0 ≤ zwr0 T 1 40) (hg : 1 ≤ zlnG S T ∧ zlnG S T ≤ 6) (v : Int) : zWF (zlnW S T (zlnG S T) v) (64 * zlnG S T).toNat (4 * zlnG S T).toNat (zlnG S T - 1) 0 T.length := by
  obtain ⟨h40, w0⟩ := zlink_ok hT hv.lim hw
  obtain ⟨r1, r2, r3, r4, r5⟩ := zlnG_r hv T
  have key : 0 < zlnG S T - 1 → (0 ≤ zlnW S T (zlnG S T) v (600 + (zlnG S T - 1) - 1) ∧ zlnW S T (zlnG S T) v (600 + (zlnG S T - 1) - 1) ≤ 40) ∧ zWF (zlnW S T (zlnG S T) v) (64 * (zlnG S T - 1)).toNat (4 * (zlnG S T - 1)).toNat (zlnG S T - 1 - 1) 0 (zlnW S T (zlnG S T) v (600 + (zlnG S T - 1) - 1)) := by
    intro z
    have e := r4 (by omega)
    have ag := zlnW_agr (S := S) (T := T) (v := v) hg h40
    have es := ag (600 + (zlnG S T - 1) - 1) (Or.inr (Or.inl ⟨by omega, by omega⟩))
    rw [es]
    obtain ⟨q1, q2⟩ := hv.2.2.2.2.1.2 (by omega)
    have q3 := (hle.2.2 (by omega)).1
    have e2 : S 612 = zlnG S T - 1 := by omega
    rw [e2] at q1 q3
    exact ⟨q1, (zTX_c zM0 _ _ _ 0 _ (by omega) (Int.le_refl _) q1.2 ag q3).1⟩
  have := zWF_t (S := zsT T (S 704)) (S' := zlnW S T (zlnG S T) v) (a' := zlnG S T - 1) (t0 := T.length) (fun i i0 i1 => by rw [zlnW_at hg h40 i0 i1, zsT_at i0 (by omega)]) (by rw [zlnW_by hg]; unfold zsT; rw [if_pos (by decide)]) key (T.length + 1) 3 0 T.length (Int.le_refl _) (Int.le_refl _) w0
  exact zWF_up _ _ _ _ _ this _ _ (by omega) (by omega)
theorem zlnW_v (hv : zval S) (hle : zLe S) (hT : zTv T) (hw : ¬ 0 ≤ zwr0 T 1 40) (h5 : zlnV S T ≤ 500) (hg : zlnG S T ≤ 6) : zval (zlnW S T (zlnG S T) (zlnV S T)) ∧ zLe (zlnW S T (zlnG S T) (zlnV S T)) := by
  obtain ⟨h40, w0⟩ := zlink_ok hT hv.lim hw
  obtain ⟨r1, r2, r3, r4, r5⟩ := zlnG_r hv T
  have hvr := zlnV_r hv hle hv.lim hT hw
  have off : ∀ i, i < 360 ∨ 614 ≤ i → zlnW S T (zlnG S T) (zlnV S T) i = S i := fun i h => zlnW_off ⟨r1, hg⟩ h40 h
  have wf := fun (h : 1 ≤ zlnG S T) => zlnW_wf hv hle hT hw ⟨h, hg⟩ (zlnV S T)
  obtain ⟨v1, v2, v3, v4, v5, v6, v7, v8, v9⟩ := id hv
  have asc := zWF_asc _ _ _ _ w0
  refine ⟨⟨⟨fun p p0 p1 => by rw [off p (by omega)]; exact v1.1 p p0 p1, fun p p0 p1 => by rw [off _ (by omega)]; exact v1.2 p p0 p1⟩, by rw [zSet, off 704 (by omega), off 705 (by omega), off 706 (by omega), off 707 (by omega), off 708 (by omega), off 709 (by omega), off 710 (by omega)]; exact v2, ⟨by rw [off 702 (by omega), off 703 (by omega)]; exact v3.1, fun i i0 i1 => by rw [off _ (by omega)]; exact v3.2.1 i i0 i1, fun i i0 i1 => by rw [off _ (by omega)]; exact v3.2.2 i i0 i1⟩, fun i i0 i1 => by rw [off _ (by omega)]; exact v4 i i0 i1, ⟨by rw [zlnW_612]; omega, fun z => ?_⟩, fun i i0 i1 => ?_, fun p p0 p1 hp => by rw [off _ (by omega)]; exact v7 p p0 p1 hp, by rw [off 704 (by omega)]; exact v8, by rw [zlnW_613]; exact h5⟩, ⟨by rw [zlnW_613]; exact hvr.1, fun z => ?_, fun z => ?_⟩⟩
  · rw [zlnW_612] at z ⊢
    rw [zlnW_sz ⟨by omega, hg⟩]
    exact ⟨by omega, zWF_up _ _ _ _ _ (wf (by omega)) _ _ (by omega) (by omega)⟩
  · unfold zlnW
    split
    · constructor <;> omega
    split
    · constructor <;> omega
    split
    · exact v6 i i0 i1
    split
    · constructor <;> omega
    split
    · exact v6 704 (by decide) (by decide)
    split
    · rename_i c
      have := asc (i - (360 + 40 * (zlnG S T - 1))) (by omega) (by omega)
      rw [zsT_at (by omega) (by omega)] at this
      have h0 := zat_r hT (i := i - (360 + 40 * (zlnG S T - 1))) (by omega) (by omega)
      constructor <;> omega
    · exact v6 i i0 i1
  · rw [zlnW_612] at z
    rw [zlnW_613]
    have e := r3.1 (by omega)
    unfold zlnV
    rw [e, zlgo, if_pos (by decide)]
  · rw [zlnW_612] at z ⊢
    rw [zlnW_613, zlnW_sz ⟨by omega, hg⟩]
    refine ⟨wf (by omega), fun y => ?_⟩
    have ch := zno_ch _ _ _ _ y
    have hl : 0 < T.length := by
      by_cases q : T.length = 0
      · have := r3.2 q; omega
      · omega
    have c0 := ch 0 (Int.le_refl _) (by omega)
    rw [zlnW_at ⟨by omega, hg⟩ h40 (Int.le_refl _) (by omega)] at c0
    have eg := r5 0 hl c0
    have hL : S 613 = 0 := by
      by_cases q : S 612 ≤ 0
      · exact hle.2.1 q
      · obtain ⟨g, g1, g2⟩ := zno_fm y (by omega) (by omega)
        have ag := zlnW_agr (S := S) (T := T) (v := zlnV S T) ⟨by omega, hg⟩ h40
        have es := ag (600 + (zlnG S T - 1) - 1) (Or.inr (Or.inl ⟨by omega, by omega⟩))
        rw [es] at g2
        have e2 : zlnG S T - 1 = S 612 := by omega
        rw [e2] at g2 ag
        obtain ⟨q1, q2⟩ := v5.2 (by omega)
        exact (hle.2.2 (by omega)).2 (zno_up _ _ _ _ (zno_c _ _ _ _ _ _ (by omega) (Int.le_refl _) q1.2 ag q2 g2) 400 (by omega))
    unfold zlnV
    rw [hL]
    refine zlgo_0 _ _ _ (fun i i0 i1 => ?_)
    have := ch i i0 i1
    rw [zlnW_at ⟨by omega, hg⟩ h40 i0 i1] at this
    rw [zsT_at i0 (by omega)]
    exact this
theorem zliS_v (hv : zval S) (hle : zLe S) (hT : zTv T) : zval (zliS S T) ∧ zLe (zliS S T) := by
  unfold zliS
  split
  · exact ⟨hv, hle⟩
  split
  · exact ⟨hv, hle⟩
  split
  · exact ⟨hv, hle⟩
  · exact zlnW_v hv hle hT (by assumption) (by omega) (by omega)
end
