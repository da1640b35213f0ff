/-! a text of a link in which nothing is wrong is well made -/
theorem zfor3_1 (c : Int) : zfor3 1 c = zsf c := by unfold zfor3; rw [if_neg (by decide), if_pos rfl]
theorem zsf_at (c : Int) (h : 0 < (zstx (zsf c)).length) : zkin c := by
  unfold zsf at h
  unfold zkin
  by_cases h1 : c = 108 ∨ c = 112 ∨ c = 118
  · omega
  rw [if_neg h1] at h
  by_cases h2 : c = 103
  · omega
  rw [if_neg h2] at h
  by_cases h3 : c = 117
  · omega
  rw [if_neg h3] at h
  by_cases h4 : c = 97 ∨ c = 115 ∨ c = 119
  · omega
  rw [if_neg h4] at h
  by_cases h5 : c = 104
  · omega
  rw [if_neg h5] at h
  by_cases h6 : c = 120
  · omega
  rw [if_neg h6] at h
  by_cases h7 : c = 110
  · unfold zaro; omega
  rw [if_neg h7] at h
  by_cases h8 : c = 111
  · unfold zaro; omega
  rw [if_neg h8] at h
  by_cases h9 : c = 105
  · unfold zaro; omega
  rw [if_neg h9] at h
  by_cases h10 : c = 106
  · unfold zaro; omega
  rw [if_neg h10] at h
  exact absurd h (by decide)
theorem zsf_pos {c : Int} (h : zkin c) : 0 < (zstx (zsf c)).length ∧ zfch (zsf c) 0 = 42 := by
  unfold zkin zaro at h
  rcases h with h | h | h | h | h | h | h | h | h | h | h | h | h | h <;> rw [h] <;> exact ⟨by decide, rfl⟩
/-- the letters with brackets, those without -/
theorem zsf_br {c : Int} (h : zaro c) : (zstx (zsf c)).length = (zqp c).toNat + 1 ∧ zfch (zsf c) (zqp c).toNat = 40 ∧ ∀ k : Nat, k < (zqp c).toNat → zfch (zsf c) k ≠ 40 := by
  unfold zaro at h
  rcases h with h | h | h | h <;> rw [h] <;> exact ⟨by decide, by decide +kernel, by decide +kernel⟩
theorem zsf_no {c : Int} (h : zkin c) (h2 : ¬ zaro c) : (zstx (zsf c)).length = (zwd c).toNat ∧ ∀ k : Nat, k < (zwd c).toNat → zfch (zsf c) k ≠ 40 := by
  unfold zkin at h
  have h : c = 108 ∨ c = 118 ∨ c = 103 ∨ c = 117 ∨ c = 97 ∨ c = 115 ∨ c = 119 ∨ c = 104 ∨ c = 120 ∨ c = 112 := by
    rcases h with h | h | h | h | h | h | h | h | h | h | h
    all_goals first | omega | exact absurd h h2
  rcases h with h | h | h | h | h | h | h | h | h | h <;> rw [h] <;> exact ⟨by decide, by decide +kernel⟩
/-- the operands keep their ranges -/
theorem zfok_of {T : List Int} {lim : Int} (hlim : 8 ≤ lim ∧ lim ≤ 32) {a : Nat} (ha : a < 100) (hk : zkin (zat T a)) {d : Int} (h : ∀ k : Nat, k < (zstx (zsf (zat T a))).length → zfch (zsf (zat T a)) k ≠ 40 → zcs (zat T ((a : Int) + k)) (zfch (zsf (zat T a)) k) d) : zfok (zat T a) (zf1 (zsT T lim) 0 a) (zf2 (zsT T lim) 0 a) := by
  have e0 : zsT T lim (zba 0 + a) = zat T a := zsT_at (by omega) (by omega)
  have e1 : zsT T lim (zba 0 + a + 1) = zat T ((a : Int) + 1) := by rw [show zba 0 + (a : Int) + 1 = zba 0 + ((a : Int) + 1) by omega]; exact zsT_at (by omega) (by omega)
  have e2 : zsT T lim (zba 0 + a + 2) = zat T ((a : Int) + 2) := by rw [show zba 0 + (a : Int) + 2 = zba 0 + ((a : Int) + 2) by omega]; exact zsT_at (by omega) (by omega)
  have e3 : zsT T lim (606 + 0) = lim := by unfold zsT; rw [if_pos (by decide)]
  unfold zf1 zf2
  rw [e0, e1, e2, e3]
  have g1 : ∀ {f : Int}, 1 < (zstx (zsf (zat T a))).length → zfch (zsf (zat T a)) 1 = f → f ≠ 40 → zcs (zat T ((a : Int) + 1)) f d := fun hl hf h4 => by
    have := h 1 hl (by rw [hf]; exact h4)
    rw [hf] at this; exact this
  have g2 : ∀ {f : Int}, 2 < (zstx (zsf (zat T a))).length → zfch (zsf (zat T a)) 2 = f → f ≠ 40 → zcs (zat T ((a : Int) + 2)) f d := fun hl hf h4 => by
    have := h 2 hl (by rw [hf]; exact h4)
    rw [hf] at this; exact this
  have k1 : ∀ x : Int, zcs x 107 d → 0 ≤ zik x ∧ zik x < 4 := fun x hx => by
    have := zik_r x
    unfold zcs at hx
    omega
  refine ⟨fun z => by rw [if_pos z]; exact hlim, fun z => ?_, fun z => ?_, fun z => ?_, fun z => ?_, fun z => ?_, fun z => ?_⟩
  · rw [if_neg (by omega), if_pos (by omega)]
    have := g1 (f := 52) (by rw [z]; decide) (by rw [z]; rfl) (by decide)
    unfold zcs at this; omega
  · rw [if_neg (by omega), if_pos (by omega)]
    have := g1 (f := 56) (by rw [z]; decide) (by rw [z]; rfl) (by decide)
    unfold zcs at this; omega
  · rw [if_neg (by omega), if_neg (by omega)]
    refine k1 _ (g1 ?_ ?_ (by decide))
    · rcases z with z | z | z | z | z | z | z | z <;> rw [z] <;> decide
    · rcases z with z | z | z | z | z | z | z | z <;> rw [z] <;> rfl
  · rw [if_neg (by omega), if_pos (by omega)]
    have := g1 (f := 57) (by rw [z]; decide) (by rw [z]; rfl) (by decide)
    unfold zcs at this; omega
  · rw [if_neg (by omega)]
    have := g2 (f := 56) (by rcases z with z | z | z | z <;> rw [z] <;> decide) (by rcases z with z | z | z | z <;> rw [z] <;> rfl) (by decide)
    unfold zcs at this; omega
  · rw [if_pos z]
    refine k1 _ (g2 ?_ ?_ (by decide))
    · rcases z with z | z <;> rw [z] <;> decide
    · rcases z with z | z <;> rw [z] <;> rfl
/-- pieces put together -/
theorem zWF_s {S : Int → Int} {f D : Nat} {a k t : Int} (hk : zkin (S (zba a + k))) (hf : zfok (S (zba a + k)) (zf1 S a k) (zf2 S a k)) (hc : ¬ zaro (S (zba a + k))) (h2 : S (zba a + k) = 112 → 0 < a → False) (h : zWF S f D a (k + zwd (S (zba a + k))) t) : zWF S (f + 1) D a k t := by
  have hl := zWF_le h
  have hw := zwd_r (S (zba a + k))
  refine Or.inr ⟨by omega, hk, hf, fun z => absurd z hc, fun z => ⟨fun y => (h2 z y).elim, ?_⟩, fun _ _ => ⟨by omega, h⟩⟩
  rw [z] at h
  exact h
theorem zWF_b {S : Int → Int} {f D : Nat} {a k e t : Int} (hk : zkin (S (zba a + k))) (hf : zfok (S (zba a + k)) (zf1 S a k) (zf2 S a k)) (hc : zaro (S (zba a + k))) (h40 : S (zba a + k + zqp (S (zba a + k))) = 40) (hi : zWF S f D a (k + zqp (S (zba a + k)) + 1) e) (h41 : S (zba a + e) = 41) (hl : e - (k + zqp (S (zba a + k)) + 1) < 64) (hr : zWF S f (D + 1) a (e + 1) t) : zWF S (f + 1) (D + 1) a k t ∧ zcl1 S a k = e := by
  have he := zcl1_e hi h41 hl
  have h1 := zWF_le hi
  have h2 := zWF_le hr
  have hq := zqp_r (S (zba a + k))
  refine ⟨Or.inr ⟨by omega, hk, hf, fun _ => ?_, fun z => absurd z (by unfold zaro at hc; omega), fun z => absurd hc z⟩, he⟩
  rw [he]
  exact ⟨h40, h41, by omega, by omega, ⟨D, rfl, hi⟩, hr⟩
theorem zparse {T : List Int} {lim : Int} (hT : zTv T) (hlim : 8 ≤ lim ∧ lim ≤ 32) : ∀ (n a t d : Nat), zN2 T 40 - a ≤ n → a ≤ zN2 T 40 → d ≤ 3 → zwro T 1 40 (zN2 T 40 - a) a t (zstx t).length d < 0 → ∃ e t' : Nat, a ≤ e ∧ e ≤ zN2 T 40 ∧ zWF (zsT T lim) (e - a + 1) (3 - d) 0 a e ∧ ((e = zN2 T 40 ∧ d = 0) ∨ (e < zN2 T 40 ∧ zat T e = 41 ∧ 0 < d)) ∧ zwro T 1 40 (zN2 T 40 - e) e t' (zstx t').length d < 0 := by
  have hN := zN2_le (most := 40) hT
  have hs := zN2_s T (most := 40) (by decide)
  intro n
  induction n with
  | zero =>
    intro a t d hn ha hd hw
    have ea : a = zN2 T 40 := by omega
    refine ⟨a, t, Nat.le_refl _, ha, ?_, Or.inl ⟨ea, ?_⟩, hw⟩
    · rw [Nat.sub_self]; exact Or.inl rfl
    · by_cases z : d = 0
      · exact z
      · rw [ea, zwro_e (by decide) (Or.inr (by omega))] at hw; omega
  | succ n ih =>
    intro a t d hn ha hd hw
    by_cases ea : a = zN2 T 40
    · exact ih a t d (by omega) ha hd hw
    · by_cases c41 : zat T a = 41 ∧ 0 < d
      · exact ⟨a, t, Nat.le_refl _, ha, by rw [Nat.sub_self]; exact Or.inl rfl, Or.inr ⟨by omega, c41⟩, hw⟩
      · have hl0 : 0 < (zstx (zsf (zat T a))).length := by
          by_cases z : 0 < (zstx (zsf (zat T a))).length
          · exact z
          · obtain ⟨m, hm⟩ : ∃ m, zN2 T 40 - a = m + 1 := ⟨zN2 T 40 - a - 1, by omega⟩
            rw [hm, zwro, if_neg (by omega), if_pos rfl, zfor3_1, if_pos (Or.inl (by omega))] at hw; omega
        have hk := zsf_at _ hl0
        rw [zwro_s (by omega) (by omega) (by rw [zfor3_1]; exact hl0) _ (zfor3_1 _)] at hw
        have e0 : zsT T lim (zba 0 + a) = zat T a := zsT_at (by omega) (by omega)
        by_cases ca : zaro (zat T a)
        · obtain ⟨l1, l2, l3⟩ := zsf_br ca
          have hq := zqp_r (zat T a)
          obtain ⟨r1, r2, r3⟩ := zform_r (by decide) (zqp (zat T a)).toNat a 0 (by omega) (fun k _ k1 => l3 k (by omega)) ha hw
          rw [Nat.zero_add] at r3
          have hfk := zfok_of hlim (d := (d : Int)) (by omega) hk (fun k h1 h2 => by
            have h3 : k < (zqp (zat T a)).toNat := by
              by_cases y : k = (zqp (zat T a)).toNat
              · rw [y] at h2; exact absurd l2 h2
              · omega
            have := r2 k h3
            rw [Nat.zero_add] at this
            exact this)
          generalize hqq : (zqp (zat T a)).toNat = q at *
          have hqi : zqp (zat T a) = q := by omega
          by_cases e1 : a + q = zN2 T 40
          · rw [e1, zwro_e (by decide) (Or.inl (by omega))] at r3; omega
          · by_cases c40 : zcs (zat T ((a + q : Nat) : Int)) (zfch (zsf (zat T a)) q) d
            · rw [zwro_m (by omega) (by omega) c40, if_pos l2] at r3
              rw [l2] at c40
              have c40' : zat T ((a + q : Nat) : Int) = 40 ∧ (d : Int) < 3 := by unfold zcs at c40; omega
              rw [← l1, show ((d : Int) + 1) = ((d + 1 : Nat) : Int) by omega] at r3
              obtain ⟨e, t1, b1, b2, b3, b4, b5⟩ := ih (a + q + 1) _ (d + 1) (by omega) (by omega) (by omega) r3
              obtain ⟨b6, b7⟩ : e < zN2 T 40 ∧ zat T e = 41 := by omega
              have b8 : zwro T 1 40 (zN2 T 40 - (e + 1)) (e + 1) t1 (zstx t1).length d < 0 := by
                obtain ⟨m, hm⟩ : ∃ m, zN2 T 40 - e = m + 1 := ⟨zN2 T 40 - e - 1, by omega⟩
                rw [hm, zwro, if_pos ⟨rfl, b7, by omega⟩] at b5
                rw [show zN2 T 40 - (e + 1) = m by omega, show (d : Int) = ((d + 1 : Nat) : Int) - 1 by omega]
                exact b5
              obtain ⟨e2, t2, d1, d2, d3, d4, d5⟩ := ih (e + 1) t1 d (by omega) (by omega) hd b8
              refine ⟨e2, t2, by omega, d2, ?_, d4, d5⟩
              have := (zWF_b (S := zsT T lim) (f := e2 - a) (D := 3 - d - 1) (a := 0) (k := a) (e := e) (t := e2) (by rw [e0]; exact hk) (by rw [e0]; exact hfk) (by rw [e0]; exact ca) (by rw [e0, hqi, show zba 0 + (a : Int) + q = zba 0 + ((a + q : Nat) : Int) by omega, zsT_at (by omega) (by omega)]; exact c40'.1) (by rw [e0, hqi, show (a : Int) + q + 1 = ((a + q + 1 : Nat) : Int) by omega]; exact zWF_up _ _ _ _ _ b3 _ _ (by omega) (by omega)) (by rw [zsT_at (by omega) (by omega)]; exact b7) (by rw [e0, hqi]; omega) (by rw [show (e : Int) + 1 = ((e + 1 : Nat) : Int) by omega]; exact zWF_up _ _ _ _ _ d3 _ _ (by omega) (by omega))).1
              rw [show 3 - d - 1 + 1 = 3 - d by omega] at this
              exact this
            · rw [zwro_b (by omega) (by omega) c40] at r3; omega
        · obtain ⟨l1, l3⟩ := zsf_no hk ca
          have hq := zwd_r (zat T a)
          obtain ⟨r1, r2, r3⟩ := zform_r (by decide) (zwd (zat T a)).toNat a 0 (by omega) (fun k _ k1 => l3 k (by omega)) ha hw
          rw [Nat.zero_add, ← l1] at r3
          have hfk := zfok_of hlim (d := (d : Int)) (by omega) hk (fun k h1 h2 => by
            have := r2 k (by omega)
            rw [Nat.zero_add] at this
            exact this)
          obtain ⟨e, t1, b1, b2, b3, b4, b5⟩ := ih _ _ d (by omega) (by omega) hd r3
          refine ⟨e, t1, by omega, b2, ?_, b4, b5⟩
          refine zWF_s (by rw [e0]; exact hk) (by rw [e0]; exact hfk) (by rw [e0]; exact ca) (fun _ y => absurd y (by decide)) ?_
          rw [e0, show (a : Int) + zwd (zat T a) = ((a + (zstx (zsf (zat T a))).length : Nat) : Int) by omega]
          exact zWF_up _ _ _ _ _ b3 _ _ (by omega) (Nat.le_refl _)
theorem zlink_ok {T : List Int} {lim : Int} (hT : zTv T) (hlim : 8 ≤ lim ∧ lim ≤ 32) (hw : ¬ 0 ≤ zwr0 T 1 40) : T.length ≤ 40 ∧ zWF (zsT T lim) (T.length + 1) 3 0 0 T.length := by
  have hw0 : zwr0 T 1 40 < 0 := by omega
  obtain ⟨e, t, h1, h2, h3, h4, h5⟩ := zparse hT hlim (zN2 T 40) 0 0 0 (Nat.sub_le _ _) (Nat.zero_le _) (by decide) hw0
  have hs := zN2_s T (most := 40) (by decide)
  have e1 : e = zN2 T 40 := by omega
  have e2 : ¬ 40 < (T.length : Int) := fun z => by
    rw [e1, Nat.sub_self, zwro, if_pos z] at h5; omega
  have e3 : e = T.length := by omega
  subst e3
  exact ⟨by omega, h3⟩
