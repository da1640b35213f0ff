/-! the reference lays colours; open places; distances -/
theorem zmask : ∀ t : Fin 16, ∀ g i : Fin 4, (0 ≤ zor (t.val : Int) (zshl 1 (g.val : Int)) ∧ zor (t.val : Int) (zshl 1 (g.val : Int)) < 16) ∧ (0 ≤ zshr (t.val : Int) (i.val : Int) % 2 ∧ zshr (t.val : Int) (i.val : Int) % 2 < 2) ∧ (zshr (zor (t.val : Int) (zshl 1 (g.val : Int))) (i.val : Int) % 2 = 1 ↔ (i.val : Int) = (g.val : Int) ∨ zshr (t.val : Int) (i.val : Int) % 2 = 1) := by decide +kernel
theorem zmask0 : ∀ i : Fin 4, ¬ zshr 0 (i.val : Int) % 2 = 1 := by decide +kernel
theorem zmaskI {t g i : Int} (h0 : 0 ≤ t) (h1 : t < 16) (g0 : 0 ≤ g) (g1 : g < 4) (i0 : 0 ≤ i) (i1 : i < 4) : (0 ≤ zor t (zshl 1 g) ∧ zor t (zshl 1 g) < 16) ∧ (0 ≤ zshr t i % 2 ∧ zshr t i % 2 < 2) ∧ (zshr (zor t (zshl 1 g)) i % 2 = 1 ↔ i = g ∨ zshr t i % 2 = 1) := by
  have := zmask ⟨t.toNat, by omega⟩ ⟨g.toNat, by omega⟩ ⟨i.toNat, by omega⟩
  simp only [Int.toNat_of_nonneg h0, Int.toNat_of_nonneg g0, Int.toNat_of_nonneg i0] at this
  exact this
theorem zmask0I {i : Int} (i0 : 0 ≤ i) (i1 : i < 4) : ¬ zshr 0 i % 2 = 1 := by
  have := zmask0 ⟨i.toNat, by omega⟩
  simp only [Int.toNat_of_nonneg i0] at this
  exact this
/-- the best so far among those not taken -/
def zbs (f : Int → Int) : Nat → Int
  | 0 => -1
  | n + 1 => if f n = -1 then zbs f n else if zbs f n = -1 ∨ f (zbs f n) < f n then (n : Int) else zbs f n
theorem zbs_r (f : Int → Int) : ∀ n, (zbs f n = -1 ∧ ∀ i : Int, 0 ≤ i → i < n → f i = -1) ∨ (0 ≤ zbs f n ∧ zbs f n < n ∧ f (zbs f n) ≠ -1)
  | 0 => Or.inl ⟨rfl, fun i h0 h1 => absurd h0 (by omega)⟩
  | n + 1 => by
    have ih := zbs_r f n
    unfold zbs
    by_cases c : f n = -1
    · rw [if_pos c]
      rcases ih with ⟨h1, h2⟩ | ⟨h1, h2, h3⟩
      · refine Or.inl ⟨h1, fun i h0 hi => ?_⟩
        by_cases e : i = n
        · rw [e]; exact c
        · exact h2 i h0 (by omega)
      · exact Or.inr ⟨h1, by omega, h3⟩
    · rw [if_neg c]
      split
      · exact Or.inr ⟨by omega, by omega, c⟩
      · rename_i h
        rcases ih with ⟨h1, h2⟩ | ⟨h1, h2, h3⟩
        · exact absurd (Or.inl h1) h
        · exact Or.inr ⟨h1, by omega, h3⟩
theorem zbs_gr {f : Int → Int} (h : ∀ i, 0 ≤ i → i < 4 → -1 ≤ f i) (hx : 0 ≤ f 0 ∨ 0 ≤ f 1 ∨ 0 ≤ f 2 ∨ 0 ≤ f 3) : zbs f 4 = zgr f := by
  have h0 := h 0 (by decide) (by decide); have h1 := h 1 (by decide) (by decide); have h2 := h 2 (by decide) (by decide); have h3 := h 3 (by decide) (by decide)
  have hc := zgr_c f
  have e1 : zbs f 1 = if f 0 = -1 then -1 else 0 := by
    show (if f 0 = -1 then -1 else if (-1 : Int) = -1 ∨ f (-1) < f 0 then 0 else -1) = _
    rw [if_pos (Or.inl rfl : (-1 : Int) = -1 ∨ f (-1) < f 0)]
  have e2 : zbs f 2 = if f 1 = -1 then zbs f 1 else if zbs f 1 = -1 ∨ f (zbs f 1) < f 1 then 1 else zbs f 1 := rfl
  have e3 : zbs f 3 = if f 2 = -1 then zbs f 2 else if zbs f 2 = -1 ∨ f (zbs f 2) < f 2 then 2 else zbs f 2 := rfl
  have e4 : zbs f 4 = if f 3 = -1 then zbs f 3 else if zbs f 3 = -1 ∨ f (zbs f 3) < f 3 then 3 else zbs f 3 := rfl
  have k1 : (zbs f 1 = -1 ∧ f 0 = -1) ∨ (zbs f 1 = 0 ∧ 0 ≤ f 0) := by rw [e1]; split <;> omega
  clear e1
  have k2 : (zbs f 2 = -1 ∧ f 0 = -1 ∧ f 1 = -1) ∨ (zbs f 2 = 0 ∧ 0 ≤ f 0 ∧ f 1 ≤ f 0) ∨ (zbs f 2 = 1 ∧ 0 ≤ f 1 ∧ f 0 < f 1) := by
    rcases k1 with ⟨k, k'⟩ | ⟨k, k'⟩ <;> rw [k] at e2 <;> rw [e2]
    · by_cases c : f 1 = -1
      · rw [if_pos c]; omega
      · rw [if_neg c, if_pos (Or.inl rfl)]; omega
    · by_cases c : f 1 = -1
      · rw [if_pos c]; omega
      · rw [if_neg c]; split <;> omega
  clear e2 k1
  have k3 : (zbs f 3 = -1 ∧ f 0 = -1 ∧ f 1 = -1 ∧ f 2 = -1) ∨ (zbs f 3 = 0 ∧ 0 ≤ f 0 ∧ f 1 ≤ f 0 ∧ f 2 ≤ f 0) ∨ (zbs f 3 = 1 ∧ 0 ≤ f 1 ∧ f 0 < f 1 ∧ f 2 ≤ f 1) ∨ (zbs f 3 = 2 ∧ 0 ≤ f 2 ∧ f 0 < f 2 ∧ f 1 < f 2) := by
    rcases k2 with ⟨k, k'⟩ | ⟨k, k'⟩ | ⟨k, k'⟩ <;> rw [k] at e3 <;> rw [e3]
    · by_cases c : f 2 = -1
      · rw [if_pos c]; omega
      · rw [if_neg c, if_pos (Or.inl rfl)]; omega
    · by_cases c : f 2 = -1
      · rw [if_pos c]; omega
      · rw [if_neg c]; split <;> omega
    · by_cases c : f 2 = -1
      · rw [if_pos c]; omega
      · rw [if_neg c]; split <;> omega
  clear e3 k2
  rcases k3 with ⟨k, k'⟩ | ⟨k, k'⟩ | ⟨k, k'⟩ | ⟨k, k'⟩ <;> rw [k] at e4 <;> rw [e4]
  · by_cases c : f 3 = -1
    · omega
    · rw [if_neg c, if_pos (Or.inl rfl)]; omega
  · by_cases c : f 3 = -1
    · rw [if_pos c]; omega
    · rw [if_neg c]; split <;> omega
  · by_cases c : f 3 = -1
    · rw [if_pos c]; omega
    · rw [if_neg c]; split <;> omega
  · by_cases c : f 3 = -1
    · rw [if_pos c]; omega
    · rw [if_neg c]; split <;> omega
/-- what is not taken has its rest still -/
theorem zrs_0 (p : Int) : ∀ (k : Nat) (i : Int), zrs p k i = -1 ∨ zrs p k i = zrs p 0 i
  | 0, _ => Or.inr rfl
  | k + 1, i => by
    unfold zrs
    split
    · exact Or.inl rfl
    · exact zrs_0 p k i
theorem zrs_ex (p : Int) {k : Nat} (hk : k < 4) : 0 ≤ zrs p k 0 ∨ 0 ≤ zrs p k 1 ∨ 0 ≤ zrs p k 2 ∨ 0 ≤ zrs p k 3 := by
  obtain ⟨a, b, c, d, ea, eb, ec, ed, ha, hb, hc, hd, n1, n2, n3, n4, n5, n6, q1, q2, q3, q4, -⟩ := zrs_all p
  have ra := zrs0_r p a; have rb := zrs0_r p b; have rc := zrs0_r p c; have rd := zrs0_r p d
  have g := zgr_r (zrs p k)
  have hk' : k = 0 ∨ k = 1 ∨ k = 2 ∨ k = 3 := by omega
  have hz : 0 ≤ zrs p k (zgr (zrs p k)) := by
    rcases hk' with rfl | rfl | rfl | rfl
    · have e : zbf p 1 = zrs p 0 (zgr (zrs p 0)) := rfl
      omega
    · have e : zbf p 2 = zrs p 1 (zgr (zrs p 1)) := rfl
      omega
    · have e : zbf p 3 = zrs p 2 (zgr (zrs p 2)) := rfl
      omega
    · have e : zbf p 4 = zrs p 3 (zgr (zrs p 3)) := rfl
      omega
  generalize zgr (zrs p k) = x at *
  have hx : x = 0 ∨ x = 1 ∨ x = 2 ∨ x = 3 := by omega
  rcases hx with rfl | rfl | rfl | rfl <;> omega
section
variable {G : zG} {μ : zM} {S : Int → Int}
theorem kX11_layWay {F : zM → Prop} {p : Int} (h : ∀ μ', zsm (fun b _ => b = 160 ∨ b = 161) μ μ' → (∀ k : Nat, k ≤ 4 → zi μ' 160 k = zpt p k ∧ zi μ' 161 k = zcnt p k) → F μ') : qX11_layWay G (zcd p) μ F := by
  refine eX11_layWay fun J C => rX11_layWay_e C _ ?_
  refine znfor (N := 4) (P := fun n => J 4 ([some (zR (some 153)), some (zI (zcd p)), some (zI (zip p n)), some (zI (n : Int)), none, none, none, none, none, none], [], μ, 0, 0)) ?_ ?_
  · refine rX11_layWay_4 C _ _ _ ⟨by decide, fun _ => ?_, fun c => absurd (by decide) c⟩
    refine znfor (N := 4) (P := fun n => ∀ (μ' : zM) (t : Int), zsm (fun b _ => b = 160 ∨ b = 161) μ μ' → (0 ≤ t ∧ t < 16) → (∀ i : Int, 0 ≤ i → i < 4 → (zshr t i % 2 = 1 ↔ zrs p n i = -1)) → (∀ k : Nat, k < n → zi μ' 160 k = zpt p k ∧ zi μ' 161 k = zcnt p k) → J 44 ([some (zR (some 153)), some (zI (zcd p)), some (zI (zpt p n)), some (zI t), some (zI (zbf p n)), some (zI (n : Int)), none, none, none, none], [], μ', 0, 0)) ?_ ?_ μ 0 (zsm.refl _ _) (by decide) (fun i h0 h1 => ?_) (fun k hk => absurd hk (by omega))
    · intro μ2 t hs ht htm hk2
      refine rX11_layWay_44 C _ _ _ _ _ ⟨by decide, fun _ => h _ ((hs.up _ (by omega)).up _ (by omega)) ?_, fun c => absurd (by decide) c⟩
      intro k hk
      by_cases h4 : k = 4
      · subst h4
        exact ⟨by rw [zi_off (by omega)]; exact zi_at, zi_at⟩
      · rw [zi_off (by omega), zi_off (by omega), zi_off (by omega), zi_off (by omega)]
        exact hk2 k (by omega)
    · intro n hn hj μ2 t hs ht htm hk2
      have hz := zgr_r (zrs p n)
      refine rX11_layWay_44 C _ _ _ _ _ ⟨by constructor <;> omega, fun c => absurd c (by omega), fun _ => ?_⟩
      refine znfor (N := 4) (P := fun m => J 59 ([some (zR (some 153)), some (zI (zcd p)), some (zI (zpt p n)), some (zI t), some (zI (zbf p n)), some (zI (n : Int)), some (zI (zbs (zrs p n) m)), some (zI (if zbs (zrs p n) m = -1 then 0 else zrs p n (zbs (zrs p n) m))), some (zI (m : Int)), none], [], μ2, 0, 0)) ?_ ?_
      · have eg : zbs (zrs p n) 4 = zgr (zrs p n) := zbs_gr (fun i _ _ => (zrs_r p i n).1) (zrs_ex p hn)
        refine rX11_layWay_59 C _ _ _ _ _ _ _ _ ⟨by decide, fun _ => ?_, fun c => absurd (by decide) c⟩
        rw [eg, if_neg (by omega)]
        refine ⟨by omega, hz, hj _ _ ((hs.up _ (by omega)).up _ (by omega)) (zmaskI ht.1 ht.2 hz.1 hz.2 (by decide) (by decide : (0 : Int) < 4)).1 ?_ ?_⟩
        · intro i h0 h1
          rw [(zmaskI ht.1 ht.2 hz.1 hz.2 h0 h1).2.2, htm i h0 h1]
          show _ ↔ (if i = zgr (zrs p n) then -1 else zrs p n i) = -1
          split
          · rename_i hc; exact ⟨fun _ => rfl, fun _ => Or.inl hc⟩
          · rename_i hc; exact ⟨fun q => q.resolve_left hc, Or.inr⟩
        · intro k hk
          by_cases hc : k = n
          · subst hc
            refine ⟨by rw [zi_off (by omega)]; exact zi_at, ?_⟩
            rw [zi_at]
            exact (if_pos hn).symm
          · rw [zi_off (by omega), zi_off (by omega), zi_off (by omega), zi_off (by omega)]
            exact hk2 k (by omega)
      · intro m hm hj2
        have hmk := zmaskI (t := t) (g := 0) (i := m) ht.1 ht.2 (by decide) (by decide) (by omega) (by omega)
        have hb := zbs_r (zrs p n) m
        have hr := zam_r p m
        have hv := zrs_r p (zbs (zrs p n) m) n
        refine rX11_layWay_59 C _ _ _ _ _ _ _ _ ⟨by constructor <;> omega, fun c => absurd c (by omega), fun _ => ⟨by constructor <;> omega, fun c => ?_, fun c => ?_⟩⟩
        · have hne : ¬ zrs p n m = -1 := fun q => c ((htm m (by omega) (by omega)).2 q)
          have hrs : zrs p n m = zam p m - 4 * zlvl p m := (zrs_0 p n m).resolve_left hne
          have hnx : zbs (zrs p n) (m + 1) = if zbs (zrs p n) m = -1 ∨ zrs p n (zbs (zrs p n) m) < zrs p n m then (m : Int) else zbs (zrs p n) m := by
            rw [zbs, if_neg hne]
          refine kX11_am (by omega) (by omega) ⟨by constructor <;> omega, fun c2 => kX11_am (by omega) (by omega) ⟨by constructor <;> omega, fun c3 => ?_, fun c3 => ⟨by constructor <;> omega, ?_, fun c4 => ?_, fun c4 => ?_⟩⟩, fun c2 => kX11_am (by omega) (by omega) ⟨by constructor <;> omega, fun c3 => ?_, fun c3 => ⟨by constructor <;> omega, ?_, fun c4 => ?_, fun c4 => ?_⟩⟩⟩
          · have el : zlvl p m = 0 := if_pos (by omega)
            rw [el] at hrs
            rw [hnx, if_pos (Or.inl c3), if_neg (by omega), hrs] at hj2
            rw [show zam p m = zam p m - 4 * 0 by omega]
            exact hj2
          · rw [if_neg c3]; constructor <;> omega
          · have el : zlvl p m = 0 := if_pos (by omega)
            rw [el] at hrs
            rw [if_neg c3] at c4
            rw [hnx, if_pos (Or.inr (by omega)), if_neg (by omega), hrs] at hj2
            rw [show zam p m = zam p m - 4 * 0 by omega]
            exact hj2
          · have el : zlvl p m = 0 := if_pos (by omega)
            rw [el] at hrs
            rw [if_neg c3] at c4
            rw [hnx, if_neg (show ¬ (zbs (zrs p n) m = -1 ∨ zrs p n (zbs (zrs p n) m) < zrs p n m) by omega)] at hj2
            exact hj2
          · have el : zlvl p m = 1 := if_neg (by omega)
            rw [el] at hrs
            rw [hnx, if_pos (Or.inl c3), if_neg (by omega), hrs] at hj2
            rw [show zam p m - 4 = zam p m - 4 * 1 by omega]
            exact hj2
          · rw [if_neg c3]; constructor <;> omega
          · have el : zlvl p m = 1 := if_neg (by omega)
            rw [el] at hrs
            rw [if_neg c3] at c4
            rw [hnx, if_pos (Or.inr (by omega)), if_neg (by omega), hrs] at hj2
            rw [show zam p m - 4 = zam p m - 4 * 1 by omega]
            exact hj2
          · have el : zlvl p m = 1 := if_neg (by omega)
            rw [el] at hrs
            rw [if_neg c3] at c4
            rw [hnx, if_neg (show ¬ (zbs (zrs p n) m = -1 ∨ zrs p n (zbs (zrs p n) m) < zrs p n m) by omega)] at hj2
            exact hj2
        · have hne : zrs p n m = -1 := (htm m (by omega) (by omega)).1 c
          have hnx : zbs (zrs p n) (m + 1) = zbs (zrs p n) m := by rw [zbs, if_pos hne]
          rw [hnx] at hj2
          exact hj2
    · have := zmask0I h0 h1
      have := zrs0_r p i
      constructor
      · intro q; contradiction
      · intro q; omega
  · intro n hn hj
    have hzr := zam_r p n
    refine rX11_layWay_4 C _ _ _ ⟨by constructor <;> omega, fun c => absurd c (by omega), fun _ => kX11_am (by omega) (by omega) ⟨by constructor <;> omega, fun c => ?_, fun c => ⟨⟨by omega, by omega⟩, ?_⟩⟩⟩
    · have el : zlvl p n = 0 := if_pos (by omega)
      rw [zip, el, Int.zero_mul] at hj
      exact hj
    · have el : zlvl p n = 1 := if_neg (by omega)
      rw [zip, el, Int.one_mul] at hj
      exact hj
end
