/-! the reference's link steps -/
def zSx (S : Int → Int) : Prop := ∀ i, 0 ≤ i → i < 711 → zin (S i)
theorem zclo_ge (S : Int → Int) (b : Int) : ∀ (f d : Nat) (x : Int), x ≤ zclo S b f d x
  | 0, _, _ => Int.le_refl _
  | f + 1, d, x => by
    rw [zclo]
    split
    · split
      · exact Int.le_refl _
      · have := zclo_ge S b f (d - 1) (x + 1); omega
    · split
      · have := zclo_ge S b f (d + 1) (x + 1); omega
      · have := zclo_ge S b f d (x + 1); omega
theorem zik_in {x : Int} (h : 0 ≤ zik x) : x = 99 ∨ x = 109 ∨ x = 121 ∨ x = 107 := by
  unfold zik at h
  by_cases c0 : x = 99
  · exact Or.inl c0
  rw [if_neg c0] at h
  by_cases c1 : x = 109
  · exact Or.inr (Or.inl c1)
  rw [if_neg c1] at h
  by_cases c2 : x = 121
  · exact Or.inr (Or.inr (Or.inl c2))
  rw [if_neg c2] at h
  by_cases c3 : x = 107
  · exact Or.inr (Or.inr (Or.inr c3))
  rw [if_neg c3] at h
  exact absurd h (by decide)
section
variable {G : zG} {μ : zM} {S : Int → Int}
theorem kX11_closing {F : Int → zM → Prop} (hM : zMs μ S) (hz : zSx S) {b x : Int} (hb : 360 ≤ b ∧ b ≤ 560) (hx : 0 ≤ x) (hr : zclo S b 64 0 x ≤ 41) (h : F (zclo S b 64 0 x) μ) : qX11_closing G 154 b x μ F := by
  refine eX11_closing fun J C => rX11_closing_e C zZ154 (by decide) _ _ ?_
  have key : ∀ (f d : Nat) (x' : Int), d + f ≤ 64 → 0 ≤ x' → zclo S b f d x' = zclo S b 64 0 x → zclo S b 64 0 x < x' + f → J 5 ([some (zR (some 154)), some (zI b), none, some (zI (d : Int)), some (zI x')], [], μ, 0, 0) := by
    intro f
    induction f with
    | zero =>
      intro d x' _ _ e lt
      have e : x' = zclo S b 64 0 x := e
      omega
    | succ f ih =>
      intro d x' hdf x0 e lt
      have ge := zclo_ge S b (f + 1) d x'
      have hin : 0 ≤ b + x' ∧ b + x' < 711 := by omega
      have ez := hM (b + x') hin.1 hin.2
      have zz := hz (b + x') hin.1 hin.2
      rw [zclo] at e
      have nx : ∀ d' : Nat, d' + f ≤ 64 → zclo S b f d' (x' + 1) = zclo S b 64 0 x → J 5 ([some (zR (some 154)), some (zI b), none, some (zI (d' : Int)), some (zI (x' + 1))], [], μ, 0, 0) := fun d' hd' e' => ih d' (x' + 1) hd' (by omega) e' (by omega)
      have n0 : ¬ S (b + x') = 41 → ¬ S (b + x') = 40 → J 5 ([some (zR (some 154)), some (zI b), none, some (zI ((d : Int) + 0)), some (zI (x' + 1))], [], μ, 0, 0) := fun c1 c2 => by
        rw [if_neg c1, if_neg c2] at e
        rw [Int.add_zero]; exact nx d (by omega) e
      have n1 : S (b + x') = 40 → J 5 ([some (zR (some 154)), some (zI b), none, some (zI ((d : Int) + 1)), some (zI (x' + 1))], [], μ, 0, 0) := fun c2 => by
        rw [if_neg (by omega), if_pos c2] at e
        exact nx (d + 1) (by omega) e
      refine rX11_closing_5 C zZ154 (by decide) _ _ _ ⟨by constructor <;> omega, fun hd => ⟨hin, ?_⟩, fun hd => ⟨hin, ?_⟩⟩
      · rw [ez]
        refine ⟨zz, fun c1 => ⟨fun c2 => n0 c2 c1, fun c2 => ?_⟩, n1⟩
        rw [if_pos c2, if_neg (by omega)] at e
        have := nx (d - 1) (by omega) e
        rw [show (d : Int) + -1 = ((d - 1 : Nat) : Int) by omega]; exact this
      · rw [ez]
        refine ⟨zz, fun c1 => ?_, fun c1 => ⟨fun c2 => ⟨fun c3 => n0 c3 c2, fun c3 => absurd c3 c1⟩, n1⟩⟩
        rw [if_pos c1, if_pos (by omega)] at e
        rw [e]; exact h
  exact key 64 0 x (by decide) hx rfl (by omega)
theorem kX11_timesOf {F : Int → zM → Prop} {A : Int → Int} (hA : zisA μ 164 A) (hm : zAmt A) (hM : zMs μ S) (hz : zSx S) {a k : Int} (ha : 0 ≤ a ∧ a ≤ 5) (hk : 0 ≤ k ∧ k < 40) (hc : zaro (S (zba a + k))) (ho : zfok (S (zba a + k)) (zf1 S a k) (zf2 S a k)) (h : F (ztmo (S (zba a + k)) (zf1 S a k) (zf2 S a k) A) μ) : qX11_timesOf G (S (zba a + k)) (zba a + k) μ F := by
  have hba : zba a = 360 + 40 * a := rfl
  have b1 : 0 ≤ zba a + k + 1 ∧ zba a + k + 1 < 711 := by omega
  have b2 : 0 ≤ zba a + k + 2 ∧ zba a + k + 2 < 711 := by omega
  have e1 := hM (zba a + k + 1) b1.1 b1.2
  have e2 := hM (zba a + k + 2) b2.1 b2.2
  have z0 := hz (zba a + k) (by omega) (by omega)
  have z1 := hz (zba a + k + 1) b1.1 b1.2
  have z2 := hz (zba a + k + 2) b2.1 b2.2
  have am : ∀ f : Int, 0 ≤ f ∧ f < 4 → zin (A f) := fun f hf => by have := hm f hf.1 hf.2; constructor <;> omega
  clear hba ha hk
  obtain ⟨-, -, -, o4, -, o6, o7⟩ := ho
  refine eX11_timesOf fun J C => rX11_timesOf_e C _ _ ?_
  rw [e1]
  unfold ztmo at h
  rcases hc with c | c | c | c
  · rw [if_pos c] at h
    have f1d : zf1 S a k = S (zba a + k + 1) - 48 := by unfold zf1; rw [if_neg (fun q => absurd (c.symm.trans q) (by decide)), if_pos (Or.inr (Or.inr c))]
    rw [f1d] at h
    exact ⟨z0, fun q => absurd c q, fun _ => ⟨b1, h⟩⟩
  · have hf := o4 (Or.inr (Or.inr (Or.inr (Or.inr (Or.inr (Or.inl c))))))
    have f1i : zf1 S a k = zik (S (zba a + k + 1)) := by unfold zf1; rw [if_neg (fun q => absurd (c.symm.trans q) (by decide)), if_neg (fun q => by rcases q with q | q | q <;> exact absurd (c.symm.trans q) (by decide))]
    rw [f1i] at h hf
    rw [if_neg (fun q => absurd (c.symm.trans q) (by decide)), if_pos c] at h
    refine ⟨z0, fun _ => ⟨b1, kX11_inkBy z1 ⟨hf, fun q => absurd c q, fun _ => ?_⟩⟩, fun q => absurd (c.symm.trans q) (by decide)⟩
    rw [hA _ hf.1 hf.2]; exact h
  · have hf := o4 (Or.inr (Or.inr (Or.inr (Or.inr (Or.inr (Or.inr (Or.inl c)))))))
    have hs := o6 (Or.inr (Or.inr (Or.inr c)))
    have f1i : zf1 S a k = zik (S (zba a + k + 1)) := by unfold zf1; rw [if_neg (fun q => absurd (c.symm.trans q) (by decide)), if_neg (fun q => by rcases q with q | q | q <;> exact absurd (c.symm.trans q) (by decide))]
    have f2d : zf2 S a k = S (zba a + k + 2) - 48 := by unfold zf2; rw [if_neg (fun q => by rcases q with q | q <;> exact absurd (c.symm.trans q) (by decide))]
    rw [f1i, f2d] at h
    rw [f1i] at hf
    rw [f2d] at hs
    rw [if_neg (fun q => absurd (c.symm.trans q) (by decide)), if_neg (fun q => absurd (c.symm.trans q) (by decide)), if_pos c] at h
    refine ⟨z0, fun _ => ⟨b1, kX11_inkBy z1 ⟨hf, fun _ => ⟨fun q => absurd c q, fun _ => ⟨b2, ?_⟩⟩, fun q => absurd (c.symm.trans q) (by decide)⟩⟩, fun q => absurd (c.symm.trans q) (by decide)⟩
    rw [hA _ hf.1 hf.2, e2]
    exact ⟨am _ hf, by constructor <;> omega, fun z => by rw [if_pos z] at h; exact h, fun z => by rw [if_neg z] at h; exact h⟩
  · have hf := o4 (Or.inr (Or.inr (Or.inr (Or.inr (Or.inr (Or.inr (Or.inr c)))))))
    have hs := o7 (Or.inr c)
    have f1i : zf1 S a k = zik (S (zba a + k + 1)) := by unfold zf1; rw [if_neg (fun q => absurd (c.symm.trans q) (by decide)), if_neg (fun q => by rcases q with q | q | q <;> exact absurd (c.symm.trans q) (by decide))]
    have f2i : zf2 S a k = zik (S (zba a + k + 2)) := by unfold zf2; rw [if_pos (Or.inr c)]
    rw [f1i, f2i] at h
    rw [f1i] at hf
    rw [f2i] at hs
    rw [if_neg (fun q => absurd (c.symm.trans q) (by decide)), if_neg (fun q => absurd (c.symm.trans q) (by decide)), if_neg (fun q => absurd (c.symm.trans q) (by decide)), if_pos c] at h
    refine ⟨z0, fun _ => ⟨b1, kX11_inkBy z1 ⟨hf, fun _ => ⟨fun _ => ⟨b2, ?_⟩, fun q => absurd (c.symm.trans q) (by decide)⟩, fun q => absurd (c.symm.trans q) (by decide)⟩⟩, fun q => absurd (c.symm.trans q) (by decide)⟩
    rw [e2]
    refine kX11_inkBy z2 ⟨hs, ?_⟩
    rw [hA _ hf.1 hf.2, hA _ hs.1 hs.2]
    exact ⟨am _ hf, am _ hs, fun z => by rw [if_pos z] at h; exact h, fun z => by rw [if_neg z] at h; exact h⟩
theorem kX11_does1 {F : zM → Prop} {dd : Nat} {A : Int → Int} (hA : zisA μ 164 A) (hm : zAmt A) (hM : zMs μ S) (hz : zSx S) (hcv : zCv S) {a k : Int} (ha : 0 ≤ a ∧ a ≤ 5) (hk : 0 ≤ k ∧ k < 40) (hkin : zkin (S (zba a + k))) (hc : ¬ zaro (S (zba a + k))) (hp : S (zba a + k) ≠ 112) (ho : zfok (S (zba a + k)) (zf1 S a k) (zf2 S a k)) (h : ∀ μ', zsm (fun b _ => b = 164) μ μ' → zisA μ' 164 (zon S (S (zba a + k)) (zf1 S a k) (zf2 S a k) A) → F μ') : qX11_does G dd (S (zba a + k)) a (zba a + k) μ F := by
  obtain ⟨o1, o2, o3, o4, o5, o6, o7⟩ := id ho
  have hba : zba a = 360 + 40 * a := rfl
  have q0 := hm 0 (by decide) (by decide); have q1 := hm 1 (by decide) (by decide); have q2 := hm 2 (by decide) (by decide); have q3 := hm 3 (by decide) (by decide)
  have a0 := hA 0 (by decide) (by decide); have a1 := hA 1 (by decide) (by decide); have a2 := hA 2 (by decide) (by decide); have a3 := hA 3 (by decide) (by decide)
  have e1 := hM (zba a + k + 1) (by omega) (by omega)
  have e2 := hM (zba a + k + 2) (by omega) (by omega)
  have z0 := hz (zba a + k) (by omega) (by omega)
  have z1 := hz (zba a + k + 1) (by omega) (by omega)
  have z2 := hz (zba a + k + 2) (by omega) (by omega)
  have h5 : S (zba a + k) ≠ 103 ∧ S (zba a + k) ≠ 108 ∧ S (zba a + k) ≠ 112 ∧ S (zba a + k) ≠ 117 ∧ S (zba a + k) ≠ 118 → S (zba a + k) = 97 ∨ S (zba a + k) = 115 ∨ S (zba a + k) = 119 ∨ S (zba a + k) = 104 ∨ S (zba a + k) = 120 := fun c => by
    rcases hkin with e | e | e | e | e | e | e | e | e | e | e
    · exact absurd e c.2.1
    · exact absurd e c.2.2.2.2
    · exact absurd e c.1
    · exact absurd e c.2.2.2.1
    · exact Or.inl e
    · exact Or.inr (Or.inl e)
    · exact Or.inr (Or.inr (Or.inl e))
    · exact Or.inr (Or.inr (Or.inr (Or.inl e)))
    · exact Or.inr (Or.inr (Or.inr (Or.inr e)))
    · exact absurd e hp
    · exact absurd e hc
  clear ho
  have self : zsm (fun b _ => b = 164) μ μ := zsm.refl _ _
  refine eX11_does fun J C => rX11_does_e C _ _ _ ?_
  rw [e1, a0, a1, a2, a3]
  refine ⟨z0, fun c => ?_, fun c => ⟨by omega, ?_⟩, fun c => absurd c hp, fun c => ?_, fun c => ?_, fun c => ⟨by omega, kX11_inkBy z1 ?_⟩⟩
  · have e : zf1 S a k = S (zba a + k + 1) - 48 := by unfold zf1; rw [if_neg (by omega), if_pos (by omega)]
    have hf := o2 c
    rw [e] at hf h
    have m := zmd4 (g := min (A 0) (min (A 1) (A 2))) (d := S (zba a + k + 1) - 48) (by omega) hf
    refine ⟨by constructor <;> omega, by constructor <;> omega, by constructor <;> omega, by constructor <;> omega, by omega, by omega, by constructor <;> omega, by constructor <;> omega, kX11_trade hA fun μ2 g2 t2 => h μ2 g2 ?_⟩
    rw [zon, if_neg (by omega), if_neg (by omega), if_pos c]
    exact t2
  · have e : zf1 S a k = S (606 + a) := by unfold zf1; rw [if_pos c]
    have hf := o1 c
    rw [hM (606 + a) (by omega) (by omega), ← e]
    refine kX11_limit hA hm hf fun μ2 g2 t2 => h μ2 g2 ?_
    rw [zon, if_pos c]
    exact t2
  · have e : zf1 S a k = S (zba a + k + 1) - 48 := by unfold zf1; rw [if_neg (by omega), if_pos (by omega)]
    have hf := o3 c
    rw [e] at hf h
    refine ⟨by omega, by constructor <;> omega, by constructor <;> omega, by constructor <;> omega, by constructor <;> omega, by constructor <;> omega, by constructor <;> omega, by constructor <;> omega, by constructor <;> omega, kX11_trade hA fun μ2 g2 t2 => h μ2 g2 ?_⟩
    rw [zon, if_neg (by omega), if_neg (by omega), if_neg (by omega), if_pos c]
    exact t2
  · rw [zon, if_neg (by omega), if_pos c] at h
    refine znfor (N := 4) (P := fun n => ∀ μ', zsm (fun b _ => b = 164) μ μ' → (∀ i : Int, 0 ≤ i → i < n → zi μ' 164 i = S (324 + 9 * i + A i)) → (∀ i : Int, n ≤ i → i < 4 → zi μ' 164 i = A i) → J 72 ([some (zR (some 153)), none, none, none, some (zI (n : Int))], [], μ', 0, 0)) ?_ ?_ μ self (fun i h0 h1 => absurd h0 (by omega)) (fun i h0 h1 => hA i (by omega) h1)
    · intro μ1 g1 g2 g3
      exact rX11_does_72 C _ ⟨by decide, fun _ => h _ g1 (fun i h0 h1 => g2 i h0 (by omega)), fun c => absurd (by decide) c⟩
    · intro n hn hj μ1 g1 g2 g3
      have q := hm n (by omega) (by omega)
      refine rX11_does_72 C _ ⟨by constructor <;> omega, fun c => absurd c (by omega), fun _ => ⟨by omega, ?_⟩⟩
      rw [g3 n (Int.le_refl _) (by omega)]
      refine ⟨by omega, hj _ (g1.up _ rfl) (fun i h0 h1 => ?_) (fun i h0 h1 => by rw [zi_off (by omega)]; exact g3 i (by omega) h1)⟩
      by_cases e : i = n
      · subst e
        rw [zi_at, g1.1 _ _ (by omega)]
        exact hM _ (by omega) (by omega)
      · rw [zi_off (by omega)]; exact g2 i h0 (by omega)
  · have h5 := h5 c
    have e : zf1 S a k = zik (S (zba a + k + 1)) := by unfold zf1; rw [if_neg c.2.1, if_neg (by omega)]
    have hf := o4 (by clear o1 o2 o3 o4 o5 o6 o7 q0 q1 q2 q3 a0 a1 a2 a3 e1 e2 z0 z1 z2 hba ha hk; omega)
    have af := hm _ hf.1 hf.2
    have o6 : (S (zba a + k) = 97 ∨ S (zba a + k) = 115 ∨ S (zba a + k) = 119) → 0 ≤ zf2 S a k ∧ zf2 S a k ≤ 8 := fun z => o6 (by rcases z with z | z | z; exact Or.inl z; exact Or.inr (Or.inl z); exact Or.inr (Or.inr (Or.inl z)))
    have o7 : S (zba a + k) = 120 → 0 ≤ zf2 S a k ∧ zf2 S a k < 4 := fun z => o7 (Or.inl z)
    clear o1 o2 o3 o4 o5 q0 q1 q2 q3 a0 a1 a2 a3
    rw [e] at hf af h
    refine eX11_doesOne fun J2 C2 => rX11_doesOne_e C2 _ _ _ ?_
    rw [e2, hA _ hf.1 hf.2]
    refine ⟨z0, fun c1 => ⟨by omega, ?_⟩, fun c1 => ⟨hf, by omega, ?_⟩, fun c1 => ⟨by omega, ?_⟩, fun c1 => ⟨hf, by omega, by constructor <;> omega, ?_⟩, fun c1 => ⟨by omega, kX11_inkBy z2 ⟨hf, ?_⟩⟩⟩
    · have es : zf2 S a k = S (zba a + k + 2) - 48 := by unfold zf2; rw [if_neg (by omega)]
      have hs := o6 (Or.inl c1)
      clear o6 o7 h5 c
      rw [es] at hs h
      refine kX11_more hA hm hf (by omega) fun μ2 g2 t2 => h μ2 g2 ?_
      rw [zon, if_neg (by omega), if_neg (by omega), if_neg (by omega), if_neg (by omega), if_pos c1]
      rw [show max 0 (min 8 (A (zik (S (zba a + k + 1))) + (S (zba a + k + 2) - 48))) = min 8 (A (zik (S (zba a + k + 1))) + (S (zba a + k + 2) - 48)) by omega] at t2
      exact t2
    · refine h _ (self.up _ rfl) ?_
      rw [zon, if_neg (by omega), if_neg (by omega), if_neg (by omega), if_neg (by omega), if_neg (by omega), if_neg (by omega), if_neg (by omega), if_pos c1]
      exact zisA_up hA _ _
    · have es : zf2 S a k = S (zba a + k + 2) - 48 := by unfold zf2; rw [if_neg (by omega)]
      have hs := o6 (by omega)
      rw [es] at hs h
      refine kX11_more hA hm hf (by omega) fun μ2 g2 t2 => h μ2 g2 ?_
      rw [zon, if_neg (by omega), if_neg (by omega), if_neg (by omega), if_neg (by omega), if_neg (by omega), if_pos c1]
      rw [show max 0 (min 8 (A (zik (S (zba a + k + 1))) + (48 - S (zba a + k + 2)))) = max 0 (A (zik (S (zba a + k + 1))) - (S (zba a + k + 2) - 48)) by omega] at t2
      exact t2
    · have es : zf2 S a k = S (zba a + k + 2) - 48 := by unfold zf2; rw [if_neg (by omega)]
      have hs := o6 (by omega)
      rw [es] at hs h
      refine ⟨by constructor <;> omega, h _ (self.up _ rfl) ?_⟩
      rw [zon, if_neg (by omega), if_neg (by omega), if_neg (by omega), if_neg (by omega), if_neg (by omega), if_neg (by omega), if_pos c1]
      exact zisA_up hA _ _
    · have c2 : S (zba a + k) = 120 := by omega
      have es : zf2 S a k = zik (S (zba a + k + 2)) := by unfold zf2; rw [if_pos (by omega)]
      have hs := o7 (by omega)
      rw [es] at hs h
      rw [hA _ hs.1 hs.2, hA _ hf.1 hf.2]
      refine ⟨hs, h _ ((self.up _ rfl).up _ rfl) ?_⟩
      rw [zon, if_neg (by omega), if_neg (by omega), if_neg (by omega), if_neg (by omega), if_neg (by omega), if_neg (by omega), if_neg (by omega), if_neg (by omega), if_pos c2]
      exact zisA_up (zisA_up hA _ _) _ _
end
