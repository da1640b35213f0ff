/-! the whole link; through, sources, prints -/
def zlb (b : Nat) : Prop := b = 12 ∨ (∃ j, j < 11 ∧ b = 22 + 8 * j) ∨ b = 144 ∨ b = 152 ∨ 182 ≤ b
def zLw (S : Int → Int) : Prop := (0 ≤ S 612 ∧ S 612 ≤ 6) ∧ (0 < S 612 → (0 ≤ S (600 + S 612 - 1) ∧ S (600 + S 612 - 1) ≤ 40) ∧ zWF S 400 24 (S 612 - 1) 0 (S (600 + S 612 - 1)))
/-- the link that a reference leads to is that of the state -/
def zLnk (S : Int → Int) (μ : zM) (r : Option Nat) : Prop := ∃ b, r = some b ∧ zlb b ∧ zok true μ b (3, 3) ∧ zi μ b 1 = S 613 ∧ zi μ b 2 = S 612 ∧ (S 612 ≤ 0 → zr μ b 0 = none) ∧ (0 < S 612 → zTX S μ 400 (zr μ b 0) (S 612 - 1) 0 (S (600 + S 612 - 1)))
theorem zok.sm {P : Nat → Int → Prop} {μ μ' : zM} {b : Nat} {q : Nat × Nat} (h : zok true μ b q) (hm : zsm P μ μ') : zok true μ' b q := by
  obtain ⟨h1, h2⟩ := h
  refine ⟨by rw [hm.2.2.2]; exact h1, ?_⟩
  unfold zs at h2 ⊢
  rw [hm.2.2.1]
  exact h2
theorem zLnk.sm {S : Int → Int} {P : Nat → Int → Prop} {μ μ' : zM} {r : Option Nat} (h : zLnk S μ r) (hm : zsm P μ μ') (hP : ∀ b j, zlb b → ¬ P b j) : zLnk S μ' r := by
  obtain ⟨b, h1, h2, h3, h4, h5, h6, h7⟩ := h
  refine ⟨b, h1, h2, h3.sm hm, by rw [hm.1 _ _ (hP b _ h2)]; exact h4, by rw [hm.1 _ _ (hP b _ h2)]; exact h5, fun z => by rw [hm.2.1]; exact h6 z, fun z => ?_⟩
  rw [hm.2.1]
  exact zTX.sm hm (fun b j hb => hP b j (Or.inr (Or.inr (Or.inr (Or.inr hb))))) _ _ _ _ _ (h7 z)
noncomputable def zlnA (S : Int → Int) (p : Int) : Int → Int := if S 612 ≤ 0 then zam p else zgo S 400 (S 612 - 1) 0 (S (600 + S 612 - 1)) (zam p)
noncomputable def zlk (S : Int → Int) (p : Int) : Int := zAp (zlnA S p)
theorem zlnA_am {S : Int → Int} (hcv : zCv S) (hw : zLw S) (p : Int) : zAmt (zlnA S p) := by
  unfold zlnA
  by_cases c : S 612 ≤ 0
  · rw [if_pos c]; exact zAmt.of p
  · rw [if_neg c]; exact zgo_am hcv _ _ _ _ _ _ (hw.2 (by omega)).2 (zAmt.of p)
theorem zlk_pl {S : Int → Int} (hcv : zCv S) (hw : zLw S) (p : Int) : zPl (zlk S p) := zAp_pl (zlnA_am hcv hw p)
theorem zlb_n {b : Nat} (h : zlb b) : b ≠ 3 ∧ b ≠ 4 ∧ ¬ (106 ≤ b ∧ b ≤ 136) ∧ b ≠ 129 ∧ b ≠ 134 := by
  rcases h with h | ⟨j, h, e⟩ | h | h | h <;> omega
section
variable {G : zG} {μ : zM} {S : Int → Int}
theorem kX10_linked {F : Int → zM → Prop} (hL : zLnk S μ (zr μ 5 8)) (hcv : zCv S) (hw : zLw S) (hS : ∀ i, 0 ≤ i → i < 36 → zi μ 9 i = S (324 + i)) {p : Int} (hp : zPl p) (h : ∀ μ', zsm (fun b _ => b = 129) μ μ' → F (zlk S p) μ') : qX10_linked G p μ F := by
  have z9 : zIsAr 9 36 := ⟨by decide, by decide +kernel⟩
  refine eX10_linked fun J C => rX10_linked_e C _ (kX2_load hp fun μ1 g1 a1 => ?_)
  have hL1 := hL.sm g1 (fun b j hb z => (zlb_n hb).2.2.2.1 z)
  rw [← g1.2.1] at hL1
  obtain ⟨b, h1, h2, h3, h4, h5, h6, h7⟩ := hL1
  have fin : ∀ μ2, zsm (fun b _ => b = 129) μ1 μ2 → zisA μ2 129 (zlnA S p) → qX2_place G μ2 (fun v3 μ3 => F v3 μ3) := fun μ2 g2 a2 => kX2_place a2 (h μ2 (g1.trans g2))
  refine ⟨b, h1, h3, eX2_doSteps fun J3 C3 => rX2_doSteps_e C3 _ z9 (by decide) _ ⟨by decide, fun _ => ?_, fun c => absurd (by decide) c⟩⟩
  by_cases c : S 612 ≤ 0
  · rw [h6 c]
    refine rX2_doSteps_10 C3 z9 (by decide) _ _ ⟨fun _ => fin μ1 (zsm.refl _ _) (by unfold zlnA; rw [if_pos c]; exact a1), fun b1 e => by cases e⟩
  · obtain ⟨w1, w2⟩ := hw.2 (by omega)
    exact kX2_steps rfl hcv 400 24 60 C3 w2 (h7 (by omega)) a1 (zAmt.of p) (fun i i0 i1 => by rw [g1.1 _ _ (by omega)]; exact hS i i0 i1) (Int.le_refl _) (by decide) (by decide) (fun μ2 g2 a2 => fin μ2 g2 (by unfold zlnA; rw [if_neg c]; exact a2))
theorem kX11_linked {F : Int → zM → Prop} (hM : zMs μ S) (hz : zSx S) (hcv : zCv S) (hw : zLw S) {p : Int} (h : ∀ μ', zsm (fun b _ => b = 164) μ μ' → F (zcd (zlk S p)) μ') : qX11_linked G (zcd p) μ F := by
  have ham := zlnA_am hcv hw p
  obtain ⟨w0, w1⟩ := id hw
  refine eX11_linked fun J C => rX11_linked_e C _ (kX11_take fun μ1 g1 a1 => ?_)
  have hM1 := hM.sm g1 (by omega)
  rw [hM1 612 (by decide) (by decide)]
  refine ⟨by constructor <;> omega, fun c => kX11_codeNow (A := zlnA S p) (by unfold zlnA; rw [if_pos c]; exact a1) ham (h μ1 g1), fun c => ⟨by omega, ?_⟩⟩
  obtain ⟨w2, w3⟩ := w1 (by omega)
  rw [hM1 (600 + S 612 - 1) (by omega) (by omega)]
  refine eX11_goes fun J2 C2 => rX11_goes_e C2 _ _ _ (kX11_goes hz hcv 400 24 100 C2 w3 a1 (zAmt.of p) hM1 ⟨by omega, by omega⟩ (Int.le_refl _) w2.2 (by decide) (fun μ2 g2 a2 => kX11_codeNow (A := zlnA S p) (by unfold zlnA; rw [if_neg c]; exact a2) ham (h μ2 (g1.trans g2))))
noncomputable def ztha (S : Int → Int) (c : Int) : Int := if zisc c then zcd (zlk S (zpc c)) else -1
theorem kX10_through {F : Int → zM → Prop} {R : List Int} (hX : zXs μ 5 S) (hL : zLnk S μ (zr μ 5 8)) (hcv : zCv S) (hw : zLw S) (hc : zXc μ) (hR : zXr μ R) {c : Int} (ic : zin c) (h : ∀ μ', zsm zPX μ μ' → zXc μ' → zXr μ' R → F (ztha S c) μ') : qX10_through G c μ F := by
  unfold ztha at h
  refine eX10_through fun J C => rX10_through_e C _ (kX10_placeOf ic (fun hc1 => ?_) (fun hc1 => ⟨by decide, fun z => absurd z (by decide), fun _ => ?_⟩))
  · have hp := zpc_pl hc1
    obtain ⟨p0, p1⟩ := id hp
    rw [if_pos hc1] at h
    exact ⟨by constructor <;> omega, fun _ => kX10_linked hL hcv hw hX.2.2.2.1 hp fun μ1 g1 => kX10_codeOf (zlk_pl hcv hw _) (h μ1 (g1.mono (fun b j => by unfold zPX; omega)) (hc.sm g1 (by omega)) (hR.sm g1 (by omega) (by omega))), fun z => absurd p0 z⟩
  · rw [if_neg hc1] at h
    exact h _ (zsm.refl _ _) hc hR
theorem kX11_through {F : Int → zM → Prop} {R : List Int} (hM : zMs μ S) (hz : zSx S) (hcv : zCv S) (hw : zLw S) (hR : zMr μ R) {c : Int} (ic : zin c) (h : ∀ μ', zsm zPM μ μ' → zMr μ' R → F (ztha S c) μ') : qX11_through G c μ F := by
  unfold ztha at h
  refine eX11_through fun J C => rX11_through_e C _ (kX11_isCode ic (fun hc1 => ⟨by decide, fun z => absurd z (by decide), fun _ => ?_⟩) (fun hc1 => ⟨by decide, fun _ => ?_, fun z => absurd rfl z⟩))
  · rw [if_pos hc1] at h
    rw [show qX11_linked G c = qX11_linked G (zcd (zpc c)) by rw [zpc_cd hc1]]
    exact kX11_linked (hM.pm (zMthr μ)) hz hcv hw fun μ1 g1 => h μ1 ((zMthr μ).trans (g1.mono (fun b j => by unfold zPM; omega))) (hR.thr.sm g1 (by omega) (by omega))
  · rw [if_neg hc1] at h
    exact h _ (zMthr μ) hR.thr
/-- of how many, the first, the last -/
noncomputable def zsrs (S : Int → Int) (w : Int) : Nat → Int × Int × Int
  | 0 => (0, -1, -1)
  | n + 1 => if zlk S n = w then ((zsrs S w n).1 + 1, (if (zsrs S w n).2.1 < 0 then (n : Int) else (zsrs S w n).2.1), (n : Int)) else zsrs S w n
theorem zsrs_r (S : Int → Int) (w : Int) : ∀ n : Nat, n ≤ 6561 → (0 ≤ (zsrs S w n).1 ∧ (zsrs S w n).1 ≤ n) ∧ ((zsrs S w n).1 = 0 ∧ (zsrs S w n).2.1 = -1 ∧ (zsrs S w n).2.2 = -1 ∨ 0 < (zsrs S w n).1 ∧ zPl (zsrs S w n).2.1 ∧ zPl (zsrs S w n).2.2)
  | 0, _ => ⟨⟨Int.le_refl _, Int.le_refl _⟩, Or.inl ⟨rfl, rfl, rfl⟩⟩
  | n + 1, hn => by
    obtain ⟨h1, h2⟩ := zsrs_r S w n (by omega)
    have hp : zPl n := ⟨by omega, by omega⟩
    rw [zsrs]
    by_cases c : zlk S n = w
    · rw [if_pos c]
      refine ⟨⟨by show 0 ≤ (zsrs S w n).1 + 1; omega, by show (zsrs S w n).1 + 1 ≤ _; omega⟩, Or.inr ⟨by show 0 < (zsrs S w n).1 + 1; omega, ?_, hp⟩⟩
      show zPl (if (zsrs S w n).2.1 < 0 then (n : Int) else (zsrs S w n).2.1)
      rcases h2 with h2 | h2
      · rw [if_pos (by omega)]; exact hp
      · rw [if_neg (by have := h2.2.1.1; omega)]; exact h2.2.1
    · rw [if_neg c]
      exact ⟨⟨h1.1, by omega⟩, h2⟩
noncomputable def zsra (S : Int → Int) (c : Int) : Int := if zisc c then (zsrs S (zpc c) zN65).1 else -1
noncomputable def zsrr (S : Int → Int) (c : Int) (R : List Int) : List Int := if zisc c then (if (zsrs S (zpc c) zN65).1 ≤ 0 then [] else [] ++ [zcd (zsrs S (zpc c) zN65).2.1] ++ [zcd (zsrs S (zpc c) zN65).2.2]) else R
theorem kX10_sources {F : Int → zM → Prop} {R : List Int} (hX : zXs μ 5 S) (hL : zLnk S μ (zr μ 5 8)) (hcv : zCv S) (hw : zLw S) (hc : zXc μ) (hR : zXr μ R) {c : Int} (ic : zin c) (h : ∀ μ', zsm zPX μ μ' → zXc μ' → zXr μ' (zsrr S c R) → F (zsra S c) μ') : qX10_sources G c μ F := by
  unfold zsrr zsra at h
  have eN := zN65_e
  refine eX10_sources fun J C => rX10_sources_e C _ (kX10_placeOf ic (fun hc1 => ?_) (fun hc1 => ⟨by decide, fun z => absurd z (by decide), fun _ => ?_⟩))
  · have hq := zpc_pl hc1
    obtain ⟨q0, q1⟩ := id hq
    rw [if_pos hc1, if_pos hc1] at h
    refine ⟨by constructor <;> omega, fun _ => ?_, fun z => absurd q0 z⟩
    refine znfor (N := zN65) (P := fun n => ∀ μ', zsm (fun b _ => b = 129) μ μ' → J 22 ([some (zR (some 0)), none, some (zI (zpc c)), some (zI (zsrs S (zpc c) n).1), some (zI (zsrs S (zpc c) n).2.1), some (zI (zsrs S (zpc c) n).2.2), some (zI (n : Int))], [], μ', 0, 0)) ?_ ?_ μ (zsm.refl _ _)
    · intro μ1 g1
      obtain ⟨r1, r2⟩ := zsrs_r S (zpc c) zN65 (by omega)
      generalize zsrs S (zpc c) zN65 = s at *
      have d1 := zcd_r (p := s.2.1); have d2 := zcd_r (p := s.2.2)
      have hc2 := hc.sm g1 (by omega)
      have gx : zsm zPX μ μ1 := g1.mono (fun b j => by unfold zPX; omega)
      refine rX10_sources_22 C _ _ _ _ _ ⟨by constructor <;> omega, fun _ => kX6_clear fun μ2 g2 t2 => ⟨by constructor <;> omega, fun z => ?_, fun z => ?_⟩, fun z => absurd (by omega) z⟩
      · rw [if_pos z] at h
        exact h μ2 (gx.trans (zXrow g2)) (hc2.sm g2 (by omega)) t2
      · rw [if_neg z] at h
        obtain ⟨_, p1, p2⟩ : 0 < s.1 ∧ zPl s.2.1 ∧ zPl s.2.2 := by
          rcases r2 with ⟨q, _⟩ | q
          · omega
          · exact q
        refine kX10_codeOf p1 ⟨by constructor <;> omega, kX6_append t2 (by simp) fun μ3 g3 t3 => kX10_codeOf p2 ⟨by constructor <;> omega, kX6_append t3 (by simp) fun μ4 g4 t4 => ?_⟩⟩
        have gr := (g2.trans g3).trans g4
        exact h μ4 (gx.trans (zXrow gr)) (hc2.sm gr (by omega)) t4
    · intro n hn hj μ1 g1
      obtain ⟨r1, r2⟩ := zsrs_r S (zpc c) n (by omega)
      have hp : zPl n := ⟨by omega, by omega⟩
      have lp := zlk_pl hcv hw n
      obtain ⟨l0, l1⟩ := id lp
      have x4 : zin (zsrs S (zpc c) n).2.1 := by rcases r2 with q | ⟨_, ⟨q1, q2⟩, _⟩ <;> constructor <;> omega
      refine rX10_sources_22 C _ _ _ _ _ ⟨by constructor <;> omega, fun z => absurd z (by omega), fun _ => kX10_linked (by rw [g1.2.1]; exact hL.sm g1 (fun b j hb z => (zlb_n hb).2.2.2.1 z)) hcv hw (fun i i0 i1 => by rw [g1.1 _ _ (by omega)]; exact hX.2.2.2.1 i i0 i1) hp fun μ2 g2 => ⟨by constructor <;> omega, by constructor <;> omega, fun z => ?_, fun z => ⟨x4, fun y => ?_, fun y => ?_⟩⟩⟩
      · have := hj μ2 (g1.trans g2)
        rw [show zsrs S (zpc c) (n + 1) = zsrs S (zpc c) n from if_neg z] at this
        exact this
      · have := hj μ2 (g1.trans g2)
        rw [show zsrs S (zpc c) (n + 1) = ((zsrs S (zpc c) n).1 + 1, (if (zsrs S (zpc c) n).2.1 < 0 then (n : Int) else (zsrs S (zpc c) n).2.1), (n : Int)) from if_pos z, if_neg (show ¬ (zsrs S (zpc c) n).2.1 < 0 by omega)] at this
        exact this
      · have := hj μ2 (g1.trans g2)
        rw [show zsrs S (zpc c) (n + 1) = ((zsrs S (zpc c) n).1 + 1, (if (zsrs S (zpc c) n).2.1 < 0 then (n : Int) else (zsrs S (zpc c) n).2.1), (n : Int)) from if_pos z, if_pos (show (zsrs S (zpc c) n).2.1 < 0 by omega)] at this
        exact this
  · rw [if_neg hc1, if_neg hc1] at h
    exact h _ (zsm.refl _ _) hc hR
theorem kX11_sources {F : Int → zM → Prop} {R : List Int} (hM : zMs μ S) (hz : zSx S) (hcv : zCv S) (hw : zLw S) (hR : zMr μ R) {c : Int} (ic : zin c) (h : ∀ μ', zsm zPM μ μ' → zMr μ' (zsrr S c R) → F (zsra S c) μ') : qX11_sources G c μ F := by
  unfold zsrr zsra at h
  have eN := zN65_e
  have g0 := zMthr μ
  have hR1 := hR.thr
  have hM1 := hM.pm g0
  refine eX11_sources fun J C => rX11_sources_e C _ ?_
  generalize zup μ 153 5 0 = μ0 at *
  refine kX11_isCode ic (fun hc1 => ⟨by decide, fun _ => ?_, fun z => absurd z (by decide)⟩) (fun hc1 => ⟨by decide, fun z => absurd rfl z, fun _ => ?_⟩)
  · have hq := zpc_pl hc1
    rw [if_pos hc1, if_pos hc1] at h
    refine znfor (N := zN65) (P := fun n => ∀ μ', zsm (fun b _ => b = 164) μ0 μ' → J 24 ([some (zR (some 153)), some (zI c), some (zI (zsrs S (zpc c) n).1), some (zI (if (zsrs S (zpc c) n).1 = 0 then 0 else zcd (zsrs S (zpc c) n).2.1)), some (zI (if (zsrs S (zpc c) n).1 = 0 then 0 else zcd (zsrs S (zpc c) n).2.2)), some (zI (n : Int))], [], μ', 0, 0)) ?_ ?_ μ0 (zsm.refl _ _)
    · intro μ1 g1
      obtain ⟨r1, r2⟩ := zsrs_r S (zpc c) zN65 (by omega)
      generalize zsrs S (zpc c) zN65 = s at *
      have d1 := zcd_r (p := s.2.1); have d2 := zcd_r (p := s.2.2)
      have gx : zsm zPM μ μ1 := g0.trans (g1.mono (fun b j => by unfold zPM; omega))
      refine rX11_sources_24 C _ _ _ _ _ ⟨by constructor <;> omega, fun _ => ⟨by constructor <;> omega, fun z => ?_, fun z => ⟨by split <;> constructor <;> omega, kX11_tell (zMr.nil _) (by simp) fun μ2 g2 t2 => ⟨by split <;> constructor <;> omega, kX11_tell t2 (by simp) fun μ3 g3 t3 => ?_⟩⟩⟩, fun z => absurd (by omega) z⟩
      · rw [if_pos z] at h
        exact h _ (zMrow0 gx) (zMr.nil _)
      · rw [if_neg z] at h
        rw [if_neg (by omega), if_neg (by omega)] at t3
        exact h μ3 ((zMrow0 gx).trans (zMrow (g2.trans g3))) t3
    · intro n hn hj μ1 g1
      obtain ⟨r1, r2⟩ := zsrs_r S (zpc c) n (by omega)
      have hp : zPl n := ⟨by omega, by omega⟩
      have lp := zlk_pl hcv hw n
      have lc := zcd_r (p := zlk S n)
      have ec := zpc_cd hc1
      refine rX11_sources_24 C _ _ _ _ _ ⟨by constructor <;> omega, fun z => absurd z (by omega), fun _ => kX11_codeOf hp (kX11_linked (hM1.sm g1 (by omega)) hz hcv hw fun μ2 g2 => ⟨by constructor <;> omega, ic, fun z => ?_, fun z => ?_⟩)⟩
      · have e : zlk S n = zpc c := zcd_inj lp hq (by rw [ec]; exact z)
        have := hj μ2 (g1.trans g2)
        rw [show zsrs S (zpc c) (n + 1) = ((zsrs S (zpc c) n).1 + 1, (if (zsrs S (zpc c) n).2.1 < 0 then (n : Int) else (zsrs S (zpc c) n).2.1), (n : Int)) from if_pos e, if_neg (show ¬ (zsrs S (zpc c) n).1 + 1 = 0 by omega), if_neg (show ¬ (zsrs S (zpc c) n).1 + 1 = 0 by omega)] at this
        refine ⟨by constructor <;> omega, fun y => ?_, fun y => ?_⟩
        · obtain ⟨_, p1, _⟩ : 0 < (zsrs S (zpc c) n).1 ∧ zPl (zsrs S (zpc c) n).2.1 ∧ zPl (zsrs S (zpc c) n).2.2 := by
            rcases r2 with ⟨q, _⟩ | q
            · exact absurd q y
            · exact q
          have p10 := p1.1
          rw [if_neg (show ¬ (zsrs S (zpc c) n).2.1 < 0 by omega)] at this
          rw [if_neg y]
          exact kX11_codeOf hp this
        · have e2 : (zsrs S (zpc c) n).2.1 = -1 := by
            rcases r2 with ⟨_, q, _⟩ | q
            · exact q
            · omega
          rw [if_pos (show (zsrs S (zpc c) n).2.1 < 0 by omega)] at this
          exact kX11_codeOf hp (kX11_codeOf hp this)
      · have e : ¬ zlk S n = zpc c := fun e => z (by rw [e, ec])
        have := hj μ2 (g1.trans g2)
        rw [show zsrs S (zpc c) (n + 1) = zsrs S (zpc c) n from if_neg e] at this
        exact this
  · rw [if_neg hc1, if_neg hc1] at h
    exact h _ g0 hR1
/-- what is printed -/
noncomputable def zprp (S : Int → Int) (r q b : Int) : Int := zlk S (zmat S (zfx r q b r (zfo S r q b : Nat)) (zfx r q b q (zfo S r q b : Nat)) (zfx r q b b (zfo S r q b : Nat)))
noncomputable def zprw (S : Int → Int) (r q b : Int) : List Int := zr3 S (zprp S r q b) ++ [zdi S (zprp S r q b) r q b]
theorem kX10_prints {F : Int → zM → Prop} {R : List Int} (hX : zXs μ 5 S) (hL : zLnk S μ (zr μ 5 8)) (hcv : zCv S) (hw : zLw S) (hr : zLr S) (hv : zSet S) (hc : zXc μ) (hR : zXr μ R) {r q b : Int} (ir : zin r) (iq : zin q) (ib : zin b) (h : ∀ μ', zsm zPX μ μ' → zXc μ' → zXr μ' (if zcol3 r q b then zprw S r q b else R) → F (if zcol3 r q b then zcd (zprp S r q b) else -1) μ') : qX10_prints G r q b μ F := by
  refine eX10_prints fun J C => rX10_prints_e C _ _ _ (kX10_isColour ir iq ib (fun hc1 => ⟨by decide, fun _ => ?_, fun z => absurd z (by decide)⟩) (fun hc1 => ⟨by decide, fun z => absurd rfl z, fun _ => ?_⟩))
  · rw [if_pos hc1, if_pos hc1] at h
    obtain ⟨h1, h2, h3⟩ := hc1
    have ho := zfo_r S r q b
    have ho2 : 0 ≤ ((zfo S r q b : Nat) : Int) ∧ ((zfo S r q b : Nat) : Int) ≤ 8 := ⟨by omega, by omega⟩
    have f1 := zfx_r h1 h2 h3 h1 ho2; have f2 := zfx_r h1 h2 h3 h2 ho2; have f3 := zfx_r h1 h2 h3 h3 ho2
    have hpl := zlk_pl hcv hw (zmat S (zfx r q b r (zfo S r q b : Nat)) (zfx r q b q (zfo S r q b : Nat)) (zfx r q b b (zfo S r q b : Nat)))
    have hpl : zPl (zprp S r q b) := hpl
    have hd := zdi_r hv hr (p := zprp S r q b) h1 h2 h3
    refine kX10_refresh hX hr hv hc fun μ1 g1 c1 k1 o1 => kX10_foldOf k1 (hX.px (zX105 g1) (by decide)).set o1 hv hr h1 h2 h3 fun μ2 g2 => ⟨by omega, kX10_folded h1 (by omega) ho2 (kX10_folded h2 (by omega) ho2 (kX10_folded h3 (by omega) ho2 (kX4_find zCh_105 zSt_5 (by decide) (by decide) (k1.sm g2 (by omega)) ((hX.px (zX105 g1) (by decide)).set.sm g2 (by omega)) (o1.sm g2 (by omega) (by omega)) hv hr f1 f2 f3 fun μ3 g3 _ _ _ _ => ?_)))⟩
    have gx : zsm zPX μ μ3 := ((zX105 g1).trans (g2.mono (fun b j => by unfold zPX; omega))).trans (g3.mono (fun b j => by unfold zPX; omega))
    have k3 := (k1.sm g2 (by omega)).sm g3 (by omega)
    have c3 := (c1.sm g2 (by omega)).sm g3 (by omega)
    have hX3 := hX.px gx (by decide)
    refine kX10_linked (by rw [gx.2.1]; exact hL.sm gx (fun b j hb z => by have := zlb_n hb; have := zpx _ _ z; omega)) hcv hw hX3.2.2.2.1 (zmat_pl hv hr f1 f2 f3) fun μ4 g4 => kX6_clear fun μ5 g5 r5 => ?_
    have gy : zsm zPX μ μ5 := (gx.trans (g4.mono (fun b j => by unfold zPX; omega))).trans (zXrow g5)
    have k5 := (k3.sm g4 (by omega)).sm g5 (by omega)
    have c5 := (c3.sm g4 (by omega)).sm g5 (by omega)
    refine kX10_tellColour (p := zprp S r q b) r5 (by decide) k5 hr hpl fun μ6 g6 r6 => kX0_distanceTo zCh_105 zSt_5 (k5.sm g6 (by omega)) (hX.px (gy.trans (zXrow g6)) (by decide)).set hpl ⟨(by show zin (zdi S (zprp S r q b) r q b); constructor <;> omega), kX6_append r6 (by simp) fun μ7 g7 r7 => kX10_codeOf hpl ?_⟩
    exact h μ7 ((gy.trans (zXrow g6)).trans (zXrow g7)) ((c5.sm g6 (by omega)).sm g7 (by omega)) r7
  · rw [if_neg hc1, if_neg hc1] at h
    exact h _ (zsm.refl _ _) hc hR
theorem kX11_prints {F : Int → zM → Prop} {R : List Int} (hM : zMs μ S) (hz : zSx S) (hcv : zCv S) (hw : zLw S) (hr : zLr S) (hv : zSet S) (hcd : zcds μ) (hR : zMr μ R) {r q b : Int} (ir : zin r) (iq : zin q) (ib : zin b) (h : ∀ μ', zsm zPM μ μ' → zMr μ' (if zcol3 r q b then zprw S r q b else R) → F (if zcol3 r q b then zcd (zprp S r q b) else -1) μ') : qX11_prints G r q b μ F := by
  have g0 := zMthr μ
  refine eX11_prints fun J C => rX11_prints_e C _ _ _ (kX11_isWanted ir iq ib (fun hc1 => ⟨by decide, fun _ => ?_, fun z => absurd z (by decide)⟩) (fun hc1 => ⟨by decide, fun z => absurd rfl z, fun _ => ?_⟩))
  · rw [if_pos hc1, if_pos hc1] at h
    obtain ⟨h1, h2, h3⟩ := hc1
    have ho := zfo_r S r q b
    have ho2 : 0 ≤ ((zfo S r q b : Nat) : Int) ∧ ((zfo S r q b : Nat) : Int) ≤ 8 := ⟨by omega, by omega⟩
    have f1 := zfx_r h1 h2 h3 h1 ho2; have f2 := zfx_r h1 h2 h3 h2 ho2; have f3 := zfx_r h1 h2 h3 h3 ho2
    have hpl : zPl (zprp S r q b) := zlk_pl hcv hw _
    have hd := zdi_r hv hr (p := zprp S r q b) h1 h2 h3
    refine kX11_layNow (hM.pm g0) hr hv (hcd.pm g0) fun μ1 g1 m1 d1 l1 => kX11_foldOf m1.set l1 hv hr h1 h2 h3 fun μ2 g2 t0 t1 t2 t3 => ?_
    rw [t0, t1, t2]
    have l2 := l1.sm g2 (by omega) (by omega) (by omega) (by omega)
    refine kX11_matchOf (d1.sm g2 (by omega)) (m1.sm g2 (by omega)).set l2 hv hr f1 f2 f3 fun μ3 g3 _ _ _ _ => ?_
    have l3 := l2.sm g3 (by omega) (by omega) (by omega) (by omega)
    refine kX11_linked ((m1.sm g2 (by omega)).sm g3 (by omega)) hz hcv hw fun μ4 g4 => kX11_numberOf (p := zprp S r q b) hpl ?_
    have gx : zsm zPM μ μ4 := (((g0.trans g1).trans (g2.mono (fun b j => by unfold zPM; omega))).trans (g3.mono (fun b j => by unfold zPM; omega))).trans (g4.mono (fun b j => by unfold zPM; omega))
    have l4 := l3.sm g4 (by omega) (by omega) (by omega) (by omega)
    have gy := zMrow0 gx
    have hC : ∀ p b, zPl p → 0 ≤ b → b < 3 → zi (zup μ4 153 4 0) 159 (3 * p + b) = zC S p b := fun p b hp q0 q1 => by rw [zi_off (by omega)]; exact l4.2.1 p b hp q0 q1
    have ry := zMr.nil μ4
    obtain ⟨p0, p1⟩ := id hpl
    have c0 := zC_r hr (p := zprp S r q b) (b := 0) (by decide); have c1 := zC_r hr (p := zprp S r q b) (b := 1) (by decide); have c2 := zC_r hr (p := zprp S r q b) (b := 2) (by decide)
    change J 75 ([some (zR (some 153)), some (zI r), some (zI q), some (zI b), some (zI (zcd (zprp S r q b))), some (zI (zprp S r q b)), some (zI 0)], [], zup μ4 153 4 0, 0, 0)
    generalize zup μ4 153 4 0 = μ5 at *
    have st : ∀ (k : Int) (ν : zM) (L : List Int), 0 ≤ k → k < 3 → zsm (fun b j => b = 156 ∨ (b = 153 ∧ j = 4)) μ5 ν → zMr ν L → L.length < 9 → (∀ ν', zsm (fun b j => b = 156 ∨ (b = 153 ∧ j = 4)) μ5 ν' → zMr ν' (L ++ [zC S (zprp S r q b) k]) → J 75 ([some (zR (some 153)), some (zI r), some (zI q), some (zI b), some (zI (zcd (zprp S r q b))), some (zI (zprp S r q b)), some (zI (k + 1))], [], ν', 0, 0)) → J 75 ([some (zR (some 153)), some (zI r), some (zI q), some (zI b), some (zI (zcd (zprp S r q b))), some (zI (zprp S r q b)), some (zI k)], [], ν, 0, 0) := by
      intro k ν L k0 k1 gν rν hl hj
      have ck := zC_r hr (p := zprp S r q b) (b := k) ⟨k0, k1⟩
      refine rX11_prints_75 C _ _ _ _ _ _ ⟨by constructor <;> omega, fun z => absurd z (by omega), fun _ => ⟨by omega, ?_⟩⟩
      rw [show zi ν 159 (3 * zprp S r q b + k) = zC S (zprp S r q b) k by rw [gν.1 _ _ (by omega)]; exact hC _ _ hpl k0 k1]
      exact ⟨by constructor <;> omega, kX11_tell rν hl fun ν' g' r' => hj ν' (gν.trans g') r'⟩
    refine st 0 μ5 [] (by decide) (by decide) (zsm.refl _ _) ry (by simp) fun ν1 gν1 r1 => st (0 + 1) ν1 _ (by decide) (by decide) gν1 r1 (by simp) fun ν2 gν2 r2 => st (0 + 1 + 1) ν2 _ (by decide) (by decide) gν2 r2 (by simp) fun ν3 gν3 r3 => ?_
    refine rX11_prints_75 C _ _ _ _ _ _ ⟨by decide, fun _ => kX11_apartOf (S := S) (hM.pm (gy.trans (zMrow gν3))).set (fun p b hp q0 q1 => by rw [gν3.1 _ _ (by omega)]; exact hC p b hp q0 q1) hpl ⟨by constructor <;> omega, kX11_tell r3 (by simp) fun ν4 gν4 r4 => h ν4 (gy.trans (zMrow (gν3.trans gν4))) r4⟩, fun z => absurd (by decide) z⟩
  · rw [if_neg hc1, if_neg hc1] at h
    exact h _ g0 hR.thr
end
