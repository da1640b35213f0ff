/-! what calls may change that only read -/
def zPX (b : Nat) (j : Int) : Prop := (b = 3 ∧ j = 1) ∨ b = 4 ∨ (106 ≤ b ∧ b ≤ 136)
def zPM (b : Nat) (j : Int) : Prop := (b = 153 ∧ j ≠ 2 ∧ j ≠ 39) ∨ (156 ≤ b ∧ b ≤ 161) ∨ (163 ≤ b ∧ b ≤ 174) ∨ (176 ≤ b ∧ b ≤ 178)
theorem zX105 {μ μ' : zM} (h : zsm (fun b j => (106 ≤ b ∧ b ≤ 110) ∨ b = 126 ∨ (b = 125 ∧ 1 ≤ j ∧ j ≤ 3)) μ μ') : zsm zPX μ μ' := h.mono (fun b j => by unfold zPX; omega)
theorem zXrow {μ μ' : zM} (h : zsm (fun b j => b = 4 ∨ (b = 3 ∧ j = 1)) μ μ') : zsm zPX μ μ' := h.mono (fun b j => by unfold zPX; omega)
theorem zMrow {μ μ' : zM} (h : zsm (fun b j => b = 156 ∨ (b = 153 ∧ j = 4)) μ μ') : zsm zPM μ μ' := h.mono (fun b j => by unfold zPM; omega)
theorem zMlay {μ μ' : zM} (h : zsm (fun b j => (158 ≤ b ∧ b ≤ 161) ∨ b = 163 ∨ (b = 153 ∧ j = 18)) μ μ') : zsm zPM μ μ' := h.mono (fun b j => by unfold zPM; omega)
theorem zMthr (μ : zM) : zsm zPM μ (zup μ 153 5 0) := (zsm.refl _ _).up _ (by unfold zPM; omega)
theorem zMrow0 {μ μ' : zM} (h : zsm zPM μ μ') : zsm zPM μ (zup μ' 153 4 0) := h.up _ (by unfold zPM; omega)
theorem zpm (b : Nat) (j : Int) (h : zPM b j) : b ≠ 154 ∧ b ≠ 155 ∧ b ≠ 162 ∧ b ≠ 175 ∧ b ≠ 179 ∧ b ≠ 180 ∧ (b = 153 → j ≠ 2 ∧ j ≠ 39) ∧ 153 ≤ b ∧ b ≤ 180 := by unfold zPM at h; omega
theorem zpx (b : Nat) (j : Int) (h : zPX b j) : (b = 3 ∧ j = 1) ∨ b = 4 ∨ (106 ≤ b ∧ b ≤ 136) := h
theorem zMs.pm {μ μ' : zM} {S : Int → Int} (h : zMs μ S) (hm : zsm zPM μ μ') : zMs μ' S := h.sm hm (fun j z => (zpm _ _ z).1 rfl)
theorem zcds.pm {μ μ' : zM} (h : zcds μ) (hm : zsm zPM μ μ') : zcds μ' := h.sm hm (fun j z => (zpm _ _ z).2.2.1 rfl)
theorem zXs.px {μ μ' : zM} {S : Int → Int} {s : Nat} (h : zXs μ s S) (hm : zsm zPX μ μ') (hs : 5 ≤ s ∧ s + 6 ≤ 105 ∨ 137 ≤ s) : zXs μ' s S := h.sm hm (fun b j _ _ z => by have := zpx _ _ z; omega)
theorem zZ154 : zIsAr 154 711 := ⟨by decide, by decide +kernel⟩
section
variable {G : zG} {μ : zM} {S : Int → Int}
theorem kX11_layNow {F : zM → Prop} (hM : zMs μ S) (hr : zLr S) (hv : zSet S) (hcd : zcds μ) (h : ∀ μ', zsm zPM μ μ' → zMs μ' S → zcds μ' → zlaid μ' S → F μ') : qX11_layColours G 154 μ F :=
  kX11_layColours zZ154 (by decide) (by decide) (by decide) hM hv ⟨rfl, rfl⟩ (fun p h0 h1 => hM p h0 (by omega)) hr hcd fun μ' g l => h μ' (zMlay g) (hM.pm (zMlay g)) (hcd.pm (zMlay g)) l
theorem kX10_limited {F : Int → zM → Prop} {R : List Int} (hc : zXc μ) (hR : zXr μ R) {c n : Int} (hci : zin c) (hni : zin n) (h : ∀ μ', zsm zPX μ μ' → zXc μ' → zXr μ' R → F (if zisc c ∧ 8 ≤ n ∧ n ≤ 32 then zcd (zAp (zLim (zam (zpc c)) n)) else -1) μ') : qX10_limited G c n μ F := by
  refine eX10_limited fun J C => rX10_limited_e C _ _ (kX10_placeOf hci (fun hc1 => ?_) (fun hc0 => ⟨by decide, fun _ => ?_, fun q => absurd (by decide) q⟩))
  · have hp := zpc_pl hc1
    refine ⟨by obtain ⟨a, b⟩ := hp; constructor <;> omega, fun q => absurd hp.1 (by omega), fun _ => kX10_isIn hni (by decide) (by decide) (fun hn => ⟨by decide, fun _ => kX2_load hp fun μ1 g1 a1 => kX2_limitTo a1 (zAmt.of _) hn fun μ2 g2 a2 => kX2_place a2 (kX10_codeOf (zAp_pl (zLim_am (zAmt.of _) n)) ?_), fun q => absurd q (by decide)⟩) (fun hn => ⟨by decide, fun q => absurd rfl q, fun _ => ?_⟩)⟩
    · rw [if_pos ⟨hc1, hn⟩] at h
      have g := g1.trans g2
      exact h _ (g.mono (fun b j => by unfold zPX; omega)) (hc.sm g (by omega)) (hR.sm g (by omega) (by omega))
    · rw [if_neg (fun z => hn z.2)] at h
      exact h _ (zsm.refl _ _) hc hR
  · rw [if_neg (fun z => hc0 z.1)] at h
    exact h _ (zsm.refl _ _) hc hR
theorem kX11_limited {F : Int → zM → Prop} {R : List Int} (hR : zMr μ R) {c n : Int} (hci : zin c) (hni : zin n) (h : ∀ μ', zsm zPM μ μ' → zMr μ' R → F (if zisc c ∧ 8 ≤ n ∧ n ≤ 32 then zcd (zAp (zLim (zam (zpc c)) n)) else -1) μ') : qX11_limited G c n μ F := by
  have hR0 : zMr (zup μ 153 5 0) R := hR.sm ((zsm.refl (fun b j => b = 153 ∧ j = 5) μ).up 0 ⟨rfl, rfl⟩) (by omega) (by omega)
  refine eX11_limited fun J C => rX11_limited_e C _ _ (kX11_isCode hci (fun hc1 => ⟨by decide, fun q => absurd q (by decide), fun _ => kX11_in hni (by decide) (by decide) (fun hn => ⟨by decide, fun _ => ?_, fun q => absurd q (by decide)⟩) (fun hn => ⟨by decide, fun q => absurd rfl q, fun _ => ?_⟩)⟩) (fun hc0 => ⟨by decide, fun _ => ?_, fun q => absurd rfl q⟩))
  · have hl := zLim_am (zAmt.of (zpc c)) n
    rw [if_pos ⟨hc1, hn⟩] at h
    rw [show qX11_take G c = qX11_take G (zcd (zpc c)) by rw [zpc_cd hc1]]
    refine kX11_take fun μ1 g1 a1 => kX11_limit a1 (zAmt.of _) hn fun μ2 g2 a2 => kX11_codeNow a2 hl ?_
    have g := g1.trans g2
    exact h _ ((zMthr μ).trans (g.mono (fun b j => by unfold zPM; omega))) (hR0.sm g (by omega) (by omega))
  · rw [if_neg (fun z => hn z.2)] at h
    exact h _ (zMthr μ) hR0
  · rw [if_neg (fun z => hc0 z.1)] at h
    exact h _ (zMthr μ) hR0
theorem zMr.thr {μ : zM} {R : List Int} (hR : zMr μ R) : zMr (zup μ 153 5 0) R := hR.sm ((zsm.refl (fun b j => b = 153 ∧ j = 5) μ).up 0 ⟨rfl, rfl⟩) (by omega) (by omega)
theorem zMr.nl (μ : zM) : zMr (zup μ 153 4 0) [] := zMr.nil μ
/-- the row after colour -/
noncomputable def zr3 (S : Int → Int) (p : Int) : List Int := [] ++ [zC S p 0] ++ [zC S p 1] ++ [zC S p 2]
theorem kX10_colour {F : Int → zM → Prop} {R : List Int} (hX : zXs μ 5 S) (hr : zLr S) (hv : zSet S) (hc : zXc μ) (hR : zXr μ R) {c : Int} (hci : zin c) (h : ∀ μ', zsm zPX μ μ' → zXc μ' → zXr μ' (if zisc c then zr3 S (zpc c) else R) → F (if zisc c then ztot (zpc c) else -1) μ') : qX10_colour G c μ F := by
  refine eX10_colour fun J C => rX10_colour_e C _ (kX10_placeOf hci (fun hc1 => ?_) (fun hc0 => ⟨by decide, fun q => absurd q (by decide), fun _ => ?_⟩))
  · have hp := zpc_pl hc1
    rw [if_pos hc1, if_pos hc1] at h
    refine ⟨by obtain ⟨a, b⟩ := hp; constructor <;> omega, fun _ => kX10_refresh hX hr hv hc fun μ1 g1 c1 k1 o1 => kX6_clear fun μ2 g2 r2 => kX10_tellColour r2 (by decide) (k1.sm g2 (by omega)) hr hp fun μ3 g3 r3 => kX10_totalOf hp ?_, fun q => absurd hp.1 q⟩
    exact h μ3 (((zX105 g1).trans (zXrow g2)).trans (zXrow g3)) ((c1.sm g2 (by omega)).sm g3 (by omega)) r3
  · rw [if_neg hc0, if_neg hc0] at h
    exact h _ (zsm.refl _ _) hc hR
theorem kX11_colour {F : Int → zM → Prop} {R : List Int} (hM : zMs μ S) (hr : zLr S) (hR : zMr μ R) {c : Int} (hci : zin c) (h : ∀ μ', zsm zPM μ μ' → zMr μ' (if zisc c then zr3 S (zpc c) else R) → F (if zisc c then ztot (zpc c) else -1) μ') : qX11_colour G c μ F := by
  refine eX11_colour fun J C => rX11_colour_e C _ (kX11_isCode hci (fun hc1 => ⟨by decide, fun _ => ?_, fun q => absurd q (by decide)⟩) (fun hc0 => ⟨by decide, fun q => absurd rfl q, fun _ => ?_⟩))
  · rw [if_pos hc1, if_pos hc1] at h
    have c0 := zC_r hr (p := zpc c) (b := 0) (by decide); have c1 := zC_r hr (p := zpc c) (b := 1) (by decide); have c2 := zC_r hr (p := zpc c) (b := 2) (by decide)
    refine kX11_layLights zZ154 (by decide) (by decide) (by decide) (S := S) (fun p h0 h1 => (hM.pm (zMthr μ)) p h0 (by omega)) hr fun μ1 g1 l1 => ?_
    rw [show qX11_layColour G c = qX11_layColour G (zcd (zpc c)) by rw [zpc_cd hc1]]
    refine kX11_layColour z159 (by decide) (by decide) l1 (by decide) (by decide) fun μ2 g2 k2 => ?_
    have e0 : zi μ2 159 0 = zC S (zpc c) 0 := k2 0 (by decide) (by decide)
    have e1 : zi μ2 159 1 = zC S (zpc c) 1 := k2 1 (by decide) (by decide)
    have e2 : zi μ2 159 2 = zC S (zpc c) 2 := k2 2 (by decide) (by decide)
    have gg : zsm zPM μ (zup μ2 153 4 0) := zMrow0 (((zMthr μ).trans (g1.mono (fun b j => by unfold zPM; omega))).trans (g2.mono (fun b j => by unfold zPM; omega)))
    have f0 : zi (zup μ2 153 4 0) 159 0 = zC S (zpc c) 0 := by rw [zi_off (by omega)]; exact e0
    refine rX11_colour_39 C _ _ ⟨by decide, fun q => absurd q (by decide), fun _ => ⟨by decide, ?_⟩⟩
    rw [f0]
    refine ⟨by constructor <;> omega, kX11_tell (zMr.nil _) (by decide) fun μ3 g3 r3 => rX11_colour_39 C _ _ ⟨by decide, fun q => absurd q (by decide), fun _ => ⟨by decide, ?_⟩⟩⟩
    rw [show zi μ3 159 (0 + 1) = zC S (zpc c) 1 by rw [g3.1 _ _ (by omega), zi_off (by omega)]; exact e1]
    refine ⟨by constructor <;> omega, kX11_tell r3 (by simp) fun μ4 g4 r4 => rX11_colour_39 C _ _ ⟨by decide, fun q => absurd q (by decide), fun _ => ⟨by decide, ?_⟩⟩⟩
    rw [show zi μ4 159 (0 + 1 + 1) = zC S (zpc c) 2 by rw [g4.1 _ _ (by omega), g3.1 _ _ (by omega), zi_off (by omega)]; exact e2]
    refine ⟨by constructor <;> omega, kX11_tell r4 (by simp) fun μ5 g5 r5 => rX11_colour_39 C _ _ ⟨by decide, fun _ => ?_, fun q => absurd (by decide) q⟩⟩
    rw [show qX11_totalOf G true c = qX11_totalOf G true (zcd (zpc c)) by rw [zpc_cd hc1]]
    exact kX11_totalOf (h μ5 (((gg.trans (zMrow g3)).trans (zMrow g4)).trans (zMrow g5)) r5)
  · rw [if_neg hc0, if_neg hc0] at h
    exact h _ (zMthr μ) hR.thr
/-- the row after match -/
noncomputable def zrm4 (S : Int → Int) (r q b : Int) : List Int := [] ++ [zdi S (zmat S r q b) r q b] ++ [zlow S r q b (zON S)] ++ [zhigh S r q b (zON S)] ++ [zfts S r q b (zON S)]
theorem kX10_match {F : Int → zM → Prop} {R : List Int} (hX : zXs μ 5 S) (hr : zLr S) (hv : zSet S) (hc : zXc μ) (hR : zXr μ R) {r q b : Int} (ir : zin r) (iq : zin q) (ib : zin b) (h : ∀ μ', zsm zPX μ μ' → zXc μ' → zXr μ' (if zcol3 r q b then zrm4 S r q b else R) → F (if zcol3 r q b then zcd (zmat S r q b) else -1) μ') : qX10_match G r q b μ F := by
  refine eX10_match fun J C => rX10_match_e C _ _ _ (kX10_isColour ir iq ib (fun hw => ⟨by decide, fun _ => ?_, fun z => absurd z (by decide)⟩) (fun hw => ⟨by decide, fun z => absurd rfl z, fun _ => ?_⟩))
  · rw [if_pos hw, if_pos hw] at h
    obtain ⟨h1, h2, h3⟩ := hw
    have hN := zON_le S
    have hm := zmat_pl hv hr h1 h2 h3
    have hd := zdi_r hv hr (p := zmat S r q b) h1 h2 h3
    have hlo := zlow_r S r q b (zON S)
    have hft := zfts_r S r q b (zON S)
    refine kX10_refresh hX hr hv hc fun μ1 g1 c1 k1 o1 => kX4_find zCh_105 zSt_5 (by decide) (by decide) k1 (hX.px (zX105 g1) (by decide)).set o1 hv hr h1 h2 h3 fun μ2 g2 t1 t2 t3 t4 => kX6_clear fun μ3 g3 r3 => ?_
    rw [show zi μ3 125 5 = zdi S (zmat S r q b) r q b by rw [g3.1 _ _ (by omega)]; exact t1]
    refine ⟨by constructor <;> omega, kX6_append r3 (by simp) fun μ4 g4 r4 => ?_⟩
    rw [show zi μ4 125 6 = zlow S r q b (zON S) by rw [g4.1 _ _ (by omega), g3.1 _ _ (by omega)]; exact t2]
    refine ⟨by constructor <;> omega, kX6_append r4 (by simp) fun μ5 g5 r5 => ?_⟩
    rw [show zi μ5 125 7 = zhigh S r q b (zON S) by rw [g5.1 _ _ (by omega), g4.1 _ _ (by omega), g3.1 _ _ (by omega)]; exact t3]
    refine ⟨by constructor <;> omega, kX6_append r5 (by simp) fun μ6 g6 r6 => ?_⟩
    rw [show zi μ6 125 8 = zfts S r q b (zON S) by rw [g6.1 _ _ (by omega), g5.1 _ _ (by omega), g4.1 _ _ (by omega), g3.1 _ _ (by omega)]; exact t4]
    refine ⟨by constructor <;> omega, kX6_append r6 (by simp) fun μ7 g7 r7 => kX10_codeOf hm ?_⟩
    have gr := (((g3.trans g4).trans g5).trans g6).trans g7
    exact h μ7 (((zX105 g1).trans (g2.mono (fun b j => by unfold zPX; omega))).trans (zXrow gr)) ((c1.sm g2 (by omega)).sm gr (by omega)) r7
  · rw [if_neg hw, if_neg hw] at h
    exact h _ (zsm.refl _ _) hc hR
theorem kX11_match {F : Int → zM → Prop} {R : List Int} (hM : zMs μ S) (hr : zLr S) (hv : zSet S) (hcd : zcds μ) (hR : zMr μ R) {r q b : Int} (ir : zin r) (iq : zin q) (ib : zin b) (h : ∀ μ', zsm zPM μ μ' → zMr μ' (if zcol3 r q b then zrm4 S r q b else R) → F (if zcol3 r q b then zcd (zmat S r q b) else -1) μ') : qX11_match G r q b μ F := by
  refine eX11_match fun J C => rX11_match_e C _ _ _ (kX11_isWanted ir iq ib (fun hw => ⟨by decide, fun _ => ?_, fun z => absurd z (by decide)⟩) (fun hw => ⟨by decide, fun z => absurd rfl z, fun _ => ?_⟩))
  · rw [if_pos hw, if_pos hw] at h
    obtain ⟨h1, h2, h3⟩ := hw
    have hN := zON_le S
    have hm := zmat_pl hv hr h1 h2 h3
    have hd := zdi_r hv hr (p := zmat S r q b) h1 h2 h3
    have hlo := zlow_r S r q b (zON S)
    have hft := zfts_r S r q b (zON S)
    refine kX11_layNow (hM.pm (zMthr μ)) hr hv (hcd.pm (zMthr μ)) fun μ1 g1 m1 d1 l1 => kX11_matchOf d1 m1.set l1 hv hr h1 h2 h3 fun μ2 g2 t0 t1 t2 t3 => kX11_numberOf hm ?_
    have ga : zsm zPM μ1 μ2 := g2.mono (fun b j => by unfold zPM; omega)
    have gb : zsm zPM μ (zup μ2 153 4 0) := zMrow0 (((zMthr μ).trans g1).trans ga)
    have l2 := l1.sm g2 (by omega) (by omega) (by omega) (by omega)
    refine kX11_apartOf (S := S) (hM.pm gb).set (fun p b hp q0 q1 => by rw [zi_off (by omega)]; exact l2.2.1 p b hp q0 q1) hm ⟨by constructor <;> omega, kX11_tell (zMr.nil _) (by simp) fun μ3 g3 r3 => ?_⟩
    rw [show zi μ3 153 21 = zlow S r q b (zON S) by rw [g3.1 _ _ (by omega), zi_off (by omega)]; exact t1]
    refine ⟨by constructor <;> omega, kX11_tell r3 (by simp) fun μ4 g4 r4 => ?_⟩
    rw [show zi μ4 153 22 = zhigh S r q b (zON S) by rw [g4.1 _ _ (by omega), g3.1 _ _ (by omega), zi_off (by omega)]; exact t2]
    refine ⟨by constructor <;> omega, kX11_tell r4 (by simp) fun μ5 g5 r5 => ?_⟩
    rw [show zi μ5 153 23 = zfts S r q b (zON S) by rw [g5.1 _ _ (by omega), g4.1 _ _ (by omega), g3.1 _ _ (by omega), zi_off (by omega)]; exact t3]
    refine ⟨by constructor <;> omega, kX11_tell r5 (by simp) fun μ6 g6 r6 => ?_⟩
    exact h μ6 (gb.trans (zMrow (((g3.trans g4).trans g5).trans g6))) r6
  · rw [if_neg hw, if_neg hw] at h
    exact h _ (zMthr μ) hR.thr
/-- the row after fold -/
noncomputable def zrf4 (S : Int → Int) (r q b : Int) : List Int := [] ++ [zfx r q b r (zfo S r q b : Nat)] ++ [zfx r q b q (zfo S r q b : Nat)] ++ [zfx r q b b (zfo S r q b : Nat)] ++ [zfl S r q b (zfo S r q b : Nat)]
theorem kX10_fold {F : Int → zM → Prop} {R : List Int} (hX : zXs μ 5 S) (hr : zLr S) (hv : zSet S) (hc : zXc μ) (hR : zXr μ R) {r q b : Int} (ir : zin r) (iq : zin q) (ib : zin b) (h : ∀ μ', zsm zPX μ μ' → zXc μ' → zXr μ' (if zcol3 r q b then zrf4 S r q b else R) → F (if zcol3 r q b then (zfo S r q b : Nat) else -1) μ') : qX10_fold G r q b μ F := by
  refine eX10_fold fun J C => rX10_fold_e C _ _ _ (kX10_isColour ir iq ib (fun hw => ⟨by decide, fun _ => ?_, fun z => absurd z (by decide)⟩) (fun hw => ⟨by decide, fun z => absurd rfl z, fun _ => ?_⟩))
  · rw [if_pos hw, if_pos hw] at h
    obtain ⟨h1, h2, h3⟩ := hw
    have ho := zfo_r S r q b
    have ho2 : 0 ≤ ((zfo S r q b : Nat) : Int) ∧ ((zfo S r q b : Nat) : Int) ≤ 8 := ⟨by omega, by omega⟩
    have f1 := zfx_r h1 h2 h3 h1 ho2; have f2 := zfx_r h1 h2 h3 h2 ho2; have f3 := zfx_r h1 h2 h3 h3 ho2
    have fl := zfl_r hv hr h1 h2 h3 ho2
    refine kX10_refresh hX hr hv hc fun μ1 g1 c1 k1 o1 => kX10_foldOf k1 (hX.px (zX105 g1) (by decide)).set o1 hv hr h1 h2 h3 fun μ2 g2 => ⟨by omega, kX6_clear fun μ3 g3 r3 => kX10_folded h1 (by omega) ho2 ⟨⟨?_, ?_⟩, kX6_append r3 (by simp) fun μ4 g4 r4 => kX10_folded h2 (by omega) ho2 ⟨⟨?_, ?_⟩, kX6_append r4 (by simp) fun μ5 g5 r5 => kX10_folded h3 (by omega) ho2 ⟨⟨?_, ?_⟩, kX6_append r5 (by simp) fun μ6 g6 r6 => ?_⟩⟩⟩⟩
    · show (-2147483648 : Int) ≤ zfx r q b r (zfo S r q b : Nat); omega
    · show zfx r q b r (zfo S r q b : Nat) < (2147483648 : Int); omega
    · show (-2147483648 : Int) ≤ zfx r q b q (zfo S r q b : Nat); omega
    · show zfx r q b q (zfo S r q b : Nat) < (2147483648 : Int); omega
    · show (-2147483648 : Int) ≤ zfx r q b b (zfo S r q b : Nat); omega
    · show zfx r q b b (zfo S r q b : Nat) < (2147483648 : Int); omega
    · have gr := ((g3.trans g4).trans g5).trans g6
      have gx : zsm zPX μ μ6 := ((zX105 g1).trans (g2.mono (fun b j => by unfold zPX; omega))).trans (zXrow gr)
      refine kX10_leastFolded ((k1.sm g2 (by omega)).sm gr (by omega)) (hX.px gx (by decide)).set ((o1.sm g2 (by omega) (by omega)).sm gr (by omega) (by omega)) hv hr h1 h2 h3 ho2 fun μ7 g7 => ⟨by constructor <;> omega, kX6_append (r6.sm g7 (by omega) (by omega)) (by simp) fun μ8 g8 r8 => ?_⟩
      exact h μ8 ((gx.trans (g7.mono (fun b j => by unfold zPX; omega))).trans (zXrow g8)) ((((c1.sm g2 (by omega)).sm gr (by omega)).sm g7 (by omega)).sm g8 (by omega)) r8
  · rw [if_neg hw, if_neg hw] at h
    exact h _ (zsm.refl _ _) hc hR
theorem kX11_fold {F : Int → zM → Prop} {R : List Int} (hM : zMs μ S) (hr : zLr S) (hv : zSet S) (hcd : zcds μ) (hR : zMr μ R) {r q b : Int} (ir : zin r) (iq : zin q) (ib : zin b) (h : ∀ μ', zsm zPM μ μ' → zMr μ' (if zcol3 r q b then zrf4 S r q b else R) → F (if zcol3 r q b then (zfo S r q b : Nat) else -1) μ') : qX11_fold G r q b μ F := by
  refine eX11_fold fun J C => rX11_fold_e C _ _ _ (kX11_isWanted ir iq ib (fun hw => ⟨by decide, fun _ => ?_, fun z => absurd z (by decide)⟩) (fun hw => ⟨by decide, fun z => absurd rfl z, fun _ => ?_⟩))
  · rw [if_pos hw, if_pos hw] at h
    obtain ⟨h1, h2, h3⟩ := hw
    have ho := zfo_r S r q b
    have ho2 : 0 ≤ ((zfo S r q b : Nat) : Int) ∧ ((zfo S r q b : Nat) : Int) ≤ 8 := ⟨by omega, by omega⟩
    have f1 := zfx_r h1 h2 h3 h1 ho2; have f2 := zfx_r h1 h2 h3 h2 ho2; have f3 := zfx_r h1 h2 h3 h3 ho2
    have fl := zfl_r hv hr h1 h2 h3 ho2
    refine kX11_layNow (hM.pm (zMthr μ)) hr hv (hcd.pm (zMthr μ)) fun μ1 g1 m1 d1 l1 => kX11_foldOf m1.set l1 hv hr h1 h2 h3 fun μ2 g2 t0 t1 t2 t3 => ?_
    have ga : zsm zPM μ1 μ2 := g2.mono (fun b j => by unfold zPM; omega)
    have gb : zsm zPM μ (zup μ2 153 4 0) := zMrow0 (((zMthr μ).trans g1).trans ga)
    refine rX11_fold_41 C _ _ ⟨by decide, fun z => absurd z (by decide), fun _ => ⟨by decide, ?_⟩⟩
    rw [show zi (zup μ2 153 4 0) 166 0 = zfx r q b r (zfo S r q b : Nat) by rw [zi_off (by omega)]; exact t0]
    refine ⟨by constructor <;> omega, kX11_tell (zMr.nil _) (by simp) fun μ3 g3 r3 => rX11_fold_41 C _ _ ⟨by decide, fun z => absurd z (by decide), fun _ => ⟨by decide, ?_⟩⟩⟩
    rw [show zi μ3 166 (0 + 1) = zfx r q b q (zfo S r q b : Nat) by rw [g3.1 _ _ (by omega), zi_off (by omega)]; exact t1]
    refine ⟨by constructor <;> omega, kX11_tell r3 (by simp) fun μ4 g4 r4 => rX11_fold_41 C _ _ ⟨by decide, fun z => absurd z (by decide), fun _ => ⟨by decide, ?_⟩⟩⟩
    rw [show zi μ4 166 (0 + 1 + 1) = zfx r q b b (zfo S r q b : Nat) by rw [g4.1 _ _ (by omega), g3.1 _ _ (by omega), zi_off (by omega)]; exact t2]
    refine ⟨by constructor <;> omega, kX11_tell r4 (by simp) fun μ5 g5 r5 => rX11_fold_41 C _ _ ⟨by decide, fun _ => ?_, fun z => absurd (by decide) z⟩⟩
    rw [show zi μ5 153 26 = zfl S r q b (zfo S r q b : Nat) by rw [g5.1 _ _ (by omega), g4.1 _ _ (by omega), g3.1 _ _ (by omega), zi_off (by omega)]; exact t3]
    refine ⟨by constructor <;> omega, kX11_tell r5 (by simp) fun μ6 g6 r6 => ?_⟩
    exact h μ6 (gb.trans (zMrow (((g3.trans g4).trans g5).trans g6))) r6
  · rw [if_neg hw, if_neg hw] at h
    exact h _ (zMthr μ) hR.thr
end
