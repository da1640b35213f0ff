/-! the law's cases -/
theorem zTv_nil : zTv [] := ⟨Nat.zero_le _, fun k hk => absurd hk (by simp)⟩
theorem zTv_end {T : List Int} (h : zTv T) (n : Int) : zTv (if 0 ≤ n ∧ n ≤ T.length then T.take n.toNat else T) := by
  split
  · refine ⟨Nat.le_trans (List.length_take_le' _ _) h.1, fun k hk => ?_⟩
    have hk2 := hk
    rw [List.length_take] at hk2
    have e : (T.take n.toNat).getD k 0 = T.getD k 0 := by
      rw [List.getD_eq_getElem?_getD, List.getD_eq_getElem?_getD, List.getElem?_take_of_lt (by omega)]
    rw [e]
    exact h.2 k (by omega)
  · exact h
section
variable {S : Int → Int} {U : List (Int → Int)} {T : List Int}
theorem zok_meaI (h : zok2 S) {p r q b : Int} : zok2 (if zmeaO p r q b then zmeaS S p r q b else S) := by
  split
  · rename_i c; exact zok_mea h c
  · exact h
theorem zok_pat (h : zok2 S) : zok2 (zpatS S T) := by
  unfold zpatS
  split
  · exact h
  · rename_i c; exact zok_paS h (zpat_ok c).2
theorem zok_paU (hU : ∀ V ∈ U, zok2 V) (h : zok2 S) : ∀ V ∈ zpatU S U T, zok2 V := by
  unfold zpatU
  split
  · exact hU
  · exact zok_push hU h
theorem zok_daU (hU : ∀ V ∈ U, zok2 V) (h : zok2 S) {n : Nat} : ∀ V ∈ zdaU S U T n, zok2 V := by
  unfold zdaU
  split
  · exact hU
  · split
    · exact hU
    · exact zok_push hU h
theorem zok_liU (hU : ∀ V ∈ U, zok2 V) (h : zok2 S) : ∀ V ∈ zliU S U T, zok2 V := by
  unfold zliU
  split
  · exact hU
  · split
    · exact hU
    · split
      · exact hU
      · exact zok_push hU h
theorem zok_keep {kp : Int → Int} {K : Int → Int → Int} {j : Int} (hK : ∀ i, 0 ≤ i → i < 2 → (kp i = 0 ∨ kp i = 1) ∧ (kp i = 1 → zok2 (K i))) (h : zok2 S) : ∀ i, 0 ≤ i → i < 2 → (zkk kp j i = 0 ∨ zkk kp j i = 1) ∧ (zkk kp j i = 1 → zok2 (zkK K S j i)) := by
  intro i i0 i1
  unfold zkk zkK zupd
  by_cases c : i = j
  · rw [if_pos c, if_pos c]; exact ⟨Or.inr rfl, fun _ => h⟩
  · rw [if_neg c, if_neg c]; exact hK i i0 i1
end
theorem zLi_i (x : Int) : zLi (some (zI x)) := fun v h => Or.inl ⟨x, by injection h with h; exact h.symm⟩
theorem zLi_l (x : Int) : zLi (some (zL x)) := fun v h => Or.inr ⟨x, by injection h with h; exact h.symm⟩
theorem zLi_n : zLi none := fun v h => by cases h
theorem zMa.out {μ μ' : zM} {S : Int → Int} {U : List (Int → Int)} {kp : Int → Int} {K : Int → Int → Int} {T R : List Int} (h : zMa μ S U kp K T R) (hm : ∀ b j, 153 ≤ b → b ≤ 180 → zi μ' b j = zi μ b j) : zMa μ' S U kp K T R := by
  have g : zsm (fun b _ => b < 153 ∨ 180 < b) μ (μ'.1 , μ.2) → zMa μ' S U kp K T R := fun _ => by
    obtain ⟨h1, h2, h3, h4, h5, h6⟩ := h
    refine ⟨fun i i0 i1 => ?_, ⟨h2.1, ?_, fun k hk i i0 i1 => ?_⟩, fun i i0 i1 => ⟨?_, fun e k k0 k1 => ?_⟩, ⟨?_, fun k hk => ?_⟩, ⟨h5.1, ?_, fun k hk => ?_⟩, fun i i0 i1 => ?_⟩
    · rw [hm _ _ (by decide) (by decide)]; exact h1 i i0 i1
    · rw [hm _ _ (by decide) (by decide)]; exact h2.2.1
    · rw [hm _ _ (by decide) (by decide)]; exact h2.2.2 k hk i i0 i1
    · rw [hm _ _ (by decide) (by decide)]; exact (h3 i i0 i1).1
    · rw [hm _ _ (by decide) (by decide)]; exact (h3 i i0 i1).2 e k k0 k1
    · rw [hm _ _ (by decide) (by decide)]; exact h4.1
    · rw [hm _ _ (by decide) (by decide)]; exact h4.2 k hk
    · rw [hm _ _ (by decide) (by decide)]; exact h5.2.1
    · rw [hm _ _ (by decide) (by decide)]; exact h5.2.2 k hk
    · rw [hm _ _ (by decide) (by decide)]; exact h6 i i0 i1
  exact g ⟨fun b j q => hm b j (by omega) (by omega), rfl, rfl, rfl⟩
/-- what stands behind a case -/
def zNext (G : zG) (J : zG → Nat → zS → Prop) (i : Int) (cn un : Nat) : Prop := ∀ G2, zGx G G2 → ∀ (μ2 : zM) (cn2 un2 : Nat) (l5 l6 l7 : Option zV), cn2 ≤ cn + 43 → un2 ≤ un + 253 → zInv μ2 → zLi l5 → zLi l6 → zLi l7 → J G2 1691 (zLl i l5 l6 l7, [], μ2, cn2, un2)
section
variable {G : zG} {J : zG → Nat → zS → Prop}
theorem jL_match (C : zJL G J) {i : Int} {μ : zM} {cn un : Nat} {l5 l6 l7 : Option zV} (hi : 0 ≤ i ∧ i + 4 < ((zst G 40).1 : Int)) (hn : (zst G 40).1 < 2147483648) (hb : cn + 43 ≤ 601024 ∧ un + 253 ≤ 7293034) (hz : ∀ j, zin (zsv G j)) (hfl : (zl G).stackTraces = false) (h5 : zLi l5) (h6 : zLi l6) (h7 : zLi l7) (I : zInv μ) (N : zNext G J i cn un) : J G 807 (zLl i l5 l6 l7, [], μ, cn, un) := by
  obtain ⟨S, U, kp, K, T, R, hX, hM, hS, hU, hK, hT, hcl⟩ := I
  have hv := hS.1
  refine rL_match C hi hn hb (kX10_match hX.2.1 hv.1 hv.2.1 hX.2.2.2.2.2.2.2 hX.2.2.2.2.2.2.1 (hz _) (hz _) (hz _) (fun μ1 g1 c1 r1 => ?_))
  have hM1 := hM.x (g1.xm (fun b j z => by unfold zPX at z; omega))
  exact kX11_match hM1.1 hv.1 hv.2.1 hM1.2.2.2.2.2 hM1.2.2.2.2.1 (hz _) (hz _) (hz _) (fun μ2 g2 r2 => ⟨rfl, N G (Or.inl rfl) _ _ _ _ _ _ (by omega) (by omega) (zInv_pub hX hM hS hU hK hT hcl g1 c1 r1 g2 r2) h5 h6 h7⟩)
theorem jL_fold (C : zJL G J) {i : Int} {μ : zM} {cn un : Nat} {l5 l6 l7 : Option zV} (hi : 0 ≤ i ∧ i + 4 < ((zst G 40).1 : Int)) (hn : (zst G 40).1 < 2147483648) (hb : cn + 43 ≤ 601024 ∧ un + 253 ≤ 7293034) (hz : ∀ j, zin (zsv G j)) (hfl : (zl G).stackTraces = false) (h5 : zLi l5) (h6 : zLi l6) (h7 : zLi l7) (I : zInv μ) (N : zNext G J i cn un) : J G 856 (zLl i l5 l6 l7, [], μ, cn, un) := by
  obtain ⟨S, U, kp, K, T, R, hX, hM, hS, hU, hK, hT, hcl⟩ := I
  have hv := hS.1
  refine rL_fold C hi hn hb (kX10_fold hX.2.1 hv.1 hv.2.1 hX.2.2.2.2.2.2.2 hX.2.2.2.2.2.2.1 (hz _) (hz _) (hz _) (fun μ1 g1 c1 r1 => ?_))
  have hM1 := hM.x (g1.xm (fun b j z => by unfold zPX at z; omega))
  exact kX11_fold hM1.1 hv.1 hv.2.1 hM1.2.2.2.2.2 hM1.2.2.2.2.1 (hz _) (hz _) (hz _) (fun μ2 g2 r2 => ⟨rfl, N G (Or.inl rfl) _ _ _ _ _ _ (by omega) (by omega) (zInv_pub hX hM hS hU hK hT hcl g1 c1 r1 g2 r2) h5 h6 h7⟩)
theorem jL_ramp (C : zJL G J) {i : Int} {μ : zM} {cn un : Nat} {l5 l6 l7 : Option zV} (hi : 0 ≤ i ∧ i + 4 < ((zst G 40).1 : Int)) (hn : (zst G 40).1 < 2147483648) (hb : cn + 43 ≤ 601024 ∧ un + 253 ≤ 7293034) (hz : ∀ j, zin (zsv G j)) (hfl : (zl G).stackTraces = false) (h5 : zLi l5) (h6 : zLi l6) (h7 : zLi l7) (I : zInv μ) (N : zNext G J i cn un) : J G 954 (zLl i l5 l6 l7, [], μ, cn, un) := by
  obtain ⟨S, U, kp, K, T, R, hX, hM, hS, hU, hK, hT, hcl⟩ := I
  have hv := hS.1
  refine rL_ramp C hi hn hb (kX10_ramp hX.2.1 hv.1 hv.2.1 hX.2.2.2.2.2.2.2 hX.2.2.2.2.2.2.1 (hz _) (hz _) (fun μ1 g1 c1 r1 => ?_))
  have hM1 := hM.x (g1.xm (fun b j z => by unfold zPX at z; omega))
  exact kX11_ramp hM1.1 hv.1 hv.2.1 hM1.2.2.2.2.2 hM1.2.2.2.2.1 (hz _) (hz _) (fun μ2 g2 r2 => ⟨rfl, N G (Or.inl rfl) _ _ _ _ _ _ (by omega) (by omega) (zInv_pub hX hM hS hU hK hT hcl g1 c1 r1 g2 r2) h5 h6 h7⟩)
theorem jL_reach (C : zJL G J) {i : Int} {μ : zM} {cn un : Nat} {l5 l6 l7 : Option zV} (hi : 0 ≤ i ∧ i + 4 < ((zst G 40).1 : Int)) (hn : (zst G 40).1 < 2147483648) (hb : cn + 43 ≤ 601024 ∧ un + 253 ≤ 7293034) (hz : ∀ j, zin (zsv G j)) (hfl : (zl G).stackTraces = false) (h5 : zLi l5) (h6 : zLi l6) (h7 : zLi l7) (I : zInv μ) (N : zNext G J i cn un) : J G 1065 (zLl i l5 l6 l7, [], μ, cn, un) := by
  obtain ⟨S, U, kp, K, T, R, hX, hM, hS, hU, hK, hT, hcl⟩ := I
  have hv := hS.1
  refine rL_reach C hi hn hb (kX10_reach hX.2.1 hv.1 hv.2.1 hX.2.2.2.2.2.2.2 hX.2.2.2.2.2.2.1 (hz _) (fun μ1 g1 c1 r1 => ?_))
  have hM1 := hM.x (g1.xm (fun b j z => by unfold zPX at z; omega))
  exact kX11_reach hM1.1 hv.1 hv.2.1 hM1.2.2.2.2.2 hM1.2.2.2.2.1 (hz _) (fun μ2 g2 r2 => ⟨rfl, N G (Or.inl rfl) _ _ _ _ _ _ (by omega) (by omega) (zInv_pub hX hM hS hU hK hT hcl g1 c1 r1 g2 r2) h5 h6 h7⟩)
theorem jL_odds (C : zJL G J) {i : Int} {μ : zM} {cn un : Nat} {l5 l6 l7 : Option zV} (hi : 0 ≤ i ∧ i + 4 < ((zst G 40).1 : Int)) (hn : (zst G 40).1 < 2147483648) (hb : cn + 43 ≤ 601024 ∧ un + 253 ≤ 7293034) (hz : ∀ j, zin (zsv G j)) (hfl : (zl G).stackTraces = false) (h5 : zLi l5) (h6 : zLi l6) (h7 : zLi l7) (I : zInv μ) (N : zNext G J i cn un) : J G 1103 (zLl i l5 l6 l7, [], μ, cn, un) := by
  obtain ⟨S, U, kp, K, T, R, hX, hM, hS, hU, hK, hT, hcl⟩ := I
  have hv := hS.1
  refine rL_odds C hi hn hb (kX10_odds hX.2.1 hv.1 hv.2.1 hX.2.2.2.2.2.2.2 hX.2.2.2.2.2.2.1 (hz _) (hz _) (hz _) (hz _) (fun μ1 g1 c1 r1 => ?_))
  have hM1 := hM.x (g1.xm (fun b j z => by unfold zPX at z; omega))
  exact kX11_odds hM1.1 hv.1 hv.2.1 hM1.2.2.2.2.2 hM1.2.2.2.2.1 (hz _) (hz _) (hz _) (hz _) (fun μ2 g2 r2 => ⟨rfl, N G (Or.inl rfl) _ _ _ _ _ _ (by omega) (by omega) (zInv_pub hX hM hS hU hK hT hcl g1 c1 r1 g2 r2) h5 h6 h7⟩)
theorem jL_greys (C : zJL G J) {i : Int} {μ : zM} {cn un : Nat} {l5 l6 l7 : Option zV} (hi : 0 ≤ i ∧ i + 4 < ((zst G 40).1 : Int)) (hn : (zst G 40).1 < 2147483648) (hb : cn + 43 ≤ 601024 ∧ un + 253 ≤ 7293034) (hz : ∀ j, zin (zsv G j)) (hfl : (zl G).stackTraces = false) (h5 : zLi l5) (h6 : zLi l6) (h7 : zLi l7) (I : zInv μ) (N : zNext G J i cn un) : J G 1350 (zLl i l5 l6 l7, [], μ, cn, un) := by
  obtain ⟨S, U, kp, K, T, R, hX, hM, hS, hU, hK, hT, hcl⟩ := I
  have hv := hS.1
  refine rL_greys C hi hn hb (kX10_greys hX.2.1 hv.1 hv.2.1 hX.2.2.2.2.2.2.2 hX.2.2.2.2.2.2.1 (hz _) (hz _) (fun μ1 g1 c1 r1 => ?_))
  have hM1 := hM.x (g1.xm (fun b j z => by unfold zPX at z; omega))
  exact kX11_greys hM1.1 hv.1 hv.2.1 hM1.2.2.2.2.2 hM1.2.2.2.2.1 (hz _) (hz _) (fun μ2 g2 r2 => ⟨rfl, N G (Or.inl rfl) _ _ _ _ _ _ (by omega) (by omega) (zInv_pub hX hM hS hU hK hT hcl g1 c1 r1 g2 r2) h5 h6 h7⟩)
theorem jL_replaces (C : zJL G J) {i : Int} {μ : zM} {cn un : Nat} {l5 l6 l7 : Option zV} (hi : 0 ≤ i ∧ i + 4 < ((zst G 40).1 : Int)) (hn : (zst G 40).1 < 2147483648) (hb : cn + 43 ≤ 601024 ∧ un + 253 ≤ 7293034) (hz : ∀ j, zin (zsv G j)) (hfl : (zl G).stackTraces = false) (h5 : zLi l5) (h6 : zLi l6) (h7 : zLi l7) (I : zInv μ) (N : zNext G J i cn un) : J G 1387 (zLl i l5 l6 l7, [], μ, cn, un) := by
  obtain ⟨S, U, kp, K, T, R, hX, hM, hS, hU, hK, hT, hcl⟩ := I
  have hv := hS.1
  refine rL_replaces C hi hn hb (kX10_replaces hX.2.1 hv.1 hv.2.1 hX.2.2.2.2.2.2.2 hX.2.2.2.2.2.2.1 (hz _) (hz _) (hz _) (fun μ1 g1 c1 r1 => ?_))
  have hM1 := hM.x (g1.xm (fun b j z => by unfold zPX at z; omega))
  exact kX11_replaces hM1.1 hv.1 hv.2.1 hM1.2.2.2.2.2 hM1.2.2.2.2.1 (hz _) (hz _) (hz _) (fun μ2 g2 r2 => ⟨rfl, N G (Or.inl rfl) _ _ _ _ _ _ (by omega) (by omega) (zInv_pub hX hM hS hU hK hT hcl g1 c1 r1 g2 r2) h5 h6 h7⟩)
theorem jL_way (C : zJL G J) {i : Int} {μ : zM} {cn un : Nat} {l5 l6 l7 : Option zV} (hi : 0 ≤ i ∧ i + 4 < ((zst G 40).1 : Int)) (hn : (zst G 40).1 < 2147483648) (hb : cn + 43 ≤ 601024 ∧ un + 253 ≤ 7293034) (hz : ∀ j, zin (zsv G j)) (hfl : (zl G).stackTraces = false) (h5 : zLi l5) (h6 : zLi l6) (h7 : zLi l7) (I : zInv μ) (N : zNext G J i cn un) : J G 991 (zLl i l5 l6 l7, [], μ, cn, un) := by
  obtain ⟨S, U, kp, K, T, R, hX, hM, hS, hU, hK, hT, hcl⟩ := I
  have hv := hS.1
  refine rL_way C hi hn hb (kX10_way hX.2.1 hv.1 hv.2.1 hX.2.2.2.2.2.2.2 hX.2.2.2.2.2.2.1 (hz _) (hz _) (hz _) (fun μ1 g1 c1 r1 => ?_))
  have hM1 := hM.x (g1.xm (fun b j z => by unfold zPX at z; omega))
  exact kX11_way hM1.1 hv.1 hv.2.1 hM1.2.2.2.2.2 hM1.2.2.2.2.1 (hz _) (hz _) (hz _) (fun μ2 g2 r2 => ⟨rfl, N G (Or.inl rfl) _ _ _ _ _ _ (by omega) (by omega) (zInv_pub hX hM hS hU hK hT hcl g1 c1 r1 g2 r2) h5 h6 h7⟩)
theorem jL_spread (C : zJL G J) {i : Int} {μ : zM} {cn un : Nat} {l5 l6 l7 : Option zV} (hi : 0 ≤ i ∧ i + 4 < ((zst G 40).1 : Int)) (hn : (zst G 40).1 < 2147483648) (hb : cn + 43 ≤ 601024 ∧ un + 253 ≤ 7293034) (hz : ∀ j, zin (zsv G j)) (hfl : (zl G).stackTraces = false) (h5 : zLi l5) (h6 : zLi l6) (h7 : zLi l7) (I : zInv μ) (N : zNext G J i cn un) : J G 1090 (zLl i l5 l6 l7, [], μ, cn, un) := by
  obtain ⟨S, U, kp, K, T, R, hX, hM, hS, hU, hK, hT, hcl⟩ := I
  have hv := hS.1
  refine rL_spread C hi hn hb (kX10_spread hX.2.1 hv.1 hv.2.1 hX.2.2.2.2.2.2.2 hX.2.2.2.2.2.2.1  (fun μ1 g1 c1 r1 => ?_))
  have hM1 := hM.x (g1.xm (fun b j z => by unfold zPX at z; omega))
  exact kX11_spread hM1.1 hv.1 hv.2.1 hM1.2.2.2.2.2 hM1.2.2.2.2.1  (fun μ2 g2 r2 => ⟨rfl, N G (Or.inl rfl) _ _ _ _ _ _ (by omega) (by omega) (zInv_pub hX hM hS hU hK hT hcl g1 c1 r1 g2 r2) h5 h6 h7⟩)
theorem jL_colour (C : zJL G J) {i : Int} {μ : zM} {cn un : Nat} {l5 l6 l7 : Option zV} (hi : 0 ≤ i ∧ i + 4 < ((zst G 40).1 : Int)) (hn : (zst G 40).1 < 2147483648) (hb : cn + 43 ≤ 601024 ∧ un + 253 ≤ 7293034) (hz : ∀ j, zin (zsv G j)) (hfl : (zl G).stackTraces = false) (h5 : zLi l5) (h6 : zLi l6) (h7 : zLi l7) (I : zInv μ) (N : zNext G J i cn un) : J G 745 (zLl i l5 l6 l7, [], μ, cn, un) := by
  obtain ⟨S, U, kp, K, T, R, hX, hM, hS, hU, hK, hT, hcl⟩ := I
  have hv := hS.1
  refine rL_colour C hi hn hb (kX10_colour hX.2.1 hv.1 hv.2.1 hX.2.2.2.2.2.2.2 hX.2.2.2.2.2.2.1 (hz _) (fun μ1 g1 c1 r1 => ?_))
  have hM1 := hM.x (g1.xm (fun b j z => by unfold zPX at z; omega))
  exact kX11_colour hM1.1 hv.1 hM1.2.2.2.2.1 (hz _) (fun μ2 g2 r2 => ⟨rfl, N G (Or.inl rfl) _ _ _ _ _ _ (by omega) (by omega) (zInv_pub hX hM hS hU hK hT hcl g1 c1 r1 g2 r2) h5 h6 h7⟩)
theorem jL_limited (C : zJL G J) {i : Int} {μ : zM} {cn un : Nat} {l5 l6 l7 : Option zV} (hi : 0 ≤ i ∧ i + 4 < ((zst G 40).1 : Int)) (hn : (zst G 40).1 < 2147483648) (hb : cn + 43 ≤ 601024 ∧ un + 253 ≤ 7293034) (hz : ∀ j, zin (zsv G j)) (hfl : (zl G).stackTraces = false) (h5 : zLi l5) (h6 : zLi l6) (h7 : zLi l7) (I : zInv μ) (N : zNext G J i cn un) : J G 770 (zLl i l5 l6 l7, [], μ, cn, un) := by
  obtain ⟨S, U, kp, K, T, R, hX, hM, hS, hU, hK, hT, hcl⟩ := I
  have hv := hS.1
  refine rL_limited C hi hn hb (kX10_limited hX.2.2.2.2.2.2.2 hX.2.2.2.2.2.2.1 (hz _) (hz _) (fun μ1 g1 c1 r1 => ?_))
  have hM1 := hM.x (g1.xm (fun b j z => by unfold zPX at z; omega))
  exact kX11_limited hM1.2.2.2.2.1 (hz _) (hz _) (fun μ2 g2 r2 => ⟨rfl, N G (Or.inl rfl) _ _ _ _ _ _ (by omega) (by omega) (zInv_pub hX hM hS hU hK hT hcl g1 c1 r1 g2 r2) h5 h6 h7⟩)
theorem jL_rises (C : zJL G J) {i : Int} {μ : zM} {cn un : Nat} {l5 l6 l7 : Option zV} (hi : 0 ≤ i ∧ i + 4 < ((zst G 40).1 : Int)) (hn : (zst G 40).1 < 2147483648) (hb : cn + 43 ≤ 601024 ∧ un + 253 ≤ 7293034) (hz : ∀ j, zin (zsv G j)) (hfl : (zl G).stackTraces = false) (h5 : zLi l5) (h6 : zLi l6) (h7 : zLi l7) (I : zInv μ) (N : zNext G J i cn un) : J G 1040 (zLl i l5 l6 l7, [], μ, cn, un) := by
  obtain ⟨S, U, kp, K, T, R, hX, hM, hS, hU, hK, hT, hcl⟩ := I
  have hv := hS.1
  refine rL_rises C hi hn hb (kX10_rises hX.2.1 hv.1 hv.2.1 hX.2.2.2.2.2.2.2 hX.2.2.2.2.2.2.1 (hz _) (fun μ1 g1 c1 r1 => ?_))
  have hM1 := hM.x (g1.xm (fun b j z => by unfold zPX at z; omega))
  exact kX11_rises hM1.1 hv.1 hM1.2.2.2.2.1 (hz _) (fun μ2 g2 r2 => ⟨rfl, N G (Or.inl rfl) _ _ _ _ _ _ (by omega) (by omega) (zInv_pub hX hM hS hU hK hT hcl g1 c1 r1 g2 r2) h5 h6 h7⟩)
theorem jL_doubt (C : zJL G J) {i : Int} {μ : zM} {cn un : Nat} {l5 l6 l7 : Option zV} (hi : 0 ≤ i ∧ i + 4 < ((zst G 40).1 : Int)) (hn : (zst G 40).1 < 2147483648) (hb : cn + 43 ≤ 601024 ∧ un + 253 ≤ 7293034) (hz : ∀ j, zin (zsv G j)) (hfl : (zl G).stackTraces = false) (h5 : zLi l5) (h6 : zLi l6) (h7 : zLi l7) (I : zInv μ) (N : zNext G J i cn un) : J G 1436 (zLl i l5 l6 l7, [], μ, cn, un) := by
  obtain ⟨S, U, kp, K, T, R, hX, hM, hS, hU, hK, hT, hcl⟩ := I
  have hv := hS.1
  refine rL_doubt C hi hn hb (kX10_doubt hX.2.1 hv.1 hv.2.1 hX.2.2.2.2.2.2.2 hX.2.2.2.2.2.2.1  (fun μ1 g1 c1 r1 => ?_))
  have hM1 := hM.x (g1.xm (fun b j z => by unfold zPX at z; omega))
  exact kX11_doubt hM1.1 hv.1 hv.2.1 hM1.2.2.2.2.1  (fun μ2 g2 r2 => ⟨rfl, N G (Or.inl rfl) _ _ _ _ _ _ (by omega) (by omega) (zInv_pub hX hM hS hU hK hT hcl g1 c1 r1 g2 r2) h5 h6 h7⟩)
theorem jL_asks (C : zJL G J) {i : Int} {μ : zM} {cn un : Nat} {l5 l6 l7 : Option zV} (hi : 0 ≤ i ∧ i + 4 < ((zst G 40).1 : Int)) (hn : (zst G 40).1 < 2147483648) (hb : cn + 43 ≤ 601024 ∧ un + 253 ≤ 7293034) (hz : ∀ j, zin (zsv G j)) (hfl : (zl G).stackTraces = false) (h5 : zLi l5) (h6 : zLi l6) (h7 : zLi l7) (I : zInv μ) (N : zNext G J i cn un) : J G 1449 (zLl i l5 l6 l7, [], μ, cn, un) := by
  obtain ⟨S, U, kp, K, T, R, hX, hM, hS, hU, hK, hT, hcl⟩ := I
  have hv := hS.1
  refine rL_asks C hi hn hb (kX10_asks hX.2.1 hv.1 hv.2.1 hX.2.2.2.2.2.2.2 hX.2.2.2.2.2.2.1  (fun μ1 g1 c1 r1 => ?_))
  have hM1 := hM.x (g1.xm (fun b j z => by unfold zPX at z; omega))
  exact kX11_asks hM1.1 hv.1 hv.2.1 hM1.2.2.2.2.1  (fun μ2 g2 r2 => ⟨rfl, N G (Or.inl rfl) _ _ _ _ _ _ (by omega) (by omega) (zInv_pub hX hM hS hU hK hT hcl g1 c1 r1 g2 r2) h5 h6 h7⟩)
theorem jL_other (C : zJL G J) {i : Int} {μ : zM} {cn un : Nat} {l5 l6 l7 : Option zV} (hi : 0 ≤ i ∧ i + 4 < ((zst G 40).1 : Int)) (hn : (zst G 40).1 < 2147483648) (hb : cn + 43 ≤ 601024 ∧ un + 253 ≤ 7293034) (hz : ∀ j, zin (zsv G j)) (hfl : (zl G).stackTraces = false) (h5 : zLi l5) (h6 : zLi l6) (h7 : zLi l7) (I : zInv μ) (N : zNext G J i cn un) : J G 1462 (zLl i l5 l6 l7, [], μ, cn, un) := by
  obtain ⟨S, U, kp, K, T, R, hX, hM, hS, hU, hK, hT, hcl⟩ := I
  have hv := hS.1
  have hKr : zKr kp K := fun i i0 i1 => ⟨(hK i i0 i1).1, fun e => ⟨((hK i i0 i1).2 e).1.1, ((hK i i0 i1).2 e).1.2.1⟩⟩
  refine rL_other C hi hn hb (kX10_other hX.2.1 hv.1 hv.2.1 hX.2.2.2.2.2.2.2 hX.2.2.2.2.2.2.1 hX.2.2.2.2.1.1 hKr (hz _) (fun μ1 g1 c1 r1 => ?_))
  have hM1 := hM.x (g1.xm (fun b j z => by unfold zPX at z; omega))
  exact kX11_other hM1.1 hv.1 hv.2.1 hM1.2.2.2.2.2 hM1.2.2.2.2.1 hM1.2.2.1 hKr (hz _) (fun μ2 g2 r2 => ⟨rfl, N G (Or.inl rfl) _ _ _ _ _ _ (by omega) (by omega) (zInv_pub hX hM hS hU hK hT hcl g1 c1 r1 g2 r2) h5 h6 h7⟩)
theorem jL_carry (C : zJL G J) {i : Int} {μ : zM} {cn un : Nat} {l5 l6 l7 : Option zV} (hi : 0 ≤ i ∧ i + 4 < ((zst G 40).1 : Int)) (hn : (zst G 40).1 < 2147483648) (hb : cn + 43 ≤ 601024 ∧ un + 253 ≤ 7293034) (hz : ∀ j, zin (zsv G j)) (hfl : (zl G).stackTraces = false) (h5 : zLi l5) (h6 : zLi l6) (h7 : zLi l7) (I : zInv μ) (N : zNext G J i cn un) : J G 1487 (zLl i l5 l6 l7, [], μ, cn, un) := by
  obtain ⟨S, U, kp, K, T, R, hX, hM, hS, hU, hK, hT, hcl⟩ := I
  have hv := hS.1
  have hKr : zKr kp K := fun i i0 i1 => ⟨(hK i i0 i1).1, fun e => ⟨((hK i i0 i1).2 e).1.1, ((hK i i0 i1).2 e).1.2.1⟩⟩
  refine rL_carry C hi hn hb (kX10_carry hX.2.1 hv.1 hv.2.1 hX.2.2.2.2.2.2.2 hX.2.2.2.2.2.2.1 hX.2.2.2.2.1.1 hKr (hz _) (hz _) (fun μ1 g1 c1 r1 => ?_))
  have hM1 := hM.x (g1.xm (fun b j z => by unfold zPX at z; omega))
  exact kX11_carry hM1.1 hv.1 hv.2.1 hM1.2.2.2.2.2 hM1.2.2.2.2.1 hM1.2.2.1 hKr (hz _) (hz _) (fun μ2 g2 r2 => ⟨rfl, N G (Or.inl rfl) _ _ _ _ _ _ (by omega) (by omega) (zInv_pub hX hM hS hU hK hT hcl g1 c1 r1 g2 r2) h5 h6 h7⟩)
theorem jL_press (C : zJL G J) {i : Int} {μ : zM} {cn un : Nat} {l5 l6 l7 : Option zV} (hi : 0 ≤ i ∧ i + 4 < ((zst G 40).1 : Int)) (hn : (zst G 40).1 < 2147483648) (hb : cn + 43 ≤ 601024 ∧ un + 253 ≤ 7293034) (hz : ∀ j, zin (zsv G j)) (hfl : (zl G).stackTraces = false) (h5 : zLi l5) (h6 : zLi l6) (h7 : zLi l7) (I : zInv μ) (N : zNext G J i cn un) : J G 1239 (zLl i l5 l6 l7, [], μ, cn, un) := by
  obtain ⟨S, U, kp, K, T, R, hX, hM, hS, hU, hK, hT, hcl⟩ := I
  have hv := hS.1
  refine rL_press C hi hn hb (kX10_press hX.2.1 hv.1 hv.2.1 hv.2.2.1 hX.2.2.2.2.2.2.2 hX.2.2.2.2.2.2.1 (hz _) (fun μ1 g1 c1 r1 => ?_))
  have hM1 := hM.x (g1.xm (fun b j z => by unfold zPX at z; omega))
  exact kX11_press hM1.1 hv.1 hv.2.1 hv.2.2.1 hM1.2.2.2.2.2 hM1.2.2.2.2.1 (hz _) (fun μ2 g2 r2 => ⟨rfl, N G (Or.inl rfl) _ _ _ _ _ _ (by omega) (by omega) (zInv_pub hX hM hS hU hK hT hcl g1 c1 r1 g2 r2) h5 h6 h7⟩)
theorem jL_cell (C : zJL G J) {i : Int} {μ : zM} {cn un : Nat} {l5 l6 l7 : Option zV} (hi : 0 ≤ i ∧ i + 4 < ((zst G 40).1 : Int)) (hn : (zst G 40).1 < 2147483648) (hb : cn + 43 ≤ 601024 ∧ un + 253 ≤ 7293034) (hz : ∀ j, zin (zsv G j)) (hfl : (zl G).stackTraces = false) (h5 : zLi l5) (h6 : zLi l6) (h7 : zLi l7) (I : zInv μ) (N : zNext G J i cn un) : J G 1264 (zLl i l5 l6 l7, [], μ, cn, un) := by
  obtain ⟨S, U, kp, K, T, R, hX, hM, hS, hU, hK, hT, hcl⟩ := I
  have hv := hS.1
  refine rL_cell C hi hn hb (kX10_cell hX.2.1 hv.1 hv.2.1 hv.2.2.1 hX.2.2.2.2.2.2.2 hX.2.2.2.2.2.2.1 (hz _) (hz _) (fun μ1 g1 c1 r1 => ?_))
  have hM1 := hM.x (g1.xm (fun b j z => by unfold zPX at z; omega))
  exact kX11_cell hM1.1 hv.1 hv.2.1 hv.2.2.1 hM1.2.2.2.2.2 hM1.2.2.2.2.1 (hz _) (hz _) (fun μ2 g2 r2 => ⟨rfl, N G (Or.inl rfl) _ _ _ _ _ _ (by omega) (by omega) (zInv_pub hX hM hS hU hK hT hcl g1 c1 r1 g2 r2) h5 h6 h7⟩)
theorem jL_slips (C : zJL G J) {i : Int} {μ : zM} {cn un : Nat} {l5 l6 l7 : Option zV} (hi : 0 ≤ i ∧ i + 4 < ((zst G 40).1 : Int)) (hn : (zst G 40).1 < 2147483648) (hb : cn + 43 ≤ 601024 ∧ un + 253 ≤ 7293034) (hz : ∀ j, zin (zsv G j)) (hfl : (zl G).stackTraces = false) (h5 : zLi l5) (h6 : zLi l6) (h7 : zLi l7) (I : zInv μ) (N : zNext G J i cn un) : J G 1301 (zLl i l5 l6 l7, [], μ, cn, un) := by
  obtain ⟨S, U, kp, K, T, R, hX, hM, hS, hU, hK, hT, hcl⟩ := I
  have hv := hS.1
  refine rL_slips C hi hn hb (kX10_slips hX.2.1 hv.1 hv.2.1 hv.2.2.1 hX.2.2.2.2.2.2.2 hX.2.2.2.2.2.2.1 (hz _) (hz _) (hz _) (fun μ1 g1 c1 r1 => ?_))
  have hM1 := hM.x (g1.xm (fun b j z => by unfold zPX at z; omega))
  exact kX11_slips hM1.1 hv.1 hv.2.1 hv.2.2.1 hM1.2.2.2.2.2 hM1.2.2.2.2.1 (hz _) (hz _) (hz _) (fun μ2 g2 r2 => ⟨rfl, N G (Or.inl rfl) _ _ _ _ _ _ (by omega) (by omega) (zInv_pub hX hM hS hU hK hT hcl g1 c1 r1 g2 r2) h5 h6 h7⟩)
theorem jL_through (C : zJL G J) {i : Int} {μ : zM} {cn un : Nat} {l5 l6 l7 : Option zV} (hi : 0 ≤ i ∧ i + 4 < ((zst G 40).1 : Int)) (hn : (zst G 40).1 < 2147483648) (hb : cn + 43 ≤ 601024 ∧ un + 253 ≤ 7293034) (hz : ∀ j, zin (zsv G j)) (hfl : (zl G).stackTraces = false) (h5 : zLi l5) (h6 : zLi l6) (h7 : zLi l7) (I : zInv μ) (N : zNext G J i cn un) : J G 1164 (zLl i l5 l6 l7, [], μ, cn, un) := by
  obtain ⟨S, U, kp, K, T, R, hX, hM, hS, hU, hK, hT, hcl⟩ := I
  have hv := hS.1
  refine rL_through C hi hn hb (kX10_through hX.2.1 hX.2.2.1 hv.2.2.2.1 hv.2.2.2.2.1 hX.2.2.2.2.2.2.2 hX.2.2.2.2.2.2.1 (hz _) (fun μ1 g1 c1 r1 => ?_))
  have hM1 := hM.x (g1.xm (fun b j z => by unfold zPX at z; omega))
  exact kX11_through hM1.1 hv.2.2.2.2.2.1 hv.2.2.2.1 hv.2.2.2.2.1 hM1.2.2.2.2.1 (hz _) (fun μ2 g2 r2 => ⟨rfl, N G (Or.inl rfl) _ _ _ _ _ _ (by omega) (by omega) (zInv_pub hX hM hS hU hK hT hcl g1 c1 r1 g2 r2) h5 h6 h7⟩)
theorem jL_sources (C : zJL G J) {i : Int} {μ : zM} {cn un : Nat} {l5 l6 l7 : Option zV} (hi : 0 ≤ i ∧ i + 4 < ((zst G 40).1 : Int)) (hn : (zst G 40).1 < 2147483648) (hb : cn + 43 ≤ 601024 ∧ un + 253 ≤ 7293034) (hz : ∀ j, zin (zsv G j)) (hfl : (zl G).stackTraces = false) (h5 : zLi l5) (h6 : zLi l6) (h7 : zLi l7) (I : zInv μ) (N : zNext G J i cn un) : J G 1189 (zLl i l5 l6 l7, [], μ, cn, un) := by
  obtain ⟨S, U, kp, K, T, R, hX, hM, hS, hU, hK, hT, hcl⟩ := I
  have hv := hS.1
  refine rL_sources C hi hn hb (kX10_sources hX.2.1 hX.2.2.1 hv.2.2.2.1 hv.2.2.2.2.1 hX.2.2.2.2.2.2.2 hX.2.2.2.2.2.2.1 (hz _) (fun μ1 g1 c1 r1 => ?_))
  have hM1 := hM.x (g1.xm (fun b j z => by unfold zPX at z; omega))
  exact kX11_sources hM1.1 hv.2.2.2.2.2.1 hv.2.2.2.1 hv.2.2.2.2.1 hM1.2.2.2.2.1 (hz _) (fun μ2 g2 r2 => ⟨rfl, N G (Or.inl rfl) _ _ _ _ _ _ (by omega) (by omega) (zInv_pub hX hM hS hU hK hT hcl g1 c1 r1 g2 r2) h5 h6 h7⟩)
theorem jL_rounds (C : zJL G J) {i : Int} {μ : zM} {cn un : Nat} {l5 l6 l7 : Option zV} (hi : 0 ≤ i ∧ i + 4 < ((zst G 40).1 : Int)) (hn : (zst G 40).1 < 2147483648) (hb : cn + 43 ≤ 601024 ∧ un + 253 ≤ 7293034) (hz : ∀ j, zin (zsv G j)) (hfl : (zl G).stackTraces = false) (h5 : zLi l5) (h6 : zLi l6) (h7 : zLi l7) (I : zInv μ) (N : zNext G J i cn un) : J G 1214 (zLl i l5 l6 l7, [], μ, cn, un) := by
  obtain ⟨S, U, kp, K, T, R, hX, hM, hS, hU, hK, hT, hcl⟩ := I
  have hv := hS.1
  refine rL_rounds C hi hn hb (kX10_rounds hX.2.1 hX.2.2.1 hv.2.2.2.1 hv.2.2.2.2.1 hX.2.2.2.2.2.2.2 hX.2.2.2.2.2.2.1 (hz _) (fun μ1 g1 c1 r1 => ?_))
  have hM1 := hM.x (g1.xm (fun b j z => by unfold zPX at z; omega))
  exact kX11_rounds hM1.1 hv.2.2.2.2.2.1 hv.2.2.2.1 hv.2.2.2.2.1 hM1.2.2.2.2.1 (hz _) (fun μ2 g2 r2 => ⟨rfl, N G (Or.inl rfl) _ _ _ _ _ _ (by omega) (by omega) (zInv_pub hX hM hS hU hK hT hcl g1 c1 r1 g2 r2) h5 h6 h7⟩)
theorem jL_prints (C : zJL G J) {i : Int} {μ : zM} {cn un : Nat} {l5 l6 l7 : Option zV} (hi : 0 ≤ i ∧ i + 4 < ((zst G 40).1 : Int)) (hn : (zst G 40).1 < 2147483648) (hb : cn + 43 ≤ 601024 ∧ un + 253 ≤ 7293034) (hz : ∀ j, zin (zsv G j)) (hfl : (zl G).stackTraces = false) (h5 : zLi l5) (h6 : zLi l6) (h7 : zLi l7) (I : zInv μ) (N : zNext G J i cn un) : J G 905 (zLl i l5 l6 l7, [], μ, cn, un) := by
  obtain ⟨S, U, kp, K, T, R, hX, hM, hS, hU, hK, hT, hcl⟩ := I
  have hv := hS.1
  refine rL_prints C hi hn hb (kX10_prints hX.2.1 hX.2.2.1 hv.2.2.2.1 hv.2.2.2.2.1 hv.1 hv.2.1 hX.2.2.2.2.2.2.2 hX.2.2.2.2.2.2.1 (hz _) (hz _) (hz _) (fun μ1 g1 c1 r1 => ?_))
  have hM1 := hM.x (g1.xm (fun b j z => by unfold zPX at z; omega))
  exact kX11_prints hM1.1 hv.2.2.2.2.2.1 hv.2.2.2.1 hv.2.2.2.2.1 hv.1 hv.2.1 hM1.2.2.2.2.2 hM1.2.2.2.2.1 (hz _) (hz _) (hz _) (fun μ2 g2 r2 => ⟨rfl, N G (Or.inl rfl) _ _ _ _ _ _ (by omega) (by omega) (zInv_pub hX hM hS hU hK hT hcl g1 c1 r1 g2 r2) h5 h6 h7⟩)
theorem jL_drifts (C : zJL G J) {i : Int} {μ : zM} {cn un : Nat} {l5 l6 l7 : Option zV} (hi : 0 ≤ i ∧ i + 4 < ((zst G 40).1 : Int)) (hn : (zst G 40).1 < 2147483648) (hb : cn + 43 ≤ 601024 ∧ un + 253 ≤ 7293034) (hz : ∀ j, zin (zsv G j)) (hfl : (zl G).stackTraces = false) (h5 : zLi l5) (h6 : zLi l6) (h7 : zLi l7) (I : zInv μ) (N : zNext G J i cn un) : J G 1524 (zLl i l5 l6 l7, [], μ, cn, un) := by
  obtain ⟨S, U, kp, K, T, R, hX, hM, hS, hU, hK, hT, hcl⟩ := I
  have hv := hS.1
  refine rL_drifts C hi hn hb (kX10_drifts hX.2.1 hv.1 hv.2.1 ?_ hX.2.2.2.2.2.2.2 hX.2.2.2.2.2.2.1 (hz _) (hz _) (fun μ1 g1 cl1 c1 r1 => ?_))
  · obtain ⟨⟨a1, a2⟩, b1, b2⟩ := hv.2.2.1.1
    have := Int.mul_le_mul a2 b2 b1 (by decide)
    omega
  have hX1 : zXa μ1 S U kp K T _ := ⟨hX.1, hX.2.gen g1 (fun b j z => Or.inr (Or.inl z)) (fun b j z => ⟨by omega, by omega, by unfold zlb; omega⟩) (hX.2.1.q g1 (fun b j q0 q1 z => by unfold zPX at z; omega)) hX.2.2.1 r1 c1⟩
  have x1 : zxm μ μ1 := ⟨fun b j h0 h1 => g1.1 b j (fun z => by unfold zPX at z; omega), cl1⟩
  have hM1 := hM.x x1
  exact kX11_drifts hM1.1 hv.1 hv.2.1 hM1.2.2.2.2.2 hM1.2.2.2.2.1 (hz _) (hz _) (fun μ2 g2 r2 => ⟨rfl, N G (Or.inl rfl) _ _ _ _ _ _ (by omega) (by omega) (zInv_st hX1 x1 (zPM_W g2) (hM1.pub g2 r2) hS hU hK hT hcl) h5 h6 h7⟩)
theorem jL_sign (C : zJL G J) {i : Int} {μ : zM} {cn un : Nat} {l5 l6 l7 : Option zV} (hi : 0 ≤ i ∧ i + 4 < ((zst G 40).1 : Int)) (hn : (zst G 40).1 < 2147483648) (hb : cn + 43 ≤ 601024 ∧ un + 253 ≤ 7293034) (hz : ∀ j, zin (zsv G j)) (hfl : (zl G).stackTraces = false) (h5 : zLi l5) (h6 : zLi l6) (h7 : zLi l7) (I : zInv μ) (N : zNext G J i cn un) : J G 224 (zLl i l5 l6 l7, [], μ, cn, un) := by
  obtain ⟨S, U, kp, K, T, R, hX, hM, hS, hU, hK, hT, hcl⟩ := I
  have hv := hS.1
  refine rL_sign C hi hn hb (kX10_sign hX hT  (fun μ1 x1 hX1 => ?_))
  have hM1 := hM.x x1
  exact kX11_sign hM1 hT  (fun μ2 g2 hM2 => ⟨rfl, N G (Or.inl rfl) _ _ _ _ _ _ (by omega) (by omega) (zInv_st hX1 x1 g2 hM2 (hS) (hU) hK (zsgT_v hT _) hcl) h5 h6 h7⟩)
theorem jL_end (C : zJL G J) {i : Int} {μ : zM} {cn un : Nat} {l5 l6 l7 : Option zV} (hi : 0 ≤ i ∧ i + 4 < ((zst G 40).1 : Int)) (hn : (zst G 40).1 < 2147483648) (hb : cn + 43 ≤ 601024 ∧ un + 253 ≤ 7293034) (hz : ∀ j, zin (zsv G j)) (hfl : (zl G).stackTraces = false) (h5 : zLi l5) (h6 : zLi l6) (h7 : zLi l7) (I : zInv μ) (N : zNext G J i cn un) : J G 249 (zLl i l5 l6 l7, [], μ, cn, un) := by
  obtain ⟨S, U, kp, K, T, R, hX, hM, hS, hU, hK, hT, hcl⟩ := I
  have hv := hS.1
  refine rL_end C hi hn hb (kX10_end hX hT (hz _) (fun μ1 x1 hX1 => ?_))
  have hM1 := hM.x x1
  exact kX11_end hM1 hT (hz _) (fun μ2 g2 hM2 => ⟨rfl, N G (Or.inl rfl) _ _ _ _ _ _ (by omega) (by omega) (zInv_st hX1 x1 g2 hM2 (hS) (hU) hK (zTv_end hT _) hcl) h5 h6 h7⟩)
theorem jL_curve (C : zJL G J) {i : Int} {μ : zM} {cn un : Nat} {l5 l6 l7 : Option zV} (hi : 0 ≤ i ∧ i + 4 < ((zst G 40).1 : Int)) (hn : (zst G 40).1 < 2147483648) (hb : cn + 43 ≤ 601024 ∧ un + 253 ≤ 7293034) (hz : ∀ j, zin (zsv G j)) (hfl : (zl G).stackTraces = false) (h5 : zLi l5) (h6 : zLi l6) (h7 : zLi l7) (I : zInv μ) (N : zNext G J i cn un) : J G 287 (zLl i l5 l6 l7, [], μ, cn, un) := by
  obtain ⟨S, U, kp, K, T, R, hX, hM, hS, hU, hK, hT, hcl⟩ := I
  have hv := hS.1
  refine rL_curve C hi hn hb (kX10_curve hX hv hT (hz _) (fun μ1 x1 hX1 => ?_))
  have hM1 := hM.x x1
  exact kX11_curve hM1 hv hT (hz _) (fun μ2 g2 hM2 => ⟨rfl, N G (Or.inl rfl) _ _ _ _ _ _ (by omega) (by omega) (zInv_st hX1 x1 g2 hM2 (zok_cur hS _ _) (zok_pushI hU hS) hK (zTv_nil) hcl) h5 h6 h7⟩)
theorem jL_picture (C : zJL G J) {i : Int} {μ : zM} {cn un : Nat} {l5 l6 l7 : Option zV} (hi : 0 ≤ i ∧ i + 4 < ((zst G 40).1 : Int)) (hn : (zst G 40).1 < 2147483648) (hb : cn + 43 ≤ 601024 ∧ un + 253 ≤ 7293034) (hz : ∀ j, zin (zsv G j)) (hfl : (zl G).stackTraces = false) (h5 : zLi l5) (h6 : zLi l6) (h7 : zLi l7) (I : zInv μ) (N : zNext G J i cn un) : J G 325 (zLl i l5 l6 l7, [], μ, cn, un) := by
  obtain ⟨S, U, kp, K, T, R, hX, hM, hS, hU, hK, hT, hcl⟩ := I
  have hv := hS.1
  refine rL_picture C hi hn hb (kX10_picture hX hv hT  (fun μ1 x1 hX1 => ?_))
  have hM1 := hM.x x1
  exact kX11_picture hM1 hv hT  (fun μ2 g2 hM2 => ⟨rfl, N G (Or.inl rfl) _ _ _ _ _ _ (by omega) (by omega) (zInv_st hX1 x1 g2 hM2 (zok_pic hS _) (zok_pushI hU hS) hK (zTv_nil) hcl) h5 h6 h7⟩)
theorem jL_link (C : zJL G J) {i : Int} {μ : zM} {cn un : Nat} {l5 l6 l7 : Option zV} (hi : 0 ≤ i ∧ i + 4 < ((zst G 40).1 : Int)) (hn : (zst G 40).1 < 2147483648) (hb : cn + 43 ≤ 601024 ∧ un + 253 ≤ 7293034) (hz : ∀ j, zin (zsv G j)) (hfl : (zl G).stackTraces = false) (h5 : zLi l5) (h6 : zLi l6) (h7 : zLi l7) (I : zInv μ) (N : zNext G J i cn un) : J G 312 (zLl i l5 l6 l7, [], μ, cn, un) := by
  obtain ⟨S, U, kp, K, T, R, hX, hM, hS, hU, hK, hT, hcl⟩ := I
  have hv := hS.1
  refine rL_link C hi hn hb (kX10_link hX hv hS.2 hT  (fun μ1 x1 hX1 => ?_))
  have hM1 := hM.x x1
  exact kX11_link hM1 hv hS.2 hT  (fun μ2 g2 hM2 => ⟨rfl, N G (Or.inl rfl) _ _ _ _ _ _ (by omega) (by omega) (zInv_st hX1 x1 g2 hM2 (zok_lin hS hT) (zok_liU hU hS) hK (zTv_nil) hcl) h5 h6 h7⟩)
theorem jL_sheet (C : zJL G J) {i : Int} {μ : zM} {cn un : Nat} {l5 l6 l7 : Option zV} (hi : 0 ≤ i ∧ i + 4 < ((zst G 40).1 : Int)) (hn : (zst G 40).1 < 2147483648) (hb : cn + 43 ≤ 601024 ∧ un + 253 ≤ 7293034) (hz : ∀ j, zin (zsv G j)) (hfl : (zl G).stackTraces = false) (h5 : zLi l5) (h6 : zLi l6) (h7 : zLi l7) (I : zInv μ) (N : zNext G J i cn un) : J G 474 (zLl i l5 l6 l7, [], μ, cn, un) := by
  obtain ⟨S, U, kp, K, T, R, hX, hM, hS, hU, hK, hT, hcl⟩ := I
  have hv := hS.1
  refine rL_sheet C hi hn hb (kX10_sheet hX hv (hz _) (hz _) (fun μ1 x1 hX1 => ?_))
  have hM1 := hM.x x1
  exact kX11_sheet hM1 (hz _) (hz _) (fun μ2 g2 hM2 => ⟨rfl, N G (Or.inl rfl) _ _ _ _ _ _ (by omega) (by omega) (zInv_st hX1 x1 g2 hM2 (zok_she hS _ _ _ _) (hU) hK (hT) hcl) h5 h6 h7⟩)
theorem jL_measure (C : zJL G J) {i : Int} {μ : zM} {cn un : Nat} {l5 l6 l7 : Option zV} (hi : 0 ≤ i ∧ i + 4 < ((zst G 40).1 : Int)) (hn : (zst G 40).1 < 2147483648) (hb : cn + 43 ≤ 601024 ∧ un + 253 ≤ 7293034) (hz : ∀ j, zin (zsv G j)) (hfl : (zl G).stackTraces = false) (h5 : zLi l5) (h6 : zLi l6) (h7 : zLi l7) (I : zInv μ) (N : zNext G J i cn un) : J G 535 (zLl i l5 l6 l7, [], μ, cn, un) := by
  obtain ⟨S, U, kp, K, T, R, hX, hM, hS, hU, hK, hT, hcl⟩ := I
  have hv := hS.1
  refine rL_measure C hi hn hb (kX10_measure hX hv (hz _) (hz _) (hz _) (hz _) (fun μ1 x1 hX1 => ?_))
  have hM1 := hM.x x1
  exact kX11_measure hM1 (hz _) (hz _) (hz _) (hz _) (fun μ2 g2 hM2 => ⟨rfl, N G (Or.inl rfl) _ _ _ _ _ _ (by omega) (by omega) (zInv_st hX1 x1 g2 hM2 (zok_meaI hS) (zok_pushI hU hS) hK (hT) hcl) h5 h6 h7⟩)
theorem jL_forgets (C : zJL G J) {i : Int} {μ : zM} {cn un : Nat} {l5 l6 l7 : Option zV} (hi : 0 ≤ i ∧ i + 4 < ((zst G 40).1 : Int)) (hn : (zst G 40).1 < 2147483648) (hb : cn + 43 ≤ 601024 ∧ un + 253 ≤ 7293034) (hz : ∀ j, zin (zsv G j)) (hfl : (zl G).stackTraces = false) (h5 : zLi l5) (h6 : zLi l6) (h7 : zLi l7) (I : zInv μ) (N : zNext G J i cn un) : J G 596 (zLl i l5 l6 l7, [], μ, cn, un) := by
  obtain ⟨S, U, kp, K, T, R, hX, hM, hS, hU, hK, hT, hcl⟩ := I
  have hv := hS.1
  refine rL_forgets C hi hn hb (kX10_forgets hX hv (hz _) (fun μ1 x1 hX1 => ?_))
  have hM1 := hM.x x1
  exact kX11_forgets hM1 hv (hz _) (fun μ2 g2 hM2 => ⟨rfl, N G (Or.inl rfl) _ _ _ _ _ _ (by omega) (by omega) (zInv_st hX1 x1 g2 hM2 (zok_fog hS _) (zok_pushI hU hS) hK (hT) hcl) h5 h6 h7⟩)
theorem jL_sets (C : zJL G J) {i : Int} {μ : zM} {cn un : Nat} {l5 l6 l7 : Option zV} (hi : 0 ≤ i ∧ i + 4 < ((zst G 40).1 : Int)) (hn : (zst G 40).1 < 2147483648) (hb : cn + 43 ≤ 601024 ∧ un + 253 ≤ 7293034) (hz : ∀ j, zin (zsv G j)) (hfl : (zl G).stackTraces = false) (h5 : zLi l5) (h6 : zLi l6) (h7 : zLi l7) (I : zInv μ) (N : zNext G J i cn un) : J G 621 (zLl i l5 l6 l7, [], μ, cn, un) := by
  obtain ⟨S, U, kp, K, T, R, hX, hM, hS, hU, hK, hT, hcl⟩ := I
  have hv := hS.1
  refine rL_sets C hi hn hb (kX10_sets hX hv (hz _) (hz _) (fun μ1 x1 hX1 => ?_))
  have hM1 := hM.x x1
  exact kX11_sets hM1 hv (hz _) (hz _) (fun μ2 g2 hM2 => ⟨rfl, N G (Or.inl rfl) _ _ _ _ _ _ (by omega) (by omega) (zInv_st hX1 x1 g2 hM2 (zok_set hS _ _) (zok_pushI hU hS) hK (hT) hcl) h5 h6 h7⟩)
theorem jL_paints (C : zJL G J) {i : Int} {μ : zM} {cn un : Nat} {l5 l6 l7 : Option zV} (hi : 0 ≤ i ∧ i + 4 < ((zst G 40).1 : Int)) (hn : (zst G 40).1 < 2147483648) (hb : cn + 43 ≤ 601024 ∧ un + 253 ≤ 7293034) (hz : ∀ j, zin (zsv G j)) (hfl : (zl G).stackTraces = false) (h5 : zLi l5) (h6 : zLi l6) (h7 : zLi l7) (I : zInv μ) (N : zNext G J i cn un) : J G 658 (zLl i l5 l6 l7, [], μ, cn, un) := by
  obtain ⟨S, U, kp, K, T, R, hX, hM, hS, hU, hK, hT, hcl⟩ := I
  have hv := hS.1
  refine rL_paints C hi hn hb (kX10_paints hX hv (hz _) (hz _) (hz _) (hz _) (fun μ1 x1 hX1 => ?_))
  have hM1 := hM.x x1
  exact kX11_paints hM1 hv (hz _) (hz _) (hz _) (hz _) (fun μ2 g2 hM2 => ⟨rfl, N G (Or.inl rfl) _ _ _ _ _ _ (by omega) (by omega) (zInv_st hX1 x1 g2 hM2 (zok_pai hS _ _ _ _) (zok_pushI hU hS) hK (hT) hcl) h5 h6 h7⟩)
theorem jL_patches (C : zJL G J) {i : Int} {μ : zM} {cn un : Nat} {l5 l6 l7 : Option zV} (hi : 0 ≤ i ∧ i + 4 < ((zst G 40).1 : Int)) (hn : (zst G 40).1 < 2147483648) (hb : cn + 43 ≤ 601024 ∧ un + 253 ≤ 7293034) (hz : ∀ j, zin (zsv G j)) (hfl : (zl G).stackTraces = false) (h5 : zLi l5) (h6 : zLi l6) (h7 : zLi l7) (I : zInv μ) (N : zNext G J i cn un) : J G 274 (zLl i l5 l6 l7, [], μ, cn, un) := by
  obtain ⟨S, U, kp, K, T, R, hX, hM, hS, hU, hK, hT, hcl⟩ := I
  have hv := hS.1
  refine rL_patches C hi hn hb (kX10_patches hX hv hT  (fun μ1 x1 hX1 => ?_))
  have hM1 := hM.x x1
  exact kX11_patches hM1 hT  (fun μ2 g2 hM2 => ⟨rfl, N G (Or.inl rfl) _ _ _ _ _ _ (by omega) (by omega) (zInv_st hX1 x1 g2 hM2 (zok_pat hS) (zok_paU hU hS) hK (zTv_nil) hcl) h5 h6 h7⟩)
theorem jL_day (C : zJL G J) {i : Int} {μ : zM} {cn un : Nat} {l5 l6 l7 : Option zV} (hi : 0 ≤ i ∧ i + 4 < ((zst G 40).1 : Int)) (hn : (zst G 40).1 < 2147483648) (hb : cn + 43 ≤ 601024 ∧ un + 253 ≤ 7293034) (hz : ∀ j, zin (zsv G j)) (hfl : (zl G).stackTraces = false) (h5 : zLi l5) (h6 : zLi l6) (h7 : zLi l7) (I : zInv μ) (N : zNext G J i cn un) : J G 719 (zLl i l5 l6 l7, [], μ, cn, un) := by
  obtain ⟨S, U, kp, K, T, R, hX, hM, hS, hU, hK, hT, hcl⟩ := I
  have hv := hS.1
  obtain ⟨n9, hn9⟩ : ∃ n : Nat, ¬ 0 ≤ zwr0 T 2 60 → zpcs 2 T n := by
    by_cases c : 0 ≤ zwr0 T 2 60
    · exact ⟨0, fun z => absurd c z⟩
    · obtain ⟨n, hn⟩ := zforms (T := T) (tl := 2) (most := 60) (Or.inr rfl) (by decide) (Int.not_le.mp c)
      exact ⟨n, fun _ => hn⟩
  refine rL_day C hi hn hb (kX10_day hX hv hT hn9  (fun μ1 x1 hX1 => ?_))
  have hM1 := hM.x x1
  exact kX11_day hM1 hv hT hn9  (fun μ2 g2 hM2 => ⟨rfl, N G (Or.inl rfl) _ _ _ _ _ _ (by omega) (by omega) (zInv_st hX1 x1 g2 hM2 (zok_day hS hn9) (zok_daU hU hS) hK (zTv_nil) hcl) h5 h6 h7⟩)
theorem jL_undo (C : zJL G J) {i : Int} {μ : zM} {cn un : Nat} {l5 l6 l7 : Option zV} (hi : 0 ≤ i ∧ i + 4 < ((zst G 40).1 : Int)) (hn : (zst G 40).1 < 2147483648) (hb : cn + 43 ≤ 601024 ∧ un + 253 ≤ 7293034) (hz : ∀ j, zin (zsv G j)) (hfl : (zl G).stackTraces = false) (h5 : zLi l5) (h6 : zLi l6) (h7 : zLi l7) (I : zInv μ) (N : zNext G J i cn un) : J G 732 (zLl i l5 l6 l7, [], μ, cn, un) := by
  obtain ⟨S, U, kp, K, T, R, hX, hM, hS, hU, hK, hT, hcl⟩ := I
  have hv := hS.1
  refine rL_undo C hi hn hb (kX10_undo hX (zUv_of hU) (fun e => ?_) (fun e μ1 x1 hX1 => ?_))
  · exact kX11_undo hM (fun _ μ2 g2 hM2 => ⟨rfl, N G (Or.inl rfl) _ _ _ _ _ _ (by omega) (by omega) (zInv_st hX (zxm.refl _) g2 hM2 hS hU hK hT hcl) h5 h6 h7⟩) (fun z => absurd e z)
  · exact kX11_undo (hM.x x1) (fun z => absurd z e) (fun _ μ2 g2 hM2 => ⟨rfl, N G (Or.inl rfl) _ _ _ _ _ _ (by omega) (by omega) (zInv_st hX1 x1 g2 hM2 (hU _ (zU_mem (by have := List.length_pos_iff.mpr e; omega))) (fun V hV => hU V ((List.dropLast_sublist U).subset hV)) hK hT hcl) h5 h6 h7⟩)
theorem jL_keep (C : zJL G J) {i : Int} {μ : zM} {cn un : Nat} {l5 l6 l7 : Option zV} (hi : 0 ≤ i ∧ i + 4 < ((zst G 40).1 : Int)) (hn : (zst G 40).1 < 2147483648) (hb : cn + 43 ≤ 601024 ∧ un + 253 ≤ 7293034) (hz : ∀ j, zin (zsv G j)) (hfl : (zl G).stackTraces = false) (h5 : zLi l5) (h6 : zLi l6) (h7 : zLi l7) (I : zInv μ) (N : zNext G J i cn un) : J G 1561 (zLl i l5 l6 l7, [], μ, cn, un) := by
  obtain ⟨S, U, kp, K, T, R, hX, hM, hS, hU, hK, hT, hcl⟩ := I
  have hv := hS.1
  refine rL_keep C hi hn hb (kX10_keep hX hv (hz _) (fun e => ?_) (fun e μ1 x1 hX1 => ?_))
  · exact kX11_keep hM (hz _) (fun _ μ2 g2 hM2 => ⟨rfl, N G (Or.inl rfl) _ _ _ _ _ _ (by omega) (by omega) (zInv_st hX (zxm.refl _) g2 hM2 hS hU hK hT hcl) h5 h6 h7⟩) (fun z => absurd z e)
  · exact kX11_keep (hM.x x1) (hz _) (fun z => absurd e z) (fun _ μ2 g2 hM2 => ⟨rfl, N G (Or.inl rfl) _ _ _ _ _ _ (by omega) (by omega) (zInv_st hX1 x1 g2 hM2 hS hU (zok_keep hK hS) hT hcl) h5 h6 h7⟩)
theorem jL_again (C : zJL G J) {i : Int} {μ : zM} {cn un : Nat} {l5 l6 l7 : Option zV} (hi : 0 ≤ i ∧ i + 4 < ((zst G 40).1 : Int)) (hn : (zst G 40).1 < 2147483648) (hb : cn + 43 ≤ 601024 ∧ un + 253 ≤ 7293034) (hz : ∀ j, zin (zsv G j)) (hfl : (zl G).stackTraces = false) (h5 : zLi l5) (h6 : zLi l6) (h7 : zLi l7) (I : zInv μ) (N : zNext G J i cn un) : J G 1586 (zLl i l5 l6 l7, [], μ, cn, un) := by
  obtain ⟨S, U, kp, K, T, R, hX, hM, hS, hU, hK, hT, hcl⟩ := I
  have hv := hS.1
  have hk : ∀ i, 0 ≤ i → i < 2 → (kp i = 0 ∨ kp i = 1) ∧ (kp i = 1 → zval (K i)) := fun i i0 i1 => ⟨(hK i i0 i1).1, fun e => ((hK i i0 i1).2 e).1⟩
  refine rL_again C hi hn hb (kX10_again hX hk (hz _) (fun e => ?_) (fun e μ1 x1 hX1 => ?_))
  · exact kX11_again hM hk (hz _) (fun _ μ2 g2 hM2 => ⟨rfl, N G (Or.inl rfl) _ _ _ _ _ _ (by omega) (by omega) (zInv_st hX (zxm.refl _) g2 hM2 hS hU hK hT hcl) h5 h6 h7⟩) (fun z => absurd z e)
  · exact kX11_again (hM.x x1) hk (hz _) (fun z => absurd e z) (fun _ μ2 g2 hM2 => ⟨rfl, N G (Or.inl rfl) _ _ _ _ _ _ (by omega) (by omega) (zInv_st hX1 x1 g2 hM2 ((hK _ e.1.1 (by omega)).2 e.2) (fun V hV => absurd hV (by simp)) hK hT hcl) h5 h6 h7⟩)
theorem jL_count (C : zJL G J) {i : Int} {μ : zM} {cn un : Nat} {l5 l6 l7 : Option zV} (hi : 0 ≤ i ∧ i + 4 < ((zst G 40).1 : Int)) (hn : (zst G 40).1 < 2147483648) (hb : cn + 43 ≤ 601024 ∧ un + 253 ≤ 7293034) (hz : ∀ j, zin (zsv G j)) (hfl : (zl G).stackTraces = false) (h5 : zLi l5) (h6 : zLi l6) (h7 : zLi l7) (I : zInv μ) (N : zNext G J i cn un) : J G 1611 (zLl i l5 l6 l7, [], μ, cn, un) := by
  obtain ⟨S, U, kp, K, T, R, hX, hM, hS, hU, hK, hT, hcl⟩ := I
  have hv := hS.1
  refine rL_count C hi hn hb (kX10_count hX hv (hz _) ?_)
  exact kX11_count hM (hz _) (fun μ2 g2 hM2 => ⟨rfl, N G (Or.inl rfl) _ _ _ _ _ _ (by omega) (by omega) (zInv_st hX (zxm.refl _) g2 hM2 hS hU hK hT hcl) h5 h6 h7⟩)
theorem jL_light (C : zJL G J) {i : Int} {μ : zM} {cn un : Nat} {l5 l6 l7 : Option zV} (hi : 0 ≤ i ∧ i + 4 < ((zst G 40).1 : Int)) (hn : (zst G 40).1 < 2147483648) (hb : cn + 43 ≤ 601024 ∧ un + 253 ≤ 7293034) (hz : ∀ j, zin (zsv G j)) (hfl : (zl G).stackTraces = false) (h5 : zLi l5) (h6 : zLi l6) (h7 : zLi l7) (I : zInv μ) (N : zNext G J i cn un) : J G 338 (zLl i l5 l6 l7, [], μ, cn, un) := by
  obtain ⟨S, U, kp, K, T, R, hX, hM, hS, hU, hK, hT, hcl⟩ := I
  have hv := hS.1
  have zv : ((0 ≤ zsv G (i + 1) ∧ zsv G (i + 1) ≤ 80) ∧ 0 ≤ zsv G (i + 2) ∧ zsv G (i + 2) ≤ 2) → zin (zlt S (zsv G (i + 1)) (zsv G (i + 2))) := fun c => by
    have := zlt_r hv.1 (p := zsv G (i + 1)) (b := zsv G (i + 2)) (by omega) (by omega)
    constructor <;> omega
  refine rL_light C hi hn hb h5 h6 h7 (P := fun k μ1 => (k = 0 ∧ ((0 ≤ zsv G (i + 1) ∧ zsv G (i + 1) ≤ 80) ∧ 0 ≤ zsv G (i + 2) ∧ zsv G (i + 2) ≤ 2) ∧ μ1 = zup μ 181 0 (zlt S (zsv G (i + 1)) (zsv G (i + 2)))) ∨ (k = 1 ∧ ¬ ((0 ≤ zsv G (i + 1) ∧ zsv G (i + 1) ≤ 80) ∧ 0 ≤ zsv G (i + 2) ∧ zsv G (i + 2) ≤ 2) ∧ μ1 = μ)) ?_ ?_
  · exact kL_light (KX := fun μ1 => μ1 = μ ∧ ¬ ((0 ≤ zsv G (i + 1) ∧ zsv G (i + 1) ≤ 80) ∧ 0 ≤ zsv G (i + 2) ∧ zsv G (i + 2) ≤ 2)) (kX10_lightX hfl hX hv (hz _) (hz _) (fun c => Or.inl ⟨rfl, c, by rw [zw_id (zv c).1 (zv c).2]⟩) (fun c => ⟨rfl, c⟩)) (fun μ1 e => by rw [e.1]; exact hcl) (fun μ1 e => Or.inr ⟨rfl, e.2, e.1⟩)
  · intro G2 hg k μ1 hk
    have es : ∀ j, zsv G2 j = zsv G j := fun j => by unfold zsv; rw [zst_gx hg]
    simp only [es]
    rcases hk with ⟨rfl, c, rfl⟩ | ⟨rfl, c, rfl⟩
    · have g1 : zsm (fun b _ => b = 181) μ (zup μ 181 0 (zlt S (zsv G (i + 1)) (zsv G (i + 2)))) := (zsm.refl _ _).up _ rfl
      have hM1 := hM.out (fun b j b0 b1 => g1.1 b j (by omega))
      refine ⟨by decide, kX11_light hM1 hv (hz _) (hz _) (fun _ μ2 g2 hM2 e5 => ⟨zv c, kX11_thrown ⟨e5, fun _ => ?_, ?_⟩⟩) (fun z => absurd c z)⟩
      · rw [g2.1 181 0 (fun z => by have := z.1; omega)]; exact zi_at
      · exact N G2 hg _ _ _ _ _ _ (by omega) (by omega) ⟨S, U, kp, K, T, R, (hX.m (g1.mono (fun b j z => by show 153 ≤ b ∧ b ≤ 181; omega))).m (g2.mono (fun b j z => by show 153 ≤ b ∧ b ≤ 181; omega)), hM2, hS, hU, hK, hT, g2.cld (g1.cld hcl)⟩ (zLi_i _) (zLi_i _) h7
    · refine ⟨by decide, kX11_light hM hv (hz _) (hz _) (fun z => absurd z c) (fun _ μ2 g2 hM2 e5 => ⟨by decide, kX11_thrown ⟨e5, fun z => absurd z (by decide), ?_⟩⟩)⟩
      exact N G2 hg _ _ _ _ _ _ (by omega) (by omega) ⟨S, U, kp, K, T, R, (hX).m (g2.mono (fun b j z => by show 153 ≤ b ∧ b ≤ 181; omega)), hM2, hS, hU, hK, hT, g2.cld (hcl)⟩ (zLi_i _) (zLi_i _) h7
theorem jL_bent (C : zJL G J) {i : Int} {μ : zM} {cn un : Nat} {l5 l6 l7 : Option zV} (hi : 0 ≤ i ∧ i + 4 < ((zst G 40).1 : Int)) (hn : (zst G 40).1 < 2147483648) (hb : cn + 43 ≤ 601024 ∧ un + 253 ≤ 7293034) (hz : ∀ j, zin (zsv G j)) (hfl : (zl G).stackTraces = false) (h5 : zLi l5) (h6 : zLi l6) (h7 : zLi l7) (I : zInv μ) (N : zNext G J i cn un) : J G 406 (zLl i l5 l6 l7, [], μ, cn, un) := by
  obtain ⟨S, U, kp, K, T, R, hX, hM, hS, hU, hK, hT, hcl⟩ := I
  have hv := hS.1
  have zv : ((0 ≤ zsv G (i + 1) ∧ zsv G (i + 1) ≤ 3) ∧ 0 ≤ zsv G (i + 2) ∧ zsv G (i + 2) ≤ 8) → zin (S (324 + 9 * zsv G (i + 1) + zsv G (i + 2))) := fun c => by
    have := hv.2.2.2.1 (9 * zsv G (i + 1) + zsv G (i + 2)) (by omega) (by omega)
    rw [show 324 + (9 * zsv G (i + 1) + zsv G (i + 2)) = 324 + 9 * zsv G (i + 1) + zsv G (i + 2) by omega] at this
    constructor <;> omega
  refine rL_bent C hi hn hb h5 h6 h7 (P := fun k μ1 => (k = 0 ∧ ((0 ≤ zsv G (i + 1) ∧ zsv G (i + 1) ≤ 3) ∧ 0 ≤ zsv G (i + 2) ∧ zsv G (i + 2) ≤ 8) ∧ μ1 = zup μ 181 0 (S (324 + 9 * zsv G (i + 1) + zsv G (i + 2)))) ∨ (k = 1 ∧ ¬ ((0 ≤ zsv G (i + 1) ∧ zsv G (i + 1) ≤ 3) ∧ 0 ≤ zsv G (i + 2) ∧ zsv G (i + 2) ≤ 8) ∧ μ1 = μ)) ?_ ?_
  · exact kL_bent (KX := fun μ1 => μ1 = μ ∧ ¬ ((0 ≤ zsv G (i + 1) ∧ zsv G (i + 1) ≤ 3) ∧ 0 ≤ zsv G (i + 2) ∧ zsv G (i + 2) ≤ 8)) (kX10_bentX hfl hX (hz _) (hz _) (fun c => Or.inl ⟨rfl, c, by rw [zw_id (zv c).1 (zv c).2]⟩) (fun c => ⟨rfl, c⟩)) (fun μ1 e => by rw [e.1]; exact hcl) (fun μ1 e => Or.inr ⟨rfl, e.2, e.1⟩)
  · intro G2 hg k μ1 hk
    have es : ∀ j, zsv G2 j = zsv G j := fun j => by unfold zsv; rw [zst_gx hg]
    simp only [es]
    rcases hk with ⟨rfl, c, rfl⟩ | ⟨rfl, c, rfl⟩
    · have g1 : zsm (fun b _ => b = 181) μ (zup μ 181 0 (S (324 + 9 * zsv G (i + 1) + zsv G (i + 2)))) := (zsm.refl _ _).up _ rfl
      have hM1 := hM.out (fun b j b0 b1 => g1.1 b j (by omega))
      refine ⟨by decide, kX11_bent hM1 (hz _) (hz _) (fun _ μ2 g2 hM2 e5 => ⟨zv c, kX11_thrown ⟨e5, fun _ => ?_, ?_⟩⟩) (fun z => absurd c z)⟩
      · rw [g2.1 181 0 (fun z => by have := z.1; omega)]; exact zi_at
      · exact N G2 hg _ _ _ _ _ _ (by omega) (by omega) ⟨S, U, kp, K, T, R, (hX.m (g1.mono (fun b j z => by show 153 ≤ b ∧ b ≤ 181; omega))).m (g2.mono (fun b j z => by show 153 ≤ b ∧ b ≤ 181; omega)), hM2, hS, hU, hK, hT, g2.cld (g1.cld hcl)⟩ (zLi_i _) (zLi_i _) h7
    · refine ⟨by decide, kX11_bent hM (hz _) (hz _) (fun z => absurd z c) (fun _ μ2 g2 hM2 e5 => ⟨by decide, kX11_thrown ⟨e5, fun z => absurd z (by decide), ?_⟩⟩)⟩
      exact N G2 hg _ _ _ _ _ _ (by omega) (by omega) ⟨S, U, kp, K, T, R, (hX).m (g2.mono (fun b j z => by show 153 ≤ b ∧ b ≤ 181; omega)), hM2, hS, hU, hK, hT, g2.cld (hcl)⟩ (zLi_i _) (zLi_i _) h7
theorem jL_row (C : zJL G J) {i : Int} {μ : zM} {cn un : Nat} {l5 l6 l7 : Option zV} (hi : 0 ≤ i ∧ i + 4 < ((zst G 40).1 : Int)) (hn : (zst G 40).1 < 2147483648) (hb : cn + 43 ≤ 601024 ∧ un + 253 ≤ 7293034) (hz : ∀ j, zin (zsv G j)) (hfl : (zl G).stackTraces = false) (h5 : zLi l5) (h6 : zLi l6) (h7 : zLi l7) (I : zInv μ) (N : zNext G J i cn un) : J G 1636 (zLl i l5 l6 l7, [], μ, cn, un) := by
  obtain ⟨S, U, kp, K, T, R, hX, hM, hS, hU, hK, hT, hcl⟩ := I
  have hv := hS.1
  refine rL_row C hi hn hb h5 h6 h7 (P := fun k μ1 => (k = 0 ∧ (0 ≤ zsv G (i + 1) ∧ zsv G (i + 1) < R.length) ∧ μ1 = zup μ 181 0 (R.getD (zsv G (i + 1)).toNat 0)) ∨ (k = 1 ∧ ¬ (0 ≤ zsv G (i + 1) ∧ zsv G (i + 1) < R.length) ∧ μ1 = μ)) ?_ ?_
  · exact kL_row (KX := fun μ1 => μ1 = μ ∧ ¬ (0 ≤ zsv G (i + 1) ∧ zsv G (i + 1) < R.length)) (kX10_rowX hfl hX (hz _) (fun c => Or.inl ⟨rfl, c, rfl⟩) (fun c => ⟨rfl, c⟩)) (fun μ1 e => by rw [e.1]; exact hcl) (fun μ1 e => Or.inr ⟨rfl, e.2, e.1⟩)
  · intro G2 hg k μ1 hk
    have es : ∀ j, zsv G2 j = zsv G j := fun j => by unfold zsv; rw [zst_gx hg]
    simp only [es]
    rcases hk with ⟨rfl, c, rfl⟩ | ⟨rfl, c, rfl⟩
    · have g1 : zsm (fun b _ => b = 181) μ (zup μ 181 0 (R.getD (zsv G (i + 1)).toNat 0)) := (zsm.refl _ _).up _ rfl
      have hM1 := hM.out (fun b j b0 b1 => g1.1 b j (by omega))
      refine ⟨by decide, kX11_row hM1 (hz _) (fun _ μ2 g2 hM2 e5 => kX11_thrown ⟨e5, fun _ => ?_, ?_⟩) (fun z => absurd c z)⟩
      · rw [g2.1 181 0 (fun z => by have := z.1; omega)]; exact zi_at
      · exact N G2 hg _ _ _ _ _ _ (by omega) (by omega) ⟨S, U, kp, K, T, R, (hX.m (g1.mono (fun b j z => by show 153 ≤ b ∧ b ≤ 181; omega))).m (g2.mono (fun b j z => by show 153 ≤ b ∧ b ≤ 181; omega)), hM2, hS, hU, hK, hT, g2.cld (g1.cld hcl)⟩ (zLi_i _) (zLi_l _) zLi_n
    · refine ⟨by decide, kX11_row hM (hz _) (fun z => absurd z c) (fun _ μ2 g2 hM2 e5 => kX11_thrown ⟨e5, fun z => absurd z (by decide), ?_⟩)⟩
      exact N G2 hg _ _ _ _ _ _ (by omega) (by omega) ⟨S, U, kp, K, T, R, (hX).m (g2.mono (fun b j z => by show 153 ≤ b ∧ b ≤ 181; omega)), hM2, hS, hU, hK, hT, g2.cld (hcl)⟩ (zLi_i _) (zLi_l _) zLi_n
end
