/-! the law's loop -/
theorem zGx.trans {G G2 G3 : zG} (h : zGx G G2) (h2 : zGx G2 G3) : zGx G G3 := by
  rcases h with rfl | ⟨z, q, rfl, hz⟩
  · exact h2
  rcases h2 with rfl | ⟨z2, q2, rfl, hz2⟩
  · exact Or.inr ⟨z, q, rfl, hz⟩
  · refine Or.inr ⟨z2, q2, ?_, fun b hb => (hz2 b hb).trans (hz b hb)⟩
    unfold zGz
    congr 3
    funext k
    by_cases c : k = 41
    · rw [if_pos c, if_pos c]
    · rw [if_neg c, if_neg c]; exact if_neg c
theorem zl_gx {G G2 : zG} (h : zGx G G2) : zl G2 = zl G := by rcases h with rfl | ⟨z, q, rfl, -⟩ <;> rfl
abbrev zLoffs : Array Int := #[185, 210, 235, 248, 273, 286, 299, 367, 435, 496, 557, 582, 619, 680, 693, 706, 731, 768, 817, 866, 915, 952, 1001, 1026, 1051, 1064, 1125, 1150, 1175, 1200, 1225, 1262, 1311, 1348, 1397, 1410, 1423, 1448, 1485, 1522, 1547, 1572, 1597]
section
variable {G : zG} {J : zG → Nat → zS → Prop} {i : Int} {μ : zM} {cn un : Nat} {l5 l6 l7 : Option zV}
theorem rL_head (C : zJL G J) (hn : (zst G 40).1 < 2147483648) (hi : 0 ≤ i ∧ i < 2147483648) (hz : ∀ j, zin (zsv G j)) (h1 : ((zst G 40).1 : Int) - 5 < i → J G 1697 (zLl i l5 l6 l7, [], μ, cn, un)) (h2 : ¬ ((zst G 40).1 : Int) - 5 < i → ∀ tgt, ztg 39 1652 0 42 zLoffs (zsv G i % 64) tgt → J G tgt (zLl i l5 l6 l7, [], μ, cn, un)) : J G 23 (zLl i l5 l6 l7, [], μ, cn, un) := by
  obtain ⟨p, e, s, m, below, meth, c, args, Q, A, hX, rfl⟩ := C
  refine s_iload A dL_law_23 rfl ?_
  refine s_aload_nT A dL_law_25 rfl ?_
  refine s_tlen A dL_law_26 (Or.inr rfl) ?_
  refine s_iconst A dL_law_27 ?_
  refine s_isub A dL_law_28 ?_
  refine z_icmp_gt (tgt := 1697) A dL_law_29 (by decide) ⟨by omega, by omega⟩ ⟨by omega, by omega⟩ (fun z => h1 z) (fun z => ?_)
  refine s_aload_nT A dL_law_32 rfl ?_
  refine s_iload A dL_law_33 rfl ?_
  refine z_tald A dL_law_35 (Or.inr rfl) hn ⟨by omega, by omega⟩ ?_
  refine s_bipush A dL_law_36 rfl ?_
  refine z_iand63 A dL_law_38 ?_
  exact z_tsw A dL_law_39 ⟨by omega, by omega⟩ (by decide +kernel) ⟨1691, by decide⟩ (fun tg ht => h2 z tg ht)
theorem rL_next (C : zJL G J) (h : J G 23 (zLl (i + 5) l5 l6 l7, [], μ, cn, un)) : J G 1691 (zLl i l5 l6 l7, [], μ, cn, un) := by
  obtain ⟨p, e, s, m, below, meth, c, args, Q, A, hX, rfl⟩ := C
  refine s_iinc (L' := zLl (i + 5) l5 l6 l7) A dL_law_1691 rfl rfl ?_
  exact s_goto (tgt := 23) A dL_law_1694 (by decide) h
theorem jL_case (C : zJL G J) (hi : 0 ≤ i ∧ i + 4 < ((zst G 40).1 : Int)) (hn : (zst G 40).1 < 2147483648) (hb : cn + 43 ≤ 601024 ∧ un + 253 ≤ 7293034) (hz : ∀ j, zin (zsv G j)) (hfl : (zl G).stackTraces = false) (h5 : zLi l5) (h6 : zLi l6) (h7 : zLi l7) (I : zInv μ) (N : zNext G J i cn un) {tgt : Nat} {x : Int} (ht : ztg 39 1652 0 42 zLoffs x tgt) : J G tgt (zLl i l5 l6 l7, [], μ, cn, un) := by
  have hx : (x = 0 ∨ x = 1 ∨ x = 2 ∨ x = 3 ∨ x = 4 ∨ x = 5 ∨ x = 6 ∨ x = 7 ∨ x = 8 ∨ x = 9 ∨ x = 10 ∨ x = 11 ∨ x = 12 ∨ x = 13 ∨ x = 14 ∨ x = 15 ∨ x = 16 ∨ x = 17 ∨ x = 18 ∨ x = 19 ∨ x = 20 ∨ x = 21 ∨ x = 22 ∨ x = 23 ∨ x = 24 ∨ x = 25 ∨ x = 26 ∨ x = 27 ∨ x = 28 ∨ x = 29 ∨ x = 30 ∨ x = 31 ∨ x = 32 ∨ x = 33 ∨ x = 34 ∨ x = 35 ∨ x = 36 ∨ x = 37 ∨ x = 38 ∨ x = 39 ∨ x = 40 ∨ x = 41 ∨ x = 42) ∨ (x < 0 ∨ 42 < x) := by omega
  rcases hx with (hq | hq | hq | hq | hq | hq | hq | hq | hq | hq | hq | hq | hq | hq | hq | hq | hq | hq | hq | hq | hq | hq | hq | hq | hq | hq | hq | hq | hq | hq | hq | hq | hq | hq | hq | hq | hq | hq | hq | hq | hq | hq | hq) | hq
  · obtain rfl := ztg_in (t := 224) ht 0 hq (by decide) (by decide +kernel)
    exact jL_sign C hi hn hb hz hfl h5 h6 h7 I N
  · obtain rfl := ztg_in (t := 249) ht 1 hq (by decide) (by decide +kernel)
    exact jL_end C hi hn hb hz hfl h5 h6 h7 I N
  · obtain rfl := ztg_in (t := 274) ht 2 hq (by decide) (by decide +kernel)
    exact jL_patches C hi hn hb hz hfl h5 h6 h7 I N
  · obtain rfl := ztg_in (t := 287) ht 3 hq (by decide) (by decide +kernel)
    exact jL_curve C hi hn hb hz hfl h5 h6 h7 I N
  · obtain rfl := ztg_in (t := 312) ht 4 hq (by decide) (by decide +kernel)
    exact jL_link C hi hn hb hz hfl h5 h6 h7 I N
  · obtain rfl := ztg_in (t := 325) ht 5 hq (by decide) (by decide +kernel)
    exact jL_picture C hi hn hb hz hfl h5 h6 h7 I N
  · obtain rfl := ztg_in (t := 338) ht 6 hq (by decide) (by decide +kernel)
    exact jL_light C hi hn hb hz hfl h5 h6 h7 I N
  · obtain rfl := ztg_in (t := 406) ht 7 hq (by decide) (by decide +kernel)
    exact jL_bent C hi hn hb hz hfl h5 h6 h7 I N
  · obtain rfl := ztg_in (t := 474) ht 8 hq (by decide) (by decide +kernel)
    exact jL_sheet C hi hn hb hz hfl h5 h6 h7 I N
  · obtain rfl := ztg_in (t := 535) ht 9 hq (by decide) (by decide +kernel)
    exact jL_measure C hi hn hb hz hfl h5 h6 h7 I N
  · obtain rfl := ztg_in (t := 596) ht 10 hq (by decide) (by decide +kernel)
    exact jL_forgets C hi hn hb hz hfl h5 h6 h7 I N
  · obtain rfl := ztg_in (t := 621) ht 11 hq (by decide) (by decide +kernel)
    exact jL_sets C hi hn hb hz hfl h5 h6 h7 I N
  · obtain rfl := ztg_in (t := 658) ht 12 hq (by decide) (by decide +kernel)
    exact jL_paints C hi hn hb hz hfl h5 h6 h7 I N
  · obtain rfl := ztg_in (t := 719) ht 13 hq (by decide) (by decide +kernel)
    exact jL_day C hi hn hb hz hfl h5 h6 h7 I N
  · obtain rfl := ztg_in (t := 732) ht 14 hq (by decide) (by decide +kernel)
    exact jL_undo C hi hn hb hz hfl h5 h6 h7 I N
  · obtain rfl := ztg_in (t := 745) ht 15 hq (by decide) (by decide +kernel)
    exact jL_colour C hi hn hb hz hfl h5 h6 h7 I N
  · obtain rfl := ztg_in (t := 770) ht 16 hq (by decide) (by decide +kernel)
    exact jL_limited C hi hn hb hz hfl h5 h6 h7 I N
  · obtain rfl := ztg_in (t := 807) ht 17 hq (by decide) (by decide +kernel)
    exact jL_match C hi hn hb hz hfl h5 h6 h7 I N
  · obtain rfl := ztg_in (t := 856) ht 18 hq (by decide) (by decide +kernel)
    exact jL_fold C hi hn hb hz hfl h5 h6 h7 I N
  · obtain rfl := ztg_in (t := 905) ht 19 hq (by decide) (by decide +kernel)
    exact jL_prints C hi hn hb hz hfl h5 h6 h7 I N
  · obtain rfl := ztg_in (t := 954) ht 20 hq (by decide) (by decide +kernel)
    exact jL_ramp C hi hn hb hz hfl h5 h6 h7 I N
  · obtain rfl := ztg_in (t := 991) ht 21 hq (by decide) (by decide +kernel)
    exact jL_way C hi hn hb hz hfl h5 h6 h7 I N
  · obtain rfl := ztg_in (t := 1040) ht 22 hq (by decide) (by decide +kernel)
    exact jL_rises C hi hn hb hz hfl h5 h6 h7 I N
  · obtain rfl := ztg_in (t := 1065) ht 23 hq (by decide) (by decide +kernel)
    exact jL_reach C hi hn hb hz hfl h5 h6 h7 I N
  · obtain rfl := ztg_in (t := 1090) ht 24 hq (by decide) (by decide +kernel)
    exact jL_spread C hi hn hb hz hfl h5 h6 h7 I N
  · obtain rfl := ztg_in (t := 1103) ht 25 hq (by decide) (by decide +kernel)
    exact jL_odds C hi hn hb hz hfl h5 h6 h7 I N
  · obtain rfl := ztg_in (t := 1164) ht 26 hq (by decide) (by decide +kernel)
    exact jL_through C hi hn hb hz hfl h5 h6 h7 I N
  · obtain rfl := ztg_in (t := 1189) ht 27 hq (by decide) (by decide +kernel)
    exact jL_sources C hi hn hb hz hfl h5 h6 h7 I N
  · obtain rfl := ztg_in (t := 1214) ht 28 hq (by decide) (by decide +kernel)
    exact jL_rounds C hi hn hb hz hfl h5 h6 h7 I N
  · obtain rfl := ztg_in (t := 1239) ht 29 hq (by decide) (by decide +kernel)
    exact jL_press C hi hn hb hz hfl h5 h6 h7 I N
  · obtain rfl := ztg_in (t := 1264) ht 30 hq (by decide) (by decide +kernel)
    exact jL_cell C hi hn hb hz hfl h5 h6 h7 I N
  · obtain rfl := ztg_in (t := 1301) ht 31 hq (by decide) (by decide +kernel)
    exact jL_slips C hi hn hb hz hfl h5 h6 h7 I N
  · obtain rfl := ztg_in (t := 1350) ht 32 hq (by decide) (by decide +kernel)
    exact jL_greys C hi hn hb hz hfl h5 h6 h7 I N
  · obtain rfl := ztg_in (t := 1387) ht 33 hq (by decide) (by decide +kernel)
    exact jL_replaces C hi hn hb hz hfl h5 h6 h7 I N
  · obtain rfl := ztg_in (t := 1436) ht 34 hq (by decide) (by decide +kernel)
    exact jL_doubt C hi hn hb hz hfl h5 h6 h7 I N
  · obtain rfl := ztg_in (t := 1449) ht 35 hq (by decide) (by decide +kernel)
    exact jL_asks C hi hn hb hz hfl h5 h6 h7 I N
  · obtain rfl := ztg_in (t := 1462) ht 36 hq (by decide) (by decide +kernel)
    exact jL_other C hi hn hb hz hfl h5 h6 h7 I N
  · obtain rfl := ztg_in (t := 1487) ht 37 hq (by decide) (by decide +kernel)
    exact jL_carry C hi hn hb hz hfl h5 h6 h7 I N
  · obtain rfl := ztg_in (t := 1524) ht 38 hq (by decide) (by decide +kernel)
    exact jL_drifts C hi hn hb hz hfl h5 h6 h7 I N
  · obtain rfl := ztg_in (t := 1561) ht 39 hq (by decide) (by decide +kernel)
    exact jL_keep C hi hn hb hz hfl h5 h6 h7 I N
  · obtain rfl := ztg_in (t := 1586) ht 40 hq (by decide) (by decide +kernel)
    exact jL_again C hi hn hb hz hfl h5 h6 h7 I N
  · obtain rfl := ztg_in (t := 1611) ht 41 hq (by decide) (by decide +kernel)
    exact jL_count C hi hn hb hz hfl h5 h6 h7 I N
  · obtain rfl := ztg_in (t := 1636) ht 42 hq (by decide) (by decide +kernel)
    exact jL_row C hi hn hb hz hfl h5 h6 h7 I N
  · obtain rfl := ztg_out (t := 1691) ht hq (by decide)
    exact N G (Or.inl rfl) _ _ _ _ _ _ (by omega) (by omega) I h5 h6 h7
end
theorem zs0_gx {G G2 : zG} (h : zGx G G2) : zs0 G2 = zs0 G := by rcases h with rfl | ⟨z, q, rfl, -⟩ <;> rfl
theorem jL_loop {J : zG → Nat → zS → Prop} {z0 : Nat} (E : ∀ (G2 : zG) (μ : zM) (i : Int) (cn un : Nat) (l5 l6 l7 : Option zV), zJL G2 J → zs0 G2 = z0 → cn ≤ 601024 → un ≤ 7293034 → J G2 1697 (zLl i l5 l6 l7, [], μ, cn, un)) : ∀ (n : Nat) (G : zG) (_ : zJL G J) (_ : zs0 G = z0) (i : Int) (μ : zM) (cn un : Nat) (l5 l6 l7 : Option zV), (zst G 40).1 ≤ 2560 → (∀ j, zin (zsv G j)) → (zl G).stackTraces = false → 0 ≤ i ∧ i ≤ 2560 → ((zst G 40).1 : Int) - 4 ≤ i + 5 * n → cn + 43 * n + 43 ≤ 601024 → un + 253 * n + 253 ≤ 7293034 → zInv μ → zLi l5 → zLi l6 → zLi l7 → J G 23 (zLl i l5 l6 l7, [], μ, cn, un) := by
  intro n
  induction n with
  | zero =>
    intro G C h0 i μ cn un l5 l6 l7 hn hz hfl hi hm hc hu I h5 h6 h7
    exact rL_head C (by omega) (by omega) hz (fun _ => E G μ i cn un l5 l6 l7 C h0 (by omega) (by omega)) (fun z => absurd (by omega) z)
  | succ n ih =>
    intro G C h0 i μ cn un l5 l6 l7 hn hz hfl hi hm hc hu I h5 h6 h7
    refine rL_head C (by omega) (by omega) hz (fun _ => E G μ i cn un l5 l6 l7 C h0 (by omega) (by omega)) (fun z tgt ht => ?_)
    refine jL_case C (by omega) (by omega) (by omega) hz hfl h5 h6 h7 I (fun G2 hg μ2 cn2 un2 m5 m6 m7 hc2 hu2 I2 k5 k6 k7 => ?_) ht
    have C2 := C.gx hg
    have e1 := zst_gx hg
    exact rL_next C2 (ih G2 C2 (by rw [zs0_gx hg]; exact h0) (i + 5) μ2 cn2 un2 m5 m6 m7 (by rw [e1]; exact hn) (fun j => by unfold zsv; rw [e1]; exact hz j) (by rw [zl_gx hg]; exact hfl) (by omega) (by rw [e1]; omega) (by omega) (by omega) I2 k5 k6 k7)
