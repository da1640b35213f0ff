/-! a link told: the class, the whole call -/
/-- what was built is what the text tells, where it stands -/
theorem zTY_X {S S' : Int → Int} {L : Int} {r0 : Option Nat} {μ : zM} {lo hi : Nat} {a' t0 : Int} {f0 : Nat} (hs : ∀ i, 0 ≤ i → i < t0 → S' (zba a' + i) = S (zba 0 + i)) (h6 : S' (606 + a') = S (606 + 0)) (hf : 0 < a' → zTX S' μ f0 r0 (a' - 1) 0 (S' (600 + a' - 1))) (hz : a' ≤ 0 → r0 = none ∨ ∀ i, 0 ≤ i → i < t0 → S (zba 0 + i) ≠ 112) : ∀ (f D : Nat) (r : Option Nat) (k t : Int), 0 ≤ k → t ≤ t0 → zWF S f D 0 k t → zTY S L r0 μ lo hi f r k t → zTX S' μ (f + f0) r a' k t
  | 0, _, _, _, _, _, _, h, _ => h.elim
  | f + 1, D, r, k, t, hk0, ht, h, hy => by
    rw [show f + 1 + f0 = (f + f0) + 1 by omega]
    rcases hy with hy | ⟨q1, q2, q3, q4⟩ | ⟨q1, b, q2, q3, q4, q5, q6, q7, q8, q9, q10⟩
    · exact Or.inl hy
    · rcases h with h | ⟨w1, w2, w3, w4, w5, w6⟩
      · omega
      · have e0 := hs k hk0 (by omega)
        refine Or.inr (Or.inl ⟨q1, by rw [e0]; exact q2, fun z => ?_, zTY_X hs h6 hf hz f D _ _ _ (by omega) ht (w5 q2).2 q4⟩)
        have := hf z
        rw [q3] at this
        exact zTX_up _ _ _ _ _ this _ (by omega)
    · rcases h with h | ⟨w1, w2, w3, w4, w5, w6⟩
      · omega
      · have e0 := hs k hk0 (by omega)
        have c1 : zaro (S (zba 0 + k)) → k + zqp (S (zba 0 + k)) < t := fun z => by
          obtain ⟨-, -, y3, y4, -⟩ := w4 z
          omega
        have c2 : ¬ zaro (S (zba 0 + k)) → S (zba 0 + k) ≠ 112 → k + zwd (S (zba 0 + k)) ≤ t := fun z y => (w6 z y).1
        obtain ⟨f1, f2⟩ := zfs_t (a' := a') (t := t) (fun i i0 i1 => hs i i0 (by omega)) h6 hk0 q1 c1 c2
        refine Or.inr (Or.inr ⟨q1, b, q2, q4, by rw [e0]; exact q5, fun z => ?_, fun z => ?_, fun z => ?_, fun z => ?_, fun z y => ?_⟩)
        · rw [e0] at z; rw [f1 z]; exact q6 z
        · rw [e0] at z; rw [f2 z]; exact q7 z
        · rw [e0] at z ⊢
          obtain ⟨-, -, y3, y4, ⟨D1, -, y5⟩, y6⟩ := w4 z
          have hq := zqp_r (S (zba 0 + k))
          have ec : zcl1 S' a' k = zcl1 S 0 k := by
            unfold zcl1
            rw [e0]
            refine zclo_t _ _ _ (fun i i0 i1 => hs i (by omega) ?_)
            have : i ≤ zcl1 S 0 k := i1
            omega
          rw [ec]
          exact ⟨zTY_X hs h6 hf hz f D1 _ _ _ (by omega) (by omega) y5 (q8 z).1, zTY_X hs h6 hf hz f D _ _ _ (by omega) ht y6 (q8 z).2⟩
        · rw [e0] at z
          obtain ⟨y1, y2, y3, y4⟩ := q9 z
          have ha : 0 < a' := by
            by_cases y : 0 < a'
            · exact y
            · rcases hz (by omega) with y5 | y5
              · exact absurd y5 y1
              · exact absurd z (y5 k hk0 (by omega))
          refine ⟨ha, ?_, zTY_X hs h6 hf hz f D _ _ _ (by omega) ht (w5 z).2 y4⟩
          rw [y3]
          exact zTX_up _ _ _ _ _ (hf ha) _ (by omega)
        · rw [e0] at z y ⊢
          obtain ⟨y1, y2⟩ := q10 z y
          have hw := zwd_r (S (zba 0 + k))
          exact ⟨y1, zTY_X hs h6 hf hz f D _ _ _ (by omega) ht (w6 z y).2 y2⟩
theorem zold.x {μ μ' : zM} (h : zold μ μ') : zxt μ μ' := ⟨fun b _ h1 => h.2.1 b h1, h.1⟩
theorem zold.xm {μ μ' : zM} (h : zold μ μ') (hn : 182 ≤ zn μ) : zxm μ μ' := ⟨fun b j h0 h1 => (h.2.1 b (by omega)).2.1 j, h.2.2⟩
theorem zLnk_no {S : Int → Int} {μ : zM} : ∀ (f : Nat) (a k t : Int), zTX S μ f none a k t → zno S f a k t
  | 0, _, _, _, h => h.elim
  | f + 1, a, k, t, h => by
    rcases h with h | ⟨h1, h2, h3, h4⟩ | ⟨-, b, h2, -⟩
    · exact Or.inl h.1
    · exact Or.inr ⟨h1, h2, fun z => zLnk_no f _ _ _ (h3 z), zLnk_no f _ _ _ h4⟩
    · cases h2
section
variable {G : zG} {μ μ' : zM} {S : Int → Int} {c : Int} {W U : List (Int → Int)} {kp : Int → Int} {K : Int → Int → Int} {T R : List Int}
theorem kX1_draftx {F : zM → Prop} (hx : zXg μ S U.length U kp K T R) (hu : U.length ≤ 10) (hc : S 702 * S 703 ≤ 64) (hr : zLr S) (h : ∀ μ', zxm μ μ' → zxt μ μ' → zXg μ' S U.length (U ++ [S]) kp K T R → F μ') : qX1_draft G 5 μ F := by
  obtain ⟨h1, h2, ⟨g, hg, e1, e2, h3⟩, ⟨h4, h5⟩, h6, h7, h8⟩ := hx
  refine eX1_draft fun J C => rX1_draft_e C zSt_5 (eX1_draftSlot fun J C => rX1_draftSlot_e C ?_)
  rw [e1, e2]
  refine ⟨by omega, by omega, kX7_copyFrom (zSt_slot (by omega)) zSt_5 (by omega) (fun p p0 p1 => by rw [h1.2.1 p p0 p1]; exact hr.2 p p0 p1) fun μ1 g1 x1 r1 => ?_⟩
  have ha : ∃ v : Nat, v < 11 ∧ zslo g U.length = 15 + 8 * v := ⟨((g + (U.length : Int)) % 11).toNat, by omega, rfl⟩
  have x1 := x1 S h1 hc
  have g1 : zsr (fun c _ => zslo g U.length ≤ c ∧ c ≤ zslo g U.length + 6) (fun c j => c = zslo g U.length ∧ j = 8) μ μ1 := g1
  have x1 : zXs μ1 (zslo g U.length) S := x1
  have r1 : zr μ1 (zslo g U.length) 8 = zr μ 5 8 := r1
  have hne : ∀ k : Nat, k < U.length → (zslo g k + 7 ≤ zslo g U.length ∨ zslo g U.length + 7 ≤ zslo g k) ∧ zslo g k ≠ zslo g U.length := fun k hk => zslo_ne hk hu
  generalize hga : zslo g U.length = a at *
  obtain ⟨v, hv, rfl⟩ := ha
  have hP : ∀ (b : Nat) (j : Int), (15 + 8 * v ≤ b ∧ b ≤ 15 + 8 * v + 6) → b < 182 ∧ ¬ zlb b := fun b j z => ⟨by omega, fun y => by rcases y with y | ⟨i, hi, y⟩ | y | y | y <;> omega⟩
  have hQ : ∀ (b : Nat) (j : Int), (b = 15 + 8 * v ∧ j = 8) → b < 182 ∧ ¬ zlb b := fun b j z => hP b j (by omega)
  refine h μ1 (g1.xm (fun b j z => by omega) (fun b j z => ⟨5, 8, by decide, by rw [z.1, z.2]; exact r1⟩)) (g1.x (fun b j z => by omega)) ⟨h1.q g1 (fun b j i0 i1 z => by omega), ?_, ⟨g, hg, ?_, ?_, fun k hk => ?_⟩, ⟨fun i i0 i1 => ⟨?_, fun e => ((h4 i i0 i1).2 e).q g1 (fun b j q0 q1 z => by omega)⟩, fun i i0 i1 e => ?_⟩, ⟨?_, fun k hk => ?_⟩, h7.q g1 (by omega) (by omega), h8.q g1 (by omega)⟩
  · rw [g1.2.1 5 8 (by omega)]; exact h2.q g1 hP hQ
  · rw [g1.1 13 1 (by omega)]; exact e1
  · rw [g1.1 13 2 (by omega)]; exact e2
  · rw [List.length_append, List.length_singleton] at hk
    by_cases c : k < U.length
    · rw [zU_app_l c]
      obtain ⟨n1, n2⟩ := hne k c
      exact ⟨(h3 k c).1.q g1 (fun b j i0 i1 z => by omega), by rw [g1.2.1 _ 8 (fun z => n2 z.1)]; exact (h3 k c).2.q g1 hP hQ⟩
    · have hk2 : k = U.length := by omega
      rw [zU_app_r hk2]
      have : zslo g k = 15 + 8 * v := by rw [hk2]; exact hga
      rw [this]
      exact ⟨x1, by rw [r1]; exact h2.q g1 hP hQ⟩
  · rw [g1.1 104 i (by omega)]; exact (h4 i i0 i1).1
  · rw [g1.2.1 _ 8 (by omega)]; exact (h5 i i0 i1 e).q g1 hP hQ
  · rw [g1.1 1 1 (by omega)]; exact h6.1
  · rw [g1.1 2 k (by omega)]; exact h6.2 k hk

/-- things that are older than all that was made -/
theorem zXg.old (h : zXg μ S c W kp K T R) (hm : zold μ μ') (hn : 182 ≤ zn μ) : zXg μ' S c W kp K T R := by
  have e1 : ∀ b, b < 182 → ∀ j, zi μ' b j = zi μ b j := fun b hb => (hm.2.1 b (by omega)).2.1
  have e2 : ∀ b, b < 182 → ∀ j, zr μ' b j = zr μ b j := fun b hb => (hm.2.1 b (by omega)).2.2
  have q : zsr (fun b _ => 182 ≤ b) (fun b _ => 182 ≤ b) μ (μ'.1, μ'.2.1, μ.2.2) := ⟨fun b j z => e1 b (by omega) j, fun b j z => e2 b (by omega) j, rfl, rfl⟩
  have lk : ∀ {V : Int → Int} {r : Option Nat}, zLnk V μ r → zLnk V μ' r := fun h => h.x hm.x (fun b _ hb => ⟨e1 b hb, e2 b hb 0⟩)
  have xs : ∀ {s : Nat} {V : Int → Int}, s + 6 < 182 → zXs μ s V → zXs μ' s V := fun {s V} hs h => by exact zXs.q (μ' := (μ'.1, μ'.2.1, μ.2.2)) h q (fun b j i0 i1 z => by omega)
  obtain ⟨h1, h2, ⟨g, hg, g1, g2, h3⟩, ⟨h4, h5⟩, h6, h7, h8⟩ := h
  refine ⟨xs (by omega) h1, by rw [e2 5 (by omega)]; exact lk h2, ⟨g, hg, by rw [e1 13 (by omega)]; exact g1, by rw [e1 13 (by omega)]; exact g2, fun k hk => ⟨xs (by unfold zslo; omega) (h3 k hk).1, by rw [e2 _ (by unfold zslo; omega)]; exact lk (h3 k hk).2⟩⟩, ⟨fun i i0 i1 => ⟨by rw [e1 104 (by omega)]; exact (h4 i i0 i1).1, fun e => xs (by omega) ((h4 i i0 i1).2 e)⟩, fun i i0 i1 e => by rw [e2 _ (by omega)]; exact lk (h5 i i0 i1 e)⟩, ⟨by rw [e1 1 (by omega)]; exact h6.1, fun k hk => by rw [e1 2 (by omega)]; exact h6.2 k hk⟩, ?_, ?_⟩
  · exact zXr.q (μ' := (μ'.1, μ'.2.1, μ.2.2)) h7 q (by omega) (by omega)
  · exact zXc.q (μ' := (μ'.1, μ'.2.1, μ.2.2)) h8 q (fun b j z y => by omega)
/-- another link for the state -/
theorem zXg.lk {S' : Int → Int} {b : Nat} (h : zXg μ S c W kp K T R) (hs : ∀ i, i < 360 ∨ 614 ≤ i → S' i = S i) (lk : zLnk S' μ (some b)) : zXg (zupr μ 5 8 (some b)) S' c W kp K T R := by
  have q : zsr (fun _ _ => False) (fun b j => b = 5 ∧ j = 8) μ (zupr μ 5 8 (some b)) := ⟨fun b j z => rfl, fun b j z => zr_ne z, rfl, rfl⟩
  have hP : ∀ (b : Nat) (j : Int), False → b < 182 ∧ ¬ zlb b := fun b j z => z.elim
  have hQ : ∀ (b : Nat) (j : Int), (b = 5 ∧ j = 8) → b < 182 ∧ ¬ zlb b := fun b j z => ⟨by omega, fun y => by rcases y with y | ⟨i, hi, y⟩ | y | y | y <;> omega⟩
  have rn : ∀ x : Nat, x ≠ 5 → zr (zupr μ 5 8 (some b)) x 8 = zr μ x 8 := fun x hx => zr_ne (by omega)
  obtain ⟨h1, h2, ⟨g, hg, g1, g2, h3⟩, ⟨h4, h5⟩, h6, h7, h8⟩ := h
  refine ⟨?_, ?_, ⟨g, hg, g1, g2, fun k hk => ⟨(h3 k hk).1.q q (fun b j _ _ z => z), by rw [rn _ (by unfold zslo; omega)]; exact (h3 k hk).2.q q hP hQ⟩⟩, ⟨fun i i0 i1 => ⟨(h4 i i0 i1).1, fun e => ((h4 i i0 i1).2 e).q q (fun b j _ _ z => z)⟩, fun i i0 i1 e => by rw [rn _ (by omega)]; exact (h5 i i0 i1 e).q q hP hQ⟩, h6, h7.q q (fun z => z) (fun j z => z), h8.q q (fun b j z y => y)⟩
  · obtain ⟨y1, y2, y3, y4, y5, y6, y7, y8⟩ := h1
    refine ⟨fun p p0 p1 => by rw [hs _ (by omega)]; exact y1 p p0 p1, fun p p0 p1 => by rw [hs _ (by omega)]; exact y2 p p0 p1, fun p p0 p1 => by rw [hs _ (by omega)]; exact y3 p p0 p1, fun p p0 p1 => by rw [hs _ (by omega)]; exact y4 p p0 p1, fun p p0 p1 => by rw [hs _ (by omega)]; exact y5 p p0 p1, by rw [hs _ (by omega)]; exact y6, by rw [hs _ (by omega)]; exact y7, fun i i0 i1 => ?_⟩
    rw [hs 702 (by omega), hs 703 (by omega)] at i1
    rw [hs _ (by omega)]
    exact y8 i i0 i1
  · rw [show zr (zupr μ 5 8 (some b)) 5 8 = some b by rw [zr_upr, if_pos ⟨rfl, rfl⟩]]
    exact lk.q q hP hQ
theorem kX10_link {F : Int → zM → Prop} (hx : zXa μ S U kp K T R) (hv : zval S) (hle : zLe S) (hT : zTv T) (h : ∀ μ', zxm μ μ' → zXa μ' (zliS S T) (zliU S U T) kp K [] R → F (zliA S T) μ') : qX10_link G μ F := by
  have hl := hT.1
  have hwr := zwr0_r (tl := 1) (most := 40) hT (by decide)
  unfold zliS zliU zliA at h
  refine eX10_link fun J C => zJ_n C fun h182 => rX10_link_e C (kX9_wrong0 hx.2.2.2.2.2.1 hT (by decide) (by decide) ⟨by constructor <;> omega, fun hw => ?_, fun hw => ?_⟩)
  · have hw' : ¬ 0 ≤ zwr0 T 1 40 := by omega
    rw [if_neg hw', if_neg hw', if_neg hw'] at h
    obtain ⟨h40, w0⟩ := zlink_ok hT hv.lim hw'
    have hvr := zlnV_r hv hle hv.lim hT hw'
    obtain ⟨gr1, gr2, gr3, gr4, gr5⟩ := zlnG_r hv T
    obtain ⟨bf, p1, p2, p3, p4, p5, p6, p7⟩ := id hx.2.2.1
    have hage : 0 ≤ S 612 ∧ S 612 ≤ 6 := hv.2.2.2.2.1.1
    have hbf : bf < zn μ := by rcases p3.1 with z | z <;> omega
    have hlimX : zi μ 8 0 = S 704 := hx.2.1.2.2.1 0 (by decide) (by decide)
    have hrL : zr μ bf 0 = none → S 613 = 0 := fun z => by
      by_cases q : S 612 ≤ 0
      · exact hle.2.1 q
      · have := p7 (by omega)
        rw [z] at this
        exact (hle.2.2 (by omega)).2 (zLnk_no _ _ _ _ this)
    rw [p1, hlimX]
    refine kX3_read (lim := S 704) hT h40 w0 h182 hx.2.2.2.2.2.1 p3 hbf p4 rfl p5 hrL fun μ1 b lo hi old hb okb v1 v2 ty => ⟨b, rfl, ?_⟩
    have eV : zi μ1 b 1 = zlnV S T := v1
    have eG : zi μ1 b 2 = zlnG S T := v2
    have x1 := hx.2.old old h182
    have gt : zsm (fun b _ => b = 1 ∨ b = 2) μ1 (zup μ1 1 1 0) := (zsm.refl _ _).up _ (Or.inl rfl)
    have x2 := x1.txt gt (T' := []) ⟨zi_at, fun k hk => absurd hk (by simp)⟩
    have m2 : zxm μ (zup μ1 1 1 0) := (old.xm h182).trans (gt.xm (fun b j => by omega))
    have ok2 : zok true (zup μ1 1 1 0) b (3, 3) := okb.sm gt
    rw [zi_off (by omega), zi_off (by omega), eV, eG]
    refine ⟨ok2, by constructor <;> omega, fun z => ⟨ok2, by constructor <;> omega, fun y => ?_, fun y => ?_⟩, fun z => ?_⟩
    · rw [if_neg (show ¬ 500 < zlnV S T by omega), if_neg (show ¬ 500 < zlnV S T by omega), if_neg (show ¬ 500 < zlnV S T by omega), if_neg (show ¬ 6 < zlnG S T by omega), if_neg (show ¬ 6 < zlnG S T by omega), if_neg (show ¬ 6 < zlnG S T by omega)] at h
      obtain ⟨nv, nle⟩ := zlnW_v hv hle hT hw' z y
      have wf := fun (h : 1 ≤ zlnG S T) => zlnW_wf hv hle hT hw' ⟨h, y⟩ (zlnV S T)
      -- the new link, in the memory where it was read
      have lk1 : zLnk (zlnW S T (zlnG S T) (zlnV S T)) μ1 (some b) := by
        refine ⟨b, rfl, Or.inr (Or.inr (Or.inr (Or.inr hb))), okb, by rw [zlnW_613]; exact eV, by rw [zlnW_612]; exact eG, fun q => ?_, fun q => ?_⟩
        · rw [zlnW_612] at q
          have e := gr3.1 (by omega)
          rcases ty with ty | ⟨ty, -⟩ | ⟨ty, -⟩
          · exact ty.2
          · omega
          · omega
        · rw [zlnW_612] at q ⊢
          rw [zlnW_sz ⟨by omega, y⟩]
          have hf : 0 < zlnG S T - 1 → zTX (zlnW S T (zlnG S T) (zlnV S T)) μ1 (64 * (zlnG S T - 1)).toNat (zr μ bf 0) (zlnG S T - 1 - 1) 0 (zlnW S T (zlnG S T) (zlnV S T) (600 + (zlnG S T - 1) - 1)) := by
            intro q2
            have e := gr4 (by omega)
            have ag := zlnW_agr (S := S) (T := T) (v := zlnV S T) ⟨by omega, y⟩ h40
            have es := ag (600 + (zlnG S T - 1) - 1) (Or.inr (Or.inl ⟨by omega, by omega⟩))
            rw [es]
            have e2 : S 612 = zlnG S T - 1 := by omega
            have t1 := p7 (by omega)
            obtain ⟨s1, -⟩ := hv.2.2.2.2.1.2 (by omega)
            have s2 := (hle.2.2 (by omega)).1
            rw [e2] at t1 s1 s2
            have t2 := zTX_dn _ _ _ _ _ _ s2 _ t1
            exact zTX.x old.x _ _ _ _ _ ((zTX_c μ _ _ _ 0 _ (by omega) (Int.le_refl _) s1.2 ag s2).2 _ t2)
          have hz : zlnG S T - 1 ≤ 0 → zr μ bf 0 = none ∨ ∀ i, 0 ≤ i → i < (T.length : Int) → zsT T (S 704) (zba 0 + i) ≠ 112 := by
            intro q2
            by_cases q3 : S 612 ≤ 0
            · exact Or.inl (p6 q3)
            · refine Or.inr (fun i i0 i1 q4 => ?_)
              rw [zsT_at i0 (by omega)] at q4
              have := gr5 i.toNat (by omega) (by rw [show ((i.toNat : Nat) : Int) = i by omega]; exact q4)
              omega
          have := zTY_X (S' := zlnW S T (zlnG S T) (zlnV S T)) (a' := zlnG S T - 1) (t0 := T.length) (fun i i0 i1 => by rw [zlnW_at ⟨by omega, y⟩ h40 i0 i1, zsT_at i0 (by omega)]) (by rw [zlnW_by ⟨by omega, y⟩]; unfold zsT; rw [if_pos (by decide)]) hf hz _ _ _ _ _ (Int.le_refl _) (Int.le_refl _) w0 ty
          exact zTX_up _ _ _ _ _ this _ (by omega)
      refine kX1_draftx x2 hx.1 hv.pic hv.1 fun μ3 g3 t3 x3 => ?_
      -- the new link, behind the draft
      have lk3 : zLnk (zlnW S T (zlnG S T) (zlnV S T)) μ3 (some b) := by
        have lkt : zLnk (zlnW S T (zlnG S T) (zlnV S T)) (zup μ1 1 1 0) (some b) := lk1.sm gt (fun b j hb hz => by rcases hb with hb | ⟨i, hi, hb⟩ | hb | hb | hb <;> omega)
        obtain ⟨b', e, q1, q2, q3, q4, q5, q6⟩ := lkt
        injection e with e
        subst e
        have hlt : b < zn (zup μ1 1 1 0) := by rcases q2.1 with z | z <;> omega
        obtain ⟨a1, a2, a3⟩ := t3.1 b hb hlt
        refine ⟨b, rfl, q1, zok_old t3.2 hlt a1 q2, by rw [a2]; exact q3, by rw [a2]; exact q4, fun z => by rw [a3]; exact q5 z, fun z => by rw [a3]; exact zTX.x t3 _ _ _ _ _ (q6 z)⟩
      have x4 := x3.lk (fun i hi => zlnW_off ⟨gr1, y⟩ h40 hi) lk3
      obtain ⟨b', e, -, k2, k3, -⟩ := id lk3
      injection e with e
      subst e
      have ok4 : zok true (zupr μ3 5 8 (some b)) b (3, 3) := k2
      have h3lt : b < zn μ3 := by rcases k2.1 with z | z <;> omega
      have g4 : zxm μ3 (zupr μ3 5 8 (some b)) := ⟨fun _ _ _ _ => rfl, fun z => zupr_cld z (fun c e => by injection e with e; omega)⟩
      refine ⟨ok4, ?_⟩
      rw [show zi (zupr μ3 5 8 (some b)) b 1 = zlnV S T by rw [zi_upr, k3, zlnW_613]]
      refine kX10_settled (by constructor <;> omega) x4 hx.1 (fun z => absurd z (by omega)) (fun _ μ5 g5 x5 => ?_)
      exact h μ5 (((m2.trans g3).trans g4).trans g5) x5
    · rw [if_neg (show ¬ 500 < zlnV S T by omega), if_neg (show ¬ 500 < zlnV S T by omega), if_neg (show ¬ 500 < zlnV S T by omega), if_pos (show 6 < zlnG S T by omega), if_pos (show 6 < zlnG S T by omega), if_pos (show 6 < zlnG S T by omega)] at h
      exact h _ m2 ⟨hx.1, x2⟩
    · rw [if_pos (show 500 < zlnV S T by omega), if_pos (show 500 < zlnV S T by omega), if_pos (show 500 < zlnV S T by omega)] at h
      exact h _ m2 ⟨hx.1, x2⟩
  · have hw' : 0 ≤ zwr0 T 1 40 := by omega
    rw [if_pos hw', if_pos hw', if_pos hw'] at h
    exact kX10_refusedText hx h
end
