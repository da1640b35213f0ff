/-! the reference reads the steps of a link -/
section
variable {G : zG} {T : List Int} {A lim L : Int}
/-- steps from a place on -/
theorem kX11_linkSteps (hT : zTv T) (hlim : 8 ≤ lim ∧ lim ≤ 32) : ∀ (n : Nat) {d dd : Nat} {F : Int → zM → Prop} {J : Nat → zS → Prop} {μ : zM} {a t : Nat} {x2 : Int}, zJ G true (5 + dd) 0 0 mX11_readSteps (zKI F) J → d ≤ 3 → 3 * (4 - d) ≤ dd → zN2 T 40 - a ≤ n → a ≤ zN2 T 40 → zPs μ T 40 a (-1) → zi μ 154 613 = L → zwro T 1 40 (zN2 T 40 - a) a t (zstx t).length d = A → (∀ v μ', zsm zPq μ μ' → zBad μ' T 40 A → F v μ') → (∀ (e t' : Nat) (v : Int) (μ' : zM), zsm zPq μ μ' → a ≤ e → e ≤ zN2 T 40 → zPs μ' T 40 e (-1) → zwro T 1 40 (zN2 T 40 - e) e t' (zstx t').length d = A → (e < zN2 T 40 → ¬ zkin (zat T e)) → zWF (zsT T lim) (e - a + 1) (3 - d) 0 a e → v = zlgo (zsT T lim) L 0 (e - a + 1) a e → zflg μ μ' T a e → F (x2 + v) μ') → J 2 ([some (zR (some 153)), some (zI d), some (zI x2), none], [], μ, 0, 0) := by
  have hN := zN2_le (most := 40) hT
  have hs := zN2_s T (most := 40) (by decide)
  intro n
  induction n with
  | zero =>
    intro d dd F J μ a t x2 C hd hdd hn ha hp hL hA hbad hok
    obtain ⟨e1, e2⟩ := zher_in (T := T) (a := a) (most := 40) (by decide)
    refine rX11_readSteps_2 C _ _ (kX11_fine hp (by decide) (fun _ => ⟨by decide, fun z => absurd z (by decide), fun _ => ?_⟩) (fun z => absurd rfl z))
    refine kX11_here hp hT (by omega) (by omega) (by decide) ?_
    rw [e2 (by omega)]
    refine kX11_isStep (by decide) (fun z => absurd z (by unfold zkin zaro; decide)) (fun _ => ⟨by decide, fun _ => ?_, fun z => absurd rfl z⟩)
    have := hok a t 0 μ (zsm.refl _ _) (Nat.le_refl _) ha hp hA (fun z => absurd z (by omega)) (by rw [Nat.sub_self]; exact Or.inl rfl) (by rw [Nat.sub_self, zlgo, if_pos (Int.le_refl _)]) (Or.inr ⟨rfl, fun k k0 k1 => absurd k1 (by omega)⟩)
    rw [Int.add_zero] at this
    exact this
  | succ n ih =>
    intro d dd F J μ a t x2 C hd hdd hn ha hp hL hA hbad hok
    obtain ⟨e1, e2⟩ := zher_in (T := T) (a := a) (most := 40) (by decide)
    have hz := zher_r hT (top := 40) (a := (a : Int)) (by omega)
    by_cases hst : a < zN2 T 40 ∧ zkin (zat T a)
    case neg =>
      refine rX11_readSteps_2 C _ _ (kX11_fine hp (by decide) (fun _ => ⟨by decide, fun z => absurd z (by decide), fun _ => ?_⟩) (fun z => absurd rfl z))
      refine kX11_here hp hT (by omega) (by omega) (by decide) ?_
      refine kX11_isStep (by constructor <;> omega) (fun z => ?_) (fun _ => ⟨by decide, fun _ => ?_, fun z => absurd rfl z⟩)
      · exfalso
        by_cases y : a < zN2 T 40
        · rw [e1 y] at z; exact hst ⟨y, z⟩
        · rw [e2 y] at z; exact absurd z (by unfold zkin zaro; decide)
      · have := hok a t 0 μ (zsm.refl _ _) (Nat.le_refl _) ha hp hA (fun z y => hst ⟨z, y⟩) (by rw [Nat.sub_self]; exact Or.inl rfl) (by rw [Nat.sub_self, zlgo, if_pos (Int.le_refl _)]) (Or.inr ⟨rfl, fun k k0 k1 => absurd k1 (by omega)⟩)
        rw [Int.add_zero] at this
        exact this
    obtain ⟨hlt, hk⟩ := hst
    have hr := zat_r hT (i := (a : Int)) (by omega) (by omega)
    obtain ⟨hl0, h42⟩ := zsf_pos hk
    have e0 : zsT T lim (zba 0 + a) = zat T a := zsT_at (by omega) (by omega)
    have h41 : ¬ (zat T a = 41 ∧ 0 < (d : Int)) := fun z => by have := z.1; unfold zkin zaro at hk; omega
    have A1 : zwro T 1 40 (zN2 T 40 - (a + 1)) (a + 1) (zsf (zat T a)) 1 d = A := by
      rw [zwro_s hlt h41 (by rw [zfor3_1]; exact hl0) _ (zfor3_1 _)] at hA
      rw [zwro_m hlt hl0 (Or.inl h42), h42, if_neg (by decide)] at hA
      exact hA
    have q : ∀ {μ1 μ2 : zM}, zsm zPp μ1 μ2 → zsm zPq μ1 μ2 := fun g => zPq_p g
    -- what stands in brackets
    have within : ∀ (p : Nat) {dd' t j : Nat} {μ1 : zM} {F' : Int → zM → Prop}, a < p → p ≤ zN2 T 40 → 3 * (3 - d) + 1 ≤ dd' → zPs μ1 T 40 p (-1) → zi μ1 154 613 = L → zwro T 1 40 (zN2 T 40 - p) p t j d = A → j + 1 = (zstx t).length → zfch t j = 40 → (∀ v μ', zsm zPq μ1 μ' → zBad μ' T 40 A → F' v μ') → (∀ (f t' : Nat) (v : Int) (μ' : zM), zsm zPq μ1 μ' → d < 3 → zat T p = 40 → p + 1 ≤ f → f < zN2 T 40 → zat T f = 41 → zPs μ' T 40 ((f + 1 : Nat) : Int) (-1) → zwro T 1 40 (zN2 T 40 - (f + 1)) (f + 1) t' (zstx t').length d = A → zWF (zsT T lim) (f - (p + 1) + 1) (3 - (d + 1)) 0 ((p + 1 : Nat) : Int) f → v = zlgo (zsT T lim) L 0 (f - (p + 1) + 1) ((p + 1 : Nat) : Int) f → zflg μ1 μ' T p (f + 1) → F' v μ') → qX11_readWithin G dd' d μ1 F' := by
      intro p dd' t j μ1 F' hap hpN hdd' hp1 hL1 hA1 hj hf hbad' hok'
      refine eX11_readWithin fun J' C' => rX11_readWithin_e C' _ ⟨by constructor <;> omega, fun z => ?_, fun z => ?_⟩
      · have hd3 : d < 3 := by omega
        refine eX11_need fun J2 C2 => rX11_need_e C2 _ (kX11_oneA hp1 hT (by decide) hpN hA1 (by omega) (by decide) (by decide) (by decide) (fun c => by rw [hf]; unfold zcs; omega) (fun l1 c1 c2 μ2 g2 p2 A2 => ?_) (fun μ2 g2 b2 => ?_))
        · rw [hf, if_pos rfl, hj, show ((d : Int) + 1) = ((d + 1 : Nat) : Int) by omega] at A2
          refine ⟨dd' - 1, by omega, eX11_readSteps fun J3 C3 => rX11_readSteps_e C3 _ ?_⟩
          have := ih (d := d + 1) (a := p + 1) (x2 := 0) (t := t) C3 (by omega) (by omega) (by omega) (by omega) p2 (by rw [g2.1 _ _ (by omega)]; exact hL1) A2 (fun v μ3 g3 b3 => kX11_needB b3 hT (by decide) (by decide) (by decide) (hbad' v μ3 ((q g2).trans g3) b3)) (fun f t' v μ3 g3 f0 f1 p3 A3 s3 w3 v3 fl3 => ?_)
          · rw [show ((d + 1 : Nat) : Int) = (d : Int) + 1 by omega] at this
            exact this
          · rw [Int.zero_add]
            obtain ⟨y1, y2⟩ := zher_in (T := T) (a := f) (most := 40) (by decide)
            refine eX11_need fun J4 C4 => rX11_need_e C4 _ (kX11_oneOf p3 (by decide) hT (by omega) (by omega) (by decide) (by decide) (by decide) (by decide) (fun z => absurd rfl z) (fun _ hb μ4 g4 p4 => ?_) (fun _ hb μ4 g4 p4 => ?_))
            · have hfl : f < zN2 T 40 := by
                by_cases y : f < zN2 T 40
                · exact y
                · rw [y2 y] at hb; omega
              rw [y1 hfl] at hb
              have c41 : zat T f = 41 := by omega
              have A4 : zwro T 1 40 (zN2 T 40 - (f + 1)) (f + 1) t' (zstx t').length d = A := by
                obtain ⟨m, hm⟩ : ∃ m, zN2 T 40 - f = m + 1 := ⟨zN2 T 40 - f - 1, by omega⟩
                rw [hm, zwro, if_pos ⟨rfl, c41, by omega⟩] at A3
                rw [show zN2 T 40 - (f + 1) = m by omega, show (d : Int) = ((d + 1 : Nat) : Int) - 1 by omega]
                exact A3
              have c40 : zat T p = 40 := by omega
              refine hok' f t' v μ4 (((q g2).trans g3).trans (q g4)) hd3 c40 f0 hfl c41 p4 A4 w3 v3 ?_
              refine ((zflg.no g2 (fun k k0 k1 => ?_)).trans fl3 (Nat.le_succ _) f0).trans (zflg.no g4 (fun k k0 k1 => ?_)) (by omega) (Nat.le_succ _)
              · rw [show k = p by omega, c40]; decide
              · rw [show k = f by omega, c41]; decide
            · refine hbad' v μ4 (((q g2).trans g3).trans (q g4)) ?_
              have hAa : A = f := by
                by_cases y : f < zN2 T 40
                · rw [y1 y] at hb
                  have l0 : (zstx (zsf (zat T f))).length = 0 := by
                    by_cases y3 : 0 < (zstx (zsf (zat T f))).length
                    · exact absurd (zsf_at _ y3) (s3 y)
                    · omega
                  obtain ⟨m, hm⟩ : ∃ m, zN2 T 40 - f = m + 1 := ⟨zN2 T 40 - f - 1, by omega⟩
                  rw [← A3, hm, zwro, if_neg (by omega), if_pos rfl, zfor3_1, if_pos (Or.inl l0)]
                · have ea : f = zN2 T 40 := by omega
                  rw [← A3, ea]; exact zwro_e (by decide) (Or.inr (by omega))
              exact ⟨f, by omega, by rw [hAa]; exact p4, by omega, by omega⟩
        · exact ⟨0, by omega, kX11_readStepsB b2 fun v => kX11_needB b2 hT (by decide) (by decide) (by decide) (hbad' v μ2 (q g2) b2)⟩
      · rw [hp1.2.2.1]
        refine kX11_fault hp1 (by decide) fun μ2 g2 p2 => ?_
        rw [if_pos rfl] at p2
        have hAa : A = p := by
          by_cases y : p < zN2 T 40
          · rw [← hA1]; exact zwro_b y (by omega) (by rw [hf]; unfold zcs; omega)
          · have ea : p = zN2 T 40 := by omega
            rw [← hA1, ea]; exact zwro_e (by decide) (Or.inl (by omega))
        have b2 : zBad μ2 T 40 A := ⟨p, by omega, by rw [hAa]; exact p2, by omega, by omega⟩
        exact kX11_needB b2 hT (by decide) (by decide) (by decide) ⟨0, by omega, kX11_readStepsB b2 fun v => kX11_needB b2 hT (by decide) (by decide) (by decide) (hbad' v μ2 (q g2) b2)⟩
    -- one step
    have step : ∀ {dd' : Nat} {μ1 : zM} {F' : Int → zM → Prop}, 3 * (3 - d) + 2 ≤ dd' → zPs μ1 T 40 ((a + 1 : Nat) : Int) (-1) → zi μ1 154 613 = L → (∀ v μ', zsm zPq μ1 μ' → zBad μ' T 40 A → F' v μ') → (∀ (f t' : Nat) (v : Int) (μ' : zM), zsm zPq μ1 μ' → a < f → f ≤ zN2 T 40 → zPs μ' T 40 f (-1) → zwro T 1 40 (zN2 T 40 - f) f t' (zstx t').length d = A → zpce (zsT T lim) L d a f v → zflg μ1 μ' T a f → F' v μ') → qX11_readStep G dd' (zat T a) d μ1 F' := by
      intro dd' μ1 F' hdd' hp1 hL1 hbad' hok'
      have simple : ∀ f : Nat, (f : Int) = a + zwd (zat T a) → ¬ zaro (zat T a) → zat T a ≠ 112 → zfok (zat T a) (zf1 (zsT T lim) 0 a) (zf2 (zsT T lim) 0 a) → zpce (zsT T lim) L d a f 1 := fun f hf ca c2 hfk => by
        have := zpce_s (S := zsT T lim) (L := L) (d := d) (a := a) (e := f) (by rw [e0]; exact hk) (by rw [e0]; exact hfk) (by rw [e0]; exact ca) (by rw [e0]; exact hf)
        rw [e0, if_neg c2] at this
        exact this
      have round : ∀ (p f : Nat) (v : Int), (p : Int) = a + zqp (zat T a) → zaro (zat T a) → zfok (zat T a) (zf1 (zsT T lim) 0 a) (zf2 (zsT T lim) 0 a) → d < 3 → zat T p = 40 → p + 1 ≤ f → f < zN2 T 40 → zat T f = 41 → zWF (zsT T lim) (f - (p + 1) + 1) (3 - (d + 1)) 0 ((p + 1 : Nat) : Int) f → v = zlgo (zsT T lim) L 0 (f - (p + 1) + 1) ((p + 1 : Nat) : Int) f → zpce (zsT T lim) L d a (f + 1) (1 + zmul (zat T a) (zf1 (zsT T lim) 0 a) * v) := fun p f v hp ca hfk hd3 c40 l1 l2 c41 hw hv => by
        have := zpce_b (S := zsT T lim) (L := L) (d := d) (a := a) (e1 := f) (k1 := p + 1) (v := v) hd3 (by rw [e0]; exact hk) (by rw [e0]; exact hfk) (by rw [e0]; exact ca) (by rw [e0, show zba 0 + (a : Int) + zqp (zat T a) = zba 0 + (p : Int) by omega, zsT_at (by omega) (by omega)]; exact c40) (by rw [e0]; omega) hw (by rw [zsT_at (by omega) (by omega)]; exact c41) (by omega) hv
        rw [e0] at this
        exact this
      have b1 : zsT T lim (zba 0 + a + 1) = zat T ((a + 1 : Nat) : Int) := by rw [show zba 0 + (a : Int) + 1 = zba 0 + ((a + 1 : Nat) : Int) by omega]; exact zsT_at (by omega) (by omega)
      have i1 : ((a + 1 : Nat) : Int) = (a : Int) + 1 := by omega
      have i2 : ((a + 1 + 1 : Nat) : Int) = (a : Int) + 2 := by omega
      have nk : ∀ {c : Int}, 0 ≤ zik c → c ≠ 112 := fun h => by have := zik_br h; omega
      refine eX11_readStep fun J' C' => rX11_readStep_e C' _ _ ⟨by constructor <;> omega, fun z => ?_, fun z => ?_, fun z => ?_, fun z => ?_, fun z => ?_, fun z => ?_, fun z => ?_, fun z => ?_, fun z => ?_, fun z => ?_, fun z => ?_⟩
      · have ez : zsf (zat T a) = 5 := by rcases z with z | z | z <;> rw [z] <;> rfl
        have ew : zwd (zat T a) = 3 := by rcases z with z | z | z <;> rw [z] <;> rfl
        rw [ez] at A1
        refine kX11_readInkA (a := a + 1) hp1 hT (by omega) A1 (by decide) rfl (fun l1 k1 μ2 g2 p2 A2 => ?_) (fun μ2 g2 bb => kX11_oneOfB bb hT (by decide) (by decide) (by decide) (by decide) (hbad' _ μ2 (q g2) bb))
        refine kX11_digA (a := a + 1 + 1) p2 hT (by decide) (by omega) A2 (by decide) (by decide) rfl (fun l2 c1 c2 μ3 g3 p3 A3 => ?_) (fun μ3 g3 bb => hbad' _ μ3 (q (g2.trans g3)) bb)
        refine hok' (a + 1 + 1 + 1) 5 1 μ3 (q (g2.trans g3)) (by omega) (by omega) p3 A3 (simple _ (by omega) (by unfold zaro; omega) (by omega) (zfok_k hlim (d := d) (by omega) hk (fun _ _ => by rw [ez, ← i1]; unfold zcs; rw [show zfch 5 1 = 107 from rfl]; omega) (fun _ _ => by rw [ez, ← i2]; exact zcs_d (m := 9) (by decide) ⟨c1, c2⟩))) (zflg.no (g2.trans g3) (fun k k0 k1' => ?_))
        rcases (show k = a ∨ k = a + 1 ∨ k = a + 1 + 1 by omega) with y | y | y <;> rw [y]
        · omega
        · exact nk k1
        · omega
      · have ez : zsf (zat T a) = 3 := by rw [z]; rfl
        have ew : zwd (zat T a) = 2 := by rw [z]; rfl
        rw [ez] at A1
        refine kX11_digA (a := a + 1) hp1 hT (by decide) (by omega) A1 (by decide) (by decide) rfl (fun l2 c1 c2 μ3 g3 p3 A3 => ?_) (fun μ3 g3 bb => hbad' _ μ3 (q g3) bb)
        refine hok' (a + 1 + 1) 3 1 μ3 (q g3) (by omega) (by omega) p3 A3 (simple _ (by omega) (by unfold zaro; omega) (by omega) (zfok_k hlim (d := d) (by omega) hk (fun _ _ => by rw [ez, ← i1]; exact zcs_d (m := 5) (by decide) ⟨c1, c2⟩) (fun y _ => by rw [ez] at y; exact absurd y (by decide)))) (zflg.no g3 (fun k k0 k1' => ?_))
        rcases (show k = a ∨ k = a + 1 by omega) with y | y <;> rw [y] <;> omega
      · have ez : zsf (zat T a) = 6 := by rw [z]; rfl
        have ew : zwd (zat T a) = 2 := by rw [z]; rfl
        rw [ez] at A1
        refine kX11_readInkA (a := a + 1) hp1 hT (by omega) A1 (by decide) rfl (fun l1 k1 μ2 g2 p2 A2 => ?_) (fun μ2 g2 bb => hbad' _ μ2 (q g2) bb)
        refine hok' (a + 1 + 1) 6 1 μ2 (q g2) (by omega) (by omega) p2 A2 (simple _ (by omega) (by unfold zaro; omega) (by omega) (zfok_k hlim (d := d) (by omega) hk (fun _ _ => by rw [ez, ← i1]; unfold zcs; rw [show zfch 6 1 = 107 from rfl]; omega) (fun y _ => by rw [ez] at y; exact absurd y (by decide)))) (zflg.no g2 (fun k k0 k1' => ?_))
        rcases (show k = a ∨ k = a + 1 by omega) with y | y <;> rw [y]
        · omega
        · exact nk k1
      · have ez : zsf (zat T a) = 10 := by rw [z]; rfl
        have ew : zqp (zat T a) = 3 := by rw [z]; rfl
        rw [ez] at A1
        refine kX11_readInkA (a := a + 1) hp1 hT (by omega) A1 (by decide) rfl (fun l1 k1 μ2 g2 p2 A2 => ?_) (fun μ2 g2 bb => kX11_oneOfB bb hT (by decide) (by decide) (by decide) (by decide) ⟨dd' - 1, by omega, kX11_readWithinB (by omega) bb hT (by constructor <;> omega) (fun v μ3 g3 b3 => hbad' _ μ3 (q (g2.trans g3)) b3)⟩)
        refine kX11_digA (a := a + 1 + 1) p2 hT (by decide) (by omega) A2 (by decide) (by decide) rfl (fun l2 c1 c2 μ3 g3 p3 A3 => ?_) (fun μ3 g3 bb => ⟨dd' - 1, by omega, kX11_readWithinB (by omega) bb hT (by constructor <;> omega) (fun v μ4 g4 b4 => hbad' _ μ4 (q ((g2.trans g3).trans g4)) b4)⟩)
        refine ⟨dd' - 1, by omega, within (a + 1 + 1 + 1) (by omega) (by omega) (by omega) p3 (by rw [g3.1 _ _ (by omega), g2.1 _ _ (by omega)]; exact hL1) A3 (by decide) rfl (fun v μ4 g4 b4 => hbad' _ μ4 ((q (g2.trans g3)).trans g4) b4) (fun f t' v μ4 g4 hd3 c40 f0 f1 c41 p4 A4 w4 v4 fl4 => ?_)⟩
        have hr := round (a + 1 + 1 + 1) f v (by omega) (by unfold zaro; omega) (zfok_k hlim (d := d) (by omega) hk (fun _ _ => by rw [ez, ← i1]; unfold zcs; rw [show zfch 10 1 = 107 from rfl]; omega) (fun _ _ => by rw [ez, ← i2]; exact zcs_d (m := 9) (by decide) ⟨c1, c2⟩)) hd3 c40 f0 f1 c41 w4 v4
        rw [show zmul (zat T a) (zf1 (zsT T lim) 0 a) = 1 by unfold zmul; rw [if_neg (by omega), if_neg (by omega)], Int.one_mul] at hr
        refine hok' (f + 1) t' (1 + v) μ4 ((q (g2.trans g3)).trans g4) (by omega) (by omega) p4 A4 hr ((zflg.no (g2.trans g3) (fun k k0 k1' => ?_)).trans fl4 (by omega) (by omega))
        rcases (show k = a ∨ k = a + 1 ∨ k = a + 1 + 1 by omega) with y | y | y <;> rw [y]
        · omega
        · exact nk k1
        · omega
      · have ez : zsf (zat T a) = 2 := by rcases z with z | z <;> rw [z] <;> rfl
        have ew : zwd (zat T a) = 1 := by rcases z with z | z <;> rw [z] <;> rfl
        rw [ez] at A1
        refine hok' (a + 1) 2 1 μ1 (zsm.refl _ _) (by omega) (by omega) hp1 A1 (simple _ (by omega) (by unfold zaro; omega) (by omega) (zfok_k hlim (d := d) (by omega) hk (fun y _ => by rw [ez] at y; exact absurd y (by decide)) (fun y _ => by rw [ez] at y; exact absurd y (by decide)))) (zflg.no (zsm.refl _ _) (fun k k0 k1' => ?_))
        rw [show k = a by omega]; omega
      · have ez : zsf (zat T a) = 8 := by rw [z]; rfl
        have ew : zqp (zat T a) = 2 := by rw [z]; rfl
        rw [ez] at A1
        refine kX11_digA (a := a + 1) hp1 hT (by decide) (by omega) A1 (by decide) (by decide) rfl (fun l2 c1 c2 μ3 g3 p3 A3 => ?_) (fun μ3 g3 bb => ⟨dd' - 1, by omega, kX11_readWithinB (by omega) bb hT (by constructor <;> omega) (fun v μ4 g4 b4 => hbad' _ μ4 (q (g3.trans g4)) b4)⟩)
        refine ⟨dd' - 1, by omega, within (a + 1 + 1) (by omega) (by omega) (by omega) p3 (by rw [g3.1 _ _ (by omega)]; exact hL1) A3 (by decide) rfl (fun v μ4 g4 b4 => hbad' _ μ4 ((q g3).trans g4) b4) (fun f t' v μ4 g4 hd3 c40 f0 f1 c41 p4 A4 w4 v4 fl4 => ?_)⟩
        have hr := round (a + 1 + 1) f v (by omega) (by unfold zaro; omega) (zfok_k hlim (d := d) (by omega) hk (fun _ _ => by rw [ez, ← i1]; exact zcs_d (m := 10) (by decide) ⟨c1, c2⟩) (fun _ y => by rw [ez] at y; exact absurd rfl y)) hd3 c40 f0 f1 c41 w4 v4
        rw [show zmul (zat T a) (zf1 (zsT T lim) 0 a) = zat T ((a + 1 : Nat) : Int) - 48 by unfold zmul zf1; rw [if_pos z, e0, b1, if_neg (by omega), if_pos (by omega)]] at hr
        refine hok' (f + 1) t' _ μ4 ((q g3).trans g4) (by omega) (by omega) p4 A4 hr ((zflg.no g3 (fun k k0 k1' => ?_)).trans fl4 (by omega) (by omega))
        rcases (show k = a ∨ k = a + 1 by omega) with y | y <;> rw [y] <;> omega
      · have ez : zsf (zat T a) = 9 := by rw [z]; rfl
        have ew : zqp (zat T a) = 2 := by rw [z]; rfl
        rw [ez] at A1
        refine kX11_readInkA (a := a + 1) hp1 hT (by omega) A1 (by decide) rfl (fun l1 k1 μ2 g2 p2 A2 => ?_) (fun μ2 g2 bb => ⟨dd' - 1, by omega, kX11_readWithinB (by omega) bb hT (by constructor <;> omega) (fun v μ3 g3 b3 => hbad' _ μ3 (q (g2.trans g3)) b3)⟩)
        refine ⟨dd' - 1, by omega, within (a + 1 + 1) (by omega) (by omega) (by omega) p2 (by rw [g2.1 _ _ (by omega)]; exact hL1) A2 (by decide) rfl (fun v μ4 g4 b4 => hbad' _ μ4 ((q g2).trans g4) b4) (fun f t' v μ4 g4 hd3 c40 f0 f1 c41 p4 A4 w4 v4 fl4 => ?_)⟩
        have hr := round (a + 1 + 1) f v (by omega) (by unfold zaro; omega) (zfok_k hlim (d := d) (by omega) hk (fun _ _ => by rw [ez, ← i1]; unfold zcs; rw [show zfch 9 1 = 107 from rfl]; omega) (fun _ y => by rw [ez] at y; exact absurd rfl y)) hd3 c40 f0 f1 c41 w4 v4
        rw [show zmul (zat T a) (zf1 (zsT T lim) 0 a) = 8 by unfold zmul; rw [if_neg (by omega), if_pos z]] at hr
        refine hok' (f + 1) t' _ μ4 ((q g2).trans g4) (by omega) (by omega) p4 A4 hr ((zflg.no g2 (fun k k0 k1' => ?_)).trans fl4 (by omega) (by omega))
        rcases (show k = a ∨ k = a + 1 by omega) with y | y <;> rw [y]
        · omega
        · exact nk k1
      · have ez : zsf (zat T a) = 2 := by rw [z]; rfl
        have ew : zwd (zat T a) = 1 := by rw [z]; rfl
        rw [ez] at A1
        have hfk : zfok (zat T a) (zf1 (zsT T lim) 0 a) (zf2 (zsT T lim) 0 a) := zfok_k hlim (d := d) (by omega) hk (fun y _ => by rw [ez] at y; exact absurd y (by decide)) (fun y _ => by rw [ez] at y; exact absurd y (by decide))
        have hpc := zpce_s (S := zsT T lim) (L := L) (d := d) (a := a) (e := a + 1) (by rw [e0]; exact hk) (by rw [e0]; exact hfk) (by rw [e0]; unfold zaro; omega) (by rw [e0]; omega)
        rw [e0, if_pos z] at hpc
        have g2 : zsm zPq μ1 (zup μ1 153 11 1) := (zsm.refl _ _).up _ (by decide)
        rw [zi_off (by decide), hL1]
        refine hok' (a + 1) 2 L _ g2 (by omega) (by omega) ⟨by rw [zi_off (by decide)]; exact hp1.1, by rw [zi_off (by decide)]; exact hp1.2.1, by rw [zi_off (by decide)]; exact hp1.2.2.1, by rw [zi_off (by decide)]; exact hp1.2.2.2.1, fun k hk => by rw [zi_off (by omega)]; exact hp1.2.2.2.2 k hk⟩ A1 hpc (Or.inl ⟨zi_at, a, Nat.le_refl _, by omega, z⟩)
      · have ez : zsf (zat T a) = 4 := by rw [z]; rfl
        have ew : zwd (zat T a) = 2 := by rw [z]; rfl
        rw [ez] at A1
        refine kX11_digA (a := a + 1) hp1 hT (by decide) (by omega) A1 (by decide) (by decide) rfl (fun l2 c1 c2 μ3 g3 p3 A3 => ?_) (fun μ3 g3 bb => hbad' _ μ3 (q g3) bb)
        refine hok' (a + 1 + 1) 4 1 μ3 (q g3) (by omega) (by omega) p3 A3 (simple _ (by omega) (by unfold zaro; omega) (by omega) (zfok_k hlim (d := d) (by omega) hk (fun _ _ => by rw [ez, ← i1]; exact zcs_d (m := 9) (by decide) ⟨c1, c2⟩) (fun y _ => by rw [ez] at y; exact absurd y (by decide)))) (zflg.no g3 (fun k k0 k1' => ?_))
        rcases (show k = a ∨ k = a + 1 by omega) with y | y <;> rw [y] <;> omega
      · have ez : zsf (zat T a) = 7 := by rw [z]; rfl
        have ew : zwd (zat T a) = 3 := by rw [z]; rfl
        rw [ez] at A1
        refine kX11_readInkA (a := a + 1) hp1 hT (by omega) A1 (by decide) rfl (fun l1 k1 μ2 g2 p2 A2 => ?_) (fun μ2 g2 bb => kX11_readInkB bb (hbad' _ μ2 (q g2) bb))
        refine kX11_readInkA (a := a + 1 + 1) p2 hT (by omega) A2 (by decide) rfl (fun l2 k2 μ3 g3 p3 A3 => ?_) (fun μ3 g3 bb => hbad' _ μ3 (q (g2.trans g3)) bb)
        refine hok' (a + 1 + 1 + 1) 7 1 μ3 (q (g2.trans g3)) (by omega) (by omega) p3 A3 (simple _ (by omega) (by unfold zaro; omega) (by omega) (zfok_k hlim (d := d) (by omega) hk (fun _ _ => by rw [ez, ← i1]; unfold zcs; rw [show zfch 7 1 = 107 from rfl]; omega) (fun _ _ => by rw [ez, ← i2]; unfold zcs; rw [show zfch 7 2 = 107 from rfl]; omega))) (zflg.no (g2.trans g3) (fun k k0 k1' => ?_))
        rcases (show k = a ∨ k = a + 1 ∨ k = a + 1 + 1 by omega) with y | y | y <;> rw [y]
        · omega
        · exact nk k1
        · exact nk k2
      · have z : zat T a = 106 := by unfold zkin zaro at hk; omega
        have ez : zsf (zat T a) = 11 := by rw [z]; rfl
        have ew : zqp (zat T a) = 3 := by rw [z]; rfl
        rw [ez] at A1
        refine kX11_readInkA (a := a + 1) hp1 hT (by omega) A1 (by decide) rfl (fun l1 k1 μ2 g2 p2 A2 => ?_) (fun μ2 g2 bb => kX11_readInkB bb ⟨dd' - 1, by omega, kX11_readWithinB (by omega) bb hT (by constructor <;> omega) (fun v μ3 g3 b3 => hbad' _ μ3 (q (g2.trans g3)) b3)⟩)
        refine kX11_readInkA (a := a + 1 + 1) p2 hT (by omega) A2 (by decide) rfl (fun l2 k2 μ3 g3 p3 A3 => ?_) (fun μ3 g3 bb => ⟨dd' - 1, by omega, kX11_readWithinB (by omega) bb hT (by constructor <;> omega) (fun v μ4 g4 b4 => hbad' _ μ4 (q ((g2.trans g3).trans g4)) b4)⟩)
        refine ⟨dd' - 1, by omega, within (a + 1 + 1 + 1) (by omega) (by omega) (by omega) p3 (by rw [g3.1 _ _ (by omega), g2.1 _ _ (by omega)]; exact hL1) A3 (by decide) rfl (fun v μ4 g4 b4 => hbad' _ μ4 ((q (g2.trans g3)).trans g4) b4) (fun f t' v μ4 g4 hd3 c40 f0 f1 c41 p4 A4 w4 v4 fl4 => ?_)⟩
        have hr := round (a + 1 + 1 + 1) f v (by omega) (by unfold zaro; omega) (zfok_k hlim (d := d) (by omega) hk (fun _ _ => by rw [ez, ← i1]; unfold zcs; rw [show zfch 11 1 = 107 from rfl]; omega) (fun _ _ => by rw [ez, ← i2]; unfold zcs; rw [show zfch 11 2 = 107 from rfl]; omega)) hd3 c40 f0 f1 c41 w4 v4
        rw [show zmul (zat T a) (zf1 (zsT T lim) 0 a) = 1 by unfold zmul; rw [if_neg (by omega), if_neg (by omega)], Int.one_mul] at hr
        refine hok' (f + 1) t' (1 + v) μ4 ((q (g2.trans g3)).trans g4) (by omega) (by omega) p4 A4 hr ((zflg.no (g2.trans g3) (fun k k0 k1' => ?_)).trans fl4 (by omega) (by omega))
        rcases (show k = a ∨ k = a + 1 ∨ k = a + 1 + 1 by omega) with y | y | y <;> rw [y]
        · omega
        · exact nk k1
        · exact nk k2
    refine rX11_readSteps_2 C _ _ (kX11_fine hp (by decide) (fun _ => ⟨by decide, fun z => absurd z (by decide), fun _ => ?_⟩) (fun z => absurd rfl z))
    refine kX11_here hp hT (by omega) (by omega) (by decide) ?_
    rw [e1 hlt]
    refine kX11_isStep (by constructor <;> omega) (fun _ => ⟨by decide, fun z => absurd z (by decide), fun _ => ?_⟩) (fun z => absurd hk z)
    refine kX11_here hp hT (by omega) (by omega) (by decide) ?_
    rw [e1 hlt, hp.2.2.1]
    have g0 : zsm zPq μ (zup μ 153 8 ((a : Int) + 1)) := (zsm.refl _ _).up _ (by decide)
    have g0p : zsm zPp μ (zup μ 153 8 ((a : Int) + 1)) := (zsm.refl _ _).up _ (by decide)
    have p0 : zPs (zup μ 153 8 ((a : Int) + 1)) T 40 ((a + 1 : Nat) : Int) (-1) := ⟨by rw [zi_off (by decide)]; exact hp.1, by rw [zi_off (by decide)]; exact hp.2.1, by rw [zi_at]; omega, by rw [zi_off (by decide)]; exact hp.2.2.2.1, fun k hk => by rw [zi_off (by omega)]; exact hp.2.2.2.2 k hk⟩
    refine ⟨dd - 1, by omega, step (by omega) p0 (by rw [zi_off (by decide)]; exact hL) (fun v μ2 g2 b2 => ?_) (fun f t' v μ2 g2 f0 f1 p2 A2 pc2 fl2 => ?_)⟩
    · exact rX11_readSteps_2 C _ _ (kX11_fineB b2 ⟨by decide, fun _ => hbad _ μ2 (g0.trans g2) b2, fun z => absurd rfl z⟩)
    · refine ih C hd hdd (by omega) f1 p2 (by rw [g2.1 _ _ (by omega), zi_off (by decide)]; exact hL) A2 (fun v μ3 g3 b3 => hbad v μ3 ((g0.trans g2).trans g3) b3) (fun f2 t2 v2 μ3 g3 q0 q1 p3 A3 s3 w3 v3 fl3 => ?_)
      obtain ⟨w4, v4⟩ := pc2 f2 q0 w3
      have fl2' : zflg μ μ2 T a f := by
        rcases fl2 with ⟨y1, y2⟩ | ⟨y1, y2⟩
        · exact Or.inl ⟨y1, y2⟩
        · exact Or.inr ⟨by rw [y1, zi_off (by decide)], y2⟩
      have := hok f2 t2 (v + v2) μ3 ((g0.trans g2).trans g3) (by omega) q1 p3 A3 s3 w4 (by rw [v4, v3]) (fl2'.trans fl3 (by omega) q0)
      rw [Int.add_assoc]
      exact this
end
