/-! the reference reads an act -/
section
variable {G : zG} {μ μ' : zM} {T : List Int} {tl most A d : Int} {a t j : Nat}
theorem kX11_oneA {F : Int → zM → Prop} (hp : zPs μ T most a (-1)) (hT : zTv T) (hm : 0 ≤ most ∧ most ≤ 80) (ha : a ≤ zN2 T most) (hA : zwro T tl most (zN2 T most - a) a t j d = A) (hj : j < (zstx t).length) {f m : Int} (hf : 0 ≤ f) (hm1 : 1 ≤ m) (hfm : f + m ≤ 128) (hcs : ∀ c, zcs c (zfch t j) d ↔ f ≤ c ∧ c < f + m) (hok : a < zN2 T most → f ≤ zat T a → zat T a < f + m → ∀ μ', zsm zPp μ μ' → zPs μ' T most ((a : Int) + 1) (-1) → zwro T tl most (zN2 T most - (a + 1)) (a + 1) t (j + 1) (if zfch t j = 40 then d + 1 else d) = A → F (zat T a - f) μ') (hbad : ∀ μ', zsm zPp μ μ' → zBad μ' T most A → F 0 μ') : qX11_oneOf G f m μ F := by
  have hN := zN2_le (most := most) hT
  have hs := zN2_s T hm.1
  obtain ⟨e1, e2⟩ := zher_in (T := T) (a := a) hm.1
  have hcs := hcs (zat T a)
  refine kX11_oneOf hp (by decide) hT (by omega) (by omega) (by constructor <;> omega) hf hm1 hfm (fun z => absurd rfl z) (fun _ hb μ1 g1 p1 => ?_) (fun _ hb μ1 g1 p1 => ?_)
  · have hlt : a < zN2 T most := by
      by_cases z : a < zN2 T most
      · exact z
      · rw [e2 z] at hb; omega
    rw [e1 hlt] at hb
    have := zwro_m (tl := tl) hlt hj (hcs.2 hb)
    rw [hA] at this
    exact hok hlt hb.1 hb.2 μ1 g1 p1 this.symm
  · have hAa : A = a := by
      by_cases z : a < zN2 T most
      · rw [e1 z] at hb
        rw [← hA]; exact zwro_b z hj (fun w => hb (hcs.1 w))
      · have ea : a = zN2 T most := by omega
        rw [← hA, ea]; exact zwro_e hm.1 (Or.inl hj)
    refine hbad μ1 g1 ⟨a, by omega, by rw [hAa]; exact p1, by omega, by omega⟩
/-- three numbers of two digits, into a row -/
theorem z3twoB {J' : Int → zM → Prop} {f : Int → Int} {y : Int} (hT : zTv T) (ht : zin most) (hy : 0 ≤ y ∧ y + 2 < 400) (step : ∀ k μ1, 0 ≤ k → k < 3 → qX11_twoDigits G μ1 (fun v μ2 => (0 ≤ y + k ∧ y + k < 400) ∧ J' (k + 1) (zup μ2 178 (y + k) (f v))) → J' k μ1) (hbad : ∀ μ', zsm (fun b j => zPp b j ∨ b = 178) μ μ' → zBad μ' T most A → J' 3 μ') : ∀ (n : Nat) (k : Int) (μ1 : zM), (n : Int) = 3 - k → 0 ≤ k → k ≤ 3 → zsm (fun b j => zPp b j ∨ b = 178) μ μ1 → zBad μ1 T most A → J' k μ1
  | 0, k, μ1, hn, k0, k1, g1, b1 => by rw [show k = 3 by omega]; exact hbad μ1 g1 b1
  | n + 1, k, μ1, hn, k0, k1, g1, b1 => step k μ1 k0 (by omega) (kX11_twoB b1 hT ht fun v => ⟨by omega, z3twoB hT ht hy step hbad n (k + 1) _ (by omega) (by omega) (by omega) (g1.up _ (Or.inr rfl)) (b1.sm ((zsm.refl (fun b _ => b = 178) _).up _ rfl) (fun j hj => by omega) (fun j => by omega))⟩)
theorem z3two {J' : Int → zM → Prop} {f : Int → Int} {y : Int} (hp : zPs μ T most a (-1)) (hT : zTv T) (hm : 0 ≤ most ∧ most ≤ 80) (ha : a ≤ zN2 T most) (hA : zwro T tl most (zN2 T most - a) a t j d = A) (hj : j + 6 ≤ (zstx t).length) (h9 : ∀ k : Nat, k < 6 → zfch t (j + k) = 57) (hy : 0 ≤ y ∧ y + 2 < 400) (step : ∀ k μ1, 0 ≤ k → k < 3 → qX11_twoDigits G μ1 (fun v μ2 => (0 ≤ y + k ∧ y + k < 400) ∧ J' (k + 1) (zup μ2 178 (y + k) (f v))) → J' k μ1) (hbad : ∀ μ', zsm (fun b j => zPp b j ∨ b = 178) μ μ' → zBad μ' T most A → J' 3 μ') (hok : a + 6 ≤ zN2 T most → ∀ μ', zsm (fun b j => zPp b j ∨ (b = 178 ∧ y ≤ j)) μ μ' → zPs μ' T most ((a : Int) + 6) (-1) → zwro T tl most (zN2 T most - (a + 6)) (a + 6) t (j + 6) d = A → zi μ' 178 y = f (ztwo T a) → zi μ' 178 (y + 1) = f (ztwo T ((a : Int) + 2)) → zi μ' 178 (y + 2) = f (ztwo T ((a : Int) + 4)) → J' 3 μ') : J' 0 μ := by
  have ht : zin most := by constructor <;> omega
  have u178 : ∀ (μ1 : zM) (i v w : Int) (c : Int), zPs μ1 T most c w → zPs (zup μ1 178 i v) T most c w := fun μ1 i v w c h => h.sm ((zsm.refl (fun b _ => b = 178) _).up _ rfl) (fun j hj => by omega) (fun j => by omega)
  have b178 : ∀ (μ1 : zM) (i v : Int), zBad μ1 T most A → zBad (zup μ1 178 i v) T most A := fun μ1 i v h => h.sm ((zsm.refl (fun b _ => b = 178) _).up _ rfl) (fun j hj => by omega) (fun j => by omega)
  have pb : ∀ {μ1 μ2 : zM}, zsm zPp μ1 μ2 → zsm (fun b j => zPp b j ∨ b = 178) μ1 μ2 := fun g => g.mono (fun b j => Or.inl)
  have pg : ∀ {μ1 μ2 : zM}, zsm zPp μ1 μ2 → zsm (fun b j => zPp b j ∨ (b = 178 ∧ y ≤ j)) μ1 μ2 := fun g => g.mono (fun b j => Or.inl)
  have bad := z3twoB (G := G) (μ := μ) (A := A) hT ht hy step hbad
  refine step 0 μ (by decide) (by decide) (kX11_twoA hp hT hm ha hA (by omega) (h9 0 (by decide)) (h9 1 (by decide)) (fun l2 c3 c4 μ2 g2 p2 A2 => ⟨by omega, ?_⟩) (fun v μ2 g2 b2 => ⟨by omega, bad 2 (0 + 1) _ (by decide) (by decide) (by decide) ((pb g2).up _ (Or.inr rfl)) (b178 _ _ _ b2)⟩))
  refine step (0 + 1) _ (by decide) (by decide) (kX11_twoA (a := a + 2) (u178 _ _ _ _ _ p2) hT hm l2 A2 (by omega) (h9 2 (by decide)) (h9 3 (by decide)) (fun l3 c5 c6 μ3 g3 p3 A3 => ⟨by omega, ?_⟩) (fun v μ3 g3 b3 => ⟨by omega, bad 1 (0 + 1 + 1) _ (by decide) (by decide) (by decide) ((((pb g2).up _ (Or.inr rfl)).trans (pb g3)).up _ (Or.inr rfl)) (b178 _ _ _ b3)⟩))
  refine step (0 + 1 + 1) _ (by decide) (by decide) (kX11_twoA (a := a + 2 + 2) (u178 _ _ _ _ _ p3) hT hm l3 A3 (by omega) (h9 4 (by decide)) (h9 5 (by decide)) (fun l4 c7 c8 μ4 g4 p4 A4 => ⟨by omega, ?_⟩) (fun v μ4 g4 b4 => ⟨by omega, bad 0 (0 + 1 + 1 + 1) _ (by decide) (by decide) (by decide) ((((((pb g2).up _ (Or.inr rfl)).trans (pb g3)).up _ (Or.inr rfl)).trans (pb g4)).up _ (Or.inr rfl)) (b178 _ _ _ b4)⟩))
  have e2 : ((a + 2 : Nat) : Int) = (a : Int) + 2 := by omega
  have e3 : ((a + 2 + 2 : Nat) : Int) = (a : Int) + 4 := by omega
  rw [e3] at p4
  rw [e3]
  refine hok (by omega) _ ((((((pg g2).up _ (Or.inr ⟨rfl, by omega⟩)).trans (pg g3)).up _ (Or.inr ⟨rfl, by omega⟩)).trans (pg g4)).up _ (Or.inr ⟨rfl, by omega⟩)) (u178 _ _ _ _ _ (by rw [show (a : Int) + 6 = a + 4 + 2 by omega]; exact p4)) A4 ?_ ?_ ?_
  · rw [zi_off (by omega), g4.1 _ _ (by omega), zi_off (by omega), g3.1 _ _ (by omega), show y + 0 = y by omega, zi_at]
  · rw [zi_off (by omega), g4.1 _ _ (by omega), show y + (0 + 1) = y + 1 by omega, zi_at, e2]
  · rw [show y + (0 + 1 + 1) = y + 2 by omega, zi_at]
theorem kX11_readActA {F : zM → Prop} (hp : zPs μ T most a (-1)) (hT : zTv T) (hm : 0 ≤ most ∧ most ≤ 80) (ha0 : a ≤ zN2 T most) (haT : a < T.length) {t0 : Nat} (hA : zwro T 2 most (zN2 T most - a) a t0 (zstx t0).length 0 = A) {x : Int} (hx : 0 ≤ x ∧ x + 4 < 400) (hok : a + (zstx (zaf (zat T a))).length ≤ zN2 T most → 0 < (zstx (zaf (zat T a))).length → ∀ μ', zsm (fun b j => zPp b j ∨ (b = 178 ∧ x ≤ j)) μ μ' → zPs μ' T most ((a + (zstx (zaf (zat T a))).length : Nat) : Int) (-1) → zwro T 2 most (zN2 T most - (a + (zstx (zaf (zat T a))).length)) (a + (zstx (zaf (zat T a))).length) (zaf (zat T a)) (zstx (zaf (zat T a))).length 0 = A → zrow5 μ' T a x → F μ') (hbad : ∀ μ', zsm (fun b j => zPp b j ∨ b = 178) μ μ' → zBad μ' T most A → F μ') : qX11_readAct G x μ F := by
  have ht : zin most := by constructor <;> omega
  have hN := zN2_le (most := most) hT
  have hs := zN2_s T hm.1
  have pb : ∀ {μ1 μ2 : zM}, zsm zPp μ1 μ2 → zsm (fun b j => zPp b j ∨ b = 178) μ1 μ2 := fun g => g.mono (fun b j => Or.inl)
  by_cases ha : a < zN2 T most
  case neg =>
    have ea : a = zN2 T most := by omega
    refine eX11_readAct fun J C => rX11_readAct_e C _ (kX11_here hp hT (by omega) (by omega) ht ?_)
    rw [(zher_in hm.1).2 ha]
    refine ⟨by decide, fun z => absurd z (by decide), fun _ => ⟨fun z => absurd z (by decide), fun _ => ⟨fun z => absurd z (by decide), fun _ => ⟨fun z => absurd z (by decide), fun _ => ⟨fun z => absurd z (by decide), fun _ => ⟨fun z => absurd z (by decide), fun _ => ⟨fun z => absurd z (by decide), fun _ => ?_⟩⟩⟩⟩⟩⟩⟩
    rw [hp.2.2.1]
    refine kX11_fault hp (by decide) fun μ1 g1 p1 => hbad μ1 (pb g1) ?_
    rw [if_pos rfl] at p1
    have hAa : A = a := by
      rw [← hA, show zN2 T most - a = 0 by omega, zwro, if_pos (by omega)]; omega
    exact ⟨a, by omega, by rw [hAa]; exact p1, by omega, by omega⟩
  have hr := zat_r hT (i := (a : Int)) (by omega) (by omega)
  have hfor : zfor3 2 (zat T a) = zaf (zat T a) := by unfold zfor3; rw [if_neg (by decide), if_neg (by decide)]
  -- the letter is one
  have go : 0 < (zstx (zaf (zat T a))).length → zwro T 2 most (zN2 T most - (a + 1)) (a + 1) (zaf (zat T a)) 1 0 = A := by
    intro hl
    rw [zwro_s ha (by omega) (by rw [hfor]; exact hl) _ hfor] at hA
    have h42 : zfch (zaf (zat T a)) 0 = 42 := by
      rcases zaf_at _ hl with z | z | z | z | z | z | z <;> rw [z] <;> rfl
    rw [zwro_m ha hl (Or.inl h42), if_neg (by omega)] at hA
    exact hA
  refine eX11_readAct fun J C => ?_
  have u178 : ∀ (μ1 : zM) (i v w : Int) (c : Int), zPs μ1 T most c w → zPs (zup μ1 178 i v) T most c w := fun μ1 i v w c h => h.sm ((zsm.refl (fun b _ => b = 178) _).up _ rfl) (fun j hj => by omega) (fun j => by omega)
  have b178 : ∀ (μ1 : zM) (i v : Int), zBad μ1 T most A → zBad (zup μ1 178 i v) T most A := fun μ1 i v h => h.sm ((zsm.refl (fun b _ => b = 178) _).up _ rfl) (fun j hj => by omega) (fun j => by omega)
  have pg : ∀ {μ1 μ2 : zM}, zsm zPp μ1 μ2 → zsm (fun b j => zPp b j ∨ (b = 178 ∧ x ≤ j)) μ1 μ2 := fun g => g.mono (fun b j => Or.inl)
  have j56 : (zat T a = 101 ∨ zat T a = 102 ∨ zat T a = 103 ∨ zat T a = 108 ∨ zat T a = 109 ∨ zat T a = 116 ∨ zat T a = 119) → J 56 ([some (zR (some 153)), some (zI x), some (zI (zat T a)), none], [], μ, 0, 0) := by
    intro hl
    have hl0 : 0 < (zstx (zaf (zat T a))).length := by rcases hl with z | z | z | z | z | z | z <;> rw [z] <;> decide
    have A1 := go hl0
    have hok := fun l => hok l hl0
    have p0 : zPs (zup (zup μ 153 8 ((zi μ 153 8) + 1)) 178 x (zat T a)) T most ((a + 1 : Nat) : Int) (-1) := by
      refine u178 _ _ _ _ _ ?_
      rw [hp.2.2.1]
      exact ⟨by rw [zi_off (by decide)]; exact hp.1, by rw [zi_off (by decide)]; exact hp.2.1, by rw [zi_at]; omega, by rw [zi_off (by decide)]; exact hp.2.2.2.1, fun k hk => by rw [zi_off (by omega)]; exact hp.2.2.2.2 k hk⟩
    have g0 : zsm (fun b j => zPp b j ∨ (b = 178 ∧ x ≤ j)) μ (zup (zup μ 153 8 ((zi μ 153 8) + 1)) 178 x (zat T a)) := ((zsm.refl _ _).up _ (Or.inl ⟨rfl, Or.inl rfl⟩)).up _ (Or.inr ⟨rfl, by omega⟩)
    have v0 : zi (zup (zup μ 153 8 ((zi μ 153 8) + 1)) 178 x (zat T a)) 178 x = zat T a := zi_at
    refine rX11_readAct_56 C _ _ ⟨by omega, by constructor <;> omega, ?_⟩
    generalize zup (zup μ 153 8 ((zi μ 153 8) + 1)) 178 x (zat T a) = μ0 at *
    have gb : zsm (fun b j => zPp b j ∨ b = 178) μ μ0 := g0.mono (fun b j => by omega)
    have e1 : ((a + 1 : Nat) : Int) = (a : Int) + 1 := by omega
    refine ⟨fun z => ?_, fun z => ?_, fun z => ?_, fun z => ?_, fun z => ?_, fun z => ?_⟩
    · have e : zaf (zat T a) = 13 := by rw [z]; rfl
      rw [e] at A1 hok
      refine kX11_readPatchA (a := a + 1) p0 hT hm (by omega) A1 (by decide) (by decide +kernel) (fun l1 c1 c2 μ1 g1 p1 A2 => ⟨by omega, ?_⟩) (fun v μ1 g1 b1 => ⟨by omega, hbad _ ((gb.trans (pb g1)).up _ (Or.inr rfl)) (b178 _ _ _ b1)⟩)
      refine hok l1 _ ((g0.trans (pg g1)).up _ (Or.inr ⟨rfl, by omega⟩)) (u178 _ _ _ _ _ p1) A2 ⟨by rw [zi_off (by omega), g1.1 _ _ (by omega), v0], fun y => by rw [zi_at, e1], fun y => absurd z (by omega), fun y => absurd z (by omega), fun y => absurd z (by omega), fun y => absurd z (by omega), fun y => absurd z (by omega)⟩
    · have e : zaf (zat T a) = 15 := by rcases z with z | z <;> rw [z] <;> rfl
      rw [e] at A1 hok
      refine kX11_digA (a := a + 1) p0 hT hm (by omega) A1 (by decide) (by decide) rfl (fun l1 c1 c2 μ1 g1 p1 A2 => ⟨by omega, ?_⟩) (fun μ1 g1 b1 => ⟨by omega, hbad _ ((gb.trans (pb g1)).up _ (Or.inr rfl)) (b178 _ _ _ b1)⟩)
      refine hok (by omega : a + 2 ≤ _) _ ((g0.trans (pg g1)).up _ (Or.inr ⟨rfl, by omega⟩)) (u178 _ _ _ _ _ p1) A2 ⟨by rw [zi_off (by omega), g1.1 _ _ (by omega), v0], fun y => absurd z (by omega), fun y => by rw [zi_at, e1], fun y => absurd z (by omega), fun y => absurd z (by omega), fun y => absurd z (by omega), fun y => absurd z (by omega)⟩
    · have e : zaf (zat T a) = 14 := by rw [z]; rfl
      rw [e] at A1 hok
      refine kX11_twoA (a := a + 1) p0 hT hm (by omega) A1 (by decide) rfl rfl (fun l1 c1 c2 μ1 g1 p1 A2 => ⟨by omega, ?_⟩) (fun v μ1 g1 b1 => ⟨by omega, hbad _ ((gb.trans (pb g1)).up _ (Or.inr rfl)) (b178 _ _ _ b1)⟩)
      refine hok (by omega : a + 3 ≤ _) _ ((g0.trans (pg g1)).up _ (Or.inr ⟨rfl, by omega⟩)) (u178 _ _ _ _ _ p1) A2 ⟨by rw [zi_off (by omega), g1.1 _ _ (by omega), v0], fun y => absurd z (by omega), fun y => absurd z (by omega), fun y => by rw [zi_at, e1], fun y => absurd z (by omega), fun y => absurd z (by omega), fun y => absurd z (by omega)⟩
    · have e : zaf (zat T a) = 12 := by rw [z]; rfl
      rw [e] at A1 hok
      have step : ∀ k μ1, 0 ≤ k → k < 3 → qX11_twoDigits G μ1 (fun v μ2 => (0 ≤ x + 2 + k ∧ x + 2 + k < 400) ∧ J 174 ([some (zR (some 153)), some (zI x), none, some (zI (k + 1))], [], zup μ2 178 (x + 2 + k) v, 0, 0)) → J 174 ([some (zR (some 153)), some (zI x), none, some (zI k)], [], μ1, 0, 0) := fun k μ1 k0 k1 h => rX11_readAct_174 C _ _ ⟨by constructor <;> omega, fun z => absurd z (by omega), fun _ => h⟩
      have fin : ∀ μ1, F μ1 → J 174 ([some (zR (some 153)), some (zI x), none, some (zI 3)], [], μ1, 0, 0) := fun μ1 h => rX11_readAct_174 C _ _ ⟨by decide, fun _ => h, fun z => absurd (by decide) z⟩
      refine kX11_readPatchA (a := a + 1) p0 hT hm (by omega) A1 (by decide) (by decide +kernel) (fun l1 c1 c2 μ1 g1 p1 A2 => ⟨by omega, ?_⟩) (fun v μ1 g1 b1 => ⟨by omega, ?_⟩)
      · have g1' := ((pg g1).up (P := fun b j => zPp b j ∨ (b = 178 ∧ x ≤ j)) (zpnum T ((a + 1 : Nat) : Int)) (a := 178) (i := x + 1) (Or.inr ⟨rfl, by omega⟩))
        have g1b := ((pb g1).up (P := fun b j => zPp b j ∨ b = 178) (zpnum T ((a + 1 : Nat) : Int)) (a := 178) (i := x + 1) (Or.inr rfl))
        refine z3two (J' := fun k μ1 => J 174 ([some (zR (some 153)), some (zI x), none, some (zI k)], [], μ1, 0, 0)) (f := fun v => v) (a := a + 1 + 4) (y := x + 2) (u178 _ _ _ _ _ p1) hT hm l1 A2 (by decide) (by decide +kernel) (by omega) step (fun μ2 g2 b2 => fin _ (hbad _ ((gb.trans g1b).trans g2) b2)) (fun l2 μ2 g2 p2 A3 w0 w1 w2 => fin _ ?_)
        rw [show ((a + 1 + 4 : Nat) : Int) = (a : Int) + 5 by omega] at w0 w1 w2
        rw [show x + 2 + 1 = x + 3 by omega, show (a : Int) + 5 + 2 = a + 7 by omega] at w1
        rw [show x + 2 + 2 = x + 4 by omega, show (a : Int) + 5 + 4 = a + 9 by omega] at w2
        refine hok (by omega : a + 11 ≤ _) _ ((g0.trans g1').trans (g2.mono (fun b j => by omega))) p2 A3 ⟨by rw [g2.1 _ _ (by omega), zi_off (by omega), g1.1 _ _ (by omega), v0], fun y => absurd z (by omega), fun y => absurd z (by omega), fun y => absurd z (by omega), fun y => ⟨by rw [g2.1 _ _ (by omega), zi_at, e1], w0, w1, w2⟩, fun y => absurd z (by omega), fun y => absurd z (by omega)⟩
      · exact z3twoB (J' := fun k μ1 => J 174 ([some (zR (some 153)), some (zI x), none, some (zI k)], [], μ1, 0, 0)) (f := fun v => v) (y := x + 2) (μ := μ) (A := A) hT ht (by omega) step (fun μ2 g2 b2 => fin _ (hbad _ g2 b2)) 3 0 _ (by decide) (by decide) (by decide) ((gb.trans (pb g1)).up _ (Or.inr rfl)) (b178 _ _ _ b1)
    · have e : zaf (zat T a) = 16 := by rw [z]; rfl
      rw [e] at A1 hok
      refine kX11_digA (a := a + 1) p0 hT hm (by omega) A1 (by decide) (by decide) rfl (fun l1 c1 c2 μ1 g1 p1 A2 => ⟨by omega, ?_⟩) (fun μ1 g1 b1 => ⟨by omega, ?_⟩)
      · refine kX11_digA (a := a + 1 + 1) (u178 _ _ _ _ _ p1) hT hm (by omega) A2 (by decide) (by decide) rfl (fun l2 c3 c4 μ2 g2 p2 A3 => ⟨by omega, ?_⟩) (fun μ2 g2 b2 => ⟨by omega, hbad _ ((((gb.trans (pb g1)).up _ (Or.inr rfl)).trans (pb g2)).up _ (Or.inr rfl)) (b178 _ _ _ b2)⟩)
        refine hok (by omega : a + 3 ≤ _) _ ((((g0.trans (pg g1)).up _ (Or.inr ⟨rfl, by omega⟩)).trans (pg g2)).up _ (Or.inr ⟨rfl, by omega⟩)) (u178 _ _ _ _ _ p2) A3 ⟨by rw [zi_off (by omega), g2.1 _ _ (by omega), zi_off (by omega), g1.1 _ _ (by omega), v0], fun y => absurd z (by omega), fun y => absurd z (by omega), fun y => absurd z (by omega), fun y => absurd z (by omega), fun y => ⟨by rw [zi_off (by omega), g2.1 _ _ (by omega), zi_at, e1], by rw [zi_at, show ((a + 1 + 1 : Nat) : Int) = (a : Int) + 2 by omega]⟩, fun y => absurd z (by omega)⟩
      · exact kX11_oneOfB (b178 _ _ _ b1) hT ht (by decide) (by decide) (by decide) ⟨by omega, hbad _ (((gb.trans (pb g1)).up _ (Or.inr rfl)).up _ (Or.inr rfl)) (b178 _ _ _ (b178 _ _ _ b1))⟩
    · have z : zat T a = 101 := by omega
      have e : zaf (zat T a) = 17 := by rw [z]; rfl
      rw [e] at A1 hok
      have step : ∀ k μ1, 0 ≤ k → k < 3 → qX11_twoDigits G μ1 (fun v μ2 => (0 ≤ x + 2 + k ∧ x + 2 + k < 400) ∧ J 303 ([some (zR (some 153)), some (zI x), none, some (zI (k + 1))], [], zup μ2 178 (x + 2 + k) (4 * v), 0, 0)) → J 303 ([some (zR (some 153)), some (zI x), none, some (zI k)], [], μ1, 0, 0) := fun k μ1 k0 k1 h => rX11_readAct_303 C _ _ ⟨by constructor <;> omega, fun z => absurd z (by omega), fun _ => h⟩
      have fin : ∀ μ1, F μ1 → J 303 ([some (zR (some 153)), some (zI x), none, some (zI 3)], [], μ1, 0, 0) := fun μ1 h => rX11_readAct_303 C _ _ ⟨by decide, fun _ => h, fun z => absurd (by decide) z⟩
      have h104 : zfch 17 1 = 104 := rfl
      refine kX11_oneA (a := a + 1) p0 hT hm (by omega) A1 (by decide) (by decide) (by decide) (by decide) (fun c => by rw [h104]; unfold zcs; omega) (fun l1 c1 c2 μ1 g1 p1 A2 => ⟨by omega, ?_⟩) (fun μ1 g1 b1 => ⟨by omega, ?_⟩)
      · rw [h104, if_neg (by decide)] at A2
        have g1' := ((pg g1).up (P := fun b j => zPp b j ∨ (b = 178 ∧ x ≤ j)) (zat T ((a + 1 : Nat) : Int) - 97) (a := 178) (i := x + 1) (Or.inr ⟨rfl, by omega⟩))
        have g1b := ((pb g1).up (P := fun b j => zPp b j ∨ b = 178) (zat T ((a + 1 : Nat) : Int) - 97) (a := 178) (i := x + 1) (Or.inr rfl))
        refine z3two (J' := fun k μ1 => J 303 ([some (zR (some 153)), some (zI x), none, some (zI k)], [], μ1, 0, 0)) (f := fun v => 4 * v) (a := a + 1 + 1) (y := x + 2) (u178 _ _ _ _ _ p1) hT hm (by omega) A2 (by decide) (by decide +kernel) (by omega) step (fun μ2 g2 b2 => fin _ (hbad _ ((gb.trans g1b).trans g2) b2)) (fun l2 μ2 g2 p2 A3 w0 w1 w2 => fin _ ?_)
        rw [show ((a + 1 + 1 : Nat) : Int) = (a : Int) + 2 by omega] at w0 w1 w2
        rw [show x + 2 + 1 = x + 3 by omega, show (a : Int) + 2 + 2 = a + 4 by omega] at w1
        rw [show x + 2 + 2 = x + 4 by omega, show (a : Int) + 2 + 4 = a + 6 by omega] at w2
        refine hok (by omega : a + 8 ≤ _) _ ((g0.trans g1').trans (g2.mono (fun b j => by omega))) p2 A3 ⟨by rw [g2.1 _ _ (by omega), zi_off (by omega), g1.1 _ _ (by omega), v0], fun y => absurd z (by omega), fun y => absurd z (by omega), fun y => absurd z (by omega), fun y => absurd z (by omega), fun y => absurd z (by omega), fun y => ⟨by rw [g2.1 _ _ (by omega), zi_at, e1], w0, w1, w2⟩⟩
      · exact z3twoB (J' := fun k μ1 => J 303 ([some (zR (some 153)), some (zI x), none, some (zI k)], [], μ1, 0, 0)) (f := fun v => 4 * v) (y := x + 2) (μ := μ) (A := A) hT ht (by omega) step (fun μ2 g2 b2 => fin _ (hbad _ g2 b2)) 3 0 _ (by decide) (by decide) (by decide) ((gb.trans (pb g1)).up _ (Or.inr rfl)) (b178 _ _ _ b1)
  refine rX11_readAct_e C _ (kX11_here hp hT (by omega) (by omega) ht ?_)
  rw [(zher_in hm.1).1 ha]
  refine ⟨by constructor <;> omega, fun z => j56 (by omega), fun c1 => ⟨fun z => j56 (by omega), fun c2 => ⟨fun z => j56 (by omega), fun c3 => ⟨fun z => j56 (by omega), fun c4 => ⟨fun z => j56 (by omega), fun c5 => ⟨fun z => j56 (by omega), fun c6 => ⟨fun z => j56 (by omega), fun c7 => ?_⟩⟩⟩⟩⟩⟩⟩
  rw [hp.2.2.1]
  refine kX11_fault hp (by decide) fun μ1 g1 p1 => hbad μ1 (pb g1) ?_
  rw [if_pos rfl] at p1
  have hl0 : (zstx (zaf (zat T a))).length = 0 := by
    by_cases z : (zstx (zaf (zat T a))).length = 0
    · exact z
    · have := zaf_at (zat T a) (by omega); omega
  have hAa : A = a := by
    obtain ⟨n, hn⟩ : ∃ n, zN2 T most - a = n + 1 := ⟨zN2 T most - a - 1, by omega⟩
    rw [← hA, hn, zwro, if_neg (by omega), if_pos rfl, hfor, if_pos (Or.inl hl0)]
  exact ⟨a, by omega, by rw [hAa]; exact p1, by omega, by omega⟩
end
