/-! what is made once: constructors -/
theorem zsF {μ : zM} {a : Nat} (h : a < 182) : zs false μ a = zsTabR a := by unfold zs; rw [if_pos h]; rfl
theorem zokF {μ : zM} {a : Nat} {q : Nat × Nat} (h : a < zn μ) (h2 : a < 182) (h3 : zsTabR a = q) : zok false μ a q := ⟨Or.inl h, by rw [zsF h2]; exact h3⟩
/-- places below b are as they were -/
def zbel (b : Nat) (μ μ' : zM) : Prop := ∀ a, a < b → (∀ j, zi μ' a j = zi μ a j) ∧ ∀ j, zr μ' a j = zr μ a j
theorem zbel.refl (b : Nat) (μ : zM) : zbel b μ μ := fun _ _ => ⟨fun _ => rfl, fun _ => rfl⟩
theorem zbel.trans {b : Nat} {μ μ1 μ2 : zM} (h : zbel b μ μ1) (h2 : zbel b μ1 μ2) : zbel b μ μ2 := fun a ha => ⟨fun j => ((h2 a ha).1 j).trans ((h a ha).1 j), fun j => ((h2 a ha).2 j).trans ((h a ha).2 j)⟩
theorem zbel.mono {b b' : Nat} {μ μ' : zM} (h : zbel b μ μ') (hb : b' ≤ b) : zbel b' μ μ' := fun a ha => h a (by omega)
/-- a thing at b, m rows of it made, one behind the other -/
def zgrow (μ0 : zM) (b m : Nat) (μ : zM) : Prop := zn μ = b + 1 + m ∧ zbel b μ0 μ ∧ (∀ a, b ≤ a → a < zn μ → ∀ i, zi μ a i = 0) ∧ (∀ j : Nat, j < m → zr μ b j = some (b + 1 + j)) ∧ (∀ a, b < a → a < zn μ → ∀ i, zr μ a i = none) ∧ (∀ j : Int, (m : Int) ≤ j → zr μ b j = none) ∧ (zcld μ0 → zcld μ)
theorem zgrow_0 {μ : zM} {b : Nat} {q : Nat × Nat} (h : zn μ = b) (hb2 : b < 182) : zgrow μ b 0 (znew μ q) := by
  refine ⟨by rw [zn_new, h], fun a ha => ⟨fun j => by rw [zi_new, if_neg (by omega)], fun j => by rw [zr_new, if_neg (by omega)]⟩, fun a h1 h2 i => ?_, fun j hj => absurd hj (by omega), fun a h1 h2 i => ?_, fun j hj => ?_, fun z => znew_cld z (Or.inl (by omega))⟩
  · rw [zn_new] at h2; rw [zi_new, if_pos (by omega)]
  · rw [zn_new] at h2; omega
  · rw [zr_new, if_pos h.symm]
theorem zgrow_s {μ0 μ : zM} {b m : Nat} {q : Nat × Nat} (h : zgrow μ0 b m μ) {j : Int} (hj : j = (m : Int)) (hb2 : b + 1 + m < 182) : zgrow μ0 b (m + 1) (zupr (znew μ q) b j (some (zn μ))) := by
  obtain ⟨h1, h2, h3, h4, h5, h6, h7⟩ := h
  refine ⟨by rw [zn_upr, zn_new, h1]; omega, fun a ha => ⟨fun i => by rw [zi_upr, zi_new, if_neg (by omega)]; exact (h2 a ha).1 i, fun i => by rw [zr_upr, if_neg (by omega), zr_new, if_neg (by omega)]; exact (h2 a ha).2 i⟩, fun a q1 q2 i => ?_, fun i hi => ?_, fun a q1 q2 i => ?_, fun i hi => ?_, fun z => zupr_cld (znew_cld (h7 z) (Or.inl (by omega))) (fun c e => by injection e with e; rw [zn_new]; omega)⟩
  · rw [zn_upr, zn_new] at q2
    rw [zi_upr, zi_new]
    split
    · rfl
    · exact h3 a q1 (by omega) i
  · rw [zr_upr]
    by_cases c : i = m
    · rw [if_pos ⟨rfl, by omega⟩, c]; rw [h1]
    · rw [if_neg (by omega), zr_new, if_neg (by omega)]; exact h4 i (by omega)
  · rw [zn_upr, zn_new] at q2
    rw [zr_upr, if_neg (by omega), zr_new]
    split
    · rfl
    · exact h5 a q1 (by omega) i
  · rw [zr_upr, if_neg (by omega), zr_new, if_neg (by omega)]; exact h6 i (by omega)
/-- the lights at the start -/
def zst1 (k x1 x2 : Int) (f : Int → Int) : Int → Int := zupd (zupd f (3 * zta k.toNat x2 + x1) (if x2 = x1 ∨ x2 = 3 then 50 else 90)) (6 * zta k.toNat x2 + x1) (if x2 = x1 ∨ x2 = 3 then 10 else 80)
def zst1s (k x1 : Int) : Nat → Int → (Int → Int) → Int → Int
  | 0, _, f => f
  | n + 1, x2, f => zst1s k x1 n (x2 + 1) (zst1 k x1 x2 f)
def zst2s (k : Int) : Nat → Int → (Int → Int) → Int → Int
  | 0, _, f => f
  | n + 1, x1, f => zst2s k n (x1 + 1) (zst1s k x1 4 0 (zupd f x1 100))
/-- the state at the start -/
def zS0 : Int → Int := fun i => if i < 243 then zst2s 2 3 0 (fun _ => 0) i else if i < 324 then 0 else if i < 360 then (i - 324) % 9 else if 704 ≤ i then zta 6 (i - 704) else 0
theorem zta_2 : ∀ x : Fin 4, 1 ≤ zta 2 (x.val : Int) ∧ zta 2 (x.val : Int) ≤ 27 := by decide +kernel
theorem zta_2I {x : Int} (h : 0 ≤ x ∧ x < 4) : 1 ≤ zta 2 x ∧ zta 2 x ≤ 27 := by
  have := zta_2 ⟨x.toNat, by omega⟩
  rw [show (((⟨x.toNat, by omega⟩ : Fin 4).val : Nat) : Int) = x from by show ((x.toNat : Nat) : Int) = x; omega] at this
  exact this
/-- where a State may be made -/
def zblk (b : Nat) : Prop := b + 8 ≤ 182 ∧ zsTabR b = (7, 9) ∧ zsTabR (b + 1) = (40, 243) ∧ zsTabR (b + 2) = (42, 81) ∧ zsTabR (b + 3) = (40, 7) ∧ zsTabR (b + 4) = (40, 36) ∧ zsTabR (b + 5) = (40, 24) ∧ zsTabR (b + 6) = (40, 64) ∧ zsTabR (b + 7) = (3, 3)
/-- a State as it is made -/
def zstm (μ : zM) (b : Nat) : Prop := (∀ p, 0 ≤ p → p < 243 → zi μ (b + 1) p = zS0 p) ∧ (∀ p, 0 ≤ p → p < 81 → zi μ (b + 2) p = 0) ∧ (∀ i, 0 ≤ i → i < 7 → zi μ (b + 3) i = zta 6 i) ∧ (∀ i, 0 ≤ i → i < 36 → zi μ (b + 4) i = i % 9) ∧ (∀ i, zi μ (b + 5) i = 0) ∧ zi μ b 6 = 0 ∧ zi μ b 7 = 0 ∧ zi μ (b + 7) 1 = 0 ∧ zi μ (b + 7) 2 = 0 ∧ zr μ (b + 7) 0 = none ∧ (∀ j : Nat, j < 6 → zr μ b j = some (b + 1 + j)) ∧ zr μ b 8 = some (b + 7)
section
variable {G : zG}
theorem kX3_initF {F : zM → Prop} {μ : zM} {a0 : Nat} (ho : zok false μ a0 (3, 3)) {r1 : Option Nat} {x2 x3 : Int} (h : F (zup (zup (zupr μ a0 0 r1) a0 1 x2) a0 2 x3)) : qX3_init G false a0 r1 x2 x3 μ F :=
  eX3_init fun J C => rX3_init_e C _ _ _ _ ⟨ho, ho, ho, h⟩
theorem kX7_init {F : zM → Prop} {μ0 μ : zM} {b : Nat} (hb : zblk b) (hg : zgrow μ0 b 0 μ) (h : ∀ μ', zn μ' = b + 8 → zbel b μ0 μ' → zstm μ' b → (zcld μ0 → zcld μ') → F μ') : qX7_init G b μ F := by
  obtain ⟨k9, k0, k1, k2, k3, k4, k5, k6, k7⟩ := hb
  have tz : ∀ (μ : zM) (q : Nat × Nat), zn μ < 182 → zsTabR (zn μ) = q → zs false (znew μ q) (zn μ) = q := fun μ q h1 h2 => by rw [zsF h1]; exact h2
  have g0 := hg.1
  refine eX7_init fun J C => rX7_init_e C b ⟨tz μ _ (by omega) (by rw [g0]; exact k1), fun b1 μ1 e1 m1 => ?_⟩
  subst e1 m1
  have g1 := zgrow_s (q := (40, 243)) hg (j := 0) rfl (by omega)
  have n1 := g1.1
  refine ⟨zokF (by rw [zn_new]; omega) (by omega) k0, tz _ _ (by omega) (by rw [n1]; exact k2), fun b3 μ3 e3 m3 => ?_⟩
  subst e3 m3
  have g2 := zgrow_s (q := (42, 81)) g1 (j := 1) rfl (by omega)
  have n2 := g2.1
  refine ⟨zokF (by rw [zn_new]; omega) (by omega) k0, tz _ _ (by omega) (by rw [n2]; exact k3), fun b5 μ5 e5 m5 => ?_⟩
  subst e5 m5
  have g3 := zgrow_s (q := (40, 7)) g2 (j := 2) rfl (by omega)
  have n3 := g3.1
  refine ⟨zokF (by rw [zn_new]; omega) (by omega) k0, tz _ _ (by omega) (by rw [n3]; exact k4), fun b7 μ7 e7 m7 => ?_⟩
  subst e7 m7
  have g4 := zgrow_s (q := (40, 36)) g3 (j := 3) rfl (by omega)
  have n4 := g4.1
  refine ⟨zokF (by rw [zn_new]; omega) (by omega) k0, tz _ _ (by omega) (by rw [n4]; exact k5), fun b9 μ9 e9 m9 => ?_⟩
  subst e9 m9
  have g5 := zgrow_s (q := (40, 24)) g4 (j := 4) rfl (by omega)
  have n5 := g5.1
  refine ⟨zokF (by rw [zn_new]; omega) (by omega) k0, tz _ _ (by omega) (by rw [n5]; exact k6), fun b11 μ11 e11 m11 => ?_⟩
  subst e11 m11
  have g6 := zgrow_s (q := (40, 64)) g5 (j := 5) rfl (by omega)
  have n6 := g6.1
  refine ⟨zokF (by rw [zn_new]; omega) (by omega) k0, ?_⟩
  generalize zupr (znew _ (40, 64)) b 5 _ = μA at *
  clear g1 g2 g3 g4 g5 n1 n2 n3 n4 n5 hg g0
  obtain ⟨-, fB, fz, fr, frn, fr6, fc⟩ := g6
  have rf : ∀ (P : Nat → Int → Prop) (μ' : zM), zsm P μA μ' → ∀ j : Nat, j < 6 → zr μ' b j = some (b + 1 + j) := fun P μ' g j hj => by rw [g.2.1]; exact fr j hj
  have nf : ∀ (P : Nat → Int → Prop) (μ' : zM), zsm P μA μ' → zn μ' = b + 7 := fun P μ' g => by rw [g.2.2.2, n6]
  have ok : ∀ (P : Nat → Int → Prop) (μ' : zM), zsm P μA μ' → ∀ (a : Nat) (q : Nat × Nat), a < b + 7 → zsTabR a = q → zok false μ' a q := fun P μ' g a q ha hq => zokF (by rw [nf P μ' g]; exact ha) (by omega) hq
  -- the lights
  have lights : ∀ (n : Nat) (x1 : Int) (f : Int → Int) (μ' : zM) (cn un : Nat), cn ≤ 6 → un ≤ 455 → (n : Int) = 3 - x1 → 0 ≤ x1 → x1 ≤ 3 → zsm (fun c _ => c = b + 1 ∨ c = b + 3 ∨ c = b + 4) μA μ' → (∀ p, 0 ≤ p → p < 243 → zi μ' (b + 1) p = f p) → (∀ p, 0 ≤ p → p < 243 → zst2s 2 n x1 f p = zS0 p) → (∀ i, 0 ≤ i → i < 7 → zi μ' (b + 3) i = zta 6 i) → (∀ i, 0 ≤ i → i < 36 → zi μ' (b + 4) i = i % 9) → J 104 ([some (zR (some b)), some (zI x1), none, none], [], μ', cn, un) := by
    intro n
    induction n with
    | zero =>
      intro x1 f μ' cn un hcn hun hn h0 h3 g hf he hs hc
      have nn := nf _ _ g
      refine rX7_init_104 C b _ ⟨by constructor <;> omega, fun _ => ⟨tz _ _ (by omega) (by rw [nn]; exact k7), ⟨by omega, by omega⟩, fun b3 μ3 e3 m3 => ⟨⟨by omega, by omega⟩, ?_⟩⟩, fun z => absurd (by omega) z⟩
      subst e3 m3
      refine kX3_initF (zokF (by rw [zn_new]; omega) (by omega) (by rw [nn]; exact k7)) ⟨zokF (by show b < zn μ' + 1; omega) (by omega) k0, ⟨by omega, by omega⟩, ?_⟩
      rw [nn]
      have zin0 : ∀ (x : Nat) (j : Int), x ≠ b + 7 → zi (zupr (zup (zup (zupr (znew μ' (3, 3)) (b + 7) 0 none) (b + 7) 1 0) (b + 7) 2 0) b 8 (some (b + 7))) x j = zi μ' x j := fun x j hx => by rw [zi_upr, zi_off (by omega), zi_off (by omega), zi_upr, zi_new, if_neg (by omega)]
      have zrn0 : ∀ (x : Nat) (j : Int), x ≠ b + 7 → ¬ (x = b ∧ j = 8) → zr (zupr (zup (zup (zupr (znew μ' (3, 3)) (b + 7) 0 none) (b + 7) 1 0) (b + 7) 2 0) b 8 (some (b + 7))) x j = zr μ' x j := fun x j hx hj => by rw [zr_ne hj, zr_up, zr_up, zr_ne (by omega), zr_new, if_neg (by omega)]
      refine h _ (by show zn μ' + 1 = b + 8; omega) (fun a ha => ⟨fun j => ?_, fun j => ?_⟩) ⟨fun p p0 p1 => ?_, fun p p0 p1 => ?_, fun i i0 i1 => ?_, fun i i0 i1 => ?_, fun i => ?_, ?_, ?_, ?_, ?_, ?_, fun j hj => ?_, ?_⟩ (fun z => zupr_cld (zup_cld (zup_cld (zupr_cld (znew_cld (g.cld (fc z)) (Or.inl (by omega))) (fun c e => by cases e)))) (fun c e => by injection e with e; show c < zn μ' + 1; omega))
      · rw [zin0 _ _ (by omega), g.1 _ _ (by omega)]; exact (fB a ha).1 j
      · rw [zrn0 _ _ (by omega) (by omega), g.2.1]; exact (fB a ha).2 j
      · rw [zin0 _ _ (by omega), hf p p0 p1]; exact he p p0 p1
      · rw [zin0 _ _ (by omega), g.1 _ _ (by omega)]; exact fz _ (by omega) (by omega) p
      · rw [zin0 _ _ (by omega)]; exact hs i i0 i1
      · rw [zin0 _ _ (by omega)]; exact hc i i0 i1
      · rw [zin0 _ _ (by omega), g.1 _ _ (by omega)]; exact fz _ (by omega) (by omega) i
      · rw [zin0 _ _ (by omega), g.1 _ _ (by omega)]; exact fz _ (by omega) (by omega) 6
      · rw [zin0 _ _ (by omega), g.1 _ _ (by omega)]; exact fz _ (by omega) (by omega) 7
      · rw [zi_upr, zi_off (by omega), zi_at]
      · rw [zi_upr, zi_at]
      · rw [zr_ne (by omega), zr_up, zr_up, zr_upr, if_pos ⟨rfl, rfl⟩]
      · rw [zrn0 _ _ (by omega) (by omega)]; exact rf _ _ g j hj
      · rw [zr_upr, if_pos ⟨rfl, rfl⟩]
    | succ n ih =>
      intro x1 f μ' cn un hcn hun hn h0 h3 g hf he hs hc
      refine rX7_init_104 C b _ ⟨by constructor <;> omega, fun z => absurd z (by omega), fun _ => ⟨ok _ _ g b _ (by omega) k0, b + 1, rf _ _ g 0 (by decide), ok _ _ g (b + 1) _ (by omega) k1, ⟨by omega, by omega⟩, ?_⟩⟩
      -- one band
      have band : ∀ (m : Nat) (x2 : Int) (f : Int → Int) (μ' : zM), (m : Int) = 4 - x2 → 0 ≤ x2 → x2 ≤ 4 → zsm (fun c _ => c = b + 1 ∨ c = b + 3 ∨ c = b + 4) μA μ' → (∀ p, 0 ≤ p → p < 243 → zi μ' (b + 1) p = f p) → (∀ p, 0 ≤ p → p < 243 → zst2s 2 n (x1 + 1) (zst1s 2 x1 m x2 f) p = zS0 p) → (∀ i, 0 ≤ i → i < 7 → zi μ' (b + 3) i = zta 6 i) → (∀ i, 0 ≤ i → i < 36 → zi μ' (b + 4) i = i % 9) → J 119 ([some (zR (some b)), some (zI x1), some (zI x2), none], [], μ', cn, un) := by
        intro m
        induction m with
        | zero =>
          intro x2 f μ' hm h20 h24 g hf he hs hc
          exact rX7_init_119 C b _ _ ⟨by constructor <;> omega, fun _ => ih (x1 + 1) f μ' cn un hcn hun (by omega) (by omega) (by omega) g hf he hs hc, fun z => absurd (by omega) z⟩
        | succ m ihm =>
          intro x2 f μ' hm h20 h24 g hf he hs hc
          have ht := zta_2I (x := x2) ⟨h20, by omega⟩
          have okb := ok _ _ g b _ (by omega) k0
          have ok1 := ok _ _ g (b + 1) _ (by omega) k1
          have r0 := rf _ _ g 0 (by decide)
          -- both lights
          have two : ∀ u w : Int, u = (if x2 = x1 ∨ x2 = 3 then 50 else 90) → w = (if x2 = x1 ∨ x2 = 3 then 10 else 80) → J 119 ([some (zR (some b)), some (zI x1), some (zI (x2 + 1)), none], [], zup (zup μ' (b + 1) (((zta 2 x2) * 3) + x1) u) (b + 1) (((2 * (zta 2 x2)) * 3) + x1) w, cn, un) := by
            intro u w hu hw
            refine ihm (x2 + 1) (zst1 2 x1 x2 f) _ (by omega) (by omega) (by omega) ((g.up _ (Or.inl rfl)).up _ (Or.inl rfl)) (fun p p0 p1 => ?_) he (fun i i0 i1 => by rw [zi_off (by omega), zi_off (by omega)]; exact hs i i0 i1) (fun i i0 i1 => by rw [zi_off (by omega), zi_off (by omega)]; exact hc i i0 i1)
            have e2 : zta (2 : Int).toNat x2 = zta 2 x2 := rfl
            unfold zst1
            rw [e2]
            by_cases c1 : p = 6 * zta 2 x2 + x1
            · rw [c1, zupd_at, show (2 * (zta 2 x2)) * 3 + x1 = 6 * zta 2 x2 + x1 by omega, zi_at, hw]
            · rw [zupd_off c1, zi_off (by omega)]
              by_cases c2 : p = 3 * zta 2 x2 + x1
              · rw [c2, zupd_at, show zta 2 x2 * 3 + x1 = 3 * zta 2 x2 + x1 by omega, zi_at, hu]
              · rw [zupd_off c2, zi_off (by omega)]; exact hf p p0 p1
          have j139 : ∀ q : Int, q = (if x2 = x1 ∨ x2 = 3 then 1 else 0) → J 139 ([some (zR (some b)), some (zI x1), some (zI x2), none], [zI q], μ', cn, un) := by
            intro q hq
            have hq2 : q = 0 ∨ q = 1 := by rw [hq]; split <;> omega
            refine rX7_init_139 C b _ _ _ ⟨okb, ⟨h20, by omega⟩, by constructor <;> omega, fun z => ⟨b + 1, r0, ok1, ⟨by omega, by omega⟩, okb, fun _ => ⟨b + 1, r0, ok1, ⟨by omega, by omega⟩, ?_⟩, fun y => absurd z y⟩, fun z => ⟨b + 1, r0, ok1, ⟨by omega, by omega⟩, okb, fun y => absurd y z, fun _ => ⟨b + 1, r0, ok1, ⟨by omega, by omega⟩, ?_⟩⟩⟩
            · have hc2 : ¬ (x2 = x1 ∨ x2 = 3) := fun y => by rw [if_pos y] at hq; omega
              exact two 90 80 (by rw [if_neg hc2]) (by rw [if_neg hc2])
            · have hc2 : x2 = x1 ∨ x2 = 3 := by
                by_cases y : x2 = x1 ∨ x2 = 3
                · exact y
                · rw [if_neg y] at hq; exact absurd hq z
              exact two 50 10 (by rw [if_pos hc2]) (by rw [if_pos hc2])
          refine rX7_init_119 C b _ _ ⟨by constructor <;> omega, fun z => absurd z (by omega), fun _ => ⟨by constructor <;> omega, fun z => j139 1 (by rw [if_pos (Or.inl z)]), fun z => ⟨fun y => j139 0 (by rw [if_neg (by omega)]), fun y => j139 1 (by rw [if_pos (Or.inr y)])⟩⟩⟩
      refine band 4 0 (zupd f x1 100) _ (by decide) (by decide) (by decide) (g.up _ (Or.inl rfl)) (fun p p0 p1 => ?_) he (fun i i0 i1 => by rw [zi_off (by omega)]; exact hs i i0 i1) (fun i i0 i1 => by rw [zi_off (by omega)]; exact hc i i0 i1)
      by_cases c : p = x1
      · rw [c, zupd_at, zi_at]
      · rw [zupd_off c, zi_off (by omega)]; exact hf p p0 p1
  -- the curves
  have curves : ∀ (n : Nat) (x : Int) (μ' : zM), (n : Int) = 36 - x → 0 ≤ x → x ≤ 36 → zsm (fun c _ => c = b + 1 ∨ c = b + 3 ∨ c = b + 4) μA μ' → (∀ p, zi μ' (b + 1) p = 0) → (∀ i, 0 ≤ i → i < 7 → zi μ' (b + 3) i = zta 6 i) → (∀ i, 0 ≤ i → i < x → zi μ' (b + 4) i = i % 9) → J 80 ([some (zR (some b)), some (zI x), none, none], [], μ', 6, 455) := by
    intro n
    induction n with
    | zero =>
      intro x μ' hn h0 h1 g hp hs hc
      exact rX7_init_80 C b _ ⟨by constructor <;> omega, fun _ => lights 3 0 (fun _ => 0) μ' 6 455 (Nat.le_refl _) (Nat.le_refl _) (by decide) (by decide) (by decide) g (fun p _ _ => hp p) (fun p p0 p1 => by unfold zS0; rw [if_pos p1]) hs (fun i i0 i1 => hc i i0 (by omega)), fun z => absurd (by omega) z⟩
    | succ n ih =>
      intro x μ' hn h0 h1 g hp hs hc
      refine rX7_init_80 C b _ ⟨by constructor <;> omega, fun z => absurd z (by omega), fun _ => ⟨ok _ _ g b _ (by omega) k0, ⟨by omega, by omega⟩, b + 4, rf _ _ g 3 (by decide), ok _ _ g (b + 4) _ (by omega) k4, ⟨by omega, by omega⟩, ih (x + 1) _ (by omega) (by omega) (by omega) (g.up _ (Or.inr (Or.inr rfl))) (fun p => by rw [zi_off (by omega)]; exact hp p) (fun i i0 i1 => by rw [zi_off (by omega)]; exact hs i i0 i1) (fun i i0 i1 => ?_)⟩⟩
      by_cases c : i = x
      · rw [c, zi_at]
      · rw [zi_off (by omega)]; exact hc i i0 (by omega)
  -- the settings
  have sets : ∀ (n : Nat) (x : Int) (μ' : zM), (n : Int) = 7 - x → 0 ≤ x → x ≤ 7 → zsm (fun c _ => c = b + 1 ∨ c = b + 3 ∨ c = b + 4) μA μ' → (∀ p, zi μ' (b + 1) p = 0) → (∀ i, 0 ≤ i → i < x → zi μ' (b + 3) i = zta 6 i) → J 55 ([some (zR (some b)), some (zI x), none, none], [], μ', 6, 455) := by
    intro n
    induction n with
    | zero =>
      intro x μ' hn h0 h1 g hp hs
      exact rX7_init_55 C b _ ⟨by constructor <;> omega, fun _ => curves 36 0 μ' (by decide) (by decide) (by decide) g hp (fun i i0 i1 => hs i i0 (by omega)) (fun i i0 i1 => absurd i1 (by omega)), fun z => absurd (by omega) z⟩
    | succ n ih =>
      intro x μ' hn h0 h1 g hp hs
      refine rX7_init_55 C b _ ⟨by constructor <;> omega, fun z => absurd z (by omega), fun _ => ⟨ok _ _ g b _ (by omega) k0, ⟨by omega, by omega⟩, b + 3, rf _ _ g 2 (by decide), ok _ _ g (b + 3) _ (by omega) k3, ih (x + 1) _ (by omega) (by omega) (by omega) (g.up _ (Or.inr (Or.inl rfl))) (fun p => by rw [zi_off (by omega)]; exact hp p) (fun i i0 i1 => ?_)⟩⟩
      by_cases c : i = x
      · rw [c, zi_at]
      · rw [zi_off (by omega)]; exact hs i i0 (by omega)
  exact sets 7 0 μA (by decide) (by decide) (by decide) (zsm.refl _ _) (fun p => fz _ (by omega) (by omega) p) (fun i i0 i1 => absurd i1 (by omega))
end
