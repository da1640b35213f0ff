/-! what is made once: the class, whole -/
def zex0 (j : Nat) : Option Nat := [some 1, some 3, some 5, some 13, some 103, some 104, some 105, some 111, some 119, some 125, some 128, some 130, some 134, some 135, some 136].getD j none
/-- places from 1 on below n are as they were -/
def zb1 (n : Nat) (μ μ' : zM) : Prop := ∀ a, 1 ≤ a → a < n → (∀ j, zi μ' a j = zi μ a j) ∧ ∀ j, zr μ' a j = zr μ a j
theorem zb1.refl (n : Nat) (μ : zM) : zb1 n μ μ := fun _ _ _ => ⟨fun _ => rfl, fun _ => rfl⟩
theorem zb1.trans {n n' : Nat} {μ μ1 μ2 : zM} (h : zb1 n μ μ1) (h2 : zb1 n' μ1 μ2) (hn : n ≤ n') : zb1 n μ μ2 := fun a h1 ha => ⟨fun j => ((h2 a h1 (by omega)).1 j).trans ((h a h1 ha).1 j), fun j => ((h2 a h1 (by omega)).2 j).trans ((h a h1 ha).2 j)⟩
/-- a field of the class is laid -/
theorem zstep {ν μ : zM} {b k n : Nat} (hz : zbel b ν μ) (hb : 0 < b) (hr : ∀ j : Nat, j < k → zr ν 0 j = zex0 j) (hx : zex0 k = some b) (hn : zn μ = n) {i : Int} (hi : i = k) : zn (zupr μ 0 i (some b)) = n ∧ (∀ j : Nat, j < k + 1 → zr (zupr μ 0 i (some b)) 0 j = zex0 j) ∧ zb1 b ν (zupr μ 0 i (some b)) ∧ ∀ a, 1 ≤ a → (∀ j, zi (zupr μ 0 i (some b)) a j = zi μ a j) ∧ ∀ j, zr (zupr μ 0 i (some b)) a j = zr μ a j := by
  subst hi
  refine ⟨hn, fun j hj => ?_, fun a h1 h2 => ⟨fun j => by rw [zi_upr]; exact (hz a h2).1 j, fun j => by rw [zr_ne (by omega)]; exact (hz a h2).2 j⟩, fun a h1 => ⟨fun j => by rw [zi_upr], fun j => by rw [zr_ne (by omega)]⟩⟩
  by_cases c : j = k
  · rw [c, zr_upr, if_pos ⟨rfl, rfl⟩, hx]
  · rw [zr_ne (by omega), (hz 0 hb).2]; exact hr j (by omega)
/-- all that the class's constructor makes -/
def zmade (μ : zM) : Prop := (∀ j : Nat, j < 15 → zr μ 0 j = zex0 j) ∧ zr μ 1 0 = some 2 ∧ zr μ 3 0 = some 4 ∧ zstm μ 5 ∧ zr μ 13 0 = some 14 ∧ (∀ v : Nat, v < 11 → zr μ 14 v = some (15 + 8 * v) ∧ ∀ j : Nat, j < 6 → zr μ (15 + 8 * v) j = some (15 + 8 * v + 1 + j)) ∧ (∀ j : Nat, j < 5 → zr μ 105 j = some (105 + 1 + j)) ∧ (∀ j : Nat, j < 6 → zr μ 111 j = some (111 + 1 + j)) ∧ (∀ j : Nat, j < 5 → zr μ 119 j = some (119 + 1 + j)) ∧ zr μ 125 0 = some 126 ∧ zr μ 125 4 = some 127 ∧ zr μ 128 0 = some 129 ∧ (∀ j : Nat, j < 3 → zr μ 130 j = some (130 + 1 + j)) ∧ (∀ v : Nat, v < 2 → zr μ 103 v = some (137 + 8 * v) ∧ ∀ j : Nat, j < 6 → zr μ (137 + 8 * v) j = some (137 + 8 * v + 1 + j)) ∧
  zi μ 1 1 = 0 ∧ zi μ 3 1 = 0 ∧ zi μ 13 1 = 0 ∧ zi μ 13 2 = 0 ∧ (∀ i, zi μ 104 i = 0) ∧ (∀ i, 0 ≤ i → i < 243 → zi μ 106 i = -1) ∧ (∀ i, 0 ≤ i → i < 243 → zi μ 120 i = -1) ∧ zi μ 125 2 = -1
theorem zstm_b {μ μ' : zM} {b : Nat} (h : zstm μ b) (hm : ∀ a, b ≤ a → a < b + 8 → (∀ j, zi μ' a j = zi μ a j) ∧ ∀ j, zr μ' a j = zr μ a j) : zstm μ' b := by
  obtain ⟨h1, h2, h3, h4, h5, h6, h7, h8, h9, h10, h11, h12⟩ := h
  have i : ∀ a, b ≤ a → a < b + 8 → ∀ j, zi μ' a j = zi μ a j := fun a x y => (hm a x y).1
  have r : ∀ a, b ≤ a → a < b + 8 → ∀ j, zr μ' a j = zr μ a j := fun a x y => (hm a x y).2
  exact ⟨fun p p0 p1 => by rw [i _ (by omega) (by omega)]; exact h1 p p0 p1, fun p p0 p1 => by rw [i _ (by omega) (by omega)]; exact h2 p p0 p1, fun p p0 p1 => by rw [i _ (by omega) (by omega)]; exact h3 p p0 p1, fun p p0 p1 => by rw [i _ (by omega) (by omega)]; exact h4 p p0 p1, fun p => by rw [i _ (by omega) (by omega)]; exact h5 p, by rw [i _ (by omega) (by omega)]; exact h6, by rw [i _ (by omega) (by omega)]; exact h7, by rw [i _ (by omega) (by omega)]; exact h8, by rw [i _ (by omega) (by omega)]; exact h9, by rw [r _ (by omega) (by omega)]; exact h10, fun j hj => by rw [r _ (by omega) (by omega)]; exact h11 j hj, by rw [r _ (by omega) (by omega)]; exact h12⟩
section
variable {G : zG}
theorem kX10_init {F : zM → Prop} {μ : zM} (hn : zn μ = 1) (h : ∀ μ', zn μ' = 153 → zmade μ' → (zcld μ → zcld μ') → F μ') : qX10_init G μ F := by
  have t0 : zsTabR 0 = (10, 15) := by decide +kernel
  refine eX10_init fun J C => rX10_init_e C ?_
  have d0 : zcld μ → zcld μ := id
  have r0 : ∀ j : Nat, j < 0 → zr μ 0 j = zex0 j := fun j hj => absurd hj (by omega)
  refine ⟨ztz (by rw [hn]; decide) (by rw [hn]; decide +kernel), fun b1 μ1 e1 m1 => ?_⟩
  subst e1 m1
  have z0 := zgrow_0 (q := (9, 2)) hn (by decide)
  rw [hn]
  refine kX9_init ⟨by decide, by decide +kernel, by decide +kernel⟩ z0 fun μ2 g => ?_
  have m0 : zn μ2 = 3 := g.1
  have f0 := g.2.1
  have w0 := g.2.2.2.2.2.2
  have s0 := g.2.2.2.1
  have i0 := g.2.2.1 1 (by decide) (by rw [m0]; decide) 1
  have m0 : zn μ2 = 3 := m0
  refine ⟨zokF (by rw [m0]; decide) (by decide) t0, ?_⟩
  have d1 : zcld μ → zcld (zupr μ2 0 0 (some 1)) := fun z => zupr_cld (w0 (d0 z)) (fun c e => by injection e with e; omega)
  obtain ⟨n1, r1, p0, c0⟩ := zstep (k := 0) f0 (by decide) r0 rfl m0 (i := 0) rfl
  replace s0 : ∀ j : Nat, j < 1 → zr (zupr μ2 0 0 (some 1)) 1 j = some (1 + 1 + j) := fun j hj => by rw [(c0 1 (by decide)).2]; exact s0 j hj
  replace i0 : zi (zupr μ2 0 0 (some 1)) 1 1 = 0 := by rw [(c0 1 (by decide)).1]; exact i0
  generalize zupr μ2 0 0 (some 1) = ν0 at *
  clear c0 f0 z0
  refine ⟨ztz (by rw [n1]; decide) (by rw [n1]; decide +kernel), fun b1 μ1 e1 m1 => ?_⟩
  subst e1 m1
  have z1 := zgrow_0 (q := (6, 2)) n1 (by decide)
  rw [n1]
  refine kX6_init ⟨by decide, by decide +kernel, by decide +kernel⟩ z1 fun μ2 g => ?_
  have m1 : zn μ2 = 5 := g.1
  have f1 := g.2.1
  have w1 := g.2.2.2.2.2.2
  have s1 := g.2.2.2.1
  have i1 := g.2.2.1 3 (by decide) (by rw [m1]; decide) 1
  have m1 : zn μ2 = 5 := m1
  refine ⟨zokF (by rw [m1]; decide) (by decide) t0, ?_⟩
  have d2 : zcld μ → zcld (zupr μ2 0 1 (some 3)) := fun z => zupr_cld (w1 (d1 z)) (fun c e => by injection e with e; omega)
  obtain ⟨n2, r2, p1, c1⟩ := zstep (k := 1) f1 (by decide) r1 rfl m1 (i := 1) rfl
  replace s1 : ∀ j : Nat, j < 1 → zr (zupr μ2 0 1 (some 3)) 3 j = some (3 + 1 + j) := fun j hj => by rw [(c1 3 (by decide)).2]; exact s1 j hj
  replace i1 : zi (zupr μ2 0 1 (some 3)) 3 1 = 0 := by rw [(c1 3 (by decide)).1]; exact i1
  generalize zupr μ2 0 1 (some 3) = ν1 at *
  clear c1 f1 z1
  refine ⟨ztz (by rw [n2]; decide) (by rw [n2]; decide +kernel), fun b1 μ1 e1 m1 => ?_⟩
  subst e1 m1
  have z2 := zgrow_0 (q := (7, 9)) n2 (by decide)
  rw [n2]
  refine kX7_init zblk_o.1 z2 fun μ2 m2 f2 s2 w2 => ?_
  have m2 : zn μ2 = 13 := m2
  refine ⟨zokF (by rw [m2]; decide) (by decide) t0, ?_⟩
  have d3 : zcld μ → zcld (zupr μ2 0 2 (some 5)) := fun z => zupr_cld (w2 (d2 z)) (fun c e => by injection e with e; omega)
  obtain ⟨n3, r3, p2, c2⟩ := zstep (k := 2) f2 (by decide) r2 rfl m2 (i := 2) rfl
  replace s2 : zstm (zupr μ2 0 2 (some 5)) 5 := zstm_b s2 (fun a ha _ => c2 a (by omega))
  generalize zupr μ2 0 2 (some 5) = ν2 at *
  clear c2 f2 z2
  refine ⟨ztz (by rw [n3]; decide) (by rw [n3]; decide +kernel), fun b1 μ1 e1 m1 => ?_⟩
  subst e1 m1
  have z3 := zgrow_0 (q := (1, 3)) n3 (by decide)
  rw [n3]
  refine kX1_init z3 fun μ2 m3 f3 s3 s3b i3 i3b w3 => ?_
  have m3 : zn μ2 = 103 := m3
  refine ⟨zokF (by rw [m3]; decide) (by decide) t0, ?_⟩
  have d4 : zcld μ → zcld (zupr μ2 0 3 (some 13)) := fun z => zupr_cld (w3 (d3 z)) (fun c e => by injection e with e; omega)
  obtain ⟨n4, r4, p3, c3⟩ := zstep (k := 3) f3 (by decide) r3 rfl m3 (i := 3) rfl
  replace s3 : zr (zupr μ2 0 3 (some 13)) 13 0 = some 14 := by rw [(c3 13 (by decide)).2]; exact s3
  replace s3b : ∀ v : Nat, v < 11 → zr (zupr μ2 0 3 (some 13)) 14 v = some (15 + 8 * v) ∧ ∀ j : Nat, j < 6 → zr (zupr μ2 0 3 (some 13)) (15 + 8 * v) j = some (15 + 8 * v + 1 + j) := fun v hv => ⟨by rw [(c3 14 (by decide)).2]; exact (s3b v hv).1, fun j hj => by rw [(c3 _ (by omega)).2]; exact (s3b v hv).2 j hj⟩
  replace i3 : zi (zupr μ2 0 3 (some 13)) 13 1 = 0 := by rw [(c3 13 (by decide)).1]; exact i3
  replace i3b : zi (zupr μ2 0 3 (some 13)) 13 2 = 0 := by rw [(c3 13 (by decide)).1]; exact i3b
  generalize zupr μ2 0 3 (some 13) = ν3 at *
  clear c3 f3 z3
  refine ⟨ztz (by rw [n4]; decide) (by rw [n4]; decide +kernel), fun b1 μ1 e1 m1 => ?_⟩
  subst e1 m1
  have z4 := zgrow_0 (q := (44, 2)) n4 (by decide)
  rw [n4]
  have m4 := z4.1
  have w4 := z4.2.2.2.2.2.2
  have f4 := z4.2.1
  generalize znew ν3 (44, 2) = μ2 at *
  have m4 : zn μ2 = 104 := m4
  refine ⟨zokF (by rw [m4]; decide) (by decide) t0, ?_⟩
  have d5 : zcld μ → zcld (zupr μ2 0 4 (some 103)) := fun z => zupr_cld (w4 (d4 z)) (fun c e => by injection e with e; omega)
  obtain ⟨n5, r5, p4, c4⟩ := zstep (k := 4) f4 (by decide) r4 rfl m4 (i := 4) rfl
  generalize zupr μ2 0 4 (some 103) = ν4 at *
  clear c4 f4 z4
  refine ⟨ztz (by rw [n5]; decide) (by rw [n5]; decide +kernel), fun b1 μ1 e1 m1 => ?_⟩
  subst e1 m1
  have z5 := zgrow_0 (q := (42, 2)) n5 (by decide)
  rw [n5]
  have m5 := z5.1
  have w5 := z5.2.2.2.2.2.2
  have f5 := z5.2.1
  have i5 := fun i => z5.2.2.1 104 (by decide) (by rw [m5]; decide) i
  generalize znew ν4 (42, 2) = μ2 at *
  have m5 : zn μ2 = 105 := m5
  refine ⟨zokF (by rw [m5]; decide) (by decide) t0, ?_⟩
  have d6 : zcld μ → zcld (zupr μ2 0 5 (some 104)) := fun z => zupr_cld (w5 (d5 z)) (fun c e => by injection e with e; omega)
  obtain ⟨n6, r6, p5, c5⟩ := zstep (k := 5) f5 (by decide) r5 rfl m5 (i := 5) rfl
  replace i5 : ∀ i, zi (zupr μ2 0 5 (some 104)) 104 i = 0 := fun i => by rw [(c5 104 (by decide)).1]; exact i5 i
  generalize zupr μ2 0 5 (some 104) = ν5 at *
  clear c5 f5 z5
  refine ⟨ztz (by rw [n6]; decide) (by rw [n6]; decide +kernel), fun b1 μ1 e1 m1 => ?_⟩
  subst e1 m1
  have z6 := zgrow_0 (q := (0, 5)) n6 (by decide)
  rw [n6]
  refine kX0_init ⟨by decide, by decide +kernel, by decide +kernel, by decide +kernel, by decide +kernel, by decide +kernel, by decide +kernel⟩ z6 fun μ2 m6 f6 s6 i6 w6 => ?_
  have m6 : zn μ2 = 111 := m6
  refine ⟨zokF (by rw [m6]; decide) (by decide) t0, ?_⟩
  have d7 : zcld μ → zcld (zupr μ2 0 6 (some 105)) := fun z => zupr_cld (w6 (d6 z)) (fun c e => by injection e with e; omega)
  obtain ⟨n7, r7, p6, c6⟩ := zstep (k := 6) f6 (by decide) r6 rfl m6 (i := 6) rfl
  replace s6 : ∀ j : Nat, j < 5 → zr (zupr μ2 0 6 (some 105)) 105 j = some (105 + 1 + j) := fun j hj => by rw [(c6 105 (by decide)).2]; exact s6 j hj
  replace i6 : ∀ i, 0 ≤ i → i < 243 → zi (zupr μ2 0 6 (some 105)) 106 i = -1 := fun i h0 h1 => by rw [(c6 106 (by decide)).1]; exact i6 i h0 h1
  generalize zupr μ2 0 6 (some 105) = ν6 at *
  clear c6 f6 z6
  refine ⟨ztz (by rw [n7]; decide) (by rw [n7]; decide +kernel), fun b1 μ1 e1 m1 => ?_⟩
  subst e1 m1
  have z7 := zgrow_0 (q := (7, 9)) n7 (by decide)
  rw [n7]
  refine kX7_init zblk_o.2.1 z7 fun μ2 m7 f7 s7 w7 => ?_
  have m7 : zn μ2 = 119 := m7
  refine ⟨zokF (by rw [m7]; decide) (by decide) t0, ?_⟩
  have d8 : zcld μ → zcld (zupr μ2 0 7 (some 111)) := fun z => zupr_cld (w7 (d7 z)) (fun c e => by injection e with e; omega)
  obtain ⟨n8, r8, p7, c7⟩ := zstep (k := 7) f7 (by decide) r7 rfl m7 (i := 7) rfl
  replace s7 : zstm (zupr μ2 0 7 (some 111)) 111 := zstm_b s7 (fun a ha _ => c7 a (by omega))
  generalize zupr μ2 0 7 (some 111) = ν7 at *
  clear c7 f7 z7
  refine ⟨ztz (by rw [n8]; decide) (by rw [n8]; decide +kernel), fun b1 μ1 e1 m1 => ?_⟩
  subst e1 m1
  have z8 := zgrow_0 (q := (0, 5)) n8 (by decide)
  rw [n8]
  refine kX0_init ⟨by decide, by decide +kernel, by decide +kernel, by decide +kernel, by decide +kernel, by decide +kernel, by decide +kernel⟩ z8 fun μ2 m8 f8 s8 i8 w8 => ?_
  have m8 : zn μ2 = 125 := m8
  refine ⟨zokF (by rw [m8]; decide) (by decide) t0, ?_⟩
  have d9 : zcld μ → zcld (zupr μ2 0 8 (some 119)) := fun z => zupr_cld (w8 (d8 z)) (fun c e => by injection e with e; omega)
  obtain ⟨n9, r9, p8, c8⟩ := zstep (k := 8) f8 (by decide) r8 rfl m8 (i := 8) rfl
  replace s8 : ∀ j : Nat, j < 5 → zr (zupr μ2 0 8 (some 119)) 119 j = some (119 + 1 + j) := fun j hj => by rw [(c8 119 (by decide)).2]; exact s8 j hj
  replace i8 : ∀ i, 0 ≤ i → i < 243 → zi (zupr μ2 0 8 (some 119)) 120 i = -1 := fun i h0 h1 => by rw [(c8 120 (by decide)).1]; exact i8 i h0 h1
  generalize zupr μ2 0 8 (some 119) = ν8 at *
  clear c8 f8 z8
  refine ⟨ztz (by rw [n9]; decide) (by rw [n9]; decide +kernel), fun b1 μ1 e1 m1 => ?_⟩
  subst e1 m1
  have z9 := zgrow_0 (q := (4, 9)) n9 (by decide)
  rw [n9]
  refine kX4_init ⟨by decide, by decide +kernel, by decide +kernel, by decide +kernel⟩ z9 fun μ2 m9 f9 s9 s9b i9 w9 => ?_
  have m9 : zn μ2 = 128 := m9
  refine ⟨zokF (by rw [m9]; decide) (by decide) t0, ?_⟩
  have d10 : zcld μ → zcld (zupr μ2 0 9 (some 125)) := fun z => zupr_cld (w9 (d9 z)) (fun c e => by injection e with e; omega)
  obtain ⟨n10, r10, p9, c9⟩ := zstep (k := 9) f9 (by decide) r9 rfl m9 (i := 9) rfl
  replace s9 : zr (zupr μ2 0 9 (some 125)) 125 0 = some 126 := by rw [(c9 125 (by decide)).2]; exact s9
  replace s9b : zr (zupr μ2 0 9 (some 125)) 125 4 = some 127 := by rw [(c9 125 (by decide)).2]; exact s9b
  replace i9 : zi (zupr μ2 0 9 (some 125)) 125 2 = -1 := by rw [(c9 125 (by decide)).1]; exact i9
  generalize zupr μ2 0 9 (some 125) = ν9 at *
  clear c9 f9 z9
  refine ⟨ztz (by rw [n10]; decide) (by rw [n10]; decide +kernel), fun b1 μ1 e1 m1 => ?_⟩
  subst e1 m1
  have z10 := zgrow_0 (q := (2, 1)) n10 (by decide)
  rw [n10]
  refine kX2_init ⟨by decide, by decide +kernel, by decide +kernel⟩ z10 fun μ2 g => ?_
  have m10 : zn μ2 = 130 := g.1
  have f10 := g.2.1
  have w10 := g.2.2.2.2.2.2
  have s10 := g.2.2.2.1
  have m10 : zn μ2 = 130 := m10
  refine ⟨zokF (by rw [m10]; decide) (by decide) t0, ?_⟩
  have d11 : zcld μ → zcld (zupr μ2 0 10 (some 128)) := fun z => zupr_cld (w10 (d10 z)) (fun c e => by injection e with e; omega)
  obtain ⟨n11, r11, p10, c10⟩ := zstep (k := 10) f10 (by decide) r10 rfl m10 (i := 10) rfl
  replace s10 : ∀ j : Nat, j < 1 → zr (zupr μ2 0 10 (some 128)) 128 j = some (128 + 1 + j) := fun j hj => by rw [(c10 128 (by decide)).2]; exact s10 j hj
  generalize zupr μ2 0 10 (some 128) = ν10 at *
  clear c10 f10 z10
  refine ⟨ztz (by rw [n11]; decide) (by rw [n11]; decide +kernel), fun b1 μ1 e1 m1 => ?_⟩
  subst e1 m1
  have z11 := zgrow_0 (q := (5, 3)) n11 (by decide)
  rw [n11]
  refine kX5_init ⟨by decide, by decide +kernel, by decide +kernel, by decide +kernel, by decide +kernel⟩ z11 fun μ2 g => ?_
  have m11 : zn μ2 = 134 := g.1
  have f11 := g.2.1
  have w11 := g.2.2.2.2.2.2
  have s11 := g.2.2.2.1
  have m11 : zn μ2 = 134 := m11
  refine ⟨zokF (by rw [m11]; decide) (by decide) t0, ?_⟩
  have d12 : zcld μ → zcld (zupr μ2 0 11 (some 130)) := fun z => zupr_cld (w11 (d11 z)) (fun c e => by injection e with e; omega)
  obtain ⟨n12, r12, p11, c11⟩ := zstep (k := 11) f11 (by decide) r11 rfl m11 (i := 11) rfl
  replace s11 : ∀ j : Nat, j < 3 → zr (zupr μ2 0 11 (some 130)) 130 j = some (130 + 1 + j) := fun j hj => by rw [(c11 130 (by decide)).2]; exact s11 j hj
  generalize zupr μ2 0 11 (some 130) = ν11 at *
  clear c11 f11 z11
  refine ⟨ztz (by rw [n12]; decide) (by rw [n12]; decide +kernel), fun b1 μ1 e1 m1 => ?_⟩
  subst e1 m1
  have z12 := zgrow_0 (q := (40, 6561)) n12 (by decide)
  rw [n12]
  have m12 := z12.1
  have w12 := z12.2.2.2.2.2.2
  have f12 := z12.2.1
  generalize znew ν11 (40, 6561) = μ2 at *
  have m12 : zn μ2 = 135 := m12
  refine ⟨zokF (by rw [m12]; decide) (by decide) t0, ?_⟩
  have d13 : zcld μ → zcld (zupr μ2 0 12 (some 134)) := fun z => zupr_cld (w12 (d12 z)) (fun c e => by injection e with e; omega)
  obtain ⟨n13, r13, p12, c12⟩ := zstep (k := 12) f12 (by decide) r12 rfl m12 (i := 12) rfl
  generalize zupr μ2 0 12 (some 134) = ν12 at *
  clear c12 f12 z12
  refine ⟨ztz (by rw [n13]; decide) (by rw [n13]; decide +kernel), fun b1 μ1 e1 m1 => ?_⟩
  subst e1 m1
  have z13 := zgrow_0 (q := (40, 6561)) n13 (by decide)
  rw [n13]
  have m13 := z13.1
  have w13 := z13.2.2.2.2.2.2
  have f13 := z13.2.1
  generalize znew ν12 (40, 6561) = μ2 at *
  have m13 : zn μ2 = 136 := m13
  refine ⟨zokF (by rw [m13]; decide) (by decide) t0, ?_⟩
  have d14 : zcld μ → zcld (zupr μ2 0 13 (some 135)) := fun z => zupr_cld (w13 (d13 z)) (fun c e => by injection e with e; omega)
  obtain ⟨n14, r14, p13, c13⟩ := zstep (k := 13) f13 (by decide) r13 rfl m13 (i := 13) rfl
  generalize zupr μ2 0 13 (some 135) = ν13 at *
  clear c13 f13 z13
  refine ⟨ztz (by rw [n14]; decide) (by rw [n14]; decide +kernel), fun b1 μ1 e1 m1 => ?_⟩
  subst e1 m1
  have z14 := zgrow_0 (q := (40, 6561)) n14 (by decide)
  rw [n14]
  have m14 := z14.1
  have w14 := z14.2.2.2.2.2.2
  have f14 := z14.2.1
  generalize znew ν13 (40, 6561) = μ2 at *
  have m14 : zn μ2 = 137 := m14
  refine ⟨zokF (by rw [m14]; decide) (by decide) t0, ?_⟩
  have d15 : zcld μ → zcld (zupr μ2 0 14 (some 136)) := fun z => zupr_cld (w14 (d14 z)) (fun c e => by injection e with e; omega)
  obtain ⟨n15, r15, p14, c14⟩ := zstep (k := 14) f14 (by decide) r14 rfl m14 (i := 14) rfl
  generalize zupr μ2 0 14 (some 136) = ν14 at *
  clear c14 f14 z14
  have h14 : zb1 137 ν14 ν14 := zb1.refl _ _
  have h13 : zb1 136 ν13 ν14 := p14.trans h14 (by decide)
  have h12 : zb1 135 ν12 ν14 := p13.trans h13 (by decide)
  have h11 : zb1 134 ν11 ν14 := p12.trans h12 (by decide)
  have h10 : zb1 130 ν10 ν14 := p11.trans h11 (by decide)
  have h9 : zb1 128 ν9 ν14 := p10.trans h10 (by decide)
  have h8 : zb1 125 ν8 ν14 := p9.trans h9 (by decide)
  have h7 : zb1 119 ν7 ν14 := p8.trans h8 (by decide)
  have h6 : zb1 111 ν6 ν14 := p7.trans h7 (by decide)
  have h5 : zb1 105 ν5 ν14 := p6.trans h6 (by decide)
  have h4 : zb1 104 ν4 ν14 := p5.trans h5 (by decide)
  have h3 : zb1 103 ν3 ν14 := p4.trans h4 (by decide)
  have h2 : zb1 13 ν2 ν14 := p3.trans h3 (by decide)
  have h1 : zb1 5 ν1 ν14 := p2.trans h2 (by decide)
  have h0 : zb1 3 ν0 ν14 := p1.trans h1 (by decide)
  have t103 : zsTabR 103 = (44, 2) := by decide +kernel
  have key : ∀ (d v : Nat) (μ' : zM) (cn un : Nat), v + d = 2 → cn = 136 + 8 * v → un = 79153 + 467 * v → zn μ' = 137 + 8 * v → zb1 103 ν14 μ' → (∀ a, 104 ≤ a → a < 137 → (∀ j, zi μ' a j = zi ν14 a j) ∧ ∀ j, zr μ' a j = zr ν14 a j) → (∀ j : Nat, j < 15 → zr μ' 0 j = zex0 j) → (∀ w : Nat, w < v → zr μ' 103 w = some (137 + 8 * w) ∧ ∀ j : Nat, j < 6 → zr μ' (137 + 8 * w) j = some (137 + 8 * w + 1 + j)) → (zcld μ → zcld μ') → J 158 ([some (zR (some 0)), some (zI (v : Int))], [], μ', cn, un) := by
    intro d
    induction d with
    | zero =>
      intro v μ' cn un hv hcn hun hn' hb hb2 hr hw hcl9
      refine rX10_init_158 C _ ⟨by constructor <;> omega, fun _ => ⟨⟨by omega, by omega⟩, h μ' (by omega) ?_ hcl9⟩, fun z => absurd (by omega) z⟩
      have low : ∀ a, 1 ≤ a → a < 103 → (∀ j, zi μ' a j = zi ν14 a j) ∧ ∀ j, zr μ' a j = zr ν14 a j := hb
      refine ⟨hr, ?_, ?_, ?_, ?_, ?_, ?_, ?_, ?_, ?_, ?_, ?_, ?_, fun v hv => hw v (by omega), ?_, ?_, ?_, ?_, ?_, ?_, ?_, ?_⟩
      · rw [(low 1 (by decide) (by decide)).2, (h0 1 (by decide) (by decide)).2]; exact s0 0 (by decide)
      · rw [(low 3 (by decide) (by decide)).2, (h1 3 (by decide) (by decide)).2]; exact s1 0 (by decide)
      · exact zstm_b s2 (fun a x y => ⟨fun j => by rw [(low a (by omega) (by omega)).1, (h2 a (by omega) (by omega)).1], fun j => by rw [(low a (by omega) (by omega)).2, (h2 a (by omega) (by omega)).2]⟩)
      · rw [(low 13 (by decide) (by decide)).2, (h3 13 (by decide) (by decide)).2]; exact s3
      · exact fun v hv => ⟨by rw [(low 14 (by decide) (by decide)).2, (h3 14 (by decide) (by decide)).2]; exact (s3b v hv).1, fun j hj => by rw [(low _ (by omega) (by omega)).2, (h3 _ (by omega) (by omega)).2]; exact (s3b v hv).2 j hj⟩
      · exact fun j hj => by rw [(hb2 105 (by decide) (by decide)).2, (h6 105 (by decide) (by decide)).2]; exact s6 j hj
      · exact fun j hj => by rw [(hb2 111 (by decide) (by decide)).2, (h7 111 (by decide) (by decide)).2]; exact s7.2.2.2.2.2.2.2.2.2.2.1 j hj
      · exact fun j hj => by rw [(hb2 119 (by decide) (by decide)).2, (h8 119 (by decide) (by decide)).2]; exact s8 j hj
      · rw [(hb2 125 (by decide) (by decide)).2, (h9 125 (by decide) (by decide)).2]; exact s9
      · rw [(hb2 125 (by decide) (by decide)).2, (h9 125 (by decide) (by decide)).2]; exact s9b
      · rw [(hb2 128 (by decide) (by decide)).2, (h10 128 (by decide) (by decide)).2]; exact s10 0 (by decide)
      · exact fun j hj => by rw [(hb2 130 (by decide) (by decide)).2, (h11 130 (by decide) (by decide)).2]; exact s11 j hj
      · rw [(low 1 (by decide) (by decide)).1, (h0 1 (by decide) (by decide)).1]; exact i0
      · rw [(low 3 (by decide) (by decide)).1, (h1 3 (by decide) (by decide)).1]; exact i1
      · rw [(low 13 (by decide) (by decide)).1, (h3 13 (by decide) (by decide)).1]; exact i3
      · rw [(low 13 (by decide) (by decide)).1, (h3 13 (by decide) (by decide)).1]; exact i3b
      · exact fun i => by rw [(hb2 104 (by decide) (by decide)).1, (h5 104 (by decide) (by decide)).1]; exact i5 i
      · exact fun i q0 q1 => by rw [(hb2 106 (by decide) (by decide)).1, (h6 106 (by decide) (by decide)).1]; exact i6 i q0 q1
      · exact fun i q0 q1 => by rw [(hb2 120 (by decide) (by decide)).1, (h8 120 (by decide) (by decide)).1]; exact i8 i q0 q1
      · rw [(hb2 125 (by decide) (by decide)).1, (h9 125 (by decide) (by decide)).1]; exact i9
    | succ d ih =>
      intro v μ' cn un hv hcn hun hn' hb hb2 hr hw h9
      have bk : zblk (137 + 8 * v) := by
        rcases (show v = 0 ∨ v = 1 by omega) with c | c <;> rw [c]
        · exact zblk_o.2.2.1
        · exact zblk_o.2.2.2
      refine rX10_init_158 C _ ⟨by constructor <;> omega, fun z => absurd z (by omega), fun _ => ⟨zokF (by omega) (by decide) t0, ztz (by omega) (by rw [hn']; exact bk.2.1), ⟨by omega, by omega⟩, fun b4 μ4 e4 m4 => ⟨⟨by omega, by omega⟩, ?_⟩⟩⟩
      subst e4 m4
      have gz := zgrow_0 (q := (7, 9)) hn' (by omega)
      rw [hn']
      refine kX7_init bk gz fun μ5 n5 b5 s5 c5 => ⟨103, hr 4 (by decide), zokF (by omega) (by decide) t103, ⟨by omega, by omega⟩, zokF (by omega) (by omega) bk.2.1, ?_⟩
      have ir : ∀ a, a < 137 + 8 * v → a ≠ 103 → (∀ j, zi (zupr μ5 103 (v : Int) (some (137 + 8 * v))) a j = zi μ' a j) ∧ ∀ j, zr (zupr μ5 103 (v : Int) (some (137 + 8 * v))) a j = zr μ' a j := fun a ha h3 => ⟨fun j => by rw [zi_upr]; exact (b5 a ha).1 j, fun j => by rw [zr_ne (by omega)]; exact (b5 a ha).2 j⟩
      have e := ih (v + 1) (zupr μ5 103 (v : Int) (some (137 + 8 * v))) (cn + 1 + 7) (un + 9 + 458) (by omega) (by omega) (by omega) (by rw [zn_upr]; omega) (hb.trans (fun a h1 h2 => ir a (by omega) (by omega)) (Nat.le_refl _)) (fun a h1 h2 => ⟨fun j => ((ir a (by omega) (by omega)).1 j).trans ((hb2 a h1 h2).1 j), fun j => ((ir a (by omega) (by omega)).2 j).trans ((hb2 a h1 h2).2 j)⟩) (fun j hj => by rw [(ir 0 (by omega) (by omega)).2]; exact hr j hj) (fun w hw2 => ?_) (fun z => zupr_cld (c5 (h9 z)) (fun c e => by injection e with e; omega))
      · rw [show ((v + 1 : Nat) : Int) = (v : Int) + 1 by omega] at e
        exact e
      · by_cases c : w = v
        · rw [c]
          exact ⟨by rw [zr_upr, if_pos ⟨rfl, rfl⟩], fun j hj => by rw [zr_ne (by omega)]; exact s5.2.2.2.2.2.2.2.2.2.2.1 j hj⟩
        · obtain ⟨w1, w2⟩ := hw w (by omega)
          exact ⟨by rw [zr_ne (by omega), (b5 103 (by omega)).2]; exact w1, fun j hj => by rw [(ir _ (by omega) (by omega)).2]; exact w2 j hj⟩
  exact key 2 0 ν14 _ _ rfl rfl rfl n15 (zb1.refl _ _) (fun a _ _ => ⟨fun _ => rfl, fun _ => rfl⟩) r15 (fun w hw => absurd hw (by omega)) d15
end
