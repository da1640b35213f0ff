/-! what is made once: the reference -/
def zfld (k : Nat) : Int := ([0, 1, 3, 10, 12, 13, 14, 15, 16, 17, 19, 24, 25, 27, 28, 31, 32, 33, 34, 35, 36, 38, 40, 41, 42, 43, 44] : List Int).getD k 0
theorem zfld_ne : ∀ k m : Fin 27, k ≠ m → zfld k.val ≠ zfld m.val := by decide +kernel
def zgrm (μ0 : zM) (m : Nat) (μ : zM) : Prop := zn μ = 154 + m ∧ zbel 153 μ0 μ ∧ (∀ a, 153 ≤ a → a < zn μ → ∀ i, zi μ a i = 0) ∧ (∀ k : Nat, k < m → zr μ 153 (zfld k) = some (154 + k)) ∧ (zcld μ0 → zcld μ)
theorem zgrm_s {μ0 μ : zM} {m : Nat} {q : Nat × Nat} (h : zgrm μ0 m μ) {j : Int} (hm : m < 27) (hj : j = zfld m) : zgrm μ0 (m + 1) (zupr (znew μ q) 153 j (some (zn μ))) := by
  obtain ⟨h1, h2, h3, h4, h5⟩ := h
  refine ⟨by rw [zn_upr, zn_new, h1]; omega, fun a ha => ⟨fun i => by rw [zi_upr, zi_new, if_neg (by omega)]; exact (h2 a ha).1 i, fun i => by rw [zr_upr, if_neg (by omega), zr_new, if_neg (by omega)]; exact (h2 a ha).2 i⟩, fun a q1 q2 i => ?_, fun k hk => ?_, fun z => zupr_cld (znew_cld (h5 z) (Or.inl (by omega))) (fun c e => by injection e with e; rw [zn_new]; omega)⟩
  · rw [zn_upr, zn_new] at q2
    rw [zi_upr, zi_new]
    split
    · rfl
    · exact h3 a q1 (by omega) i
  · rw [zr_upr]
    by_cases c : k = m
    · rw [c, if_pos ⟨rfl, hj.symm⟩, h1]
    · have hne := zfld_ne ⟨k, by omega⟩ ⟨m, hm⟩ (fun e => c (by injection e))
      have hne : zfld k ≠ zfld m := hne
      rw [if_neg (fun z => hne (by rw [z.2, hj])), zr_new, if_neg (by omega)]
      exact h4 k (by omega)
/-- the state as the reference lays it -/
def zst2m : Nat → Int → (Int → Int) → Int → Int
  | 0, _, f => f
  | n + 1, x1, f => zst2m n (x1 + 1) (zupd (zst1s 7 x1 4 0 (zupd f x1 100)) (708 + x1) 1)
def zstg (x1 : Int) : Nat → Int → (Int → Int) → Int → Int
  | 0, _, f => f
  | n + 1, x2, f => zstg x1 n (x2 + 1) (zupd f (324 + 9 * x1 + x2) x2)
def zstg4 : Nat → Int → (Int → Int) → Int → Int
  | 0, _, f => f
  | n + 1, x1, f => zstg4 n (x1 + 1) (zstg x1 9 0 f)
def zend3 (f : Int → Int) : Int → Int := zupd (zupd (zupd f 704 32) 705 2) 707 8
theorem zS0_m : ∀ i : Fin 711, zend3 (zstg4 4 0 (zst2m 3 0 (fun _ => 0))) (i.val : Int) = zS0 (i.val : Int) := by decide +kernel
theorem zta_7 : ∀ x : Fin 4, 1 ≤ zta 7 (x.val : Int) ∧ zta 7 (x.val : Int) ≤ 27 := by decide +kernel
theorem zta_7I {x : Int} (h : 0 ≤ x ∧ x < 4) : 1 ≤ zta 7 x ∧ zta 7 x ≤ 27 := by
  have := zta_7 ⟨x.toNat, by omega⟩
  rw [show (((⟨x.toNat, by omega⟩ : Fin 4).val : Nat) : Int) = x from by show ((x.toNat : Nat) : Int) = x; omega] at this
  exact this
section
variable {G : zG}
theorem kX11_init {F : zM → Prop} {μ : zM} (hn : zn μ = 154) (hz : ∀ i, zi μ 153 i = 0) (h : ∀ μ', zn μ' = 181 → zbel 153 μ μ' → zMs μ' zS0 → zcds μ' → (∀ a, a = 153 ∨ a = 180 → ∀ i, zi μ' a i = 0) → (∀ k : Nat, k < 27 → zr μ' 153 (zfld k) = some (154 + k)) → (zcld μ → zcld μ') → F μ') : qX11_init G μ F := by
  have t0 : zsTabR 153 = (11, 45) := by decide +kernel
  have g0 : zgrm μ 0 μ := ⟨hn, zbel.refl _ _, fun a h1 h2 i => by rw [show a = 153 by omega]; exact hz i, fun k hk => absurd hk (by omega), id⟩
  refine eX11_init fun J C => rX11_init_e C ?_
  refine ⟨ztz (by rw [g0.1]; decide) (by rw [g0.1]; decide +kernel), fun b1 μ1 e1 m1 => ?_⟩
  subst e1 m1
  have q0 := g0.1
  replace g0 := zgrm_s (q := (40, 711)) g0 (j := 0) (by decide) rfl
  refine ⟨zokF (by rw [zn_new, q0]; decide) (by decide) t0, ?_⟩
  clear q0
  generalize zupr (znew μ (40, 711)) 153 0 (some (zn μ)) = ν1 at *
  refine ⟨ztz (by rw [g0.1]; decide) (by rw [g0.1]; decide +kernel), fun b1 μ1 e1 m1 => ?_⟩
  subst e1 m1
  have q0 := g0.1
  replace g0 := zgrm_s (q := (43, 80)) g0 (j := 1) (by decide) rfl
  refine ⟨zokF (by rw [zn_new, q0]; decide) (by decide) t0, ?_⟩
  clear q0
  generalize zupr (znew ν1 (43, 80)) 153 1 (some (zn ν1)) = ν2 at *
  refine ⟨ztz (by rw [g0.1]; decide) (by rw [g0.1]; decide +kernel), fun b1 μ1 e1 m1 => ?_⟩
  subst e1 m1
  have q0 := g0.1
  replace g0 := zgrm_s (q := (41, 16)) g0 (j := 3) (by decide) rfl
  refine ⟨zokF (by rw [zn_new, q0]; decide) (by decide) t0, ?_⟩
  clear q0
  generalize zupr (znew ν2 (41, 16)) 153 3 (some (zn ν2)) = ν3 at *
  refine ⟨ztz (by rw [g0.1]; decide) (by rw [g0.1]; decide +kernel), fun b1 μ1 e1 m1 => ?_⟩
  subst e1 m1
  have q0 := g0.1
  replace g0 := zgrm_s (q := (40, 320)) g0 (j := 10) (by decide) rfl
  refine ⟨zokF (by rw [zn_new, q0]; decide) (by decide) t0, ?_⟩
  clear q0
  generalize zupr (znew ν3 (40, 320)) 153 10 (some (zn ν3)) = ν4 at *
  refine ⟨ztz (by rw [g0.1]; decide) (by rw [g0.1]; decide +kernel), fun b1 μ1 e1 m1 => ?_⟩
  subst e1 m1
  have q0 := g0.1
  replace g0 := zgrm_s (q := (40, 243)) g0 (j := 12) (by decide) rfl
  refine ⟨zokF (by rw [zn_new, q0]; decide) (by decide) t0, ?_⟩
  clear q0
  generalize zupr (znew ν4 (40, 243)) 153 12 (some (zn ν4)) = ν5 at *
  refine ⟨ztz (by rw [g0.1]; decide) (by rw [g0.1]; decide +kernel), fun b1 μ1 e1 m1 => ?_⟩
  subst e1 m1
  have q0 := g0.1
  replace g0 := zgrm_s (q := (40, 19683)) g0 (j := 13) (by decide) rfl
  refine ⟨zokF (by rw [zn_new, q0]; decide) (by decide) t0, ?_⟩
  clear q0
  generalize zupr (znew ν5 (40, 19683)) 153 13 (some (zn ν5)) = ν6 at *
  refine ⟨ztz (by rw [g0.1]; decide) (by rw [g0.1]; decide +kernel), fun b1 μ1 e1 m1 => ?_⟩
  subst e1 m1
  have q0 := g0.1
  replace g0 := zgrm_s (q := (40, 5)) g0 (j := 14) (by decide) rfl
  refine ⟨zokF (by rw [zn_new, q0]; decide) (by decide) t0, ?_⟩
  clear q0
  generalize zupr (znew ν6 (40, 5)) 153 14 (some (zn ν6)) = ν7 at *
  refine ⟨ztz (by rw [g0.1]; decide) (by rw [g0.1]; decide +kernel), fun b1 μ1 e1 m1 => ?_⟩
  subst e1 m1
  have q0 := g0.1
  replace g0 := zgrm_s (q := (40, 5)) g0 (j := 15) (by decide) rfl
  refine ⟨zokF (by rw [zn_new, q0]; decide) (by decide) t0, ?_⟩
  clear q0
  generalize zupr (znew ν7 (40, 5)) 153 15 (some (zn ν7)) = ν8 at *
  refine ⟨ztz (by rw [g0.1]; decide) (by rw [g0.1]; decide +kernel), fun b1 μ1 e1 m1 => ?_⟩
  subst e1 m1
  have q0 := g0.1
  replace g0 := zgrm_s (q := (40, 6561)) g0 (j := 16) (by decide) rfl
  refine ⟨zokF (by rw [zn_new, q0]; decide) (by decide) t0, ?_⟩
  clear q0
  generalize zupr (znew ν8 (40, 6561)) 153 16 (some (zn ν8)) = ν9 at *
  refine ⟨ztz (by rw [g0.1]; decide) (by rw [g0.1]; decide +kernel), fun b1 μ1 e1 m1 => ?_⟩
  subst e1 m1
  have q0 := g0.1
  replace g0 := zgrm_s (q := (40, 6561)) g0 (j := 17) (by decide) rfl
  refine ⟨zokF (by rw [zn_new, q0]; decide) (by decide) t0, ?_⟩
  clear q0
  generalize zupr (znew ν9 (40, 6561)) 153 17 (some (zn ν9)) = ν10 at *
  refine ⟨ztz (by rw [g0.1]; decide) (by rw [g0.1]; decide +kernel), fun b1 μ1 e1 m1 => ?_⟩
  subst e1 m1
  have q0 := g0.1
  replace g0 := zgrm_s (q := (40, 4)) g0 (j := 19) (by decide) rfl
  refine ⟨zokF (by rw [zn_new, q0]; decide) (by decide) t0, ?_⟩
  clear q0
  generalize zupr (znew ν10 (40, 4)) 153 19 (some (zn ν10)) = ν11 at *
  refine ⟨ztz (by rw [g0.1]; decide) (by rw [g0.1]; decide +kernel), fun b1 μ1 e1 m1 => ?_⟩
  subst e1 m1
  have q0 := g0.1
  replace g0 := zgrm_s (q := (40, 6561)) g0 (j := 24) (by decide) rfl
  refine ⟨zokF (by rw [zn_new, q0]; decide) (by decide) t0, ?_⟩
  clear q0
  generalize zupr (znew ν11 (40, 6561)) 153 24 (some (zn ν11)) = ν12 at *
  refine ⟨ztz (by rw [g0.1]; decide) (by rw [g0.1]; decide +kernel), fun b1 μ1 e1 m1 => ?_⟩
  subst e1 m1
  have q0 := g0.1
  replace g0 := zgrm_s (q := (40, 3)) g0 (j := 25) (by decide) rfl
  refine ⟨zokF (by rw [zn_new, q0]; decide) (by decide) t0, ?_⟩
  clear q0
  generalize zupr (znew ν12 (40, 3)) 153 25 (some (zn ν12)) = ν13 at *
  refine ⟨ztz (by rw [g0.1]; decide) (by rw [g0.1]; decide +kernel), fun b1 μ1 e1 m1 => ?_⟩
  subst e1 m1
  have q0 := g0.1
  replace g0 := zgrm_s (q := (40, 6561)) g0 (j := 27) (by decide) rfl
  refine ⟨zokF (by rw [zn_new, q0]; decide) (by decide) t0, ?_⟩
  clear q0
  generalize zupr (znew ν13 (40, 6561)) 153 27 (some (zn ν13)) = ν14 at *
  refine ⟨ztz (by rw [g0.1]; decide) (by rw [g0.1]; decide +kernel), fun b1 μ1 e1 m1 => ?_⟩
  subst e1 m1
  have q0 := g0.1
  replace g0 := zgrm_s (q := (40, 6561)) g0 (j := 28) (by decide) rfl
  refine ⟨zokF (by rw [zn_new, q0]; decide) (by decide) t0, ?_⟩
  clear q0
  generalize zupr (znew ν14 (40, 6561)) 153 28 (some (zn ν14)) = ν15 at *
  refine ⟨ztz (by rw [g0.1]; decide) (by rw [g0.1]; decide +kernel), fun b1 μ1 e1 m1 => ?_⟩
  subst e1 m1
  have q0 := g0.1
  replace g0 := zgrm_s (q := (41, 6561)) g0 (j := 31) (by decide) rfl
  refine ⟨zokF (by rw [zn_new, q0]; decide) (by decide) t0, ?_⟩
  clear q0
  generalize zupr (znew ν15 (41, 6561)) 153 31 (some (zn ν15)) = ν16 at *
  refine ⟨ztz (by rw [g0.1]; decide) (by rw [g0.1]; decide +kernel), fun b1 μ1 e1 m1 => ?_⟩
  subst e1 m1
  have q0 := g0.1
  replace g0 := zgrm_s (q := (41, 6561)) g0 (j := 32) (by decide) rfl
  refine ⟨zokF (by rw [zn_new, q0]; decide) (by decide) t0, ?_⟩
  clear q0
  generalize zupr (znew ν16 (41, 6561)) 153 32 (some (zn ν16)) = ν17 at *
  refine ⟨ztz (by rw [g0.1]; decide) (by rw [g0.1]; decide +kernel), fun b1 μ1 e1 m1 => ?_⟩
  subst e1 m1
  have q0 := g0.1
  replace g0 := zgrm_s (q := (40, 64)) g0 (j := 33) (by decide) rfl
  refine ⟨zokF (by rw [zn_new, q0]; decide) (by decide) t0, ?_⟩
  clear q0
  generalize zupr (znew ν17 (40, 64)) 153 33 (some (zn ν17)) = ν18 at *
  refine ⟨ztz (by rw [g0.1]; decide) (by rw [g0.1]; decide +kernel), fun b1 μ1 e1 m1 => ?_⟩
  subst e1 m1
  have q0 := g0.1
  replace g0 := zgrm_s (q := (40, 192)) g0 (j := 34) (by decide) rfl
  refine ⟨zokF (by rw [zn_new, q0]; decide) (by decide) t0, ?_⟩
  clear q0
  generalize zupr (znew ν18 (40, 192)) 153 34 (some (zn ν18)) = ν19 at *
  refine ⟨ztz (by rw [g0.1]; decide) (by rw [g0.1]; decide +kernel), fun b1 μ1 e1 m1 => ?_⟩
  subst e1 m1
  have q0 := g0.1
  replace g0 := zgrm_s (q := (40, 81)) g0 (j := 35) (by decide) rfl
  refine ⟨zokF (by rw [zn_new, q0]; decide) (by decide) t0, ?_⟩
  clear q0
  generalize zupr (znew ν19 (40, 81)) 153 35 (some (zn ν19)) = ν20 at *
  refine ⟨ztz (by rw [g0.1]; decide) (by rw [g0.1]; decide +kernel), fun b1 μ1 e1 m1 => ?_⟩
  subst e1 m1
  have q0 := g0.1
  replace g0 := zgrm_s (q := (40, 19683)) g0 (j := 36) (by decide) rfl
  refine ⟨zokF (by rw [zn_new, q0]; decide) (by decide) t0, ?_⟩
  clear q0
  generalize zupr (znew ν20 (40, 19683)) 153 36 (some (zn ν20)) = ν21 at *
  refine ⟨ztz (by rw [g0.1]; decide) (by rw [g0.1]; decide +kernel), fun b1 μ1 e1 m1 => ?_⟩
  subst e1 m1
  have q0 := g0.1
  replace g0 := zgrm_s (q := (40, 7110)) g0 (j := 38) (by decide) rfl
  refine ⟨zokF (by rw [zn_new, q0]; decide) (by decide) t0, ?_⟩
  clear q0
  generalize zupr (znew ν21 (40, 7110)) 153 38 (some (zn ν21)) = ν22 at *
  refine ⟨ztz (by rw [g0.1]; decide) (by rw [g0.1]; decide +kernel), fun b1 μ1 e1 m1 => ?_⟩
  subst e1 m1
  have q0 := g0.1
  replace g0 := zgrm_s (q := (40, 711)) g0 (j := 40) (by decide) rfl
  refine ⟨zokF (by rw [zn_new, q0]; decide) (by decide) t0, ?_⟩
  clear q0
  generalize zupr (znew ν22 (40, 711)) 153 40 (some (zn ν22)) = ν23 at *
  refine ⟨ztz (by rw [g0.1]; decide) (by rw [g0.1]; decide +kernel), fun b1 μ1 e1 m1 => ?_⟩
  subst e1 m1
  have q0 := g0.1
  replace g0 := zgrm_s (q := (40, 711)) g0 (j := 41) (by decide) rfl
  refine ⟨zokF (by rw [zn_new, q0]; decide) (by decide) t0, ?_⟩
  clear q0
  generalize zupr (znew ν23 (40, 711)) 153 41 (some (zn ν23)) = ν24 at *
  refine ⟨ztz (by rw [g0.1]; decide) (by rw [g0.1]; decide +kernel), fun b1 μ1 e1 m1 => ?_⟩
  subst e1 m1
  have q0 := g0.1
  replace g0 := zgrm_s (q := (40, 400)) g0 (j := 42) (by decide) rfl
  refine ⟨zokF (by rw [zn_new, q0]; decide) (by decide) t0, ?_⟩
  clear q0
  generalize zupr (znew ν24 (40, 400)) 153 42 (some (zn ν24)) = ν25 at *
  refine ⟨ztz (by rw [g0.1]; decide) (by rw [g0.1]; decide +kernel), fun b1 μ1 e1 m1 => ?_⟩
  subst e1 m1
  have q0 := g0.1
  replace g0 := zgrm_s (q := (40, 1422)) g0 (j := 43) (by decide) rfl
  refine ⟨zokF (by rw [zn_new, q0]; decide) (by decide) t0, ?_⟩
  clear q0
  generalize zupr (znew ν25 (40, 1422)) 153 43 (some (zn ν25)) = ν26 at *
  refine ⟨ztz (by rw [g0.1]; decide) (by rw [g0.1]; decide +kernel), fun b1 μ1 e1 m1 => ?_⟩
  subst e1 m1
  have q0 := g0.1
  replace g0 := zgrm_s (q := (42, 2)) g0 (j := 44) (by decide) rfl
  refine ⟨zokF (by rw [zn_new, q0]; decide) (by decide) t0, ?_⟩
  clear q0
  generalize zupr (znew ν26 (42, 2)) 153 44 (some (zn ν26)) = μA at *
  obtain ⟨n1, f1, z1, r1, fc⟩ := g0
  have ok : ∀ (P : Nat → Int → Prop) (μ' : zM), zsm P μA μ' → ∀ (a : Nat) (q : Nat × Nat), a < 181 → zsTabR a = q → zok false μ' a q := fun P μ' g a q ha hq => zokF (by rw [g.2.2.2, n1]; omega) (by omega) hq
  have rf : ∀ (P : Nat → Int → Prop) (μ' : zM), zsm P μA μ' → zr μ' 153 0 = some 154 := fun P μ' g => by rw [g.2.1]; exact r1 0 (by decide)
  have rf16 : ∀ (P : Nat → Int → Prop) (μ' : zM), zsm P μA μ' → zr μ' 153 16 = some 162 := fun P μ' g => by rw [g.2.1]; exact r1 8 (by decide)
  have t154 : zsTabR 154 = (40, 711) := by decide +kernel
  have t162 : zsTabR 162 = (40, 6561) := by decide +kernel
  -- the codes, the end
  have codes : ∀ (n : Nat) (x : Int) (f : Int → Int) (μ' : zM), (n : Int) = 6561 - x → 0 ≤ x → x ≤ 6561 → zsm (fun c _ => c = 154 ∨ c = 162) μA μ' → (∀ i, 0 ≤ i → i < 711 → zi μ' 154 i = f i) → (∀ i, 0 ≤ i → i < 711 → zend3 f i = zS0 i) → (∀ i, 0 ≤ i → i < x → zi μ' 162 i = zcd i) → J 365 ([some (zR (some 153)), some (zI x), none, none], [], μ', 27, 97373) := by
    intro n
    induction n with
    | zero =>
      intro x f μ' hn h0 h1 g hf he hc
      refine rX11_init_365 C _ ⟨by constructor <;> omega, fun _ => ⟨ok _ _ g _ _ (by decide) t0, 154, rf _ _ g, ok _ _ g _ _ (by decide) t154, ok _ _ (g.up _ (Or.inl rfl)) _ _ (by decide) t0, 154, rf _ _ (g.up _ (Or.inl rfl)), ok _ _ (g.up _ (Or.inl rfl)) _ _ (by decide) t154, ok _ _ ((g.up _ (Or.inl rfl)).up _ (Or.inl rfl)) _ _ (by decide) t0, 154, rf _ _ ((g.up _ (Or.inl rfl)).up _ (Or.inl rfl)), ok _ _ ((g.up _ (Or.inl rfl)).up _ (Or.inl rfl)) _ _ (by decide) t154, ⟨by decide, by decide⟩, ?_⟩, fun z => absurd (by omega) z⟩
      have g2 : zsm (fun c _ => c = 154 ∨ c = 162) μA (zup (zup (zup μ' 154 704 32) 154 705 2) 154 707 8) := ((g.up _ (Or.inl rfl)).up _ (Or.inl rfl)).up _ (Or.inl rfl)
      refine h _ (by rw [g2.2.2.2, n1]) (fun a ha => ⟨fun j => by rw [g2.1 _ _ (by omega)]; exact (f1 a ha).1 j, fun j => by rw [g2.2.1]; exact (f1 a ha).2 j⟩) (fun i i0 i1 => ?_) (fun i i0 i1 => ?_) (fun a ha i => by rw [g2.1 _ _ (by omega)]; exact z1 a (by omega) (by omega) i) (fun k hk => by rw [g2.2.1]; exact r1 k hk) (fun z => g2.cld (fc z))
      · rw [← he i i0 i1]
        unfold zend3
        by_cases c1 : i = 707
        · rw [c1, zupd_at, zi_at]
        · rw [zupd_off c1, zi_off (by omega)]
          by_cases c2 : i = 705
          · rw [c2, zupd_at, zi_at]
          · rw [zupd_off c2, zi_off (by omega)]
            by_cases c3 : i = 704
            · rw [c3, zupd_at, zi_at]
            · rw [zupd_off c3, zi_off (by omega)]; exact hf i i0 i1
      · rw [zi_off (by omega), zi_off (by omega), zi_off (by omega)]; exact hc i i0 (by omega)
    | succ n ih =>
      intro x f μ' hn h0 h1 g hf he hc
      refine rX11_init_365 C _ ⟨by constructor <;> omega, fun z => absurd z (by omega), fun _ => ⟨ok _ _ g _ _ (by decide) t0, ⟨by decide, by decide⟩, kX11_codeOf (by constructor <;> omega) ⟨162, rf16 _ _ g, ok _ _ g _ _ (by decide) t162, ⟨by omega, by omega⟩, ih (x + 1) f _ (by omega) (by omega) (by omega) (g.up _ (Or.inr rfl)) (fun i i0 i1 => by rw [zi_off (by omega)]; exact hf i i0 i1) he (fun i i0 i1 => ?_)⟩⟩⟩
      by_cases c : i = x
      · rw [c, zi_at]
      · rw [zi_off (by omega)]; exact hc i i0 (by omega)
  -- the curves
  have inks : ∀ (n : Nat) (x : Int) (f : Int → Int) (μ' : zM), (n : Int) = 4 - x → 0 ≤ x → x ≤ 4 → zsm (fun c _ => c = 154 ∨ c = 162) μA μ' → (∀ i, 0 ≤ i → i < 711 → zi μ' 154 i = f i) → (∀ i, 0 ≤ i → i < 711 → zend3 (zstg4 n x f) i = zS0 i) → J 347 ([some (zR (some 153)), some (zI x), none, none], [], μ', 27, 97373) := by
    intro n
    induction n with
    | zero =>
      intro x f μ' hn h0 h1 g hf he
      exact rX11_init_347 C _ ⟨by constructor <;> omega, fun _ => codes 6561 0 f μ' (by decide) (by decide) (by decide) g hf he (fun i i0 i1 => absurd i1 (by omega)), fun z => absurd (by omega) z⟩
    | succ n ih =>
      intro x f μ' hn h0 h1 g hf he
      refine rX11_init_347 C _ ⟨by constructor <;> omega, fun z => absurd z (by omega), fun _ => ⟨ok _ _ g _ _ (by decide) t0, ⟨by decide, by decide⟩, eX11_straighten_w fun J2 C2 => rX11_straighten_w_e C2 _ ?_⟩⟩
      have row : ∀ (m : Nat) (y : Int) (f : Int → Int) (μ' : zM), (m : Int) = 9 - y → 0 ≤ y → y ≤ 9 → zsm (fun c _ => c = 154 ∨ c = 162) μA μ' → (∀ i, 0 ≤ i → i < 711 → zi μ' 154 i = f i) → (∀ i, 0 ≤ i → i < 711 → zend3 (zstg4 n (x + 1) (zstg x m y f)) i = zS0 i) → J2 2 ([some (zR (some 153)), some (zI x), some (zI y)], [], μ', 0, 0) := by
        intro m
        induction m with
        | zero =>
          intro y f μ' hm q0 q1 g hf he
          exact rX11_straighten_w_2 C2 _ _ ⟨by constructor <;> omega, fun _ => ih (x + 1) f μ' (by omega) (by omega) (by omega) g hf he, fun z => absurd (by omega) z⟩
        | succ m ihm =>
          intro y f μ' hm q0 q1 g hf he
          refine rX11_straighten_w_2 C2 _ _ ⟨by constructor <;> omega, fun z => absurd z (by omega), fun _ => ⟨ok _ _ g _ _ (by decide) t0, 154, rf _ _ g, ok _ _ g _ _ (by decide) t154, ⟨by omega, by omega⟩, ihm (y + 1) (zupd f (324 + 9 * x + y) y) _ (by omega) (by omega) (by omega) (g.up _ (Or.inl rfl)) (fun i i0 i1 => ?_) he⟩⟩
          by_cases c : i = 324 + 9 * x + y
          · rw [c, zupd_at, zi_at]
          · rw [zupd_off c, zi_off (by omega)]; exact hf i i0 i1
      exact row 9 0 f μ' (by decide) (by decide) (by decide) g hf he
  -- the lights
  have lights : ∀ (n : Nat) (x1 : Int) (f : Int → Int) (μ' : zM), (n : Int) = 3 - x1 → 0 ≤ x1 → x1 ≤ 3 → zsm (fun c _ => c = 154 ∨ c = 162) μA μ' → (∀ i, 0 ≤ i → i < 711 → zi μ' 154 i = f i) → (∀ i, 0 ≤ i → i < 711 → zend3 (zstg4 4 0 (zst2m n x1 f)) i = zS0 i) → J 235 ([some (zR (some 153)), some (zI x1), none, none], [], μ', 27, 97373) := by
    intro n
    induction n with
    | zero =>
      intro x1 f μ' hn h0 h1 g hf he
      exact rX11_init_235 C _ ⟨by constructor <;> omega, fun _ => inks 4 0 f μ' (by decide) (by decide) (by decide) g hf he, fun z => absurd (by omega) z⟩
    | succ n ih =>
      intro x1 f μ' hn h0 h1 g hf he
      refine rX11_init_235 C _ ⟨by constructor <;> omega, fun z => absurd z (by omega), fun _ => ⟨ok _ _ g _ _ (by decide) t0, 154, rf _ _ g, ok _ _ g _ _ (by decide) t154, ⟨by omega, by omega⟩, ?_⟩⟩
      have band : ∀ (m : Nat) (x2 : Int) (f : Int → Int) (μ' : zM), (m : Int) = 4 - x2 → 0 ≤ x2 → x2 ≤ 4 → zsm (fun c _ => c = 154 ∨ c = 162) μA μ' → (∀ i, 0 ≤ i → i < 711 → zi μ' 154 i = f i) → (∀ i, 0 ≤ i → i < 711 → zend3 (zstg4 4 0 (zst2m n (x1 + 1) (zupd (zst1s 7 x1 m x2 f) (708 + x1) 1))) i = zS0 i) → J 250 ([some (zR (some 153)), some (zI x1), some (zI x2), none], [], μ', 27, 97373) := by
        intro m
        induction m with
        | zero =>
          intro x2 f μ' hm q0 q1 g hf he
          refine rX11_init_250 C _ _ ⟨by constructor <;> omega, fun _ => ⟨ok _ _ g _ _ (by decide) t0, 154, rf _ _ g, ok _ _ g _ _ (by decide) t154, ⟨by omega, by omega⟩, ih (x1 + 1) (zupd f (708 + x1) 1) _ (by omega) (by omega) (by omega) (g.up _ (Or.inl rfl)) (fun i i0 i1 => ?_) he⟩, fun z => absurd (by omega) z⟩
          by_cases c : i = 708 + x1
          · rw [c, zupd_at, zi_at]
          · rw [zupd_off c, zi_off (by omega)]; exact hf i i0 i1
        | succ m ihm =>
          intro x2 f μ' hm q0 q1 g hf he
          have ht := zta_7I (x := x2) ⟨q0, by omega⟩
          have okb := ok _ _ g _ _ (by decide) t0
          have ok1 := ok _ _ g _ _ (by decide) t154
          have r0 := rf _ _ g
          have two : ∀ u w : Int, u = (if x2 = x1 ∨ x2 = 3 then 50 else 90) → w = (if x2 = x1 ∨ x2 = 3 then 10 else 80) → J 250 ([some (zR (some 153)), some (zI x1), some (zI (x2 + 1)), none], [], zup (zup μ' 154 ((3 * (zta 7 x2)) + x1) u) 154 ((6 * (zta 7 x2)) + x1) w, 27, 97373) := by
            intro u w hu hw
            refine ihm (x2 + 1) (zst1 7 x1 x2 f) _ (by omega) (by omega) (by omega) ((g.up _ (Or.inl rfl)).up _ (Or.inl rfl)) (fun p p0 p1 => ?_) he
            have e2 : zta (7 : Int).toNat x2 = zta 7 x2 := rfl
            unfold zst1
            rw [e2]
            by_cases c1 : p = 6 * zta 7 x2 + x1
            · rw [c1, zupd_at, zi_at, hw]
            · rw [zupd_off c1, zi_off (by omega)]
              by_cases c2 : p = 3 * zta 7 x2 + x1
              · rw [c2, zupd_at, zi_at, hu]
              · rw [zupd_off c2, zi_off (by omega)]; exact hf p p0 p1
          have j270 : ∀ q : Int, q = (if x2 = x1 ∨ x2 = 3 then 1 else 0) → J 270 ([some (zR (some 153)), some (zI x1), some (zI x2), none], [zI q], μ', 27, 97373) := by
            intro q hq
            have hq2 : q = 0 ∨ q = 1 := by rw [hq]; split <;> omega
            refine rX11_init_270 C _ _ _ ⟨okb, ⟨q0, by omega⟩, by constructor <;> omega, fun z => ⟨154, r0, ok1, ⟨by omega, by omega⟩, okb, fun _ => ⟨154, r0, ok1, ⟨by omega, by omega⟩, ?_⟩, fun y => absurd z y⟩, fun z => ⟨154, r0, ok1, ⟨by omega, by omega⟩, okb, fun y => absurd y z, fun _ => ⟨154, r0, ok1, ⟨by omega, by omega⟩, ?_⟩⟩⟩
            · have hc2 : ¬ (x2 = x1 ∨ x2 = 3) := fun y => by rw [if_pos y] at hq; omega
              exact two 90 80 (by rw [if_neg hc2]) (by rw [if_neg hc2])
            · have hc2 : x2 = x1 ∨ x2 = 3 := by
                by_cases y : x2 = x1 ∨ x2 = 3
                · exact y
                · rw [if_neg y] at hq; exact absurd hq z
              exact two 50 10 (by rw [if_pos hc2]) (by rw [if_pos hc2])
          refine rX11_init_250 C _ _ ⟨by constructor <;> omega, fun z => absurd z (by omega), fun _ => ⟨fun z => j270 1 (by rw [if_pos (Or.inr z)]), fun z => ⟨by constructor <;> omega, fun y => j270 0 (by rw [if_neg (by omega)]), fun y => j270 1 (by rw [if_pos (Or.inl y)])⟩⟩⟩
      refine band 4 0 (zupd f x1 100) _ (by decide) (by decide) (by decide) (g.up _ (Or.inl rfl)) (fun p p0 p1 => ?_) he
      by_cases c : p = x1
      · rw [c, zupd_at, zi_at]
      · rw [zupd_off c, zi_off (by omega)]; exact hf p p0 p1
  exact lights 3 0 (fun _ => 0) μA (by decide) (by decide) (by decide) (zsm.refl _ _) (fun i i0 i1 => z1 154 (by decide) (by rw [n1]; decide) i) (fun i i0 i1 => by
    have e := zS0_m ⟨i.toNat, by omega⟩
    have e2 : (((⟨i.toNat, by omega⟩ : Fin 711).val : Nat) : Int) = i := by show ((i.toNat : Nat) : Int) = i; omega
    rw [e2] at e
    exact e)
end
