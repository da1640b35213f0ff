/-! what is made once: the class -/
theorem kJ7_fillF {G : zG} {F : zM → Prop} {μ : zM} {a n : Nat} {x : Int} (hk : ∀ μ' : zM, zn μ' = zn μ → zok false μ' a (40, n)) (hn : n < 2147483648) (h : ∀ μ', zsm (fun b _ => b = a) μ μ' → (∀ i : Int, 0 ≤ i → i < n → zi μ' a i = x) → F μ') : qJ7_fill_53178 G false a x μ F := by
  refine eJ7_fill_53178 fun J C => rJ7_fill_53178_e C _ _ ⟨n, hn, hk μ rfl, ?_⟩
  refine zfor (lo := 0) (hi := (n : Int)) (by omega) (P := fun i => ∀ μ', zsm (fun b _ => b = a) μ μ' → (∀ j : Int, 0 ≤ j → j < i → zi μ' a j = x) → J 5 ([some (zR (some a)), some (zI x), some (zI i), some (zI (n : Int))], [], μ', 0, 0)) ?_ ?_ μ (zsm.refl _ _) (fun j h0 h1 => absurd h0 (by omega))
  · intro μ1 g1 g2
    exact rJ7_fill_53178_5 C _ _ _ _ ⟨by constructor <;> omega, by constructor <;> omega, fun _ => h μ1 g1 g2, fun c => absurd (Int.le_refl _) c⟩
  · intro i h0 h1 hj μ1 g1 g2
    refine rJ7_fill_53178_5 C _ _ _ _ ⟨by constructor <;> omega, by constructor <;> omega, fun c => absurd c (by omega), fun _ => ⟨n, hn, hk μ1 g1.2.2.2, ⟨h0, h1⟩, hj _ (g1.up _ rfl) (fun j j0 j1 => ?_)⟩⟩
    by_cases e : j = i
    · subst e; exact zi_at
    · rw [zi_off (by omega)]; exact g2 j j0 (by omega)
theorem ztz {μ : zM} {q : Nat × Nat} (h1 : zn μ < 182) (h2 : zsTabR (zn μ) = q) : zs false (znew μ q) (zn μ) = q := by rw [zsF h1]; exact h2
section
variable {G : zG} {μ0 μ : zM} {b : Nat} {F : zM → Prop}
theorem kX9_init (hb : b + 1 < 182 ∧ zsTabR b = (9, 2) ∧ zsTabR (b + 1) = (40, 80)) (hg : zgrow μ0 b 0 μ) (h : ∀ μ', zgrow μ0 b 1 μ' → F μ') : qX9_init G b μ F := by
  have n0 := hg.1
  refine eX9_init fun J C => rX9_init_e C b ⟨ztz (by omega) (by rw [n0]; exact hb.2.2), fun b1 μ1 e1 m1 => ?_⟩
  subst e1 m1
  exact ⟨zokF (by rw [zn_new]; omega) (by omega) hb.2.1, h _ (zgrow_s hg rfl (by omega))⟩
theorem kX6_init (hb : b + 1 < 182 ∧ zsTabR b = (6, 2) ∧ zsTabR (b + 1) = (41, 9)) (hg : zgrow μ0 b 0 μ) (h : ∀ μ', zgrow μ0 b 1 μ' → F μ') : qX6_init G b μ F := by
  have n0 := hg.1
  refine eX6_init fun J C => rX6_init_e C b ⟨ztz (by omega) (by rw [n0]; exact hb.2.2), fun b1 μ1 e1 m1 => ?_⟩
  subst e1 m1
  exact ⟨zokF (by rw [zn_new]; omega) (by omega) hb.2.1, h _ (zgrow_s hg rfl (by omega))⟩
theorem kX2_init (hb : b + 1 < 182 ∧ zsTabR b = (2, 1) ∧ zsTabR (b + 1) = (40, 4)) (hg : zgrow μ0 b 0 μ) (h : ∀ μ', zgrow μ0 b 1 μ' → F μ') : qX2_init G b μ F := by
  have n0 := hg.1
  refine eX2_init fun J C => rX2_init_e C b ⟨ztz (by omega) (by rw [n0]; exact hb.2.2), fun b1 μ1 e1 m1 => ?_⟩
  subst e1 m1
  exact ⟨zokF (by rw [zn_new]; omega) (by omega) hb.2.1, h _ (zgrow_s hg rfl (by omega))⟩
theorem kX5_init (hb : b + 3 < 182 ∧ zsTabR b = (5, 3) ∧ zsTabR (b + 1) = (40, 64) ∧ zsTabR (b + 2) = (40, 192) ∧ zsTabR (b + 3) = (40, 3)) (hg : zgrow μ0 b 0 μ) (h : ∀ μ', zgrow μ0 b 3 μ' → F μ') : qX5_init G b μ F := by
  obtain ⟨k9, k0, k1, k2, k3⟩ := hb
  have n0 := hg.1
  refine eX5_init fun J C => rX5_init_e C b ⟨ztz (by omega) (by rw [n0]; exact k1), fun b1 μ1 e1 m1 => ?_⟩
  subst e1 m1
  have g1 := zgrow_s (q := (40, 64)) hg (j := 0) rfl (by omega)
  have n1 := g1.1
  refine ⟨zokF (by rw [zn_new]; omega) (by omega) k0, ztz (by omega) (by rw [n1]; exact k2), fun b3 μ3 e3 m3 => ?_⟩
  subst e3 m3
  have g2 := zgrow_s (q := (40, 192)) g1 (j := 1) rfl (by omega)
  have n2 := g2.1
  refine ⟨zokF (by rw [zn_new]; omega) (by omega) k0, ztz (by omega) (by rw [n2]; exact k3), fun b5 μ5 e5 m5 => ?_⟩
  subst e5 m5
  exact ⟨zokF (by rw [zn_new]; omega) (by omega) k0, h _ (zgrow_s g2 (j := 2) rfl (by omega))⟩
theorem kX0_init (hb : b + 5 < 182 ∧ zsTabR b = (0, 5) ∧ zsTabR (b + 1) = (40, 243) ∧ zsTabR (b + 2) = (40, 19683) ∧ zsTabR (b + 3) = (40, 5) ∧ zsTabR (b + 4) = (40, 5) ∧ zsTabR (b + 5) = (40, 4)) (hg : zgrow μ0 b 0 μ) (h : ∀ μ', zn μ' = b + 6 → zbel b μ0 μ' → (∀ j : Nat, j < 5 → zr μ' b j = some (b + 1 + j)) → (∀ i, 0 ≤ i → i < 243 → zi μ' (b + 1) i = -1) → (zcld μ0 → zcld μ') → F μ') : qX0_init G b μ F := by
  obtain ⟨k9, k0, k1, k2, k3, k4, k5⟩ := hb
  have n0 := hg.1
  refine eX0_init fun J C => rX0_init_e C b ⟨ztz (by omega) (by rw [n0]; exact k1), fun b1 μ1 e1 m1 => ?_⟩
  subst e1 m1
  have g1 := zgrow_s (q := (40, 243)) hg (j := 0) rfl (by omega)
  have n1 := g1.1
  refine ⟨zokF (by rw [zn_new]; omega) (by omega) k0, ztz (by omega) (by rw [n1]; exact k2), fun b3 μ3 e3 m3 => ?_⟩
  subst e3 m3
  have g2 := zgrow_s (q := (40, 19683)) g1 (j := 1) rfl (by omega)
  have n2 := g2.1
  refine ⟨zokF (by rw [zn_new]; omega) (by omega) k0, ztz (by omega) (by rw [n2]; exact k3), fun b5 μ5 e5 m5 => ?_⟩
  subst e5 m5
  have g3 := zgrow_s (q := (40, 5)) g2 (j := 2) rfl (by omega)
  have n3 := g3.1
  refine ⟨zokF (by rw [zn_new]; omega) (by omega) k0, ztz (by omega) (by rw [n3]; exact k4), fun b7 μ7 e7 m7 => ?_⟩
  subst e7 m7
  have g4 := zgrow_s (q := (40, 5)) g3 (j := 3) rfl (by omega)
  have n4 := g4.1
  refine ⟨zokF (by rw [zn_new]; omega) (by omega) k0, ztz (by omega) (by rw [n4]; exact k5), fun b9 μ9 e9 m9 => ?_⟩
  subst e9 m9
  have g5 := zgrow_s (q := (40, 4)) g4 (j := 4) rfl (by omega)
  have n5 := g5.1
  refine ⟨zokF (by rw [zn_new]; omega) (by omega) k0, zokF (by rw [zn_upr, zn_new]; omega) (by omega) k0, b + 1, g5.2.2.2.1 0 (by decide), ?_⟩
  refine kJ7_fillF (n := 243) (fun μ' e => zokF (by rw [e]; omega) (by omega) k1) (by decide) fun μ6 g6 f6 => ?_
  refine h μ6 (by rw [g6.2.2.2]; omega) (fun a ha => ⟨fun j => by rw [g6.1 _ _ (by omega)]; exact (g5.2.1 a ha).1 j, fun j => by rw [g6.2.1]; exact (g5.2.1 a ha).2 j⟩) (fun j hj => by rw [g6.2.1]; exact g5.2.2.2.1 j hj) f6 (fun z => g6.cld (g5.2.2.2.2.2.2 z))
theorem kX4_init (hb : b + 2 < 182 ∧ zsTabR b = (4, 9) ∧ zsTabR (b + 1) = (40, 6561) ∧ zsTabR (b + 2) = (40, 6561)) (hg : zgrow μ0 b 0 μ) (h : ∀ μ', zn μ' = b + 3 → zbel b μ0 μ' → zr μ' b 0 = some (b + 1) → zr μ' b 4 = some (b + 2) → zi μ' b 2 = -1 → (zcld μ0 → zcld μ') → F μ') : qX4_init G b μ F := by
  obtain ⟨k9, k0, k1, k2⟩ := hb
  have n0 := hg.1
  refine eX4_init fun J C => rX4_init_e C b ⟨ztz (by omega) (by rw [n0]; exact k1), fun b1 μ1 e1 m1 => ?_⟩
  subst e1 m1
  have g1 := zgrow_s (q := (40, 6561)) hg (j := 0) rfl (by omega)
  obtain ⟨n1, f1, -, r1, -, -, fc⟩ := g1
  refine ⟨zokF (by rw [zn_new]; omega) (by omega) k0, zokF (by rw [zn_upr, zn_new]; omega) (by omega) k0, zokF (by rw [zn_up, zn_upr, zn_new]; omega) (by omega) k0, ?_⟩
  have nm : zn (zup (zup (zupr (znew μ (40, 6561)) b 0 (some (zn μ))) b 2 (-1)) b 3 (-1)) = b + 2 := by rw [zn_up, zn_up, n1]
  refine ⟨ztz (by omega) (by rw [nm]; exact k2), fun b5 μ5 e5 m5 => ?_⟩
  subst e5 m5
  refine ⟨zokF (by rw [zn_new]; omega) (by omega) k0, ?_⟩
  refine h _ (by rw [zn_upr, zn_new, nm]) (fun a ha => ⟨fun j => ?_, fun j => ?_⟩) ?_ ?_ ?_ (fun z => zupr_cld (znew_cld (zup_cld (zup_cld (fc z))) (Or.inl (by rw [nm]; omega))) (fun c e => by injection e with e; rw [zn_new]; omega))
  · rw [zi_upr, zi_new, if_neg (by omega), zi_off (by omega), zi_off (by omega)]; exact (f1 a ha).1 j
  · rw [zr_ne (by omega), zr_new, if_neg (by omega), zr_up, zr_up]; exact (f1 a ha).2 j
  · rw [zr_ne (by omega), zr_new, if_neg (by omega), zr_up, zr_up]; exact r1 0 (by decide)
  · rw [zr_upr, if_pos ⟨rfl, rfl⟩, nm]
  · rw [zi_upr, zi_new, if_neg (by omega), zi_off (by omega), zi_at]
theorem zblk_h : ∀ v : Fin 11, zblk (15 + 8 * v.val) := by
  have h : ∀ v : Fin 11, (15 + 8 * v.val) + 8 ≤ 182 ∧ zsTabR (15 + 8 * v.val) = (7, 9) ∧ zsTabR (15 + 8 * v.val + 1) = (40, 243) ∧ zsTabR (15 + 8 * v.val + 2) = (42, 81) ∧ zsTabR (15 + 8 * v.val + 3) = (40, 7) ∧ zsTabR (15 + 8 * v.val + 4) = (40, 36) ∧ zsTabR (15 + 8 * v.val + 5) = (40, 24) ∧ zsTabR (15 + 8 * v.val + 6) = (40, 64) ∧ zsTabR (15 + 8 * v.val + 7) = (3, 3) := by decide +kernel
  exact h
theorem zblk_o : zblk 5 ∧ zblk 111 ∧ zblk 137 ∧ zblk 145 := ⟨by unfold zblk; decide +kernel, by unfold zblk; decide +kernel, by unfold zblk; decide +kernel, by unfold zblk; decide +kernel⟩
/-- History, at 13 -/
theorem kX1_init (hg : zgrow μ0 13 0 μ) (h : ∀ μ', zn μ' = 103 → zbel 13 μ0 μ' → zr μ' 13 0 = some 14 → (∀ v : Nat, v < 11 → zr μ' 14 v = some (15 + 8 * v) ∧ ∀ j : Nat, j < 6 → zr μ' (15 + 8 * v) j = some (15 + 8 * v + 1 + j)) → zi μ' 13 1 = 0 → zi μ' 13 2 = 0 → (zcld μ0 → zcld μ') → F μ') : qX1_init G 13 μ F := by
  have n0 := hg.1
  have t13 : zsTabR 13 = (1, 3) := by decide +kernel
  have t14 : zsTabR 14 = (44, 11) := by decide +kernel
  refine eX1_init fun J C => rX1_init_e C 13 ⟨ztz (by omega) (by rw [n0]; exact t14), fun b1 μ1 e1 m1 => ?_⟩
  subst e1 m1
  have g1 := zgrow_s (q := (44, 11)) hg (j := 0) rfl (by decide)
  refine ⟨zokF (by rw [zn_new]; omega) (by decide) t13, ?_⟩
  generalize zupr (znew μ (44, 11)) 13 0 _ = μA at *
  obtain ⟨n1, f1, z1, r1, -, -, fc⟩ := g1
  have key : ∀ (d v : Nat) (μ' : zM) (cn un : Nat), v + d = 11 → cn = 1 + 8 * v → un = 11 + 467 * v → zn μ' = 15 + 8 * v → zbel 13 μ0 μ' → zr μ' 13 0 = some 14 → (∀ w : Nat, w < v → zr μ' 14 w = some (15 + 8 * w) ∧ ∀ j : Nat, j < 6 → zr μ' (15 + 8 * w) j = some (15 + 8 * w + 1 + j)) → zi μ' 13 1 = 0 → zi μ' 13 2 = 0 → (zcld μ0 → zcld μ') → J 15 ([some (zR (some 13)), some (zI (v : Int))], [], μ', cn, un) := by
    intro d
    induction d with
    | zero =>
      intro v μ' cn un hv hcn hun hn hb hr hw h1 h2 h9
      exact rX1_init_15 C 13 _ ⟨by constructor <;> omega, fun _ => ⟨⟨by omega, by omega⟩, h μ' (by omega) hb hr (fun w hw2 => hw w (by omega)) h1 h2 h9⟩, fun z => absurd (by omega) z⟩
    | succ d ih =>
      intro v μ' cn un hv hcn hun hn hb hr hw h1 h2 h9
      have bk := zblk_h ⟨v, by omega⟩
      have bk : zblk (15 + 8 * v) := bk
      refine rX1_init_15 C 13 _ ⟨by constructor <;> omega, fun z => absurd z (by omega), fun _ => ⟨zokF (by omega) (by decide) t13, ztz (by omega) (by rw [hn]; exact bk.2.1), ⟨by omega, by omega⟩, fun b4 μ4 e4 m4 => ⟨⟨by omega, by omega⟩, ?_⟩⟩⟩
      subst e4 m4
      have gz := zgrow_0 (q := (7, 9)) hn (by omega)
      rw [hn]
      refine kX7_init bk gz fun μ5 n5 b5 s5 c5 => ⟨14, hr, zokF (by omega) (by decide) t14, ⟨by omega, by omega⟩, zokF (by omega) (by omega) bk.2.1, ?_⟩
      have e := ih (v + 1) (zupr μ5 14 (v : Int) (some (15 + 8 * v))) (cn + 1 + 7) (un + 9 + 458) (by omega) (by omega) (by omega) (by rw [zn_upr]; omega) (hb.trans (fun a ha => ⟨fun j => by rw [zi_upr]; exact (b5 a (by omega)).1 j, fun j => by rw [zr_ne (by omega)]; exact (b5 a (by omega)).2 j⟩)) (by rw [zr_ne (by omega), (b5 13 (by omega)).2]; exact hr) (fun w hw2 => ?_) (by rw [zi_upr, (b5 13 (by omega)).1]; exact h1) (by rw [zi_upr, (b5 13 (by omega)).1]; exact h2) (fun z => zupr_cld (c5 (h9 z)) (fun c e => by injection e with e; omega))
      · rw [show ((v + 1 : Nat) : Int) = (v : Int) + 1 by omega] at e
        exact e
      · by_cases c : w = v
        · rw [c]
          exact ⟨by rw [zr_upr, if_pos ⟨rfl, rfl⟩], fun j hj => by rw [zr_ne (by omega)]; exact s5.2.2.2.2.2.2.2.2.2.2.1 j hj⟩
        · obtain ⟨w1, w2⟩ := hw w (by omega)
          exact ⟨by rw [zr_ne (by omega), (b5 14 (by omega)).2]; exact w1, fun j hj => by rw [zr_ne (by omega), (b5 _ (by omega)).2]; exact w2 j hj⟩
  exact key 11 0 μA _ _ rfl rfl rfl (by omega) f1 (r1 0 (by decide)) (fun w hw => absurd hw (by omega)) (z1 13 (by omega) (by omega) 1) (z1 13 (by omega) (by omega) 2) fc
end
