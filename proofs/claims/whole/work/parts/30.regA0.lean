set_option maxRecDepth 20000 in
theorem rJ7_fill_53178_e {G : zG} {ph : Bool} {F : zM → Prop} {J : Nat → zS → Prop} {μ : zM} (C : zJ G ph (0) 0 0 mJ7_fill_53178 (zKV F) J) (a0 : Nat) (x1 : Int)
    (h : ∃ n1 : Nat, n1 < 2147483648 ∧ zok ph μ a0 (40, n1) ∧ J 5 ([some (zR (some a0)), some (zI x1), some (zI 0), some (zI ((n1 : Int)))], [], μ, 0, 0)) : J 0 ([some (zR (some a0)), some (zI x1), none, none], [], μ, 0, 0) := by
  obtain ⟨p, e, s, m, args, below, meth, c, A, hml, hr, hlk, hnm, rfl⟩ := C
  refine s_iconst A dJ7_fill_53178_0 ?_
  refine s_istore_n (L' := [some (zR (some a0)), some (zI x1), some (zI 0), none]) A dJ7_fill_53178_1 (Nat.le_of_ble_eq_true rfl) rfl ?_
  refine s_aload_n A dJ7_fill_53178_2 rfl ?_
  obtain ⟨n1, on1, o1, h⟩ := h
  refine s_alen A dJ7_fill_53178_3 (by decide) o1 ?_
  refine s_istore_n (L' := [some (zR (some a0)), some (zI x1), some (zI 0), some (zI ((n1 : Int)))]) A dJ7_fill_53178_4 (Nat.le_of_ble_eq_true rfl) rfl ?_
  exact h
set_option maxRecDepth 20000 in
theorem rJ7_fill_53178_5 {G : zG} {ph : Bool} {F : zM → Prop} {J : Nat → zS → Prop} {μ : zM} (C : zJ G ph (0) 0 0 mJ7_fill_53178 (zKV F) J) (a0 : Nat) (x1 : Int) (x2 : Int) (x3 : Int)
    (h : zin x2 ∧ zin x3 ∧ ((x3 ≤ x2 → F μ) ∧ (¬ (x3 ≤ x2) → ∃ n4 : Nat, n4 < 2147483648 ∧ zok ph μ a0 (40, n4) ∧ (0 ≤ x2 ∧ x2 < (n4 : Int)) ∧ J 5 ([some (zR (some a0)), some (zI x1), some (zI (x2 + 1)), some (zI x3)], [], zup μ a0 x2 x1, 0, 0)))) : J 5 ([some (zR (some a0)), some (zI x1), some (zI x2), some (zI x3)], [], μ, 0, 0) := by
  obtain ⟨p, e, s, m, args, below, meth, c, A, hml, hr, hlk, hnm, rfl⟩ := C
  refine s_iload_n A dJ7_fill_53178_5 rfl ?_
  refine s_iload_n A dJ7_fill_53178_6 rfl ?_
  obtain ⟨oz1, h⟩ := h
  obtain ⟨oz2, h⟩ := h
  refine z_icmp_ge (tgt := 20) A dJ7_fill_53178_7 (by decide) oz1 oz2 (fun c3 => ?_) (fun c3 => ?_)
  · have h := h.1 c3
    exact s_vret A dJ7_fill_53178_20 hr hlk (Nat.le_of_ble_eq_true rfl) (Nat.le_of_ble_eq_true rfl) ⟨rfl, h⟩
  · have h := h.2 c3
    refine s_aload_n A dJ7_fill_53178_10 rfl ?_
    refine s_iload_n A dJ7_fill_53178_11 rfl ?_
    refine s_iload_n A dJ7_fill_53178_12 rfl ?_
    obtain ⟨n4, on4, o4, h⟩ := h
    obtain ⟨ox5, h⟩ := h
    refine z_iast A dJ7_fill_53178_13 o4 on4 ox5 ?_
    refine s_iinc (L' := [some (zR (some a0)), some (zI x1), some (zI (x2 + 1)), some (zI x3)]) A dJ7_fill_53178_14 rfl rfl ?_
    refine s_goto (tgt := 5) A dJ7_fill_53178_17 (by decide) ?_
    exact h
theorem eJ7_fill_53178 {G : zG} {ph : Bool} {F : zM → Prop} {μ : zM} {a0 : Nat} {x1 : Int} (h : ∀ J, zJ G ph (0) 0 0 mJ7_fill_53178 (zKV F) J → J 0 ([some (zR (some a0)), some (zI x1), none, none], [], μ, 0, 0)) : qJ7_fill_53178 G ph a0 x1 μ F :=
  z_body (by decide +kernel) (Nat.le_of_ble_eq_true rfl) h
set_option maxRecDepth 20000 in
theorem rX0_init_e {G : zG} {F : zM → Prop} {J : Nat → zS → Prop} {μ : zM} (C : zJ G false (2) 5 19940 mX0_init (zKV F) J) (a0 : Nat)
    (h : zs false (znew μ (40, 243)) (zn μ) = (40, 243) ∧ ∀ b1 μ1, b1 = zn μ → μ1 = znew μ (40, 243) → zok false μ1 a0 (0, 5) ∧ zs false (znew (zupr μ1 a0 0 (some b1)) (40, 19683)) (zn (zupr μ1 a0 0 (some b1))) = (40, 19683) ∧ ∀ b3 μ3, b3 = zn (zupr μ1 a0 0 (some b1)) → μ3 = znew (zupr μ1 a0 0 (some b1)) (40, 19683) → zok false μ3 a0 (0, 5) ∧ zs false (znew (zupr μ3 a0 1 (some b3)) (40, 5)) (zn (zupr μ3 a0 1 (some b3))) = (40, 5) ∧ ∀ b5 μ5, b5 = zn (zupr μ3 a0 1 (some b3)) → μ5 = znew (zupr μ3 a0 1 (some b3)) (40, 5) → zok false μ5 a0 (0, 5) ∧ zs false (znew (zupr μ5 a0 2 (some b5)) (40, 5)) (zn (zupr μ5 a0 2 (some b5))) = (40, 5) ∧ ∀ b7 μ7, b7 = zn (zupr μ5 a0 2 (some b5)) → μ7 = znew (zupr μ5 a0 2 (some b5)) (40, 5) → zok false μ7 a0 (0, 5) ∧ zs false (znew (zupr μ7 a0 3 (some b7)) (40, 4)) (zn (zupr μ7 a0 3 (some b7))) = (40, 4) ∧ ∀ b9 μ9, b9 = zn (zupr μ7 a0 3 (some b7)) → μ9 = znew (zupr μ7 a0 3 (some b7)) (40, 4) → zok false μ9 a0 (0, 5) ∧ zok false (zupr μ9 a0 4 (some b9)) a0 (0, 5) ∧ ∃ b12, zr (zupr μ9 a0 4 (some b9)) a0 0 = some b12 ∧ qJ7_fill_53178 G false b12 (-1) (zupr μ9 a0 4 (some b9)) (fun μ13 => F μ13)) : J 0 ([some (zR (some a0))], [], μ, 0, 0) := by
  obtain ⟨p, e, s, m, args, below, meth, c, A, hml, hr, hlk, hnm, rfl⟩ := C
  refine s_aload_n A dX0_init_0 rfl ?_
  refine z_objInit A dX0_init_1 zwd249 zwd119 zwd120 (Nat.le_of_ble_eq_true rfl) (by decide) (Nat.le_of_ble_eq_true rfl) ?_
  refine s_aload_n A dX0_init_4 rfl ?_
  refine s_sipush A dX0_init_5 rfl ?_
  obtain ⟨o1, h⟩ := h
  refine z_newa_int (n := 243) A dX0_init_8 rfl (by decide) zwd137 o1 (Nat.le_of_ble_eq_true rfl) (Nat.le_of_ble_eq_true rfl) (fun b1 μ1 eb1 em1 => ?_)
  have h := h b1 μ1 eb1 em1
  obtain ⟨o2, h⟩ := h
  refine z_putFR (k := 0) (j := 0) (sl := false) A dX0_init_10 rfl zuw_X0 (Nat.le_of_ble_eq_true rfl) zwd253 (by decide) o2 tyX0 tyX0_ok nmX0 rfl (Or.inl rfl) rfl (Or.inr ⟨_, rfl⟩) rfl hnm rfl ?_
  refine s_aload_n A dX0_init_13 rfl ?_
  refine s_sipush A dX0_init_14 rfl ?_
  obtain ⟨o3, h⟩ := h
  refine z_newa_int (n := 19683) A dX0_init_17 rfl (by decide) zwd137 o3 (Nat.le_of_ble_eq_true rfl) (Nat.le_of_ble_eq_true rfl) (fun b3 μ3 eb3 em3 => ?_)
  have h := h b3 μ3 eb3 em3
  obtain ⟨o4, h⟩ := h
  refine z_putFR (k := 0) (j := 1) (sl := false) A dX0_init_19 rfl zuw_X0 (Nat.le_of_ble_eq_true rfl) zwd254 (by decide) o4 tyX0 tyX0_ok nmX0 rfl (Or.inl rfl) rfl (Or.inr ⟨_, rfl⟩) rfl hnm rfl ?_
  refine s_aload_n A dX0_init_22 rfl ?_
  refine s_iconst A dX0_init_23 ?_
  obtain ⟨o5, h⟩ := h
  refine z_newa_int (n := 5) A dX0_init_24 rfl (by decide) zwd137 o5 (Nat.le_of_ble_eq_true rfl) (Nat.le_of_ble_eq_true rfl) (fun b5 μ5 eb5 em5 => ?_)
  have h := h b5 μ5 eb5 em5
  obtain ⟨o6, h⟩ := h
  refine z_putFR (k := 0) (j := 2) (sl := false) A dX0_init_26 rfl zuw_X0 (Nat.le_of_ble_eq_true rfl) zwd255 (by decide) o6 tyX0 tyX0_ok nmX0 rfl (Or.inl rfl) rfl (Or.inr ⟨_, rfl⟩) rfl hnm rfl ?_
  refine s_aload_n A dX0_init_29 rfl ?_
  refine s_iconst A dX0_init_30 ?_
  obtain ⟨o7, h⟩ := h
  refine z_newa_int (n := 5) A dX0_init_31 rfl (by decide) zwd137 o7 (Nat.le_of_ble_eq_true rfl) (Nat.le_of_ble_eq_true rfl) (fun b7 μ7 eb7 em7 => ?_)
  have h := h b7 μ7 eb7 em7
  obtain ⟨o8, h⟩ := h
  refine z_putFR (k := 0) (j := 3) (sl := false) A dX0_init_33 rfl zuw_X0 (Nat.le_of_ble_eq_true rfl) zwd257 (by decide) o8 tyX0 tyX0_ok nmX0 rfl (Or.inl rfl) rfl (Or.inr ⟨_, rfl⟩) rfl hnm rfl ?_
  refine s_aload_n A dX0_init_36 rfl ?_
  refine s_iconst A dX0_init_37 ?_
  obtain ⟨o9, h⟩ := h
  refine z_newa_int (n := 4) A dX0_init_38 rfl (by decide) zwd137 o9 (Nat.le_of_ble_eq_true rfl) (Nat.le_of_ble_eq_true rfl) (fun b9 μ9 eb9 em9 => ?_)
  have h := h b9 μ9 eb9 em9
  obtain ⟨o10, h⟩ := h
  refine z_putFR (k := 0) (j := 4) (sl := false) A dX0_init_40 rfl zuw_X0 (Nat.le_of_ble_eq_true rfl) zwd259 (by decide) o10 tyX0 tyX0_ok nmX0 rfl (Or.inl rfl) rfl (Or.inr ⟨_, rfl⟩) rfl hnm rfl ?_
  refine s_aload_n A dX0_init_43 rfl ?_
  obtain ⟨o11, h⟩ := h
  refine s_getf (k := 0) (j := 0) (sl := false) (v := zR (zr (zupr μ9 a0 4 (some b9)) a0 0)) A dX0_init_44 rfl zuw_X0 (Nat.le_of_ble_eq_true rfl) zwd253 (by decide) o11 rfl ?_
  refine s_iconst A dX0_init_47 ?_
  obtain ⟨b12, c12, h⟩ := h
  refine z_eqS (st' := [zI (-1), zR (some b12)]) (by rw [c12] <;> rfl) ?_
  refine s_callS (M := mJ7_fill_53178) (n := 2) (d := 0) (mc := 0) (ms := 0) (av := [zR (some b12), zI (-1)]) (st := []) A dX0_init_48 zwd250 zwd251 zwd96 zcd_J7_fill_53178 (Nat.le_of_ble_eq_true rfl) (Nat.le_of_ble_eq_true rfl) (Nat.le_refl _) ⟨Nat.le_of_ble_eq_true rfl, Nat.le_of_ble_eq_true rfl⟩ zhn_J7_fill_53178 rfl (Nat.le_of_ble_eq_true rfl) rfl (z_contV (fun μ13 h => ?_) h)
  exact s_vret A dX0_init_51 hr hlk (Nat.le_of_ble_eq_true rfl) (Nat.le_of_ble_eq_true rfl) ⟨rfl, h⟩
theorem eX0_init {G : zG} {F : zM → Prop} {μ : zM} {a0 : Nat} (h : ∀ J, zJ G false (2) 5 19940 mX0_init (zKV F) J → J 0 ([some (zR (some a0))], [], μ, 0, 0)) : qX0_init G a0 μ F :=
  z_body (by decide +kernel) (Nat.le_of_ble_eq_true rfl) h
set_option maxRecDepth 20000 in
theorem rX7_reckoned_e {G : zG} {F : Int → zM → Prop} {J : Nat → zS → Prop} {μ : zM} (C : zJ G true (8) 0 0 mX7_reckoned (zKI F) J) {a0 : Nat} (ha0 : zIsSt a0) (x1 : Int) (x2 : Int)
    (h : (0 ≤ x2 ∧ x2 < 243) ∧ J 13 ([some (zR (some (a0))), some (zI x1), some (zI x2), some (zI (zi μ (a0 + 1) x2)), some (zI (zi μ (a0 + 1) x2)), some (zI 0), none, none], [], μ, 0, 0)) : J 0 ([some (zR (some (a0))), some (zI x1), some (zI x2), none, none, none, none, none], [], μ, 0, 0) := by
  obtain ⟨p, e, s, m, args, below, meth, c, A, hml, hr, hlk, hnm, rfl⟩ := C
  refine s_aload_n A dX7_reckoned_0 rfl ?_
  refine s_getf (k := 7) (j := 0) (sl := true) (v := zR (some (a0 + 1))) A dX7_reckoned_1 rfl zuw_X7 (Nat.le_of_ble_eq_true rfl) zwd184 (by decide) (ha0.k0 _) rfl ?_
  refine s_iload_n A dX7_reckoned_4 rfl ?_
  obtain ⟨ox1, h⟩ := h
  refine z_iald A dX7_reckoned_5 (ha0.k1 _) (Nat.le_of_ble_eq_true rfl) ox1 ?_
  refine s_istore_n (L' := [some (zR (some (a0))), some (zI x1), some (zI x2), some (zI (zi μ (a0 + 1) x2)), none, none, none, none]) A dX7_reckoned_6 (Nat.le_of_ble_eq_true rfl) rfl ?_
  refine s_iload_n A dX7_reckoned_7 rfl ?_
  refine s_istore (L' := [some (zR (some (a0))), some (zI x1), some (zI x2), some (zI (zi μ (a0 + 1) x2)), some (zI (zi μ (a0 + 1) x2)), none, none, none]) A dX7_reckoned_8 (Nat.le_of_ble_eq_true rfl) rfl ?_
  refine s_iconst A dX7_reckoned_10 ?_
  refine s_istore (L' := [some (zR (some (a0))), some (zI x1), some (zI x2), some (zI (zi μ (a0 + 1) x2)), some (zI (zi μ (a0 + 1) x2)), some (zI 0), none, none]) A dX7_reckoned_11 (Nat.le_of_ble_eq_true rfl) rfl ?_
  exact h
set_option maxRecDepth 20000 in
theorem rX7_reckoned_13 {G : zG} {F : Int → zM → Prop} {J : Nat → zS → Prop} {μ : zM} (C : zJ G true (8) 0 0 mX7_reckoned (zKI F) J) {a0 : Nat} (ha0 : zIsSt a0) (x1 : Int) (x2 : Int) (x3 : Int) (x4 : Int) (x5 : Int)
    (h : zin x5 ∧ ((4 ≤ x5 → F x4 μ) ∧ (¬ (4 ≤ x5) → qX10_levelOf G true x1 x5 μ (fun v3 μ3 => zin v3 ∧ ((v3 ≤ 0 → J 13 ([some (zR (some (a0))), some (zI x1), some (zI x2), some (zI x3), some (zI x4), some (zI (x5 + 1)), none, none], [], μ3, 0, 0)) ∧ (¬ (v3 ≤ 0) → (0 ≤ x5 ∧ x5 < 4) ∧ (0 ≤ ((v3 * (zta 2 x5)) * 3) + x2 ∧ ((v3 * (zta 2 x5)) * 3) + x2 < 243) ∧ zin x3 ∧ ((¬ x3 = 0 → (0 ≤ x4 * (zi μ3 (a0 + 1) (((v3 * (zta 2 x5)) * 3) + x2)) ∧ x4 * (zi μ3 (a0 + 1) (((v3 * (zta 2 x5)) * 3) + x2)) < 2147483648) ∧ (0 < x3 ∧ x3 < 2147483648) ∧ zin ((x4 * (zi μ3 (a0 + 1) (((v3 * (zta 2 x5)) * 3) + x2))) / x3) ∧ J 13 ([some (zR (some (a0))), some (zI x1), some (zI x2), some (zI x3), some (zI (min 100 ((x4 * (zi μ3 (a0 + 1) (((v3 * (zta 2 x5)) * 3) + x2))) / x3))), some (zI (x5 + 1)), none, none], [], μ3, 0, 0)) ∧ (x3 = 0 → J 13 ([some (zR (some (a0))), some (zI x1), some (zI x2), some (zI x3), some (zI 0), some (zI (x5 + 1)), none, none], [], μ3, 0, 0))))))))) : J 13 ([some (zR (some (a0))), some (zI x1), some (zI x2), some (zI x3), some (zI x4), some (zI x5), none, none], [], μ, 0, 0) := by
  obtain ⟨p, e, s, m, args, below, meth, c, A, hml, hr, hlk, hnm, rfl⟩ := C
  refine s_iload A dX7_reckoned_13 rfl ?_
  refine s_iconst A dX7_reckoned_15 ?_
  obtain ⟨oz1, h⟩ := h
  refine z_icmp_ge (tgt := 80) A dX7_reckoned_16 (by decide) oz1 ⟨by decide, by decide⟩ (fun c2 => ?_) (fun c2 => ?_)
  · have h := h.1 c2
    refine s_iload A dX7_reckoned_80 rfl ?_
    exact s_iret A dX7_reckoned_82 hr hlk (Nat.le_of_ble_eq_true rfl) (Nat.le_of_ble_eq_true rfl) ⟨_, rfl, h⟩
  · have h := h.2 c2
    refine s_iload_n A dX7_reckoned_19 rfl ?_
    refine s_iload A dX7_reckoned_20 rfl ?_
    refine s_callSN (host := "InkFolds") (M := mX10_levelOf) (n := 2) (d := 0) (mc := 0) (ms := 0) (av := [zI x1, zI x5]) (st := []) A dX7_reckoned_22 zwr829 zwd605 zwd89 zcd_X10_levelOf (Nat.le_of_ble_eq_true rfl) (Nat.le_of_ble_eq_true rfl) (Nat.le_refl _) ⟨Nat.le_of_ble_eq_true rfl, Nat.le_of_ble_eq_true rfl⟩ zhn_X10_levelOf rfl (Nat.le_of_ble_eq_true rfl) rfl (z_contI (fun v3 μ3 h => ?_) h)
    refine s_istore (L' := [some (zR (some (a0))), some (zI x1), some (zI x2), some (zI x3), some (zI x4), some (zI x5), some (zI v3), none]) A dX7_reckoned_25 (Nat.le_of_ble_eq_true rfl) rfl ?_
    refine s_iload A dX7_reckoned_27 rfl ?_
    obtain ⟨oz4, h⟩ := h
    refine z_if_le (tgt := 74) A dX7_reckoned_29 (by decide) oz4 (fun c5 => ?_) (fun c5 => ?_)
    · have h := h.1 c5
      refine s_iinc (L' := [some (zR (some (a0))), some (zI x1), some (zI x2), some (zI x3), some (zI x4), some (zI (x5 + 1)), some (zI v3), none]) A dX7_reckoned_74 rfl rfl ?_
      refine s_goto (tgt := 13) A dX7_reckoned_77 (by decide) ?_
      exact z_wk (L' := [some (zR (some (a0))), some (zI x1), some (zI x2), some (zI x3), some (zI x4), some (zI (x5 + 1)), none, none]) ⟨rfl, rfl, rfl, rfl, rfl, rfl, trivial⟩ h
    · have h := h.2 c5
      refine s_aload_n A dX7_reckoned_32 rfl ?_
      refine s_getf (k := 7) (j := 0) (sl := true) (v := zR (some (a0 + 1))) A dX7_reckoned_33 rfl zuw_X7 (Nat.le_of_ble_eq_true rfl) zwd184 (by decide) (ha0.k0 _) rfl ?_
      refine s_iload A dX7_reckoned_36 rfl ?_
      refine s_getsN (t := 2) A dX7_reckoned_38 (by decide) (host := "InkFolds") zwr162 ?_
      refine s_iload A dX7_reckoned_41 rfl ?_
      obtain ⟨ox6, h⟩ := h
      refine z_tald A dX7_reckoned_43 (by decide) (Nat.le_of_ble_eq_true rfl) ox6 ?_
      refine s_imul A dX7_reckoned_44 ?_
      refine s_iconst A dX7_reckoned_45 ?_
      refine s_imul A dX7_reckoned_46 ?_
      refine s_iload_n A dX7_reckoned_47 rfl ?_
      refine s_iadd A dX7_reckoned_48 ?_
      obtain ⟨ox7, h⟩ := h
      refine z_iald A dX7_reckoned_49 (ha0.k1 _) (Nat.le_of_ble_eq_true rfl) ox7 ?_
      refine s_istore (L' := [some (zR (some (a0))), some (zI x1), some (zI x2), some (zI x3), some (zI x4), some (zI x5), some (zI v3), some (zI (zi μ3 (a0 + 1) (((v3 * (zta 2 x5)) * 3) + x2)))]) A dX7_reckoned_50 (Nat.le_of_ble_eq_true rfl) rfl ?_
      refine s_iload_n A dX7_reckoned_52 rfl ?_
      obtain ⟨oz8, h⟩ := h
      refine z_if_ne (tgt := 60) A dX7_reckoned_53 (by decide) oz8 (fun c9 => ?_) (fun c9 => ?_)
      · have h := h.1 c9
        refine s_bipush A dX7_reckoned_60 rfl ?_
        refine s_iload A dX7_reckoned_62 rfl ?_
        refine s_iload A dX7_reckoned_64 rfl ?_
        refine s_imul A dX7_reckoned_66 ?_
        refine s_iload_n A dX7_reckoned_67 rfl ?_
        obtain ⟨o1, h⟩ := h
        obtain ⟨o2, h⟩ := h
        refine z_idiv A dX7_reckoned_68 o1 o2 ?_
        obtain ⟨oz10, h⟩ := h
        refine z_mmin A dX7_reckoned_69 zwd830 zwd509 zwd105 zwd510 (Nat.le_of_ble_eq_true rfl) (Nat.le_of_ble_eq_true rfl) ⟨Nat.le_of_ble_eq_true rfl, Nat.le_of_ble_eq_true rfl⟩ ⟨by decide, by decide⟩ oz10 ?_
        refine s_istore (L' := [some (zR (some (a0))), some (zI x1), some (zI x2), some (zI x3), some (zI (min 100 ((x4 * (zi μ3 (a0 + 1) (((v3 * (zta 2 x5)) * 3) + x2))) / x3))), some (zI x5), some (zI v3), some (zI (zi μ3 (a0 + 1) (((v3 * (zta 2 x5)) * 3) + x2)))]) A dX7_reckoned_72 (Nat.le_of_ble_eq_true rfl) rfl ?_
        refine s_iinc (L' := [some (zR (some (a0))), some (zI x1), some (zI x2), some (zI x3), some (zI (min 100 ((x4 * (zi μ3 (a0 + 1) (((v3 * (zta 2 x5)) * 3) + x2))) / x3))), some (zI (x5 + 1)), some (zI v3), some (zI (zi μ3 (a0 + 1) (((v3 * (zta 2 x5)) * 3) + x2)))]) A dX7_reckoned_74 rfl rfl ?_
        refine s_goto (tgt := 13) A dX7_reckoned_77 (by decide) ?_
        exact z_wk (L' := [some (zR (some (a0))), some (zI x1), some (zI x2), some (zI x3), some (zI (min 100 ((x4 * (zi μ3 (a0 + 1) (((v3 * (zta 2 x5)) * 3) + x2))) / x3))), some (zI (x5 + 1)), none, none]) ⟨rfl, rfl, rfl, rfl, rfl, rfl, trivial⟩ h
      · have h := h.2 c9
        refine s_iconst A dX7_reckoned_56 ?_
        refine s_goto (tgt := 72) A dX7_reckoned_57 (by decide) ?_
        refine s_istore (L' := [some (zR (some (a0))), some (zI x1), some (zI x2), some (zI x3), some (zI 0), some (zI x5), some (zI v3), some (zI (zi μ3 (a0 + 1) (((v3 * (zta 2 x5)) * 3) + x2)))]) A dX7_reckoned_72 (Nat.le_of_ble_eq_true rfl) rfl ?_
        refine s_iinc (L' := [some (zR (some (a0))), some (zI x1), some (zI x2), some (zI x3), some (zI 0), some (zI (x5 + 1)), some (zI v3), some (zI (zi μ3 (a0 + 1) (((v3 * (zta 2 x5)) * 3) + x2)))]) A dX7_reckoned_74 rfl rfl ?_
        refine s_goto (tgt := 13) A dX7_reckoned_77 (by decide) ?_
        exact z_wk (L' := [some (zR (some (a0))), some (zI x1), some (zI x2), some (zI x3), some (zI 0), some (zI (x5 + 1)), none, none]) ⟨rfl, rfl, rfl, rfl, rfl, rfl, trivial⟩ h
theorem eX7_reckoned {G : zG} {F : Int → zM → Prop} {μ : zM} {a0 : Nat} {x1 : Int} {x2 : Int} (h : ∀ J, zJ G true (8) 0 0 mX7_reckoned (zKI F) J → J 0 ([some (zR (some (a0))), some (zI x1), some (zI x2), none, none, none, none, none], [], μ, 0, 0)) : qX7_reckoned G a0 x1 x2 μ F :=
  z_body (by decide +kernel) (Nat.le_of_ble_eq_true rfl) h
set_option maxRecDepth 20000 in
theorem rX7_lightOf_e {G : zG} {F : Int → zM → Prop} {J : Nat → zS → Prop} {μ : zM} (C : zJ G true (9) 0 0 mX7_lightOf (zKI F) J) {a0 : Nat} (ha0 : zIsSt a0) (x1 : Int) (x2 : Int)
    (h : (0 ≤ x1 ∧ x1 < 81) ∧ zin (zi μ (a0 + 2) x1) ∧ ((¬ zi μ (a0 + 2) x1 = 0 → (0 ≤ (x1 * 3) + x2 ∧ (x1 * 3) + x2 < 243) ∧ F (zi μ (a0 + 1) ((x1 * 3) + x2)) μ) ∧ (zi μ (a0 + 2) x1 = 0 → qX10_isPlain G true x1 μ (fun v5 μ5 => zin v5 ∧ ((v5 = 0 → qX7_reckoned G a0 x1 x2 μ5 (fun v8 μ8 => F v8 μ8)) ∧ (¬ (v5 = 0) → (0 ≤ (x1 * 3) + x2 ∧ (x1 * 3) + x2 < 243) ∧ F (zi μ5 (a0 + 1) ((x1 * 3) + x2)) μ5)))))) : J 0 ([some (zR (some (a0))), some (zI x1), some (zI x2)], [], μ, 0, 0) := by
  obtain ⟨p, e, s, m, args, below, meth, c, A, hml, hr, hlk, hnm, rfl⟩ := C
  refine s_aload_n A dX7_lightOf_0 rfl ?_
  refine s_getf (k := 7) (j := 1) (sl := true) (v := zR (some (a0 + 2))) A dX7_lightOf_1 rfl zuw_X7 (Nat.le_of_ble_eq_true rfl) zwd186 (by decide) (ha0.k0 _) rfl ?_
  refine s_iload_n A dX7_lightOf_4 rfl ?_
  obtain ⟨ox1, h⟩ := h
  refine z_zald A dX7_lightOf_5 (ha0.k2 _) (Nat.le_of_ble_eq_true rfl) ox1 ?_
  obtain ⟨oz2, h⟩ := h
  refine z_if_ne (tgt := 16) A dX7_lightOf_6 (by decide) oz2 (fun c3 => ?_) (fun c3 => ?_)
  · have h := h.1 c3
    refine s_aload_n A dX7_lightOf_16 rfl ?_
    refine s_getf (k := 7) (j := 0) (sl := true) (v := zR (some (a0 + 1))) A dX7_lightOf_17 rfl zuw_X7 (Nat.le_of_ble_eq_true rfl) zwd184 (by decide) (ha0.k0 _) rfl ?_
    refine s_iload_n A dX7_lightOf_20 rfl ?_
    refine s_iconst A dX7_lightOf_21 ?_
    refine s_imul A dX7_lightOf_22 ?_
    refine s_iload_n A dX7_lightOf_23 rfl ?_
    refine s_iadd A dX7_lightOf_24 ?_
    obtain ⟨ox4, h⟩ := h
    refine z_iald A dX7_lightOf_25 (ha0.k1 _) (Nat.le_of_ble_eq_true rfl) ox4 ?_
    refine s_goto (tgt := 35) A dX7_lightOf_26 (by decide) ?_
    exact s_iret A dX7_lightOf_35 hr hlk (Nat.le_of_ble_eq_true rfl) (Nat.le_of_ble_eq_true rfl) ⟨_, rfl, h⟩
  · have h := h.2 c3
    refine s_iload_n A dX7_lightOf_9 rfl ?_
    refine s_callSN (host := "InkFolds") (M := mX10_isPlain) (n := 1) (d := 2) (mc := 0) (ms := 0) (av := [zI x1]) (st := []) A dX7_lightOf_10 zwr601 zwd602 zwd89 zcd_X10_isPlain (Nat.le_of_ble_eq_true rfl) (Nat.le_of_ble_eq_true rfl) (Nat.le_refl _) ⟨Nat.le_of_ble_eq_true rfl, Nat.le_of_ble_eq_true rfl⟩ zhn_X10_isPlain rfl (Nat.le_of_ble_eq_true rfl) rfl (z_contI (fun v5 μ5 h => ?_) h)
    obtain ⟨oz6, h⟩ := h
    refine z_if_eq (tgt := 29) A dX7_lightOf_13 (by decide) oz6 (fun c7 => ?_) (fun c7 => ?_)
    · have h := h.1 c7
      refine s_aload_n A dX7_lightOf_29 rfl ?_
      refine s_iload_n A dX7_lightOf_30 rfl ?_
      refine s_iload_n A dX7_lightOf_31 rfl ?_
      refine s_callV (a := a0) (k := 7) (N := 9) (sl := true) (M := mX7_reckoned) (n := 2) (d := 8) (mc := 0) (ms := 0) (av := [zI x1, zI x2]) (st := []) A dX7_lightOf_32 rfl (by decide) (ha0.k0 _) zwd825 zwd826 zwd827 zwd92 zcd_X7_reckoned (Nat.le_of_ble_eq_true rfl) (Nat.le_of_ble_eq_true rfl) (Nat.le_refl _) ⟨Nat.le_of_ble_eq_true rfl, Nat.le_of_ble_eq_true rfl⟩ ⟨rfl, zhn_X7_reckoned⟩ rfl (Nat.le_of_ble_eq_true rfl) rfl (z_contI (fun v8 μ8 h => ?_) h)
      exact s_iret A dX7_lightOf_35 hr hlk (Nat.le_of_ble_eq_true rfl) (Nat.le_of_ble_eq_true rfl) ⟨_, rfl, h⟩
    · have h := h.2 c7
      refine s_aload_n A dX7_lightOf_16 rfl ?_
      refine s_getf (k := 7) (j := 0) (sl := true) (v := zR (some (a0 + 1))) A dX7_lightOf_17 rfl zuw_X7 (Nat.le_of_ble_eq_true rfl) zwd184 (by decide) (ha0.k0 _) rfl ?_
      refine s_iload_n A dX7_lightOf_20 rfl ?_
      refine s_iconst A dX7_lightOf_21 ?_
      refine s_imul A dX7_lightOf_22 ?_
      refine s_iload_n A dX7_lightOf_23 rfl ?_
      refine s_iadd A dX7_lightOf_24 ?_
      obtain ⟨ox9, h⟩ := h
      refine z_iald A dX7_lightOf_25 (ha0.k1 _) (Nat.le_of_ble_eq_true rfl) ox9 ?_
      refine s_goto (tgt := 35) A dX7_lightOf_26 (by decide) ?_
      exact s_iret A dX7_lightOf_35 hr hlk (Nat.le_of_ble_eq_true rfl) (Nat.le_of_ble_eq_true rfl) ⟨_, rfl, h⟩
theorem eX7_lightOf {G : zG} {F : Int → zM → Prop} {μ : zM} {a0 : Nat} {x1 : Int} {x2 : Int} (h : ∀ J, zJ G true (9) 0 0 mX7_lightOf (zKI F) J → J 0 ([some (zR (some (a0))), some (zI x1), some (zI x2)], [], μ, 0, 0)) : qX7_lightOf G a0 x1 x2 μ F :=
  z_body (by decide +kernel) (Nat.le_of_ble_eq_true rfl) h
set_option maxRecDepth 20000 in
theorem rX0_greatestRest_e {G : zG} {F : Int → zM → Prop} {J : Nat → zS → Prop} {μ : zM} (C : zJ G true (0) 0 0 mX0_greatestRest (zKI F) J) {a0 : Nat} (ha0 : zIsCh a0)
    (h : J 4 ([some (zR (some (a0))), some (zI 0), some (zI 1)], [], μ, 0, 0)) : J 0 ([some (zR (some (a0))), none, none], [], μ, 0, 0) := by
  obtain ⟨p, e, s, m, args, below, meth, c, A, hml, hr, hlk, hnm, rfl⟩ := C
  refine s_iconst A dX0_greatestRest_0 ?_
  refine s_istore_n (L' := [some (zR (some (a0))), some (zI 0), none]) A dX0_greatestRest_1 (Nat.le_of_ble_eq_true rfl) rfl ?_
  refine s_iconst A dX0_greatestRest_2 ?_
  refine s_istore_n (L' := [some (zR (some (a0))), some (zI 0), some (zI 1)]) A dX0_greatestRest_3 (Nat.le_of_ble_eq_true rfl) rfl ?_
  exact h
set_option maxRecDepth 20000 in
theorem rX0_greatestRest_4 {G : zG} {F : Int → zM → Prop} {J : Nat → zS → Prop} {μ : zM} (C : zJ G true (0) 0 0 mX0_greatestRest (zKI F) J) {a0 : Nat} (ha0 : zIsCh a0) (x1 : Int) (x2 : Int)
    (h : zin x2 ∧ ((4 ≤ x2 → F x1 μ) ∧ (¬ (4 ≤ x2) → (0 ≤ x2 ∧ x2 < 4) ∧ (0 ≤ x1 ∧ x1 < 4) ∧ zin (zi μ (a0 + 5) x2) ∧ zin (zi μ (a0 + 5) x1) ∧ ((zi μ (a0 + 5) x2 ≤ zi μ (a0 + 5) x1 → J 4 ([some (zR (some (a0))), some (zI x1), some (zI (x2 + 1))], [], μ, 0, 0)) ∧ (¬ (zi μ (a0 + 5) x2 ≤ zi μ (a0 + 5) x1) → J 4 ([some (zR (some (a0))), some (zI x2), some (zI (x2 + 1))], [], μ, 0, 0)))))) : J 4 ([some (zR (some (a0))), some (zI x1), some (zI x2)], [], μ, 0, 0) := by
  obtain ⟨p, e, s, m, args, below, meth, c, A, hml, hr, hlk, hnm, rfl⟩ := C
  refine s_iload_n A dX0_greatestRest_4 rfl ?_
  refine s_iconst A dX0_greatestRest_5 ?_
  obtain ⟨oz1, h⟩ := h
  refine z_icmp_ge (tgt := 32) A dX0_greatestRest_6 (by decide) oz1 ⟨by decide, by decide⟩ (fun c2 => ?_) (fun c2 => ?_)
  · have h := h.1 c2
    refine s_iload_n A dX0_greatestRest_32 rfl ?_
    exact s_iret A dX0_greatestRest_33 hr hlk (Nat.le_of_ble_eq_true rfl) (Nat.le_of_ble_eq_true rfl) ⟨_, rfl, h⟩
  · have h := h.2 c2
    refine s_aload_n A dX0_greatestRest_9 rfl ?_
    refine s_getf (k := 0) (j := 4) (sl := true) (v := zR (some (a0 + 5))) A dX0_greatestRest_10 rfl zuw_X0 (Nat.le_of_ble_eq_true rfl) zwd259 (by decide) (ha0.k0 _) rfl ?_
    refine s_iload_n A dX0_greatestRest_13 rfl ?_
    obtain ⟨ox3, h⟩ := h
    refine z_iald A dX0_greatestRest_14 (ha0.k5 _) (Nat.le_of_ble_eq_true rfl) ox3 ?_
    refine s_aload_n A dX0_greatestRest_15 rfl ?_
    refine s_getf (k := 0) (j := 4) (sl := true) (v := zR (some (a0 + 5))) A dX0_greatestRest_16 rfl zuw_X0 (Nat.le_of_ble_eq_true rfl) zwd259 (by decide) (ha0.k0 _) rfl ?_
    refine s_iload_n A dX0_greatestRest_19 rfl ?_
    obtain ⟨ox4, h⟩ := h
    refine z_iald A dX0_greatestRest_20 (ha0.k5 _) (Nat.le_of_ble_eq_true rfl) ox4 ?_
    obtain ⟨oz5, h⟩ := h
    obtain ⟨oz6, h⟩ := h
    refine z_icmp_le (tgt := 26) A dX0_greatestRest_21 (by decide) oz5 oz6 (fun c7 => ?_) (fun c7 => ?_)
    · have h := h.1 c7
      refine s_iinc (L' := [some (zR (some (a0))), some (zI x1), some (zI (x2 + 1))]) A dX0_greatestRest_26 rfl rfl ?_
      refine s_goto (tgt := 4) A dX0_greatestRest_29 (by decide) ?_
      exact h
    · have h := h.2 c7
      refine s_iload_n A dX0_greatestRest_24 rfl ?_
      refine s_istore_n (L' := [some (zR (some (a0))), some (zI x2), some (zI x2)]) A dX0_greatestRest_25 (Nat.le_of_ble_eq_true rfl) rfl ?_
      refine s_iinc (L' := [some (zR (some (a0))), some (zI x2), some (zI (x2 + 1))]) A dX0_greatestRest_26 rfl rfl ?_
      refine s_goto (tgt := 4) A dX0_greatestRest_29 (by decide) ?_
      exact h
theorem eX0_greatestRest {G : zG} {F : Int → zM → Prop} {μ : zM} {a0 : Nat} (h : ∀ J, zJ G true (0) 0 0 mX0_greatestRest (zKI F) J → J 0 ([some (zR (some (a0))), none, none], [], μ, 0, 0)) : qX0_greatestRest G a0 μ F :=
  z_body (by decide +kernel) (Nat.le_of_ble_eq_true rfl) h
set_option maxRecDepth 20000 in
theorem rX0_goTo_e {G : zG} {F : zM → Prop} {J : Nat → zS → Prop} {μ : zM} (C : zJ G true (2) 0 0 mX0_goTo (zKV F) J) {a0 : Nat} (ha0 : zIsCh a0) (x1 : Int)
    (h : J 4 ([some (zR (some (a0))), some (zI x1), some (zI 0), some (zI 0), none, none], [], μ, 0, 0)) : J 0 ([some (zR (some (a0))), some (zI x1), none, none, none, none], [], μ, 0, 0) := by
  obtain ⟨p, e, s, m, args, below, meth, c, A, hml, hr, hlk, hnm, rfl⟩ := C
  refine s_iconst A dX0_goTo_0 ?_
  refine s_istore_n (L' := [some (zR (some (a0))), some (zI x1), some (zI 0), none, none, none]) A dX0_goTo_1 (Nat.le_of_ble_eq_true rfl) rfl ?_
  refine s_iconst A dX0_goTo_2 ?_
  refine s_istore_n (L' := [some (zR (some (a0))), some (zI x1), some (zI 0), some (zI 0), none, none]) A dX0_goTo_3 (Nat.le_of_ble_eq_true rfl) rfl ?_
  exact h
set_option maxRecDepth 20000 in
theorem rX0_goTo_4 {G : zG} {F : zM → Prop} {J : Nat → zS → Prop} {μ : zM} (C : zJ G true (2) 0 0 mX0_goTo (zKV F) J) {a0 : Nat} (ha0 : zIsCh a0) (x1 : Int) (x2 : Int) (x3 : Int)
    (h : zin x3 ∧ ((4 ≤ x3 → J 64 ([some (zR (some (a0))), none, some (zI x2), some (zI 4), some (zI 0), none], [], μ, 0, 0)) ∧ (¬ (4 ≤ x3) → qX10_amountOf G true x1 x3 μ (fun v3 μ3 => zin v3 ∧ ((4 ≤ v3 → (0 ≤ x3 ∧ x3 < 4) ∧ J 4 ([some (zR (some (a0))), some (zI x1), some (zI (x2 + (1 * (zta 2 x3)))), some (zI (x3 + 1)), none, none], [], zup μ3 (a0 + 5) x3 (v3 - (4 * 1)), 0, 0)) ∧ (¬ (4 ≤ v3) → (0 ≤ x3 ∧ x3 < 4) ∧ J 4 ([some (zR (some (a0))), some (zI x1), some (zI (x2 + (0 * (zta 2 x3)))), some (zI (x3 + 1)), none, none], [], zup μ3 (a0 + 5) x3 (v3 - (4 * 0)), 0, 0))))))) : J 4 ([some (zR (some (a0))), some (zI x1), some (zI x2), some (zI x3), none, none], [], μ, 0, 0) := by
  obtain ⟨p, e, s, m, args, below, meth, c, A, hml, hr, hlk, hnm, rfl⟩ := C
  refine s_iload_n A dX0_goTo_4 rfl ?_
  refine s_iconst A dX0_goTo_5 ?_
  obtain ⟨oz1, h⟩ := h
  refine z_icmp_ge (tgt := 59) A dX0_goTo_6 (by decide) oz1 ⟨by decide, by decide⟩ (fun c2 => ?_) (fun c2 => ?_)
  · have h := h.1 c2
    refine s_iconst A dX0_goTo_59 ?_
    refine s_istore_n (L' := [some (zR (some (a0))), some (zI x1), some (zI x2), some (zI 4), none, none]) A dX0_goTo_60 (Nat.le_of_ble_eq_true rfl) rfl ?_
    refine s_iconst A dX0_goTo_61 ?_
    refine s_istore (L' := [some (zR (some (a0))), some (zI x1), some (zI x2), some (zI 4), some (zI 0), none]) A dX0_goTo_62 (Nat.le_of_ble_eq_true rfl) rfl ?_
    exact z_wk (L' := [some (zR (some (a0))), none, some (zI x2), some (zI 4), some (zI 0), none]) ⟨rfl, rfl, rfl, rfl, trivial⟩ h
  · have h := h.2 c2
    refine s_iload_n A dX0_goTo_9 rfl ?_
    refine s_iload_n A dX0_goTo_10 rfl ?_
    refine s_callSN (host := "InkFolds") (M := mX10_amountOf) (n := 2) (d := 0) (mc := 0) (ms := 0) (av := [zI x1, zI x3]) (st := []) A dX0_goTo_11 zwr839 zwd840 zwd89 zcd_X10_amountOf (Nat.le_of_ble_eq_true rfl) (Nat.le_of_ble_eq_true rfl) (Nat.le_refl _) ⟨Nat.le_of_ble_eq_true rfl, Nat.le_of_ble_eq_true rfl⟩ zhn_X10_amountOf rfl (Nat.le_of_ble_eq_true rfl) rfl (z_contI (fun v3 μ3 h => ?_) h)
    refine s_istore (L' := [some (zR (some (a0))), some (zI x1), some (zI x2), some (zI x3), some (zI v3), none]) A dX0_goTo_14 (Nat.le_of_ble_eq_true rfl) rfl ?_
    refine s_iload A dX0_goTo_16 rfl ?_
    refine s_iconst A dX0_goTo_18 ?_
    obtain ⟨oz4, h⟩ := h
    refine z_icmp_ge (tgt := 26) A dX0_goTo_19 (by decide) oz4 ⟨by decide, by decide⟩ (fun c5 => ?_) (fun c5 => ?_)
    · have h := h.1 c5
      refine s_iconst A dX0_goTo_26 ?_
      refine s_istore (L' := [some (zR (some (a0))), some (zI x1), some (zI x2), some (zI x3), some (zI v3), some (zI 1)]) A dX0_goTo_27 (Nat.le_of_ble_eq_true rfl) rfl ?_
      refine s_aload_n A dX0_goTo_29 rfl ?_
      refine s_getf (k := 0) (j := 4) (sl := true) (v := zR (some (a0 + 5))) A dX0_goTo_30 rfl zuw_X0 (Nat.le_of_ble_eq_true rfl) zwd259 (by decide) (ha0.k0 _) rfl ?_
      refine s_iload_n A dX0_goTo_33 rfl ?_
      refine s_iload A dX0_goTo_34 rfl ?_
      refine s_iconst A dX0_goTo_36 ?_
      refine s_iload A dX0_goTo_37 rfl ?_
      refine s_imul A dX0_goTo_39 ?_
      refine s_isub A dX0_goTo_40 ?_
      obtain ⟨ox6, h⟩ := h
      refine z_iast A dX0_goTo_41 (ha0.k5 _) (Nat.le_of_ble_eq_true rfl) ox6 ?_
      refine s_iload_n A dX0_goTo_42 rfl ?_
      refine s_iload A dX0_goTo_43 rfl ?_
      refine s_getsN (t := 2) A dX0_goTo_45 (by decide) (host := "InkFolds") zwr842 ?_
      refine s_iload_n A dX0_goTo_48 rfl ?_
      refine z_tald A dX0_goTo_49 (by decide) (Nat.le_of_ble_eq_true rfl) ox6 ?_
      refine s_imul A dX0_goTo_50 ?_
      refine s_iadd A dX0_goTo_51 ?_
      refine s_istore_n (L' := [some (zR (some (a0))), some (zI x1), some (zI (x2 + (1 * (zta 2 x3)))), some (zI x3), some (zI v3), some (zI 1)]) A dX0_goTo_52 (Nat.le_of_ble_eq_true rfl) rfl ?_
      refine s_iinc (L' := [some (zR (some (a0))), some (zI x1), some (zI (x2 + (1 * (zta 2 x3)))), some (zI (x3 + 1)), some (zI v3), some (zI 1)]) A dX0_goTo_53 rfl rfl ?_
      refine s_goto (tgt := 4) A dX0_goTo_56 (by decide) ?_
      exact z_wk (L' := [some (zR (some (a0))), some (zI x1), some (zI (x2 + (1 * (zta 2 x3)))), some (zI (x3 + 1)), none, none]) ⟨rfl, rfl, rfl, rfl, trivial⟩ h
    · have h := h.2 c5
      refine s_iconst A dX0_goTo_22 ?_
      refine s_goto (tgt := 27) A dX0_goTo_23 (by decide) ?_
      refine s_istore (L' := [some (zR (some (a0))), some (zI x1), some (zI x2), some (zI x3), some (zI v3), some (zI 0)]) A dX0_goTo_27 (Nat.le_of_ble_eq_true rfl) rfl ?_
      refine s_aload_n A dX0_goTo_29 rfl ?_
      refine s_getf (k := 0) (j := 4) (sl := true) (v := zR (some (a0 + 5))) A dX0_goTo_30 rfl zuw_X0 (Nat.le_of_ble_eq_true rfl) zwd259 (by decide) (ha0.k0 _) rfl ?_
      refine s_iload_n A dX0_goTo_33 rfl ?_
      refine s_iload A dX0_goTo_34 rfl ?_
      refine s_iconst A dX0_goTo_36 ?_
      refine s_iload A dX0_goTo_37 rfl ?_
      refine s_imul A dX0_goTo_39 ?_
      refine s_isub A dX0_goTo_40 ?_
      obtain ⟨ox7, h⟩ := h
      refine z_iast A dX0_goTo_41 (ha0.k5 _) (Nat.le_of_ble_eq_true rfl) ox7 ?_
      refine s_iload_n A dX0_goTo_42 rfl ?_
      refine s_iload A dX0_goTo_43 rfl ?_
      refine s_getsN (t := 2) A dX0_goTo_45 (by decide) (host := "InkFolds") zwr842 ?_
      refine s_iload_n A dX0_goTo_48 rfl ?_
      refine z_tald A dX0_goTo_49 (by decide) (Nat.le_of_ble_eq_true rfl) ox7 ?_
      refine s_imul A dX0_goTo_50 ?_
      refine s_iadd A dX0_goTo_51 ?_
      refine s_istore_n (L' := [some (zR (some (a0))), some (zI x1), some (zI (x2 + (0 * (zta 2 x3)))), some (zI x3), some (zI v3), some (zI 0)]) A dX0_goTo_52 (Nat.le_of_ble_eq_true rfl) rfl ?_
      refine s_iinc (L' := [some (zR (some (a0))), some (zI x1), some (zI (x2 + (0 * (zta 2 x3)))), some (zI (x3 + 1)), some (zI v3), some (zI 0)]) A dX0_goTo_53 rfl rfl ?_
      refine s_goto (tgt := 4) A dX0_goTo_56 (by decide) ?_
      exact z_wk (L' := [some (zR (some (a0))), some (zI x1), some (zI (x2 + (0 * (zta 2 x3)))), some (zI (x3 + 1)), none, none]) ⟨rfl, rfl, rfl, rfl, trivial⟩ h
set_option maxRecDepth 20000 in
theorem rX0_goTo_64 {G : zG} {F : zM → Prop} {J : Nat → zS → Prop} {μ : zM} (C : zJ G true (2) 0 0 mX0_goTo (zKV F) J) {a0 : Nat} (ha0 : zIsCh a0) (x2 : Int) (x3 : Int) (x4 : Int)
    (h : zin x4 ∧ ((4 ≤ x4 → F (zup (zup μ (a0 + 3) 4 x2) (a0 + 4) 4 x3)) ∧ (¬ (4 ≤ x4) → qX0_greatestRest G a0 μ (fun v3 μ3 => (0 ≤ x4 ∧ x4 < 5) ∧ (0 ≤ v3 ∧ v3 < 4) ∧ J 64 ([some (zR (some (a0))), none, some (zI (x2 + (zta 2 v3))), some (zI (zi (zup (zup μ3 (a0 + 3) x4 x2) (a0 + 4) x4 (x3 - (zi (zup μ3 (a0 + 3) x4 x2) (a0 + 5) v3))) (a0 + 5) v3)), some (zI (x4 + 1)), none], [], zup (zup (zup μ3 (a0 + 3) x4 x2) (a0 + 4) x4 (x3 - (zi (zup μ3 (a0 + 3) x4 x2) (a0 + 5) v3))) (a0 + 5) v3 (-1), 0, 0))))) : J 64 ([some (zR (some (a0))), none, some (zI x2), some (zI x3), some (zI x4), none], [], μ, 0, 0) := by
  obtain ⟨p, e, s, m, args, below, meth, c, A, hml, hr, hlk, hnm, rfl⟩ := C
  refine s_iload A dX0_goTo_64 rfl ?_
  refine s_iconst A dX0_goTo_66 ?_
  obtain ⟨oz1, h⟩ := h
  refine z_icmp_ge (tgt := 131) A dX0_goTo_67 (by decide) oz1 ⟨by decide, by decide⟩ (fun c2 => ?_) (fun c2 => ?_)
  · have h := h.1 c2
    refine s_aload_n A dX0_goTo_131 rfl ?_
    refine s_getf (k := 0) (j := 2) (sl := true) (v := zR (some (a0 + 3))) A dX0_goTo_132 rfl zuw_X0 (Nat.le_of_ble_eq_true rfl) zwd255 (by decide) (ha0.k0 _) rfl ?_
    refine s_iconst A dX0_goTo_135 ?_
    refine s_iload_n A dX0_goTo_136 rfl ?_
    refine z_iast A dX0_goTo_137 (ha0.k3 _) (Nat.le_of_ble_eq_true rfl) ⟨by decide, by decide⟩ ?_
    refine s_aload_n A dX0_goTo_138 rfl ?_
    refine s_getf (k := 0) (j := 3) (sl := true) (v := zR (some (a0 + 4))) A dX0_goTo_139 rfl zuw_X0 (Nat.le_of_ble_eq_true rfl) zwd257 (by decide) (ha0.k0 _) rfl ?_
    refine s_iconst A dX0_goTo_142 ?_
    refine s_iload_n A dX0_goTo_143 rfl ?_
    refine z_iast A dX0_goTo_144 (ha0.k4 _) (Nat.le_of_ble_eq_true rfl) ⟨by decide, by decide⟩ ?_
    exact s_vret A dX0_goTo_145 hr hlk (Nat.le_of_ble_eq_true rfl) (Nat.le_of_ble_eq_true rfl) ⟨rfl, h⟩
  · have h := h.2 c2
    refine s_aload_n A dX0_goTo_70 rfl ?_
    refine s_callV (a := a0) (k := 0) (N := 5) (sl := true) (M := mX0_greatestRest) (n := 0) (d := 0) (mc := 0) (ms := 0) (av := []) (st := []) A dX0_goTo_71 rfl (by decide) (ha0.k0 _) zwd843 zwd845 zwd7 zwd95 zcd_X0_greatestRest (Nat.le_of_ble_eq_true rfl) (Nat.le_of_ble_eq_true rfl) (Nat.le_refl _) ⟨Nat.le_of_ble_eq_true rfl, Nat.le_of_ble_eq_true rfl⟩ ⟨rfl, zhn_X0_greatestRest⟩ rfl (Nat.le_of_ble_eq_true rfl) rfl (z_contI (fun v3 μ3 h => ?_) h)
    refine s_istore (L' := [some (zR (some (a0))), none, some (zI x2), some (zI x3), some (zI x4), some (zI v3)]) A dX0_goTo_74 (Nat.le_of_ble_eq_true rfl) rfl ?_
    refine s_aload_n A dX0_goTo_76 rfl ?_
    refine s_getf (k := 0) (j := 2) (sl := true) (v := zR (some (a0 + 3))) A dX0_goTo_77 rfl zuw_X0 (Nat.le_of_ble_eq_true rfl) zwd255 (by decide) (ha0.k0 _) rfl ?_
    refine s_iload A dX0_goTo_80 rfl ?_
    refine s_iload_n A dX0_goTo_82 rfl ?_
    obtain ⟨ox4, h⟩ := h
    refine z_iast A dX0_goTo_83 (ha0.k3 _) (Nat.le_of_ble_eq_true rfl) ox4 ?_
    refine s_aload_n A dX0_goTo_84 rfl ?_
    refine s_getf (k := 0) (j := 3) (sl := true) (v := zR (some (a0 + 4))) A dX0_goTo_85 rfl zuw_X0 (Nat.le_of_ble_eq_true rfl) zwd257 (by decide) (ha0.k0 _) rfl ?_
    refine s_iload A dX0_goTo_88 rfl ?_
    refine s_iload_n A dX0_goTo_90 rfl ?_
    refine s_aload_n A dX0_goTo_91 rfl ?_
    refine s_getf (k := 0) (j := 4) (sl := true) (v := zR (some (a0 + 5))) A dX0_goTo_92 rfl zuw_X0 (Nat.le_of_ble_eq_true rfl) zwd259 (by decide) (ha0.k0 _) rfl ?_
    refine s_iload A dX0_goTo_95 rfl ?_
    obtain ⟨ox5, h⟩ := h
    refine z_iald A dX0_goTo_97 (ha0.k5 _) (Nat.le_of_ble_eq_true rfl) ox5 ?_
    refine s_isub A dX0_goTo_98 ?_
    refine z_iast A dX0_goTo_99 (ha0.k4 _) (Nat.le_of_ble_eq_true rfl) ox4 ?_
    refine s_aload_n A dX0_goTo_100 rfl ?_
    refine s_getf (k := 0) (j := 4) (sl := true) (v := zR (some (a0 + 5))) A dX0_goTo_101 rfl zuw_X0 (Nat.le_of_ble_eq_true rfl) zwd259 (by decide) (ha0.k0 _) rfl ?_
    refine s_iload A dX0_goTo_104 rfl ?_
    refine z_iald A dX0_goTo_106 (ha0.k5 _) (Nat.le_of_ble_eq_true rfl) ox5 ?_
    refine s_istore_n (L' := [some (zR (some (a0))), none, some (zI x2), some (zI (zi (zup (zup μ3 (a0 + 3) x4 x2) (a0 + 4) x4 (x3 - (zi (zup μ3 (a0 + 3) x4 x2) (a0 + 5) v3))) (a0 + 5) v3)), some (zI x4), some (zI v3)]) A dX0_goTo_107 (Nat.le_of_ble_eq_true rfl) rfl ?_
    refine s_iload_n A dX0_goTo_108 rfl ?_
    refine s_getsN (t := 2) A dX0_goTo_109 (by decide) (host := "InkFolds") zwr842 ?_
    refine s_iload A dX0_goTo_112 rfl ?_
    refine z_tald A dX0_goTo_114 (by decide) (Nat.le_of_ble_eq_true rfl) ox5 ?_
    refine s_iadd A dX0_goTo_115 ?_
    refine s_istore_n (L' := [some (zR (some (a0))), none, some (zI (x2 + (zta 2 v3))), some (zI (zi (zup (zup μ3 (a0 + 3) x4 x2) (a0 + 4) x4 (x3 - (zi (zup μ3 (a0 + 3) x4 x2) (a0 + 5) v3))) (a0 + 5) v3)), some (zI x4), some (zI v3)]) A dX0_goTo_116 (Nat.le_of_ble_eq_true rfl) rfl ?_
    refine s_aload_n A dX0_goTo_117 rfl ?_
    refine s_getf (k := 0) (j := 4) (sl := true) (v := zR (some (a0 + 5))) A dX0_goTo_118 rfl zuw_X0 (Nat.le_of_ble_eq_true rfl) zwd259 (by decide) (ha0.k0 _) rfl ?_
    refine s_iload A dX0_goTo_121 rfl ?_
    refine s_iconst A dX0_goTo_123 ?_
    refine z_iast A dX0_goTo_124 (ha0.k5 _) (Nat.le_of_ble_eq_true rfl) ox5 ?_
    refine s_iinc (L' := [some (zR (some (a0))), none, some (zI (x2 + (zta 2 v3))), some (zI (zi (zup (zup μ3 (a0 + 3) x4 x2) (a0 + 4) x4 (x3 - (zi (zup μ3 (a0 + 3) x4 x2) (a0 + 5) v3))) (a0 + 5) v3)), some (zI (x4 + 1)), some (zI v3)]) A dX0_goTo_125 rfl rfl ?_
    refine s_goto (tgt := 64) A dX0_goTo_128 (by decide) ?_
    exact z_wk (L' := [some (zR (some (a0))), none, some (zI (x2 + (zta 2 v3))), some (zI (zi (zup (zup μ3 (a0 + 3) x4 x2) (a0 + 4) x4 (x3 - (zi (zup μ3 (a0 + 3) x4 x2) (a0 + 5) v3))) (a0 + 5) v3)), some (zI (x4 + 1)), none]) ⟨rfl, rfl, rfl, rfl, trivial⟩ h
theorem eX0_goTo {G : zG} {F : zM → Prop} {μ : zM} {a0 : Nat} {x1 : Int} (h : ∀ J, zJ G true (2) 0 0 mX0_goTo (zKV F) J → J 0 ([some (zR (some (a0))), some (zI x1), none, none, none, none], [], μ, 0, 0)) : qX0_goTo G a0 x1 μ F :=
  z_body (by decide +kernel) (Nat.le_of_ble_eq_true rfl) h
set_option maxRecDepth 20000 in
theorem rX0_reckon_e {G : zG} {F : zM → Prop} {J : Nat → zS → Prop} {μ : zM} (C : zJ G true (3) 0 0 mX0_reckon (zKV F) J) {a0 : Nat} (ha0 : zIsCh a0) (x1 : Int)
    (h : qX0_goTo G a0 x1 μ (fun μ1 => J 7 ([some (zR (some (a0))), some (zI x1), some (zI 0), none, none], [], μ1, 0, 0))) : J 0 ([some (zR (some (a0))), some (zI x1), none, none, none], [], μ, 0, 0) := by
  obtain ⟨p, e, s, m, args, below, meth, c, A, hml, hr, hlk, hnm, rfl⟩ := C
  refine s_aload_n A dX0_reckon_0 rfl ?_
  refine s_iload_n A dX0_reckon_1 rfl ?_
  refine s_callV (a := a0) (k := 0) (N := 5) (sl := true) (M := mX0_goTo) (n := 1) (d := 2) (mc := 0) (ms := 0) (av := [zI x1]) (st := []) A dX0_reckon_2 rfl (by decide) (ha0.k0 _) zwd835 zwd836 zwd837 zwd95 zcd_X0_goTo (Nat.le_of_ble_eq_true rfl) (Nat.le_of_ble_eq_true rfl) (Nat.le_refl _) ⟨Nat.le_of_ble_eq_true rfl, Nat.le_of_ble_eq_true rfl⟩ ⟨rfl, zhn_X0_goTo⟩ rfl (Nat.le_of_ble_eq_true rfl) rfl (z_contV (fun μ1 h => ?_) h)
  refine s_iconst A dX0_reckon_5 ?_
  refine s_istore_n (L' := [some (zR (some (a0))), some (zI x1), some (zI 0), none, none]) A dX0_reckon_6 (Nat.le_of_ble_eq_true rfl) rfl ?_
  exact h
set_option maxRecDepth 20000 in
theorem rX0_reckon_7 {G : zG} {F : zM → Prop} {J : Nat → zS → Prop} {μ : zM} (C : zJ G true (3) 0 0 mX0_reckon (zKV F) J) {a0 : Nat} (ha0 : zIsCh a0) (x1 : Int) (x2 : Int)
    (h : zin x2 ∧ ((3 ≤ x2 → F μ) ∧ (¬ (3 ≤ x2) → J 17 ([some (zR (some (a0))), some (zI x1), some (zI x2), some (zI 0), some (zI 0)], [], μ, 0, 0)))) : J 7 ([some (zR (some (a0))), some (zI x1), some (zI x2), none, none], [], μ, 0, 0) := by
  obtain ⟨p, e, s, m, args, below, meth, c, A, hml, hr, hlk, hnm, rfl⟩ := C
  refine s_iload_n A dX0_reckon_7 rfl ?_
  refine s_iconst A dX0_reckon_8 ?_
  obtain ⟨oz1, h⟩ := h
  refine z_icmp_ge (tgt := 73) A dX0_reckon_9 (by decide) oz1 ⟨by decide, by decide⟩ (fun c2 => ?_) (fun c2 => ?_)
  · have h := h.1 c2
    exact s_vret A dX0_reckon_73 hr hlk (Nat.le_of_ble_eq_true rfl) (Nat.le_of_ble_eq_true rfl) ⟨rfl, h⟩
  · have h := h.2 c2
    refine s_iconst A dX0_reckon_12 ?_
    refine s_istore_n (L' := [some (zR (some (a0))), some (zI x1), some (zI x2), some (zI 0), none]) A dX0_reckon_13 (Nat.le_of_ble_eq_true rfl) rfl ?_
    refine s_iconst A dX0_reckon_14 ?_
    refine s_istore (L' := [some (zR (some (a0))), some (zI x1), some (zI x2), some (zI 0), some (zI 0)]) A dX0_reckon_15 (Nat.le_of_ble_eq_true rfl) rfl ?_
    exact h
set_option maxRecDepth 20000 in
theorem rX0_reckon_17 {G : zG} {F : zM → Prop} {J : Nat → zS → Prop} {μ : zM} (C : zJ G true (3) 0 0 mX0_reckon (zKV F) J) {a0 : Nat} (ha0 : zIsCh a0) (x1 : Int) (x2 : Int) (x3 : Int) (x4 : Int)
    (h : zin x4 ∧ ((4 < x4 → (0 ≤ (x1 * 3) + x2 ∧ (x1 * 3) + x2 < 19683) ∧ J 7 ([some (zR (some (a0))), some (zI x1), some (zI (x2 + 1)), none, none], [], zup μ (a0 + 2) ((x1 * 3) + x2) x3, 0, 0)) ∧ (¬ (4 < x4) → (0 ≤ x4 ∧ x4 < 5) ∧ (0 ≤ ((zi μ (a0 + 3) x4) * 3) + x2 ∧ ((zi μ (a0 + 3) x4) * 3) + x2 < 243) ∧ J 17 ([some (zR (some (a0))), some (zI x1), some (zI x2), some (zI (x3 + ((zi μ (a0 + 4) x4) * (zi μ (a0 + 1) (((zi μ (a0 + 3) x4) * 3) + x2))))), some (zI (x4 + 1))], [], μ, 0, 0)))) : J 17 ([some (zR (some (a0))), some (zI x1), some (zI x2), some (zI x3), some (zI x4)], [], μ, 0, 0) := by
  obtain ⟨p, e, s, m, args, below, meth, c, A, hml, hr, hlk, hnm, rfl⟩ := C
  refine s_iload A dX0_reckon_17 rfl ?_
  refine s_iconst A dX0_reckon_19 ?_
  obtain ⟨oz1, h⟩ := h
  refine z_icmp_gt (tgt := 56) A dX0_reckon_20 (by decide) oz1 ⟨by decide, by decide⟩ (fun c2 => ?_) (fun c2 => ?_)
  · have h := h.1 c2
    refine s_aload_n A dX0_reckon_56 rfl ?_
    refine s_getf (k := 0) (j := 1) (sl := true) (v := zR (some (a0 + 2))) A dX0_reckon_57 rfl zuw_X0 (Nat.le_of_ble_eq_true rfl) zwd254 (by decide) (ha0.k0 _) rfl ?_
    refine s_iload_n A dX0_reckon_60 rfl ?_
    refine s_iconst A dX0_reckon_61 ?_
    refine s_imul A dX0_reckon_62 ?_
    refine s_iload_n A dX0_reckon_63 rfl ?_
    refine s_iadd A dX0_reckon_64 ?_
    refine s_iload_n A dX0_reckon_65 rfl ?_
    obtain ⟨ox3, h⟩ := h
    refine z_iast A dX0_reckon_66 (ha0.k2 _) (Nat.le_of_ble_eq_true rfl) ox3 ?_
    refine s_iinc (L' := [some (zR (some (a0))), some (zI x1), some (zI (x2 + 1)), some (zI x3), some (zI x4)]) A dX0_reckon_67 rfl rfl ?_
    refine s_goto (tgt := 7) A dX0_reckon_70 (by decide) ?_
    exact z_wk (L' := [some (zR (some (a0))), some (zI x1), some (zI (x2 + 1)), none, none]) ⟨rfl, rfl, rfl, trivial⟩ h
  · have h := h.2 c2
    refine s_iload_n A dX0_reckon_23 rfl ?_
    refine s_aload_n A dX0_reckon_24 rfl ?_
    refine s_getf (k := 0) (j := 3) (sl := true) (v := zR (some (a0 + 4))) A dX0_reckon_25 rfl zuw_X0 (Nat.le_of_ble_eq_true rfl) zwd257 (by decide) (ha0.k0 _) rfl ?_
    refine s_iload A dX0_reckon_28 rfl ?_
    obtain ⟨ox4, h⟩ := h
    refine z_iald A dX0_reckon_30 (ha0.k4 _) (Nat.le_of_ble_eq_true rfl) ox4 ?_
    refine s_aload_n A dX0_reckon_31 rfl ?_
    refine s_getf (k := 0) (j := 0) (sl := true) (v := zR (some (a0 + 1))) A dX0_reckon_32 rfl zuw_X0 (Nat.le_of_ble_eq_true rfl) zwd253 (by decide) (ha0.k0 _) rfl ?_
    refine s_aload_n A dX0_reckon_35 rfl ?_
    refine s_getf (k := 0) (j := 2) (sl := true) (v := zR (some (a0 + 3))) A dX0_reckon_36 rfl zuw_X0 (Nat.le_of_ble_eq_true rfl) zwd255 (by decide) (ha0.k0 _) rfl ?_
    refine s_iload A dX0_reckon_39 rfl ?_
    refine z_iald A dX0_reckon_41 (ha0.k3 _) (Nat.le_of_ble_eq_true rfl) ox4 ?_
    refine s_iconst A dX0_reckon_42 ?_
    refine s_imul A dX0_reckon_43 ?_
    refine s_iload_n A dX0_reckon_44 rfl ?_
    refine s_iadd A dX0_reckon_45 ?_
    obtain ⟨ox5, h⟩ := h
    refine z_iald A dX0_reckon_46 (ha0.k1 _) (Nat.le_of_ble_eq_true rfl) ox5 ?_
    refine s_imul A dX0_reckon_47 ?_
    refine s_iadd A dX0_reckon_48 ?_
    refine s_istore_n (L' := [some (zR (some (a0))), some (zI x1), some (zI x2), some (zI (x3 + ((zi μ (a0 + 4) x4) * (zi μ (a0 + 1) (((zi μ (a0 + 3) x4) * 3) + x2))))), some (zI x4)]) A dX0_reckon_49 (Nat.le_of_ble_eq_true rfl) rfl ?_
    refine s_iinc (L' := [some (zR (some (a0))), some (zI x1), some (zI x2), some (zI (x3 + ((zi μ (a0 + 4) x4) * (zi μ (a0 + 1) (((zi μ (a0 + 3) x4) * 3) + x2))))), some (zI (x4 + 1))]) A dX0_reckon_50 rfl rfl ?_
    refine s_goto (tgt := 17) A dX0_reckon_53 (by decide) ?_
    exact h
theorem eX0_reckon {G : zG} {F : zM → Prop} {μ : zM} {a0 : Nat} {x1 : Int} (h : ∀ J, zJ G true (3) 0 0 mX0_reckon (zKV F) J → J 0 ([some (zR (some (a0))), some (zI x1), none, none, none], [], μ, 0, 0)) : qX0_reckon G a0 x1 μ F :=
  z_body (by decide +kernel) (Nat.le_of_ble_eq_true rfl) h
set_option maxRecDepth 20000 in
theorem rX0_follow_e {G : zG} {F : zM → Prop} {J : Nat → zS → Prop} {μ : zM} (C : zJ G true (10) 0 0 mX0_follow (zKV F) J) {a0 : Nat} (ha0 : zIsCh a0) {a1 : Nat} (ha1 : zIsSt a1)
    (h : J 4 ([some (zR (some (a0))), some (zR (some (a1))), some (zI 0), some (zI 0), none, none], [], μ, 0, 0)) : J 0 ([some (zR (some (a0))), some (zR (some (a1))), none, none, none, none], [], μ, 0, 0) := by
  obtain ⟨p, e, s, m, args, below, meth, c, A, hml, hr, hlk, hnm, rfl⟩ := C
  refine s_iconst A dX0_follow_0 ?_
  refine s_istore_n (L' := [some (zR (some (a0))), some (zR (some (a1))), some (zI 0), none, none, none]) A dX0_follow_1 (Nat.le_of_ble_eq_true rfl) rfl ?_
  refine s_iconst A dX0_follow_2 ?_
  refine s_istore_n (L' := [some (zR (some (a0))), some (zR (some (a1))), some (zI 0), some (zI 0), none, none]) A dX0_follow_3 (Nat.le_of_ble_eq_true rfl) rfl ?_
  exact h
set_option maxRecDepth 20000 in
theorem rX0_follow_4 {G : zG} {F : zM → Prop} {J : Nat → zS → Prop} {μ : zM} (C : zJ G true (10) 0 0 mX0_follow (zKV F) J) {a0 : Nat} (ha0 : zIsCh a0) {a1 : Nat} (ha1 : zIsSt a1) (x2 : Int) (x3 : Int)
    (h : zin x3 ∧ ((81 ≤ x3 → zin x2 ∧ ((x2 = 0 → F μ) ∧ (¬ (x2 = 0) → J 77 ([some (zR (some (a0))), none, none, some (zI 0), none, none], [], μ, 0, 0)))) ∧ (¬ (81 ≤ x3) → J 13 ([some (zR (some (a0))), some (zR (some (a1))), some (zI x2), some (zI x3), some (zI 0), none], [], μ, 0, 0)))) : J 4 ([some (zR (some (a0))), some (zR (some (a1))), some (zI x2), some (zI x3), none, none], [], μ, 0, 0) := by
  obtain ⟨p, e, s, m, args, below, meth, c, A, hml, hr, hlk, hnm, rfl⟩ := C
  refine s_iload_n A dX0_follow_4 rfl ?_
  refine s_bipush A dX0_follow_5 rfl ?_
  obtain ⟨oz1, h⟩ := h
  refine z_icmp_ge (tgt := 71) A dX0_follow_7 (by decide) oz1 ⟨by decide, by decide⟩ (fun c2 => ?_) (fun c2 => ?_)
  · have h := h.1 c2
    refine s_iload_n A dX0_follow_71 rfl ?_
    obtain ⟨oz3, h⟩ := h
    refine z_if_eq (tgt := 95) A dX0_follow_72 (by decide) oz3 (fun c4 => ?_) (fun c4 => ?_)
    · have h := h.1 c4
      exact s_vret A dX0_follow_95 hr hlk (Nat.le_of_ble_eq_true rfl) (Nat.le_of_ble_eq_true rfl) ⟨rfl, h⟩
    · have h := h.2 c4
      refine s_iconst A dX0_follow_75 ?_
      refine s_istore_n (L' := [some (zR (some (a0))), some (zR (some (a1))), some (zI x2), some (zI 0), none, none]) A dX0_follow_76 (Nat.le_of_ble_eq_true rfl) rfl ?_
      exact z_wk (L' := [some (zR (some (a0))), none, none, some (zI 0), none, none]) ⟨rfl, rfl, trivial⟩ h
  · have h := h.2 c2
    refine s_iconst A dX0_follow_10 ?_
    refine s_istore (L' := [some (zR (some (a0))), some (zR (some (a1))), some (zI x2), some (zI x3), some (zI 0), none]) A dX0_follow_11 (Nat.le_of_ble_eq_true rfl) rfl ?_
    exact h
set_option maxRecDepth 20000 in
theorem rX0_follow_13 {G : zG} {F : zM → Prop} {J : Nat → zS → Prop} {μ : zM} (C : zJ G true (10) 0 0 mX0_follow (zKV F) J) {a0 : Nat} (ha0 : zIsCh a0) {a1 : Nat} (ha1 : zIsSt a1) (x2 : Int) (x3 : Int) (x4 : Int)
    (h : zin x4 ∧ ((3 ≤ x4 → J 4 ([some (zR (some (a0))), some (zR (some (a1))), some (zI x2), some (zI (x3 + 1)), none, none], [], μ, 0, 0)) ∧ (¬ (3 ≤ x4) → qX7_lightOf G a1 x3 x4 μ (fun v3 μ3 => (0 ≤ (x3 * 3) + x4 ∧ (x3 * 3) + x4 < 243) ∧ zin (zi μ3 (a0 + 1) ((x3 * 3) + x4)) ∧ zin v3 ∧ ((zi μ3 (a0 + 1) ((x3 * 3) + x4) = v3 → J 13 ([some (zR (some (a0))), some (zR (some (a1))), some (zI x2), some (zI x3), some (zI (x4 + 1)), none], [], μ3, 0, 0)) ∧ (¬ (zi μ3 (a0 + 1) ((x3 * 3) + x4) = v3) → J 13 ([some (zR (some (a0))), some (zR (some (a1))), some (zI 1), some (zI x3), some (zI (x4 + 1)), none], [], zup μ3 (a0 + 1) ((x3 * 3) + x4) v3, 0, 0))))))) : J 13 ([some (zR (some (a0))), some (zR (some (a1))), some (zI x2), some (zI x3), some (zI x4), none], [], μ, 0, 0) := by
  obtain ⟨p, e, s, m, args, below, meth, c, A, hml, hr, hlk, hnm, rfl⟩ := C
  refine s_iload A dX0_follow_13 rfl ?_
  refine s_iconst A dX0_follow_15 ?_
  obtain ⟨oz1, h⟩ := h
  refine z_icmp_ge (tgt := 65) A dX0_follow_16 (by decide) oz1 ⟨by decide, by decide⟩ (fun c2 => ?_) (fun c2 => ?_)
  · have h := h.1 c2
    refine s_iinc (L' := [some (zR (some (a0))), some (zR (some (a1))), some (zI x2), some (zI (x3 + 1)), some (zI x4), none]) A dX0_follow_65 rfl rfl ?_
    refine s_goto (tgt := 4) A dX0_follow_68 (by decide) ?_
    exact z_wk (L' := [some (zR (some (a0))), some (zR (some (a1))), some (zI x2), some (zI (x3 + 1)), none, none]) ⟨rfl, rfl, rfl, rfl, trivial⟩ h
  · have h := h.2 c2
    refine s_aload_n A dX0_follow_19 rfl ?_
    refine s_iload_n A dX0_follow_20 rfl ?_
    refine s_iload A dX0_follow_21 rfl ?_
    refine s_callV (a := a1) (k := 7) (N := 9) (sl := true) (M := mX7_lightOf) (n := 2) (d := 9) (mc := 0) (ms := 0) (av := [zI x3, zI x4]) (st := []) A dX0_follow_23 rfl (by decide) (ha1.k0 _) zwd821 zwd822 zwd823 zwd92 zcd_X7_lightOf (Nat.le_of_ble_eq_true rfl) (Nat.le_of_ble_eq_true rfl) (Nat.le_refl _) ⟨Nat.le_of_ble_eq_true rfl, Nat.le_of_ble_eq_true rfl⟩ ⟨rfl, zhn_X7_lightOf⟩ rfl (Nat.le_of_ble_eq_true rfl) rfl (z_contI (fun v3 μ3 h => ?_) h)
    refine s_istore (L' := [some (zR (some (a0))), some (zR (some (a1))), some (zI x2), some (zI x3), some (zI x4), some (zI v3)]) A dX0_follow_26 (Nat.le_of_ble_eq_true rfl) rfl ?_
    refine s_aload_n A dX0_follow_28 rfl ?_
    refine s_getf (k := 0) (j := 0) (sl := true) (v := zR (some (a0 + 1))) A dX0_follow_29 rfl zuw_X0 (Nat.le_of_ble_eq_true rfl) zwd253 (by decide) (ha0.k0 _) rfl ?_
    refine s_iload_n A dX0_follow_32 rfl ?_
    refine s_iconst A dX0_follow_33 ?_
    refine s_imul A dX0_follow_34 ?_
    refine s_iload A dX0_follow_35 rfl ?_
    refine s_iadd A dX0_follow_37 ?_
    obtain ⟨ox4, h⟩ := h
    refine z_iald A dX0_follow_38 (ha0.k1 _) (Nat.le_of_ble_eq_true rfl) ox4 ?_
    refine s_iload A dX0_follow_39 rfl ?_
    obtain ⟨oz5, h⟩ := h
    obtain ⟨oz6, h⟩ := h
    refine z_icmp_eq (tgt := 59) A dX0_follow_41 (by decide) oz5 oz6 (fun c7 => ?_) (fun c7 => ?_)
    · have h := h.1 c7
      refine s_iinc (L' := [some (zR (some (a0))), some (zR (some (a1))), some (zI x2), some (zI x3), some (zI (x4 + 1)), some (zI v3)]) A dX0_follow_59 rfl rfl ?_
      refine s_goto (tgt := 13) A dX0_follow_62 (by decide) ?_
      exact z_wk (L' := [some (zR (some (a0))), some (zR (some (a1))), some (zI x2), some (zI x3), some (zI (x4 + 1)), none]) ⟨rfl, rfl, rfl, rfl, rfl, trivial⟩ h
    · have h := h.2 c7
      refine s_aload_n A dX0_follow_44 rfl ?_
      refine s_getf (k := 0) (j := 0) (sl := true) (v := zR (some (a0 + 1))) A dX0_follow_45 rfl zuw_X0 (Nat.le_of_ble_eq_true rfl) zwd253 (by decide) (ha0.k0 _) rfl ?_
      refine s_iload_n A dX0_follow_48 rfl ?_
      refine s_iconst A dX0_follow_49 ?_
      refine s_imul A dX0_follow_50 ?_
      refine s_iload A dX0_follow_51 rfl ?_
      refine s_iadd A dX0_follow_53 ?_
      refine s_iload A dX0_follow_54 rfl ?_
      refine z_iast A dX0_follow_56 (ha0.k1 _) (Nat.le_of_ble_eq_true rfl) ox4 ?_
      refine s_iconst A dX0_follow_57 ?_
      refine s_istore_n (L' := [some (zR (some (a0))), some (zR (some (a1))), some (zI 1), some (zI x3), some (zI x4), some (zI v3)]) A dX0_follow_58 (Nat.le_of_ble_eq_true rfl) rfl ?_
      refine s_iinc (L' := [some (zR (some (a0))), some (zR (some (a1))), some (zI 1), some (zI x3), some (zI (x4 + 1)), some (zI v3)]) A dX0_follow_59 rfl rfl ?_
      refine s_goto (tgt := 13) A dX0_follow_62 (by decide) ?_
      exact z_wk (L' := [some (zR (some (a0))), some (zR (some (a1))), some (zI 1), some (zI x3), some (zI (x4 + 1)), none]) ⟨rfl, rfl, rfl, rfl, rfl, trivial⟩ h
set_option maxRecDepth 20000 in
theorem rX0_follow_77 {G : zG} {F : zM → Prop} {J : Nat → zS → Prop} {μ : zM} (C : zJ G true (10) 0 0 mX0_follow (zKV F) J) {a0 : Nat} (ha0 : zIsCh a0) (x3 : Int)
    (h : zin x3 ∧ ((6561 ≤ x3 → F μ) ∧ (¬ (6561 ≤ x3) → qX0_reckon G a0 x3 μ (fun μ3 => J 77 ([some (zR (some (a0))), none, none, some (zI (x3 + 1)), none, none], [], μ3, 0, 0))))) : J 77 ([some (zR (some (a0))), none, none, some (zI x3), none, none], [], μ, 0, 0) := by
  obtain ⟨p, e, s, m, args, below, meth, c, A, hml, hr, hlk, hnm, rfl⟩ := C
  refine s_iload_n A dX0_follow_77 rfl ?_
  refine s_sipush A dX0_follow_78 rfl ?_
  obtain ⟨oz1, h⟩ := h
  refine z_icmp_ge (tgt := 95) A dX0_follow_81 (by decide) oz1 ⟨by decide, by decide⟩ (fun c2 => ?_) (fun c2 => ?_)
  · have h := h.1 c2
    exact s_vret A dX0_follow_95 hr hlk (Nat.le_of_ble_eq_true rfl) (Nat.le_of_ble_eq_true rfl) ⟨rfl, h⟩
  · have h := h.2 c2
    refine s_aload_n A dX0_follow_84 rfl ?_
    refine s_iload_n A dX0_follow_85 rfl ?_
    refine s_callV (a := a0) (k := 0) (N := 5) (sl := true) (M := mX0_reckon) (n := 1) (d := 3) (mc := 0) (ms := 0) (av := [zI x3]) (st := []) A dX0_follow_86 rfl (by decide) (ha0.k0 _) zwd831 zwd833 zwd6 zwd95 zcd_X0_reckon (Nat.le_of_ble_eq_true rfl) (Nat.le_of_ble_eq_true rfl) (Nat.le_refl _) ⟨Nat.le_of_ble_eq_true rfl, Nat.le_of_ble_eq_true rfl⟩ ⟨rfl, zhn_X0_reckon⟩ rfl (Nat.le_of_ble_eq_true rfl) rfl (z_contV (fun μ3 h => ?_) h)
    refine s_iinc (L' := [some (zR (some (a0))), none, none, some (zI (x3 + 1)), none, none]) A dX0_follow_89 rfl rfl ?_
    refine s_goto (tgt := 77) A dX0_follow_92 (by decide) ?_
    exact h
theorem eX0_follow {G : zG} {F : zM → Prop} {μ : zM} {a0 : Nat} {a1 : Nat} (h : ∀ J, zJ G true (10) 0 0 mX0_follow (zKV F) J → J 0 ([some (zR (some (a0))), some (zR (some (a1))), none, none, none, none], [], μ, 0, 0)) : qX0_follow G a0 a1 μ F :=
  z_body (by decide +kernel) (Nat.le_of_ble_eq_true rfl) h
set_option maxRecDepth 20000 in
theorem rX0_number_e {G : zG} {F : Int → zM → Prop} {J : Nat → zS → Prop} {μ : zM} (C : zJ G true (0) 0 0 mX0_number (zKI F) J) {a0 : Nat} (ha0 : zIsCh a0) (x1 : Int) (x2 : Int)
    (h : (0 ≤ (x1 * 3) + x2 ∧ (x1 * 3) + x2 < 19683) ∧ F (zi μ (a0 + 2) ((x1 * 3) + x2)) μ) : J 0 ([some (zR (some (a0))), some (zI x1), some (zI x2)], [], μ, 0, 0) := by
  obtain ⟨p, e, s, m, args, below, meth, c, A, hml, hr, hlk, hnm, rfl⟩ := C
  refine s_aload_n A dX0_number_0 rfl ?_
  refine s_getf (k := 0) (j := 1) (sl := true) (v := zR (some (a0 + 2))) A dX0_number_1 rfl zuw_X0 (Nat.le_of_ble_eq_true rfl) zwd254 (by decide) (ha0.k0 _) rfl ?_
  refine s_iload_n A dX0_number_4 rfl ?_
  refine s_iconst A dX0_number_5 ?_
  refine s_imul A dX0_number_6 ?_
  refine s_iload_n A dX0_number_7 rfl ?_
  refine s_iadd A dX0_number_8 ?_
  obtain ⟨ox1, h⟩ := h
  refine z_iald A dX0_number_9 (ha0.k2 _) (Nat.le_of_ble_eq_true rfl) ox1 ?_
  exact s_iret A dX0_number_10 hr hlk (Nat.le_of_ble_eq_true rfl) (Nat.le_of_ble_eq_true rfl) ⟨_, rfl, h⟩
theorem eX0_number {G : zG} {F : Int → zM → Prop} {μ : zM} {a0 : Nat} {x1 : Int} {x2 : Int} (h : ∀ J, zJ G true (0) 0 0 mX0_number (zKI F) J → J 0 ([some (zR (some (a0))), some (zI x1), some (zI x2)], [], μ, 0, 0)) : qX0_number G a0 x1 x2 μ F :=
  z_body (by decide +kernel) (Nat.le_of_ble_eq_true rfl) h
set_option maxRecDepth 20000 in
theorem rX0_sum_e {G : zG} {F : Int → zM → Prop} {J : Nat → zS → Prop} {μ : zM} (C : zJ G true (2) 0 0 mX0_sum (zKI F) J) {a0 : Nat} (ha0 : zIsCh a0) (x1 : Int)
    (h : qX0_number G a0 x1 0 μ (fun v1 μ1 => qX0_number G a0 x1 1 μ1 (fun v2 μ2 => qX0_number G a0 x1 2 μ2 (fun v3 μ3 => F ((v1 + v2) + v3) μ3)))) : J 0 ([some (zR (some (a0))), some (zI x1)], [], μ, 0, 0) := by
  obtain ⟨p, e, s, m, args, below, meth, c, A, hml, hr, hlk, hnm, rfl⟩ := C
  refine s_aload_n A dX0_sum_0 rfl ?_
  refine s_iload_n A dX0_sum_1 rfl ?_
  refine s_iconst A dX0_sum_2 ?_
  refine s_callV (a := a0) (k := 0) (N := 5) (sl := true) (M := mX0_number) (n := 2) (d := 0) (mc := 0) (ms := 0) (av := [zI x1, zI 0]) (st := []) A dX0_sum_3 rfl (by decide) (ha0.k0 _) zwd915 zwd864 zwd865 zwd95 zcd_X0_number (Nat.le_of_ble_eq_true rfl) (Nat.le_of_ble_eq_true rfl) (Nat.le_refl _) ⟨Nat.le_of_ble_eq_true rfl, Nat.le_of_ble_eq_true rfl⟩ ⟨rfl, zhn_X0_number⟩ rfl (Nat.le_of_ble_eq_true rfl) rfl (z_contI (fun v1 μ1 h => ?_) h)
  refine s_aload_n A dX0_sum_6 rfl ?_
  refine s_iload_n A dX0_sum_7 rfl ?_
  refine s_iconst A dX0_sum_8 ?_
  refine s_callV (a := a0) (k := 0) (N := 5) (sl := true) (M := mX0_number) (n := 2) (d := 0) (mc := 0) (ms := 0) (av := [zI x1, zI 1]) (st := [zI v1]) A dX0_sum_9 rfl (by decide) (ha0.k0 _) zwd915 zwd864 zwd865 zwd95 zcd_X0_number (Nat.le_of_ble_eq_true rfl) (Nat.le_of_ble_eq_true rfl) (Nat.le_refl _) ⟨Nat.le_of_ble_eq_true rfl, Nat.le_of_ble_eq_true rfl⟩ ⟨rfl, zhn_X0_number⟩ rfl (Nat.le_of_ble_eq_true rfl) rfl (z_contI (fun v2 μ2 h => ?_) h)
  refine s_iadd A dX0_sum_12 ?_
  refine s_aload_n A dX0_sum_13 rfl ?_
  refine s_iload_n A dX0_sum_14 rfl ?_
  refine s_iconst A dX0_sum_15 ?_
  refine s_callV (a := a0) (k := 0) (N := 5) (sl := true) (M := mX0_number) (n := 2) (d := 0) (mc := 0) (ms := 0) (av := [zI x1, zI 2]) (st := [zI (v1 + v2)]) A dX0_sum_16 rfl (by decide) (ha0.k0 _) zwd915 zwd864 zwd865 zwd95 zcd_X0_number (Nat.le_of_ble_eq_true rfl) (Nat.le_of_ble_eq_true rfl) (Nat.le_refl _) ⟨Nat.le_of_ble_eq_true rfl, Nat.le_of_ble_eq_true rfl⟩ ⟨rfl, zhn_X0_number⟩ rfl (Nat.le_of_ble_eq_true rfl) rfl (z_contI (fun v3 μ3 h => ?_) h)
  refine s_iadd A dX0_sum_19 ?_
  exact s_iret A dX0_sum_20 hr hlk (Nat.le_of_ble_eq_true rfl) (Nat.le_of_ble_eq_true rfl) ⟨_, rfl, h⟩
theorem eX0_sum {G : zG} {F : Int → zM → Prop} {μ : zM} {a0 : Nat} {x1 : Int} (h : ∀ J, zJ G true (2) 0 0 mX0_sum (zKI F) J → J 0 ([some (zR (some (a0))), some (zI x1)], [], μ, 0, 0)) : qX0_sum G a0 x1 μ F :=
  z_body (by decide +kernel) (Nat.le_of_ble_eq_true rfl) h
set_option maxRecDepth 20000 in
theorem rX0_widest_e {G : zG} {F : Int → zM → Prop} {J : Nat → zS → Prop} {μ : zM} (C : zJ G true (8) 0 0 mX0_widest (zKI F) J) {a0 : Nat} (ha0 : zIsCh a0) (x1 : Int)
    (h : qX0_number G a0 x1 0 μ (fun v1 μ1 => qX0_number G a0 x1 1 μ1 (fun v2 μ2 => qX0_number G a0 x1 2 μ2 (fun v3 μ3 => zin v2 ∧ zin v3 ∧ zin v1 ∧ zin (max v2 v3) ∧ qX0_number G a0 x1 0 μ3 (fun v8 μ8 => qX0_number G a0 x1 1 μ8 (fun v9 μ9 => qX0_number G a0 x1 2 μ9 (fun v10 μ10 => zin v9 ∧ zin v10 ∧ zin v8 ∧ zin (min v9 v10) ∧ F ((max v1 (max v2 v3)) - (min v8 (min v9 v10))) μ10))))))) : J 0 ([some (zR (some (a0))), some (zI x1), none, none], [], μ, 0, 0) := by
  obtain ⟨p, e, s, m, args, below, meth, c, A, hml, hr, hlk, hnm, rfl⟩ := C
  refine s_aload_n A dX0_widest_0 rfl ?_
  refine s_iload_n A dX0_widest_1 rfl ?_
  refine s_iconst A dX0_widest_2 ?_
  refine s_callV (a := a0) (k := 0) (N := 5) (sl := true) (M := mX0_number) (n := 2) (d := 0) (mc := 0) (ms := 0) (av := [zI x1, zI 0]) (st := []) A dX0_widest_3 rfl (by decide) (ha0.k0 _) zwd915 zwd864 zwd865 zwd95 zcd_X0_number (Nat.le_of_ble_eq_true rfl) (Nat.le_of_ble_eq_true rfl) (Nat.le_refl _) ⟨Nat.le_of_ble_eq_true rfl, Nat.le_of_ble_eq_true rfl⟩ ⟨rfl, zhn_X0_number⟩ rfl (Nat.le_of_ble_eq_true rfl) rfl (z_contI (fun v1 μ1 h => ?_) h)
  refine s_aload_n A dX0_widest_6 rfl ?_
  refine s_iload_n A dX0_widest_7 rfl ?_
  refine s_iconst A dX0_widest_8 ?_
  refine s_callV (a := a0) (k := 0) (N := 5) (sl := true) (M := mX0_number) (n := 2) (d := 0) (mc := 0) (ms := 0) (av := [zI x1, zI 1]) (st := [zI v1]) A dX0_widest_9 rfl (by decide) (ha0.k0 _) zwd915 zwd864 zwd865 zwd95 zcd_X0_number (Nat.le_of_ble_eq_true rfl) (Nat.le_of_ble_eq_true rfl) (Nat.le_refl _) ⟨Nat.le_of_ble_eq_true rfl, Nat.le_of_ble_eq_true rfl⟩ ⟨rfl, zhn_X0_number⟩ rfl (Nat.le_of_ble_eq_true rfl) rfl (z_contI (fun v2 μ2 h => ?_) h)
  refine s_aload_n A dX0_widest_12 rfl ?_
  refine s_iload_n A dX0_widest_13 rfl ?_
  refine s_iconst A dX0_widest_14 ?_
  refine s_callV (a := a0) (k := 0) (N := 5) (sl := true) (M := mX0_number) (n := 2) (d := 0) (mc := 0) (ms := 0) (av := [zI x1, zI 2]) (st := [zI v2, zI v1]) A dX0_widest_15 rfl (by decide) (ha0.k0 _) zwd915 zwd864 zwd865 zwd95 zcd_X0_number (Nat.le_of_ble_eq_true rfl) (Nat.le_of_ble_eq_true rfl) (Nat.le_refl _) ⟨Nat.le_of_ble_eq_true rfl, Nat.le_of_ble_eq_true rfl⟩ ⟨rfl, zhn_X0_number⟩ rfl (Nat.le_of_ble_eq_true rfl) rfl (z_contI (fun v3 μ3 h => ?_) h)
  obtain ⟨oz4, h⟩ := h
  obtain ⟨oz5, h⟩ := h
  refine z_mmax A dX0_widest_18 zwd1145 zwd506 zwd105 zwd507 (Nat.le_of_ble_eq_true rfl) (Nat.le_of_ble_eq_true rfl) ⟨Nat.le_of_ble_eq_true rfl, Nat.le_of_ble_eq_true rfl⟩ oz4 oz5 ?_
  obtain ⟨oz6, h⟩ := h
  obtain ⟨oz7, h⟩ := h
  refine z_mmax A dX0_widest_21 zwd1145 zwd506 zwd105 zwd507 (Nat.le_of_ble_eq_true rfl) (Nat.le_of_ble_eq_true rfl) ⟨Nat.le_of_ble_eq_true rfl, Nat.le_of_ble_eq_true rfl⟩ oz6 oz7 ?_
  refine s_istore_n (L' := [some (zR (some (a0))), some (zI x1), some (zI (max v1 (max v2 v3))), none]) A dX0_widest_24 (Nat.le_of_ble_eq_true rfl) rfl ?_
  refine s_aload_n A dX0_widest_25 rfl ?_
  refine s_iload_n A dX0_widest_26 rfl ?_
  refine s_iconst A dX0_widest_27 ?_
  refine s_callV (a := a0) (k := 0) (N := 5) (sl := true) (M := mX0_number) (n := 2) (d := 0) (mc := 0) (ms := 0) (av := [zI x1, zI 0]) (st := []) A dX0_widest_28 rfl (by decide) (ha0.k0 _) zwd915 zwd864 zwd865 zwd95 zcd_X0_number (Nat.le_of_ble_eq_true rfl) (Nat.le_of_ble_eq_true rfl) (Nat.le_refl _) ⟨Nat.le_of_ble_eq_true rfl, Nat.le_of_ble_eq_true rfl⟩ ⟨rfl, zhn_X0_number⟩ rfl (Nat.le_of_ble_eq_true rfl) rfl (z_contI (fun v8 μ8 h => ?_) h)
  refine s_aload_n A dX0_widest_31 rfl ?_
  refine s_iload_n A dX0_widest_32 rfl ?_
  refine s_iconst A dX0_widest_33 ?_
  refine s_callV (a := a0) (k := 0) (N := 5) (sl := true) (M := mX0_number) (n := 2) (d := 0) (mc := 0) (ms := 0) (av := [zI x1, zI 1]) (st := [zI v8]) A dX0_widest_34 rfl (by decide) (ha0.k0 _) zwd915 zwd864 zwd865 zwd95 zcd_X0_number (Nat.le_of_ble_eq_true rfl) (Nat.le_of_ble_eq_true rfl) (Nat.le_refl _) ⟨Nat.le_of_ble_eq_true rfl, Nat.le_of_ble_eq_true rfl⟩ ⟨rfl, zhn_X0_number⟩ rfl (Nat.le_of_ble_eq_true rfl) rfl (z_contI (fun v9 μ9 h => ?_) h)
  refine s_aload_n A dX0_widest_37 rfl ?_
  refine s_iload_n A dX0_widest_38 rfl ?_
  refine s_iconst A dX0_widest_39 ?_
  refine s_callV (a := a0) (k := 0) (N := 5) (sl := true) (M := mX0_number) (n := 2) (d := 0) (mc := 0) (ms := 0) (av := [zI x1, zI 2]) (st := [zI v9, zI v8]) A dX0_widest_40 rfl (by decide) (ha0.k0 _) zwd915 zwd864 zwd865 zwd95 zcd_X0_number (Nat.le_of_ble_eq_true rfl) (Nat.le_of_ble_eq_true rfl) (Nat.le_refl _) ⟨Nat.le_of_ble_eq_true rfl, Nat.le_of_ble_eq_true rfl⟩ ⟨rfl, zhn_X0_number⟩ rfl (Nat.le_of_ble_eq_true rfl) rfl (z_contI (fun v10 μ10 h => ?_) h)
  obtain ⟨oz11, h⟩ := h
  obtain ⟨oz12, h⟩ := h
  refine z_mmin A dX0_widest_43 zwd1146 zwd509 zwd105 zwd510 (Nat.le_of_ble_eq_true rfl) (Nat.le_of_ble_eq_true rfl) ⟨Nat.le_of_ble_eq_true rfl, Nat.le_of_ble_eq_true rfl⟩ oz11 oz12 ?_
  obtain ⟨oz13, h⟩ := h
  obtain ⟨oz14, h⟩ := h
  refine z_mmin A dX0_widest_46 zwd1146 zwd509 zwd105 zwd510 (Nat.le_of_ble_eq_true rfl) (Nat.le_of_ble_eq_true rfl) ⟨Nat.le_of_ble_eq_true rfl, Nat.le_of_ble_eq_true rfl⟩ oz13 oz14 ?_
  refine s_istore_n (L' := [some (zR (some (a0))), some (zI x1), some (zI (max v1 (max v2 v3))), some (zI (min v8 (min v9 v10)))]) A dX0_widest_49 (Nat.le_of_ble_eq_true rfl) rfl ?_
  refine s_iload_n A dX0_widest_50 rfl ?_
  refine s_iload_n A dX0_widest_51 rfl ?_
  refine s_isub A dX0_widest_52 ?_
  exact s_iret A dX0_widest_53 hr hlk (Nat.le_of_ble_eq_true rfl) (Nat.le_of_ble_eq_true rfl) ⟨_, rfl, h⟩
theorem eX0_widest {G : zG} {F : Int → zM → Prop} {μ : zM} {a0 : Nat} {x1 : Int} (h : ∀ J, zJ G true (8) 0 0 mX0_widest (zKI F) J → J 0 ([some (zR (some (a0))), some (zI x1), none, none], [], μ, 0, 0)) : qX0_widest G a0 x1 μ F :=
  z_body (by decide +kernel) (Nat.le_of_ble_eq_true rfl) h
set_option maxRecDepth 20000 in
theorem rX0_packed_e {G : zG} {F : Int → zM → Prop} {J : Nat → zS → Prop} {μ : zM} (C : zJ G true (2) 0 0 mX0_packed (zKI F) J) {a0 : Nat} (ha0 : zIsCh a0) (x1 : Int)
    (h : qX0_number G a0 x1 0 μ (fun v1 μ1 => qX0_number G a0 x1 1 μ1 (fun v2 μ2 => qX0_number G a0 x1 2 μ2 (fun v3 μ3 => F ((((v1 * 512) + v2) * 512) + v3) μ3)))) : J 0 ([some (zR (some (a0))), some (zI x1)], [], μ, 0, 0) := by
  obtain ⟨p, e, s, m, args, below, meth, c, A, hml, hr, hlk, hnm, rfl⟩ := C
  refine s_aload_n A dX0_packed_0 rfl ?_
  refine s_iload_n A dX0_packed_1 rfl ?_
  refine s_iconst A dX0_packed_2 ?_
  refine s_callV (a := a0) (k := 0) (N := 5) (sl := true) (M := mX0_number) (n := 2) (d := 0) (mc := 0) (ms := 0) (av := [zI x1, zI 0]) (st := []) A dX0_packed_3 rfl (by decide) (ha0.k0 _) zwd915 zwd864 zwd865 zwd95 zcd_X0_number (Nat.le_of_ble_eq_true rfl) (Nat.le_of_ble_eq_true rfl) (Nat.le_refl _) ⟨Nat.le_of_ble_eq_true rfl, Nat.le_of_ble_eq_true rfl⟩ ⟨rfl, zhn_X0_number⟩ rfl (Nat.le_of_ble_eq_true rfl) rfl (z_contI (fun v1 μ1 h => ?_) h)
  refine s_sipush A dX0_packed_6 rfl ?_
  refine s_imul A dX0_packed_9 ?_
  refine s_aload_n A dX0_packed_10 rfl ?_
  refine s_iload_n A dX0_packed_11 rfl ?_
  refine s_iconst A dX0_packed_12 ?_
  refine s_callV (a := a0) (k := 0) (N := 5) (sl := true) (M := mX0_number) (n := 2) (d := 0) (mc := 0) (ms := 0) (av := [zI x1, zI 1]) (st := [zI (v1 * 512)]) A dX0_packed_13 rfl (by decide) (ha0.k0 _) zwd915 zwd864 zwd865 zwd95 zcd_X0_number (Nat.le_of_ble_eq_true rfl) (Nat.le_of_ble_eq_true rfl) (Nat.le_refl _) ⟨Nat.le_of_ble_eq_true rfl, Nat.le_of_ble_eq_true rfl⟩ ⟨rfl, zhn_X0_number⟩ rfl (Nat.le_of_ble_eq_true rfl) rfl (z_contI (fun v2 μ2 h => ?_) h)
  refine s_iadd A dX0_packed_16 ?_
  refine s_sipush A dX0_packed_17 rfl ?_
  refine s_imul A dX0_packed_20 ?_
  refine s_aload_n A dX0_packed_21 rfl ?_
  refine s_iload_n A dX0_packed_22 rfl ?_
  refine s_iconst A dX0_packed_23 ?_
  refine s_callV (a := a0) (k := 0) (N := 5) (sl := true) (M := mX0_number) (n := 2) (d := 0) (mc := 0) (ms := 0) (av := [zI x1, zI 2]) (st := [zI (((v1 * 512) + v2) * 512)]) A dX0_packed_24 rfl (by decide) (ha0.k0 _) zwd915 zwd864 zwd865 zwd95 zcd_X0_number (Nat.le_of_ble_eq_true rfl) (Nat.le_of_ble_eq_true rfl) (Nat.le_refl _) ⟨Nat.le_of_ble_eq_true rfl, Nat.le_of_ble_eq_true rfl⟩ ⟨rfl, zhn_X0_number⟩ rfl (Nat.le_of_ble_eq_true rfl) rfl (z_contI (fun v3 μ3 h => ?_) h)
  refine s_iadd A dX0_packed_27 ?_
  exact s_iret A dX0_packed_28 hr hlk (Nat.le_of_ble_eq_true rfl) (Nat.le_of_ble_eq_true rfl) ⟨_, rfl, h⟩
theorem eX0_packed {G : zG} {F : Int → zM → Prop} {μ : zM} {a0 : Nat} {x1 : Int} (h : ∀ J, zJ G true (2) 0 0 mX0_packed (zKI F) J → J 0 ([some (zR (some (a0))), some (zI x1)], [], μ, 0, 0)) : qX0_packed G a0 x1 μ F :=
  z_body (by decide +kernel) (Nat.le_of_ble_eq_true rfl) h
set_option maxRecDepth 20000 in
theorem rX0_onTheWay_e {G : zG} {F : Int → zM → Prop} {J : Nat → zS → Prop} {μ : zM} (C : zJ G true (2) 0 0 mX0_onTheWay (zKI F) J) {a0 : Nat} (ha0 : zIsCh a0) (x1 : Int) (x2 : Int) (x3 : Int) (x4 : Int)
    (h : qX0_number G a0 x1 x3 μ (fun v1 μ1 => qX0_number G a0 x2 x3 μ1 (fun v2 μ2 => qX0_number G a0 x1 x3 μ2 (fun v3 μ3 => (zin ((v2 - v3) * x4)) ∧ F (v1 + (((v2 - v3) * x4).tdiv 8)) μ3)))) : J 0 ([some (zR (some (a0))), some (zI x1), some (zI x2), some (zI x3), some (zI x4)], [], μ, 0, 0) := by
  obtain ⟨p, e, s, m, args, below, meth, c, A, hml, hr, hlk, hnm, rfl⟩ := C
  refine s_aload_n A dX0_onTheWay_0 rfl ?_
  refine s_iload_n A dX0_onTheWay_1 rfl ?_
  refine s_iload_n A dX0_onTheWay_2 rfl ?_
  refine s_callV (a := a0) (k := 0) (N := 5) (sl := true) (M := mX0_number) (n := 2) (d := 0) (mc := 0) (ms := 0) (av := [zI x1, zI x3]) (st := []) A dX0_onTheWay_3 rfl (by decide) (ha0.k0 _) zwd915 zwd864 zwd865 zwd95 zcd_X0_number (Nat.le_of_ble_eq_true rfl) (Nat.le_of_ble_eq_true rfl) (Nat.le_refl _) ⟨Nat.le_of_ble_eq_true rfl, Nat.le_of_ble_eq_true rfl⟩ ⟨rfl, zhn_X0_number⟩ rfl (Nat.le_of_ble_eq_true rfl) rfl (z_contI (fun v1 μ1 h => ?_) h)
  refine s_aload_n A dX0_onTheWay_6 rfl ?_
  refine s_iload_n A dX0_onTheWay_7 rfl ?_
  refine s_iload_n A dX0_onTheWay_8 rfl ?_
  refine s_callV (a := a0) (k := 0) (N := 5) (sl := true) (M := mX0_number) (n := 2) (d := 0) (mc := 0) (ms := 0) (av := [zI x2, zI x3]) (st := [zI v1]) A dX0_onTheWay_9 rfl (by decide) (ha0.k0 _) zwd915 zwd864 zwd865 zwd95 zcd_X0_number (Nat.le_of_ble_eq_true rfl) (Nat.le_of_ble_eq_true rfl) (Nat.le_refl _) ⟨Nat.le_of_ble_eq_true rfl, Nat.le_of_ble_eq_true rfl⟩ ⟨rfl, zhn_X0_number⟩ rfl (Nat.le_of_ble_eq_true rfl) rfl (z_contI (fun v2 μ2 h => ?_) h)
  refine s_aload_n A dX0_onTheWay_12 rfl ?_
  refine s_iload_n A dX0_onTheWay_13 rfl ?_
  refine s_iload_n A dX0_onTheWay_14 rfl ?_
  refine s_callV (a := a0) (k := 0) (N := 5) (sl := true) (M := mX0_number) (n := 2) (d := 0) (mc := 0) (ms := 0) (av := [zI x1, zI x3]) (st := [zI v2, zI v1]) A dX0_onTheWay_15 rfl (by decide) (ha0.k0 _) zwd915 zwd864 zwd865 zwd95 zcd_X0_number (Nat.le_of_ble_eq_true rfl) (Nat.le_of_ble_eq_true rfl) (Nat.le_refl _) ⟨Nat.le_of_ble_eq_true rfl, Nat.le_of_ble_eq_true rfl⟩ ⟨rfl, zhn_X0_number⟩ rfl (Nat.le_of_ble_eq_true rfl) rfl (z_contI (fun v3 μ3 h => ?_) h)
  refine s_isub A dX0_onTheWay_18 ?_
  refine s_iload A dX0_onTheWay_19 rfl ?_
  refine s_imul A dX0_onTheWay_21 ?_
  refine s_bipush A dX0_onTheWay_22 rfl ?_
  obtain ⟨o1, h⟩ := h
  refine z_idivt A dX0_onTheWay_24 o1 ⟨by decide, by decide⟩ ?_
  refine s_iadd A dX0_onTheWay_25 ?_
  exact s_iret A dX0_onTheWay_26 hr hlk (Nat.le_of_ble_eq_true rfl) (Nat.le_of_ble_eq_true rfl) ⟨_, rfl, h⟩
theorem eX0_onTheWay {G : zG} {F : Int → zM → Prop} {μ : zM} {a0 : Nat} {x1 : Int} {x2 : Int} {x3 : Int} {x4 : Int} (h : ∀ J, zJ G true (2) 0 0 mX0_onTheWay (zKI F) J → J 0 ([some (zR (some (a0))), some (zI x1), some (zI x2), some (zI x3), some (zI x4)], [], μ, 0, 0)) : qX0_onTheWay G a0 x1 x2 x3 x4 μ F :=
  z_body (by decide +kernel) (Nat.le_of_ble_eq_true rfl) h
set_option maxRecDepth 20000 in
theorem rX7_weighed_e {G : zG} {F : Int → zM → Prop} {J : Nat → zS → Prop} {μ : zM} (C : zJ G true (0) 0 0 mX7_weighed (zKI F) J) {a0 : Nat} (ha0 : zIsSt a0) (x1 : Int) (x2 : Int) (x3 : Int)
    (h : F (((((zi μ (a0 + 3) 4) * x1) * x1) + (((zi μ (a0 + 3) 5) * x2) * x2)) + (((zi μ (a0 + 3) 6) * x3) * x3)) μ) : J 0 ([some (zR (some (a0))), some (zI x1), some (zI x2), some (zI x3)], [], μ, 0, 0) := by
  obtain ⟨p, e, s, m, args, below, meth, c, A, hml, hr, hlk, hnm, rfl⟩ := C
  refine s_aload_n A dX7_weighed_0 rfl ?_
  refine s_getf (k := 7) (j := 2) (sl := true) (v := zR (some (a0 + 3))) A dX7_weighed_1 rfl zuw_X7 (Nat.le_of_ble_eq_true rfl) zwd188 (by decide) (ha0.k0 _) rfl ?_
  refine s_iconst A dX7_weighed_4 ?_
  refine z_iald A dX7_weighed_5 (ha0.k3 _) (Nat.le_of_ble_eq_true rfl) ⟨by decide, by decide⟩ ?_
  refine s_iload_n A dX7_weighed_6 rfl ?_
  refine s_imul A dX7_weighed_7 ?_
  refine s_iload_n A dX7_weighed_8 rfl ?_
  refine s_imul A dX7_weighed_9 ?_
  refine s_aload_n A dX7_weighed_10 rfl ?_
  refine s_getf (k := 7) (j := 2) (sl := true) (v := zR (some (a0 + 3))) A dX7_weighed_11 rfl zuw_X7 (Nat.le_of_ble_eq_true rfl) zwd188 (by decide) (ha0.k0 _) rfl ?_
  refine s_iconst A dX7_weighed_14 ?_
  refine z_iald A dX7_weighed_15 (ha0.k3 _) (Nat.le_of_ble_eq_true rfl) ⟨by decide, by decide⟩ ?_
  refine s_iload_n A dX7_weighed_16 rfl ?_
  refine s_imul A dX7_weighed_17 ?_
  refine s_iload_n A dX7_weighed_18 rfl ?_
  refine s_imul A dX7_weighed_19 ?_
  refine s_iadd A dX7_weighed_20 ?_
  refine s_aload_n A dX7_weighed_21 rfl ?_
  refine s_getf (k := 7) (j := 2) (sl := true) (v := zR (some (a0 + 3))) A dX7_weighed_22 rfl zuw_X7 (Nat.le_of_ble_eq_true rfl) zwd188 (by decide) (ha0.k0 _) rfl ?_
  refine s_bipush A dX7_weighed_25 rfl ?_
  refine z_iald A dX7_weighed_27 (ha0.k3 _) (Nat.le_of_ble_eq_true rfl) ⟨by decide, by decide⟩ ?_
  refine s_iload_n A dX7_weighed_28 rfl ?_
  refine s_imul A dX7_weighed_29 ?_
  refine s_iload_n A dX7_weighed_30 rfl ?_
  refine s_imul A dX7_weighed_31 ?_
  refine s_iadd A dX7_weighed_32 ?_
  exact s_iret A dX7_weighed_33 hr hlk (Nat.le_of_ble_eq_true rfl) (Nat.le_of_ble_eq_true rfl) ⟨_, rfl, h⟩
theorem eX7_weighed {G : zG} {F : Int → zM → Prop} {μ : zM} {a0 : Nat} {x1 : Int} {x2 : Int} {x3 : Int} (h : ∀ J, zJ G true (0) 0 0 mX7_weighed (zKI F) J → J 0 ([some (zR (some (a0))), some (zI x1), some (zI x2), some (zI x3)], [], μ, 0, 0)) : qX7_weighed G a0 x1 x2 x3 μ F :=
  z_body (by decide +kernel) (Nat.le_of_ble_eq_true rfl) h
set_option maxRecDepth 20000 in
theorem rX0_distanceTo_e {G : zG} {F : Int → zM → Prop} {J : Nat → zS → Prop} {μ : zM} (C : zJ G true (2) 0 0 mX0_distanceTo (zKI F) J) {a0 : Nat} (ha0 : zIsCh a0) {a1 : Nat} (ha1 : zIsSt a1) (x2 : Int) (x3 : Int) (x4 : Int) (x5 : Int)
    (h : qX0_number G a0 x2 0 μ (fun v1 μ1 => qX0_number G a0 x2 1 μ1 (fun v2 μ2 => qX0_number G a0 x2 2 μ2 (fun v3 μ3 => qX7_weighed G a1 (v1 - x3) (v2 - x4) (v3 - x5) μ3 (fun v4 μ4 => F v4 μ4))))) : J 0 ([some (zR (some (a0))), some (zR (some (a1))), some (zI x2), some (zI x3), some (zI x4), some (zI x5)], [], μ, 0, 0) := by
  obtain ⟨p, e, s, m, args, below, meth, c, A, hml, hr, hlk, hnm, rfl⟩ := C
  refine s_aload_n A dX0_distanceTo_0 rfl ?_
  refine s_aload_n A dX0_distanceTo_1 rfl ?_
  refine s_iload_n A dX0_distanceTo_2 rfl ?_
  refine s_iconst A dX0_distanceTo_3 ?_
  refine s_callV (a := a0) (k := 0) (N := 5) (sl := true) (M := mX0_number) (n := 2) (d := 0) (mc := 0) (ms := 0) (av := [zI x2, zI 0]) (st := [zR (some (a1))]) A dX0_distanceTo_4 rfl (by decide) (ha0.k0 _) zwd915 zwd864 zwd865 zwd95 zcd_X0_number (Nat.le_of_ble_eq_true rfl) (Nat.le_of_ble_eq_true rfl) (Nat.le_refl _) ⟨Nat.le_of_ble_eq_true rfl, Nat.le_of_ble_eq_true rfl⟩ ⟨rfl, zhn_X0_number⟩ rfl (Nat.le_of_ble_eq_true rfl) rfl (z_contI (fun v1 μ1 h => ?_) h)
  refine s_iload_n A dX0_distanceTo_7 rfl ?_
  refine s_isub A dX0_distanceTo_8 ?_
  refine s_aload_n A dX0_distanceTo_9 rfl ?_
  refine s_iload_n A dX0_distanceTo_10 rfl ?_
  refine s_iconst A dX0_distanceTo_11 ?_
  refine s_callV (a := a0) (k := 0) (N := 5) (sl := true) (M := mX0_number) (n := 2) (d := 0) (mc := 0) (ms := 0) (av := [zI x2, zI 1]) (st := [zI (v1 - x3), zR (some (a1))]) A dX0_distanceTo_12 rfl (by decide) (ha0.k0 _) zwd915 zwd864 zwd865 zwd95 zcd_X0_number (Nat.le_of_ble_eq_true rfl) (Nat.le_of_ble_eq_true rfl) (Nat.le_refl _) ⟨Nat.le_of_ble_eq_true rfl, Nat.le_of_ble_eq_true rfl⟩ ⟨rfl, zhn_X0_number⟩ rfl (Nat.le_of_ble_eq_true rfl) rfl (z_contI (fun v2 μ2 h => ?_) h)
  refine s_iload A dX0_distanceTo_15 rfl ?_
  refine s_isub A dX0_distanceTo_17 ?_
  refine s_aload_n A dX0_distanceTo_18 rfl ?_
  refine s_iload_n A dX0_distanceTo_19 rfl ?_
  refine s_iconst A dX0_distanceTo_20 ?_
  refine s_callV (a := a0) (k := 0) (N := 5) (sl := true) (M := mX0_number) (n := 2) (d := 0) (mc := 0) (ms := 0) (av := [zI x2, zI 2]) (st := [zI (v2 - x4), zI (v1 - x3), zR (some (a1))]) A dX0_distanceTo_21 rfl (by decide) (ha0.k0 _) zwd915 zwd864 zwd865 zwd95 zcd_X0_number (Nat.le_of_ble_eq_true rfl) (Nat.le_of_ble_eq_true rfl) (Nat.le_refl _) ⟨Nat.le_of_ble_eq_true rfl, Nat.le_of_ble_eq_true rfl⟩ ⟨rfl, zhn_X0_number⟩ rfl (Nat.le_of_ble_eq_true rfl) rfl (z_contI (fun v3 μ3 h => ?_) h)
  refine s_iload A dX0_distanceTo_24 rfl ?_
  refine s_isub A dX0_distanceTo_26 ?_
  refine s_callV (a := a1) (k := 7) (N := 9) (sl := true) (M := mX7_weighed) (n := 3) (d := 0) (mc := 0) (ms := 0) (av := [zI (v1 - x3), zI (v2 - x4), zI (v3 - x5)]) (st := []) A dX0_distanceTo_27 rfl (by decide) (ha1.k0 _) zwd916 zwd773 zwd774 zwd92 zcd_X7_weighed (Nat.le_of_ble_eq_true rfl) (Nat.le_of_ble_eq_true rfl) (Nat.le_refl _) ⟨Nat.le_of_ble_eq_true rfl, Nat.le_of_ble_eq_true rfl⟩ ⟨rfl, zhn_X7_weighed⟩ rfl (Nat.le_of_ble_eq_true rfl) rfl (z_contI (fun v4 μ4 h => ?_) h)
  exact s_iret A dX0_distanceTo_30 hr hlk (Nat.le_of_ble_eq_true rfl) (Nat.le_of_ble_eq_true rfl) ⟨_, rfl, h⟩
theorem eX0_distanceTo {G : zG} {F : Int → zM → Prop} {μ : zM} {a0 : Nat} {a1 : Nat} {x2 : Int} {x3 : Int} {x4 : Int} {x5 : Int} (h : ∀ J, zJ G true (2) 0 0 mX0_distanceTo (zKI F) J → J 0 ([some (zR (some (a0))), some (zR (some (a1))), some (zI x2), some (zI x3), some (zI x4), some (zI x5)], [], μ, 0, 0)) : qX0_distanceTo G a0 a1 x2 x3 x4 x5 μ F :=
  z_body (by decide +kernel) (Nat.le_of_ble_eq_true rfl) h
set_option maxRecDepth 20000 in
theorem rX0_distanceOf_e {G : zG} {F : Int → zM → Prop} {J : Nat → zS → Prop} {μ : zM} (C : zJ G true (3) 0 0 mX0_distanceOf (zKI F) J) {a0 : Nat} (ha0 : zIsCh a0) {a1 : Nat} (ha1 : zIsSt a1) (x2 : Int) (x3 : Int)
    (h : qX0_number G a0 x3 0 μ (fun v1 μ1 => qX0_number G a0 x3 1 μ1 (fun v2 μ2 => qX0_number G a0 x3 2 μ2 (fun v3 μ3 => qX0_distanceTo G a0 a1 x2 v1 v2 v3 μ3 (fun v4 μ4 => F v4 μ4))))) : J 0 ([some (zR (some (a0))), some (zR (some (a1))), some (zI x2), some (zI x3)], [], μ, 0, 0) := by
  obtain ⟨p, e, s, m, args, below, meth, c, A, hml, hr, hlk, hnm, rfl⟩ := C
  refine s_aload_n A dX0_distanceOf_0 rfl ?_
  refine s_aload_n A dX0_distanceOf_1 rfl ?_
  refine s_iload_n A dX0_distanceOf_2 rfl ?_
  refine s_aload_n A dX0_distanceOf_3 rfl ?_
  refine s_iload_n A dX0_distanceOf_4 rfl ?_
  refine s_iconst A dX0_distanceOf_5 ?_
  refine s_callV (a := a0) (k := 0) (N := 5) (sl := true) (M := mX0_number) (n := 2) (d := 0) (mc := 0) (ms := 0) (av := [zI x3, zI 0]) (st := [zI x2, zR (some (a1)), zR (some (a0))]) A dX0_distanceOf_6 rfl (by decide) (ha0.k0 _) zwd915 zwd864 zwd865 zwd95 zcd_X0_number (Nat.le_of_ble_eq_true rfl) (Nat.le_of_ble_eq_true rfl) (Nat.le_refl _) ⟨Nat.le_of_ble_eq_true rfl, Nat.le_of_ble_eq_true rfl⟩ ⟨rfl, zhn_X0_number⟩ rfl (Nat.le_of_ble_eq_true rfl) rfl (z_contI (fun v1 μ1 h => ?_) h)
  refine s_aload_n A dX0_distanceOf_9 rfl ?_
  refine s_iload_n A dX0_distanceOf_10 rfl ?_
  refine s_iconst A dX0_distanceOf_11 ?_
  refine s_callV (a := a0) (k := 0) (N := 5) (sl := true) (M := mX0_number) (n := 2) (d := 0) (mc := 0) (ms := 0) (av := [zI x3, zI 1]) (st := [zI v1, zI x2, zR (some (a1)), zR (some (a0))]) A dX0_distanceOf_12 rfl (by decide) (ha0.k0 _) zwd915 zwd864 zwd865 zwd95 zcd_X0_number (Nat.le_of_ble_eq_true rfl) (Nat.le_of_ble_eq_true rfl) (Nat.le_refl _) ⟨Nat.le_of_ble_eq_true rfl, Nat.le_of_ble_eq_true rfl⟩ ⟨rfl, zhn_X0_number⟩ rfl (Nat.le_of_ble_eq_true rfl) rfl (z_contI (fun v2 μ2 h => ?_) h)
  refine s_aload_n A dX0_distanceOf_15 rfl ?_
  refine s_iload_n A dX0_distanceOf_16 rfl ?_
  refine s_iconst A dX0_distanceOf_17 ?_
  refine s_callV (a := a0) (k := 0) (N := 5) (sl := true) (M := mX0_number) (n := 2) (d := 0) (mc := 0) (ms := 0) (av := [zI x3, zI 2]) (st := [zI v2, zI v1, zI x2, zR (some (a1)), zR (some (a0))]) A dX0_distanceOf_18 rfl (by decide) (ha0.k0 _) zwd915 zwd864 zwd865 zwd95 zcd_X0_number (Nat.le_of_ble_eq_true rfl) (Nat.le_of_ble_eq_true rfl) (Nat.le_refl _) ⟨Nat.le_of_ble_eq_true rfl, Nat.le_of_ble_eq_true rfl⟩ ⟨rfl, zhn_X0_number⟩ rfl (Nat.le_of_ble_eq_true rfl) rfl (z_contI (fun v3 μ3 h => ?_) h)
  refine s_callV (a := a0) (k := 0) (N := 5) (sl := true) (M := mX0_distanceTo) (n := 5) (d := 2) (mc := 0) (ms := 0) (av := [zR (some (a1)), zI x2, zI v1, zI v2, zI v3]) (st := []) A dX0_distanceOf_21 rfl (by decide) (ha0.k0 _) zwd1022 zwd912 zwd913 zwd95 zcd_X0_distanceTo (Nat.le_of_ble_eq_true rfl) (Nat.le_of_ble_eq_true rfl) (Nat.le_refl _) ⟨Nat.le_of_ble_eq_true rfl, Nat.le_of_ble_eq_true rfl⟩ ⟨rfl, zhn_X0_distanceTo⟩ rfl (Nat.le_of_ble_eq_true rfl) rfl (z_contI (fun v4 μ4 h => ?_) h)
  exact s_iret A dX0_distanceOf_24 hr hlk (Nat.le_of_ble_eq_true rfl) (Nat.le_of_ble_eq_true rfl) ⟨_, rfl, h⟩
theorem eX0_distanceOf {G : zG} {F : Int → zM → Prop} {μ : zM} {a0 : Nat} {a1 : Nat} {x2 : Int} {x3 : Int} (h : ∀ J, zJ G true (3) 0 0 mX0_distanceOf (zKI F) J → J 0 ([some (zR (some (a0))), some (zR (some (a1))), some (zI x2), some (zI x3)], [], μ, 0, 0)) : qX0_distanceOf G a0 a1 x2 x3 μ F :=
  z_body (by decide +kernel) (Nat.le_of_ble_eq_true rfl) h
set_option maxRecDepth 20000 in
theorem rX0_risesAt_e {G : zG} {F : Int → zM → Prop} {J : Nat → zS → Prop} {μ : zM} (C : zJ G true (2) 0 0 mX0_risesAt (zKI F) J) {a0 : Nat} (ha0 : zIsCh a0) (x1 : Int) (x2 : Int) (x3 : Int)
    (h : qX10_levelOf G true x1 x2 μ (fun v1 μ1 => zin v1 ∧ ((2 ≤ v1 → F 0 μ1) ∧ (¬ (2 ≤ v1) → (0 ≤ x2 ∧ x2 < 4) ∧ (0 ≤ ((x1 + (zta 2 x2)) * 3) + x3 ∧ ((x1 + (zta 2 x2)) * 3) + x3 < 243) ∧ (0 ≤ (x1 * 3) + x3 ∧ (x1 * 3) + x3 < 243) ∧ zin (zi μ1 (a0 + 1) (((x1 + (zta 2 x2)) * 3) + x3)) ∧ zin (zi μ1 (a0 + 1) ((x1 * 3) + x3)) ∧ ((zi μ1 (a0 + 1) (((x1 + (zta 2 x2)) * 3) + x3) ≤ zi μ1 (a0 + 1) ((x1 * 3) + x3) → F 0 μ1) ∧ (¬ (zi μ1 (a0 + 1) (((x1 + (zta 2 x2)) * 3) + x3) ≤ zi μ1 (a0 + 1) ((x1 * 3) + x3)) → F 1 μ1)))))) : J 0 ([some (zR (some (a0))), some (zI x1), some (zI x2), some (zI x3)], [], μ, 0, 0) := by
  obtain ⟨p, e, s, m, args, below, meth, c, A, hml, hr, hlk, hnm, rfl⟩ := C
  refine s_iload_n A dX0_risesAt_0 rfl ?_
  refine s_iload_n A dX0_risesAt_1 rfl ?_
  refine s_callSN (host := "InkFolds") (M := mX10_levelOf) (n := 2) (d := 0) (mc := 0) (ms := 0) (av := [zI x1, zI x2]) (st := []) A dX0_risesAt_2 zwr1039 zwd605 zwd89 zcd_X10_levelOf (Nat.le_of_ble_eq_true rfl) (Nat.le_of_ble_eq_true rfl) (Nat.le_refl _) ⟨Nat.le_of_ble_eq_true rfl, Nat.le_of_ble_eq_true rfl⟩ zhn_X10_levelOf rfl (Nat.le_of_ble_eq_true rfl) rfl (z_contI (fun v1 μ1 h => ?_) h)
  refine s_iconst A dX0_risesAt_5 ?_
  obtain ⟨oz2, h⟩ := h
  refine z_icmp_ge (tgt := 42) A dX0_risesAt_6 (by decide) oz2 ⟨by decide, by decide⟩ (fun c3 => ?_) (fun c3 => ?_)
  · have h := h.1 c3
    refine s_iconst A dX0_risesAt_42 ?_
    exact s_zret A dX0_risesAt_43 hr hlk (Nat.le_of_ble_eq_true rfl) (Nat.le_of_ble_eq_true rfl) (Or.inl rfl) ⟨_, rfl, h⟩
  · have h := h.2 c3
    refine s_aload_n A dX0_risesAt_9 rfl ?_
    refine s_getf (k := 0) (j := 0) (sl := true) (v := zR (some (a0 + 1))) A dX0_risesAt_10 rfl zuw_X0 (Nat.le_of_ble_eq_true rfl) zwd253 (by decide) (ha0.k0 _) rfl ?_
    refine s_iload_n A dX0_risesAt_13 rfl ?_
    refine s_getsN (t := 2) A dX0_risesAt_14 (by decide) (host := "InkFolds") zwr842 ?_
    refine s_iload_n A dX0_risesAt_17 rfl ?_
    obtain ⟨ox4, h⟩ := h
    refine z_tald A dX0_risesAt_18 (by decide) (Nat.le_of_ble_eq_true rfl) ox4 ?_
    refine s_iadd A dX0_risesAt_19 ?_
    refine s_iconst A dX0_risesAt_20 ?_
    refine s_imul A dX0_risesAt_21 ?_
    refine s_iload_n A dX0_risesAt_22 rfl ?_
    refine s_iadd A dX0_risesAt_23 ?_
    obtain ⟨ox5, h⟩ := h
    refine z_iald A dX0_risesAt_24 (ha0.k1 _) (Nat.le_of_ble_eq_true rfl) ox5 ?_
    refine s_aload_n A dX0_risesAt_25 rfl ?_
    refine s_getf (k := 0) (j := 0) (sl := true) (v := zR (some (a0 + 1))) A dX0_risesAt_26 rfl zuw_X0 (Nat.le_of_ble_eq_true rfl) zwd253 (by decide) (ha0.k0 _) rfl ?_
    refine s_iload_n A dX0_risesAt_29 rfl ?_
    refine s_iconst A dX0_risesAt_30 ?_
    refine s_imul A dX0_risesAt_31 ?_
    refine s_iload_n A dX0_risesAt_32 rfl ?_
    refine s_iadd A dX0_risesAt_33 ?_
    obtain ⟨ox6, h⟩ := h
    refine z_iald A dX0_risesAt_34 (ha0.k1 _) (Nat.le_of_ble_eq_true rfl) ox6 ?_
    obtain ⟨oz7, h⟩ := h
    obtain ⟨oz8, h⟩ := h
    refine z_icmp_le (tgt := 42) A dX0_risesAt_35 (by decide) oz7 oz8 (fun c9 => ?_) (fun c9 => ?_)
    · have h := h.1 c9
      refine s_iconst A dX0_risesAt_42 ?_
      exact s_zret A dX0_risesAt_43 hr hlk (Nat.le_of_ble_eq_true rfl) (Nat.le_of_ble_eq_true rfl) (Or.inl rfl) ⟨_, rfl, h⟩
    · have h := h.2 c9
      refine s_iconst A dX0_risesAt_38 ?_
      refine s_goto (tgt := 43) A dX0_risesAt_39 (by decide) ?_
      exact s_zret A dX0_risesAt_43 hr hlk (Nat.le_of_ble_eq_true rfl) (Nat.le_of_ble_eq_true rfl) (Or.inr rfl) ⟨_, rfl, h⟩
theorem eX0_risesAt {G : zG} {F : Int → zM → Prop} {μ : zM} {a0 : Nat} {x1 : Int} {x2 : Int} {x3 : Int} (h : ∀ J, zJ G true (2) 0 0 mX0_risesAt (zKI F) J → J 0 ([some (zR (some (a0))), some (zI x1), some (zI x2), some (zI x3)], [], μ, 0, 0)) : qX0_risesAt G a0 x1 x2 x3 μ F :=
  z_body (by decide +kernel) (Nat.le_of_ble_eq_true rfl) h
set_option maxRecDepth 20000 in
theorem rX0_countRises_e {G : zG} {F : Int → zM → Prop} {J : Nat → zS → Prop} {μ : zM} (C : zJ G true (3) 0 0 mX0_countRises (zKI F) J) {a0 : Nat} (ha0 : zIsCh a0) (x1 : Int)
    (h : J 4 ([some (zR (some (a0))), some (zI x1), some (zI 0), some (zI 0)], [], μ, 0, 0)) : J 0 ([some (zR (some (a0))), some (zI x1), none, none], [], μ, 0, 0) := by
  obtain ⟨p, e, s, m, args, below, meth, c, A, hml, hr, hlk, hnm, rfl⟩ := C
  refine s_iconst A dX0_countRises_0 ?_
  refine s_istore_n (L' := [some (zR (some (a0))), some (zI x1), some (zI 0), none]) A dX0_countRises_1 (Nat.le_of_ble_eq_true rfl) rfl ?_
  refine s_iconst A dX0_countRises_2 ?_
  refine s_istore_n (L' := [some (zR (some (a0))), some (zI x1), some (zI 0), some (zI 0)]) A dX0_countRises_3 (Nat.le_of_ble_eq_true rfl) rfl ?_
  exact h
set_option maxRecDepth 20000 in
theorem rX0_countRises_4 {G : zG} {F : Int → zM → Prop} {J : Nat → zS → Prop} {μ : zM} (C : zJ G true (3) 0 0 mX0_countRises (zKI F) J) {a0 : Nat} (ha0 : zIsCh a0) (x1 : Int) (x2 : Int) (x3 : Int)
    (h : zin x3 ∧ ((243 ≤ x3 → F x2 μ) ∧ (¬ (243 ≤ x3) → (0 ≤ x3 ∧ x3 < 2147483648) ∧ (0 ≤ x3 ∧ x3 < 2147483648) ∧ qX0_risesAt G a0 (x3 / 3) x1 (x3 % 3) μ (fun v3 μ3 => zin v3 ∧ ((v3 = 0 → J 4 ([some (zR (some (a0))), some (zI x1), some (zI x2), some (zI (x3 + 1))], [], μ3, 0, 0)) ∧ (¬ (v3 = 0) → J 4 ([some (zR (some (a0))), some (zI x1), some (zI (x2 + 1)), some (zI (x3 + 1))], [], μ3, 0, 0))))))) : J 4 ([some (zR (some (a0))), some (zI x1), some (zI x2), some (zI x3)], [], μ, 0, 0) := by
  obtain ⟨p, e, s, m, args, below, meth, c, A, hml, hr, hlk, hnm, rfl⟩ := C
  refine s_iload_n A dX0_countRises_4 rfl ?_
  refine s_sipush A dX0_countRises_5 rfl ?_
  obtain ⟨oz1, h⟩ := h
  refine z_icmp_ge (tgt := 34) A dX0_countRises_8 (by decide) oz1 ⟨by decide, by decide⟩ (fun c2 => ?_) (fun c2 => ?_)
  · have h := h.1 c2
    refine s_iload_n A dX0_countRises_34 rfl ?_
    exact s_iret A dX0_countRises_35 hr hlk (Nat.le_of_ble_eq_true rfl) (Nat.le_of_ble_eq_true rfl) ⟨_, rfl, h⟩
  · have h := h.2 c2
    refine s_aload_n A dX0_countRises_11 rfl ?_
    refine s_iload_n A dX0_countRises_12 rfl ?_
    refine s_iconst A dX0_countRises_13 ?_
    obtain ⟨o1, h⟩ := h
    refine z_idiv A dX0_countRises_14 o1 ⟨by decide, by decide⟩ ?_
    refine s_iload_n A dX0_countRises_15 rfl ?_
    refine s_iload_n A dX0_countRises_16 rfl ?_
    refine s_iconst A dX0_countRises_17 ?_
    obtain ⟨o1, h⟩ := h
    refine z_irem A dX0_countRises_18 o1 ⟨by decide, by decide⟩ ?_
    refine s_callV (a := a0) (k := 0) (N := 5) (sl := true) (M := mX0_risesAt) (n := 3) (d := 2) (mc := 0) (ms := 0) (av := [zI (x3 / 3), zI x1, zI (x3 % 3)]) (st := []) A dX0_countRises_19 rfl (by decide) (ha0.k0 _) zwd1035 zwd1037 zwd24 zwd95 zcd_X0_risesAt (Nat.le_of_ble_eq_true rfl) (Nat.le_of_ble_eq_true rfl) (Nat.le_refl _) ⟨Nat.le_of_ble_eq_true rfl, Nat.le_of_ble_eq_true rfl⟩ ⟨rfl, zhn_X0_risesAt⟩ rfl (Nat.le_of_ble_eq_true rfl) rfl (z_contI (fun v3 μ3 h => ?_) h)
    obtain ⟨oz4, h⟩ := h
    refine z_if_eq (tgt := 28) A dX0_countRises_22 (by decide) oz4 (fun c5 => ?_) (fun c5 => ?_)
    · have h := h.1 c5
      refine s_iinc (L' := [some (zR (some (a0))), some (zI x1), some (zI x2), some (zI (x3 + 1))]) A dX0_countRises_28 rfl rfl ?_
      refine s_goto (tgt := 4) A dX0_countRises_31 (by decide) ?_
      exact h
    · have h := h.2 c5
      refine s_iinc (L' := [some (zR (some (a0))), some (zI x1), some (zI (x2 + 1)), some (zI x3)]) A dX0_countRises_25 rfl rfl ?_
      refine s_iinc (L' := [some (zR (some (a0))), some (zI x1), some (zI (x2 + 1)), some (zI (x3 + 1))]) A dX0_countRises_28 rfl rfl ?_
      refine s_goto (tgt := 4) A dX0_countRises_31 (by decide) ?_
      exact h
theorem eX0_countRises {G : zG} {F : Int → zM → Prop} {μ : zM} {a0 : Nat} {x1 : Int} (h : ∀ J, zJ G true (3) 0 0 mX0_countRises (zKI F) J → J 0 ([some (zR (some (a0))), some (zI x1), none, none], [], μ, 0, 0)) : qX0_countRises G a0 x1 μ F :=
  z_body (by decide +kernel) (Nat.le_of_ble_eq_true rfl) h
set_option maxRecDepth 20000 in
theorem rX0_firstRise_e {G : zG} {F : Int → zM → Prop} {J : Nat → zS → Prop} {μ : zM} (C : zJ G true (3) 0 0 mX0_firstRise (zKI F) J) {a0 : Nat} (ha0 : zIsCh a0) (x1 : Int)
    (h : J 2 ([some (zR (some (a0))), some (zI x1), some (zI 0)], [], μ, 0, 0)) : J 0 ([some (zR (some (a0))), some (zI x1), none], [], μ, 0, 0) := by
  obtain ⟨p, e, s, m, args, below, meth, c, A, hml, hr, hlk, hnm, rfl⟩ := C
  refine s_iconst A dX0_firstRise_0 ?_
  refine s_istore_n (L' := [some (zR (some (a0))), some (zI x1), some (zI 0)]) A dX0_firstRise_1 (Nat.le_of_ble_eq_true rfl) rfl ?_
  exact h
set_option maxRecDepth 20000 in
theorem rX0_firstRise_2 {G : zG} {F : Int → zM → Prop} {J : Nat → zS → Prop} {μ : zM} (C : zJ G true (3) 0 0 mX0_firstRise (zKI F) J) {a0 : Nat} (ha0 : zIsCh a0) (x1 : Int) (x2 : Int)
    (h : zin x2 ∧ ((243 ≤ x2 → F (-1) μ) ∧ (¬ (243 ≤ x2) → (0 ≤ x2 ∧ x2 < 2147483648) ∧ (0 ≤ x2 ∧ x2 < 2147483648) ∧ qX0_risesAt G a0 (x2 / 3) x1 (x2 % 3) μ (fun v3 μ3 => zin v3 ∧ ((v3 = 0 → J 2 ([some (zR (some (a0))), some (zI x1), some (zI (x2 + 1))], [], μ3, 0, 0)) ∧ (¬ (v3 = 0) → F x2 μ3)))))) : J 2 ([some (zR (some (a0))), some (zI x1), some (zI x2)], [], μ, 0, 0) := by
  obtain ⟨p, e, s, m, args, below, meth, c, A, hml, hr, hlk, hnm, rfl⟩ := C
  refine s_iload_n A dX0_firstRise_2 rfl ?_
  refine s_sipush A dX0_firstRise_3 rfl ?_
  obtain ⟨oz1, h⟩ := h
  refine z_icmp_ge (tgt := 31) A dX0_firstRise_6 (by decide) oz1 ⟨by decide, by decide⟩ (fun c2 => ?_) (fun c2 => ?_)
  · have h := h.1 c2
    refine s_iconst A dX0_firstRise_31 ?_
    exact s_iret A dX0_firstRise_32 hr hlk (Nat.le_of_ble_eq_true rfl) (Nat.le_of_ble_eq_true rfl) ⟨_, rfl, h⟩
  · have h := h.2 c2
    refine s_aload_n A dX0_firstRise_9 rfl ?_
    refine s_iload_n A dX0_firstRise_10 rfl ?_
    refine s_iconst A dX0_firstRise_11 ?_
    obtain ⟨o1, h⟩ := h
    refine z_idiv A dX0_firstRise_12 o1 ⟨by decide, by decide⟩ ?_
    refine s_iload_n A dX0_firstRise_13 rfl ?_
    refine s_iload_n A dX0_firstRise_14 rfl ?_
    refine s_iconst A dX0_firstRise_15 ?_
    obtain ⟨o1, h⟩ := h
    refine z_irem A dX0_firstRise_16 o1 ⟨by decide, by decide⟩ ?_
    refine s_callV (a := a0) (k := 0) (N := 5) (sl := true) (M := mX0_risesAt) (n := 3) (d := 2) (mc := 0) (ms := 0) (av := [zI (x2 / 3), zI x1, zI (x2 % 3)]) (st := []) A dX0_firstRise_17 rfl (by decide) (ha0.k0 _) zwd1035 zwd1037 zwd24 zwd95 zcd_X0_risesAt (Nat.le_of_ble_eq_true rfl) (Nat.le_of_ble_eq_true rfl) (Nat.le_refl _) ⟨Nat.le_of_ble_eq_true rfl, Nat.le_of_ble_eq_true rfl⟩ ⟨rfl, zhn_X0_risesAt⟩ rfl (Nat.le_of_ble_eq_true rfl) rfl (z_contI (fun v3 μ3 h => ?_) h)
    obtain ⟨oz4, h⟩ := h
    refine z_if_eq (tgt := 25) A dX0_firstRise_20 (by decide) oz4 (fun c5 => ?_) (fun c5 => ?_)
    · have h := h.1 c5
      refine s_iinc (L' := [some (zR (some (a0))), some (zI x1), some (zI (x2 + 1))]) A dX0_firstRise_25 rfl rfl ?_
      refine s_goto (tgt := 2) A dX0_firstRise_28 (by decide) ?_
      exact h
    · have h := h.2 c5
      refine s_iload_n A dX0_firstRise_23 rfl ?_
      exact s_iret A dX0_firstRise_24 hr hlk (Nat.le_of_ble_eq_true rfl) (Nat.le_of_ble_eq_true rfl) ⟨_, rfl, h⟩
theorem eX0_firstRise {G : zG} {F : Int → zM → Prop} {μ : zM} {a0 : Nat} {x1 : Int} (h : ∀ J, zJ G true (3) 0 0 mX0_firstRise (zKI F) J → J 0 ([some (zR (some (a0))), some (zI x1), none], [], μ, 0, 0)) : qX0_firstRise G a0 x1 μ F :=
  z_body (by decide +kernel) (Nat.le_of_ble_eq_true rfl) h
set_option maxRecDepth 20000 in
theorem rX3_init_e {G : zG} {ph : Bool} {F : zM → Prop} {J : Nat → zS → Prop} {μ : zM} (C : zJ G ph (2) 0 0 mX3_init (zKV F) J) (a0 : Nat) (r1 : Option Nat) (x2 : Int) (x3 : Int)
    (h : zok ph μ a0 (3, 3) ∧ zok ph (zupr μ a0 0 r1) a0 (3, 3) ∧ zok ph (zup (zupr μ a0 0 r1) a0 1 x2) a0 (3, 3) ∧ F (zup (zup (zupr μ a0 0 r1) a0 1 x2) a0 2 x3)) : J 0 ([some (zR (some a0)), some (zR r1), some (zI x2), some (zI x3)], [], μ, 0, 0) := by
  obtain ⟨p, e, s, m, args, below, meth, c, A, hml, hr, hlk, hnm, rfl⟩ := C
  refine s_aload_n A dX3_init_0 rfl ?_
  refine z_objInit A dX3_init_1 zwd169 zwd119 zwd120 (Nat.le_of_ble_eq_true rfl) (by decide) (Nat.le_of_ble_eq_true rfl) ?_
  refine s_aload_n A dX3_init_4 rfl ?_
  refine s_aload_n A dX3_init_5 rfl ?_
  obtain ⟨o1, h⟩ := h
  refine z_putFR (k := 3) (j := 0) (sl := false) A dX3_init_6 rfl zuw_X3 (Nat.le_of_ble_eq_true rfl) zwd170 (by decide) o1 tyX3 tyX3_ok nmX3 rfl (Or.inr rfl) rfl (Or.inl ⟨_, rfl⟩) rfl hnm rfl ?_
  refine s_aload_n A dX3_init_9 rfl ?_
  refine s_iload_n A dX3_init_10 rfl ?_
  obtain ⟨o2, h⟩ := h
  refine z_putFI (k := 3) (j := 1) (sl := false) A dX3_init_11 rfl zuw_X3 (Nat.le_of_ble_eq_true rfl) zwd172 (by decide) o2 tyX3 tyX3_ok nmX3 rfl rfl rfl hnm rfl ?_
  refine s_aload_n A dX3_init_14 rfl ?_
  refine s_iload_n A dX3_init_15 rfl ?_
  obtain ⟨o3, h⟩ := h
  refine z_putFI (k := 3) (j := 2) (sl := false) A dX3_init_16 rfl zuw_X3 (Nat.le_of_ble_eq_true rfl) zwd174 (by decide) o3 tyX3 tyX3_ok nmX3 rfl rfl rfl hnm rfl ?_
  exact s_vret A dX3_init_19 hr hlk (Nat.le_of_ble_eq_true rfl) (Nat.le_of_ble_eq_true rfl) ⟨rfl, h⟩
theorem eX3_init {G : zG} {ph : Bool} {F : zM → Prop} {μ : zM} {a0 : Nat} {r1 : Option Nat} {x2 : Int} {x3 : Int} (h : ∀ J, zJ G ph (2) 0 0 mX3_init (zKV F) J → J 0 ([some (zR (some a0)), some (zR r1), some (zI x2), some (zI x3)], [], μ, 0, 0)) : qX3_init G ph a0 r1 x2 x3 μ F :=
  z_body (by decide +kernel) (Nat.le_of_ble_eq_true rfl) h
set_option maxRecDepth 20000 in
theorem rX7_init_e {G : zG} {F : zM → Prop} {J : Nat → zS → Prop} {μ : zM} (C : zJ G false (3) 7 458 mX7_init (zKV F) J) (a0 : Nat)
    (h : zs false (znew μ (40, 243)) (zn μ) = (40, 243) ∧ ∀ b1 μ1, b1 = zn μ → μ1 = znew μ (40, 243) → zok false μ1 a0 (7, 9) ∧ zs false (znew (zupr μ1 a0 0 (some b1)) (42, 81)) (zn (zupr μ1 a0 0 (some b1))) = (42, 81) ∧ ∀ b3 μ3, b3 = zn (zupr μ1 a0 0 (some b1)) → μ3 = znew (zupr μ1 a0 0 (some b1)) (42, 81) → zok false μ3 a0 (7, 9) ∧ zs false (znew (zupr μ3 a0 1 (some b3)) (40, 7)) (zn (zupr μ3 a0 1 (some b3))) = (40, 7) ∧ ∀ b5 μ5, b5 = zn (zupr μ3 a0 1 (some b3)) → μ5 = znew (zupr μ3 a0 1 (some b3)) (40, 7) → zok false μ5 a0 (7, 9) ∧ zs false (znew (zupr μ5 a0 2 (some b5)) (40, 36)) (zn (zupr μ5 a0 2 (some b5))) = (40, 36) ∧ ∀ b7 μ7, b7 = zn (zupr μ5 a0 2 (some b5)) → μ7 = znew (zupr μ5 a0 2 (some b5)) (40, 36) → zok false μ7 a0 (7, 9) ∧ zs false (znew (zupr μ7 a0 3 (some b7)) (40, 24)) (zn (zupr μ7 a0 3 (some b7))) = (40, 24) ∧ ∀ b9 μ9, b9 = zn (zupr μ7 a0 3 (some b7)) → μ9 = znew (zupr μ7 a0 3 (some b7)) (40, 24) → zok false μ9 a0 (7, 9) ∧ zs false (znew (zupr μ9 a0 4 (some b9)) (40, 64)) (zn (zupr μ9 a0 4 (some b9))) = (40, 64) ∧ ∀ b11 μ11, b11 = zn (zupr μ9 a0 4 (some b9)) → μ11 = znew (zupr μ9 a0 4 (some b9)) (40, 64) → zok false μ11 a0 (7, 9) ∧ J 55 ([some (zR (some a0)), some (zI 0), none, none], [], zupr μ11 a0 5 (some b11), 0 + 1 + 1 + 1 + 1 + 1 + 1, 0 + 243 + 81 + 7 + 36 + 24 + 64)) : J 0 ([some (zR (some a0)), none, none, none], [], μ, 0, 0) := by
  obtain ⟨p, e, s, m, args, below, meth, c, A, hml, hr, hlk, hnm, rfl⟩ := C
  refine s_aload_n A dX7_init_0 rfl ?_
  refine z_objInit A dX7_init_1 zwd159 zwd119 zwd120 (Nat.le_of_ble_eq_true rfl) (by decide) (Nat.le_of_ble_eq_true rfl) ?_
  refine s_aload_n A dX7_init_4 rfl ?_
  refine s_sipush A dX7_init_5 rfl ?_
  obtain ⟨o1, h⟩ := h
  refine z_newa_int (n := 243) A dX7_init_8 rfl (by decide) zwd137 o1 (Nat.le_of_ble_eq_true rfl) (Nat.le_of_ble_eq_true rfl) (fun b1 μ1 eb1 em1 => ?_)
  have h := h b1 μ1 eb1 em1
  obtain ⟨o2, h⟩ := h
  refine z_putFR (k := 7) (j := 0) (sl := false) A dX7_init_10 rfl zuw_X7 (Nat.le_of_ble_eq_true rfl) zwd184 (by decide) o2 tyX7 tyX7_ok nmX7 rfl (Or.inl rfl) rfl (Or.inr ⟨_, rfl⟩) rfl hnm rfl ?_
  refine s_aload_n A dX7_init_13 rfl ?_
  refine s_bipush A dX7_init_14 rfl ?_
  obtain ⟨o3, h⟩ := h
  refine z_newa_bool (n := 81) A dX7_init_16 rfl (by decide) zwd183 o3 (Nat.le_of_ble_eq_true rfl) (Nat.le_of_ble_eq_true rfl) (fun b3 μ3 eb3 em3 => ?_)
  have h := h b3 μ3 eb3 em3
  obtain ⟨o4, h⟩ := h
  refine z_putFR (k := 7) (j := 1) (sl := false) A dX7_init_18 rfl zuw_X7 (Nat.le_of_ble_eq_true rfl) zwd186 (by decide) o4 tyX7 tyX7_ok nmX7 rfl (Or.inl rfl) rfl (Or.inr ⟨_, rfl⟩) rfl hnm rfl ?_
  refine s_aload_n A dX7_init_21 rfl ?_
  refine s_bipush A dX7_init_22 rfl ?_
  obtain ⟨o5, h⟩ := h
  refine z_newa_int (n := 7) A dX7_init_24 rfl (by decide) zwd137 o5 (Nat.le_of_ble_eq_true rfl) (Nat.le_of_ble_eq_true rfl) (fun b5 μ5 eb5 em5 => ?_)
  have h := h b5 μ5 eb5 em5
  obtain ⟨o6, h⟩ := h
  refine z_putFR (k := 7) (j := 2) (sl := false) A dX7_init_26 rfl zuw_X7 (Nat.le_of_ble_eq_true rfl) zwd188 (by decide) o6 tyX7 tyX7_ok nmX7 rfl (Or.inl rfl) rfl (Or.inr ⟨_, rfl⟩) rfl hnm rfl ?_
  refine s_aload_n A dX7_init_29 rfl ?_
  refine s_bipush A dX7_init_30 rfl ?_
  obtain ⟨o7, h⟩ := h
  refine z_newa_int (n := 36) A dX7_init_32 rfl (by decide) zwd137 o7 (Nat.le_of_ble_eq_true rfl) (Nat.le_of_ble_eq_true rfl) (fun b7 μ7 eb7 em7 => ?_)
  have h := h b7 μ7 eb7 em7
  obtain ⟨o8, h⟩ := h
  refine z_putFR (k := 7) (j := 3) (sl := false) A dX7_init_34 rfl zuw_X7 (Nat.le_of_ble_eq_true rfl) zwd191 (by decide) o8 tyX7 tyX7_ok nmX7 rfl (Or.inl rfl) rfl (Or.inr ⟨_, rfl⟩) rfl hnm rfl ?_
  refine s_aload_n A dX7_init_37 rfl ?_
  refine s_bipush A dX7_init_38 rfl ?_
  obtain ⟨o9, h⟩ := h
  refine z_newa_int (n := 24) A dX7_init_40 rfl (by decide) zwd137 o9 (Nat.le_of_ble_eq_true rfl) (Nat.le_of_ble_eq_true rfl) (fun b9 μ9 eb9 em9 => ?_)
  have h := h b9 μ9 eb9 em9
  obtain ⟨o10, h⟩ := h
  refine z_putFR (k := 7) (j := 4) (sl := false) A dX7_init_42 rfl zuw_X7 (Nat.le_of_ble_eq_true rfl) zwd193 (by decide) o10 tyX7 tyX7_ok nmX7 rfl (Or.inl rfl) rfl (Or.inr ⟨_, rfl⟩) rfl hnm rfl ?_
  refine s_aload_n A dX7_init_45 rfl ?_
  refine s_bipush A dX7_init_46 rfl ?_
  obtain ⟨o11, h⟩ := h
  refine z_newa_int (n := 64) A dX7_init_48 rfl (by decide) zwd137 o11 (Nat.le_of_ble_eq_true rfl) (Nat.le_of_ble_eq_true rfl) (fun b11 μ11 eb11 em11 => ?_)
  have h := h b11 μ11 eb11 em11
  obtain ⟨o12, h⟩ := h
  refine z_putFR (k := 7) (j := 5) (sl := false) A dX7_init_50 rfl zuw_X7 (Nat.le_of_ble_eq_true rfl) zwd195 (by decide) o12 tyX7 tyX7_ok nmX7 rfl (Or.inl rfl) rfl (Or.inr ⟨_, rfl⟩) rfl hnm rfl ?_
  refine s_iconst A dX7_init_53 ?_
  refine s_istore_n (L' := [some (zR (some a0)), some (zI 0), none, none]) A dX7_init_54 (Nat.le_of_ble_eq_true rfl) rfl ?_
  exact h
set_option maxRecDepth 20000 in
theorem rX7_init_55 {G : zG} {F : zM → Prop} {J : Nat → zS → Prop} {μ : zM} (C : zJ G false (3) 7 458 mX7_init (zKV F) J) (a0 : Nat) (x1 : Int) {cn un : Nat}
    (h : zin x1 ∧ ((7 ≤ x1 → J 80 ([some (zR (some a0)), some (zI 0), none, none], [], μ, cn, un)) ∧ (¬ (7 ≤ x1) → zok false μ a0 (7, 9) ∧ (0 ≤ x1 ∧ x1 < 7) ∧ ∃ b5, zr μ a0 2 = some b5 ∧ zok false μ b5 (40, 7) ∧ J 55 ([some (zR (some a0)), some (zI (x1 + 1)), none, none], [], zup μ b5 x1 (zta 6 x1), cn, un)))) : J 55 ([some (zR (some a0)), some (zI x1), none, none], [], μ, cn, un) := by
  obtain ⟨p, e, s, m, args, below, meth, c, A, hml, hr, hlk, hnm, rfl⟩ := C
  refine s_iload_n A dX7_init_55 rfl ?_
  refine s_bipush A dX7_init_56 rfl ?_
  obtain ⟨oz1, h⟩ := h
  refine z_icmp_ge (tgt := 78) A dX7_init_58 (by decide) oz1 ⟨by decide, by decide⟩ (fun c2 => ?_) (fun c2 => ?_)
  · have h := h.1 c2
    refine s_iconst A dX7_init_78 ?_
    refine s_istore_n (L' := [some (zR (some a0)), some (zI 0), none, none]) A dX7_init_79 (Nat.le_of_ble_eq_true rfl) rfl ?_
    exact h
  · have h := h.2 c2
    refine s_aload_n A dX7_init_61 rfl ?_
    obtain ⟨o3, h⟩ := h
    refine s_getf (k := 7) (j := 2) (sl := false) (v := zR (zr μ a0 2)) A dX7_init_62 rfl zuw_X7 (Nat.le_of_ble_eq_true rfl) zwd188 (by decide) o3 rfl ?_
    refine s_iload_n A dX7_init_65 rfl ?_
    refine s_getsN (t := 6) A dX7_init_66 (by decide) (host := "InkFolds") zwr160 ?_
    refine s_iload_n A dX7_init_69 rfl ?_
    obtain ⟨ox4, h⟩ := h
    refine z_tald A dX7_init_70 (by decide) (Nat.le_of_ble_eq_true rfl) ox4 ?_
    obtain ⟨b5, c5, h⟩ := h
    refine z_eqS (st' := [zI (zta 6 x1), zI x1, zR (some b5)]) (by rw [c5] <;> rfl) ?_
    obtain ⟨o6, h⟩ := h
    refine z_iast A dX7_init_71 o6 (Nat.le_of_ble_eq_true rfl) ox4 ?_
    refine s_iinc (L' := [some (zR (some a0)), some (zI (x1 + 1)), none, none]) A dX7_init_72 rfl rfl ?_
    refine s_goto (tgt := 55) A dX7_init_75 (by decide) ?_
    exact h
set_option maxRecDepth 20000 in
theorem rX7_init_80 {G : zG} {F : zM → Prop} {J : Nat → zS → Prop} {μ : zM} (C : zJ G false (3) 7 458 mX7_init (zKV F) J) (a0 : Nat) (x1 : Int) {cn un : Nat}
    (h : zin x1 ∧ ((36 ≤ x1 → J 104 ([some (zR (some a0)), some (zI 0), none, none], [], μ, cn, un)) ∧ (¬ (36 ≤ x1) → zok false μ a0 (7, 9) ∧ (0 ≤ x1 ∧ x1 < 2147483648) ∧ ∃ b4, zr μ a0 3 = some b4 ∧ zok false μ b4 (40, 36) ∧ (0 ≤ x1 ∧ x1 < 36) ∧ J 80 ([some (zR (some a0)), some (zI (x1 + 1)), none, none], [], zup μ b4 x1 (x1 % 9), cn, un)))) : J 80 ([some (zR (some a0)), some (zI x1), none, none], [], μ, cn, un) := by
  obtain ⟨p, e, s, m, args, below, meth, c, A, hml, hr, hlk, hnm, rfl⟩ := C
  refine s_iload_n A dX7_init_80 rfl ?_
  refine s_bipush A dX7_init_81 rfl ?_
  obtain ⟨oz1, h⟩ := h
  refine z_icmp_ge (tgt := 102) A dX7_init_83 (by decide) oz1 ⟨by decide, by decide⟩ (fun c2 => ?_) (fun c2 => ?_)
  · have h := h.1 c2
    refine s_iconst A dX7_init_102 ?_
    refine s_istore_n (L' := [some (zR (some a0)), some (zI 0), none, none]) A dX7_init_103 (Nat.le_of_ble_eq_true rfl) rfl ?_
    exact h
  · have h := h.2 c2
    refine s_aload_n A dX7_init_86 rfl ?_
    obtain ⟨o3, h⟩ := h
    refine s_getf (k := 7) (j := 3) (sl := false) (v := zR (zr μ a0 3)) A dX7_init_87 rfl zuw_X7 (Nat.le_of_ble_eq_true rfl) zwd191 (by decide) o3 rfl ?_
    refine s_iload_n A dX7_init_90 rfl ?_
    refine s_iload_n A dX7_init_91 rfl ?_
    refine s_bipush A dX7_init_92 rfl ?_
    obtain ⟨o1, h⟩ := h
    refine z_irem A dX7_init_94 o1 ⟨by decide, by decide⟩ ?_
    obtain ⟨b4, c4, h⟩ := h
    refine z_eqS (st' := [zI (x1 % 9), zI x1, zR (some b4)]) (by rw [c4] <;> rfl) ?_
    obtain ⟨o5, h⟩ := h
    obtain ⟨ox6, h⟩ := h
    refine z_iast A dX7_init_95 o5 (Nat.le_of_ble_eq_true rfl) ox6 ?_
    refine s_iinc (L' := [some (zR (some a0)), some (zI (x1 + 1)), none, none]) A dX7_init_96 rfl rfl ?_
    refine s_goto (tgt := 80) A dX7_init_99 (by decide) ?_
    exact h
set_option maxRecDepth 20000 in
theorem rX7_init_104 {G : zG} {F : zM → Prop} {J : Nat → zS → Prop} {μ : zM} (C : zJ G false (3) 7 458 mX7_init (zKV F) J) (a0 : Nat) (x1 : Int) {cn un : Nat}
    (h : zin x1 ∧ ((3 ≤ x1 → zs false (znew μ (3, 3)) (zn μ) = (3, 3) ∧ (cn + 1 ≤ 7 ∧ un + 3 ≤ 458) ∧ ∀ b3 μ3, b3 = zn μ → μ3 = znew μ (3, 3) → (cn + 1 + 0 ≤ 7 ∧ un + 3 + 0 ≤ 458) ∧ qX3_init G false b3 none 0 0 μ3 (fun μ4 => zok false μ4 a0 (7, 9) ∧ (cn + 1 ≤ 7 ∧ un + 3 ≤ 458) ∧ F (zupr μ4 a0 8 (some b3)))) ∧ (¬ (3 ≤ x1) → zok false μ a0 (7, 9) ∧ ∃ b7, zr μ a0 0 = some b7 ∧ zok false μ b7 (40, 243) ∧ (0 ≤ x1 ∧ x1 < 243) ∧ J 119 ([some (zR (some a0)), some (zI x1), some (zI 0), none], [], zup μ b7 x1 100, cn, un)))) : J 104 ([some (zR (some a0)), some (zI x1), none, none], [], μ, cn, un) := by
  obtain ⟨p, e, s, m, args, below, meth, c, A, hml, hr, hlk, hnm, rfl⟩ := C
  refine s_iload_n A dX7_init_104 rfl ?_
  refine s_iconst A dX7_init_105 ?_
  obtain ⟨oz1, h⟩ := h
  refine z_icmp_ge (tgt := 204) A dX7_init_106 (by decide) oz1 ⟨by decide, by decide⟩ (fun c2 => ?_) (fun c2 => ?_)
  · have h := h.1 c2
    refine s_aload_n A dX7_init_204 rfl ?_
    obtain ⟨o3, h⟩ := h
    obtain ⟨o3c, h⟩ := h
    refine z_new (k := 3) (N := 3) A dX7_init_205 rfl zuw_X3 tyX3 tyX3_ok zdf_X3 (by decide) zwd164 zwd165 zwd93 o3 o3c.1 o3c.2 (fun b3 μ3 eb3 em3 => ?_)
    have h := h b3 μ3 eb3 em3
    refine s_dup A dX7_init_208 rfl ?_
    refine s_null A dX7_init_209 ?_
    refine s_iconst A dX7_init_210 ?_
    refine s_iconst A dX7_init_211 ?_
    obtain ⟨ob4, h⟩ := h
    refine s_callI (a := b3) (M := mX3_init) (n := 3) (d := 2) (mc := 0) (ms := 0) (av := [zR none, zI 0, zI 0]) (st := [zR (some b3), zR (some a0)]) A dX7_init_212 rfl zwd166 zwd167 zwd93 zcd_X3_init rfl (Nat.le_of_ble_eq_true rfl) (Nat.le_of_ble_eq_true rfl) (Nat.le_refl _) ob4 zhn_X3_init rfl (Nat.le_of_ble_eq_true rfl) rfl (z_contV (fun μ4 h => ?_) h)
    obtain ⟨o5, h⟩ := h
    refine z_putR (k := 7) (j := 8) (sl := false) A dX7_init_215 rfl zuw_X7 (Nat.le_of_ble_eq_true rfl) zwd203 (by decide) o5 tyX7 tyX7_ok nmX7 rfl (Or.inr rfl) rfl (Or.inl ⟨_, rfl⟩) rfl ?_
    obtain ⟨o9, h⟩ := h
    exact s_vret A dX7_init_218 hr hlk o9.1 o9.2 ⟨rfl, h⟩
  · have h := h.2 c2
    refine s_aload_n A dX7_init_109 rfl ?_
    obtain ⟨o6, h⟩ := h
    refine s_getf (k := 7) (j := 0) (sl := false) (v := zR (zr μ a0 0)) A dX7_init_110 rfl zuw_X7 (Nat.le_of_ble_eq_true rfl) zwd184 (by decide) o6 rfl ?_
    refine s_iload_n A dX7_init_113 rfl ?_
    refine s_bipush A dX7_init_114 rfl ?_
    obtain ⟨b7, c7, h⟩ := h
    refine z_eqS (st' := [zI 100, zI x1, zR (some b7)]) (by rw [c7] <;> rfl) ?_
    obtain ⟨o8, h⟩ := h
    obtain ⟨ox9, h⟩ := h
    refine z_iast A dX7_init_116 o8 (Nat.le_of_ble_eq_true rfl) ox9 ?_
    refine s_iconst A dX7_init_117 ?_
    refine s_istore_n (L' := [some (zR (some a0)), some (zI x1), some (zI 0), none]) A dX7_init_118 (Nat.le_of_ble_eq_true rfl) rfl ?_
    exact h
set_option maxRecDepth 20000 in
theorem rX7_init_119 {G : zG} {F : zM → Prop} {J : Nat → zS → Prop} {μ : zM} (C : zJ G false (3) 7 458 mX7_init (zKV F) J) (a0 : Nat) (x1 : Int) (x2 : Int) {cn un : Nat}
    (h : zin x2 ∧ ((4 ≤ x2 → J 104 ([some (zR (some a0)), some (zI (x1 + 1)), none, none], [], μ, cn, un)) ∧ (¬ (4 ≤ x2) → zin x1 ∧ ((x2 = x1 → J 139 ([some (zR (some a0)), some (zI x1), some (zI x2), none], [zI 1], μ, cn, un)) ∧ (¬ (x2 = x1) → ((¬ x2 = 3 → J 139 ([some (zR (some a0)), some (zI x1), some (zI x2), none], [zI 0], μ, cn, un)) ∧ (x2 = 3 → J 139 ([some (zR (some a0)), some (zI x1), some (zI x2), none], [zI 1], μ, cn, un)))))))) : J 119 ([some (zR (some a0)), some (zI x1), some (zI x2), none], [], μ, cn, un) := by
  obtain ⟨p, e, s, m, args, below, meth, c, A, hml, hr, hlk, hnm, rfl⟩ := C
  refine s_iload_n A dX7_init_119 rfl ?_
  refine s_iconst A dX7_init_120 ?_
  obtain ⟨oz1, h⟩ := h
  refine z_icmp_ge (tgt := 198) A dX7_init_121 (by decide) oz1 ⟨by decide, by decide⟩ (fun c2 => ?_) (fun c2 => ?_)
  · have h := h.1 c2
    refine s_iinc (L' := [some (zR (some a0)), some (zI (x1 + 1)), some (zI x2), none]) A dX7_init_198 rfl rfl ?_
    refine s_goto (tgt := 104) A dX7_init_201 (by decide) ?_
    exact z_wk (L' := [some (zR (some a0)), some (zI (x1 + 1)), none, none]) ⟨rfl, rfl, trivial⟩ h
  · have h := h.2 c2
    refine s_iload_n A dX7_init_124 rfl ?_
    refine s_iload_n A dX7_init_125 rfl ?_
    obtain ⟨oz3, h⟩ := h
    refine z_icmp_eq (tgt := 134) A dX7_init_126 (by decide) oz1 oz3 (fun c4 => ?_) (fun c4 => ?_)
    · have h := h.1 c4
      refine s_iconst A dX7_init_134 ?_
      refine s_goto (tgt := 139) A dX7_init_135 (by decide) ?_
      exact h
    · have h := h.2 c4
      refine s_iload_n A dX7_init_129 rfl ?_
      refine s_iconst A dX7_init_130 ?_
      refine z_icmp_ne (tgt := 138) A dX7_init_131 (by decide) oz1 ⟨by decide, by decide⟩ (fun c5 => ?_) (fun c5 => ?_)
      · have h := h.1 c5
        refine s_iconst A dX7_init_138 ?_
        exact h
      · have h := h.2 c5
        refine s_iconst A dX7_init_134 ?_
        refine s_goto (tgt := 139) A dX7_init_135 (by decide) ?_
        exact h
set_option maxRecDepth 20000 in
theorem rX7_init_139 {G : zG} {F : zM → Prop} {J : Nat → zS → Prop} {μ : zM} (C : zJ G false (3) 7 458 mX7_init (zKV F) J) (a0 : Nat) (x1 : Int) (x2 : Int) (xs0 : Int) {cn un : Nat}
    (h : zok false μ a0 (7, 9) ∧ (0 ≤ x2 ∧ x2 < 4) ∧ zin xs0 ∧ ((xs0 = 0 → ∃ b5, zr μ a0 0 = some b5 ∧ zok false μ b5 (40, 243) ∧ (0 ≤ ((zta 2 x2) * 3) + x1 ∧ ((zta 2 x2) * 3) + x1 < 243) ∧ zok false (zup μ b5 (((zta 2 x2) * 3) + x1) 90) a0 (7, 9) ∧ ((xs0 = 0 → ∃ b10, zr (zup μ b5 (((zta 2 x2) * 3) + x1) 90) a0 0 = some b10 ∧ zok false (zup μ b5 (((zta 2 x2) * 3) + x1) 90) b10 (40, 243) ∧ (0 ≤ ((2 * (zta 2 x2)) * 3) + x1 ∧ ((2 * (zta 2 x2)) * 3) + x1 < 243) ∧ J 119 ([some (zR (some a0)), some (zI x1), some (zI (x2 + 1)), none], [], zup (zup μ b5 (((zta 2 x2) * 3) + x1) 90) b10 (((2 * (zta 2 x2)) * 3) + x1) 80, cn, un)) ∧ (¬ (xs0 = 0) → ∃ b13, zr (zup μ b5 (((zta 2 x2) * 3) + x1) 90) a0 0 = some b13 ∧ zok false (zup μ b5 (((zta 2 x2) * 3) + x1) 90) b13 (40, 243) ∧ (0 ≤ ((2 * (zta 2 x2)) * 3) + x1 ∧ ((2 * (zta 2 x2)) * 3) + x1 < 243) ∧ J 119 ([some (zR (some a0)), some (zI x1), some (zI (x2 + 1)), none], [], zup (zup μ b5 (((zta 2 x2) * 3) + x1) 90) b13 (((2 * (zta 2 x2)) * 3) + x1) 10, cn, un)))) ∧ (¬ (xs0 = 0) → ∃ b16, zr μ a0 0 = some b16 ∧ zok false μ b16 (40, 243) ∧ (0 ≤ ((zta 2 x2) * 3) + x1 ∧ ((zta 2 x2) * 3) + x1 < 243) ∧ zok false (zup μ b16 (((zta 2 x2) * 3) + x1) 50) a0 (7, 9) ∧ ((xs0 = 0 → ∃ b21, zr (zup μ b16 (((zta 2 x2) * 3) + x1) 50) a0 0 = some b21 ∧ zok false (zup μ b16 (((zta 2 x2) * 3) + x1) 50) b21 (40, 243) ∧ (0 ≤ ((2 * (zta 2 x2)) * 3) + x1 ∧ ((2 * (zta 2 x2)) * 3) + x1 < 243) ∧ J 119 ([some (zR (some a0)), some (zI x1), some (zI (x2 + 1)), none], [], zup (zup μ b16 (((zta 2 x2) * 3) + x1) 50) b21 (((2 * (zta 2 x2)) * 3) + x1) 80, cn, un)) ∧ (¬ (xs0 = 0) → ∃ b24, zr (zup μ b16 (((zta 2 x2) * 3) + x1) 50) a0 0 = some b24 ∧ zok false (zup μ b16 (((zta 2 x2) * 3) + x1) 50) b24 (40, 243) ∧ (0 ≤ ((2 * (zta 2 x2)) * 3) + x1 ∧ ((2 * (zta 2 x2)) * 3) + x1 < 243) ∧ J 119 ([some (zR (some a0)), some (zI x1), some (zI (x2 + 1)), none], [], zup (zup μ b16 (((zta 2 x2) * 3) + x1) 50) b24 (((2 * (zta 2 x2)) * 3) + x1) 10, cn, un)))))) : J 139 ([some (zR (some a0)), some (zI x1), some (zI x2), none], [zI xs0], μ, cn, un) := by
  obtain ⟨p, e, s, m, args, below, meth, c, A, hml, hr, hlk, hnm, rfl⟩ := C
  refine s_istore_n (L' := [some (zR (some a0)), some (zI x1), some (zI x2), some (zI xs0)]) A dX7_init_139 (Nat.le_of_ble_eq_true rfl) rfl ?_
  refine s_aload_n A dX7_init_140 rfl ?_
  obtain ⟨o1, h⟩ := h
  refine s_getf (k := 7) (j := 0) (sl := false) (v := zR (zr μ a0 0)) A dX7_init_141 rfl zuw_X7 (Nat.le_of_ble_eq_true rfl) zwd184 (by decide) o1 rfl ?_
  refine s_getsN (t := 2) A dX7_init_144 (by decide) (host := "InkFolds") zwr162 ?_
  refine s_iload_n A dX7_init_147 rfl ?_
  obtain ⟨ox2, h⟩ := h
  refine z_tald A dX7_init_148 (by decide) (Nat.le_of_ble_eq_true rfl) ox2 ?_
  refine s_iconst A dX7_init_149 ?_
  refine s_imul A dX7_init_150 ?_
  refine s_iload_n A dX7_init_151 rfl ?_
  refine s_iadd A dX7_init_152 ?_
  refine s_iload_n A dX7_init_153 rfl ?_
  obtain ⟨oz3, h⟩ := h
  refine z_if_eq (tgt := 162) A dX7_init_154 (by decide) oz3 (fun c4 => ?_) (fun c4 => ?_)
  · have h := h.1 c4
    refine s_bipush A dX7_init_162 rfl ?_
    obtain ⟨b5, c5, h⟩ := h
    refine z_eqS (st' := [zI 90, zI (((zta 2 x2) * 3) + x1), zR (some b5)]) (by rw [c5] <;> rfl) ?_
    obtain ⟨o6, h⟩ := h
    obtain ⟨ox7, h⟩ := h
    refine z_iast A dX7_init_164 o6 (Nat.le_of_ble_eq_true rfl) ox7 ?_
    refine s_aload_n A dX7_init_165 rfl ?_
    obtain ⟨o8, h⟩ := h
    refine s_getf (k := 7) (j := 0) (sl := false) (v := zR (zr (zup μ b5 (((zta 2 x2) * 3) + x1) 90) a0 0)) A dX7_init_166 rfl zuw_X7 (Nat.le_of_ble_eq_true rfl) zwd184 (by decide) o8 rfl ?_
    refine s_iconst A dX7_init_169 ?_
    refine s_getsN (t := 2) A dX7_init_170 (by decide) (host := "InkFolds") zwr162 ?_
    refine s_iload_n A dX7_init_173 rfl ?_
    refine z_tald A dX7_init_174 (by decide) (Nat.le_of_ble_eq_true rfl) ox2 ?_
    refine s_imul A dX7_init_175 ?_
    refine s_iconst A dX7_init_176 ?_
    refine s_imul A dX7_init_177 ?_
    refine s_iload_n A dX7_init_178 rfl ?_
    refine s_iadd A dX7_init_179 ?_
    refine s_iload_n A dX7_init_180 rfl ?_
    refine z_if_eq (tgt := 189) A dX7_init_181 (by decide) oz3 (fun c9 => ?_) (fun c9 => ?_)
    · have h := h.1 c9
      refine s_bipush A dX7_init_189 rfl ?_
      obtain ⟨b10, c10, h⟩ := h
      refine z_eqS (st' := [zI 80, zI (((2 * (zta 2 x2)) * 3) + x1), zR (some b10)]) (by rw [c10] <;> rfl) ?_
      obtain ⟨o11, h⟩ := h
      obtain ⟨ox12, h⟩ := h
      refine z_iast A dX7_init_191 o11 (Nat.le_of_ble_eq_true rfl) ox12 ?_
      refine s_iinc (L' := [some (zR (some a0)), some (zI x1), some (zI (x2 + 1)), some (zI xs0)]) A dX7_init_192 rfl rfl ?_
      refine s_goto (tgt := 119) A dX7_init_195 (by decide) ?_
      exact z_wk (L' := [some (zR (some a0)), some (zI x1), some (zI (x2 + 1)), none]) ⟨rfl, rfl, rfl, trivial⟩ h
    · have h := h.2 c9
      refine s_bipush A dX7_init_184 rfl ?_
      refine s_goto (tgt := 191) A dX7_init_186 (by decide) ?_
      obtain ⟨b13, c13, h⟩ := h
      refine z_eqS (st' := [zI 10, zI (((2 * (zta 2 x2)) * 3) + x1), zR (some b13)]) (by rw [c13] <;> rfl) ?_
      obtain ⟨o14, h⟩ := h
      obtain ⟨ox15, h⟩ := h
      refine z_iast A dX7_init_191 o14 (Nat.le_of_ble_eq_true rfl) ox15 ?_
      refine s_iinc (L' := [some (zR (some a0)), some (zI x1), some (zI (x2 + 1)), some (zI xs0)]) A dX7_init_192 rfl rfl ?_
      refine s_goto (tgt := 119) A dX7_init_195 (by decide) ?_
      exact z_wk (L' := [some (zR (some a0)), some (zI x1), some (zI (x2 + 1)), none]) ⟨rfl, rfl, rfl, trivial⟩ h
  · have h := h.2 c4
    refine s_bipush A dX7_init_157 rfl ?_
    refine s_goto (tgt := 164) A dX7_init_159 (by decide) ?_
    obtain ⟨b16, c16, h⟩ := h
    refine z_eqS (st' := [zI 50, zI (((zta 2 x2) * 3) + x1), zR (some b16)]) (by rw [c16] <;> rfl) ?_
    obtain ⟨o17, h⟩ := h
    obtain ⟨ox18, h⟩ := h
    refine z_iast A dX7_init_164 o17 (Nat.le_of_ble_eq_true rfl) ox18 ?_
    refine s_aload_n A dX7_init_165 rfl ?_
    obtain ⟨o19, h⟩ := h
    refine s_getf (k := 7) (j := 0) (sl := false) (v := zR (zr (zup μ b16 (((zta 2 x2) * 3) + x1) 50) a0 0)) A dX7_init_166 rfl zuw_X7 (Nat.le_of_ble_eq_true rfl) zwd184 (by decide) o19 rfl ?_
    refine s_iconst A dX7_init_169 ?_
    refine s_getsN (t := 2) A dX7_init_170 (by decide) (host := "InkFolds") zwr162 ?_
    refine s_iload_n A dX7_init_173 rfl ?_
    refine z_tald A dX7_init_174 (by decide) (Nat.le_of_ble_eq_true rfl) ox2 ?_
    refine s_imul A dX7_init_175 ?_
    refine s_iconst A dX7_init_176 ?_
    refine s_imul A dX7_init_177 ?_
    refine s_iload_n A dX7_init_178 rfl ?_
    refine s_iadd A dX7_init_179 ?_
    refine s_iload_n A dX7_init_180 rfl ?_
    refine z_if_eq (tgt := 189) A dX7_init_181 (by decide) oz3 (fun c20 => ?_) (fun c20 => ?_)
    · have h := h.1 c20
      refine s_bipush A dX7_init_189 rfl ?_
      obtain ⟨b21, c21, h⟩ := h
      refine z_eqS (st' := [zI 80, zI (((2 * (zta 2 x2)) * 3) + x1), zR (some b21)]) (by rw [c21] <;> rfl) ?_
      obtain ⟨o22, h⟩ := h
      obtain ⟨ox23, h⟩ := h
      refine z_iast A dX7_init_191 o22 (Nat.le_of_ble_eq_true rfl) ox23 ?_
      refine s_iinc (L' := [some (zR (some a0)), some (zI x1), some (zI (x2 + 1)), some (zI xs0)]) A dX7_init_192 rfl rfl ?_
      refine s_goto (tgt := 119) A dX7_init_195 (by decide) ?_
      exact z_wk (L' := [some (zR (some a0)), some (zI x1), some (zI (x2 + 1)), none]) ⟨rfl, rfl, rfl, trivial⟩ h
    · have h := h.2 c20
      refine s_bipush A dX7_init_184 rfl ?_
      refine s_goto (tgt := 191) A dX7_init_186 (by decide) ?_
      obtain ⟨b24, c24, h⟩ := h
      refine z_eqS (st' := [zI 10, zI (((2 * (zta 2 x2)) * 3) + x1), zR (some b24)]) (by rw [c24] <;> rfl) ?_
      obtain ⟨o25, h⟩ := h
      obtain ⟨ox26, h⟩ := h
      refine z_iast A dX7_init_191 o25 (Nat.le_of_ble_eq_true rfl) ox26 ?_
      refine s_iinc (L' := [some (zR (some a0)), some (zI x1), some (zI (x2 + 1)), some (zI xs0)]) A dX7_init_192 rfl rfl ?_
      refine s_goto (tgt := 119) A dX7_init_195 (by decide) ?_
      exact z_wk (L' := [some (zR (some a0)), some (zI x1), some (zI (x2 + 1)), none]) ⟨rfl, rfl, rfl, trivial⟩ h
theorem eX7_init {G : zG} {F : zM → Prop} {μ : zM} {a0 : Nat} (h : ∀ J, zJ G false (3) 7 458 mX7_init (zKV F) J → J 0 ([some (zR (some a0)), none, none, none], [], μ, 0, 0)) : qX7_init G a0 μ F :=
  z_body (by decide +kernel) (Nat.le_of_ble_eq_true rfl) h
set_option maxRecDepth 20000 in
theorem rX1_init_e {G : zG} {F : zM → Prop} {J : Nat → zS → Prop} {μ : zM} (C : zJ G false (4) 89 5148 mX1_init (zKV F) J) (a0 : Nat)
    (h : zs false (znew μ (44, 11)) (zn μ) = (44, 11) ∧ ∀ b1 μ1, b1 = zn μ → μ1 = znew μ (44, 11) → zok false μ1 a0 (1, 3) ∧ J 15 ([some (zR (some a0)), some (zI 0)], [], zupr μ1 a0 0 (some b1), 0 + 1, 0 + 11)) : J 0 ([some (zR (some a0)), none], [], μ, 0, 0) := by
  obtain ⟨p, e, s, m, args, below, meth, c, A, hml, hr, hlk, hnm, rfl⟩ := C
  refine s_aload_n A dX1_init_0 rfl ?_
  refine z_objInit A dX1_init_1 zwd229 zwd119 zwd120 (Nat.le_of_ble_eq_true rfl) (by decide) (Nat.le_of_ble_eq_true rfl) ?_
  refine s_aload_n A dX1_init_4 rfl ?_
  refine s_bipush A dX1_init_5 rfl ?_
  obtain ⟨o1, h⟩ := h
  refine z_anew_State (n := 11) A dX1_init_7 rfl (by decide) zwd230 zwr231 o1 (Nat.le_of_ble_eq_true rfl) (Nat.le_of_ble_eq_true rfl) (fun b1 μ1 eb1 em1 => ?_)
  have h := h b1 μ1 eb1 em1
  obtain ⟨o2, h⟩ := h
  refine z_putFR (k := 1) (j := 0) (sl := false) A dX1_init_10 rfl zuw_X1 (Nat.le_of_ble_eq_true rfl) zwd233 (by decide) o2 tyX1 tyX1_ok nmX1 rfl (Or.inl rfl) rfl (Or.inr ⟨_, rfl⟩) rfl hnm rfl ?_
  refine s_iconst A dX1_init_13 ?_
  refine s_istore_n (L' := [some (zR (some a0)), some (zI 0)]) A dX1_init_14 (Nat.le_of_ble_eq_true rfl) rfl ?_
  exact h
set_option maxRecDepth 20000 in
theorem rX1_init_15 {G : zG} {F : zM → Prop} {J : Nat → zS → Prop} {μ : zM} (C : zJ G false (4) 89 5148 mX1_init (zKV F) J) (a0 : Nat) (x1 : Int) {cn un : Nat}
    (h : zin x1 ∧ ((10 < x1 → (cn ≤ 89 ∧ un ≤ 5148) ∧ F μ) ∧ (¬ (10 < x1) → zok false μ a0 (1, 3) ∧ zs false (znew μ (7, 9)) (zn μ) = (7, 9) ∧ (cn + 1 ≤ 89 ∧ un + 9 ≤ 5148) ∧ ∀ b4 μ4, b4 = zn μ → μ4 = znew μ (7, 9) → (cn + 1 + 7 ≤ 89 ∧ un + 9 + 458 ≤ 5148) ∧ qX7_init G b4 μ4 (fun μ5 => ∃ b6, zr μ a0 0 = some b6 ∧ zok false μ5 b6 (44, 11) ∧ (0 ≤ x1 ∧ x1 < 11) ∧ zok false μ5 b4 (7, 9) ∧ J 15 ([some (zR (some a0)), some (zI (x1 + 1))], [], zupr μ5 b6 x1 (some b4), cn + 1 + 7, un + 9 + 458))))) : J 15 ([some (zR (some a0)), some (zI x1)], [], μ, cn, un) := by
  obtain ⟨p, e, s, m, args, below, meth, c, A, hml, hr, hlk, hnm, rfl⟩ := C
  refine s_iload_n A dX1_init_15 rfl ?_
  refine s_bipush A dX1_init_16 rfl ?_
  obtain ⟨oz1, h⟩ := h
  refine z_icmp_gt (tgt := 40) A dX1_init_18 (by decide) oz1 ⟨by decide, by decide⟩ (fun c2 => ?_) (fun c2 => ?_)
  · have h := h.1 c2
    obtain ⟨o9, h⟩ := h
    exact s_vret A dX1_init_40 hr hlk o9.1 o9.2 ⟨rfl, h⟩
  · have h := h.2 c2
    refine s_aload_n A dX1_init_21 rfl ?_
    obtain ⟨o3, h⟩ := h
    refine s_getf (k := 1) (j := 0) (sl := false) (v := zR (zr μ a0 0)) A dX1_init_22 rfl zuw_X1 (Nat.le_of_ble_eq_true rfl) zwd233 (by decide) o3 rfl ?_
    refine s_iload_n A dX1_init_25 rfl ?_
    obtain ⟨o4, h⟩ := h
    obtain ⟨o4c, h⟩ := h
    refine z_new (k := 7) (N := 9) A dX1_init_26 rfl zuw_X7 tyX7 tyX7_ok zdf_X7 (by decide) zwd230 zwd155 zwd92 o4 o4c.1 o4c.2 (fun b4 μ4 eb4 em4 => ?_)
    have h := h b4 μ4 eb4 em4
    refine s_dup A dX1_init_29 rfl ?_
    obtain ⟨ob5, h⟩ := h
    refine s_callI (a := b4) (M := mX7_init) (n := 0) (d := 3) (mc := 7) (ms := 458) (av := []) (st := [zR (some b4), zI x1, zR (zr μ a0 0)]) A dX1_init_30 rfl zwd232 zwd157 zwd92 zcd_X7_init rfl (Nat.le_of_ble_eq_true rfl) (Nat.le_of_ble_eq_true rfl) (Nat.le_refl _) ob5 zhn_X7_init rfl (Nat.le_of_ble_eq_true rfl) rfl (z_contV (fun μ5 h => ?_) h)
    obtain ⟨b6, c6, h⟩ := h
    refine z_eqS (st' := [zR (some b4), zI x1, zR (some b6)]) (by rw [c6] <;> rfl) ?_
    obtain ⟨o7, h⟩ := h
    obtain ⟨ox8, h⟩ := h
    obtain ⟨o9, h⟩ := h
    refine z_aastS (sl := false) A dX1_init_33 o7 (Nat.le_of_ble_eq_true rfl) ox8 o9 ?_
    refine s_iinc (L' := [some (zR (some a0)), some (zI (x1 + 1))]) A dX1_init_34 rfl rfl ?_
    refine s_goto (tgt := 15) A dX1_init_37 (by decide) ?_
    exact h
theorem eX1_init {G : zG} {F : zM → Prop} {μ : zM} {a0 : Nat} (h : ∀ J, zJ G false (4) 89 5148 mX1_init (zKV F) J → J 0 ([some (zR (some a0)), none], [], μ, 0, 0)) : qX1_init G a0 μ F :=
  z_body (by decide +kernel) (Nat.le_of_ble_eq_true rfl) h
set_option maxRecDepth 20000 in
theorem rX1_draftSlot_e {G : zG} {F : Int → zM → Prop} {J : Nat → zS → Prop} {μ : zM} (C : zJ G true (0) 0 0 mX1_draftSlot (zKI F) J) 
    (h : (0 ≤ (zi μ 13 1) + (zi μ 13 2) ∧ (zi μ 13 1) + (zi μ 13 2) < 2147483648) ∧ F (((zi μ 13 1) + (zi μ 13 2)) % 11) μ) : J 0 ([some (zR (some 13))], [], μ, 0, 0) := by
  obtain ⟨p, e, s, m, args, below, meth, c, A, hml, hr, hlk, hnm, rfl⟩ := C
  refine s_aload_n A dX1_draftSlot_0 rfl ?_
  refine s_getf (k := 1) (j := 1) (sl := true) (v := zI (zi μ 13 1)) A dX1_draftSlot_1 rfl zuw_X1 (Nat.le_of_ble_eq_true rfl) zwd234 (by decide) (zk_13 _) rfl ?_
  refine s_aload_n A dX1_draftSlot_4 rfl ?_
  refine s_getf (k := 1) (j := 2) (sl := true) (v := zI (zi μ 13 2)) A dX1_draftSlot_5 rfl zuw_X1 (Nat.le_of_ble_eq_true rfl) zwd235 (by decide) (zk_13 _) rfl ?_
  refine s_iadd A dX1_draftSlot_8 ?_
  refine s_bipush A dX1_draftSlot_9 rfl ?_
  obtain ⟨o1, h⟩ := h
  refine z_irem A dX1_draftSlot_11 o1 ⟨by decide, by decide⟩ ?_
  exact s_iret A dX1_draftSlot_12 hr hlk (Nat.le_of_ble_eq_true rfl) (Nat.le_of_ble_eq_true rfl) ⟨_, rfl, h⟩
theorem eX1_draftSlot {G : zG} {F : Int → zM → Prop} {μ : zM}  (h : ∀ J, zJ G true (0) 0 0 mX1_draftSlot (zKI F) J → J 0 ([some (zR (some 13))], [], μ, 0, 0)) : qX1_draftSlot G  μ F :=
  z_body (by decide +kernel) (Nat.le_of_ble_eq_true rfl) h
set_option maxRecDepth 20000 in
theorem rX7_copyFrom_e {G : zG} {F : zM → Prop} {J : Nat → zS → Prop} {μ : zM} (C : zJ G true (2) 0 0 mX7_copyFrom (zKV F) J) {a0 : Nat} (ha0 : zIsSt a0) {a1 : Nat} (ha1 : zIsSt a1)
    (h : J 20 ([some (zR (some (a0))), some (zR (some (a1))), some (zI 0)], [], zcopy μ (a1 + 1) (a0 + 1) 243, 0, 0)) : J 0 ([some (zR (some (a0))), some (zR (some (a1))), none], [], μ, 0, 0) := by
  obtain ⟨p, e, s, m, args, below, meth, c, A, hml, hr, hlk, hnm, rfl⟩ := C
  refine s_aload_n A dX7_copyFrom_0 rfl ?_
  refine s_getf (k := 7) (j := 0) (sl := true) (v := zR (some (a1 + 1))) A dX7_copyFrom_1 rfl zuw_X7 (Nat.le_of_ble_eq_true rfl) zwd184 (by decide) (ha1.k0 _) rfl ?_
  refine s_iconst A dX7_copyFrom_4 ?_
  refine s_aload_n A dX7_copyFrom_5 rfl ?_
  refine s_getf (k := 7) (j := 0) (sl := true) (v := zR (some (a0 + 1))) A dX7_copyFrom_6 rfl zuw_X7 (Nat.le_of_ble_eq_true rfl) zwd184 (by decide) (ha0.k0 _) rfl ?_
  refine s_iconst A dX7_copyFrom_9 ?_
  refine s_aload_n A dX7_copyFrom_10 rfl ?_
  refine s_getf (k := 7) (j := 0) (sl := true) (v := zR (some (a0 + 1))) A dX7_copyFrom_11 rfl zuw_X7 (Nat.le_of_ble_eq_true rfl) zwd184 (by decide) (ha0.k0 _) rfl ?_
  refine s_alen A dX7_copyFrom_14 (by decide) (ha0.k1 _) ?_
  refine s_copy (n := 243) A dX7_copyFrom_15 zwd565 zwd567 zwd566 zwd107 (ha1.k1 _) (ha0.k1 _) (Nat.le_of_ble_eq_true rfl) (Nat.le_of_ble_eq_true rfl) (Nat.le_of_ble_eq_true rfl) (Nat.le_of_ble_eq_true rfl) (by decide +kernel) ?_
  refine s_iconst A dX7_copyFrom_18 ?_
  refine s_istore_n (L' := [some (zR (some (a0))), some (zR (some (a1))), some (zI 0)]) A dX7_copyFrom_19 (Nat.le_of_ble_eq_true rfl) rfl ?_
  exact h
set_option maxRecDepth 20000 in
theorem rX7_copyFrom_20 {G : zG} {F : zM → Prop} {J : Nat → zS → Prop} {μ : zM} (C : zJ G true (2) 0 0 mX7_copyFrom (zKV F) J) {a0 : Nat} (ha0 : zIsSt a0) {a1 : Nat} (ha1 : zIsSt a1) (x2 : Int)
    (h : zin x2 ∧ ((81 ≤ x2 → F (zupr (zup (zup (zcopy (zcopy (zcopy (zcopy μ (a1 + 3) (a0 + 3) 7) (a1 + 4) (a0 + 4) 36) (a1 + 5) (a0 + 5) 24) (a1 + 6) (a0 + 6) 64) a0 6 (zi (zcopy (zcopy (zcopy (zcopy μ (a1 + 3) (a0 + 3) 7) (a1 + 4) (a0 + 4) 36) (a1 + 5) (a0 + 5) 24) (a1 + 6) (a0 + 6) 64) a1 6)) a0 7 (zi (zup (zcopy (zcopy (zcopy (zcopy μ (a1 + 3) (a0 + 3) 7) (a1 + 4) (a0 + 4) 36) (a1 + 5) (a0 + 5) 24) (a1 + 6) (a0 + 6) 64) a0 6 (zi (zcopy (zcopy (zcopy (zcopy μ (a1 + 3) (a0 + 3) 7) (a1 + 4) (a0 + 4) 36) (a1 + 5) (a0 + 5) 24) (a1 + 6) (a0 + 6) 64) a1 6)) a1 7)) a0 8 (zr (zup (zup (zcopy (zcopy (zcopy (zcopy μ (a1 + 3) (a0 + 3) 7) (a1 + 4) (a0 + 4) 36) (a1 + 5) (a0 + 5) 24) (a1 + 6) (a0 + 6) 64) a0 6 (zi (zcopy (zcopy (zcopy (zcopy μ (a1 + 3) (a0 + 3) 7) (a1 + 4) (a0 + 4) 36) (a1 + 5) (a0 + 5) 24) (a1 + 6) (a0 + 6) 64) a1 6)) a0 7 (zi (zup (zcopy (zcopy (zcopy (zcopy μ (a1 + 3) (a0 + 3) 7) (a1 + 4) (a0 + 4) 36) (a1 + 5) (a0 + 5) 24) (a1 + 6) (a0 + 6) 64) a0 6 (zi (zcopy (zcopy (zcopy (zcopy μ (a1 + 3) (a0 + 3) 7) (a1 + 4) (a0 + 4) 36) (a1 + 5) (a0 + 5) 24) (a1 + 6) (a0 + 6) 64) a1 6)) a1 7)) a1 8))) ∧ (¬ (81 ≤ x2) → (0 ≤ x2 ∧ x2 < 81) ∧ (zi μ (a1 + 2) x2 = 0 ∨ zi μ (a1 + 2) x2 = 1) ∧ J 20 ([some (zR (some (a0))), some (zR (some (a1))), some (zI (x2 + 1))], [], zup μ (a0 + 2) x2 (zi μ (a1 + 2) x2), 0, 0)))) : J 20 ([some (zR (some (a0))), some (zR (some (a1))), some (zI x2)], [], μ, 0, 0) := by
  obtain ⟨p, e, s, m, args, below, meth, c, A, hml, hr, hlk, hnm, rfl⟩ := C
  refine s_iload_n A dX7_copyFrom_20 rfl ?_
  refine s_bipush A dX7_copyFrom_21 rfl ?_
  obtain ⟨oz1, h⟩ := h
  refine z_icmp_ge (tgt := 44) A dX7_copyFrom_23 (by decide) oz1 ⟨by decide, by decide⟩ (fun c2 => ?_) (fun c2 => ?_)
  · have h := h.1 c2
    refine s_aload_n A dX7_copyFrom_44 rfl ?_
    refine s_getf (k := 7) (j := 2) (sl := true) (v := zR (some (a1 + 3))) A dX7_copyFrom_45 rfl zuw_X7 (Nat.le_of_ble_eq_true rfl) zwd188 (by decide) (ha1.k0 _) rfl ?_
    refine s_iconst A dX7_copyFrom_48 ?_
    refine s_aload_n A dX7_copyFrom_49 rfl ?_
    refine s_getf (k := 7) (j := 2) (sl := true) (v := zR (some (a0 + 3))) A dX7_copyFrom_50 rfl zuw_X7 (Nat.le_of_ble_eq_true rfl) zwd188 (by decide) (ha0.k0 _) rfl ?_
    refine s_iconst A dX7_copyFrom_53 ?_
    refine s_aload_n A dX7_copyFrom_54 rfl ?_
    refine s_getf (k := 7) (j := 2) (sl := true) (v := zR (some (a0 + 3))) A dX7_copyFrom_55 rfl zuw_X7 (Nat.le_of_ble_eq_true rfl) zwd188 (by decide) (ha0.k0 _) rfl ?_
    refine s_alen A dX7_copyFrom_58 (by decide) (ha0.k3 _) ?_
    refine s_copy (n := 7) A dX7_copyFrom_59 zwd565 zwd567 zwd566 zwd107 (ha1.k3 _) (ha0.k3 _) (Nat.le_of_ble_eq_true rfl) (Nat.le_of_ble_eq_true rfl) (Nat.le_of_ble_eq_true rfl) (Nat.le_of_ble_eq_true rfl) (by decide +kernel) ?_
    refine s_aload_n A dX7_copyFrom_62 rfl ?_
    refine s_getf (k := 7) (j := 3) (sl := true) (v := zR (some (a1 + 4))) A dX7_copyFrom_63 rfl zuw_X7 (Nat.le_of_ble_eq_true rfl) zwd191 (by decide) (ha1.k0 _) rfl ?_
    refine s_iconst A dX7_copyFrom_66 ?_
    refine s_aload_n A dX7_copyFrom_67 rfl ?_
    refine s_getf (k := 7) (j := 3) (sl := true) (v := zR (some (a0 + 4))) A dX7_copyFrom_68 rfl zuw_X7 (Nat.le_of_ble_eq_true rfl) zwd191 (by decide) (ha0.k0 _) rfl ?_
    refine s_iconst A dX7_copyFrom_71 ?_
    refine s_aload_n A dX7_copyFrom_72 rfl ?_
    refine s_getf (k := 7) (j := 3) (sl := true) (v := zR (some (a0 + 4))) A dX7_copyFrom_73 rfl zuw_X7 (Nat.le_of_ble_eq_true rfl) zwd191 (by decide) (ha0.k0 _) rfl ?_
    refine s_alen A dX7_copyFrom_76 (by decide) (ha0.k4 _) ?_
    refine s_copy (n := 36) A dX7_copyFrom_77 zwd565 zwd567 zwd566 zwd107 (ha1.k4 _) (ha0.k4 _) (Nat.le_of_ble_eq_true rfl) (Nat.le_of_ble_eq_true rfl) (Nat.le_of_ble_eq_true rfl) (Nat.le_of_ble_eq_true rfl) (by decide +kernel) ?_
    refine s_aload_n A dX7_copyFrom_80 rfl ?_
    refine s_getf (k := 7) (j := 4) (sl := true) (v := zR (some (a1 + 5))) A dX7_copyFrom_81 rfl zuw_X7 (Nat.le_of_ble_eq_true rfl) zwd193 (by decide) (ha1.k0 _) rfl ?_
    refine s_iconst A dX7_copyFrom_84 ?_
    refine s_aload_n A dX7_copyFrom_85 rfl ?_
    refine s_getf (k := 7) (j := 4) (sl := true) (v := zR (some (a0 + 5))) A dX7_copyFrom_86 rfl zuw_X7 (Nat.le_of_ble_eq_true rfl) zwd193 (by decide) (ha0.k0 _) rfl ?_
    refine s_iconst A dX7_copyFrom_89 ?_
    refine s_aload_n A dX7_copyFrom_90 rfl ?_
    refine s_getf (k := 7) (j := 4) (sl := true) (v := zR (some (a0 + 5))) A dX7_copyFrom_91 rfl zuw_X7 (Nat.le_of_ble_eq_true rfl) zwd193 (by decide) (ha0.k0 _) rfl ?_
    refine s_alen A dX7_copyFrom_94 (by decide) (ha0.k5 _) ?_
    refine s_copy (n := 24) A dX7_copyFrom_95 zwd565 zwd567 zwd566 zwd107 (ha1.k5 _) (ha0.k5 _) (Nat.le_of_ble_eq_true rfl) (Nat.le_of_ble_eq_true rfl) (Nat.le_of_ble_eq_true rfl) (Nat.le_of_ble_eq_true rfl) (by decide +kernel) ?_
    refine s_aload_n A dX7_copyFrom_98 rfl ?_
    refine s_getf (k := 7) (j := 5) (sl := true) (v := zR (some (a1 + 6))) A dX7_copyFrom_99 rfl zuw_X7 (Nat.le_of_ble_eq_true rfl) zwd195 (by decide) (ha1.k0 _) rfl ?_
    refine s_iconst A dX7_copyFrom_102 ?_
    refine s_aload_n A dX7_copyFrom_103 rfl ?_
    refine s_getf (k := 7) (j := 5) (sl := true) (v := zR (some (a0 + 6))) A dX7_copyFrom_104 rfl zuw_X7 (Nat.le_of_ble_eq_true rfl) zwd195 (by decide) (ha0.k0 _) rfl ?_
    refine s_iconst A dX7_copyFrom_107 ?_
    refine s_aload_n A dX7_copyFrom_108 rfl ?_
    refine s_getf (k := 7) (j := 5) (sl := true) (v := zR (some (a0 + 6))) A dX7_copyFrom_109 rfl zuw_X7 (Nat.le_of_ble_eq_true rfl) zwd195 (by decide) (ha0.k0 _) rfl ?_
    refine s_alen A dX7_copyFrom_112 (by decide) (ha0.k6 _) ?_
    refine s_copy (n := 64) A dX7_copyFrom_113 zwd565 zwd567 zwd566 zwd107 (ha1.k6 _) (ha0.k6 _) (Nat.le_of_ble_eq_true rfl) (Nat.le_of_ble_eq_true rfl) (Nat.le_of_ble_eq_true rfl) (Nat.le_of_ble_eq_true rfl) (by decide +kernel) ?_
    refine s_aload_n A dX7_copyFrom_116 rfl ?_
    refine s_aload_n A dX7_copyFrom_117 rfl ?_
    refine s_getf (k := 7) (j := 6) (sl := true) (v := zI (zi (zcopy (zcopy (zcopy (zcopy μ (a1 + 3) (a0 + 3) 7) (a1 + 4) (a0 + 4) 36) (a1 + 5) (a0 + 5) 24) (a1 + 6) (a0 + 6) 64) a1 6)) A dX7_copyFrom_118 rfl zuw_X7 (Nat.le_of_ble_eq_true rfl) zwd197 (by decide) (ha1.k0 _) rfl ?_
    refine z_putI (k := 7) (j := 6) (sl := true) A dX7_copyFrom_121 rfl zuw_X7 (Nat.le_of_ble_eq_true rfl) zwd197 (by decide) (ha0.k0 _) tyX7 tyX7_ok nmX7 rfl rfl rfl ?_
    refine s_aload_n A dX7_copyFrom_124 rfl ?_
    refine s_aload_n A dX7_copyFrom_125 rfl ?_
    refine s_getf (k := 7) (j := 7) (sl := true) (v := zI (zi (zup (zcopy (zcopy (zcopy (zcopy μ (a1 + 3) (a0 + 3) 7) (a1 + 4) (a0 + 4) 36) (a1 + 5) (a0 + 5) 24) (a1 + 6) (a0 + 6) 64) a0 6 (zi (zcopy (zcopy (zcopy (zcopy μ (a1 + 3) (a0 + 3) 7) (a1 + 4) (a0 + 4) 36) (a1 + 5) (a0 + 5) 24) (a1 + 6) (a0 + 6) 64) a1 6)) a1 7)) A dX7_copyFrom_126 rfl zuw_X7 (Nat.le_of_ble_eq_true rfl) zwd200 (by decide) (ha1.k0 _) rfl ?_
    refine z_putI (k := 7) (j := 7) (sl := true) A dX7_copyFrom_129 rfl zuw_X7 (Nat.le_of_ble_eq_true rfl) zwd200 (by decide) (ha0.k0 _) tyX7 tyX7_ok nmX7 rfl rfl rfl ?_
    refine s_aload_n A dX7_copyFrom_132 rfl ?_
    refine s_aload_n A dX7_copyFrom_133 rfl ?_
    refine s_getf (k := 7) (j := 8) (sl := true) (v := zR (zr (zup (zup (zcopy (zcopy (zcopy (zcopy μ (a1 + 3) (a0 + 3) 7) (a1 + 4) (a0 + 4) 36) (a1 + 5) (a0 + 5) 24) (a1 + 6) (a0 + 6) 64) a0 6 (zi (zcopy (zcopy (zcopy (zcopy μ (a1 + 3) (a0 + 3) 7) (a1 + 4) (a0 + 4) 36) (a1 + 5) (a0 + 5) 24) (a1 + 6) (a0 + 6) 64) a1 6)) a0 7 (zi (zup (zcopy (zcopy (zcopy (zcopy μ (a1 + 3) (a0 + 3) 7) (a1 + 4) (a0 + 4) 36) (a1 + 5) (a0 + 5) 24) (a1 + 6) (a0 + 6) 64) a0 6 (zi (zcopy (zcopy (zcopy (zcopy μ (a1 + 3) (a0 + 3) 7) (a1 + 4) (a0 + 4) 36) (a1 + 5) (a0 + 5) 24) (a1 + 6) (a0 + 6) 64) a1 6)) a1 7)) a1 8)) A dX7_copyFrom_134 rfl zuw_X7 (Nat.le_of_ble_eq_true rfl) zwd203 (by decide) (ha1.k0 _) rfl ?_
    refine z_putR (k := 7) (j := 8) (sl := true) A dX7_copyFrom_137 rfl zuw_X7 (Nat.le_of_ble_eq_true rfl) zwd203 (by decide) (ha0.k0 _) tyX7 tyX7_ok nmX7 rfl (Or.inr rfl) rfl (Or.inl ⟨_, rfl⟩) rfl ?_
    exact s_vret A dX7_copyFrom_140 hr hlk (Nat.le_of_ble_eq_true rfl) (Nat.le_of_ble_eq_true rfl) ⟨rfl, h⟩
  · have h := h.2 c2
    refine s_aload_n A dX7_copyFrom_26 rfl ?_
    refine s_getf (k := 7) (j := 1) (sl := true) (v := zR (some (a0 + 2))) A dX7_copyFrom_27 rfl zuw_X7 (Nat.le_of_ble_eq_true rfl) zwd186 (by decide) (ha0.k0 _) rfl ?_
    refine s_iload_n A dX7_copyFrom_30 rfl ?_
    refine s_aload_n A dX7_copyFrom_31 rfl ?_
    refine s_getf (k := 7) (j := 1) (sl := true) (v := zR (some (a1 + 2))) A dX7_copyFrom_32 rfl zuw_X7 (Nat.le_of_ble_eq_true rfl) zwd186 (by decide) (ha1.k0 _) rfl ?_
    refine s_iload_n A dX7_copyFrom_35 rfl ?_
    obtain ⟨ox3, h⟩ := h
    refine z_zald A dX7_copyFrom_36 (ha1.k2 _) (Nat.le_of_ble_eq_true rfl) ox3 ?_
    obtain ⟨o1, h⟩ := h
    refine z_zast A dX7_copyFrom_37 (ha0.k2 _) (Nat.le_of_ble_eq_true rfl) ox3 o1 ?_
    refine s_iinc (L' := [some (zR (some (a0))), some (zR (some (a1))), some (zI (x2 + 1))]) A dX7_copyFrom_38 rfl rfl ?_
    refine s_goto (tgt := 20) A dX7_copyFrom_41 (by decide) ?_
    exact h
theorem eX7_copyFrom {G : zG} {F : zM → Prop} {μ : zM} {a0 : Nat} {a1 : Nat} (h : ∀ J, zJ G true (2) 0 0 mX7_copyFrom (zKV F) J → J 0 ([some (zR (some (a0))), some (zR (some (a1))), none], [], μ, 0, 0)) : qX7_copyFrom G a0 a1 μ F :=
  z_body (by decide +kernel) (Nat.le_of_ble_eq_true rfl) h
set_option maxRecDepth 20000 in
theorem rX1_draft_e {G : zG} {F : zM → Prop} {J : Nat → zS → Prop} {μ : zM} (C : zJ G true (3) 0 0 mX1_draft (zKV F) J) {a1 : Nat} (ha1 : zIsSt a1)
    (h : qX1_draftSlot G μ (fun v1 μ1 => (0 ≤ v1 ∧ v1 < 11) ∧ qX7_copyFrom G (15 + 8 * v1.toNat) a1 μ1 (fun μ3 => F μ3))) : J 0 ([some (zR (some 13)), some (zR (some (a1)))], [], μ, 0, 0) := by
  obtain ⟨p, e, s, m, args, below, meth, c, A, hml, hr, hlk, hnm, rfl⟩ := C
  refine s_aload_n A dX1_draft_0 rfl ?_
  refine s_getf (k := 1) (j := 0) (sl := true) (v := zR (some 14)) A dX1_draft_1 rfl zuw_X1 (Nat.le_of_ble_eq_true rfl) zwd233 (by decide) (zk_13 _) rfl ?_
  refine s_aload_n A dX1_draft_4 rfl ?_
  refine s_callV (a := 13) (k := 1) (N := 3) (sl := true) (M := mX1_draftSlot) (n := 0) (d := 0) (mc := 0) (ms := 0) (av := []) (st := [zR (some 14)]) A dX1_draft_5 rfl (by decide) (zk_13 _) zwd557 zwd559 zwd1 zwd94 zcd_X1_draftSlot (Nat.le_of_ble_eq_true rfl) (Nat.le_of_ble_eq_true rfl) (Nat.le_refl _) ⟨Nat.le_of_ble_eq_true rfl, Nat.le_of_ble_eq_true rfl⟩ ⟨rfl, zhn_X1_draftSlot⟩ rfl (Nat.le_of_ble_eq_true rfl) rfl (z_contI (fun v1 μ1 h => ?_) h)
  obtain ⟨ox2, h⟩ := h
  refine z_aald (r := some (15 + 8 * v1.toNat)) A dX1_draft_8 (by decide) (zk_14 _) (Nat.le_of_ble_eq_true rfl) ox2 rfl ?_
  refine s_aload_n A dX1_draft_9 rfl ?_
  refine s_callV (a := 15 + 8 * v1.toNat) (k := 7) (N := 9) (sl := true) (M := mX7_copyFrom) (n := 1) (d := 2) (mc := 0) (ms := 0) (av := [zR (some (a1))]) (st := []) A dX1_draft_10 rfl (by decide) ((zSt_slot ox2).k0 _) zwd561 zwd562 zwd563 zwd92 zcd_X7_copyFrom (Nat.le_of_ble_eq_true rfl) (Nat.le_of_ble_eq_true rfl) (Nat.le_refl _) ⟨Nat.le_of_ble_eq_true rfl, Nat.le_of_ble_eq_true rfl⟩ ⟨rfl, zhn_X7_copyFrom⟩ rfl (Nat.le_of_ble_eq_true rfl) rfl (z_contV (fun μ3 h => ?_) h)
  exact s_vret A dX1_draft_13 hr hlk (Nat.le_of_ble_eq_true rfl) (Nat.le_of_ble_eq_true rfl) ⟨rfl, h⟩
theorem eX1_draft {G : zG} {F : zM → Prop} {μ : zM} {a1 : Nat} (h : ∀ J, zJ G true (3) 0 0 mX1_draft (zKV F) J → J 0 ([some (zR (some 13)), some (zR (some (a1)))], [], μ, 0, 0)) : qX1_draft G a1 μ F :=
  z_body (by decide +kernel) (Nat.le_of_ble_eq_true rfl) h
set_option maxRecDepth 20000 in
theorem rX1_settle_e {G : zG} {F : zM → Prop} {J : Nat → zS → Prop} {μ : zM} (C : zJ G true (0) 0 0 mX1_settle (zKV F) J) 
    (h : zin (zi μ 13 2) ∧ ((10 ≤ zi μ 13 2 → (0 ≤ (zi μ 13 1) + 1 ∧ (zi μ 13 1) + 1 < 2147483648) ∧ F (zup μ 13 1 (((zi μ 13 1) + 1) % 11))) ∧ (¬ (10 ≤ zi μ 13 2) → F (zup μ 13 2 ((zi μ 13 2) + 1))))) : J 0 ([some (zR (some 13))], [], μ, 0, 0) := by
  obtain ⟨p, e, s, m, args, below, meth, c, A, hml, hr, hlk, hnm, rfl⟩ := C
  refine s_aload_n A dX1_settle_0 rfl ?_
  refine s_getf (k := 1) (j := 2) (sl := true) (v := zI (zi μ 13 2)) A dX1_settle_1 rfl zuw_X1 (Nat.le_of_ble_eq_true rfl) zwd235 (by decide) (zk_13 _) rfl ?_
  refine s_bipush A dX1_settle_4 rfl ?_
  obtain ⟨oz1, h⟩ := h
  refine z_icmp_ge (tgt := 22) A dX1_settle_6 (by decide) oz1 ⟨by decide, by decide⟩ (fun c2 => ?_) (fun c2 => ?_)
  · have h := h.1 c2
    refine s_aload_n A dX1_settle_22 rfl ?_
    refine s_aload_n A dX1_settle_23 rfl ?_
    refine s_getf (k := 1) (j := 1) (sl := true) (v := zI (zi μ 13 1)) A dX1_settle_24 rfl zuw_X1 (Nat.le_of_ble_eq_true rfl) zwd234 (by decide) (zk_13 _) rfl ?_
    refine s_iconst A dX1_settle_27 ?_
    refine s_iadd A dX1_settle_28 ?_
    refine s_bipush A dX1_settle_29 rfl ?_
    obtain ⟨o1, h⟩ := h
    refine z_irem A dX1_settle_31 o1 ⟨by decide, by decide⟩ ?_
    refine z_putI (k := 1) (j := 1) (sl := true) A dX1_settle_32 rfl zuw_X1 (Nat.le_of_ble_eq_true rfl) zwd234 (by decide) (zk_13 _) tyX1 tyX1_ok nmX1 rfl rfl rfl ?_
    exact s_vret A dX1_settle_35 hr hlk (Nat.le_of_ble_eq_true rfl) (Nat.le_of_ble_eq_true rfl) ⟨rfl, h⟩
  · have h := h.2 c2
    refine s_aload_n A dX1_settle_9 rfl ?_
    refine s_dup A dX1_settle_10 rfl ?_
    refine s_getf (k := 1) (j := 2) (sl := true) (v := zI (zi μ 13 2)) A dX1_settle_11 rfl zuw_X1 (Nat.le_of_ble_eq_true rfl) zwd235 (by decide) (zk_13 _) rfl ?_
    refine s_iconst A dX1_settle_14 ?_
    refine s_iadd A dX1_settle_15 ?_
    refine z_putI (k := 1) (j := 2) (sl := true) A dX1_settle_16 rfl zuw_X1 (Nat.le_of_ble_eq_true rfl) zwd235 (by decide) (zk_13 _) tyX1 tyX1_ok nmX1 rfl rfl rfl ?_
    refine s_goto (tgt := 35) A dX1_settle_19 (by decide) ?_
    exact s_vret A dX1_settle_35 hr hlk (Nat.le_of_ble_eq_true rfl) (Nat.le_of_ble_eq_true rfl) ⟨rfl, h⟩
theorem eX1_settle {G : zG} {F : zM → Prop} {μ : zM}  (h : ∀ J, zJ G true (0) 0 0 mX1_settle (zKV F) J → J 0 ([some (zR (some 13))], [], μ, 0, 0)) : qX1_settle G  μ F :=
  z_body (by decide +kernel) (Nat.le_of_ble_eq_true rfl) h
set_option maxRecDepth 20000 in
theorem rX1_bringBack_e {G : zG} {F : zM → Prop} {J : Nat → zS → Prop} {μ : zM} (C : zJ G true (3) 0 0 mX1_bringBack (zKV F) J) {a1 : Nat} (ha1 : zIsSt a1)
    (h : zin (zi μ 13 2) ∧ ((zi μ 13 2 ≤ 0 → F μ) ∧ (¬ (zi μ 13 2 ≤ 0) → qX1_draftSlot G (zup μ 13 2 ((zi μ 13 2) - 1)) (fun v3 μ3 => (0 ≤ v3 ∧ v3 < 11) ∧ qX7_copyFrom G a1 (15 + 8 * v3.toNat) μ3 (fun μ5 => F μ5))))) : J 0 ([some (zR (some 13)), some (zR (some (a1)))], [], μ, 0, 0) := by
  obtain ⟨p, e, s, m, args, below, meth, c, A, hml, hr, hlk, hnm, rfl⟩ := C
  refine s_aload_n A dX1_bringBack_0 rfl ?_
  refine s_getf (k := 1) (j := 2) (sl := true) (v := zI (zi μ 13 2)) A dX1_bringBack_1 rfl zuw_X1 (Nat.le_of_ble_eq_true rfl) zwd235 (by decide) (zk_13 _) rfl ?_
  obtain ⟨oz1, h⟩ := h
  refine z_if_le (tgt := 30) A dX1_bringBack_4 (by decide) oz1 (fun c2 => ?_) (fun c2 => ?_)
  · have h := h.1 c2
    exact s_vret A dX1_bringBack_30 hr hlk (Nat.le_of_ble_eq_true rfl) (Nat.le_of_ble_eq_true rfl) ⟨rfl, h⟩
  · have h := h.2 c2
    refine s_aload_n A dX1_bringBack_7 rfl ?_
    refine s_dup A dX1_bringBack_8 rfl ?_
    refine s_getf (k := 1) (j := 2) (sl := true) (v := zI (zi μ 13 2)) A dX1_bringBack_9 rfl zuw_X1 (Nat.le_of_ble_eq_true rfl) zwd235 (by decide) (zk_13 _) rfl ?_
    refine s_iconst A dX1_bringBack_12 ?_
    refine s_isub A dX1_bringBack_13 ?_
    refine z_putI (k := 1) (j := 2) (sl := true) A dX1_bringBack_14 rfl zuw_X1 (Nat.le_of_ble_eq_true rfl) zwd235 (by decide) (zk_13 _) tyX1 tyX1_ok nmX1 rfl rfl rfl ?_
    refine s_aload_n A dX1_bringBack_17 rfl ?_
    refine s_aload_n A dX1_bringBack_18 rfl ?_
    refine s_getf (k := 1) (j := 0) (sl := true) (v := zR (some 14)) A dX1_bringBack_19 rfl zuw_X1 (Nat.le_of_ble_eq_true rfl) zwd233 (by decide) (zk_13 _) rfl ?_
    refine s_aload_n A dX1_bringBack_22 rfl ?_
    refine s_callV (a := 13) (k := 1) (N := 3) (sl := true) (M := mX1_draftSlot) (n := 0) (d := 0) (mc := 0) (ms := 0) (av := []) (st := [zR (some 14), zR (some (a1))]) A dX1_bringBack_23 rfl (by decide) (zk_13 _) zwd557 zwd559 zwd1 zwd94 zcd_X1_draftSlot (Nat.le_of_ble_eq_true rfl) (Nat.le_of_ble_eq_true rfl) (Nat.le_refl _) ⟨Nat.le_of_ble_eq_true rfl, Nat.le_of_ble_eq_true rfl⟩ ⟨rfl, zhn_X1_draftSlot⟩ rfl (Nat.le_of_ble_eq_true rfl) rfl (z_contI (fun v3 μ3 h => ?_) h)
    obtain ⟨ox4, h⟩ := h
    refine z_aald (r := some (15 + 8 * v3.toNat)) A dX1_bringBack_26 (by decide) (zk_14 _) (Nat.le_of_ble_eq_true rfl) ox4 rfl ?_
    refine s_callV (a := a1) (k := 7) (N := 9) (sl := true) (M := mX7_copyFrom) (n := 1) (d := 2) (mc := 0) (ms := 0) (av := [zR (some (15 + 8 * v3.toNat))]) (st := []) A dX1_bringBack_27 rfl (by decide) (ha1.k0 _) zwd561 zwd562 zwd563 zwd92 zcd_X7_copyFrom (Nat.le_of_ble_eq_true rfl) (Nat.le_of_ble_eq_true rfl) (Nat.le_refl _) ⟨Nat.le_of_ble_eq_true rfl, Nat.le_of_ble_eq_true rfl⟩ ⟨rfl, zhn_X7_copyFrom⟩ rfl (Nat.le_of_ble_eq_true rfl) rfl (z_contV (fun μ5 h => ?_) h)
    exact s_vret A dX1_bringBack_30 hr hlk (Nat.le_of_ble_eq_true rfl) (Nat.le_of_ble_eq_true rfl) ⟨rfl, h⟩
theorem eX1_bringBack {G : zG} {F : zM → Prop} {μ : zM} {a1 : Nat} (h : ∀ J, zJ G true (3) 0 0 mX1_bringBack (zKV F) J → J 0 ([some (zR (some 13)), some (zR (some (a1)))], [], μ, 0, 0)) : qX1_bringBack G a1 μ F :=
  z_body (by decide +kernel) (Nat.le_of_ble_eq_true rfl) h
set_option maxRecDepth 20000 in
theorem rX2_init_e {G : zG} {F : zM → Prop} {J : Nat → zS → Prop} {μ : zM} (C : zJ G false (2) 1 4 mX2_init (zKV F) J) (a0 : Nat)
    (h : zs false (znew μ (40, 4)) (zn μ) = (40, 4) ∧ ∀ b1 μ1, b1 = zn μ → μ1 = znew μ (40, 4) → zok false μ1 a0 (2, 1) ∧ F (zupr μ1 a0 0 (some b1))) : J 0 ([some (zR (some a0))], [], μ, 0, 0) := by
  obtain ⟨p, e, s, m, args, below, meth, c, A, hml, hr, hlk, hnm, rfl⟩ := C
  refine s_aload_n A dX2_init_0 rfl ?_
  refine z_objInit A dX2_init_1 zwd316 zwd119 zwd120 (Nat.le_of_ble_eq_true rfl) (by decide) (Nat.le_of_ble_eq_true rfl) ?_
  refine s_aload_n A dX2_init_4 rfl ?_
  refine s_iconst A dX2_init_5 ?_
  obtain ⟨o1, h⟩ := h
  refine z_newa_int (n := 4) A dX2_init_6 rfl (by decide) zwd137 o1 (Nat.le_of_ble_eq_true rfl) (Nat.le_of_ble_eq_true rfl) (fun b1 μ1 eb1 em1 => ?_)
  have h := h b1 μ1 eb1 em1
  obtain ⟨o2, h⟩ := h
  refine z_putFR (k := 2) (j := 0) (sl := false) A dX2_init_8 rfl zuw_X2 (Nat.le_of_ble_eq_true rfl) zwd317 (by decide) o2 tyX2 tyX2_ok nmX2 rfl (Or.inl rfl) rfl (Or.inr ⟨_, rfl⟩) rfl hnm rfl ?_
  exact s_vret A dX2_init_11 hr hlk (Nat.le_of_ble_eq_true rfl) (Nat.le_of_ble_eq_true rfl) ⟨rfl, h⟩
theorem eX2_init {G : zG} {F : zM → Prop} {μ : zM} {a0 : Nat} (h : ∀ J, zJ G false (2) 1 4 mX2_init (zKV F) J → J 0 ([some (zR (some a0))], [], μ, 0, 0)) : qX2_init G a0 μ F :=
  z_body (by decide +kernel) (Nat.le_of_ble_eq_true rfl) h
set_option maxRecDepth 20000 in
theorem rX2_load_e {G : zG} {F : zM → Prop} {J : Nat → zS → Prop} {μ : zM} (C : zJ G true (2) 0 0 mX2_load (zKV F) J) (x1 : Int)
    (h : J 2 ([some (zR (some 128)), some (zI x1), some (zI 0)], [], μ, 0, 0)) : J 0 ([some (zR (some 128)), some (zI x1), none], [], μ, 0, 0) := by
  obtain ⟨p, e, s, m, args, below, meth, c, A, hml, hr, hlk, hnm, rfl⟩ := C
  refine s_iconst A dX2_load_0 ?_
  refine s_istore_n (L' := [some (zR (some 128)), some (zI x1), some (zI 0)]) A dX2_load_1 (Nat.le_of_ble_eq_true rfl) rfl ?_
  exact h
set_option maxRecDepth 20000 in
theorem rX2_load_2 {G : zG} {F : zM → Prop} {J : Nat → zS → Prop} {μ : zM} (C : zJ G true (2) 0 0 mX2_load (zKV F) J) (x1 : Int) (x2 : Int)
    (h : zin x2 ∧ ((4 ≤ x2 → F μ) ∧ (¬ (4 ≤ x2) → qX10_amountOf G true x1 x2 μ (fun v3 μ3 => (0 ≤ x2 ∧ x2 < 4) ∧ J 2 ([some (zR (some 128)), some (zI x1), some (zI (x2 + 1))], [], zup μ3 129 x2 v3, 0, 0))))) : J 2 ([some (zR (some 128)), some (zI x1), some (zI x2)], [], μ, 0, 0) := by
  obtain ⟨p, e, s, m, args, below, meth, c, A, hml, hr, hlk, hnm, rfl⟩ := C
  refine s_iload_n A dX2_load_2 rfl ?_
  refine s_iconst A dX2_load_3 ?_
  obtain ⟨oz1, h⟩ := h
  refine z_icmp_ge (tgt := 24) A dX2_load_4 (by decide) oz1 ⟨by decide, by decide⟩ (fun c2 => ?_) (fun c2 => ?_)
  · have h := h.1 c2
    exact s_vret A dX2_load_24 hr hlk (Nat.le_of_ble_eq_true rfl) (Nat.le_of_ble_eq_true rfl) ⟨rfl, h⟩
  · have h := h.2 c2
    refine s_aload_n A dX2_load_7 rfl ?_
    refine s_getf (k := 2) (j := 0) (sl := true) (v := zR (some 129)) A dX2_load_8 rfl zuw_X2 (Nat.le_of_ble_eq_true rfl) zwd317 (by decide) (zk_128 _) rfl ?_
    refine s_iload_n A dX2_load_11 rfl ?_
    refine s_iload_n A dX2_load_12 rfl ?_
    refine s_iload_n A dX2_load_13 rfl ?_
    refine s_callSN (host := "InkFolds") (M := mX10_amountOf) (n := 2) (d := 0) (mc := 0) (ms := 0) (av := [zI x1, zI x2]) (st := [zI x2, zR (some 129)]) A dX2_load_14 zwr878 zwd840 zwd89 zcd_X10_amountOf (Nat.le_of_ble_eq_true rfl) (Nat.le_of_ble_eq_true rfl) (Nat.le_refl _) ⟨Nat.le_of_ble_eq_true rfl, Nat.le_of_ble_eq_true rfl⟩ zhn_X10_amountOf rfl (Nat.le_of_ble_eq_true rfl) rfl (z_contI (fun v3 μ3 h => ?_) h)
    obtain ⟨ox4, h⟩ := h
    refine z_iast A dX2_load_17 (zk_129 _) (Nat.le_of_ble_eq_true rfl) ox4 ?_
    refine s_iinc (L' := [some (zR (some 128)), some (zI x1), some (zI (x2 + 1))]) A dX2_load_18 rfl rfl ?_
    refine s_goto (tgt := 2) A dX2_load_21 (by decide) ?_
    exact h
theorem eX2_load {G : zG} {F : zM → Prop} {μ : zM} {x1 : Int} (h : ∀ J, zJ G true (2) 0 0 mX2_load (zKV F) J → J 0 ([some (zR (some 128)), some (zI x1), none], [], μ, 0, 0)) : qX2_load G x1 μ F :=
  z_body (by decide +kernel) (Nat.le_of_ble_eq_true rfl) h
set_option maxRecDepth 20000 in
theorem rX2_place_e {G : zG} {F : Int → zM → Prop} {J : Nat → zS → Prop} {μ : zM} (C : zJ G true (0) 0 0 mX2_place (zKI F) J) 
    (h : J 4 ([some (zR (some 128)), some (zI 0), some (zI 0)], [], μ, 0, 0)) : J 0 ([some (zR (some 128)), none, none], [], μ, 0, 0) := by
  obtain ⟨p, e, s, m, args, below, meth, c, A, hml, hr, hlk, hnm, rfl⟩ := C
  refine s_iconst A dX2_place_0 ?_
  refine s_istore_n (L' := [some (zR (some 128)), some (zI 0), none]) A dX2_place_1 (Nat.le_of_ble_eq_true rfl) rfl ?_
  refine s_iconst A dX2_place_2 ?_
  refine s_istore_n (L' := [some (zR (some 128)), some (zI 0), some (zI 0)]) A dX2_place_3 (Nat.le_of_ble_eq_true rfl) rfl ?_
  exact h
set_option maxRecDepth 20000 in
theorem rX2_place_4 {G : zG} {F : Int → zM → Prop} {J : Nat → zS → Prop} {μ : zM} (C : zJ G true (0) 0 0 mX2_place (zKI F) J) (x1 : Int) (x2 : Int)
    (h : zin x2 ∧ ((4 ≤ x2 → F x1 μ) ∧ (¬ (4 ≤ x2) → (0 ≤ x2 ∧ x2 < 4) ∧ J 4 ([some (zR (some 128)), some (zI (x1 + ((zi μ 129 x2) * (zta 1 x2)))), some (zI (x2 + 1))], [], μ, 0, 0)))) : J 4 ([some (zR (some 128)), some (zI x1), some (zI x2)], [], μ, 0, 0) := by
  obtain ⟨p, e, s, m, args, below, meth, c, A, hml, hr, hlk, hnm, rfl⟩ := C
  refine s_iload_n A dX2_place_4 rfl ?_
  refine s_iconst A dX2_place_5 ?_
  obtain ⟨oz1, h⟩ := h
  refine z_icmp_ge (tgt := 30) A dX2_place_6 (by decide) oz1 ⟨by decide, by decide⟩ (fun c2 => ?_) (fun c2 => ?_)
  · have h := h.1 c2
    refine s_iload_n A dX2_place_30 rfl ?_
    exact s_iret A dX2_place_31 hr hlk (Nat.le_of_ble_eq_true rfl) (Nat.le_of_ble_eq_true rfl) ⟨_, rfl, h⟩
  · have h := h.2 c2
    refine s_iload_n A dX2_place_9 rfl ?_
    refine s_aload_n A dX2_place_10 rfl ?_
    refine s_getf (k := 2) (j := 0) (sl := true) (v := zR (some 129)) A dX2_place_11 rfl zuw_X2 (Nat.le_of_ble_eq_true rfl) zwd317 (by decide) (zk_128 _) rfl ?_
    refine s_iload_n A dX2_place_14 rfl ?_
    obtain ⟨ox3, h⟩ := h
    refine z_iald A dX2_place_15 (zk_129 _) (Nat.le_of_ble_eq_true rfl) ox3 ?_
    refine s_getsN (t := 1) A dX2_place_16 (by decide) (host := "InkFolds") zwr892 ?_
    refine s_iload_n A dX2_place_19 rfl ?_
    refine z_tald A dX2_place_20 (by decide) (Nat.le_of_ble_eq_true rfl) ox3 ?_
    refine s_imul A dX2_place_21 ?_
    refine s_iadd A dX2_place_22 ?_
    refine s_istore_n (L' := [some (zR (some 128)), some (zI (x1 + ((zi μ 129 x2) * (zta 1 x2)))), some (zI x2)]) A dX2_place_23 (Nat.le_of_ble_eq_true rfl) rfl ?_
    refine s_iinc (L' := [some (zR (some 128)), some (zI (x1 + ((zi μ 129 x2) * (zta 1 x2)))), some (zI (x2 + 1))]) A dX2_place_24 rfl rfl ?_
    refine s_goto (tgt := 4) A dX2_place_27 (by decide) ?_
    exact h
theorem eX2_place {G : zG} {F : Int → zM → Prop} {μ : zM}  (h : ∀ J, zJ G true (0) 0 0 mX2_place (zKI F) J → J 0 ([some (zR (some 128)), none, none], [], μ, 0, 0)) : qX2_place G  μ F :=
  z_body (by decide +kernel) (Nat.le_of_ble_eq_true rfl) h
set_option maxRecDepth 20000 in
theorem rX2_totalWith_e {G : zG} {F : Int → zM → Prop} {J : Nat → zS → Prop} {μ : zM} (C : zJ G true (8) 0 0 mX2_totalWith (zKI F) J) (x1 : Int)
    (h : zin (zi μ 129 0) ∧ zin x1 ∧ zin (zi μ 129 1) ∧ zin (zi μ 129 2) ∧ F ((((min (zi μ 129 0) x1) + (min (zi μ 129 1) x1)) + (min (zi μ 129 2) x1)) + (zi μ 129 3)) μ) : J 0 ([some (zR (some 128)), some (zI x1)], [], μ, 0, 0) := by
  obtain ⟨p, e, s, m, args, below, meth, c, A, hml, hr, hlk, hnm, rfl⟩ := C
  refine s_aload_n A dX2_totalWith_0 rfl ?_
  refine s_getf (k := 2) (j := 0) (sl := true) (v := zR (some 129)) A dX2_totalWith_1 rfl zuw_X2 (Nat.le_of_ble_eq_true rfl) zwd317 (by decide) (zk_128 _) rfl ?_
  refine s_iconst A dX2_totalWith_4 ?_
  refine z_iald A dX2_totalWith_5 (zk_129 _) (Nat.le_of_ble_eq_true rfl) ⟨by decide, by decide⟩ ?_
  refine s_iload_n A dX2_totalWith_6 rfl ?_
  obtain ⟨oz1, h⟩ := h
  obtain ⟨oz2, h⟩ := h
  refine z_mmin A dX2_totalWith_7 zwd887 zwd509 zwd105 zwd510 (Nat.le_of_ble_eq_true rfl) (Nat.le_of_ble_eq_true rfl) ⟨Nat.le_of_ble_eq_true rfl, Nat.le_of_ble_eq_true rfl⟩ oz1 oz2 ?_
  refine s_aload_n A dX2_totalWith_10 rfl ?_
  refine s_getf (k := 2) (j := 0) (sl := true) (v := zR (some 129)) A dX2_totalWith_11 rfl zuw_X2 (Nat.le_of_ble_eq_true rfl) zwd317 (by decide) (zk_128 _) rfl ?_
  refine s_iconst A dX2_totalWith_14 ?_
  refine z_iald A dX2_totalWith_15 (zk_129 _) (Nat.le_of_ble_eq_true rfl) ⟨by decide, by decide⟩ ?_
  refine s_iload_n A dX2_totalWith_16 rfl ?_
  obtain ⟨oz3, h⟩ := h
  refine z_mmin A dX2_totalWith_17 zwd887 zwd509 zwd105 zwd510 (Nat.le_of_ble_eq_true rfl) (Nat.le_of_ble_eq_true rfl) ⟨Nat.le_of_ble_eq_true rfl, Nat.le_of_ble_eq_true rfl⟩ oz3 oz2 ?_
  refine s_iadd A dX2_totalWith_20 ?_
  refine s_aload_n A dX2_totalWith_21 rfl ?_
  refine s_getf (k := 2) (j := 0) (sl := true) (v := zR (some 129)) A dX2_totalWith_22 rfl zuw_X2 (Nat.le_of_ble_eq_true rfl) zwd317 (by decide) (zk_128 _) rfl ?_
  refine s_iconst A dX2_totalWith_25 ?_
  refine z_iald A dX2_totalWith_26 (zk_129 _) (Nat.le_of_ble_eq_true rfl) ⟨by decide, by decide⟩ ?_
  refine s_iload_n A dX2_totalWith_27 rfl ?_
  obtain ⟨oz4, h⟩ := h
  refine z_mmin A dX2_totalWith_28 zwd887 zwd509 zwd105 zwd510 (Nat.le_of_ble_eq_true rfl) (Nat.le_of_ble_eq_true rfl) ⟨Nat.le_of_ble_eq_true rfl, Nat.le_of_ble_eq_true rfl⟩ oz4 oz2 ?_
  refine s_iadd A dX2_totalWith_31 ?_
  refine s_aload_n A dX2_totalWith_32 rfl ?_
  refine s_getf (k := 2) (j := 0) (sl := true) (v := zR (some 129)) A dX2_totalWith_33 rfl zuw_X2 (Nat.le_of_ble_eq_true rfl) zwd317 (by decide) (zk_128 _) rfl ?_
  refine s_iconst A dX2_totalWith_36 ?_
  refine z_iald A dX2_totalWith_37 (zk_129 _) (Nat.le_of_ble_eq_true rfl) ⟨by decide, by decide⟩ ?_
  refine s_iadd A dX2_totalWith_38 ?_
  exact s_iret A dX2_totalWith_39 hr hlk (Nat.le_of_ble_eq_true rfl) (Nat.le_of_ble_eq_true rfl) ⟨_, rfl, h⟩
theorem eX2_totalWith {G : zG} {F : Int → zM → Prop} {μ : zM} {x1 : Int} (h : ∀ J, zJ G true (8) 0 0 mX2_totalWith (zKI F) J → J 0 ([some (zR (some 128)), some (zI x1)], [], μ, 0, 0)) : qX2_totalWith G x1 μ F :=
  z_body (by decide +kernel) (Nat.le_of_ble_eq_true rfl) h
set_option maxRecDepth 20000 in
theorem rX2_limitTo_e {G : zG} {F : zM → Prop} {J : Nat → zS → Prop} {μ : zM} (C : zJ G true (9) 0 0 mX2_limitTo (zKV F) J) (x1 : Int)
    (h : J 3 ([some (zR (some 128)), some (zI x1), some (zI 8), none], [], μ, 0, 0)) : J 0 ([some (zR (some 128)), some (zI x1), none, none], [], μ, 0, 0) := by
  obtain ⟨p, e, s, m, args, below, meth, c, A, hml, hr, hlk, hnm, rfl⟩ := C
  refine s_bipush A dX2_limitTo_0 rfl ?_
  refine s_istore_n (L' := [some (zR (some 128)), some (zI x1), some (zI 8), none]) A dX2_limitTo_2 (Nat.le_of_ble_eq_true rfl) rfl ?_
  exact h
set_option maxRecDepth 20000 in
theorem rX2_limitTo_3 {G : zG} {F : zM → Prop} {J : Nat → zS → Prop} {μ : zM} (C : zJ G true (9) 0 0 mX2_limitTo (zKV F) J) (x1 : Int) (x2 : Int)
    (h : zin x2 ∧ ((x2 ≤ 0 → J 24 ([some (zR (some 128)), none, some (zI x2), some (zI 0)], [], μ, 0, 0)) ∧ (¬ (x2 ≤ 0) → qX2_totalWith G x2 μ (fun v3 μ3 => zin v3 ∧ zin x1 ∧ ((v3 ≤ x1 → J 24 ([some (zR (some 128)), none, some (zI x2), some (zI 0)], [], μ3, 0, 0)) ∧ (¬ (v3 ≤ x1) → J 3 ([some (zR (some 128)), some (zI x1), some (zI (x2 + (-1))), none], [], μ3, 0, 0))))))) : J 3 ([some (zR (some 128)), some (zI x1), some (zI x2), none], [], μ, 0, 0) := by
  obtain ⟨p, e, s, m, args, below, meth, c, A, hml, hr, hlk, hnm, rfl⟩ := C
  refine s_iload_n A dX2_limitTo_3 rfl ?_
  obtain ⟨oz1, h⟩ := h
  refine z_if_le (tgt := 22) A dX2_limitTo_4 (by decide) oz1 (fun c2 => ?_) (fun c2 => ?_)
  · have h := h.1 c2
    refine s_iconst A dX2_limitTo_22 ?_
    refine s_istore_n (L' := [some (zR (some 128)), some (zI x1), some (zI x2), some (zI 0)]) A dX2_limitTo_23 (Nat.le_of_ble_eq_true rfl) rfl ?_
    exact z_wk (L' := [some (zR (some 128)), none, some (zI x2), some (zI 0)]) ⟨rfl, rfl, rfl, trivial⟩ h
  · have h := h.2 c2
    refine s_aload_n A dX2_limitTo_7 rfl ?_
    refine s_iload_n A dX2_limitTo_8 rfl ?_
    refine s_callV (a := 128) (k := 2) (N := 1) (sl := true) (M := mX2_totalWith) (n := 1) (d := 8) (mc := 0) (ms := 0) (av := [zI x2]) (st := []) A dX2_limitTo_9 rfl (by decide) (zk_128 _) zwd883 zwd885 zwd9 zwd98 zcd_X2_totalWith (Nat.le_of_ble_eq_true rfl) (Nat.le_of_ble_eq_true rfl) (Nat.le_refl _) ⟨Nat.le_of_ble_eq_true rfl, Nat.le_of_ble_eq_true rfl⟩ ⟨rfl, zhn_X2_totalWith⟩ rfl (Nat.le_of_ble_eq_true rfl) rfl (z_contI (fun v3 μ3 h => ?_) h)
    refine s_iload_n A dX2_limitTo_12 rfl ?_
    obtain ⟨oz4, h⟩ := h
    obtain ⟨oz5, h⟩ := h
    refine z_icmp_le (tgt := 22) A dX2_limitTo_13 (by decide) oz4 oz5 (fun c6 => ?_) (fun c6 => ?_)
    · have h := h.1 c6
      refine s_iconst A dX2_limitTo_22 ?_
      refine s_istore_n (L' := [some (zR (some 128)), some (zI x1), some (zI x2), some (zI 0)]) A dX2_limitTo_23 (Nat.le_of_ble_eq_true rfl) rfl ?_
      exact z_wk (L' := [some (zR (some 128)), none, some (zI x2), some (zI 0)]) ⟨rfl, rfl, rfl, trivial⟩ h
    · have h := h.2 c6
      refine s_iinc (L' := [some (zR (some 128)), some (zI x1), some (zI (x2 + (-1))), none]) A dX2_limitTo_16 rfl rfl ?_
      refine s_goto (tgt := 3) A dX2_limitTo_19 (by decide) ?_
      exact h
set_option maxRecDepth 20000 in
theorem rX2_limitTo_24 {G : zG} {F : zM → Prop} {J : Nat → zS → Prop} {μ : zM} (C : zJ G true (9) 0 0 mX2_limitTo (zKV F) J) (x2 : Int) (x3 : Int)
    (h : zin x3 ∧ ((3 ≤ x3 → F μ) ∧ (¬ (3 ≤ x3) → (0 ≤ x3 ∧ x3 < 4) ∧ zin (zi μ 129 x3) ∧ zin x2 ∧ J 24 ([some (zR (some 128)), none, some (zI x2), some (zI (x3 + 1))], [], zup μ 129 x3 (min (zi μ 129 x3) x2), 0, 0)))) : J 24 ([some (zR (some 128)), none, some (zI x2), some (zI x3)], [], μ, 0, 0) := by
  obtain ⟨p, e, s, m, args, below, meth, c, A, hml, hr, hlk, hnm, rfl⟩ := C
  refine s_iload_n A dX2_limitTo_24 rfl ?_
  refine s_iconst A dX2_limitTo_25 ?_
  obtain ⟨oz1, h⟩ := h
  refine z_icmp_ge (tgt := 51) A dX2_limitTo_26 (by decide) oz1 ⟨by decide, by decide⟩ (fun c2 => ?_) (fun c2 => ?_)
  · have h := h.1 c2
    exact s_vret A dX2_limitTo_51 hr hlk (Nat.le_of_ble_eq_true rfl) (Nat.le_of_ble_eq_true rfl) ⟨rfl, h⟩
  · have h := h.2 c2
    refine s_aload_n A dX2_limitTo_29 rfl ?_
    refine s_getf (k := 2) (j := 0) (sl := true) (v := zR (some 129)) A dX2_limitTo_30 rfl zuw_X2 (Nat.le_of_ble_eq_true rfl) zwd317 (by decide) (zk_128 _) rfl ?_
    refine s_iload_n A dX2_limitTo_33 rfl ?_
    refine s_aload_n A dX2_limitTo_34 rfl ?_
    refine s_getf (k := 2) (j := 0) (sl := true) (v := zR (some 129)) A dX2_limitTo_35 rfl zuw_X2 (Nat.le_of_ble_eq_true rfl) zwd317 (by decide) (zk_128 _) rfl ?_
    refine s_iload_n A dX2_limitTo_38 rfl ?_
    obtain ⟨ox3, h⟩ := h
    refine z_iald A dX2_limitTo_39 (zk_129 _) (Nat.le_of_ble_eq_true rfl) ox3 ?_
    refine s_iload_n A dX2_limitTo_40 rfl ?_
    obtain ⟨oz4, h⟩ := h
    obtain ⟨oz5, h⟩ := h
    refine z_mmin A dX2_limitTo_41 zwd887 zwd509 zwd105 zwd510 (Nat.le_of_ble_eq_true rfl) (Nat.le_of_ble_eq_true rfl) ⟨Nat.le_of_ble_eq_true rfl, Nat.le_of_ble_eq_true rfl⟩ oz4 oz5 ?_
    refine z_iast A dX2_limitTo_44 (zk_129 _) (Nat.le_of_ble_eq_true rfl) ox3 ?_
    refine s_iinc (L' := [some (zR (some 128)), none, some (zI x2), some (zI (x3 + 1))]) A dX2_limitTo_45 rfl rfl ?_
    refine s_goto (tgt := 24) A dX2_limitTo_48 (by decide) ?_
    exact h
theorem eX2_limitTo {G : zG} {F : zM → Prop} {μ : zM} {x1 : Int} (h : ∀ J, zJ G true (9) 0 0 mX2_limitTo (zKV F) J → J 0 ([some (zR (some 128)), some (zI x1), none, none], [], μ, 0, 0)) : qX2_limitTo G x1 μ F :=
  z_body (by decide +kernel) (Nat.le_of_ble_eq_true rfl) h
set_option maxRecDepth 20000 in
theorem rX2_timesOf_e {G : zG} {F : Int → zM → Prop} {J : Nat → zS → Prop} {μ : zM} (C : zJ G true (0) 0 0 mX2_timesOf (zKI F) J) (r1 : Option Nat)
    (h : ∃ b1, r1 = some b1 ∧ zok true μ b1 (8, 6) ∧ (zr μ b1 3 = none → F 0 μ) ∧ (∀ b3, zr μ b1 3 = some b3 → zok true μ b1 (8, 6) ∧ zin (zi μ b1 0) ∧ ((zi μ b1 0 = 105 → zok true μ b1 (8, 6) ∧ (0 ≤ zi μ b1 1 ∧ zi μ b1 1 < 4) ∧ zok true μ b1 (8, 6) ∧ zin (zi μ 129 (zi μ b1 1)) ∧ zin (zi μ b1 2) ∧ ((zi μ 129 (zi μ b1 1) ≤ zi μ b1 2 → F 0 μ) ∧ (¬ (zi μ 129 (zi μ b1 1) ≤ zi μ b1 2) → F 1 μ))) ∧ (zi μ b1 0 = 106 → zok true μ b1 (8, 6) ∧ (0 ≤ zi μ b1 1 ∧ zi μ b1 1 < 4) ∧ zok true μ b1 (8, 6) ∧ (0 ≤ zi μ b1 2 ∧ zi μ b1 2 < 4) ∧ zin (zi μ 129 (zi μ b1 1)) ∧ zin (zi μ 129 (zi μ b1 2)) ∧ ((zi μ 129 (zi μ b1 1) ≤ zi μ 129 (zi μ b1 2) → F 0 μ) ∧ (¬ (zi μ 129 (zi μ b1 1) ≤ zi μ 129 (zi μ b1 2)) → F 1 μ))) ∧ (zi μ b1 0 = 110 → zok true μ b1 (8, 6) ∧ F (zi μ b1 1) μ) ∧ (zi μ b1 0 = 111 → zok true μ b1 (8, 6) ∧ (0 ≤ zi μ b1 1 ∧ zi μ b1 1 < 4) ∧ F (zi μ 129 (zi μ b1 1)) μ) ∧ (zi μ b1 0 = 112 → F 1 μ) ∧ (zi μ b1 0 ≠ 105 ∧ zi μ b1 0 ≠ 106 ∧ zi μ b1 0 ≠ 110 ∧ zi μ b1 0 ≠ 111 ∧ zi μ b1 0 ≠ 112 → F 0 μ)))) : J 0 ([some (zR (some 128)), some (zR r1)], [], μ, 0, 0) := by
  obtain ⟨p, e, s, m, args, below, meth, c, A, hml, hr, hlk, hnm, rfl⟩ := C
  refine s_aload_n A dX2_timesOf_0 rfl ?_
  obtain ⟨b1, c1, h⟩ := h
  refine z_eqS (st' := [zR (some b1)]) (by rw [c1] <;> rfl) ?_
  obtain ⟨o2, h⟩ := h
  refine s_getf (k := 8) (j := 3) (sl := false) (v := zR (zr μ b1 3)) A dX2_timesOf_1 rfl zuw_X8 (Nat.le_of_ble_eq_true rfl) zwd662 (by decide) o2 rfl ?_
  refine s_ifnonnull (tgt := 9) A dX2_timesOf_4 (by decide) (fun b3 c3 => ?_) (fun c3 => ?_)
  · have h := h.2 b3 c3
    refine s_aload_n A dX2_timesOf_9 rfl ?_
    refine z_eqS (st' := [zR (some b1)]) (by rw [c1] <;> rfl) ?_
    obtain ⟨o4, h⟩ := h
    refine s_getf (k := 8) (j := 0) (sl := false) (v := zI (zi μ b1 0)) A dX2_timesOf_10 rfl zuw_X8 (Nat.le_of_ble_eq_true rfl) zwd655 (by decide) o4 rfl ?_
    obtain ⟨oz5, h⟩ := h
    refine z_tsw A dX2_timesOf_13 oz5 (by decide +kernel) ⟨126, by decide⟩ (fun tg22 ht22 => ?_)
    have hx22 : (zi μ b1 0 = 105 ∨ zi μ b1 0 = 106 ∨ zi μ b1 0 = 107 ∨ zi μ b1 0 = 108 ∨ zi μ b1 0 = 109 ∨ zi μ b1 0 = 110 ∨ zi μ b1 0 = 111 ∨ zi μ b1 0 = 112) ∨ (zi μ b1 0 < 105 ∨ 112 < zi μ b1 0) := by omega
    rcases hx22 with (hq | hq | hq | hq | hq | hq | hq | hq) | hq
    · obtain rfl := ztg_in (t := 75) ht22 105 hq (by decide) (by decide +kernel)
      have h := h.1 (by omega)
      refine s_aload_n A dX2_timesOf_75 rfl ?_
      refine s_getf (k := 2) (j := 0) (sl := true) (v := zR (some 129)) A dX2_timesOf_76 rfl zuw_X2 (Nat.le_of_ble_eq_true rfl) zwd317 (by decide) (zk_128 _) rfl ?_
      refine s_aload_n A dX2_timesOf_79 rfl ?_
      refine z_eqS (st' := [zR (some b1), zR (some 129)]) (by rw [c1] <;> rfl) ?_
      obtain ⟨o6, h⟩ := h
      refine s_getf (k := 8) (j := 1) (sl := false) (v := zI (zi μ b1 1)) A dX2_timesOf_80 rfl zuw_X8 (Nat.le_of_ble_eq_true rfl) zwd657 (by decide) o6 rfl ?_
      obtain ⟨ox7, h⟩ := h
      refine z_iald A dX2_timesOf_83 (zk_129 _) (Nat.le_of_ble_eq_true rfl) ox7 ?_
      refine s_aload_n A dX2_timesOf_84 rfl ?_
      refine z_eqS (st' := [zR (some b1), zI (zi μ 129 (zi μ b1 1))]) (by rw [c1] <;> rfl) ?_
      obtain ⟨o8, h⟩ := h
      refine s_getf (k := 8) (j := 2) (sl := false) (v := zI (zi μ b1 2)) A dX2_timesOf_85 rfl zuw_X8 (Nat.le_of_ble_eq_true rfl) zwd659 (by decide) o8 rfl ?_
      obtain ⟨oz9, h⟩ := h
      obtain ⟨oz10, h⟩ := h
      refine z_icmp_le (tgt := 95) A dX2_timesOf_88 (by decide) oz9 oz10 (fun c11 => ?_) (fun c11 => ?_)
      · have h := h.1 c11
        refine s_iconst A dX2_timesOf_95 ?_
        exact s_iret A dX2_timesOf_96 hr hlk (Nat.le_of_ble_eq_true rfl) (Nat.le_of_ble_eq_true rfl) ⟨_, rfl, h⟩
      · have h := h.2 c11
        refine s_iconst A dX2_timesOf_91 ?_
        refine s_goto (tgt := 96) A dX2_timesOf_92 (by decide) ?_
        exact s_iret A dX2_timesOf_96 hr hlk (Nat.le_of_ble_eq_true rfl) (Nat.le_of_ble_eq_true rfl) ⟨_, rfl, h⟩
    · obtain rfl := ztg_in (t := 97) ht22 106 hq (by decide) (by decide +kernel)
      have h := h.2.1 (by omega)
      refine s_aload_n A dX2_timesOf_97 rfl ?_
      refine s_getf (k := 2) (j := 0) (sl := true) (v := zR (some 129)) A dX2_timesOf_98 rfl zuw_X2 (Nat.le_of_ble_eq_true rfl) zwd317 (by decide) (zk_128 _) rfl ?_
      refine s_aload_n A dX2_timesOf_101 rfl ?_
      refine z_eqS (st' := [zR (some b1), zR (some 129)]) (by rw [c1] <;> rfl) ?_
      obtain ⟨o12, h⟩ := h
      refine s_getf (k := 8) (j := 1) (sl := false) (v := zI (zi μ b1 1)) A dX2_timesOf_102 rfl zuw_X8 (Nat.le_of_ble_eq_true rfl) zwd657 (by decide) o12 rfl ?_
      obtain ⟨ox13, h⟩ := h
      refine z_iald A dX2_timesOf_105 (zk_129 _) (Nat.le_of_ble_eq_true rfl) ox13 ?_
      refine s_aload_n A dX2_timesOf_106 rfl ?_
      refine s_getf (k := 2) (j := 0) (sl := true) (v := zR (some 129)) A dX2_timesOf_107 rfl zuw_X2 (Nat.le_of_ble_eq_true rfl) zwd317 (by decide) (zk_128 _) rfl ?_
      refine s_aload_n A dX2_timesOf_110 rfl ?_
      refine z_eqS (st' := [zR (some b1), zR (some 129), zI (zi μ 129 (zi μ b1 1))]) (by rw [c1] <;> rfl) ?_
      obtain ⟨o14, h⟩ := h
      refine s_getf (k := 8) (j := 2) (sl := false) (v := zI (zi μ b1 2)) A dX2_timesOf_111 rfl zuw_X8 (Nat.le_of_ble_eq_true rfl) zwd659 (by decide) o14 rfl ?_
      obtain ⟨ox15, h⟩ := h
      refine z_iald A dX2_timesOf_114 (zk_129 _) (Nat.le_of_ble_eq_true rfl) ox15 ?_
      obtain ⟨oz16, h⟩ := h
      obtain ⟨oz17, h⟩ := h
      refine z_icmp_le (tgt := 122) A dX2_timesOf_115 (by decide) oz16 oz17 (fun c18 => ?_) (fun c18 => ?_)
      · have h := h.1 c18
        refine s_iconst A dX2_timesOf_122 ?_
        exact s_iret A dX2_timesOf_123 hr hlk (Nat.le_of_ble_eq_true rfl) (Nat.le_of_ble_eq_true rfl) ⟨_, rfl, h⟩
      · have h := h.2 c18
        refine s_iconst A dX2_timesOf_118 ?_
        refine s_goto (tgt := 123) A dX2_timesOf_119 (by decide) ?_
        exact s_iret A dX2_timesOf_123 hr hlk (Nat.le_of_ble_eq_true rfl) (Nat.le_of_ble_eq_true rfl) ⟨_, rfl, h⟩
    · obtain rfl := ztg_in (t := 126) ht22 107 hq (by decide) (by decide +kernel)
      have h := h.2.2.2.2.2 (by omega)
      refine s_iconst A dX2_timesOf_126 ?_
      exact s_iret A dX2_timesOf_127 hr hlk (Nat.le_of_ble_eq_true rfl) (Nat.le_of_ble_eq_true rfl) ⟨_, rfl, h⟩
    · obtain rfl := ztg_in (t := 126) ht22 108 hq (by decide) (by decide +kernel)
      have h := h.2.2.2.2.2 (by omega)
      refine s_iconst A dX2_timesOf_126 ?_
      exact s_iret A dX2_timesOf_127 hr hlk (Nat.le_of_ble_eq_true rfl) (Nat.le_of_ble_eq_true rfl) ⟨_, rfl, h⟩
    · obtain rfl := ztg_in (t := 126) ht22 109 hq (by decide) (by decide +kernel)
      have h := h.2.2.2.2.2 (by omega)
      refine s_iconst A dX2_timesOf_126 ?_
      exact s_iret A dX2_timesOf_127 hr hlk (Nat.le_of_ble_eq_true rfl) (Nat.le_of_ble_eq_true rfl) ⟨_, rfl, h⟩
    · obtain rfl := ztg_in (t := 60) ht22 110 hq (by decide) (by decide +kernel)
      have h := h.2.2.1 (by omega)
      refine s_aload_n A dX2_timesOf_60 rfl ?_
      refine z_eqS (st' := [zR (some b1)]) (by rw [c1] <;> rfl) ?_
      obtain ⟨o19, h⟩ := h
      refine s_getf (k := 8) (j := 1) (sl := false) (v := zI (zi μ b1 1)) A dX2_timesOf_61 rfl zuw_X8 (Nat.le_of_ble_eq_true rfl) zwd657 (by decide) o19 rfl ?_
      exact s_iret A dX2_timesOf_64 hr hlk (Nat.le_of_ble_eq_true rfl) (Nat.le_of_ble_eq_true rfl) ⟨_, rfl, h⟩
    · obtain rfl := ztg_in (t := 65) ht22 111 hq (by decide) (by decide +kernel)
      have h := h.2.2.2.1 (by omega)
      refine s_aload_n A dX2_timesOf_65 rfl ?_
      refine s_getf (k := 2) (j := 0) (sl := true) (v := zR (some 129)) A dX2_timesOf_66 rfl zuw_X2 (Nat.le_of_ble_eq_true rfl) zwd317 (by decide) (zk_128 _) rfl ?_
      refine s_aload_n A dX2_timesOf_69 rfl ?_
      refine z_eqS (st' := [zR (some b1), zR (some 129)]) (by rw [c1] <;> rfl) ?_
      obtain ⟨o20, h⟩ := h
      refine s_getf (k := 8) (j := 1) (sl := false) (v := zI (zi μ b1 1)) A dX2_timesOf_70 rfl zuw_X8 (Nat.le_of_ble_eq_true rfl) zwd657 (by decide) o20 rfl ?_
      obtain ⟨ox21, h⟩ := h
      refine z_iald A dX2_timesOf_73 (zk_129 _) (Nat.le_of_ble_eq_true rfl) ox21 ?_
      exact s_iret A dX2_timesOf_74 hr hlk (Nat.le_of_ble_eq_true rfl) (Nat.le_of_ble_eq_true rfl) ⟨_, rfl, h⟩
    · obtain rfl := ztg_in (t := 124) ht22 112 hq (by decide) (by decide +kernel)
      have h := h.2.2.2.2.1 (by omega)
      refine s_iconst A dX2_timesOf_124 ?_
      exact s_iret A dX2_timesOf_125 hr hlk (Nat.le_of_ble_eq_true rfl) (Nat.le_of_ble_eq_true rfl) ⟨_, rfl, h⟩
    · obtain rfl := ztg_out (t := 126) ht22 hq (by decide)
      have h := h.2.2.2.2.2 (by omega)
      refine s_iconst A dX2_timesOf_126 ?_
      exact s_iret A dX2_timesOf_127 hr hlk (Nat.le_of_ble_eq_true rfl) (Nat.le_of_ble_eq_true rfl) ⟨_, rfl, h⟩
  · have h := h.1 c3
    refine s_iconst A dX2_timesOf_7 ?_
    exact s_iret A dX2_timesOf_8 hr hlk (Nat.le_of_ble_eq_true rfl) (Nat.le_of_ble_eq_true rfl) ⟨_, rfl, h⟩
theorem eX2_timesOf {G : zG} {F : Int → zM → Prop} {μ : zM} {r1 : Option Nat} (h : ∀ J, zJ G true (0) 0 0 mX2_timesOf (zKI F) J → J 0 ([some (zR (some 128)), some (zR r1)], [], μ, 0, 0)) : qX2_timesOf G r1 μ F :=
  z_body (by decide +kernel) (Nat.le_of_ble_eq_true rfl) h
set_option maxRecDepth 20000 in
theorem rX2_bend_e {G : zG} {F : zM → Prop} {J : Nat → zS → Prop} {μ : zM} (C : zJ G true (0) 0 0 mX2_bend (zKV F) J) {a1 n1 : Nat} (ha1 : zIsAr a1 n1) (hn1 : n1 < 2147483648)
    (h : J 2 ([some (zR (some 128)), some (zR (some a1)), some (zI 0)], [], μ, 0, 0)) : J 0 ([some (zR (some 128)), some (zR (some a1)), none], [], μ, 0, 0) := by
  obtain ⟨p, e, s, m, args, below, meth, c, A, hml, hr, hlk, hnm, rfl⟩ := C
  refine s_iconst A dX2_bend_0 ?_
  refine s_istore_n (L' := [some (zR (some 128)), some (zR (some a1)), some (zI 0)]) A dX2_bend_1 (Nat.le_of_ble_eq_true rfl) rfl ?_
  exact h
set_option maxRecDepth 20000 in
theorem rX2_bend_2 {G : zG} {F : zM → Prop} {J : Nat → zS → Prop} {μ : zM} (C : zJ G true (0) 0 0 mX2_bend (zKV F) J) {a1 n1 : Nat} (ha1 : zIsAr a1 n1) (hn1 : n1 < 2147483648) (x2 : Int)
    (h : zin x2 ∧ ((4 ≤ x2 → F μ) ∧ (¬ (4 ≤ x2) → (0 ≤ x2 ∧ x2 < 4) ∧ (0 ≤ (x2 * 9) + (zi μ 129 x2) ∧ (x2 * 9) + (zi μ 129 x2) < (n1 : Int)) ∧ J 2 ([some (zR (some 128)), some (zR (some a1)), some (zI (x2 + 1))], [], zup μ 129 x2 (zi μ a1 ((x2 * 9) + (zi μ 129 x2))), 0, 0)))) : J 2 ([some (zR (some 128)), some (zR (some a1)), some (zI x2)], [], μ, 0, 0) := by
  obtain ⟨p, e, s, m, args, below, meth, c, A, hml, hr, hlk, hnm, rfl⟩ := C
  refine s_iload_n A dX2_bend_2 rfl ?_
  refine s_iconst A dX2_bend_3 ?_
  obtain ⟨oz1, h⟩ := h
  refine z_icmp_ge (tgt := 32) A dX2_bend_4 (by decide) oz1 ⟨by decide, by decide⟩ (fun c2 => ?_) (fun c2 => ?_)
  · have h := h.1 c2
    exact s_vret A dX2_bend_32 hr hlk (Nat.le_of_ble_eq_true rfl) (Nat.le_of_ble_eq_true rfl) ⟨rfl, h⟩
  · have h := h.2 c2
    refine s_aload_n A dX2_bend_7 rfl ?_
    refine s_getf (k := 2) (j := 0) (sl := true) (v := zR (some 129)) A dX2_bend_8 rfl zuw_X2 (Nat.le_of_ble_eq_true rfl) zwd317 (by decide) (zk_128 _) rfl ?_
    refine s_iload_n A dX2_bend_11 rfl ?_
    refine s_aload_n A dX2_bend_12 rfl ?_
    refine s_iload_n A dX2_bend_13 rfl ?_
    refine s_bipush A dX2_bend_14 rfl ?_
    refine s_imul A dX2_bend_16 ?_
    refine s_aload_n A dX2_bend_17 rfl ?_
    refine s_getf (k := 2) (j := 0) (sl := true) (v := zR (some 129)) A dX2_bend_18 rfl zuw_X2 (Nat.le_of_ble_eq_true rfl) zwd317 (by decide) (zk_128 _) rfl ?_
    refine s_iload_n A dX2_bend_21 rfl ?_
    obtain ⟨ox3, h⟩ := h
    refine z_iald A dX2_bend_22 (zk_129 _) (Nat.le_of_ble_eq_true rfl) ox3 ?_
    refine s_iadd A dX2_bend_23 ?_
    obtain ⟨ox4, h⟩ := h
    refine z_iald A dX2_bend_24 (ha1.k _) hn1 ox4 ?_
    refine z_iast A dX2_bend_25 (zk_129 _) (Nat.le_of_ble_eq_true rfl) ox3 ?_
    refine s_iinc (L' := [some (zR (some 128)), some (zR (some a1)), some (zI (x2 + 1))]) A dX2_bend_26 rfl rfl ?_
    refine s_goto (tgt := 2) A dX2_bend_29 (by decide) ?_
    exact h
theorem eX2_bend {G : zG} {F : zM → Prop} {μ : zM} {a1 : Nat} (h : ∀ J, zJ G true (0) 0 0 mX2_bend (zKV F) J → J 0 ([some (zR (some 128)), some (zR (some a1)), none], [], μ, 0, 0)) : qX2_bend G a1 μ F :=
  z_body (by decide +kernel) (Nat.le_of_ble_eq_true rfl) h
set_option maxRecDepth 20000 in
theorem rX2_move_e {G : zG} {F : zM → Prop} {J : Nat → zS → Prop} {μ : zM} (C : zJ G true (0) 0 0 mX2_move (zKV F) J) (x1 : Int)
    (h : J 2 ([some (zR (some 128)), some (zI x1), some (zI 0)], [], μ, 0, 0)) : J 0 ([some (zR (some 128)), some (zI x1), none], [], μ, 0, 0) := by
  obtain ⟨p, e, s, m, args, below, meth, c, A, hml, hr, hlk, hnm, rfl⟩ := C
  refine s_iconst A dX2_move_0 ?_
  refine s_istore_n (L' := [some (zR (some 128)), some (zI x1), some (zI 0)]) A dX2_move_1 (Nat.le_of_ble_eq_true rfl) rfl ?_
  exact h
set_option maxRecDepth 20000 in
theorem rX2_move_2 {G : zG} {F : zM → Prop} {J : Nat → zS → Prop} {μ : zM} (C : zJ G true (0) 0 0 mX2_move (zKV F) J) (x1 : Int) (x2 : Int)
    (h : zin x2 ∧ ((3 ≤ x2 → F (zup μ 129 3 ((zi μ 129 3) + x1))) ∧ (¬ (3 ≤ x2) → (0 ≤ x2 ∧ x2 < 4) ∧ J 2 ([some (zR (some 128)), some (zI x1), some (zI (x2 + 1))], [], zup μ 129 x2 ((zi μ 129 x2) - x1), 0, 0)))) : J 2 ([some (zR (some 128)), some (zI x1), some (zI x2)], [], μ, 0, 0) := by
  obtain ⟨p, e, s, m, args, below, meth, c, A, hml, hr, hlk, hnm, rfl⟩ := C
  refine s_iload_n A dX2_move_2 rfl ?_
  refine s_iconst A dX2_move_3 ?_
  obtain ⟨oz1, h⟩ := h
  refine z_icmp_ge (tgt := 23) A dX2_move_4 (by decide) oz1 ⟨by decide, by decide⟩ (fun c2 => ?_) (fun c2 => ?_)
  · have h := h.1 c2
    refine s_aload_n A dX2_move_23 rfl ?_
    refine s_getf (k := 2) (j := 0) (sl := true) (v := zR (some 129)) A dX2_move_24 rfl zuw_X2 (Nat.le_of_ble_eq_true rfl) zwd317 (by decide) (zk_128 _) rfl ?_
    refine s_iconst A dX2_move_27 ?_
    refine s_dup2 A dX2_move_28 rfl rfl ?_
    refine z_iald A dX2_move_29 (zk_129 _) (Nat.le_of_ble_eq_true rfl) ⟨by decide, by decide⟩ ?_
    refine s_iload_n A dX2_move_30 rfl ?_
    refine s_iadd A dX2_move_31 ?_
    refine z_iast A dX2_move_32 (zk_129 _) (Nat.le_of_ble_eq_true rfl) ⟨by decide, by decide⟩ ?_
    exact s_vret A dX2_move_33 hr hlk (Nat.le_of_ble_eq_true rfl) (Nat.le_of_ble_eq_true rfl) ⟨rfl, h⟩
  · have h := h.2 c2
    refine s_aload_n A dX2_move_7 rfl ?_
    refine s_getf (k := 2) (j := 0) (sl := true) (v := zR (some 129)) A dX2_move_8 rfl zuw_X2 (Nat.le_of_ble_eq_true rfl) zwd317 (by decide) (zk_128 _) rfl ?_
    refine s_iload_n A dX2_move_11 rfl ?_
    refine s_dup2 A dX2_move_12 rfl rfl ?_
    obtain ⟨ox3, h⟩ := h
    refine z_iald A dX2_move_13 (zk_129 _) (Nat.le_of_ble_eq_true rfl) ox3 ?_
    refine s_iload_n A dX2_move_14 rfl ?_
    refine s_isub A dX2_move_15 ?_
    refine z_iast A dX2_move_16 (zk_129 _) (Nat.le_of_ble_eq_true rfl) ox3 ?_
    refine s_iinc (L' := [some (zR (some 128)), some (zI x1), some (zI (x2 + 1))]) A dX2_move_17 rfl rfl ?_
    refine s_goto (tgt := 2) A dX2_move_20 (by decide) ?_
    exact h
theorem eX2_move {G : zG} {F : zM → Prop} {μ : zM} {x1 : Int} (h : ∀ J, zJ G true (0) 0 0 mX2_move (zKV F) J → J 0 ([some (zR (some 128)), some (zI x1), none], [], μ, 0, 0)) : qX2_move G x1 μ F :=
  z_body (by decide +kernel) (Nat.le_of_ble_eq_true rfl) h
set_option maxRecDepth 20000 in
theorem rX2_greyToBlack_e {G : zG} {F : zM → Prop} {J : Nat → zS → Prop} {μ : zM} (C : zJ G true (8) 0 0 mX2_greyToBlack (zKV F) J) (x1 : Int)
    (h : zin (zi μ 129 1) ∧ zin (zi μ 129 2) ∧ zin (zi μ 129 0) ∧ zin (min (zi μ 129 1) (zi μ 129 2)) ∧ (0 ≤ (min (zi μ 129 0) (min (zi μ 129 1) (zi μ 129 2))) * x1 ∧ (min (zi μ 129 0) (min (zi μ 129 1) (zi μ 129 2))) * x1 < 2147483648) ∧ zin (((min (zi μ 129 0) (min (zi μ 129 1) (zi μ 129 2))) * x1) / 4) ∧ zin (8 - (zi μ 129 3)) ∧ qX2_move G (min (((min (zi μ 129 0) (min (zi μ 129 1) (zi μ 129 2))) * x1) / 4) (8 - (zi μ 129 3))) μ (fun μ7 => F μ7)) : J 0 ([some (zR (some 128)), some (zI x1), none], [], μ, 0, 0) := by
  obtain ⟨p, e, s, m, args, below, meth, c, A, hml, hr, hlk, hnm, rfl⟩ := C
  refine s_aload_n A dX2_greyToBlack_0 rfl ?_
  refine s_getf (k := 2) (j := 0) (sl := true) (v := zR (some 129)) A dX2_greyToBlack_1 rfl zuw_X2 (Nat.le_of_ble_eq_true rfl) zwd317 (by decide) (zk_128 _) rfl ?_
  refine s_iconst A dX2_greyToBlack_4 ?_
  refine z_iald A dX2_greyToBlack_5 (zk_129 _) (Nat.le_of_ble_eq_true rfl) ⟨by decide, by decide⟩ ?_
  refine s_aload_n A dX2_greyToBlack_6 rfl ?_
  refine s_getf (k := 2) (j := 0) (sl := true) (v := zR (some 129)) A dX2_greyToBlack_7 rfl zuw_X2 (Nat.le_of_ble_eq_true rfl) zwd317 (by decide) (zk_128 _) rfl ?_
  refine s_iconst A dX2_greyToBlack_10 ?_
  refine z_iald A dX2_greyToBlack_11 (zk_129 _) (Nat.le_of_ble_eq_true rfl) ⟨by decide, by decide⟩ ?_
  refine s_aload_n A dX2_greyToBlack_12 rfl ?_
  refine s_getf (k := 2) (j := 0) (sl := true) (v := zR (some 129)) A dX2_greyToBlack_13 rfl zuw_X2 (Nat.le_of_ble_eq_true rfl) zwd317 (by decide) (zk_128 _) rfl ?_
  refine s_iconst A dX2_greyToBlack_16 ?_
  refine z_iald A dX2_greyToBlack_17 (zk_129 _) (Nat.le_of_ble_eq_true rfl) ⟨by decide, by decide⟩ ?_
  obtain ⟨oz1, h⟩ := h
  obtain ⟨oz2, h⟩ := h
  refine z_mmin A dX2_greyToBlack_18 zwd887 zwd509 zwd105 zwd510 (Nat.le_of_ble_eq_true rfl) (Nat.le_of_ble_eq_true rfl) ⟨Nat.le_of_ble_eq_true rfl, Nat.le_of_ble_eq_true rfl⟩ oz1 oz2 ?_
  obtain ⟨oz3, h⟩ := h
  obtain ⟨oz4, h⟩ := h
  refine z_mmin A dX2_greyToBlack_21 zwd887 zwd509 zwd105 zwd510 (Nat.le_of_ble_eq_true rfl) (Nat.le_of_ble_eq_true rfl) ⟨Nat.le_of_ble_eq_true rfl, Nat.le_of_ble_eq_true rfl⟩ oz3 oz4 ?_
  refine s_istore_n (L' := [some (zR (some 128)), some (zI x1), some (zI (min (zi μ 129 0) (min (zi μ 129 1) (zi μ 129 2))))]) A dX2_greyToBlack_24 (Nat.le_of_ble_eq_true rfl) rfl ?_
  refine s_aload_n A dX2_greyToBlack_25 rfl ?_
  refine s_iload_n A dX2_greyToBlack_26 rfl ?_
  refine s_iload_n A dX2_greyToBlack_27 rfl ?_
  refine s_imul A dX2_greyToBlack_28 ?_
  refine s_iconst A dX2_greyToBlack_29 ?_
  obtain ⟨o1, h⟩ := h
  refine z_idiv A dX2_greyToBlack_30 o1 ⟨by decide, by decide⟩ ?_
  refine s_bipush A dX2_greyToBlack_31 rfl ?_
  refine s_aload_n A dX2_greyToBlack_33 rfl ?_
  refine s_getf (k := 2) (j := 0) (sl := true) (v := zR (some 129)) A dX2_greyToBlack_34 rfl zuw_X2 (Nat.le_of_ble_eq_true rfl) zwd317 (by decide) (zk_128 _) rfl ?_
  refine s_iconst A dX2_greyToBlack_37 ?_
  refine z_iald A dX2_greyToBlack_38 (zk_129 _) (Nat.le_of_ble_eq_true rfl) ⟨by decide, by decide⟩ ?_
  refine s_isub A dX2_greyToBlack_39 ?_
  obtain ⟨oz5, h⟩ := h
  obtain ⟨oz6, h⟩ := h
  refine z_mmin A dX2_greyToBlack_40 zwd887 zwd509 zwd105 zwd510 (Nat.le_of_ble_eq_true rfl) (Nat.le_of_ble_eq_true rfl) ⟨Nat.le_of_ble_eq_true rfl, Nat.le_of_ble_eq_true rfl⟩ oz5 oz6 ?_
  refine s_callV (a := 128) (k := 2) (N := 1) (sl := true) (M := mX2_move) (n := 1) (d := 0) (mc := 0) (ms := 0) (av := [zI (min (((min (zi μ 129 0) (min (zi μ 129 1) (zi μ 129 2))) * x1) / 4) (8 - (zi μ 129 3)))]) (st := []) A dX2_greyToBlack_43 rfl (by decide) (zk_128 _) zwd979 zwd981 zwd19 zwd98 zcd_X2_move (Nat.le_of_ble_eq_true rfl) (Nat.le_of_ble_eq_true rfl) (Nat.le_refl _) ⟨Nat.le_of_ble_eq_true rfl, Nat.le_of_ble_eq_true rfl⟩ ⟨rfl, zhn_X2_move⟩ rfl (Nat.le_of_ble_eq_true rfl) rfl (z_contV (fun μ7 h => ?_) h)
  exact s_vret A dX2_greyToBlack_46 hr hlk (Nat.le_of_ble_eq_true rfl) (Nat.le_of_ble_eq_true rfl) ⟨rfl, h⟩
theorem eX2_greyToBlack {G : zG} {F : zM → Prop} {μ : zM} {x1 : Int} (h : ∀ J, zJ G true (8) 0 0 mX2_greyToBlack (zKV F) J → J 0 ([some (zR (some 128)), some (zI x1), none], [], μ, 0, 0)) : qX2_greyToBlack G x1 μ F :=
  z_body (by decide +kernel) (Nat.le_of_ble_eq_true rfl) h
set_option maxRecDepth 20000 in
theorem rX2_blackToGrey_e {G : zG} {F : zM → Prop} {J : Nat → zS → Prop} {μ : zM} (C : zJ G true (8) 0 0 mX2_blackToGrey (zKV F) J) (x1 : Int)
    (h : zin (zi μ 129 1) ∧ zin (zi μ 129 2) ∧ zin (zi μ 129 0) ∧ zin (max (zi μ 129 1) (zi μ 129 2)) ∧ zin (zi μ 129 3) ∧ zin (8 - (max (zi μ 129 0) (max (zi μ 129 1) (zi μ 129 2)))) ∧ zin x1 ∧ zin (min (zi μ 129 3) (8 - (max (zi μ 129 0) (max (zi μ 129 1) (zi μ 129 2))))) ∧ qX2_move G (-(min x1 (min (zi μ 129 3) (8 - (max (zi μ 129 0) (max (zi μ 129 1) (zi μ 129 2))))))) μ (fun μ9 => F μ9)) : J 0 ([some (zR (some 128)), some (zI x1), none], [], μ, 0, 0) := by
  obtain ⟨p, e, s, m, args, below, meth, c, A, hml, hr, hlk, hnm, rfl⟩ := C
  refine s_aload_n A dX2_blackToGrey_0 rfl ?_
  refine s_getf (k := 2) (j := 0) (sl := true) (v := zR (some 129)) A dX2_blackToGrey_1 rfl zuw_X2 (Nat.le_of_ble_eq_true rfl) zwd317 (by decide) (zk_128 _) rfl ?_
  refine s_iconst A dX2_blackToGrey_4 ?_
  refine z_iald A dX2_blackToGrey_5 (zk_129 _) (Nat.le_of_ble_eq_true rfl) ⟨by decide, by decide⟩ ?_
  refine s_aload_n A dX2_blackToGrey_6 rfl ?_
  refine s_getf (k := 2) (j := 0) (sl := true) (v := zR (some 129)) A dX2_blackToGrey_7 rfl zuw_X2 (Nat.le_of_ble_eq_true rfl) zwd317 (by decide) (zk_128 _) rfl ?_
  refine s_iconst A dX2_blackToGrey_10 ?_
  refine z_iald A dX2_blackToGrey_11 (zk_129 _) (Nat.le_of_ble_eq_true rfl) ⟨by decide, by decide⟩ ?_
  refine s_aload_n A dX2_blackToGrey_12 rfl ?_
  refine s_getf (k := 2) (j := 0) (sl := true) (v := zR (some 129)) A dX2_blackToGrey_13 rfl zuw_X2 (Nat.le_of_ble_eq_true rfl) zwd317 (by decide) (zk_128 _) rfl ?_
  refine s_iconst A dX2_blackToGrey_16 ?_
  refine z_iald A dX2_blackToGrey_17 (zk_129 _) (Nat.le_of_ble_eq_true rfl) ⟨by decide, by decide⟩ ?_
  obtain ⟨oz1, h⟩ := h
  obtain ⟨oz2, h⟩ := h
  refine z_mmax A dX2_blackToGrey_18 zwd987 zwd506 zwd105 zwd507 (Nat.le_of_ble_eq_true rfl) (Nat.le_of_ble_eq_true rfl) ⟨Nat.le_of_ble_eq_true rfl, Nat.le_of_ble_eq_true rfl⟩ oz1 oz2 ?_
  obtain ⟨oz3, h⟩ := h
  obtain ⟨oz4, h⟩ := h
  refine z_mmax A dX2_blackToGrey_21 zwd987 zwd506 zwd105 zwd507 (Nat.le_of_ble_eq_true rfl) (Nat.le_of_ble_eq_true rfl) ⟨Nat.le_of_ble_eq_true rfl, Nat.le_of_ble_eq_true rfl⟩ oz3 oz4 ?_
  refine s_istore_n (L' := [some (zR (some 128)), some (zI x1), some (zI (max (zi μ 129 0) (max (zi μ 129 1) (zi μ 129 2))))]) A dX2_blackToGrey_24 (Nat.le_of_ble_eq_true rfl) rfl ?_
  refine s_aload_n A dX2_blackToGrey_25 rfl ?_
  refine s_iload_n A dX2_blackToGrey_26 rfl ?_
  refine s_aload_n A dX2_blackToGrey_27 rfl ?_
  refine s_getf (k := 2) (j := 0) (sl := true) (v := zR (some 129)) A dX2_blackToGrey_28 rfl zuw_X2 (Nat.le_of_ble_eq_true rfl) zwd317 (by decide) (zk_128 _) rfl ?_
  refine s_iconst A dX2_blackToGrey_31 ?_
  refine z_iald A dX2_blackToGrey_32 (zk_129 _) (Nat.le_of_ble_eq_true rfl) ⟨by decide, by decide⟩ ?_
  refine s_bipush A dX2_blackToGrey_33 rfl ?_
  refine s_iload_n A dX2_blackToGrey_35 rfl ?_
  refine s_isub A dX2_blackToGrey_36 ?_
  obtain ⟨oz5, h⟩ := h
  obtain ⟨oz6, h⟩ := h
  refine z_mmin A dX2_blackToGrey_37 zwd887 zwd509 zwd105 zwd510 (Nat.le_of_ble_eq_true rfl) (Nat.le_of_ble_eq_true rfl) ⟨Nat.le_of_ble_eq_true rfl, Nat.le_of_ble_eq_true rfl⟩ oz5 oz6 ?_
  obtain ⟨oz7, h⟩ := h
  obtain ⟨oz8, h⟩ := h
  refine z_mmin A dX2_blackToGrey_40 zwd887 zwd509 zwd105 zwd510 (Nat.le_of_ble_eq_true rfl) (Nat.le_of_ble_eq_true rfl) ⟨Nat.le_of_ble_eq_true rfl, Nat.le_of_ble_eq_true rfl⟩ oz7 oz8 ?_
  refine s_ineg A dX2_blackToGrey_43 ?_
  refine s_callV (a := 128) (k := 2) (N := 1) (sl := true) (M := mX2_move) (n := 1) (d := 0) (mc := 0) (ms := 0) (av := [zI (-(min x1 (min (zi μ 129 3) (8 - (max (zi μ 129 0) (max (zi μ 129 1) (zi μ 129 2)))))))]) (st := []) A dX2_blackToGrey_44 rfl (by decide) (zk_128 _) zwd979 zwd981 zwd19 zwd98 zcd_X2_move (Nat.le_of_ble_eq_true rfl) (Nat.le_of_ble_eq_true rfl) (Nat.le_refl _) ⟨Nat.le_of_ble_eq_true rfl, Nat.le_of_ble_eq_true rfl⟩ ⟨rfl, zhn_X2_move⟩ rfl (Nat.le_of_ble_eq_true rfl) rfl (z_contV (fun μ9 h => ?_) h)
  exact s_vret A dX2_blackToGrey_47 hr hlk (Nat.le_of_ble_eq_true rfl) (Nat.le_of_ble_eq_true rfl) ⟨rfl, h⟩
theorem eX2_blackToGrey {G : zG} {F : zM → Prop} {μ : zM} {x1 : Int} (h : ∀ J, zJ G true (8) 0 0 mX2_blackToGrey (zKV F) J → J 0 ([some (zR (some 128)), some (zI x1), none], [], μ, 0, 0)) : qX2_blackToGrey G x1 μ F :=
  z_body (by decide +kernel) (Nat.le_of_ble_eq_true rfl) h
set_option maxRecDepth 20000 in
theorem rX2_exchange_e {G : zG} {F : zM → Prop} {J : Nat → zS → Prop} {μ : zM} (C : zJ G true (0) 0 0 mX2_exchange (zKV F) J) (x1 : Int) (x2 : Int)
    (h : (0 ≤ x1 ∧ x1 < 4) ∧ (0 ≤ x2 ∧ x2 < 4) ∧ F (zup (zup μ 129 x1 (zi μ 129 x2)) 129 x2 (zi μ 129 x1))) : J 0 ([some (zR (some 128)), some (zI x1), some (zI x2), none], [], μ, 0, 0) := by
  obtain ⟨p, e, s, m, args, below, meth, c, A, hml, hr, hlk, hnm, rfl⟩ := C
  refine s_aload_n A dX2_exchange_0 rfl ?_
  refine s_getf (k := 2) (j := 0) (sl := true) (v := zR (some 129)) A dX2_exchange_1 rfl zuw_X2 (Nat.le_of_ble_eq_true rfl) zwd317 (by decide) (zk_128 _) rfl ?_
  refine s_iload_n A dX2_exchange_4 rfl ?_
  obtain ⟨ox1, h⟩ := h
  refine z_iald A dX2_exchange_5 (zk_129 _) (Nat.le_of_ble_eq_true rfl) ox1 ?_
  refine s_istore_n (L' := [some (zR (some 128)), some (zI x1), some (zI x2), some (zI (zi μ 129 x1))]) A dX2_exchange_6 (Nat.le_of_ble_eq_true rfl) rfl ?_
  refine s_aload_n A dX2_exchange_7 rfl ?_
  refine s_getf (k := 2) (j := 0) (sl := true) (v := zR (some 129)) A dX2_exchange_8 rfl zuw_X2 (Nat.le_of_ble_eq_true rfl) zwd317 (by decide) (zk_128 _) rfl ?_
  refine s_iload_n A dX2_exchange_11 rfl ?_
  refine s_aload_n A dX2_exchange_12 rfl ?_
  refine s_getf (k := 2) (j := 0) (sl := true) (v := zR (some 129)) A dX2_exchange_13 rfl zuw_X2 (Nat.le_of_ble_eq_true rfl) zwd317 (by decide) (zk_128 _) rfl ?_
  refine s_iload_n A dX2_exchange_16 rfl ?_
  obtain ⟨ox2, h⟩ := h
  refine z_iald A dX2_exchange_17 (zk_129 _) (Nat.le_of_ble_eq_true rfl) ox2 ?_
  refine z_iast A dX2_exchange_18 (zk_129 _) (Nat.le_of_ble_eq_true rfl) ox1 ?_
  refine s_aload_n A dX2_exchange_19 rfl ?_
  refine s_getf (k := 2) (j := 0) (sl := true) (v := zR (some 129)) A dX2_exchange_20 rfl zuw_X2 (Nat.le_of_ble_eq_true rfl) zwd317 (by decide) (zk_128 _) rfl ?_
  refine s_iload_n A dX2_exchange_23 rfl ?_
  refine s_iload_n A dX2_exchange_24 rfl ?_
  refine z_iast A dX2_exchange_25 (zk_129 _) (Nat.le_of_ble_eq_true rfl) ox2 ?_
  exact s_vret A dX2_exchange_26 hr hlk (Nat.le_of_ble_eq_true rfl) (Nat.le_of_ble_eq_true rfl) ⟨rfl, h⟩
theorem eX2_exchange {G : zG} {F : zM → Prop} {μ : zM} {x1 : Int} {x2 : Int} (h : ∀ J, zJ G true (0) 0 0 mX2_exchange (zKV F) J → J 0 ([some (zR (some 128)), some (zI x1), some (zI x2), none], [], μ, 0, 0)) : qX2_exchange G x1 x2 μ F :=
  z_body (by decide +kernel) (Nat.le_of_ble_eq_true rfl) h
set_option maxRecDepth 20000 in
theorem rX2_doOne_e {G : zG} {F : zM → Prop} {J : Nat → zS → Prop} {μ : zM} (C : zJ G true (10) 0 0 mX2_doOne (zKV F) J) (r1 : Option Nat) {a2 n2 : Nat} (ha2 : zIsAr a2 n2) (hn2 : n2 < 2147483648)
    (h : ∃ b1, r1 = some b1 ∧ zok true μ b1 (8, 6) ∧ zin (zi μ b1 0) ∧ ((zi μ b1 0 = 97 → zok true μ b1 (8, 6) ∧ zok true μ b1 (8, 6) ∧ (0 ≤ zi μ b1 1 ∧ zi μ b1 1 < 4) ∧ zok true μ b1 (8, 6) ∧ zin ((zi μ 129 (zi μ b1 1)) + (zi μ b1 2)) ∧ F (zup μ 129 (zi μ b1 1) (min 8 ((zi μ 129 (zi μ b1 1)) + (zi μ b1 2))))) ∧ (zi μ b1 0 = 103 → zok true μ b1 (8, 6) ∧ qX2_greyToBlack G (zi μ b1 1) μ (fun μ10 => F μ10)) ∧ (zi μ b1 0 = 104 → zok true μ b1 (8, 6) ∧ (0 ≤ zi μ b1 1 ∧ zi μ b1 1 < 4) ∧ (0 ≤ zi μ 129 (zi μ b1 1) ∧ zi μ 129 (zi μ b1 1) < 2147483648) ∧ F (zup μ 129 (zi μ b1 1) ((zi μ 129 (zi μ b1 1)) / 2))) ∧ (zi μ b1 0 = 108 → zok true μ b1 (8, 6) ∧ qX2_limitTo G (zi μ b1 1) μ (fun μ14 => F μ14)) ∧ (zi μ b1 0 = 115 → zok true μ b1 (8, 6) ∧ zok true μ b1 (8, 6) ∧ (0 ≤ zi μ b1 1 ∧ zi μ b1 1 < 4) ∧ zok true μ b1 (8, 6) ∧ zin ((zi μ 129 (zi μ b1 1)) - (zi μ b1 2)) ∧ F (zup μ 129 (zi μ b1 1) (max 0 ((zi μ 129 (zi μ b1 1)) - (zi μ b1 2))))) ∧ (zi μ b1 0 = 117 → zok true μ b1 (8, 6) ∧ qX2_blackToGrey G (zi μ b1 1) μ (fun μ21 => F μ21)) ∧ (zi μ b1 0 = 118 → qX2_bend G a2 μ (fun μ22 => F μ22)) ∧ (zi μ b1 0 = 119 → zok true μ b1 (8, 6) ∧ zok true μ b1 (8, 6) ∧ (0 ≤ zi μ b1 1 ∧ zi μ b1 1 < 4) ∧ zok true μ b1 (8, 6) ∧ zin (zi μ 129 (zi μ b1 1)) ∧ zin (zi μ b1 2) ∧ F (zup μ 129 (zi μ b1 1) (min (zi μ 129 (zi μ b1 1)) (zi μ b1 2)))) ∧ (zi μ b1 0 = 120 → zok true μ b1 (8, 6) ∧ zok true μ b1 (8, 6) ∧ qX2_exchange G (zi μ b1 1) (zi μ b1 2) μ (fun μ31 => F μ31)) ∧ (zi μ b1 0 ≠ 97 ∧ zi μ b1 0 ≠ 103 ∧ zi μ b1 0 ≠ 104 ∧ zi μ b1 0 ≠ 108 ∧ zi μ b1 0 ≠ 115 ∧ zi μ b1 0 ≠ 117 ∧ zi μ b1 0 ≠ 118 ∧ zi μ b1 0 ≠ 119 ∧ zi μ b1 0 ≠ 120 → F μ))) : J 0 ([some (zR (some 128)), some (zR r1), some (zR (some a2))], [], μ, 0, 0) := by
  obtain ⟨p, e, s, m, args, below, meth, c, A, hml, hr, hlk, hnm, rfl⟩ := C
  refine s_aload_n A dX2_doOne_0 rfl ?_
  obtain ⟨b1, c1, h⟩ := h
  refine z_eqS (st' := [zR (some b1)]) (by rw [c1] <;> rfl) ?_
  obtain ⟨o2, h⟩ := h
  refine s_getf (k := 8) (j := 0) (sl := false) (v := zI (zi μ b1 0)) A dX2_doOne_1 rfl zuw_X8 (Nat.le_of_ble_eq_true rfl) zwd655 (by decide) o2 rfl ?_
  obtain ⟨oz3, h⟩ := h
  refine z_tsw A dX2_doOne_4 oz3 (by decide +kernel) ⟨277, by decide⟩ (fun tg32 ht32 => ?_)
  have hx32 : (zi μ b1 0 = 97 ∨ zi μ b1 0 = 98 ∨ zi μ b1 0 = 99 ∨ zi μ b1 0 = 100 ∨ zi μ b1 0 = 101 ∨ zi μ b1 0 = 102 ∨ zi μ b1 0 = 103 ∨ zi μ b1 0 = 104 ∨ zi μ b1 0 = 105 ∨ zi μ b1 0 = 106 ∨ zi μ b1 0 = 107 ∨ zi μ b1 0 = 108 ∨ zi μ b1 0 = 109 ∨ zi μ b1 0 = 110 ∨ zi μ b1 0 = 111 ∨ zi μ b1 0 = 112 ∨ zi μ b1 0 = 113 ∨ zi μ b1 0 = 114 ∨ zi μ b1 0 = 115 ∨ zi μ b1 0 = 116 ∨ zi μ b1 0 = 117 ∨ zi μ b1 0 = 118 ∨ zi μ b1 0 = 119 ∨ zi μ b1 0 = 120) ∨ (zi μ b1 0 < 97 ∨ 120 < zi μ b1 0) := by omega
  rcases hx32 with (hq | hq | hq | hq | hq | hq | hq | hq | hq | hq | hq | hq | hq | hq | hq | hq | hq | hq | hq | hq | hq | hq | hq | hq) | hq
  · obtain rfl := ztg_in (t := 157) ht32 97 hq (by decide) (by decide +kernel)
    have h := h.1 (by omega)
    refine s_aload_n A dX2_doOne_157 rfl ?_
    refine s_getf (k := 2) (j := 0) (sl := true) (v := zR (some 129)) A dX2_doOne_158 rfl zuw_X2 (Nat.le_of_ble_eq_true rfl) zwd317 (by decide) (zk_128 _) rfl ?_
    refine s_aload_n A dX2_doOne_161 rfl ?_
    refine z_eqS (st' := [zR (some b1), zR (some 129)]) (by rw [c1] <;> rfl) ?_
    obtain ⟨o4, h⟩ := h
    refine s_getf (k := 8) (j := 1) (sl := false) (v := zI (zi μ b1 1)) A dX2_doOne_162 rfl zuw_X8 (Nat.le_of_ble_eq_true rfl) zwd657 (by decide) o4 rfl ?_
    refine s_bipush A dX2_doOne_165 rfl ?_
    refine s_aload_n A dX2_doOne_167 rfl ?_
    refine s_getf (k := 2) (j := 0) (sl := true) (v := zR (some 129)) A dX2_doOne_168 rfl zuw_X2 (Nat.le_of_ble_eq_true rfl) zwd317 (by decide) (zk_128 _) rfl ?_
    refine s_aload_n A dX2_doOne_171 rfl ?_
    refine z_eqS (st' := [zR (some b1), zR (some 129), zI 8, zI (zi μ b1 1), zR (some 129)]) (by rw [c1] <;> rfl) ?_
    obtain ⟨o5, h⟩ := h
    refine s_getf (k := 8) (j := 1) (sl := false) (v := zI (zi μ b1 1)) A dX2_doOne_172 rfl zuw_X8 (Nat.le_of_ble_eq_true rfl) zwd657 (by decide) o5 rfl ?_
    obtain ⟨ox6, h⟩ := h
    refine z_iald A dX2_doOne_175 (zk_129 _) (Nat.le_of_ble_eq_true rfl) ox6 ?_
    refine s_aload_n A dX2_doOne_176 rfl ?_
    refine z_eqS (st' := [zR (some b1), zI (zi μ 129 (zi μ b1 1)), zI 8, zI (zi μ b1 1), zR (some 129)]) (by rw [c1] <;> rfl) ?_
    obtain ⟨o7, h⟩ := h
    refine s_getf (k := 8) (j := 2) (sl := false) (v := zI (zi μ b1 2)) A dX2_doOne_177 rfl zuw_X8 (Nat.le_of_ble_eq_true rfl) zwd659 (by decide) o7 rfl ?_
    refine s_iadd A dX2_doOne_180 ?_
    obtain ⟨oz8, h⟩ := h
    refine z_mmin A dX2_doOne_181 zwd887 zwd509 zwd105 zwd510 (Nat.le_of_ble_eq_true rfl) (Nat.le_of_ble_eq_true rfl) ⟨Nat.le_of_ble_eq_true rfl, Nat.le_of_ble_eq_true rfl⟩ ⟨by decide, by decide⟩ oz8 ?_
    refine z_iast A dX2_doOne_184 (zk_129 _) (Nat.le_of_ble_eq_true rfl) ox6 ?_
    refine s_goto (tgt := 277) A dX2_doOne_185 (by decide) ?_
    exact s_vret A dX2_doOne_277 hr hlk (Nat.le_of_ble_eq_true rfl) (Nat.le_of_ble_eq_true rfl) ⟨rfl, h⟩
  · obtain rfl := ztg_in (t := 277) ht32 98 hq (by decide) (by decide +kernel)
    have h := h.2.2.2.2.2.2.2.2.2 (by omega)
    exact s_vret A dX2_doOne_277 hr hlk (Nat.le_of_ble_eq_true rfl) (Nat.le_of_ble_eq_true rfl) ⟨rfl, h⟩
  · obtain rfl := ztg_in (t := 277) ht32 99 hq (by decide) (by decide +kernel)
    have h := h.2.2.2.2.2.2.2.2.2 (by omega)
    exact s_vret A dX2_doOne_277 hr hlk (Nat.le_of_ble_eq_true rfl) (Nat.le_of_ble_eq_true rfl) ⟨rfl, h⟩
  · obtain rfl := ztg_in (t := 277) ht32 100 hq (by decide) (by decide +kernel)
    have h := h.2.2.2.2.2.2.2.2.2 (by omega)
    exact s_vret A dX2_doOne_277 hr hlk (Nat.le_of_ble_eq_true rfl) (Nat.le_of_ble_eq_true rfl) ⟨rfl, h⟩
  · obtain rfl := ztg_in (t := 277) ht32 101 hq (by decide) (by decide +kernel)
    have h := h.2.2.2.2.2.2.2.2.2 (by omega)
    exact s_vret A dX2_doOne_277 hr hlk (Nat.le_of_ble_eq_true rfl) (Nat.le_of_ble_eq_true rfl) ⟨rfl, h⟩
  · obtain rfl := ztg_in (t := 277) ht32 102 hq (by decide) (by decide +kernel)
    have h := h.2.2.2.2.2.2.2.2.2 (by omega)
    exact s_vret A dX2_doOne_277 hr hlk (Nat.le_of_ble_eq_true rfl) (Nat.le_of_ble_eq_true rfl) ⟨rfl, h⟩
  · obtain rfl := ztg_in (t := 135) ht32 103 hq (by decide) (by decide +kernel)
    have h := h.2.1 (by omega)
    refine s_aload_n A dX2_doOne_135 rfl ?_
    refine s_aload_n A dX2_doOne_136 rfl ?_
    refine z_eqS (st' := [zR (some b1), zR (some 128)]) (by rw [c1] <;> rfl) ?_
    obtain ⟨o9, h⟩ := h
    refine s_getf (k := 8) (j := 1) (sl := false) (v := zI (zi μ b1 1)) A dX2_doOne_137 rfl zuw_X8 (Nat.le_of_ble_eq_true rfl) zwd657 (by decide) o9 rfl ?_
    refine s_callV (a := 128) (k := 2) (N := 1) (sl := true) (M := mX2_greyToBlack) (n := 1) (d := 8) (mc := 0) (ms := 0) (av := [zI (zi μ b1 1)]) (st := []) A dX2_doOne_140 rfl (by decide) (zk_128 _) zwd975 zwd977 zwd18 zwd98 zcd_X2_greyToBlack (Nat.le_of_ble_eq_true rfl) (Nat.le_of_ble_eq_true rfl) (Nat.le_refl _) ⟨Nat.le_of_ble_eq_true rfl, Nat.le_of_ble_eq_true rfl⟩ ⟨rfl, zhn_X2_greyToBlack⟩ rfl (Nat.le_of_ble_eq_true rfl) rfl (z_contV (fun μ10 h => ?_) h)
    refine s_goto (tgt := 277) A dX2_doOne_143 (by decide) ?_
    exact s_vret A dX2_doOne_277 hr hlk (Nat.le_of_ble_eq_true rfl) (Nat.le_of_ble_eq_true rfl) ⟨rfl, h⟩
  · obtain rfl := ztg_in (t := 246) ht32 104 hq (by decide) (by decide +kernel)
    have h := h.2.2.1 (by omega)
    refine s_aload_n A dX2_doOne_246 rfl ?_
    refine s_getf (k := 2) (j := 0) (sl := true) (v := zR (some 129)) A dX2_doOne_247 rfl zuw_X2 (Nat.le_of_ble_eq_true rfl) zwd317 (by decide) (zk_128 _) rfl ?_
    refine s_aload_n A dX2_doOne_250 rfl ?_
    refine z_eqS (st' := [zR (some b1), zR (some 129)]) (by rw [c1] <;> rfl) ?_
    obtain ⟨o11, h⟩ := h
    refine s_getf (k := 8) (j := 1) (sl := false) (v := zI (zi μ b1 1)) A dX2_doOne_251 rfl zuw_X8 (Nat.le_of_ble_eq_true rfl) zwd657 (by decide) o11 rfl ?_
    refine s_dup2 A dX2_doOne_254 rfl rfl ?_
    obtain ⟨ox12, h⟩ := h
    refine z_iald A dX2_doOne_255 (zk_129 _) (Nat.le_of_ble_eq_true rfl) ox12 ?_
    refine s_iconst A dX2_doOne_256 ?_
    obtain ⟨o1, h⟩ := h
    refine z_idiv A dX2_doOne_257 o1 ⟨by decide, by decide⟩ ?_
    refine z_iast A dX2_doOne_258 (zk_129 _) (Nat.le_of_ble_eq_true rfl) ox12 ?_
    refine s_goto (tgt := 277) A dX2_doOne_259 (by decide) ?_
    exact s_vret A dX2_doOne_277 hr hlk (Nat.le_of_ble_eq_true rfl) (Nat.le_of_ble_eq_true rfl) ⟨rfl, h⟩
  · obtain rfl := ztg_in (t := 277) ht32 105 hq (by decide) (by decide +kernel)
    have h := h.2.2.2.2.2.2.2.2.2 (by omega)
    exact s_vret A dX2_doOne_277 hr hlk (Nat.le_of_ble_eq_true rfl) (Nat.le_of_ble_eq_true rfl) ⟨rfl, h⟩
  · obtain rfl := ztg_in (t := 277) ht32 106 hq (by decide) (by decide +kernel)
    have h := h.2.2.2.2.2.2.2.2.2 (by omega)
    exact s_vret A dX2_doOne_277 hr hlk (Nat.le_of_ble_eq_true rfl) (Nat.le_of_ble_eq_true rfl) ⟨rfl, h⟩
  · obtain rfl := ztg_in (t := 277) ht32 107 hq (by decide) (by decide +kernel)
    have h := h.2.2.2.2.2.2.2.2.2 (by omega)
    exact s_vret A dX2_doOne_277 hr hlk (Nat.le_of_ble_eq_true rfl) (Nat.le_of_ble_eq_true rfl) ⟨rfl, h⟩
  · obtain rfl := ztg_in (t := 116) ht32 108 hq (by decide) (by decide +kernel)
    have h := h.2.2.2.1 (by omega)
    refine s_aload_n A dX2_doOne_116 rfl ?_
    refine s_aload_n A dX2_doOne_117 rfl ?_
    refine z_eqS (st' := [zR (some b1), zR (some 128)]) (by rw [c1] <;> rfl) ?_
    obtain ⟨o13, h⟩ := h
    refine s_getf (k := 8) (j := 1) (sl := false) (v := zI (zi μ b1 1)) A dX2_doOne_118 rfl zuw_X8 (Nat.le_of_ble_eq_true rfl) zwd657 (by decide) o13 rfl ?_
    refine s_callV (a := 128) (k := 2) (N := 1) (sl := true) (M := mX2_limitTo) (n := 1) (d := 9) (mc := 0) (ms := 0) (av := [zI (zi μ b1 1)]) (st := []) A dX2_doOne_121 rfl (by decide) (zk_128 _) zwd970 zwd880 zwd881 zwd98 zcd_X2_limitTo (Nat.le_of_ble_eq_true rfl) (Nat.le_of_ble_eq_true rfl) (Nat.le_refl _) ⟨Nat.le_of_ble_eq_true rfl, Nat.le_of_ble_eq_true rfl⟩ ⟨rfl, zhn_X2_limitTo⟩ rfl (Nat.le_of_ble_eq_true rfl) rfl (z_contV (fun μ14 h => ?_) h)
    refine s_goto (tgt := 277) A dX2_doOne_124 (by decide) ?_
    exact s_vret A dX2_doOne_277 hr hlk (Nat.le_of_ble_eq_true rfl) (Nat.le_of_ble_eq_true rfl) ⟨rfl, h⟩
  · obtain rfl := ztg_in (t := 277) ht32 109 hq (by decide) (by decide +kernel)
    have h := h.2.2.2.2.2.2.2.2.2 (by omega)
    exact s_vret A dX2_doOne_277 hr hlk (Nat.le_of_ble_eq_true rfl) (Nat.le_of_ble_eq_true rfl) ⟨rfl, h⟩
  · obtain rfl := ztg_in (t := 277) ht32 110 hq (by decide) (by decide +kernel)
    have h := h.2.2.2.2.2.2.2.2.2 (by omega)
    exact s_vret A dX2_doOne_277 hr hlk (Nat.le_of_ble_eq_true rfl) (Nat.le_of_ble_eq_true rfl) ⟨rfl, h⟩
  · obtain rfl := ztg_in (t := 277) ht32 111 hq (by decide) (by decide +kernel)
    have h := h.2.2.2.2.2.2.2.2.2 (by omega)
    exact s_vret A dX2_doOne_277 hr hlk (Nat.le_of_ble_eq_true rfl) (Nat.le_of_ble_eq_true rfl) ⟨rfl, h⟩
  · obtain rfl := ztg_in (t := 277) ht32 112 hq (by decide) (by decide +kernel)
    have h := h.2.2.2.2.2.2.2.2.2 (by omega)
    exact s_vret A dX2_doOne_277 hr hlk (Nat.le_of_ble_eq_true rfl) (Nat.le_of_ble_eq_true rfl) ⟨rfl, h⟩
  · obtain rfl := ztg_in (t := 277) ht32 113 hq (by decide) (by decide +kernel)
    have h := h.2.2.2.2.2.2.2.2.2 (by omega)
    exact s_vret A dX2_doOne_277 hr hlk (Nat.le_of_ble_eq_true rfl) (Nat.le_of_ble_eq_true rfl) ⟨rfl, h⟩
  · obtain rfl := ztg_in (t := 277) ht32 114 hq (by decide) (by decide +kernel)
    have h := h.2.2.2.2.2.2.2.2.2 (by omega)
    exact s_vret A dX2_doOne_277 hr hlk (Nat.le_of_ble_eq_true rfl) (Nat.le_of_ble_eq_true rfl) ⟨rfl, h⟩
  · obtain rfl := ztg_in (t := 188) ht32 115 hq (by decide) (by decide +kernel)
    have h := h.2.2.2.2.1 (by omega)
    refine s_aload_n A dX2_doOne_188 rfl ?_
    refine s_getf (k := 2) (j := 0) (sl := true) (v := zR (some 129)) A dX2_doOne_189 rfl zuw_X2 (Nat.le_of_ble_eq_true rfl) zwd317 (by decide) (zk_128 _) rfl ?_
    refine s_aload_n A dX2_doOne_192 rfl ?_
    refine z_eqS (st' := [zR (some b1), zR (some 129)]) (by rw [c1] <;> rfl) ?_
    obtain ⟨o15, h⟩ := h
    refine s_getf (k := 8) (j := 1) (sl := false) (v := zI (zi μ b1 1)) A dX2_doOne_193 rfl zuw_X8 (Nat.le_of_ble_eq_true rfl) zwd657 (by decide) o15 rfl ?_
    refine s_iconst A dX2_doOne_196 ?_
    refine s_aload_n A dX2_doOne_197 rfl ?_
    refine s_getf (k := 2) (j := 0) (sl := true) (v := zR (some 129)) A dX2_doOne_198 rfl zuw_X2 (Nat.le_of_ble_eq_true rfl) zwd317 (by decide) (zk_128 _) rfl ?_
    refine s_aload_n A dX2_doOne_201 rfl ?_
    refine z_eqS (st' := [zR (some b1), zR (some 129), zI 0, zI (zi μ b1 1), zR (some 129)]) (by rw [c1] <;> rfl) ?_
    obtain ⟨o16, h⟩ := h
    refine s_getf (k := 8) (j := 1) (sl := false) (v := zI (zi μ b1 1)) A dX2_doOne_202 rfl zuw_X8 (Nat.le_of_ble_eq_true rfl) zwd657 (by decide) o16 rfl ?_
    obtain ⟨ox17, h⟩ := h
    refine z_iald A dX2_doOne_205 (zk_129 _) (Nat.le_of_ble_eq_true rfl) ox17 ?_
    refine s_aload_n A dX2_doOne_206 rfl ?_
    refine z_eqS (st' := [zR (some b1), zI (zi μ 129 (zi μ b1 1)), zI 0, zI (zi μ b1 1), zR (some 129)]) (by rw [c1] <;> rfl) ?_
    obtain ⟨o18, h⟩ := h
    refine s_getf (k := 8) (j := 2) (sl := false) (v := zI (zi μ b1 2)) A dX2_doOne_207 rfl zuw_X8 (Nat.le_of_ble_eq_true rfl) zwd659 (by decide) o18 rfl ?_
    refine s_isub A dX2_doOne_210 ?_
    obtain ⟨oz19, h⟩ := h
    refine z_mmax A dX2_doOne_211 zwd987 zwd506 zwd105 zwd507 (Nat.le_of_ble_eq_true rfl) (Nat.le_of_ble_eq_true rfl) ⟨Nat.le_of_ble_eq_true rfl, Nat.le_of_ble_eq_true rfl⟩ ⟨by decide, by decide⟩ oz19 ?_
    refine z_iast A dX2_doOne_214 (zk_129 _) (Nat.le_of_ble_eq_true rfl) ox17 ?_
    refine s_goto (tgt := 277) A dX2_doOne_215 (by decide) ?_
    exact s_vret A dX2_doOne_277 hr hlk (Nat.le_of_ble_eq_true rfl) (Nat.le_of_ble_eq_true rfl) ⟨rfl, h⟩
  · obtain rfl := ztg_in (t := 277) ht32 116 hq (by decide) (by decide +kernel)
    have h := h.2.2.2.2.2.2.2.2.2 (by omega)
    exact s_vret A dX2_doOne_277 hr hlk (Nat.le_of_ble_eq_true rfl) (Nat.le_of_ble_eq_true rfl) ⟨rfl, h⟩
  · obtain rfl := ztg_in (t := 146) ht32 117 hq (by decide) (by decide +kernel)
    have h := h.2.2.2.2.2.1 (by omega)
    refine s_aload_n A dX2_doOne_146 rfl ?_
    refine s_aload_n A dX2_doOne_147 rfl ?_
    refine z_eqS (st' := [zR (some b1), zR (some 128)]) (by rw [c1] <;> rfl) ?_
    obtain ⟨o20, h⟩ := h
    refine s_getf (k := 8) (j := 1) (sl := false) (v := zI (zi μ b1 1)) A dX2_doOne_148 rfl zuw_X8 (Nat.le_of_ble_eq_true rfl) zwd657 (by decide) o20 rfl ?_
    refine s_callV (a := 128) (k := 2) (N := 1) (sl := true) (M := mX2_blackToGrey) (n := 1) (d := 8) (mc := 0) (ms := 0) (av := [zI (zi μ b1 1)]) (st := []) A dX2_doOne_151 rfl (by decide) (zk_128 _) zwd983 zwd985 zwd20 zwd98 zcd_X2_blackToGrey (Nat.le_of_ble_eq_true rfl) (Nat.le_of_ble_eq_true rfl) (Nat.le_refl _) ⟨Nat.le_of_ble_eq_true rfl, Nat.le_of_ble_eq_true rfl⟩ ⟨rfl, zhn_X2_blackToGrey⟩ rfl (Nat.le_of_ble_eq_true rfl) rfl (z_contV (fun μ21 h => ?_) h)
    refine s_goto (tgt := 277) A dX2_doOne_154 (by decide) ?_
    exact s_vret A dX2_doOne_277 hr hlk (Nat.le_of_ble_eq_true rfl) (Nat.le_of_ble_eq_true rfl) ⟨rfl, h⟩
  · obtain rfl := ztg_in (t := 127) ht32 118 hq (by decide) (by decide +kernel)
    have h := h.2.2.2.2.2.2.1 (by omega)
    refine s_aload_n A dX2_doOne_127 rfl ?_
    refine s_aload_n A dX2_doOne_128 rfl ?_
    refine s_callV (a := 128) (k := 2) (N := 1) (sl := true) (M := mX2_bend) (n := 1) (d := 0) (mc := 0) (ms := 0) (av := [zR (some a2)]) (st := []) A dX2_doOne_129 rfl (by decide) (zk_128 _) zwd971 zwd973 zwd17 zwd98 zcd_X2_bend (Nat.le_of_ble_eq_true rfl) (Nat.le_of_ble_eq_true rfl) (Nat.le_refl _) ⟨Nat.le_of_ble_eq_true rfl, Nat.le_of_ble_eq_true rfl⟩ ⟨rfl, zhn_X2_bend⟩ rfl (Nat.le_of_ble_eq_true rfl) rfl (z_contV (fun μ22 h => ?_) h)
    refine s_goto (tgt := 277) A dX2_doOne_132 (by decide) ?_
    exact s_vret A dX2_doOne_277 hr hlk (Nat.le_of_ble_eq_true rfl) (Nat.le_of_ble_eq_true rfl) ⟨rfl, h⟩
  · obtain rfl := ztg_in (t := 218) ht32 119 hq (by decide) (by decide +kernel)
    have h := h.2.2.2.2.2.2.2.1 (by omega)
    refine s_aload_n A dX2_doOne_218 rfl ?_
    refine s_getf (k := 2) (j := 0) (sl := true) (v := zR (some 129)) A dX2_doOne_219 rfl zuw_X2 (Nat.le_of_ble_eq_true rfl) zwd317 (by decide) (zk_128 _) rfl ?_
    refine s_aload_n A dX2_doOne_222 rfl ?_
    refine z_eqS (st' := [zR (some b1), zR (some 129)]) (by rw [c1] <;> rfl) ?_
    obtain ⟨o23, h⟩ := h
    refine s_getf (k := 8) (j := 1) (sl := false) (v := zI (zi μ b1 1)) A dX2_doOne_223 rfl zuw_X8 (Nat.le_of_ble_eq_true rfl) zwd657 (by decide) o23 rfl ?_
    refine s_aload_n A dX2_doOne_226 rfl ?_
    refine s_getf (k := 2) (j := 0) (sl := true) (v := zR (some 129)) A dX2_doOne_227 rfl zuw_X2 (Nat.le_of_ble_eq_true rfl) zwd317 (by decide) (zk_128 _) rfl ?_
    refine s_aload_n A dX2_doOne_230 rfl ?_
    refine z_eqS (st' := [zR (some b1), zR (some 129), zI (zi μ b1 1), zR (some 129)]) (by rw [c1] <;> rfl) ?_
    obtain ⟨o24, h⟩ := h
    refine s_getf (k := 8) (j := 1) (sl := false) (v := zI (zi μ b1 1)) A dX2_doOne_231 rfl zuw_X8 (Nat.le_of_ble_eq_true rfl) zwd657 (by decide) o24 rfl ?_
    obtain ⟨ox25, h⟩ := h
    refine z_iald A dX2_doOne_234 (zk_129 _) (Nat.le_of_ble_eq_true rfl) ox25 ?_
    refine s_aload_n A dX2_doOne_235 rfl ?_
    refine z_eqS (st' := [zR (some b1), zI (zi μ 129 (zi μ b1 1)), zI (zi μ b1 1), zR (some 129)]) (by rw [c1] <;> rfl) ?_
    obtain ⟨o26, h⟩ := h
    refine s_getf (k := 8) (j := 2) (sl := false) (v := zI (zi μ b1 2)) A dX2_doOne_236 rfl zuw_X8 (Nat.le_of_ble_eq_true rfl) zwd659 (by decide) o26 rfl ?_
    obtain ⟨oz27, h⟩ := h
    obtain ⟨oz28, h⟩ := h
    refine z_mmin A dX2_doOne_239 zwd887 zwd509 zwd105 zwd510 (Nat.le_of_ble_eq_true rfl) (Nat.le_of_ble_eq_true rfl) ⟨Nat.le_of_ble_eq_true rfl, Nat.le_of_ble_eq_true rfl⟩ oz27 oz28 ?_
    refine z_iast A dX2_doOne_242 (zk_129 _) (Nat.le_of_ble_eq_true rfl) ox25 ?_
    refine s_goto (tgt := 277) A dX2_doOne_243 (by decide) ?_
    exact s_vret A dX2_doOne_277 hr hlk (Nat.le_of_ble_eq_true rfl) (Nat.le_of_ble_eq_true rfl) ⟨rfl, h⟩
  · obtain rfl := ztg_in (t := 262) ht32 120 hq (by decide) (by decide +kernel)
    have h := h.2.2.2.2.2.2.2.2.1 (by omega)
    refine s_aload_n A dX2_doOne_262 rfl ?_
    refine s_aload_n A dX2_doOne_263 rfl ?_
    refine z_eqS (st' := [zR (some b1), zR (some 128)]) (by rw [c1] <;> rfl) ?_
    obtain ⟨o29, h⟩ := h
    refine s_getf (k := 8) (j := 1) (sl := false) (v := zI (zi μ b1 1)) A dX2_doOne_264 rfl zuw_X8 (Nat.le_of_ble_eq_true rfl) zwd657 (by decide) o29 rfl ?_
    refine s_aload_n A dX2_doOne_267 rfl ?_
    refine z_eqS (st' := [zR (some b1), zI (zi μ b1 1), zR (some 128)]) (by rw [c1] <;> rfl) ?_
    obtain ⟨o30, h⟩ := h
    refine s_getf (k := 8) (j := 2) (sl := false) (v := zI (zi μ b1 2)) A dX2_doOne_268 rfl zuw_X8 (Nat.le_of_ble_eq_true rfl) zwd659 (by decide) o30 rfl ?_
    refine s_callV (a := 128) (k := 2) (N := 1) (sl := true) (M := mX2_exchange) (n := 2) (d := 0) (mc := 0) (ms := 0) (av := [zI (zi μ b1 1), zI (zi μ b1 2)]) (st := []) A dX2_doOne_271 rfl (by decide) (zk_128 _) zwd988 zwd990 zwd21 zwd98 zcd_X2_exchange (Nat.le_of_ble_eq_true rfl) (Nat.le_of_ble_eq_true rfl) (Nat.le_refl _) ⟨Nat.le_of_ble_eq_true rfl, Nat.le_of_ble_eq_true rfl⟩ ⟨rfl, zhn_X2_exchange⟩ rfl (Nat.le_of_ble_eq_true rfl) rfl (z_contV (fun μ31 h => ?_) h)
    refine s_goto (tgt := 277) A dX2_doOne_274 (by decide) ?_
    exact s_vret A dX2_doOne_277 hr hlk (Nat.le_of_ble_eq_true rfl) (Nat.le_of_ble_eq_true rfl) ⟨rfl, h⟩
  · obtain rfl := ztg_out (t := 277) ht32 hq (by decide)
    have h := h.2.2.2.2.2.2.2.2.2 (by omega)
    exact s_vret A dX2_doOne_277 hr hlk (Nat.le_of_ble_eq_true rfl) (Nat.le_of_ble_eq_true rfl) ⟨rfl, h⟩
theorem eX2_doOne {G : zG} {F : zM → Prop} {μ : zM} {r1 : Option Nat} {a2 : Nat} (h : ∀ J, zJ G true (10) 0 0 mX2_doOne (zKV F) J → J 0 ([some (zR (some 128)), some (zR r1), some (zR (some a2))], [], μ, 0, 0)) : qX2_doOne G r1 a2 μ F :=
  z_body (by decide +kernel) (Nat.le_of_ble_eq_true rfl) h
set_option maxRecDepth 20000 in
theorem rX2_doSteps_e {G : zG} {dd : Nat} {F : zM → Prop} {J : Nat → zS → Prop} {μ : zM} (C : zJ G true (11 + dd) 0 0 mX2_doSteps (zKV F) J) (r1 : Option Nat) {a2 n2 : Nat} (ha2 : zIsAr a2 n2) (hn2 : n2 < 2147483648) (x3 : Int)
    (h : zin x3 ∧ ((x3 ≤ 40 → J 10 ([some (zR (some 128)), none, some (zR (some a2)), some (zI x3), some (zR r1), none, none], [], μ, 0, 0)) ∧ (¬ (x3 ≤ 40) → F μ))) : J 0 ([some (zR (some 128)), some (zR r1), some (zR (some a2)), some (zI x3), none, none, none], [], μ, 0, 0) := by
  obtain ⟨p, e, s, m, args, below, meth, c, A, hml, hr, hlk, hnm, rfl⟩ := C
  refine s_iload_n A dX2_doSteps_0 rfl ?_
  refine s_bipush A dX2_doSteps_1 rfl ?_
  obtain ⟨oz1, h⟩ := h
  refine z_icmp_le (tgt := 7) A dX2_doSteps_3 (by decide) oz1 ⟨by decide, by decide⟩ (fun c2 => ?_) (fun c2 => ?_)
  · have h := h.1 c2
    refine s_aload_n A dX2_doSteps_7 rfl ?_
    refine s_astore (L' := [some (zR (some 128)), some (zR r1), some (zR (some a2)), some (zI x3), some (zR r1), none, none]) A dX2_doSteps_8 (Nat.le_of_ble_eq_true rfl) rfl ?_
    exact z_wk (L' := [some (zR (some 128)), none, some (zR (some a2)), some (zI x3), some (zR r1), none, none]) ⟨rfl, rfl, rfl, rfl, trivial⟩ h
  · have h := h.2 c2
    exact s_vret A dX2_doSteps_6 hr hlk (Nat.le_of_ble_eq_true rfl) (Nat.le_of_ble_eq_true rfl) ⟨rfl, h⟩
set_option maxRecDepth 20000 in
theorem rX2_doSteps_10 {G : zG} {dd : Nat} {F : zM → Prop} {J : Nat → zS → Prop} {μ : zM} (C : zJ G true (11 + dd) 0 0 mX2_doSteps (zKV F) J) {a2 n2 : Nat} (ha2 : zIsAr a2 n2) (hn2 : n2 < 2147483648) (x3 : Int) (r4 : Option Nat)
    (h : (r4 = none → F μ) ∧ (∀ b1, r4 = some b1 → qX2_timesOf G r4 μ (fun v2 μ2 => J 26 ([some (zR (some 128)), none, some (zR (some a2)), some (zI x3), some (zR r4), some (zI v2), some (zI 0)], [], μ2, 0, 0)))) : J 10 ([some (zR (some 128)), none, some (zR (some a2)), some (zI x3), some (zR r4), none, none], [], μ, 0, 0) := by
  obtain ⟨p, e, s, m, args, below, meth, c, A, hml, hr, hlk, hnm, rfl⟩ := C
  refine s_aload A dX2_doSteps_10 rfl ?_
  refine s_ifnull (tgt := 69) A dX2_doSteps_12 (by decide) (fun c1 => ?_) (fun b1 c1 => ?_)
  · have h := h.1 c1
    exact s_vret A dX2_doSteps_69 hr hlk (Nat.le_of_ble_eq_true rfl) (Nat.le_of_ble_eq_true rfl) ⟨rfl, h⟩
  · have h := h.2 b1 c1
    refine s_aload_n A dX2_doSteps_15 rfl ?_
    refine s_aload A dX2_doSteps_16 rfl ?_
    refine s_callV (a := 128) (k := 2) (N := 1) (sl := true) (M := mX2_timesOf) (n := 1) (d := 0) (mc := 0) (ms := 0) (av := [zR r4]) (st := []) A dX2_doSteps_18 rfl (by decide) (zk_128 _) zwd961 zwd963 zwd15 zwd98 zcd_X2_timesOf (by show 0 + 1 ≤ 11 + dd; omega) (Nat.le_of_ble_eq_true rfl) (Nat.le_refl _) ⟨Nat.le_of_ble_eq_true rfl, Nat.le_of_ble_eq_true rfl⟩ ⟨rfl, zhn_X2_timesOf⟩ rfl (Nat.le_of_ble_eq_true rfl) rfl (z_contI (fun v2 μ2 h => ?_) h)
    refine s_istore (L' := [some (zR (some 128)), none, some (zR (some a2)), some (zI x3), some (zR r4), some (zI v2), none]) A dX2_doSteps_21 (Nat.le_of_ble_eq_true rfl) rfl ?_
    refine s_iconst A dX2_doSteps_23 ?_
    refine s_istore (L' := [some (zR (some 128)), none, some (zR (some a2)), some (zI x3), some (zR r4), some (zI v2), some (zI 0)]) A dX2_doSteps_24 (Nat.le_of_ble_eq_true rfl) rfl ?_
    exact h
set_option maxRecDepth 20000 in
theorem rX2_doSteps_26 {G : zG} {dd : Nat} {F : zM → Prop} {J : Nat → zS → Prop} {μ : zM} (C : zJ G true (11 + dd) 0 0 mX2_doSteps (zKV F) J) {a2 n2 : Nat} (ha2 : zIsAr a2 n2) (hn2 : n2 < 2147483648) (x3 : Int) (r4 : Option Nat) (x5 : Int) (x6 : Int)
    (h : zin x6 ∧ zin x5 ∧ ((x5 ≤ x6 → qX2_doOne G r4 a2 μ (fun μ4 => ∃ b5, r4 = some b5 ∧ zok true μ4 b5 (8, 6) ∧ J 10 ([some (zR (some 128)), none, some (zR (some a2)), some (zI x3), some (zR (zr μ4 b5 5)), none, none], [], μ4, 0, 0))) ∧ (¬ (x5 ≤ x6) → ∃ b7, r4 = some b7 ∧ zok true μ b7 (8, 6) ∧ ∃ d9, d9 < dd ∧ qX2_doSteps G d9 (zr μ b7 3) a2 (x3 + 1) μ (fun μ9 => J 26 ([some (zR (some 128)), none, some (zR (some a2)), some (zI x3), some (zR r4), some (zI x5), some (zI (x6 + 1))], [], μ9, 0, 0))))) : J 26 ([some (zR (some 128)), none, some (zR (some a2)), some (zI x3), some (zR r4), some (zI x5), some (zI x6)], [], μ, 0, 0) := by
  obtain ⟨p, e, s, m, args, below, meth, c, A, hml, hr, hlk, hnm, rfl⟩ := C
  refine s_iload A dX2_doSteps_26 rfl ?_
  refine s_iload A dX2_doSteps_28 rfl ?_
  obtain ⟨oz1, h⟩ := h
  obtain ⟨oz2, h⟩ := h
  refine z_icmp_ge (tgt := 52) A dX2_doSteps_30 (by decide) oz1 oz2 (fun c3 => ?_) (fun c3 => ?_)
  · have h := h.1 c3
    refine s_aload_n A dX2_doSteps_52 rfl ?_
    refine s_aload A dX2_doSteps_53 rfl ?_
    refine s_aload_n A dX2_doSteps_55 rfl ?_
    refine s_callV (a := 128) (k := 2) (N := 1) (sl := true) (M := mX2_doOne) (n := 2) (d := 10) (mc := 0) (ms := 0) (av := [zR r4, zR (some a2)]) (st := []) A dX2_doSteps_56 rfl (by decide) (zk_128 _) zwd966 zwd968 zwd16 zwd98 zcd_X2_doOne (by show 10 + 1 ≤ 11 + dd; omega) (Nat.le_of_ble_eq_true rfl) (Nat.le_refl _) ⟨Nat.le_of_ble_eq_true rfl, Nat.le_of_ble_eq_true rfl⟩ ⟨rfl, zhn_X2_doOne⟩ rfl (Nat.le_of_ble_eq_true rfl) rfl (z_contV (fun μ4 h => ?_) h)
    refine s_aload A dX2_doSteps_59 rfl ?_
    obtain ⟨b5, c5, h⟩ := h
    refine z_eqS (st' := [zR (some b5)]) (by rw [c5] <;> rfl) ?_
    obtain ⟨o6, h⟩ := h
    refine s_getf (k := 8) (j := 5) (sl := false) (v := zR (zr μ4 b5 5)) A dX2_doSteps_61 rfl zuw_X8 (Nat.le_of_ble_eq_true rfl) zwd665 (by decide) o6 rfl ?_
    refine s_astore (L' := [some (zR (some 128)), none, some (zR (some a2)), some (zI x3), some (zR (zr μ4 b5 5)), some (zI x5), some (zI x6)]) A dX2_doSteps_64 (Nat.le_of_ble_eq_true rfl) rfl ?_
    refine s_goto (tgt := 10) A dX2_doSteps_66 (by decide) ?_
    exact z_wk (L' := [some (zR (some 128)), none, some (zR (some a2)), some (zI x3), some (zR (zr μ4 b5 5)), none, none]) ⟨rfl, rfl, rfl, rfl, trivial⟩ h
  · have h := h.2 c3
    refine s_aload_n A dX2_doSteps_33 rfl ?_
    refine s_aload A dX2_doSteps_34 rfl ?_
    obtain ⟨b7, c7, h⟩ := h
    refine z_eqS (st' := [zR (some b7), zR (some 128)]) (by rw [c7] <;> rfl) ?_
    obtain ⟨o8, h⟩ := h
    refine s_getf (k := 8) (j := 3) (sl := false) (v := zR (zr μ b7 3)) A dX2_doSteps_36 rfl zuw_X8 (Nat.le_of_ble_eq_true rfl) zwd662 (by decide) o8 rfl ?_
    refine s_aload_n A dX2_doSteps_39 rfl ?_
    refine s_iload_n A dX2_doSteps_40 rfl ?_
    refine s_iconst A dX2_doSteps_41 ?_
    refine s_iadd A dX2_doSteps_42 ?_
    obtain ⟨d9, hd9, h⟩ := h
    refine s_callS (M := mX2_doSteps) (n := 4) (d := 11 + d9) (mc := 0) (ms := 0) (av := [zR (some 128), zR (zr μ b7 3), zR (some a2), zI (x3 + 1)]) (st := []) A dX2_doSteps_43 zwd965 zwd959 zwd98 zcd_X2_doSteps (by show 11 + d9 + 1 ≤ 11 + dd; omega) (Nat.le_of_ble_eq_true rfl) (Nat.le_refl _) ⟨Nat.le_of_ble_eq_true rfl, Nat.le_of_ble_eq_true rfl⟩ zhn_X2_doSteps rfl (Nat.le_of_ble_eq_true rfl) rfl (z_contV (fun μ9 h => ?_) h)
    refine s_iinc (L' := [some (zR (some 128)), none, some (zR (some a2)), some (zI x3), some (zR r4), some (zI x5), some (zI (x6 + 1))]) A dX2_doSteps_46 rfl rfl ?_
    refine s_goto (tgt := 26) A dX2_doSteps_49 (by decide) ?_
    exact h
theorem eX2_doSteps {G : zG} {dd : Nat} {F : zM → Prop} {μ : zM} {r1 : Option Nat} {a2 : Nat} {x3 : Int} (h : ∀ J, zJ G true (11 + dd) 0 0 mX2_doSteps (zKV F) J → J 0 ([some (zR (some 128)), some (zR r1), some (zR (some a2)), some (zI x3), none, none, none], [], μ, 0, 0)) : qX2_doSteps G dd r1 a2 x3 μ F :=
  z_body (by decide +kernel) (Nat.le_of_ble_eq_true rfl) h
set_option maxRecDepth 20000 in
theorem rX8_init_e {G : zG} {ph : Bool} {F : zM → Prop} {J : Nat → zS → Prop} {μ : zM} (C : zJ G ph (2) 0 0 mX8_init (zKV F) J) (a0 : Nat) (x1 : Int) (x2 : Int) (x3 : Int)
    (h : zok ph μ a0 (8, 6) ∧ zok ph (zup μ a0 0 x1) a0 (8, 6) ∧ zok ph (zup (zup μ a0 0 x1) a0 1 x2) a0 (8, 6) ∧ F (zup (zup (zup μ a0 0 x1) a0 1 x2) a0 2 x3)) : J 0 ([some (zR (some a0)), some (zI x1), some (zI x2), some (zI x3)], [], μ, 0, 0) := by
  obtain ⟨p, e, s, m, args, below, meth, c, A, hml, hr, hlk, hnm, rfl⟩ := C
  refine s_aload_n A dX8_init_0 rfl ?_
  refine z_objInit A dX8_init_1 zwd652 zwd119 zwd120 (Nat.le_of_ble_eq_true rfl) (by decide) (Nat.le_of_ble_eq_true rfl) ?_
  refine s_aload_n A dX8_init_4 rfl ?_
  refine s_iload_n A dX8_init_5 rfl ?_
  obtain ⟨o1, h⟩ := h
  refine z_putFI (k := 8) (j := 0) (sl := false) A dX8_init_6 rfl zuw_X8 (Nat.le_of_ble_eq_true rfl) zwd653 (by decide) o1 tyX8 tyX8_ok nmX8 rfl rfl rfl hnm rfl ?_
  refine s_aload_n A dX8_init_9 rfl ?_
  refine s_iload_n A dX8_init_10 rfl ?_
  obtain ⟨o2, h⟩ := h
  refine z_putFI (k := 8) (j := 1) (sl := false) A dX8_init_11 rfl zuw_X8 (Nat.le_of_ble_eq_true rfl) zwd656 (by decide) o2 tyX8 tyX8_ok nmX8 rfl rfl rfl hnm rfl ?_
  refine s_aload_n A dX8_init_14 rfl ?_
  refine s_iload_n A dX8_init_15 rfl ?_
  obtain ⟨o3, h⟩ := h
  refine z_putFI (k := 8) (j := 2) (sl := false) A dX8_init_16 rfl zuw_X8 (Nat.le_of_ble_eq_true rfl) zwd658 (by decide) o3 tyX8 tyX8_ok nmX8 rfl rfl rfl hnm rfl ?_
  exact s_vret A dX8_init_19 hr hlk (Nat.le_of_ble_eq_true rfl) (Nat.le_of_ble_eq_true rfl) ⟨rfl, h⟩
theorem eX8_init {G : zG} {ph : Bool} {F : zM → Prop} {μ : zM} {a0 : Nat} {x1 : Int} {x2 : Int} {x3 : Int} (h : ∀ J, zJ G ph (2) 0 0 mX8_init (zKV F) J → J 0 ([some (zR (some a0)), some (zI x1), some (zI x2), some (zI x3)], [], μ, 0, 0)) : qX8_init G ph a0 x1 x2 x3 μ F :=
  z_body (by decide +kernel) (Nat.le_of_ble_eq_true rfl) h
set_option maxRecDepth 20000 in
theorem rX9_at_e {G : zG} {F : Int → zM → Prop} {J : Nat → zS → Prop} {μ : zM} (C : zJ G true (0) 0 0 mX9_at (zKI F) J) (x1 : Int)
    (h : zin x1 ∧ ((x1 < 0 → F 0 μ) ∧ (¬ (x1 < 0) → zin (zi μ 1 1) ∧ ((zi μ 1 1 ≤ x1 → F 0 μ) ∧ (¬ (zi μ 1 1 ≤ x1) → (0 ≤ x1 ∧ x1 < 80) ∧ F (zi μ 2 x1) μ))))) : J 0 ([some (zR (some 1)), some (zI x1)], [], μ, 0, 0) := by
  obtain ⟨p, e, s, m, args, below, meth, c, A, hml, hr, hlk, hnm, rfl⟩ := C
  refine s_iload_n A dX9_at_0 rfl ?_
  obtain ⟨oz1, h⟩ := h
  refine z_if_lt (tgt := 21) A dX9_at_1 (by decide) oz1 (fun c2 => ?_) (fun c2 => ?_)
  · have h := h.1 c2
    refine s_iconst A dX9_at_21 ?_
    exact s_iret A dX9_at_22 hr hlk (Nat.le_of_ble_eq_true rfl) (Nat.le_of_ble_eq_true rfl) ⟨_, rfl, h⟩
  · have h := h.2 c2
    refine s_iload_n A dX9_at_4 rfl ?_
    refine s_aload_n A dX9_at_5 rfl ?_
    refine s_getf (k := 9) (j := 1) (sl := true) (v := zI (zi μ 1 1)) A dX9_at_6 rfl zuw_X9 (Nat.le_of_ble_eq_true rfl) zwd128 (by decide) (zk_1 _) rfl ?_
    obtain ⟨oz3, h⟩ := h
    refine z_icmp_ge (tgt := 21) A dX9_at_9 (by decide) oz1 oz3 (fun c4 => ?_) (fun c4 => ?_)
    · have h := h.1 c4
      refine s_iconst A dX9_at_21 ?_
      exact s_iret A dX9_at_22 hr hlk (Nat.le_of_ble_eq_true rfl) (Nat.le_of_ble_eq_true rfl) ⟨_, rfl, h⟩
    · have h := h.2 c4
      refine s_aload_n A dX9_at_12 rfl ?_
      refine s_getf (k := 9) (j := 0) (sl := true) (v := zR (some 2)) A dX9_at_13 rfl zuw_X9 (Nat.le_of_ble_eq_true rfl) zwd127 (by decide) (zk_1 _) rfl ?_
      refine s_iload_n A dX9_at_16 rfl ?_
      obtain ⟨ox5, h⟩ := h
      refine z_iald A dX9_at_17 (zk_2 _) (Nat.le_of_ble_eq_true rfl) ox5 ?_
      refine s_goto (tgt := 22) A dX9_at_18 (by decide) ?_
      exact s_iret A dX9_at_22 hr hlk (Nat.le_of_ble_eq_true rfl) (Nat.le_of_ble_eq_true rfl) ⟨_, rfl, h⟩
theorem eX9_at {G : zG} {F : Int → zM → Prop} {μ : zM} {x1 : Int} (h : ∀ J, zJ G true (0) 0 0 mX9_at (zKI F) J → J 0 ([some (zR (some 1)), some (zI x1)], [], μ, 0, 0)) : qX9_at G x1 μ F :=
  z_body (by decide +kernel) (Nat.le_of_ble_eq_true rfl) h
set_option maxRecDepth 20000 in
theorem rX9_digit_e {G : zG} {F : Int → zM → Prop} {J : Nat → zS → Prop} {μ : zM} (C : zJ G true (2) 0 0 mX9_digit (zKI F) J) (x1 : Int)
    (h : qX9_at G x1 μ (fun v1 μ1 => F (v1 - 48) μ1)) : J 0 ([some (zR (some 1)), some (zI x1)], [], μ, 0, 0) := by
  obtain ⟨p, e, s, m, args, below, meth, c, A, hml, hr, hlk, hnm, rfl⟩ := C
  refine s_aload_n A dX9_digit_0 rfl ?_
  refine s_iload_n A dX9_digit_1 rfl ?_
  refine s_callV (a := 1) (k := 9) (N := 2) (sl := true) (M := mX9_at) (n := 1) (d := 0) (mc := 0) (ms := 0) (av := [zI x1]) (st := []) A dX9_digit_2 rfl (by decide) (zk_1 _) zwd582 zwd583 zwd584 zwd90 zcd_X9_at (Nat.le_of_ble_eq_true rfl) (Nat.le_of_ble_eq_true rfl) (Nat.le_refl _) ⟨Nat.le_of_ble_eq_true rfl, Nat.le_of_ble_eq_true rfl⟩ ⟨rfl, zhn_X9_at⟩ rfl (Nat.le_of_ble_eq_true rfl) rfl (z_contI (fun v1 μ1 h => ?_) h)
  refine s_bipush A dX9_digit_5 rfl ?_
  refine s_isub A dX9_digit_7 ?_
  exact s_iret A dX9_digit_8 hr hlk (Nat.le_of_ble_eq_true rfl) (Nat.le_of_ble_eq_true rfl) ⟨_, rfl, h⟩
theorem eX9_digit {G : zG} {F : Int → zM → Prop} {μ : zM} {x1 : Int} (h : ∀ J, zJ G true (2) 0 0 mX9_digit (zKI F) J → J 0 ([some (zR (some 1)), some (zI x1)], [], μ, 0, 0)) : qX9_digit G x1 μ F :=
  z_body (by decide +kernel) (Nat.le_of_ble_eq_true rfl) h
set_option maxRecDepth 20000 in
theorem rX9_operand_e {G : zG} {F : Int → zM → Prop} {J : Nat → zS → Prop} {μ : zM} (C : zJ G true (9) 0 0 mX9_operand (zKI F) J) (x1 : Int)
    (h : qX9_at G x1 μ (fun v1 μ1 => qX9_inkOf G v1 μ1 (fun v2 μ2 => zin v2 ∧ ((v2 < 0 → qX9_digit G x1 μ2 (fun v5 μ5 => F v5 μ5)) ∧ (¬ (v2 < 0) → F v2 μ2))))) : J 0 ([some (zR (some 1)), some (zI x1), none], [], μ, 0, 0) := by
  obtain ⟨p, e, s, m, args, below, meth, c, A, hml, hr, hlk, hnm, rfl⟩ := C
  refine s_aload_n A dX9_operand_0 rfl ?_
  refine s_iload_n A dX9_operand_1 rfl ?_
  refine s_callV (a := 1) (k := 9) (N := 2) (sl := true) (M := mX9_at) (n := 1) (d := 0) (mc := 0) (ms := 0) (av := [zI x1]) (st := []) A dX9_operand_2 rfl (by decide) (zk_1 _) zwd582 zwd583 zwd584 zwd90 zcd_X9_at (Nat.le_of_ble_eq_true rfl) (Nat.le_of_ble_eq_true rfl) (Nat.le_refl _) ⟨Nat.le_of_ble_eq_true rfl, Nat.le_of_ble_eq_true rfl⟩ ⟨rfl, zhn_X9_at⟩ rfl (Nat.le_of_ble_eq_true rfl) rfl (z_contI (fun v1 μ1 h => ?_) h)
  refine s_callS (M := mX9_inkOf) (n := 1) (d := 8) (mc := 0) (ms := 0) (av := [zI v1]) (st := []) A dX9_operand_5 zwd486 zwd487 zwd90 zcd_X9_inkOf (Nat.le_of_ble_eq_true rfl) (Nat.le_of_ble_eq_true rfl) (Nat.le_refl _) ⟨Nat.le_of_ble_eq_true rfl, Nat.le_of_ble_eq_true rfl⟩ zhn_X9_inkOf rfl (Nat.le_of_ble_eq_true rfl) rfl (z_contI (fun v2 μ2 h => ?_) h)
  refine s_istore_n (L' := [some (zR (some 1)), some (zI x1), some (zI v2)]) A dX9_operand_8 (Nat.le_of_ble_eq_true rfl) rfl ?_
  refine s_iload_n A dX9_operand_9 rfl ?_
  obtain ⟨oz3, h⟩ := h
  refine z_if_lt (tgt := 17) A dX9_operand_10 (by decide) oz3 (fun c4 => ?_) (fun c4 => ?_)
  · have h := h.1 c4
    refine s_aload_n A dX9_operand_17 rfl ?_
    refine s_iload_n A dX9_operand_18 rfl ?_
    refine s_callV (a := 1) (k := 9) (N := 2) (sl := true) (M := mX9_digit) (n := 1) (d := 2) (mc := 0) (ms := 0) (av := [zI x1]) (st := []) A dX9_operand_19 rfl (by decide) (zk_1 _) zwd578 zwd579 zwd580 zwd90 zcd_X9_digit (Nat.le_of_ble_eq_true rfl) (Nat.le_of_ble_eq_true rfl) (Nat.le_refl _) ⟨Nat.le_of_ble_eq_true rfl, Nat.le_of_ble_eq_true rfl⟩ ⟨rfl, zhn_X9_digit⟩ rfl (Nat.le_of_ble_eq_true rfl) rfl (z_contI (fun v5 μ5 h => ?_) h)
    exact s_iret A dX9_operand_22 hr hlk (Nat.le_of_ble_eq_true rfl) (Nat.le_of_ble_eq_true rfl) ⟨_, rfl, h⟩
  · have h := h.2 c4
    refine s_iload_n A dX9_operand_13 rfl ?_
    refine s_goto (tgt := 22) A dX9_operand_14 (by decide) ?_
    exact s_iret A dX9_operand_22 hr hlk (Nat.le_of_ble_eq_true rfl) (Nat.le_of_ble_eq_true rfl) ⟨_, rfl, h⟩
theorem eX9_operand {G : zG} {F : Int → zM → Prop} {μ : zM} {x1 : Int} (h : ∀ J, zJ G true (9) 0 0 mX9_operand (zKI F) J → J 0 ([some (zR (some 1)), some (zI x1), none], [], μ, 0, 0)) : qX9_operand G x1 μ F :=
  z_body (by decide +kernel) (Nat.le_of_ble_eq_true rfl) h
set_option maxRecDepth 20000 in
theorem rX3_readStep_e {G : zG} {F : Option Nat → zM → Prop} {J : Nat → zS → Prop} {μ : zM} (C : zJ G true (10) 1 6 mX3_readStep (zKR F) J) (x1 : Int) (r2 : Option Nat) (x3 : Int)
    (h : qX9_at G x1 μ (fun v1 μ1 => zin v1 ∧ ((¬ v1 = 108 → ((¬ v1 = 112 → zs true (znew μ1 (8, 6)) (zn μ1) = (8, 6) ∧ ∀ b5 μ5, b5 = zn μ1 → μ5 = znew μ1 (8, 6) → qX9_operand G (x1 + 1) μ5 (fun v6 μ6 => qX9_operand G (x1 + 2) μ6 (fun v7 μ7 => qX8_init G true b5 v1 v6 v7 μ7 (fun μ8 => F (some b5) μ8)))) ∧ (v1 = 112 → zs true (znew μ1 (8, 6)) (zn μ1) = (8, 6) ∧ ∀ b9 μ9, b9 = zn μ1 → μ9 = znew μ1 (8, 6) → ∃ b10, r2 = some b10 ∧ zok true μ9 b10 (3, 3) ∧ qX8_init G true b9 v1 (zi μ9 b10 1) 0 μ9 (fun μ12 => zok true μ12 b10 (3, 3) ∧ zok true μ12 b9 (8, 6) ∧ F (some b9) (zupr μ12 b9 3 (zr μ12 b10 0)))))) ∧ (v1 = 108 → zs true (znew μ1 (8, 6)) (zn μ1) = (8, 6) ∧ ∀ b15 μ15, b15 = zn μ1 → μ15 = znew μ1 (8, 6) → qX8_init G true b15 v1 x3 0 μ15 (fun μ16 => F (some b15) μ16))))) : J 0 ([some (zR (some 1)), some (zI x1), some (zR r2), some (zI x3), none, none], [], μ, 0, 0) := by
  obtain ⟨p, e, s, m, args, below, meth, c, A, hml, hr, hlk, hnm, rfl⟩ := C
  refine s_aload_n A dX3_readStep_0 rfl ?_
  refine s_iload_n A dX3_readStep_1 rfl ?_
  refine s_callV (a := 1) (k := 9) (N := 2) (sl := true) (M := mX9_at) (n := 1) (d := 0) (mc := 0) (ms := 0) (av := [zI x1]) (st := []) A dX3_readStep_2 rfl (by decide) (zk_1 _) zwd680 zwd583 zwd584 zwd90 zcd_X9_at (Nat.le_of_ble_eq_true rfl) (Nat.le_of_ble_eq_true rfl) (Nat.le_refl _) ⟨Nat.le_of_ble_eq_true rfl, Nat.le_of_ble_eq_true rfl⟩ ⟨rfl, zhn_X9_at⟩ rfl (Nat.le_of_ble_eq_true rfl) rfl (z_contI (fun v1 μ1 h => ?_) h)
  refine s_istore (L' := [some (zR (some 1)), some (zI x1), some (zR r2), some (zI x3), some (zI v1), none]) A dX3_readStep_5 (Nat.le_of_ble_eq_true rfl) rfl ?_
  refine s_iload A dX3_readStep_7 rfl ?_
  refine s_bipush A dX3_readStep_9 rfl ?_
  obtain ⟨oz2, h⟩ := h
  refine z_icmp_ne (tgt := 26) A dX3_readStep_11 (by decide) oz2 ⟨by decide, by decide⟩ (fun c3 => ?_) (fun c3 => ?_)
  · have h := h.1 c3
    refine s_iload A dX3_readStep_26 rfl ?_
    refine s_bipush A dX3_readStep_28 rfl ?_
    refine z_icmp_ne (tgt := 61) A dX3_readStep_30 (by decide) oz2 ⟨by decide, by decide⟩ (fun c4 => ?_) (fun c4 => ?_)
    · have h := h.1 c4
      obtain ⟨o5, h⟩ := h
      refine z_new (k := 8) (N := 6) A dX3_readStep_61 rfl zuw_X8 tyX8 tyX8_ok zdf_X8 (by decide) zwd647 zwd648 zwd108 o5 (Nat.le_of_ble_eq_true rfl) (Nat.le_of_ble_eq_true rfl) (fun b5 μ5 eb5 em5 => ?_)
      have h := h b5 μ5 eb5 em5
      refine s_dup A dX3_readStep_64 rfl ?_
      refine s_iload A dX3_readStep_65 rfl ?_
      refine s_aload_n A dX3_readStep_67 rfl ?_
      refine s_iload_n A dX3_readStep_68 rfl ?_
      refine s_iconst A dX3_readStep_69 ?_
      refine s_iadd A dX3_readStep_70 ?_
      refine s_callV (a := 1) (k := 9) (N := 2) (sl := true) (M := mX9_operand) (n := 1) (d := 9) (mc := 0) (ms := 0) (av := [zI (x1 + 1)]) (st := [zI v1, zR (some b5), zR (some b5)]) A dX3_readStep_71 rfl (by decide) (zk_1 _) zwd686 zwd687 zwd688 zwd90 zcd_X9_operand (Nat.le_of_ble_eq_true rfl) (Nat.le_of_ble_eq_true rfl) (Nat.le_refl _) ⟨Nat.le_of_ble_eq_true rfl, Nat.le_of_ble_eq_true rfl⟩ ⟨rfl, zhn_X9_operand⟩ rfl (Nat.le_of_ble_eq_true rfl) rfl (z_contI (fun v6 μ6 h => ?_) h)
      refine s_aload_n A dX3_readStep_74 rfl ?_
      refine s_iload_n A dX3_readStep_75 rfl ?_
      refine s_iconst A dX3_readStep_76 ?_
      refine s_iadd A dX3_readStep_77 ?_
      refine s_callV (a := 1) (k := 9) (N := 2) (sl := true) (M := mX9_operand) (n := 1) (d := 9) (mc := 0) (ms := 0) (av := [zI (x1 + 2)]) (st := [zI v6, zI v1, zR (some b5), zR (some b5)]) A dX3_readStep_78 rfl (by decide) (zk_1 _) zwd686 zwd687 zwd688 zwd90 zcd_X9_operand (Nat.le_of_ble_eq_true rfl) (Nat.le_of_ble_eq_true rfl) (Nat.le_refl _) ⟨Nat.le_of_ble_eq_true rfl, Nat.le_of_ble_eq_true rfl⟩ ⟨rfl, zhn_X9_operand⟩ rfl (Nat.le_of_ble_eq_true rfl) rfl (z_contI (fun v7 μ7 h => ?_) h)
      refine s_callI (a := b5) (M := mX8_init) (n := 3) (d := 2) (mc := 0) (ms := 0) (av := [zI v1, zI v6, zI v7]) (st := [zR (some b5)]) A dX3_readStep_81 rfl zwd649 zwd650 zwd108 zcd_X8_init rfl (Nat.le_of_ble_eq_true rfl) (Nat.le_of_ble_eq_true rfl) (Nat.le_refl _) ⟨Nat.le_of_ble_eq_true rfl, Nat.le_of_ble_eq_true rfl⟩ zhn_X8_init rfl (Nat.le_of_ble_eq_true rfl) rfl (z_contV (fun μ8 h => ?_) h)
      exact s_aret A dX3_readStep_84 hr (Or.inl ⟨_, rfl⟩) hlk (Nat.le_of_ble_eq_true rfl) (Nat.le_of_ble_eq_true rfl) ⟨_, rfl, h⟩
    · have h := h.2 c4
      obtain ⟨o9, h⟩ := h
      refine z_new (k := 8) (N := 6) A dX3_readStep_33 rfl zuw_X8 tyX8 tyX8_ok zdf_X8 (by decide) zwd647 zwd648 zwd108 o9 (Nat.le_of_ble_eq_true rfl) (Nat.le_of_ble_eq_true rfl) (fun b9 μ9 eb9 em9 => ?_)
      have h := h b9 μ9 eb9 em9
      refine s_dup A dX3_readStep_36 rfl ?_
      refine s_iload A dX3_readStep_37 rfl ?_
      refine s_aload_n A dX3_readStep_39 rfl ?_
      obtain ⟨b10, c10, h⟩ := h
      refine z_eqS (st' := [zR (some b10), zI v1, zR (some b9), zR (some b9)]) (by rw [c10] <;> rfl) ?_
      obtain ⟨o11, h⟩ := h
      refine s_getf (k := 3) (j := 1) (sl := false) (v := zI (zi μ9 b10 1)) A dX3_readStep_40 rfl zuw_X3 (Nat.le_of_ble_eq_true rfl) zwd172 (by decide) o11 rfl ?_
      refine s_iconst A dX3_readStep_43 ?_
      refine s_callI (a := b9) (M := mX8_init) (n := 3) (d := 2) (mc := 0) (ms := 0) (av := [zI v1, zI (zi μ9 b10 1), zI 0]) (st := [zR (some b9)]) A dX3_readStep_44 rfl zwd649 zwd650 zwd108 zcd_X8_init rfl (Nat.le_of_ble_eq_true rfl) (Nat.le_of_ble_eq_true rfl) (Nat.le_refl _) ⟨Nat.le_of_ble_eq_true rfl, Nat.le_of_ble_eq_true rfl⟩ zhn_X8_init rfl (Nat.le_of_ble_eq_true rfl) rfl (z_contV (fun μ12 h => ?_) h)
      refine s_astore (L' := [some (zR (some 1)), some (zI x1), some (zR r2), some (zI x3), some (zI v1), some (zR (some b9))]) A dX3_readStep_47 (Nat.le_of_ble_eq_true rfl) rfl ?_
      refine s_aload A dX3_readStep_49 rfl ?_
      refine s_aload_n A dX3_readStep_51 rfl ?_
      refine z_eqS (st' := [zR (some b10), zR (some b9)]) (by rw [c10] <;> rfl) ?_
      obtain ⟨o13, h⟩ := h
      refine s_getf (k := 3) (j := 0) (sl := false) (v := zR (zr μ12 b10 0)) A dX3_readStep_52 rfl zuw_X3 (Nat.le_of_ble_eq_true rfl) zwd170 (by decide) o13 rfl ?_
      obtain ⟨o14, h⟩ := h
      refine z_putR (k := 8) (j := 3) (sl := false) A dX3_readStep_55 rfl zuw_X8 (Nat.le_of_ble_eq_true rfl) zwd661 (by decide) o14 tyX8 tyX8_ok nmX8 rfl (Or.inr rfl) rfl (Or.inl ⟨_, rfl⟩) rfl ?_
      refine s_aload A dX3_readStep_58 rfl ?_
      exact s_aret A dX3_readStep_60 hr (Or.inl ⟨_, rfl⟩) hlk (Nat.le_of_ble_eq_true rfl) (Nat.le_of_ble_eq_true rfl) ⟨_, rfl, h⟩
  · have h := h.2 c3
    obtain ⟨o15, h⟩ := h
    refine z_new (k := 8) (N := 6) A dX3_readStep_14 rfl zuw_X8 tyX8 tyX8_ok zdf_X8 (by decide) zwd647 zwd648 zwd108 o15 (Nat.le_of_ble_eq_true rfl) (Nat.le_of_ble_eq_true rfl) (fun b15 μ15 eb15 em15 => ?_)
    have h := h b15 μ15 eb15 em15
    refine s_dup A dX3_readStep_17 rfl ?_
    refine s_iload A dX3_readStep_18 rfl ?_
    refine s_iload_n A dX3_readStep_20 rfl ?_
    refine s_iconst A dX3_readStep_21 ?_
    refine s_callI (a := b15) (M := mX8_init) (n := 3) (d := 2) (mc := 0) (ms := 0) (av := [zI v1, zI x3, zI 0]) (st := [zR (some b15)]) A dX3_readStep_22 rfl zwd649 zwd650 zwd108 zcd_X8_init rfl (Nat.le_of_ble_eq_true rfl) (Nat.le_of_ble_eq_true rfl) (Nat.le_refl _) ⟨Nat.le_of_ble_eq_true rfl, Nat.le_of_ble_eq_true rfl⟩ zhn_X8_init rfl (Nat.le_of_ble_eq_true rfl) rfl (z_contV (fun μ16 h => ?_) h)
    exact s_aret A dX3_readStep_25 hr (Or.inl ⟨_, rfl⟩) hlk (Nat.le_of_ble_eq_true rfl) (Nat.le_of_ble_eq_true rfl) ⟨_, rfl, h⟩
theorem eX3_readStep {G : zG} {F : Option Nat → zM → Prop} {μ : zM} {x1 : Int} {r2 : Option Nat} {x3 : Int} (h : ∀ J, zJ G true (10) 1 6 mX3_readStep (zKR F) J → J 0 ([some (zR (some 1)), some (zI x1), some (zR r2), some (zI x3), none, none], [], μ, 0, 0)) : qX3_readStep G x1 r2 x3 μ F :=
  z_body (by decide +kernel) (Nat.le_of_ble_eq_true rfl) h
set_option maxRecDepth 20000 in
theorem rX8_append_e {G : zG} {F : zM → Prop} {J : Nat → zS → Prop} {μ : zM} (C : zJ G true (0) 0 0 mX8_append (zKV F) J) (a0 : Nat) (r1 : Option Nat)
    (h : zok true μ a0 (8, 6) ∧ (zr μ a0 4 = none → zok true μ a0 (8, 6) ∧ zok true (zupr μ a0 3 r1) a0 (8, 6) ∧ F (zupr (zupr μ a0 3 r1) a0 4 r1)) ∧ (∀ b2, zr μ a0 4 = some b2 → zok true μ a0 (8, 6) ∧ zok true μ b2 (8, 6) ∧ zok true (zupr μ b2 5 r1) a0 (8, 6) ∧ F (zupr (zupr μ b2 5 r1) a0 4 r1))) : J 0 ([some (zR (some a0)), some (zR r1)], [], μ, 0, 0) := by
  obtain ⟨p, e, s, m, args, below, meth, c, A, hml, hr, hlk, hnm, rfl⟩ := C
  refine s_aload_n A dX8_append_0 rfl ?_
  obtain ⟨o1, h⟩ := h
  refine s_getf (k := 8) (j := 4) (sl := false) (v := zR (zr μ a0 4)) A dX8_append_1 rfl zuw_X8 (Nat.le_of_ble_eq_true rfl) zwd663 (by decide) o1 rfl ?_
  refine s_ifnonnull (tgt := 15) A dX8_append_4 (by decide) (fun b2 c2 => ?_) (fun c2 => ?_)
  · have h := h.2 b2 c2
    refine s_aload_n A dX8_append_15 rfl ?_
    obtain ⟨o3, h⟩ := h
    refine s_getf (k := 8) (j := 4) (sl := false) (v := zR (zr μ a0 4)) A dX8_append_16 rfl zuw_X8 (Nat.le_of_ble_eq_true rfl) zwd663 (by decide) o3 rfl ?_
    refine s_aload_n A dX8_append_19 rfl ?_
    refine z_eqS (st' := [zR r1, zR (some b2)]) (by rw [c2] <;> rfl) ?_
    obtain ⟨o4, h⟩ := h
    refine z_putR (k := 8) (j := 5) (sl := false) A dX8_append_20 rfl zuw_X8 (Nat.le_of_ble_eq_true rfl) zwd664 (by decide) o4 tyX8 tyX8_ok nmX8 rfl (Or.inr rfl) rfl (Or.inl ⟨_, rfl⟩) rfl ?_
    refine s_aload_n A dX8_append_23 rfl ?_
    refine s_aload_n A dX8_append_24 rfl ?_
    obtain ⟨o5, h⟩ := h
    refine z_putR (k := 8) (j := 4) (sl := false) A dX8_append_25 rfl zuw_X8 (Nat.le_of_ble_eq_true rfl) zwd663 (by decide) o5 tyX8 tyX8_ok nmX8 rfl (Or.inr rfl) rfl (Or.inl ⟨_, rfl⟩) rfl ?_
    exact s_vret A dX8_append_28 hr hlk (Nat.le_of_ble_eq_true rfl) (Nat.le_of_ble_eq_true rfl) ⟨rfl, h⟩
  · have h := h.1 c2
    refine s_aload_n A dX8_append_7 rfl ?_
    refine s_aload_n A dX8_append_8 rfl ?_
    obtain ⟨o6, h⟩ := h
    refine z_putR (k := 8) (j := 3) (sl := false) A dX8_append_9 rfl zuw_X8 (Nat.le_of_ble_eq_true rfl) zwd660 (by decide) o6 tyX8 tyX8_ok nmX8 rfl (Or.inr rfl) rfl (Or.inl ⟨_, rfl⟩) rfl ?_
    refine s_goto (tgt := 23) A dX8_append_12 (by decide) ?_
    refine s_aload_n A dX8_append_23 rfl ?_
    refine s_aload_n A dX8_append_24 rfl ?_
    obtain ⟨o7, h⟩ := h
    refine z_putR (k := 8) (j := 4) (sl := false) A dX8_append_25 rfl zuw_X8 (Nat.le_of_ble_eq_true rfl) zwd663 (by decide) o7 tyX8 tyX8_ok nmX8 rfl (Or.inr rfl) rfl (Or.inl ⟨_, rfl⟩) rfl ?_
    exact s_vret A dX8_append_28 hr hlk (Nat.le_of_ble_eq_true rfl) (Nat.le_of_ble_eq_true rfl) ⟨rfl, h⟩
theorem eX8_append {G : zG} {F : zM → Prop} {μ : zM} {a0 : Nat} {r1 : Option Nat} (h : ∀ J, zJ G true (0) 0 0 mX8_append (zKV F) J → J 0 ([some (zR (some a0)), some (zR r1)], [], μ, 0, 0)) : qX8_append G a0 r1 μ F :=
  z_body (by decide +kernel) (Nat.le_of_ble_eq_true rfl) h
set_option maxRecDepth 20000 in
theorem rX9_has_e {G : zG} {F : Int → zM → Prop} {J : Nat → zS → Prop} {μ : zM} (C : zJ G true (0) 0 0 mX9_has (zKI F) J) (x1 : Int)
    (h : J 2 ([some (zR (some 1)), some (zI x1), some (zI 0)], [], μ, 0, 0)) : J 0 ([some (zR (some 1)), some (zI x1), none], [], μ, 0, 0) := by
  obtain ⟨p, e, s, m, args, below, meth, c, A, hml, hr, hlk, hnm, rfl⟩ := C
  refine s_iconst A dX9_has_0 ?_
  refine s_istore_n (L' := [some (zR (some 1)), some (zI x1), some (zI 0)]) A dX9_has_1 (Nat.le_of_ble_eq_true rfl) rfl ?_
  exact h
set_option maxRecDepth 20000 in
theorem rX9_has_2 {G : zG} {F : Int → zM → Prop} {J : Nat → zS → Prop} {μ : zM} (C : zJ G true (0) 0 0 mX9_has (zKI F) J) (x1 : Int) (x2 : Int)
    (h : zin x2 ∧ zin (zi μ 1 1) ∧ ((zi μ 1 1 ≤ x2 → F 0 μ) ∧ (¬ (zi μ 1 1 ≤ x2) → (0 ≤ x2 ∧ x2 < 80) ∧ zin (zi μ 2 x2) ∧ zin x1 ∧ ((¬ zi μ 2 x2 = x1 → J 2 ([some (zR (some 1)), some (zI x1), some (zI (x2 + 1))], [], μ, 0, 0)) ∧ (zi μ 2 x2 = x1 → F 1 μ))))) : J 2 ([some (zR (some 1)), some (zI x1), some (zI x2)], [], μ, 0, 0) := by
  obtain ⟨p, e, s, m, args, below, meth, c, A, hml, hr, hlk, hnm, rfl⟩ := C
  refine s_iload_n A dX9_has_2 rfl ?_
  refine s_aload_n A dX9_has_3 rfl ?_
  refine s_getf (k := 9) (j := 1) (sl := true) (v := zI (zi μ 1 1)) A dX9_has_4 rfl zuw_X9 (Nat.le_of_ble_eq_true rfl) zwd128 (by decide) (zk_1 _) rfl ?_
  obtain ⟨oz1, h⟩ := h
  obtain ⟨oz2, h⟩ := h
  refine z_icmp_ge (tgt := 28) A dX9_has_7 (by decide) oz1 oz2 (fun c3 => ?_) (fun c3 => ?_)
  · have h := h.1 c3
    refine s_iconst A dX9_has_28 ?_
    exact s_zret A dX9_has_29 hr hlk (Nat.le_of_ble_eq_true rfl) (Nat.le_of_ble_eq_true rfl) (Or.inl rfl) ⟨_, rfl, h⟩
  · have h := h.2 c3
    refine s_aload_n A dX9_has_10 rfl ?_
    refine s_getf (k := 9) (j := 0) (sl := true) (v := zR (some 2)) A dX9_has_11 rfl zuw_X9 (Nat.le_of_ble_eq_true rfl) zwd127 (by decide) (zk_1 _) rfl ?_
    refine s_iload_n A dX9_has_14 rfl ?_
    obtain ⟨ox4, h⟩ := h
    refine z_iald A dX9_has_15 (zk_2 _) (Nat.le_of_ble_eq_true rfl) ox4 ?_
    refine s_iload_n A dX9_has_16 rfl ?_
    obtain ⟨oz5, h⟩ := h
    obtain ⟨oz6, h⟩ := h
    refine z_icmp_ne (tgt := 22) A dX9_has_17 (by decide) oz5 oz6 (fun c7 => ?_) (fun c7 => ?_)
    · have h := h.1 c7
      refine s_iinc (L' := [some (zR (some 1)), some (zI x1), some (zI (x2 + 1))]) A dX9_has_22 rfl rfl ?_
      refine s_goto (tgt := 2) A dX9_has_25 (by decide) ?_
      exact h
    · have h := h.2 c7
      refine s_iconst A dX9_has_20 ?_
      exact s_zret A dX9_has_21 hr hlk (Nat.le_of_ble_eq_true rfl) (Nat.le_of_ble_eq_true rfl) (Or.inr rfl) ⟨_, rfl, h⟩
theorem eX9_has {G : zG} {F : Int → zM → Prop} {μ : zM} {x1 : Int} (h : ∀ J, zJ G true (0) 0 0 mX9_has (zKI F) J → J 0 ([some (zR (some 1)), some (zI x1), none], [], μ, 0, 0)) : qX9_has G x1 μ F :=
  z_body (by decide +kernel) (Nat.le_of_ble_eq_true rfl) h
set_option maxRecDepth 20000 in
theorem rX8_longOf_e {G : zG} {dd : Nat} {F : Int → zM → Prop} {J : Nat → zS → Prop} {μ : zM} (C : zJ G true (2 + dd) 0 0 mX8_longOf (zKI F) J) (r0 : Option Nat) (x1 : Int)
    (h : zin x1 ∧ ((x1 ≤ 40 → J 12 ([none, some (zI x1), some (zI 0), some (zR r0)], [], μ, 0, 0)) ∧ (¬ (x1 ≤ 40) → F 0 μ))) : J 0 ([some (zR r0), some (zI x1), none, none], [], μ, 0, 0) := by
  obtain ⟨p, e, s, m, args, below, meth, c, A, hml, hr, hlk, hnm, rfl⟩ := C
  refine s_iconst A dX8_longOf_0 ?_
  refine s_istore_n (L' := [some (zR r0), some (zI x1), some (zI 0), none]) A dX8_longOf_1 (Nat.le_of_ble_eq_true rfl) rfl ?_
  refine s_iload_n A dX8_longOf_2 rfl ?_
  refine s_bipush A dX8_longOf_3 rfl ?_
  obtain ⟨oz1, h⟩ := h
  refine z_icmp_le (tgt := 10) A dX8_longOf_5 (by decide) oz1 ⟨by decide, by decide⟩ (fun c2 => ?_) (fun c2 => ?_)
  · have h := h.1 c2
    refine s_aload_n A dX8_longOf_10 rfl ?_
    refine s_astore_n (L' := [some (zR r0), some (zI x1), some (zI 0), some (zR r0)]) A dX8_longOf_11 (Nat.le_of_ble_eq_true rfl) rfl ?_
    exact z_wk (L' := [none, some (zI x1), some (zI 0), some (zR r0)]) ⟨rfl, rfl, rfl, trivial⟩ h
  · have h := h.2 c2
    refine s_iload_n A dX8_longOf_8 rfl ?_
    exact s_iret A dX8_longOf_9 hr hlk (Nat.le_of_ble_eq_true rfl) (Nat.le_of_ble_eq_true rfl) ⟨_, rfl, h⟩
set_option maxRecDepth 20000 in
theorem rX8_longOf_12 {G : zG} {dd : Nat} {F : Int → zM → Prop} {J : Nat → zS → Prop} {μ : zM} (C : zJ G true (2 + dd) 0 0 mX8_longOf (zKI F) J) (x1 : Int) (x2 : Int) (r3 : Option Nat)
    (h : (r3 = none → F x2 μ) ∧ (∀ b1, r3 = some b1 → zok true μ b1 (8, 6) ∧ zin (zi μ b1 0) ∧ ((zi μ b1 0 = 105 ∨ zi μ b1 0 = 106 → zok true μ b1 (8, 6) ∧ ∃ d5, d5 < dd ∧ qX8_longOf G d5 (zr μ b1 3) (x1 + 1) μ (fun v5 μ5 => zok true μ5 b1 (8, 6) ∧ J 12 ([none, some (zI x1), some (zI (x2 + (1 + v5))), some (zR (zr μ5 b1 5))], [], μ5, 0, 0))) ∧ (zi μ b1 0 = 110 → zok true μ b1 (8, 6) ∧ zok true μ b1 (8, 6) ∧ ∃ d9, d9 < dd ∧ qX8_longOf G d9 (zr μ b1 3) (x1 + 1) μ (fun v9 μ9 => zok true μ9 b1 (8, 6) ∧ J 12 ([none, some (zI x1), some (zI (x2 + (1 + ((zi μ b1 1) * v9)))), some (zR (zr μ9 b1 5))], [], μ9, 0, 0))) ∧ (zi μ b1 0 = 111 → zok true μ b1 (8, 6) ∧ ∃ d12, d12 < dd ∧ qX8_longOf G d12 (zr μ b1 3) (x1 + 1) μ (fun v12 μ12 => zok true μ12 b1 (8, 6) ∧ J 12 ([none, some (zI x1), some (zI (x2 + (1 + (8 * v12)))), some (zR (zr μ12 b1 5))], [], μ12, 0, 0))) ∧ (zi μ b1 0 = 112 → zok true μ b1 (8, 6) ∧ zok true μ b1 (8, 6) ∧ J 12 ([none, some (zI x1), some (zI (x2 + (zi μ b1 1))), some (zR (zr μ b1 5))], [], μ, 0, 0)) ∧ (zi μ b1 0 ≠ 105 ∧ zi μ b1 0 ≠ 106 ∧ zi μ b1 0 ≠ 110 ∧ zi μ b1 0 ≠ 111 ∧ zi μ b1 0 ≠ 112 → zok true μ b1 (8, 6) ∧ J 12 ([none, some (zI x1), some (zI (x2 + 1)), some (zR (zr μ b1 5))], [], μ, 0, 0))))) : J 12 ([none, some (zI x1), some (zI x2), some (zR r3)], [], μ, 0, 0) := by
  obtain ⟨p, e, s, m, args, below, meth, c, A, hml, hr, hlk, hnm, rfl⟩ := C
  refine s_aload_n A dX8_longOf_12 rfl ?_
  refine s_ifnull (tgt := 151) A dX8_longOf_13 (by decide) (fun c1 => ?_) (fun b1 c1 => ?_)
  · have h := h.1 c1
    refine s_iload_n A dX8_longOf_151 rfl ?_
    exact s_iret A dX8_longOf_152 hr hlk (Nat.le_of_ble_eq_true rfl) (Nat.le_of_ble_eq_true rfl) ⟨_, rfl, h⟩
  · have h := h.2 b1 c1
    refine s_aload_n A dX8_longOf_16 rfl ?_
    refine z_eqS (st' := [zR (some b1)]) (by rw [c1] <;> rfl) ?_
    obtain ⟨o2, h⟩ := h
    refine s_getf (k := 8) (j := 0) (sl := false) (v := zI (zi μ b1 0)) A dX8_longOf_17 rfl zuw_X8 (Nat.le_of_ble_eq_true rfl) zwd653 (by decide) o2 rfl ?_
    obtain ⟨oz3, h⟩ := h
    refine z_tsw A dX8_longOf_20 oz3 (by decide +kernel) ⟨140, by decide⟩ (fun tg17 ht17 => ?_)
    have hx17 : (zi μ b1 0 = 105 ∨ zi μ b1 0 = 106 ∨ zi μ b1 0 = 107 ∨ zi μ b1 0 = 108 ∨ zi μ b1 0 = 109 ∨ zi μ b1 0 = 110 ∨ zi μ b1 0 = 111 ∨ zi μ b1 0 = 112) ∨ (zi μ b1 0 < 105 ∨ 112 < zi μ b1 0) := by omega
    rcases hx17 with (hq | hq | hq | hq | hq | hq | hq | hq) | hq
    · obtain rfl := ztg_in (t := 122) ht17 105 hq (by decide) (by decide +kernel)
      have h := h.1 (by omega)
      refine s_iload_n A dX8_longOf_122 rfl ?_
      refine s_iconst A dX8_longOf_123 ?_
      refine s_aload_n A dX8_longOf_124 rfl ?_
      refine z_eqS (st' := [zR (some b1), zI 1, zI x2]) (by rw [c1] <;> rfl) ?_
      obtain ⟨o4, h⟩ := h
      refine s_getf (k := 8) (j := 3) (sl := false) (v := zR (zr μ b1 3)) A dX8_longOf_125 rfl zuw_X8 (Nat.le_of_ble_eq_true rfl) zwd660 (by decide) o4 rfl ?_
      refine s_iload_n A dX8_longOf_128 rfl ?_
      refine s_iconst A dX8_longOf_129 ?_
      refine s_iadd A dX8_longOf_130 ?_
      obtain ⟨d5, hd5, h⟩ := h
      refine s_callS (M := mX8_longOf) (n := 2) (d := 2 + d5) (mc := 0) (ms := 0) (av := [zR (zr μ b1 3), zI (x1 + 1)]) (st := [zI 1, zI x2]) A dX8_longOf_131 zwd704 zwd702 zwd108 zcd_X8_longOf (by show 2 + d5 + 1 ≤ 2 + dd; omega) (Nat.le_of_ble_eq_true rfl) (Nat.le_refl _) ⟨Nat.le_of_ble_eq_true rfl, Nat.le_of_ble_eq_true rfl⟩ zhn_X8_longOf rfl (Nat.le_of_ble_eq_true rfl) rfl (z_contI (fun v5 μ5 h => ?_) h)
      refine s_iadd A dX8_longOf_134 ?_
      refine s_iadd A dX8_longOf_135 ?_
      refine s_istore_n (L' := [none, some (zI x1), some (zI (x2 + (1 + v5))), some (zR r3)]) A dX8_longOf_136 (Nat.le_of_ble_eq_true rfl) rfl ?_
      refine s_goto (tgt := 143) A dX8_longOf_137 (by decide) ?_
      refine s_aload_n A dX8_longOf_143 rfl ?_
      refine z_eqS (st' := [zR (some b1)]) (by rw [c1] <;> rfl) ?_
      obtain ⟨o6, h⟩ := h
      refine s_getf (k := 8) (j := 5) (sl := false) (v := zR (zr μ5 b1 5)) A dX8_longOf_144 rfl zuw_X8 (Nat.le_of_ble_eq_true rfl) zwd664 (by decide) o6 rfl ?_
      refine s_astore_n (L' := [none, some (zI x1), some (zI (x2 + (1 + v5))), some (zR (zr μ5 b1 5))]) A dX8_longOf_147 (Nat.le_of_ble_eq_true rfl) rfl ?_
      refine s_goto (tgt := 12) A dX8_longOf_148 (by decide) ?_
      exact h
    · obtain rfl := ztg_in (t := 122) ht17 106 hq (by decide) (by decide +kernel)
      have h := h.1 (by omega)
      refine s_iload_n A dX8_longOf_122 rfl ?_
      refine s_iconst A dX8_longOf_123 ?_
      refine s_aload_n A dX8_longOf_124 rfl ?_
      refine z_eqS (st' := [zR (some b1), zI 1, zI x2]) (by rw [c1] <;> rfl) ?_
      obtain ⟨o4, h⟩ := h
      refine s_getf (k := 8) (j := 3) (sl := false) (v := zR (zr μ b1 3)) A dX8_longOf_125 rfl zuw_X8 (Nat.le_of_ble_eq_true rfl) zwd660 (by decide) o4 rfl ?_
      refine s_iload_n A dX8_longOf_128 rfl ?_
      refine s_iconst A dX8_longOf_129 ?_
      refine s_iadd A dX8_longOf_130 ?_
      obtain ⟨d5, hd5, h⟩ := h
      refine s_callS (M := mX8_longOf) (n := 2) (d := 2 + d5) (mc := 0) (ms := 0) (av := [zR (zr μ b1 3), zI (x1 + 1)]) (st := [zI 1, zI x2]) A dX8_longOf_131 zwd704 zwd702 zwd108 zcd_X8_longOf (by show 2 + d5 + 1 ≤ 2 + dd; omega) (Nat.le_of_ble_eq_true rfl) (Nat.le_refl _) ⟨Nat.le_of_ble_eq_true rfl, Nat.le_of_ble_eq_true rfl⟩ zhn_X8_longOf rfl (Nat.le_of_ble_eq_true rfl) rfl (z_contI (fun v5 μ5 h => ?_) h)
      refine s_iadd A dX8_longOf_134 ?_
      refine s_iadd A dX8_longOf_135 ?_
      refine s_istore_n (L' := [none, some (zI x1), some (zI (x2 + (1 + v5))), some (zR r3)]) A dX8_longOf_136 (Nat.le_of_ble_eq_true rfl) rfl ?_
      refine s_goto (tgt := 143) A dX8_longOf_137 (by decide) ?_
      refine s_aload_n A dX8_longOf_143 rfl ?_
      refine z_eqS (st' := [zR (some b1)]) (by rw [c1] <;> rfl) ?_
      obtain ⟨o6, h⟩ := h
      refine s_getf (k := 8) (j := 5) (sl := false) (v := zR (zr μ5 b1 5)) A dX8_longOf_144 rfl zuw_X8 (Nat.le_of_ble_eq_true rfl) zwd664 (by decide) o6 rfl ?_
      refine s_astore_n (L' := [none, some (zI x1), some (zI (x2 + (1 + v5))), some (zR (zr μ5 b1 5))]) A dX8_longOf_147 (Nat.le_of_ble_eq_true rfl) rfl ?_
      refine s_goto (tgt := 12) A dX8_longOf_148 (by decide) ?_
      exact h
    · obtain rfl := ztg_in (t := 140) ht17 107 hq (by decide) (by decide +kernel)
      have h := h.2.2.2.2 (by omega)
      refine s_iinc (L' := [none, some (zI x1), some (zI (x2 + 1)), some (zR r3)]) A dX8_longOf_140 rfl rfl ?_
      refine s_aload_n A dX8_longOf_143 rfl ?_
      refine z_eqS (st' := [zR (some b1)]) (by rw [c1] <;> rfl) ?_
      obtain ⟨o16, h⟩ := h
      refine s_getf (k := 8) (j := 5) (sl := false) (v := zR (zr μ b1 5)) A dX8_longOf_144 rfl zuw_X8 (Nat.le_of_ble_eq_true rfl) zwd664 (by decide) o16 rfl ?_
      refine s_astore_n (L' := [none, some (zI x1), some (zI (x2 + 1)), some (zR (zr μ b1 5))]) A dX8_longOf_147 (Nat.le_of_ble_eq_true rfl) rfl ?_
      refine s_goto (tgt := 12) A dX8_longOf_148 (by decide) ?_
      exact h
    · obtain rfl := ztg_in (t := 140) ht17 108 hq (by decide) (by decide +kernel)
      have h := h.2.2.2.2 (by omega)
      refine s_iinc (L' := [none, some (zI x1), some (zI (x2 + 1)), some (zR r3)]) A dX8_longOf_140 rfl rfl ?_
      refine s_aload_n A dX8_longOf_143 rfl ?_
      refine z_eqS (st' := [zR (some b1)]) (by rw [c1] <;> rfl) ?_
      obtain ⟨o16, h⟩ := h
      refine s_getf (k := 8) (j := 5) (sl := false) (v := zR (zr μ b1 5)) A dX8_longOf_144 rfl zuw_X8 (Nat.le_of_ble_eq_true rfl) zwd664 (by decide) o16 rfl ?_
      refine s_astore_n (L' := [none, some (zI x1), some (zI (x2 + 1)), some (zR (zr μ b1 5))]) A dX8_longOf_147 (Nat.le_of_ble_eq_true rfl) rfl ?_
      refine s_goto (tgt := 12) A dX8_longOf_148 (by decide) ?_
      exact h
    · obtain rfl := ztg_in (t := 140) ht17 109 hq (by decide) (by decide +kernel)
      have h := h.2.2.2.2 (by omega)
      refine s_iinc (L' := [none, some (zI x1), some (zI (x2 + 1)), some (zR r3)]) A dX8_longOf_140 rfl rfl ?_
      refine s_aload_n A dX8_longOf_143 rfl ?_
      refine z_eqS (st' := [zR (some b1)]) (by rw [c1] <;> rfl) ?_
      obtain ⟨o16, h⟩ := h
      refine s_getf (k := 8) (j := 5) (sl := false) (v := zR (zr μ b1 5)) A dX8_longOf_144 rfl zuw_X8 (Nat.le_of_ble_eq_true rfl) zwd664 (by decide) o16 rfl ?_
      refine s_astore_n (L' := [none, some (zI x1), some (zI (x2 + 1)), some (zR (zr μ b1 5))]) A dX8_longOf_147 (Nat.le_of_ble_eq_true rfl) rfl ?_
      refine s_goto (tgt := 12) A dX8_longOf_148 (by decide) ?_
      exact h
    · obtain rfl := ztg_in (t := 78) ht17 110 hq (by decide) (by decide +kernel)
      have h := h.2.1 (by omega)
      refine s_iload_n A dX8_longOf_78 rfl ?_
      refine s_iconst A dX8_longOf_79 ?_
      refine s_aload_n A dX8_longOf_80 rfl ?_
      refine z_eqS (st' := [zR (some b1), zI 1, zI x2]) (by rw [c1] <;> rfl) ?_
      obtain ⟨o7, h⟩ := h
      refine s_getf (k := 8) (j := 1) (sl := false) (v := zI (zi μ b1 1)) A dX8_longOf_81 rfl zuw_X8 (Nat.le_of_ble_eq_true rfl) zwd656 (by decide) o7 rfl ?_
      refine s_aload_n A dX8_longOf_84 rfl ?_
      refine z_eqS (st' := [zR (some b1), zI (zi μ b1 1), zI 1, zI x2]) (by rw [c1] <;> rfl) ?_
      obtain ⟨o8, h⟩ := h
      refine s_getf (k := 8) (j := 3) (sl := false) (v := zR (zr μ b1 3)) A dX8_longOf_85 rfl zuw_X8 (Nat.le_of_ble_eq_true rfl) zwd660 (by decide) o8 rfl ?_
      refine s_iload_n A dX8_longOf_88 rfl ?_
      refine s_iconst A dX8_longOf_89 ?_
      refine s_iadd A dX8_longOf_90 ?_
      obtain ⟨d9, hd9, h⟩ := h
      refine s_callS (M := mX8_longOf) (n := 2) (d := 2 + d9) (mc := 0) (ms := 0) (av := [zR (zr μ b1 3), zI (x1 + 1)]) (st := [zI (zi μ b1 1), zI 1, zI x2]) A dX8_longOf_91 zwd704 zwd702 zwd108 zcd_X8_longOf (by show 2 + d9 + 1 ≤ 2 + dd; omega) (Nat.le_of_ble_eq_true rfl) (Nat.le_refl _) ⟨Nat.le_of_ble_eq_true rfl, Nat.le_of_ble_eq_true rfl⟩ zhn_X8_longOf rfl (Nat.le_of_ble_eq_true rfl) rfl (z_contI (fun v9 μ9 h => ?_) h)
      refine s_imul A dX8_longOf_94 ?_
      refine s_iadd A dX8_longOf_95 ?_
      refine s_iadd A dX8_longOf_96 ?_
      refine s_istore_n (L' := [none, some (zI x1), some (zI (x2 + (1 + ((zi μ b1 1) * v9)))), some (zR r3)]) A dX8_longOf_97 (Nat.le_of_ble_eq_true rfl) rfl ?_
      refine s_goto (tgt := 143) A dX8_longOf_98 (by decide) ?_
      refine s_aload_n A dX8_longOf_143 rfl ?_
      refine z_eqS (st' := [zR (some b1)]) (by rw [c1] <;> rfl) ?_
      obtain ⟨o10, h⟩ := h
      refine s_getf (k := 8) (j := 5) (sl := false) (v := zR (zr μ9 b1 5)) A dX8_longOf_144 rfl zuw_X8 (Nat.le_of_ble_eq_true rfl) zwd664 (by decide) o10 rfl ?_
      refine s_astore_n (L' := [none, some (zI x1), some (zI (x2 + (1 + ((zi μ b1 1) * v9)))), some (zR (zr μ9 b1 5))]) A dX8_longOf_147 (Nat.le_of_ble_eq_true rfl) rfl ?_
      refine s_goto (tgt := 12) A dX8_longOf_148 (by decide) ?_
      exact h
    · obtain rfl := ztg_in (t := 101) ht17 111 hq (by decide) (by decide +kernel)
      have h := h.2.2.1 (by omega)
      refine s_iload_n A dX8_longOf_101 rfl ?_
      refine s_iconst A dX8_longOf_102 ?_
      refine s_bipush A dX8_longOf_103 rfl ?_
      refine s_aload_n A dX8_longOf_105 rfl ?_
      refine z_eqS (st' := [zR (some b1), zI 8, zI 1, zI x2]) (by rw [c1] <;> rfl) ?_
      obtain ⟨o11, h⟩ := h
      refine s_getf (k := 8) (j := 3) (sl := false) (v := zR (zr μ b1 3)) A dX8_longOf_106 rfl zuw_X8 (Nat.le_of_ble_eq_true rfl) zwd660 (by decide) o11 rfl ?_
      refine s_iload_n A dX8_longOf_109 rfl ?_
      refine s_iconst A dX8_longOf_110 ?_
      refine s_iadd A dX8_longOf_111 ?_
      obtain ⟨d12, hd12, h⟩ := h
      refine s_callS (M := mX8_longOf) (n := 2) (d := 2 + d12) (mc := 0) (ms := 0) (av := [zR (zr μ b1 3), zI (x1 + 1)]) (st := [zI 8, zI 1, zI x2]) A dX8_longOf_112 zwd704 zwd702 zwd108 zcd_X8_longOf (by show 2 + d12 + 1 ≤ 2 + dd; omega) (Nat.le_of_ble_eq_true rfl) (Nat.le_refl _) ⟨Nat.le_of_ble_eq_true rfl, Nat.le_of_ble_eq_true rfl⟩ zhn_X8_longOf rfl (Nat.le_of_ble_eq_true rfl) rfl (z_contI (fun v12 μ12 h => ?_) h)
      refine s_imul A dX8_longOf_115 ?_
      refine s_iadd A dX8_longOf_116 ?_
      refine s_iadd A dX8_longOf_117 ?_
      refine s_istore_n (L' := [none, some (zI x1), some (zI (x2 + (1 + (8 * v12)))), some (zR r3)]) A dX8_longOf_118 (Nat.le_of_ble_eq_true rfl) rfl ?_
      refine s_goto (tgt := 143) A dX8_longOf_119 (by decide) ?_
      refine s_aload_n A dX8_longOf_143 rfl ?_
      refine z_eqS (st' := [zR (some b1)]) (by rw [c1] <;> rfl) ?_
      obtain ⟨o13, h⟩ := h
      refine s_getf (k := 8) (j := 5) (sl := false) (v := zR (zr μ12 b1 5)) A dX8_longOf_144 rfl zuw_X8 (Nat.le_of_ble_eq_true rfl) zwd664 (by decide) o13 rfl ?_
      refine s_astore_n (L' := [none, some (zI x1), some (zI (x2 + (1 + (8 * v12)))), some (zR (zr μ12 b1 5))]) A dX8_longOf_147 (Nat.le_of_ble_eq_true rfl) rfl ?_
      refine s_goto (tgt := 12) A dX8_longOf_148 (by decide) ?_
      exact h
    · obtain rfl := ztg_in (t := 68) ht17 112 hq (by decide) (by decide +kernel)
      have h := h.2.2.2.1 (by omega)
      refine s_iload_n A dX8_longOf_68 rfl ?_
      refine s_aload_n A dX8_longOf_69 rfl ?_
      refine z_eqS (st' := [zR (some b1), zI x2]) (by rw [c1] <;> rfl) ?_
      obtain ⟨o14, h⟩ := h
      refine s_getf (k := 8) (j := 1) (sl := false) (v := zI (zi μ b1 1)) A dX8_longOf_70 rfl zuw_X8 (Nat.le_of_ble_eq_true rfl) zwd656 (by decide) o14 rfl ?_
      refine s_iadd A dX8_longOf_73 ?_
      refine s_istore_n (L' := [none, some (zI x1), some (zI (x2 + (zi μ b1 1))), some (zR r3)]) A dX8_longOf_74 (Nat.le_of_ble_eq_true rfl) rfl ?_
      refine s_goto (tgt := 143) A dX8_longOf_75 (by decide) ?_
      refine s_aload_n A dX8_longOf_143 rfl ?_
      refine z_eqS (st' := [zR (some b1)]) (by rw [c1] <;> rfl) ?_
      obtain ⟨o15, h⟩ := h
      refine s_getf (k := 8) (j := 5) (sl := false) (v := zR (zr μ b1 5)) A dX8_longOf_144 rfl zuw_X8 (Nat.le_of_ble_eq_true rfl) zwd664 (by decide) o15 rfl ?_
      refine s_astore_n (L' := [none, some (zI x1), some (zI (x2 + (zi μ b1 1))), some (zR (zr μ b1 5))]) A dX8_longOf_147 (Nat.le_of_ble_eq_true rfl) rfl ?_
      refine s_goto (tgt := 12) A dX8_longOf_148 (by decide) ?_
      exact h
    · obtain rfl := ztg_out (t := 140) ht17 hq (by decide)
      have h := h.2.2.2.2 (by omega)
      refine s_iinc (L' := [none, some (zI x1), some (zI (x2 + 1)), some (zR r3)]) A dX8_longOf_140 rfl rfl ?_
      refine s_aload_n A dX8_longOf_143 rfl ?_
      refine z_eqS (st' := [zR (some b1)]) (by rw [c1] <;> rfl) ?_
      obtain ⟨o16, h⟩ := h
      refine s_getf (k := 8) (j := 5) (sl := false) (v := zR (zr μ b1 5)) A dX8_longOf_144 rfl zuw_X8 (Nat.le_of_ble_eq_true rfl) zwd664 (by decide) o16 rfl ?_
      refine s_astore_n (L' := [none, some (zI x1), some (zI (x2 + 1)), some (zR (zr μ b1 5))]) A dX8_longOf_147 (Nat.le_of_ble_eq_true rfl) rfl ?_
      refine s_goto (tgt := 12) A dX8_longOf_148 (by decide) ?_
      exact h
theorem eX8_longOf {G : zG} {dd : Nat} {F : Int → zM → Prop} {μ : zM} {r0 : Option Nat} {x1 : Int} (h : ∀ J, zJ G true (2 + dd) 0 0 mX8_longOf (zKI F) J → J 0 ([some (zR r0), some (zI x1), none, none], [], μ, 0, 0)) : qX8_longOf G dd r0 x1 μ F :=
  z_body (by decide +kernel) (Nat.le_of_ble_eq_true rfl) h
