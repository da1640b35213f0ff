set_option maxRecDepth 20000 in
theorem rX4_init_e {G : zG} {F : zM → Prop} {J : Nat → zS → Prop} {μ : zM} (C : zJ G false (2) 2 13122 mX4_init (zKV F) J) (a0 : Nat)
    (h : zs false (znew μ (40, 6561)) (zn μ) = (40, 6561) ∧ ∀ b1 μ1, b1 = zn μ → μ1 = znew μ (40, 6561) → zok false μ1 a0 (4, 9) ∧ zok false (zupr μ1 a0 0 (some b1)) a0 (4, 9) ∧ zok false (zup (zupr μ1 a0 0 (some b1)) a0 2 (-1)) a0 (4, 9) ∧ zs false (znew (zup (zup (zupr μ1 a0 0 (some b1)) a0 2 (-1)) a0 3 (-1)) (40, 6561)) (zn (zup (zup (zupr μ1 a0 0 (some b1)) a0 2 (-1)) a0 3 (-1))) = (40, 6561) ∧ ∀ b5 μ5, b5 = zn (zup (zup (zupr μ1 a0 0 (some b1)) a0 2 (-1)) a0 3 (-1)) → μ5 = znew (zup (zup (zupr μ1 a0 0 (some b1)) a0 2 (-1)) a0 3 (-1)) (40, 6561) → zok false μ5 a0 (4, 9) ∧ F (zupr μ5 a0 4 (some b5))) : J 0 ([some (zR (some a0))], [], μ, 0, 0) := by
  obtain ⟨p, e, s, m, args, below, meth, c, A, hml, hr, hlk, hnm, rfl⟩ := C
  refine s_aload_n A dX4_init_0 rfl ?_
  refine z_objInit A dX4_init_1 zwd276 zwd119 zwd120 (Nat.le_of_ble_eq_true rfl) (by decide) (Nat.le_of_ble_eq_true rfl) ?_
  refine s_aload_n A dX4_init_4 rfl ?_
  refine s_sipush A dX4_init_5 rfl ?_
  obtain ⟨o1, h⟩ := h
  refine z_newa_int (n := 6561) A dX4_init_8 rfl (by decide) zwd137 o1 (Nat.le_of_ble_eq_true rfl) (Nat.le_of_ble_eq_true rfl) (fun b1 μ1 eb1 em1 => ?_)
  have h := h b1 μ1 eb1 em1
  obtain ⟨o2, h⟩ := h
  refine z_putFR (k := 4) (j := 0) (sl := false) A dX4_init_10 rfl zuw_X4 (Nat.le_of_ble_eq_true rfl) zwd277 (by decide) o2 tyX4 tyX4_ok nmX4 rfl (Or.inl rfl) rfl (Or.inr ⟨_, rfl⟩) rfl hnm rfl ?_
  refine s_aload_n A dX4_init_13 rfl ?_
  refine s_iconst A dX4_init_14 ?_
  obtain ⟨o3, h⟩ := h
  refine z_putI (k := 4) (j := 2) (sl := false) A dX4_init_15 rfl zuw_X4 (Nat.le_of_ble_eq_true rfl) zwd281 (by decide) o3 tyX4 tyX4_ok nmX4 rfl rfl rfl ?_
  refine s_aload_n A dX4_init_18 rfl ?_
  refine s_iconst A dX4_init_19 ?_
  obtain ⟨o4, h⟩ := h
  refine z_putI (k := 4) (j := 3) (sl := false) A dX4_init_20 rfl zuw_X4 (Nat.le_of_ble_eq_true rfl) zwd282 (by decide) o4 tyX4 tyX4_ok nmX4 rfl rfl rfl ?_
  refine s_aload_n A dX4_init_23 rfl ?_
  refine s_sipush A dX4_init_24 rfl ?_
  obtain ⟨o5, h⟩ := h
  refine z_newa_int (n := 6561) A dX4_init_27 rfl (by decide) zwd137 o5 (Nat.le_of_ble_eq_true rfl) (Nat.le_of_ble_eq_true rfl) (fun b5 μ5 eb5 em5 => ?_)
  have h := h b5 μ5 eb5 em5
  obtain ⟨o6, h⟩ := h
  refine z_putFR (k := 4) (j := 4) (sl := false) A dX4_init_29 rfl zuw_X4 (Nat.le_of_ble_eq_true rfl) zwd283 (by decide) o6 tyX4 tyX4_ok nmX4 rfl (Or.inl rfl) rfl (Or.inr ⟨_, rfl⟩) rfl hnm rfl ?_
  exact s_vret A dX4_init_32 hr hlk (Nat.le_of_ble_eq_true rfl) (Nat.le_of_ble_eq_true rfl) ⟨rfl, h⟩
theorem eX4_init {G : zG} {F : zM → Prop} {μ : zM} {a0 : Nat} (h : ∀ J, zJ G false (2) 2 13122 mX4_init (zKV F) J → J 0 ([some (zR (some a0))], [], μ, 0, 0)) : qX4_init G a0 μ F :=
  z_body (by decide +kernel) (Nat.le_of_ble_eq_true rfl) h
set_option maxRecDepth 20000 in
theorem rX7_isOpen_e {G : zG} {F : Int → zM → Prop} {J : Nat → zS → Prop} {μ : zM} (C : zJ G true (2) 0 0 mX7_isOpen (zKI F) J) {a0 : Nat} (ha0 : zIsSt a0) (x1 : Int)
    (h : qX10_totalOf G true x1 μ (fun v1 μ1 => zin v1 ∧ zin (zi μ1 (a0 + 3) 0) ∧ ((zi μ1 (a0 + 3) 0 < v1 → F 0 μ1) ∧ (¬ (zi μ1 (a0 + 3) 0 < v1) → qX10_amountOf G true x1 3 μ1 (fun v5 μ5 => zin v5 ∧ zin (zi μ5 (a0 + 3) 3) ∧ ((zi μ5 (a0 + 3) 3 < v5 → F 0 μ5) ∧ (¬ (zi μ5 (a0 + 3) 3 < v5) → F 1 μ5))))))) : J 0 ([some (zR (some (a0))), some (zI x1)], [], μ, 0, 0) := by
  obtain ⟨p, e, s, m, args, below, meth, c, A, hml, hr, hlk, hnm, rfl⟩ := C
  refine s_iload_n A dX7_isOpen_0 rfl ?_
  refine s_callSN (host := "InkFolds") (M := mX10_totalOf) (n := 1) (d := 0) (mc := 0) (ms := 0) (av := [zI x1]) (st := []) A dX7_isOpen_1 zwr855 zwd856 zwd89 zcd_X10_totalOf (Nat.le_of_ble_eq_true rfl) (Nat.le_of_ble_eq_true rfl) (Nat.le_refl _) ⟨Nat.le_of_ble_eq_true rfl, Nat.le_of_ble_eq_true rfl⟩ zhn_X10_totalOf rfl (Nat.le_of_ble_eq_true rfl) rfl (z_contI (fun v1 μ1 h => ?_) h)
  refine s_aload_n A dX7_isOpen_4 rfl ?_
  refine s_getf (k := 7) (j := 2) (sl := true) (v := zR (some (a0 + 3))) A dX7_isOpen_5 rfl zuw_X7 (Nat.le_of_ble_eq_true rfl) zwd188 (by decide) (ha0.k0 _) rfl ?_
  refine s_iconst A dX7_isOpen_8 ?_
  refine z_iald A dX7_isOpen_9 (ha0.k3 _) (Nat.le_of_ble_eq_true rfl) ⟨by decide, by decide⟩ ?_
  obtain ⟨oz2, h⟩ := h
  obtain ⟨oz3, h⟩ := h
  refine z_icmp_gt (tgt := 31) A dX7_isOpen_10 (by decide) oz2 oz3 (fun c4 => ?_) (fun c4 => ?_)
  · have h := h.1 c4
    refine s_iconst A dX7_isOpen_31 ?_
    exact s_zret A dX7_isOpen_32 hr hlk (Nat.le_of_ble_eq_true rfl) (Nat.le_of_ble_eq_true rfl) (Or.inl rfl) ⟨_, rfl, h⟩
  · have h := h.2 c4
    refine s_iload_n A dX7_isOpen_13 rfl ?_
    refine s_iconst A dX7_isOpen_14 ?_
    refine s_callSN (host := "InkFolds") (M := mX10_amountOf) (n := 2) (d := 0) (mc := 0) (ms := 0) (av := [zI x1, zI 3]) (st := []) A dX7_isOpen_15 zwr858 zwd840 zwd89 zcd_X10_amountOf (Nat.le_of_ble_eq_true rfl) (Nat.le_of_ble_eq_true rfl) (Nat.le_refl _) ⟨Nat.le_of_ble_eq_true rfl, Nat.le_of_ble_eq_true rfl⟩ zhn_X10_amountOf rfl (Nat.le_of_ble_eq_true rfl) rfl (z_contI (fun v5 μ5 h => ?_) h)
    refine s_aload_n A dX7_isOpen_18 rfl ?_
    refine s_getf (k := 7) (j := 2) (sl := true) (v := zR (some (a0 + 3))) A dX7_isOpen_19 rfl zuw_X7 (Nat.le_of_ble_eq_true rfl) zwd188 (by decide) (ha0.k0 _) rfl ?_
    refine s_iconst A dX7_isOpen_22 ?_
    refine z_iald A dX7_isOpen_23 (ha0.k3 _) (Nat.le_of_ble_eq_true rfl) ⟨by decide, by decide⟩ ?_
    obtain ⟨oz6, h⟩ := h
    obtain ⟨oz7, h⟩ := h
    refine z_icmp_gt (tgt := 31) A dX7_isOpen_24 (by decide) oz6 oz7 (fun c8 => ?_) (fun c8 => ?_)
    · have h := h.1 c8
      refine s_iconst A dX7_isOpen_31 ?_
      exact s_zret A dX7_isOpen_32 hr hlk (Nat.le_of_ble_eq_true rfl) (Nat.le_of_ble_eq_true rfl) (Or.inl rfl) ⟨_, rfl, h⟩
    · have h := h.2 c8
      refine s_iconst A dX7_isOpen_27 ?_
      refine s_goto (tgt := 32) A dX7_isOpen_28 (by decide) ?_
      exact s_zret A dX7_isOpen_32 hr hlk (Nat.le_of_ble_eq_true rfl) (Nat.le_of_ble_eq_true rfl) (Or.inr rfl) ⟨_, rfl, h⟩
theorem eX7_isOpen {G : zG} {F : Int → zM → Prop} {μ : zM} {a0 : Nat} {x1 : Int} (h : ∀ J, zJ G true (2) 0 0 mX7_isOpen (zKI F) J → J 0 ([some (zR (some (a0))), some (zI x1)], [], μ, 0, 0)) : qX7_isOpen G a0 x1 μ F :=
  z_body (by decide +kernel) (Nat.le_of_ble_eq_true rfl) h
set_option maxRecDepth 20000 in
theorem rX4_follow_e {G : zG} {F : zM → Prop} {J : Nat → zS → Prop} {μ : zM} (C : zJ G true (3) 0 0 mX4_follow (zKV F) J) {a1 : Nat} (ha1 : zIsSt a1)
    (h : zin (zi μ 125 2) ∧ zin (zi μ (a1 + 3) 0) ∧ ((¬ zi μ 125 2 = zi μ (a1 + 3) 0 → J 54 ([some (zR (some 125)), some (zR (some (a1))), some (zI 0)], [], zup (zup (zup μ 125 2 (zi μ (a1 + 3) 0)) 125 3 (zi (zup μ 125 2 (zi μ (a1 + 3) 0)) (a1 + 3) 3)) 125 1 0, 0, 0)) ∧ (zi μ 125 2 = zi μ (a1 + 3) 0 → zin (zi μ 125 3) ∧ zin (zi μ (a1 + 3) 3) ∧ ((¬ zi μ 125 3 = zi μ (a1 + 3) 3 → J 54 ([some (zR (some 125)), some (zR (some (a1))), some (zI 0)], [], zup (zup (zup μ 125 2 (zi μ (a1 + 3) 0)) 125 3 (zi (zup μ 125 2 (zi μ (a1 + 3) 0)) (a1 + 3) 3)) 125 1 0, 0, 0)) ∧ (zi μ 125 3 = zi μ (a1 + 3) 3 → F μ))))) : J 0 ([some (zR (some 125)), some (zR (some (a1))), none], [], μ, 0, 0) := by
  obtain ⟨p, e, s, m, args, below, meth, c, A, hml, hr, hlk, hnm, rfl⟩ := C
  refine s_aload_n A dX4_follow_0 rfl ?_
  refine s_getf (k := 4) (j := 2) (sl := true) (v := zI (zi μ 125 2)) A dX4_follow_1 rfl zuw_X4 (Nat.le_of_ble_eq_true rfl) zwd281 (by decide) (zk_125 _) rfl ?_
  refine s_aload_n A dX4_follow_4 rfl ?_
  refine s_getf (k := 7) (j := 2) (sl := true) (v := zR (some (a1 + 3))) A dX4_follow_5 rfl zuw_X7 (Nat.le_of_ble_eq_true rfl) zwd189 (by decide) (ha1.k0 _) rfl ?_
  refine s_iconst A dX4_follow_8 ?_
  refine z_iald A dX4_follow_9 (ha1.k3 _) (Nat.le_of_ble_eq_true rfl) ⟨by decide, by decide⟩ ?_
  obtain ⟨oz1, h⟩ := h
  obtain ⟨oz2, h⟩ := h
  refine z_icmp_ne (tgt := 27) A dX4_follow_10 (by decide) oz1 oz2 (fun c3 => ?_) (fun c3 => ?_)
  · have h := h.1 c3
    refine s_aload_n A dX4_follow_27 rfl ?_
    refine s_aload_n A dX4_follow_28 rfl ?_
    refine s_getf (k := 7) (j := 2) (sl := true) (v := zR (some (a1 + 3))) A dX4_follow_29 rfl zuw_X7 (Nat.le_of_ble_eq_true rfl) zwd189 (by decide) (ha1.k0 _) rfl ?_
    refine s_iconst A dX4_follow_32 ?_
    refine z_iald A dX4_follow_33 (ha1.k3 _) (Nat.le_of_ble_eq_true rfl) ⟨by decide, by decide⟩ ?_
    refine z_putI (k := 4) (j := 2) (sl := true) A dX4_follow_34 rfl zuw_X4 (Nat.le_of_ble_eq_true rfl) zwd281 (by decide) (zk_125 _) tyX4 tyX4_ok nmX4 rfl rfl rfl ?_
    refine s_aload_n A dX4_follow_37 rfl ?_
    refine s_aload_n A dX4_follow_38 rfl ?_
    refine s_getf (k := 7) (j := 2) (sl := true) (v := zR (some (a1 + 3))) A dX4_follow_39 rfl zuw_X7 (Nat.le_of_ble_eq_true rfl) zwd189 (by decide) (ha1.k0 _) rfl ?_
    refine s_iconst A dX4_follow_42 ?_
    refine z_iald A dX4_follow_43 (ha1.k3 _) (Nat.le_of_ble_eq_true rfl) ⟨by decide, by decide⟩ ?_
    refine z_putI (k := 4) (j := 3) (sl := true) A dX4_follow_44 rfl zuw_X4 (Nat.le_of_ble_eq_true rfl) zwd282 (by decide) (zk_125 _) tyX4 tyX4_ok nmX4 rfl rfl rfl ?_
    refine s_aload_n A dX4_follow_47 rfl ?_
    refine s_iconst A dX4_follow_48 ?_
    refine z_putI (k := 4) (j := 1) (sl := true) A dX4_follow_49 rfl zuw_X4 (Nat.le_of_ble_eq_true rfl) zwd279 (by decide) (zk_125 _) tyX4 tyX4_ok nmX4 rfl rfl rfl ?_
    refine s_iconst A dX4_follow_52 ?_
    refine s_istore_n (L' := [some (zR (some 125)), some (zR (some (a1))), some (zI 0)]) A dX4_follow_53 (Nat.le_of_ble_eq_true rfl) rfl ?_
    exact h
  · have h := h.2 c3
    refine s_aload_n A dX4_follow_13 rfl ?_
    refine s_getf (k := 4) (j := 3) (sl := true) (v := zI (zi μ 125 3)) A dX4_follow_14 rfl zuw_X4 (Nat.le_of_ble_eq_true rfl) zwd282 (by decide) (zk_125 _) rfl ?_
    refine s_aload_n A dX4_follow_17 rfl ?_
    refine s_getf (k := 7) (j := 2) (sl := true) (v := zR (some (a1 + 3))) A dX4_follow_18 rfl zuw_X7 (Nat.le_of_ble_eq_true rfl) zwd189 (by decide) (ha1.k0 _) rfl ?_
    refine s_iconst A dX4_follow_21 ?_
    refine z_iald A dX4_follow_22 (ha1.k3 _) (Nat.le_of_ble_eq_true rfl) ⟨by decide, by decide⟩ ?_
    obtain ⟨oz4, h⟩ := h
    obtain ⟨oz5, h⟩ := h
    refine z_icmp_ne (tgt := 27) A dX4_follow_23 (by decide) oz4 oz5 (fun c6 => ?_) (fun c6 => ?_)
    · have h := h.1 c6
      refine s_aload_n A dX4_follow_27 rfl ?_
      refine s_aload_n A dX4_follow_28 rfl ?_
      refine s_getf (k := 7) (j := 2) (sl := true) (v := zR (some (a1 + 3))) A dX4_follow_29 rfl zuw_X7 (Nat.le_of_ble_eq_true rfl) zwd189 (by decide) (ha1.k0 _) rfl ?_
      refine s_iconst A dX4_follow_32 ?_
      refine z_iald A dX4_follow_33 (ha1.k3 _) (Nat.le_of_ble_eq_true rfl) ⟨by decide, by decide⟩ ?_
      refine z_putI (k := 4) (j := 2) (sl := true) A dX4_follow_34 rfl zuw_X4 (Nat.le_of_ble_eq_true rfl) zwd281 (by decide) (zk_125 _) tyX4 tyX4_ok nmX4 rfl rfl rfl ?_
      refine s_aload_n A dX4_follow_37 rfl ?_
      refine s_aload_n A dX4_follow_38 rfl ?_
      refine s_getf (k := 7) (j := 2) (sl := true) (v := zR (some (a1 + 3))) A dX4_follow_39 rfl zuw_X7 (Nat.le_of_ble_eq_true rfl) zwd189 (by decide) (ha1.k0 _) rfl ?_
      refine s_iconst A dX4_follow_42 ?_
      refine z_iald A dX4_follow_43 (ha1.k3 _) (Nat.le_of_ble_eq_true rfl) ⟨by decide, by decide⟩ ?_
      refine z_putI (k := 4) (j := 3) (sl := true) A dX4_follow_44 rfl zuw_X4 (Nat.le_of_ble_eq_true rfl) zwd282 (by decide) (zk_125 _) tyX4 tyX4_ok nmX4 rfl rfl rfl ?_
      refine s_aload_n A dX4_follow_47 rfl ?_
      refine s_iconst A dX4_follow_48 ?_
      refine z_putI (k := 4) (j := 1) (sl := true) A dX4_follow_49 rfl zuw_X4 (Nat.le_of_ble_eq_true rfl) zwd279 (by decide) (zk_125 _) tyX4 tyX4_ok nmX4 rfl rfl rfl ?_
      refine s_iconst A dX4_follow_52 ?_
      refine s_istore_n (L' := [some (zR (some 125)), some (zR (some (a1))), some (zI 0)]) A dX4_follow_53 (Nat.le_of_ble_eq_true rfl) rfl ?_
      exact h
    · have h := h.2 c6
      exact s_vret A dX4_follow_26 hr hlk (Nat.le_of_ble_eq_true rfl) (Nat.le_of_ble_eq_true rfl) ⟨rfl, h⟩
set_option maxRecDepth 20000 in
theorem rX4_follow_54 {G : zG} {F : zM → Prop} {J : Nat → zS → Prop} {μ : zM} (C : zJ G true (3) 0 0 mX4_follow (zKV F) J) {a1 : Nat} (ha1 : zIsSt a1) (x2 : Int)
    (h : zin x2 ∧ ((6561 ≤ x2 → F μ) ∧ (¬ (6561 ≤ x2) → qX7_isOpen G a1 x2 μ (fun v3 μ3 => zin v3 ∧ ((v3 = 0 → J 54 ([some (zR (some 125)), some (zR (some (a1))), some (zI (x2 + 1))], [], μ3, 0, 0)) ∧ (¬ (v3 = 0) → (0 ≤ zi μ3 125 1 ∧ zi μ3 125 1 < 6561) ∧ J 54 ([some (zR (some 125)), some (zR (some (a1))), some (zI (x2 + 1))], [], zup (zup μ3 126 (zi μ3 125 1) x2) 125 1 ((zi (zup μ3 126 (zi μ3 125 1) x2) 125 1) + 1), 0, 0))))))) : J 54 ([some (zR (some 125)), some (zR (some (a1))), some (zI x2)], [], μ, 0, 0) := by
  obtain ⟨p, e, s, m, args, below, meth, c, A, hml, hr, hlk, hnm, rfl⟩ := C
  refine s_iload_n A dX4_follow_54 rfl ?_
  refine s_sipush A dX4_follow_55 rfl ?_
  obtain ⟨oz1, h⟩ := h
  refine z_icmp_ge (tgt := 95) A dX4_follow_58 (by decide) oz1 ⟨by decide, by decide⟩ (fun c2 => ?_) (fun c2 => ?_)
  · have h := h.1 c2
    exact s_vret A dX4_follow_95 hr hlk (Nat.le_of_ble_eq_true rfl) (Nat.le_of_ble_eq_true rfl) ⟨rfl, h⟩
  · have h := h.2 c2
    refine s_aload_n A dX4_follow_61 rfl ?_
    refine s_iload_n A dX4_follow_62 rfl ?_
    refine s_callV (a := a1) (k := 7) (N := 9) (sl := true) (M := mX7_isOpen) (n := 1) (d := 2) (mc := 0) (ms := 0) (av := [zI x2]) (st := []) A dX4_follow_63 rfl (by decide) (ha1.k0 _) zwd851 zwd852 zwd853 zwd92 zcd_X7_isOpen (Nat.le_of_ble_eq_true rfl) (Nat.le_of_ble_eq_true rfl) (Nat.le_refl _) ⟨Nat.le_of_ble_eq_true rfl, Nat.le_of_ble_eq_true rfl⟩ ⟨rfl, zhn_X7_isOpen⟩ rfl (Nat.le_of_ble_eq_true rfl) rfl (z_contI (fun v3 μ3 h => ?_) h)
    obtain ⟨oz4, h⟩ := h
    refine z_if_eq (tgt := 89) A dX4_follow_66 (by decide) oz4 (fun c5 => ?_) (fun c5 => ?_)
    · have h := h.1 c5
      refine s_iinc (L' := [some (zR (some 125)), some (zR (some (a1))), some (zI (x2 + 1))]) A dX4_follow_89 rfl rfl ?_
      refine s_goto (tgt := 54) A dX4_follow_92 (by decide) ?_
      exact h
    · have h := h.2 c5
      refine s_aload_n A dX4_follow_69 rfl ?_
      refine s_getf (k := 4) (j := 0) (sl := true) (v := zR (some 126)) A dX4_follow_70 rfl zuw_X4 (Nat.le_of_ble_eq_true rfl) zwd277 (by decide) (zk_125 _) rfl ?_
      refine s_aload_n A dX4_follow_73 rfl ?_
      refine s_getf (k := 4) (j := 1) (sl := true) (v := zI (zi μ3 125 1)) A dX4_follow_74 rfl zuw_X4 (Nat.le_of_ble_eq_true rfl) zwd279 (by decide) (zk_125 _) rfl ?_
      refine s_iload_n A dX4_follow_77 rfl ?_
      obtain ⟨ox6, h⟩ := h
      refine z_iast A dX4_follow_78 (zk_126 _) (Nat.le_of_ble_eq_true rfl) ox6 ?_
      refine s_aload_n A dX4_follow_79 rfl ?_
      refine s_dup A dX4_follow_80 rfl ?_
      refine s_getf (k := 4) (j := 1) (sl := true) (v := zI (zi (zup μ3 126 (zi μ3 125 1) x2) 125 1)) A dX4_follow_81 rfl zuw_X4 (Nat.le_of_ble_eq_true rfl) zwd279 (by decide) (zk_125 _) rfl ?_
      refine s_iconst A dX4_follow_84 ?_
      refine s_iadd A dX4_follow_85 ?_
      refine z_putI (k := 4) (j := 1) (sl := true) A dX4_follow_86 rfl zuw_X4 (Nat.le_of_ble_eq_true rfl) zwd279 (by decide) (zk_125 _) tyX4 tyX4_ok nmX4 rfl rfl rfl ?_
      refine s_iinc (L' := [some (zR (some 125)), some (zR (some (a1))), some (zI (x2 + 1))]) A dX4_follow_89 rfl rfl ?_
      refine s_goto (tgt := 54) A dX4_follow_92 (by decide) ?_
      exact h
theorem eX4_follow {G : zG} {F : zM → Prop} {μ : zM} {a1 : Nat} (h : ∀ J, zJ G true (3) 0 0 mX4_follow (zKV F) J → J 0 ([some (zR (some 125)), some (zR (some (a1))), none], [], μ, 0, 0)) : qX4_follow G a1 μ F :=
  z_body (by decide +kernel) (Nat.le_of_ble_eq_true rfl) h
set_option maxRecDepth 20000 in
theorem rX4_leastDistance_e {G : zG} {F : Int → zM → Prop} {J : Nat → zS → Prop} {μ : zM} (C : zJ G true (8) 0 0 mX4_leastDistance (zKI F) J) {a1 : Nat} (ha1 : zIsSt a1) {a2 : Nat} (ha2 : zIsCh a2) (x3 : Int) (x4 : Int) (x5 : Int)
    (h : J 7 ([some (zR (some 125)), some (zR (some (a1))), some (zR (some (a2))), some (zI x3), some (zI x4), some (zI x5), some (zI 2147483647), some (zI 0)], [], μ, 0, 0)) : J 0 ([some (zR (some 125)), some (zR (some (a1))), some (zR (some (a2))), some (zI x3), some (zI x4), some (zI x5), none, none], [], μ, 0, 0) := by
  obtain ⟨p, e, s, m, args, below, meth, c, A, hml, hr, hlk, hnm, rfl⟩ := C
  refine s_ldc (z := 2147483647) A dX4_leastDistance_0 zwd910 (by decide +kernel) ?_
  refine s_istore (L' := [some (zR (some 125)), some (zR (some (a1))), some (zR (some (a2))), some (zI x3), some (zI x4), some (zI x5), some (zI 2147483647), none]) A dX4_leastDistance_2 (Nat.le_of_ble_eq_true rfl) rfl ?_
  refine s_iconst A dX4_leastDistance_4 ?_
  refine s_istore (L' := [some (zR (some 125)), some (zR (some (a1))), some (zR (some (a2))), some (zI x3), some (zI x4), some (zI x5), some (zI 2147483647), some (zI 0)]) A dX4_leastDistance_5 (Nat.le_of_ble_eq_true rfl) rfl ?_
  exact h
set_option maxRecDepth 20000 in
theorem rX4_leastDistance_7 {G : zG} {F : Int → zM → Prop} {J : Nat → zS → Prop} {μ : zM} (C : zJ G true (8) 0 0 mX4_leastDistance (zKI F) J) {a1 : Nat} (ha1 : zIsSt a1) {a2 : Nat} (ha2 : zIsCh a2) (x3 : Int) (x4 : Int) (x5 : Int) (x6 : Int) (x7 : Int)
    (h : zin x7 ∧ zin (zi μ 125 1) ∧ ((zi μ 125 1 ≤ x7 → F x6 μ) ∧ (¬ (zi μ 125 1 ≤ x7) → (0 ≤ x7 ∧ x7 < 6561) ∧ qX0_distanceTo G a2 a1 (zi μ 126 x7) x3 x4 x5 μ (fun v5 μ5 => zin x6 ∧ zin (zi (zup μ5 127 x7 v5) 127 x7) ∧ J 7 ([some (zR (some 125)), some (zR (some (a1))), some (zR (some (a2))), some (zI x3), some (zI x4), some (zI x5), some (zI (min x6 (zi (zup μ5 127 x7 v5) 127 x7))), some (zI (x7 + 1))], [], zup μ5 127 x7 v5, 0, 0))))) : J 7 ([some (zR (some 125)), some (zR (some (a1))), some (zR (some (a2))), some (zI x3), some (zI x4), some (zI x5), some (zI x6), some (zI x7)], [], μ, 0, 0) := by
  obtain ⟨p, e, s, m, args, below, meth, c, A, hml, hr, hlk, hnm, rfl⟩ := C
  refine s_iload A dX4_leastDistance_7 rfl ?_
  refine s_aload_n A dX4_leastDistance_9 rfl ?_
  refine s_getf (k := 4) (j := 1) (sl := true) (v := zI (zi μ 125 1)) A dX4_leastDistance_10 rfl zuw_X4 (Nat.le_of_ble_eq_true rfl) zwd279 (by decide) (zk_125 _) rfl ?_
  obtain ⟨oz1, h⟩ := h
  obtain ⟨oz2, h⟩ := h
  refine z_icmp_ge (tgt := 60) A dX4_leastDistance_13 (by decide) oz1 oz2 (fun c3 => ?_) (fun c3 => ?_)
  · have h := h.1 c3
    refine s_iload A dX4_leastDistance_60 rfl ?_
    exact s_iret A dX4_leastDistance_62 hr hlk (Nat.le_of_ble_eq_true rfl) (Nat.le_of_ble_eq_true rfl) ⟨_, rfl, h⟩
  · have h := h.2 c3
    refine s_aload_n A dX4_leastDistance_16 rfl ?_
    refine s_getf (k := 4) (j := 4) (sl := true) (v := zR (some 127)) A dX4_leastDistance_17 rfl zuw_X4 (Nat.le_of_ble_eq_true rfl) zwd283 (by decide) (zk_125 _) rfl ?_
    refine s_iload A dX4_leastDistance_20 rfl ?_
    refine s_aload_n A dX4_leastDistance_22 rfl ?_
    refine s_aload_n A dX4_leastDistance_23 rfl ?_
    refine s_aload_n A dX4_leastDistance_24 rfl ?_
    refine s_getf (k := 4) (j := 0) (sl := true) (v := zR (some 126)) A dX4_leastDistance_25 rfl zuw_X4 (Nat.le_of_ble_eq_true rfl) zwd277 (by decide) (zk_125 _) rfl ?_
    refine s_iload A dX4_leastDistance_28 rfl ?_
    obtain ⟨ox4, h⟩ := h
    refine z_iald A dX4_leastDistance_30 (zk_126 _) (Nat.le_of_ble_eq_true rfl) ox4 ?_
    refine s_iload_n A dX4_leastDistance_31 rfl ?_
    refine s_iload A dX4_leastDistance_32 rfl ?_
    refine s_iload A dX4_leastDistance_34 rfl ?_
    refine s_callV (a := a2) (k := 0) (N := 5) (sl := true) (M := mX0_distanceTo) (n := 5) (d := 2) (mc := 0) (ms := 0) (av := [zR (some (a1)), zI (zi μ 126 x7), zI x3, zI x4, zI x5]) (st := [zI x7, zR (some 127)]) A dX4_leastDistance_36 rfl (by decide) (ha2.k0 _) zwd911 zwd912 zwd913 zwd95 zcd_X0_distanceTo (Nat.le_of_ble_eq_true rfl) (Nat.le_of_ble_eq_true rfl) (Nat.le_refl _) ⟨Nat.le_of_ble_eq_true rfl, Nat.le_of_ble_eq_true rfl⟩ ⟨rfl, zhn_X0_distanceTo⟩ rfl (Nat.le_of_ble_eq_true rfl) rfl (z_contI (fun v5 μ5 h => ?_) h)
    refine z_iast A dX4_leastDistance_39 (zk_127 _) (Nat.le_of_ble_eq_true rfl) ox4 ?_
    refine s_iload A dX4_leastDistance_40 rfl ?_
    refine s_aload_n A dX4_leastDistance_42 rfl ?_
    refine s_getf (k := 4) (j := 4) (sl := true) (v := zR (some 127)) A dX4_leastDistance_43 rfl zuw_X4 (Nat.le_of_ble_eq_true rfl) zwd283 (by decide) (zk_125 _) rfl ?_
    refine s_iload A dX4_leastDistance_46 rfl ?_
    refine z_iald A dX4_leastDistance_48 (zk_127 _) (Nat.le_of_ble_eq_true rfl) ox4 ?_
    obtain ⟨oz6, h⟩ := h
    obtain ⟨oz7, h⟩ := h
    refine z_mmin A dX4_leastDistance_49 zwd917 zwd509 zwd105 zwd510 (Nat.le_of_ble_eq_true rfl) (Nat.le_of_ble_eq_true rfl) ⟨Nat.le_of_ble_eq_true rfl, Nat.le_of_ble_eq_true rfl⟩ oz6 oz7 ?_
    refine s_istore (L' := [some (zR (some 125)), some (zR (some (a1))), some (zR (some (a2))), some (zI x3), some (zI x4), some (zI x5), some (zI (min x6 (zi (zup μ5 127 x7 v5) 127 x7))), some (zI x7)]) A dX4_leastDistance_52 (Nat.le_of_ble_eq_true rfl) rfl ?_
    refine s_iinc (L' := [some (zR (some 125)), some (zR (some (a1))), some (zR (some (a2))), some (zI x3), some (zI x4), some (zI x5), some (zI (min x6 (zi (zup μ5 127 x7 v5) 127 x7))), some (zI (x7 + 1))]) A dX4_leastDistance_54 rfl rfl ?_
    refine s_goto (tgt := 7) A dX4_leastDistance_57 (by decide) ?_
    exact h
theorem eX4_leastDistance {G : zG} {F : Int → zM → Prop} {μ : zM} {a1 : Nat} {a2 : Nat} {x3 : Int} {x4 : Int} {x5 : Int} (h : ∀ J, zJ G true (8) 0 0 mX4_leastDistance (zKI F) J → J 0 ([some (zR (some 125)), some (zR (some (a1))), some (zR (some (a2))), some (zI x3), some (zI x4), some (zI x5), none, none], [], μ, 0, 0)) : qX4_leastDistance G a1 a2 x3 x4 x5 μ F :=
  z_body (by decide +kernel) (Nat.le_of_ble_eq_true rfl) h
set_option maxRecDepth 20000 in
theorem rX4_countFits_e {G : zG} {F : zM → Prop} {J : Nat → zS → Prop} {μ : zM} (C : zJ G true (8) 0 0 mX4_countFits (zKV F) J) (x1 : Int)
    (h : J 18 ([some (zR (some 125)), some (zI x1), some (zI 0)], [], zup (zup (zup μ 125 8 0) 125 6 8) 125 7 0, 0, 0)) : J 0 ([some (zR (some 125)), some (zI x1), none], [], μ, 0, 0) := by
  obtain ⟨p, e, s, m, args, below, meth, c, A, hml, hr, hlk, hnm, rfl⟩ := C
  refine s_aload_n A dX4_countFits_0 rfl ?_
  refine s_iconst A dX4_countFits_1 ?_
  refine z_putI (k := 4) (j := 8) (sl := true) A dX4_countFits_2 rfl zuw_X4 (Nat.le_of_ble_eq_true rfl) zwd290 (by decide) (zk_125 _) tyX4 tyX4_ok nmX4 rfl rfl rfl ?_
  refine s_aload_n A dX4_countFits_5 rfl ?_
  refine s_bipush A dX4_countFits_6 rfl ?_
  refine z_putI (k := 4) (j := 6) (sl := true) A dX4_countFits_8 rfl zuw_X4 (Nat.le_of_ble_eq_true rfl) zwd286 (by decide) (zk_125 _) tyX4 tyX4_ok nmX4 rfl rfl rfl ?_
  refine s_aload_n A dX4_countFits_11 rfl ?_
  refine s_iconst A dX4_countFits_12 ?_
  refine z_putI (k := 4) (j := 7) (sl := true) A dX4_countFits_13 rfl zuw_X4 (Nat.le_of_ble_eq_true rfl) zwd288 (by decide) (zk_125 _) tyX4 tyX4_ok nmX4 rfl rfl rfl ?_
  refine s_iconst A dX4_countFits_16 ?_
  refine s_istore_n (L' := [some (zR (some 125)), some (zI x1), some (zI 0)]) A dX4_countFits_17 (Nat.le_of_ble_eq_true rfl) rfl ?_
  exact h
set_option maxRecDepth 20000 in
theorem rX4_countFits_18 {G : zG} {F : zM → Prop} {J : Nat → zS → Prop} {μ : zM} (C : zJ G true (8) 0 0 mX4_countFits (zKV F) J) (x1 : Int) (x2 : Int)
    (h : zin x2 ∧ zin (zi μ 125 1) ∧ ((zi μ 125 1 ≤ x2 → F μ) ∧ (¬ (zi μ 125 1 ≤ x2) → (0 ≤ x2 ∧ x2 < 6561) ∧ zin (zi μ 127 x2) ∧ zin x1 ∧ ((x1 < zi μ 127 x2 → J 18 ([some (zR (some 125)), some (zI x1), some (zI (x2 + 1))], [], μ, 0, 0)) ∧ (¬ (x1 < zi μ 127 x2) → qX10_amountOf G true (zi (zup μ 125 8 ((zi μ 125 8) + 1)) 126 x2) 3 (zup μ 125 8 ((zi μ 125 8) + 1)) (fun v8 μ8 => zin (zi (zup μ 125 8 ((zi μ 125 8) + 1)) 125 6) ∧ zin v8 ∧ qX10_amountOf G true (zi (zup μ8 125 6 (min (zi (zup μ 125 8 ((zi μ 125 8) + 1)) 125 6) v8)) 126 x2) 3 (zup μ8 125 6 (min (zi (zup μ 125 8 ((zi μ 125 8) + 1)) 125 6) v8)) (fun v11 μ11 => zin (zi (zup μ8 125 6 (min (zi (zup μ 125 8 ((zi μ 125 8) + 1)) 125 6) v8)) 125 7) ∧ zin v11 ∧ J 18 ([some (zR (some 125)), some (zI x1), some (zI (x2 + 1))], [], zup μ11 125 7 (max (zi (zup μ8 125 6 (min (zi (zup μ 125 8 ((zi μ 125 8) + 1)) 125 6) v8)) 125 7) v11), 0, 0)))))))) : J 18 ([some (zR (some 125)), some (zI x1), some (zI x2)], [], μ, 0, 0) := by
  obtain ⟨p, e, s, m, args, below, meth, c, A, hml, hr, hlk, hnm, rfl⟩ := C
  refine s_iload_n A dX4_countFits_18 rfl ?_
  refine s_aload_n A dX4_countFits_19 rfl ?_
  refine s_getf (k := 4) (j := 1) (sl := true) (v := zI (zi μ 125 1)) A dX4_countFits_20 rfl zuw_X4 (Nat.le_of_ble_eq_true rfl) zwd279 (by decide) (zk_125 _) rfl ?_
  obtain ⟨oz1, h⟩ := h
  obtain ⟨oz2, h⟩ := h
  refine z_icmp_ge (tgt := 94) A dX4_countFits_23 (by decide) oz1 oz2 (fun c3 => ?_) (fun c3 => ?_)
  · have h := h.1 c3
    exact s_vret A dX4_countFits_94 hr hlk (Nat.le_of_ble_eq_true rfl) (Nat.le_of_ble_eq_true rfl) ⟨rfl, h⟩
  · have h := h.2 c3
    refine s_aload_n A dX4_countFits_26 rfl ?_
    refine s_getf (k := 4) (j := 4) (sl := true) (v := zR (some 127)) A dX4_countFits_27 rfl zuw_X4 (Nat.le_of_ble_eq_true rfl) zwd283 (by decide) (zk_125 _) rfl ?_
    refine s_iload_n A dX4_countFits_30 rfl ?_
    obtain ⟨ox4, h⟩ := h
    refine z_iald A dX4_countFits_31 (zk_127 _) (Nat.le_of_ble_eq_true rfl) ox4 ?_
    refine s_iload_n A dX4_countFits_32 rfl ?_
    obtain ⟨oz5, h⟩ := h
    obtain ⟨oz6, h⟩ := h
    refine z_icmp_gt (tgt := 88) A dX4_countFits_33 (by decide) oz5 oz6 (fun c7 => ?_) (fun c7 => ?_)
    · have h := h.1 c7
      refine s_iinc (L' := [some (zR (some 125)), some (zI x1), some (zI (x2 + 1))]) A dX4_countFits_88 rfl rfl ?_
      refine s_goto (tgt := 18) A dX4_countFits_91 (by decide) ?_
      exact h
    · have h := h.2 c7
      refine s_aload_n A dX4_countFits_36 rfl ?_
      refine s_dup A dX4_countFits_37 rfl ?_
      refine s_getf (k := 4) (j := 8) (sl := true) (v := zI (zi μ 125 8)) A dX4_countFits_38 rfl zuw_X4 (Nat.le_of_ble_eq_true rfl) zwd290 (by decide) (zk_125 _) rfl ?_
      refine s_iconst A dX4_countFits_41 ?_
      refine s_iadd A dX4_countFits_42 ?_
      refine z_putI (k := 4) (j := 8) (sl := true) A dX4_countFits_43 rfl zuw_X4 (Nat.le_of_ble_eq_true rfl) zwd290 (by decide) (zk_125 _) tyX4 tyX4_ok nmX4 rfl rfl rfl ?_
      refine s_aload_n A dX4_countFits_46 rfl ?_
      refine s_aload_n A dX4_countFits_47 rfl ?_
      refine s_getf (k := 4) (j := 6) (sl := true) (v := zI (zi (zup μ 125 8 ((zi μ 125 8) + 1)) 125 6)) A dX4_countFits_48 rfl zuw_X4 (Nat.le_of_ble_eq_true rfl) zwd286 (by decide) (zk_125 _) rfl ?_
      refine s_aload_n A dX4_countFits_51 rfl ?_
      refine s_getf (k := 4) (j := 0) (sl := true) (v := zR (some 126)) A dX4_countFits_52 rfl zuw_X4 (Nat.le_of_ble_eq_true rfl) zwd277 (by decide) (zk_125 _) rfl ?_
      refine s_iload_n A dX4_countFits_55 rfl ?_
      refine z_iald A dX4_countFits_56 (zk_126 _) (Nat.le_of_ble_eq_true rfl) ox4 ?_
      refine s_iconst A dX4_countFits_57 ?_
      refine s_callSN (host := "InkFolds") (M := mX10_amountOf) (n := 2) (d := 0) (mc := 0) (ms := 0) (av := [zI (zi (zup μ 125 8 ((zi μ 125 8) + 1)) 126 x2), zI 3]) (st := [zI (zi (zup μ 125 8 ((zi μ 125 8) + 1)) 125 6), zR (some 125)]) A dX4_countFits_58 zwr922 zwd840 zwd89 zcd_X10_amountOf (Nat.le_of_ble_eq_true rfl) (Nat.le_of_ble_eq_true rfl) (Nat.le_refl _) ⟨Nat.le_of_ble_eq_true rfl, Nat.le_of_ble_eq_true rfl⟩ zhn_X10_amountOf rfl (Nat.le_of_ble_eq_true rfl) rfl (z_contI (fun v8 μ8 h => ?_) h)
      obtain ⟨oz9, h⟩ := h
      obtain ⟨oz10, h⟩ := h
      refine z_mmin A dX4_countFits_61 zwd917 zwd509 zwd105 zwd510 (Nat.le_of_ble_eq_true rfl) (Nat.le_of_ble_eq_true rfl) ⟨Nat.le_of_ble_eq_true rfl, Nat.le_of_ble_eq_true rfl⟩ oz9 oz10 ?_
      refine z_putI (k := 4) (j := 6) (sl := true) A dX4_countFits_64 rfl zuw_X4 (Nat.le_of_ble_eq_true rfl) zwd286 (by decide) (zk_125 _) tyX4 tyX4_ok nmX4 rfl rfl rfl ?_
      refine s_aload_n A dX4_countFits_67 rfl ?_
      refine s_aload_n A dX4_countFits_68 rfl ?_
      refine s_getf (k := 4) (j := 7) (sl := true) (v := zI (zi (zup μ8 125 6 (min (zi (zup μ 125 8 ((zi μ 125 8) + 1)) 125 6) v8)) 125 7)) A dX4_countFits_69 rfl zuw_X4 (Nat.le_of_ble_eq_true rfl) zwd288 (by decide) (zk_125 _) rfl ?_
      refine s_aload_n A dX4_countFits_72 rfl ?_
      refine s_getf (k := 4) (j := 0) (sl := true) (v := zR (some 126)) A dX4_countFits_73 rfl zuw_X4 (Nat.le_of_ble_eq_true rfl) zwd277 (by decide) (zk_125 _) rfl ?_
      refine s_iload_n A dX4_countFits_76 rfl ?_
      refine z_iald A dX4_countFits_77 (zk_126 _) (Nat.le_of_ble_eq_true rfl) ox4 ?_
      refine s_iconst A dX4_countFits_78 ?_
      refine s_callSN (host := "InkFolds") (M := mX10_amountOf) (n := 2) (d := 0) (mc := 0) (ms := 0) (av := [zI (zi (zup μ8 125 6 (min (zi (zup μ 125 8 ((zi μ 125 8) + 1)) 125 6) v8)) 126 x2), zI 3]) (st := [zI (zi (zup μ8 125 6 (min (zi (zup μ 125 8 ((zi μ 125 8) + 1)) 125 6) v8)) 125 7), zR (some 125)]) A dX4_countFits_79 zwr922 zwd840 zwd89 zcd_X10_amountOf (Nat.le_of_ble_eq_true rfl) (Nat.le_of_ble_eq_true rfl) (Nat.le_refl _) ⟨Nat.le_of_ble_eq_true rfl, Nat.le_of_ble_eq_true rfl⟩ zhn_X10_amountOf rfl (Nat.le_of_ble_eq_true rfl) rfl (z_contI (fun v11 μ11 h => ?_) h)
      obtain ⟨oz12, h⟩ := h
      obtain ⟨oz13, h⟩ := h
      refine z_mmax A dX4_countFits_82 zwd923 zwd506 zwd105 zwd507 (Nat.le_of_ble_eq_true rfl) (Nat.le_of_ble_eq_true rfl) ⟨Nat.le_of_ble_eq_true rfl, Nat.le_of_ble_eq_true rfl⟩ oz12 oz13 ?_
      refine z_putI (k := 4) (j := 7) (sl := true) A dX4_countFits_85 rfl zuw_X4 (Nat.le_of_ble_eq_true rfl) zwd288 (by decide) (zk_125 _) tyX4 tyX4_ok nmX4 rfl rfl rfl ?_
      refine s_iinc (L' := [some (zR (some 125)), some (zI x1), some (zI (x2 + 1))]) A dX4_countFits_88 rfl rfl ?_
      refine s_goto (tgt := 18) A dX4_countFits_91 (by decide) ?_
      exact h
theorem eX4_countFits {G : zG} {F : zM → Prop} {μ : zM} {x1 : Int} (h : ∀ J, zJ G true (8) 0 0 mX4_countFits (zKV F) J → J 0 ([some (zR (some 125)), some (zI x1), none], [], μ, 0, 0)) : qX4_countFits G x1 μ F :=
  z_body (by decide +kernel) (Nat.le_of_ble_eq_true rfl) h
set_option maxRecDepth 20000 in
theorem rX4_rankOf_e {G : zG} {F : Int → zM → Prop} {J : Nat → zS → Prop} {μ : zM} (C : zJ G true (8) 0 0 mX4_rankOf (zKL F) J) (x1 : Int) (x2 : Int)
    (h : (0 ≤ x1 ∧ x1 < 6561) ∧ qX10_amountOf G true (zi μ 126 x1) 3 μ (fun v2 μ2 => zin (v2 - x2) ∧ zin (((max (v2 - x2) (-(v2 - x2))) * 10) + v2) ∧ zin (zi μ2 127 x1) ∧ qX10_totalOf G true (zi μ2 126 x1) μ2 (fun v6 μ6 => zin v6 ∧ F (((((((max (v2 - x2) (-(v2 - x2))) * 10) + v2) * 10000000) + (zi μ2 127 x1)) * 100) + v6) μ6))) : J 0 ([some (zR (some 125)), some (zI x1), some (zI x2), none, none, none], [], μ, 0, 0) := by
  obtain ⟨p, e, s, m, args, below, meth, c, A, hml, hr, hlk, hnm, rfl⟩ := C
  refine s_aload_n A dX4_rankOf_0 rfl ?_
  refine s_getf (k := 4) (j := 0) (sl := true) (v := zR (some 126)) A dX4_rankOf_1 rfl zuw_X4 (Nat.le_of_ble_eq_true rfl) zwd277 (by decide) (zk_125 _) rfl ?_
  refine s_iload_n A dX4_rankOf_4 rfl ?_
  obtain ⟨ox1, h⟩ := h
  refine z_iald A dX4_rankOf_5 (zk_126 _) (Nat.le_of_ble_eq_true rfl) ox1 ?_
  refine s_iconst A dX4_rankOf_6 ?_
  refine s_callSN (host := "InkFolds") (M := mX10_amountOf) (n := 2) (d := 0) (mc := 0) (ms := 0) (av := [zI (zi μ 126 x1), zI 3]) (st := []) A dX4_rankOf_7 zwr922 zwd840 zwd89 zcd_X10_amountOf (Nat.le_of_ble_eq_true rfl) (Nat.le_of_ble_eq_true rfl) (Nat.le_refl _) ⟨Nat.le_of_ble_eq_true rfl, Nat.le_of_ble_eq_true rfl⟩ zhn_X10_amountOf rfl (Nat.le_of_ble_eq_true rfl) rfl (z_contI (fun v2 μ2 h => ?_) h)
  refine s_istore_n (L' := [some (zR (some 125)), some (zI x1), some (zI x2), some (zI v2), none, none]) A dX4_rankOf_10 (Nat.le_of_ble_eq_true rfl) rfl ?_
  refine s_iload_n A dX4_rankOf_11 rfl ?_
  refine s_iload_n A dX4_rankOf_12 rfl ?_
  refine s_isub A dX4_rankOf_13 ?_
  obtain ⟨oz3, h⟩ := h
  refine z_mabs A dX4_rankOf_14 zwd929 zwd638 zwd105 zwd639 (Nat.le_of_ble_eq_true rfl) (Nat.le_of_ble_eq_true rfl) ⟨Nat.le_of_ble_eq_true rfl, Nat.le_of_ble_eq_true rfl⟩ oz3 ?_
  refine s_bipush A dX4_rankOf_17 rfl ?_
  refine s_imul A dX4_rankOf_19 ?_
  refine s_iload_n A dX4_rankOf_20 rfl ?_
  refine s_iadd A dX4_rankOf_21 ?_
  obtain ⟨oz4, h⟩ := h
  refine z_i2l2 A dX4_rankOf_22 oz4 ?_
  refine s_lstore (L' := [some (zR (some 125)), some (zI x1), some (zI x2), some (zI v2), some (zL (((max (v2 - x2) (-(v2 - x2))) * 10) + v2)), none]) A dX4_rankOf_23 (Nat.le_of_ble_eq_true rfl) rfl ?_
  refine s_lload A dX4_rankOf_25 rfl ?_
  refine s_ldc2 (z := 10000000) A dX4_rankOf_27 zwd930 (by decide +kernel) ?_
  refine s_lmul A dX4_rankOf_30 ?_
  refine s_aload_n A dX4_rankOf_31 rfl ?_
  refine s_getf (k := 4) (j := 4) (sl := true) (v := zR (some 127)) A dX4_rankOf_32 rfl zuw_X4 (Nat.le_of_ble_eq_true rfl) zwd283 (by decide) (zk_125 _) rfl ?_
  refine s_iload_n A dX4_rankOf_35 rfl ?_
  refine z_iald A dX4_rankOf_36 (zk_127 _) (Nat.le_of_ble_eq_true rfl) ox1 ?_
  obtain ⟨oz5, h⟩ := h
  refine z_i2l2 A dX4_rankOf_37 oz5 ?_
  refine s_ladd A dX4_rankOf_38 ?_
  refine s_ldc2 (z := 100) A dX4_rankOf_39 zwd931 (by decide +kernel) ?_
  refine s_lmul A dX4_rankOf_42 ?_
  refine s_aload_n A dX4_rankOf_43 rfl ?_
  refine s_getf (k := 4) (j := 0) (sl := true) (v := zR (some 126)) A dX4_rankOf_44 rfl zuw_X4 (Nat.le_of_ble_eq_true rfl) zwd277 (by decide) (zk_125 _) rfl ?_
  refine s_iload_n A dX4_rankOf_47 rfl ?_
  refine z_iald A dX4_rankOf_48 (zk_126 _) (Nat.le_of_ble_eq_true rfl) ox1 ?_
  refine s_callSN (host := "InkFolds") (M := mX10_totalOf) (n := 1) (d := 0) (mc := 0) (ms := 0) (av := [zI (zi μ2 126 x1)]) (st := [zL ((((((max (v2 - x2) (-(v2 - x2))) * 10) + v2) * 10000000) + (zi μ2 127 x1)) * 100)]) A dX4_rankOf_49 zwr932 zwd856 zwd89 zcd_X10_totalOf (Nat.le_of_ble_eq_true rfl) (Nat.le_of_ble_eq_true rfl) (Nat.le_refl _) ⟨Nat.le_of_ble_eq_true rfl, Nat.le_of_ble_eq_true rfl⟩ zhn_X10_totalOf rfl (Nat.le_of_ble_eq_true rfl) rfl (z_contI (fun v6 μ6 h => ?_) h)
  obtain ⟨oz7, h⟩ := h
  refine z_i2l2 A dX4_rankOf_52 oz7 ?_
  refine s_ladd A dX4_rankOf_53 ?_
  exact s_lret A dX4_rankOf_54 hr hlk (Nat.le_of_ble_eq_true rfl) (Nat.le_of_ble_eq_true rfl) ⟨_, rfl, h⟩
theorem eX4_rankOf {G : zG} {F : Int → zM → Prop} {μ : zM} {x1 : Int} {x2 : Int} (h : ∀ J, zJ G true (8) 0 0 mX4_rankOf (zKL F) J → J 0 ([some (zR (some 125)), some (zI x1), some (zI x2), none, none, none], [], μ, 0, 0)) : qX4_rankOf G x1 x2 μ F :=
  z_body (by decide +kernel) (Nat.le_of_ble_eq_true rfl) h
set_option maxRecDepth 20000 in
theorem rX4_find_e {G : zG} {F : Int → zM → Prop} {J : Nat → zS → Prop} {μ : zM} (C : zJ G true (9) 0 0 mX4_find (zKI F) J) {a1 : Nat} (ha1 : zIsSt a1) {a2 : Nat} (ha2 : zIsCh a2) (x3 : Int) (x4 : Int) (x5 : Int)
    (h : qX4_leastDistance G a1 a2 x3 x4 x5 μ (fun v1 μ1 => qX4_countFits G (v1 + (zi μ1 (a1 + 3) 2)) μ1 (fun μ2 => (0 ≤ ((zi μ2 125 7) - (zi μ2 125 6)) * (zi μ2 (a1 + 3) 1) ∧ ((zi μ2 125 7) - (zi μ2 125 6)) * (zi μ2 (a1 + 3) 1) < 2147483648) ∧ J 62 ([some (zR (some 125)), none, none, none, none, none, some (zI (v1 + (zi μ1 (a1 + 3) 2))), some (zI ((zi μ2 125 6) + ((((zi μ2 125 7) - (zi μ2 125 6)) * (zi μ2 (a1 + 3) 1)) / 4))), some (zI 0), some (zL 9223372036854775807), none, some (zI 0)], [], μ2, 0, 0)))) : J 0 ([some (zR (some 125)), some (zR (some (a1))), some (zR (some (a2))), some (zI x3), some (zI x4), some (zI x5), none, none, none, none, none, none], [], μ, 0, 0) := by
  obtain ⟨p, e, s, m, args, below, meth, c, A, hml, hr, hlk, hnm, rfl⟩ := C
  refine s_aload_n A dX4_find_0 rfl ?_
  refine s_aload_n A dX4_find_1 rfl ?_
  refine s_aload_n A dX4_find_2 rfl ?_
  refine s_iload_n A dX4_find_3 rfl ?_
  refine s_iload A dX4_find_4 rfl ?_
  refine s_iload A dX4_find_6 rfl ?_
  refine s_callV (a := 125) (k := 4) (N := 9) (sl := true) (M := mX4_leastDistance) (n := 5) (d := 8) (mc := 0) (ms := 0) (av := [zR (some (a1)), zR (some (a2)), zI x3, zI x4, zI x5]) (st := []) A dX4_find_8 rfl (by decide) (zk_125 _) zwd906 zwd907 zwd908 zwd97 zcd_X4_leastDistance (Nat.le_of_ble_eq_true rfl) (Nat.le_of_ble_eq_true rfl) (Nat.le_refl _) ⟨Nat.le_of_ble_eq_true rfl, Nat.le_of_ble_eq_true rfl⟩ ⟨rfl, zhn_X4_leastDistance⟩ rfl (Nat.le_of_ble_eq_true rfl) rfl (z_contI (fun v1 μ1 h => ?_) h)
  refine s_aload_n A dX4_find_11 rfl ?_
  refine s_getf (k := 7) (j := 2) (sl := true) (v := zR (some (a1 + 3))) A dX4_find_12 rfl zuw_X7 (Nat.le_of_ble_eq_true rfl) zwd189 (by decide) (ha1.k0 _) rfl ?_
  refine s_iconst A dX4_find_15 ?_
  refine z_iald A dX4_find_16 (ha1.k3 _) (Nat.le_of_ble_eq_true rfl) ⟨by decide, by decide⟩ ?_
  refine s_iadd A dX4_find_17 ?_
  refine s_istore (L' := [some (zR (some 125)), some (zR (some (a1))), some (zR (some (a2))), some (zI x3), some (zI x4), some (zI x5), some (zI (v1 + (zi μ1 (a1 + 3) 2))), none, none, none, none, none]) A dX4_find_18 (Nat.le_of_ble_eq_true rfl) rfl ?_
  refine s_aload_n A dX4_find_20 rfl ?_
  refine s_iload A dX4_find_21 rfl ?_
  refine s_callV (a := 125) (k := 4) (N := 9) (sl := true) (M := mX4_countFits) (n := 1) (d := 8) (mc := 0) (ms := 0) (av := [zI (v1 + (zi μ1 (a1 + 3) 2))]) (st := []) A dX4_find_23 rfl (by decide) (zk_125 _) zwd918 zwd920 zwd10 zwd97 zcd_X4_countFits (Nat.le_of_ble_eq_true rfl) (Nat.le_of_ble_eq_true rfl) (Nat.le_refl _) ⟨Nat.le_of_ble_eq_true rfl, Nat.le_of_ble_eq_true rfl⟩ ⟨rfl, zhn_X4_countFits⟩ rfl (Nat.le_of_ble_eq_true rfl) rfl (z_contV (fun μ2 h => ?_) h)
  refine s_aload_n A dX4_find_26 rfl ?_
  refine s_getf (k := 4) (j := 6) (sl := true) (v := zI (zi μ2 125 6)) A dX4_find_27 rfl zuw_X4 (Nat.le_of_ble_eq_true rfl) zwd286 (by decide) (zk_125 _) rfl ?_
  refine s_aload_n A dX4_find_30 rfl ?_
  refine s_getf (k := 4) (j := 7) (sl := true) (v := zI (zi μ2 125 7)) A dX4_find_31 rfl zuw_X4 (Nat.le_of_ble_eq_true rfl) zwd288 (by decide) (zk_125 _) rfl ?_
  refine s_aload_n A dX4_find_34 rfl ?_
  refine s_getf (k := 4) (j := 6) (sl := true) (v := zI (zi μ2 125 6)) A dX4_find_35 rfl zuw_X4 (Nat.le_of_ble_eq_true rfl) zwd286 (by decide) (zk_125 _) rfl ?_
  refine s_isub A dX4_find_38 ?_
  refine s_aload_n A dX4_find_39 rfl ?_
  refine s_getf (k := 7) (j := 2) (sl := true) (v := zR (some (a1 + 3))) A dX4_find_40 rfl zuw_X7 (Nat.le_of_ble_eq_true rfl) zwd189 (by decide) (ha1.k0 _) rfl ?_
  refine s_iconst A dX4_find_43 ?_
  refine z_iald A dX4_find_44 (ha1.k3 _) (Nat.le_of_ble_eq_true rfl) ⟨by decide, by decide⟩ ?_
  refine s_imul A dX4_find_45 ?_
  refine s_iconst A dX4_find_46 ?_
  obtain ⟨o1, h⟩ := h
  refine z_idiv A dX4_find_47 o1 ⟨by decide, by decide⟩ ?_
  refine s_iadd A dX4_find_48 ?_
  refine s_istore (L' := [some (zR (some 125)), some (zR (some (a1))), some (zR (some (a2))), some (zI x3), some (zI x4), some (zI x5), some (zI (v1 + (zi μ1 (a1 + 3) 2))), some (zI ((zi μ2 125 6) + ((((zi μ2 125 7) - (zi μ2 125 6)) * (zi μ2 (a1 + 3) 1)) / 4))), none, none, none, none]) A dX4_find_49 (Nat.le_of_ble_eq_true rfl) rfl ?_
  refine s_iconst A dX4_find_51 ?_
  refine s_istore (L' := [some (zR (some 125)), some (zR (some (a1))), some (zR (some (a2))), some (zI x3), some (zI x4), some (zI x5), some (zI (v1 + (zi μ1 (a1 + 3) 2))), some (zI ((zi μ2 125 6) + ((((zi μ2 125 7) - (zi μ2 125 6)) * (zi μ2 (a1 + 3) 1)) / 4))), some (zI 0), none, none, none]) A dX4_find_52 (Nat.le_of_ble_eq_true rfl) rfl ?_
  refine s_ldc2 (z := 9223372036854775807) A dX4_find_54 zwd924 (by decide +kernel) ?_
  refine s_lstore (L' := [some (zR (some 125)), some (zR (some (a1))), some (zR (some (a2))), some (zI x3), some (zI x4), some (zI x5), some (zI (v1 + (zi μ1 (a1 + 3) 2))), some (zI ((zi μ2 125 6) + ((((zi μ2 125 7) - (zi μ2 125 6)) * (zi μ2 (a1 + 3) 1)) / 4))), some (zI 0), some (zL 9223372036854775807), none, none]) A dX4_find_57 (Nat.le_of_ble_eq_true rfl) rfl ?_
  refine s_iconst A dX4_find_59 ?_
  refine s_istore (L' := [some (zR (some 125)), some (zR (some (a1))), some (zR (some (a2))), some (zI x3), some (zI x4), some (zI x5), some (zI (v1 + (zi μ1 (a1 + 3) 2))), some (zI ((zi μ2 125 6) + ((((zi μ2 125 7) - (zi μ2 125 6)) * (zi μ2 (a1 + 3) 1)) / 4))), some (zI 0), some (zL 9223372036854775807), none, some (zI 0)]) A dX4_find_60 (Nat.le_of_ble_eq_true rfl) rfl ?_
  exact z_wk (L' := [some (zR (some 125)), none, none, none, none, none, some (zI (v1 + (zi μ1 (a1 + 3) 2))), some (zI ((zi μ2 125 6) + ((((zi μ2 125 7) - (zi μ2 125 6)) * (zi μ2 (a1 + 3) 1)) / 4))), some (zI 0), some (zL 9223372036854775807), none, some (zI 0)]) ⟨rfl, rfl, rfl, rfl, rfl, rfl, trivial⟩ h
set_option maxRecDepth 20000 in
theorem rX4_find_62 {G : zG} {F : Int → zM → Prop} {J : Nat → zS → Prop} {μ : zM} (C : zJ G true (9) 0 0 mX4_find (zKI F) J) (x6 : Int) (x7 : Int) (x8 : Int) (y9 : Int) (x11 : Int)
    (h : zin x11 ∧ zin (zi μ 125 1) ∧ ((zi μ 125 1 ≤ x11 → (0 ≤ x8 ∧ x8 < 6561) ∧ F (zi (zup μ 125 5 (zi μ 127 x8)) 126 x8) (zup μ 125 5 (zi μ 127 x8))) ∧ (¬ (zi μ 125 1 ≤ x11) → (0 ≤ x11 ∧ x11 < 6561) ∧ zin (zi μ 127 x11) ∧ zin x6 ∧ ((x6 < zi μ 127 x11 → J 62 ([some (zR (some 125)), none, none, none, none, none, some (zI x6), some (zI x7), some (zI x8), some (zL y9), none, some (zI (x11 + 1))], [], μ, 0, 0)) ∧ (¬ (x6 < zi μ 127 x11) → qX4_rankOf G x11 x7 μ (fun v9 μ9 => zin64 v9 ∧ zin64 y9 ∧ ((y9 ≤ v9 → J 62 ([some (zR (some 125)), none, none, none, none, none, some (zI x6), some (zI x7), some (zI x8), some (zL y9), none, some (zI (x11 + 1))], [], μ9, 0, 0)) ∧ (¬ (y9 ≤ v9) → qX4_rankOf G x11 x7 μ9 (fun v13 μ13 => J 62 ([some (zR (some 125)), none, none, none, none, none, some (zI x6), some (zI x7), some (zI x11), some (zL v13), none, some (zI (x11 + 1))], [], μ13, 0, 0)))))))))) : J 62 ([some (zR (some 125)), none, none, none, none, none, some (zI x6), some (zI x7), some (zI x8), some (zL y9), none, some (zI x11)], [], μ, 0, 0) := by
  obtain ⟨p, e, s, m, args, below, meth, c, A, hml, hr, hlk, hnm, rfl⟩ := C
  refine s_iload A dX4_find_62 rfl ?_
  refine s_aload_n A dX4_find_64 rfl ?_
  refine s_getf (k := 4) (j := 1) (sl := true) (v := zI (zi μ 125 1)) A dX4_find_65 rfl zuw_X4 (Nat.le_of_ble_eq_true rfl) zwd279 (by decide) (zk_125 _) rfl ?_
  obtain ⟨oz1, h⟩ := h
  obtain ⟨oz2, h⟩ := h
  refine z_icmp_ge (tgt := 117) A dX4_find_68 (by decide) oz1 oz2 (fun c3 => ?_) (fun c3 => ?_)
  · have h := h.1 c3
    refine s_aload_n A dX4_find_117 rfl ?_
    refine s_aload_n A dX4_find_118 rfl ?_
    refine s_getf (k := 4) (j := 4) (sl := true) (v := zR (some 127)) A dX4_find_119 rfl zuw_X4 (Nat.le_of_ble_eq_true rfl) zwd283 (by decide) (zk_125 _) rfl ?_
    refine s_iload A dX4_find_122 rfl ?_
    obtain ⟨ox4, h⟩ := h
    refine z_iald A dX4_find_124 (zk_127 _) (Nat.le_of_ble_eq_true rfl) ox4 ?_
    refine z_putI (k := 4) (j := 5) (sl := true) A dX4_find_125 rfl zuw_X4 (Nat.le_of_ble_eq_true rfl) zwd284 (by decide) (zk_125 _) tyX4 tyX4_ok nmX4 rfl rfl rfl ?_
    refine s_aload_n A dX4_find_128 rfl ?_
    refine s_getf (k := 4) (j := 0) (sl := true) (v := zR (some 126)) A dX4_find_129 rfl zuw_X4 (Nat.le_of_ble_eq_true rfl) zwd277 (by decide) (zk_125 _) rfl ?_
    refine s_iload A dX4_find_132 rfl ?_
    refine z_iald A dX4_find_134 (zk_126 _) (Nat.le_of_ble_eq_true rfl) ox4 ?_
    exact s_iret A dX4_find_135 hr hlk (Nat.le_of_ble_eq_true rfl) (Nat.le_of_ble_eq_true rfl) ⟨_, rfl, h⟩
  · have h := h.2 c3
    refine s_aload_n A dX4_find_71 rfl ?_
    refine s_getf (k := 4) (j := 4) (sl := true) (v := zR (some 127)) A dX4_find_72 rfl zuw_X4 (Nat.le_of_ble_eq_true rfl) zwd283 (by decide) (zk_125 _) rfl ?_
    refine s_iload A dX4_find_75 rfl ?_
    obtain ⟨ox5, h⟩ := h
    refine z_iald A dX4_find_77 (zk_127 _) (Nat.le_of_ble_eq_true rfl) ox5 ?_
    refine s_iload A dX4_find_78 rfl ?_
    obtain ⟨oz6, h⟩ := h
    obtain ⟨oz7, h⟩ := h
    refine z_icmp_gt (tgt := 111) A dX4_find_80 (by decide) oz6 oz7 (fun c8 => ?_) (fun c8 => ?_)
    · have h := h.1 c8
      refine s_iinc (L' := [some (zR (some 125)), none, none, none, none, none, some (zI x6), some (zI x7), some (zI x8), some (zL y9), none, some (zI (x11 + 1))]) A dX4_find_111 rfl rfl ?_
      refine s_goto (tgt := 62) A dX4_find_114 (by decide) ?_
      exact h
    · have h := h.2 c8
      refine s_aload_n A dX4_find_83 rfl ?_
      refine s_iload A dX4_find_84 rfl ?_
      refine s_iload A dX4_find_86 rfl ?_
      refine s_callV (a := 125) (k := 4) (N := 9) (sl := true) (M := mX4_rankOf) (n := 2) (d := 8) (mc := 0) (ms := 0) (av := [zI x11, zI x7]) (st := []) A dX4_find_88 rfl (by decide) (zk_125 _) zwd925 zwd927 zwd11 zwd97 zcd_X4_rankOf (Nat.le_of_ble_eq_true rfl) (Nat.le_of_ble_eq_true rfl) (Nat.le_refl _) ⟨Nat.le_of_ble_eq_true rfl, Nat.le_of_ble_eq_true rfl⟩ ⟨rfl, zhn_X4_rankOf⟩ rfl (Nat.le_of_ble_eq_true rfl) rfl (z_contL (fun v9 μ9 h => ?_) h)
      refine s_lload A dX4_find_91 rfl ?_
      obtain ⟨oz10, h⟩ := h
      obtain ⟨oz11, h⟩ := h
      refine z_lc_ge (tgt := 111) A dX4_find_93 dX4_find_94 (by decide) oz10 oz11 (fun c12 => ?_) (fun c12 => ?_)
      · have h := h.1 c12
        refine s_iinc (L' := [some (zR (some 125)), none, none, none, none, none, some (zI x6), some (zI x7), some (zI x8), some (zL y9), none, some (zI (x11 + 1))]) A dX4_find_111 rfl rfl ?_
        refine s_goto (tgt := 62) A dX4_find_114 (by decide) ?_
        exact h
      · have h := h.2 c12
        refine s_aload_n A dX4_find_97 rfl ?_
        refine s_iload A dX4_find_98 rfl ?_
        refine s_iload A dX4_find_100 rfl ?_
        refine s_callV (a := 125) (k := 4) (N := 9) (sl := true) (M := mX4_rankOf) (n := 2) (d := 8) (mc := 0) (ms := 0) (av := [zI x11, zI x7]) (st := []) A dX4_find_102 rfl (by decide) (zk_125 _) zwd925 zwd927 zwd11 zwd97 zcd_X4_rankOf (Nat.le_of_ble_eq_true rfl) (Nat.le_of_ble_eq_true rfl) (Nat.le_refl _) ⟨Nat.le_of_ble_eq_true rfl, Nat.le_of_ble_eq_true rfl⟩ ⟨rfl, zhn_X4_rankOf⟩ rfl (Nat.le_of_ble_eq_true rfl) rfl (z_contL (fun v13 μ13 h => ?_) h)
        refine s_lstore (L' := [some (zR (some 125)), none, none, none, none, none, some (zI x6), some (zI x7), some (zI x8), some (zL v13), none, some (zI x11)]) A dX4_find_105 (Nat.le_of_ble_eq_true rfl) rfl ?_
        refine s_iload A dX4_find_107 rfl ?_
        refine s_istore (L' := [some (zR (some 125)), none, none, none, none, none, some (zI x6), some (zI x7), some (zI x11), some (zL v13), none, some (zI x11)]) A dX4_find_109 (Nat.le_of_ble_eq_true rfl) rfl ?_
        refine s_iinc (L' := [some (zR (some 125)), none, none, none, none, none, some (zI x6), some (zI x7), some (zI x11), some (zL v13), none, some (zI (x11 + 1))]) A dX4_find_111 rfl rfl ?_
        refine s_goto (tgt := 62) A dX4_find_114 (by decide) ?_
        exact h
theorem eX4_find {G : zG} {F : Int → zM → Prop} {μ : zM} {a1 : Nat} {a2 : Nat} {x3 : Int} {x4 : Int} {x5 : Int} (h : ∀ J, zJ G true (9) 0 0 mX4_find (zKI F) J → J 0 ([some (zR (some 125)), some (zR (some (a1))), some (zR (some (a2))), some (zI x3), some (zI x4), some (zI x5), none, none, none, none, none, none], [], μ, 0, 0)) : qX4_find G a1 a2 x3 x4 x5 μ F :=
  z_body (by decide +kernel) (Nat.le_of_ble_eq_true rfl) h
set_option maxRecDepth 20000 in
theorem rX5_init_e {G : zG} {F : zM → Prop} {J : Nat → zS → Prop} {μ : zM} (C : zJ G false (2) 3 259 mX5_init (zKV F) J) (a0 : Nat)
    (h : zs false (znew μ (40, 64)) (zn μ) = (40, 64) ∧ ∀ b1 μ1, b1 = zn μ → μ1 = znew μ (40, 64) → zok false μ1 a0 (5, 3) ∧ zs false (znew (zupr μ1 a0 0 (some b1)) (40, 192)) (zn (zupr μ1 a0 0 (some b1))) = (40, 192) ∧ ∀ b3 μ3, b3 = zn (zupr μ1 a0 0 (some b1)) → μ3 = znew (zupr μ1 a0 0 (some b1)) (40, 192) → zok false μ3 a0 (5, 3) ∧ zs false (znew (zupr μ3 a0 1 (some b3)) (40, 3)) (zn (zupr μ3 a0 1 (some b3))) = (40, 3) ∧ ∀ b5 μ5, b5 = zn (zupr μ3 a0 1 (some b3)) → μ5 = znew (zupr μ3 a0 1 (some b3)) (40, 3) → zok false μ5 a0 (5, 3) ∧ F (zupr μ5 a0 2 (some b5))) : J 0 ([some (zR (some a0))], [], μ, 0, 0) := by
  obtain ⟨p, e, s, m, args, below, meth, c, A, hml, hr, hlk, hnm, rfl⟩ := C
  refine s_aload_n A dX5_init_0 rfl ?_
  refine z_objInit A dX5_init_1 zwd326 zwd119 zwd120 (Nat.le_of_ble_eq_true rfl) (by decide) (Nat.le_of_ble_eq_true rfl) ?_
  refine s_aload_n A dX5_init_4 rfl ?_
  refine s_bipush A dX5_init_5 rfl ?_
  obtain ⟨o1, h⟩ := h
  refine z_newa_int (n := 64) A dX5_init_7 rfl (by decide) zwd137 o1 (Nat.le_of_ble_eq_true rfl) (Nat.le_of_ble_eq_true rfl) (fun b1 μ1 eb1 em1 => ?_)
  have h := h b1 μ1 eb1 em1
  obtain ⟨o2, h⟩ := h
  refine z_putFR (k := 5) (j := 0) (sl := false) A dX5_init_9 rfl zuw_X5 (Nat.le_of_ble_eq_true rfl) zwd327 (by decide) o2 tyX5 tyX5_ok nmX5 rfl (Or.inl rfl) rfl (Or.inr ⟨_, rfl⟩) rfl hnm rfl ?_
  refine s_aload_n A dX5_init_12 rfl ?_
  refine s_sipush A dX5_init_13 rfl ?_
  obtain ⟨o3, h⟩ := h
  refine z_newa_int (n := 192) A dX5_init_16 rfl (by decide) zwd137 o3 (Nat.le_of_ble_eq_true rfl) (Nat.le_of_ble_eq_true rfl) (fun b3 μ3 eb3 em3 => ?_)
  have h := h b3 μ3 eb3 em3
  obtain ⟨o4, h⟩ := h
  refine z_putFR (k := 5) (j := 1) (sl := false) A dX5_init_18 rfl zuw_X5 (Nat.le_of_ble_eq_true rfl) zwd329 (by decide) o4 tyX5 tyX5_ok nmX5 rfl (Or.inl rfl) rfl (Or.inr ⟨_, rfl⟩) rfl hnm rfl ?_
  refine s_aload_n A dX5_init_21 rfl ?_
  refine s_iconst A dX5_init_22 ?_
  obtain ⟨o5, h⟩ := h
  refine z_newa_int (n := 3) A dX5_init_23 rfl (by decide) zwd137 o5 (Nat.le_of_ble_eq_true rfl) (Nat.le_of_ble_eq_true rfl) (fun b5 μ5 eb5 em5 => ?_)
  have h := h b5 μ5 eb5 em5
  obtain ⟨o6, h⟩ := h
  refine z_putFR (k := 5) (j := 2) (sl := false) A dX5_init_25 rfl zuw_X5 (Nat.le_of_ble_eq_true rfl) zwd330 (by decide) o6 tyX5 tyX5_ok nmX5 rfl (Or.inl rfl) rfl (Or.inr ⟨_, rfl⟩) rfl hnm rfl ?_
  exact s_vret A dX5_init_28 hr hlk (Nat.le_of_ble_eq_true rfl) (Nat.le_of_ble_eq_true rfl) ⟨rfl, h⟩
theorem eX5_init {G : zG} {F : zM → Prop} {μ : zM} {a0 : Nat} (h : ∀ J, zJ G false (2) 3 259 mX5_init (zKV F) J → J 0 ([some (zR (some a0))], [], μ, 0, 0)) : qX5_init G a0 μ F :=
  z_body (by decide +kernel) (Nat.le_of_ble_eq_true rfl) h
set_option maxRecDepth 20000 in
theorem rX5_firstOfLetter_e {G : zG} {F : Int → zM → Prop} {J : Nat → zS → Prop} {μ : zM} (C : zJ G true (0) 0 0 mX5_firstOfLetter (zKI F) J) {a0 : Nat} (ha0 : zIsSt a0) (x1 : Int)
    (h : J 2 ([some (zR (some (a0))), some (zI x1), some (zI 0)], [], μ, 0, 0)) : J 0 ([some (zR (some (a0))), some (zI x1), none], [], μ, 0, 0) := by
  obtain ⟨p, e, s, m, args, below, meth, c, A, hml, hr, hlk, hnm, rfl⟩ := C
  refine s_iconst A dX5_firstOfLetter_0 ?_
  refine s_istore_n (L' := [some (zR (some (a0))), some (zI x1), some (zI 0)]) A dX5_firstOfLetter_1 (Nat.le_of_ble_eq_true rfl) rfl ?_
  exact h
set_option maxRecDepth 20000 in
theorem rX5_firstOfLetter_2 {G : zG} {F : Int → zM → Prop} {J : Nat → zS → Prop} {μ : zM} (C : zJ G true (0) 0 0 mX5_firstOfLetter (zKI F) J) {a0 : Nat} (ha0 : zIsSt a0) (x1 : Int) (x2 : Int)
    (h : zin x2 ∧ zin x1 ∧ ((x1 ≤ x2 → F x1 μ) ∧ (¬ (x1 ≤ x2) → (0 ≤ x2 ∧ x2 < 64) ∧ (0 ≤ x1 ∧ x1 < 64) ∧ zin (zi μ (a0 + 6) x2) ∧ zin (zi μ (a0 + 6) x1) ∧ ((¬ zi μ (a0 + 6) x2 = zi μ (a0 + 6) x1 → J 2 ([some (zR (some (a0))), some (zI x1), some (zI (x2 + 1))], [], μ, 0, 0)) ∧ (zi μ (a0 + 6) x2 = zi μ (a0 + 6) x1 → F x2 μ))))) : J 2 ([some (zR (some (a0))), some (zI x1), some (zI x2)], [], μ, 0, 0) := by
  obtain ⟨p, e, s, m, args, below, meth, c, A, hml, hr, hlk, hnm, rfl⟩ := C
  refine s_iload_n A dX5_firstOfLetter_2 rfl ?_
  refine s_iload_n A dX5_firstOfLetter_3 rfl ?_
  obtain ⟨oz1, h⟩ := h
  obtain ⟨oz2, h⟩ := h
  refine z_icmp_ge (tgt := 30) A dX5_firstOfLetter_4 (by decide) oz1 oz2 (fun c3 => ?_) (fun c3 => ?_)
  · have h := h.1 c3
    refine s_iload_n A dX5_firstOfLetter_30 rfl ?_
    exact s_iret A dX5_firstOfLetter_31 hr hlk (Nat.le_of_ble_eq_true rfl) (Nat.le_of_ble_eq_true rfl) ⟨_, rfl, h⟩
  · have h := h.2 c3
    refine s_aload_n A dX5_firstOfLetter_7 rfl ?_
    refine s_getf (k := 7) (j := 5) (sl := true) (v := zR (some (a0 + 6))) A dX5_firstOfLetter_8 rfl zuw_X7 (Nat.le_of_ble_eq_true rfl) zwd196 (by decide) (ha0.k0 _) rfl ?_
    refine s_iload_n A dX5_firstOfLetter_11 rfl ?_
    obtain ⟨ox4, h⟩ := h
    refine z_iald A dX5_firstOfLetter_12 (ha0.k6 _) (Nat.le_of_ble_eq_true rfl) ox4 ?_
    refine s_aload_n A dX5_firstOfLetter_13 rfl ?_
    refine s_getf (k := 7) (j := 5) (sl := true) (v := zR (some (a0 + 6))) A dX5_firstOfLetter_14 rfl zuw_X7 (Nat.le_of_ble_eq_true rfl) zwd196 (by decide) (ha0.k0 _) rfl ?_
    refine s_iload_n A dX5_firstOfLetter_17 rfl ?_
    obtain ⟨ox5, h⟩ := h
    refine z_iald A dX5_firstOfLetter_18 (ha0.k6 _) (Nat.le_of_ble_eq_true rfl) ox5 ?_
    obtain ⟨oz6, h⟩ := h
    obtain ⟨oz7, h⟩ := h
    refine z_icmp_ne (tgt := 24) A dX5_firstOfLetter_19 (by decide) oz6 oz7 (fun c8 => ?_) (fun c8 => ?_)
    · have h := h.1 c8
      refine s_iinc (L' := [some (zR (some (a0))), some (zI x1), some (zI (x2 + 1))]) A dX5_firstOfLetter_24 rfl rfl ?_
      refine s_goto (tgt := 2) A dX5_firstOfLetter_27 (by decide) ?_
      exact h
    · have h := h.2 c8
      refine s_iload_n A dX5_firstOfLetter_22 rfl ?_
      exact s_iret A dX5_firstOfLetter_23 hr hlk (Nat.le_of_ble_eq_true rfl) (Nat.le_of_ble_eq_true rfl) ⟨_, rfl, h⟩
theorem eX5_firstOfLetter {G : zG} {F : Int → zM → Prop} {μ : zM} {a0 : Nat} {x1 : Int} (h : ∀ J, zJ G true (0) 0 0 mX5_firstOfLetter (zKI F) J → J 0 ([some (zR (some (a0))), some (zI x1), none], [], μ, 0, 0)) : qX5_firstOfLetter G a0 x1 μ F :=
  z_body (by decide +kernel) (Nat.le_of_ble_eq_true rfl) h
set_option maxRecDepth 20000 in
theorem rX7_cellCount_e {G : zG} {F : Int → zM → Prop} {J : Nat → zS → Prop} {μ : zM} (C : zJ G true (0) 0 0 mX7_cellCount (zKI F) J) {a0 : Nat} (ha0 : zIsSt a0)
    (h : F ((zi μ a0 6) * (zi μ a0 7)) μ) : J 0 ([some (zR (some (a0)))], [], μ, 0, 0) := by
  obtain ⟨p, e, s, m, args, below, meth, c, A, hml, hr, hlk, hnm, rfl⟩ := C
  refine s_aload_n A dX7_cellCount_0 rfl ?_
  refine s_getf (k := 7) (j := 6) (sl := true) (v := zI (zi μ a0 6)) A dX7_cellCount_1 rfl zuw_X7 (Nat.le_of_ble_eq_true rfl) zwd197 (by decide) (ha0.k0 _) rfl ?_
  refine s_aload_n A dX7_cellCount_4 rfl ?_
  refine s_getf (k := 7) (j := 7) (sl := true) (v := zI (zi μ a0 7)) A dX7_cellCount_5 rfl zuw_X7 (Nat.le_of_ble_eq_true rfl) zwd200 (by decide) (ha0.k0 _) rfl ?_
  refine s_imul A dX7_cellCount_8 ?_
  exact s_iret A dX7_cellCount_9 hr hlk (Nat.le_of_ble_eq_true rfl) (Nat.le_of_ble_eq_true rfl) ⟨_, rfl, h⟩
theorem eX7_cellCount {G : zG} {F : Int → zM → Prop} {μ : zM} {a0 : Nat} (h : ∀ J, zJ G true (0) 0 0 mX7_cellCount (zKI F) J → J 0 ([some (zR (some (a0)))], [], μ, 0, 0)) : qX7_cellCount G a0 μ F :=
  z_body (by decide +kernel) (Nat.le_of_ble_eq_true rfl) h
set_option maxRecDepth 20000 in
theorem rX5_handOn_e {G : zG} {F : zM → Prop} {J : Nat → zS → Prop} {μ : zM} (C : zJ G true (2) 0 0 mX5_handOn (zKV F) J) {a1 : Nat} (ha1 : zIsSt a1) {a2 : Nat} (ha2 : zIsCh a2) (x3 : Int)
    (h : J 3 ([some (zR (some 130)), some (zR (some (a1))), some (zR (some (a2))), some (zI x3), some (zI 0), none], [], μ, 0, 0)) : J 0 ([some (zR (some 130)), some (zR (some (a1))), some (zR (some (a2))), some (zI x3), none, none], [], μ, 0, 0) := by
  obtain ⟨p, e, s, m, args, below, meth, c, A, hml, hr, hlk, hnm, rfl⟩ := C
  refine s_iconst A dX5_handOn_0 ?_
  refine s_istore (L' := [some (zR (some 130)), some (zR (some (a1))), some (zR (some (a2))), some (zI x3), some (zI 0), none]) A dX5_handOn_1 (Nat.le_of_ble_eq_true rfl) rfl ?_
  exact h
set_option maxRecDepth 20000 in
theorem rX5_handOn_3 {G : zG} {F : zM → Prop} {J : Nat → zS → Prop} {μ : zM} (C : zJ G true (2) 0 0 mX5_handOn (zKV F) J) {a1 : Nat} (ha1 : zIsSt a1) {a2 : Nat} (ha2 : zIsCh a2) (x3 : Int) (x4 : Int)
    (h : zin x4 ∧ ((3 ≤ x4 → F μ) ∧ (¬ (3 ≤ x4) → (0 ≤ x4 ∧ x4 < 3) ∧ (0 ≤ x3 ∧ x3 < 64) ∧ qX0_number G a2 (zi μ 131 x3) x4 μ (fun v5 μ5 => zin (zi μ5 a1 6) ∧ ((zi μ5 a1 6 ≤ 0 → qX7_cellCount G a1 μ5 (fun v8 μ8 => zin (x3 + (zi μ5 a1 6)) ∧ zin v8 ∧ ((v8 ≤ x3 + (zi μ5 a1 6) → J 3 ([some (zR (some 130)), some (zR (some (a1))), some (zR (some (a2))), some (zI x3), some (zI (x4 + 1)), none], [], μ8, 0, 0)) ∧ (¬ (v8 ≤ x3 + (zi μ5 a1 6)) → (0 ≤ ((x3 + (zi μ8 a1 6)) * 3) + x4 ∧ ((x3 + (zi μ8 a1 6)) * 3) + x4 < 192) ∧ (zin ((zi μ 133 x4) - v5)) ∧ J 3 ([some (zR (some 130)), some (zR (some (a1))), some (zR (some (a2))), some (zI x3), some (zI (x4 + 1)), none], [], zup μ8 132 (((x3 + (zi μ8 a1 6)) * 3) + x4) ((zi μ8 132 (((x3 + (zi μ8 a1 6)) * 3) + x4)) + (((zi μ 133 x4) - v5) - (((zi μ 133 x4) - v5).tdiv 2))), 0, 0))))) ∧ (¬ (zi μ5 a1 6 ≤ 0) → (0 ≤ x3 ∧ x3 < 2147483648) ∧ (0 < zi μ5 a1 6 ∧ zi μ5 a1 6 < 2147483648) ∧ zin ((x3 % (zi μ5 a1 6)) + 1) ∧ ((zi μ5 a1 6 ≤ (x3 % (zi μ5 a1 6)) + 1 → qX7_cellCount G a1 μ5 (fun v15 μ15 => zin (x3 + (zi μ5 a1 6)) ∧ zin v15 ∧ ((v15 ≤ x3 + (zi μ5 a1 6) → J 3 ([some (zR (some 130)), some (zR (some (a1))), some (zR (some (a2))), some (zI x3), some (zI (x4 + 1)), none], [], μ15, 0, 0)) ∧ (¬ (v15 ≤ x3 + (zi μ5 a1 6)) → (0 ≤ ((x3 + (zi μ15 a1 6)) * 3) + x4 ∧ ((x3 + (zi μ15 a1 6)) * 3) + x4 < 192) ∧ (zin ((zi μ 133 x4) - v5)) ∧ J 3 ([some (zR (some 130)), some (zR (some (a1))), some (zR (some (a2))), some (zI x3), some (zI (x4 + 1)), none], [], zup μ15 132 (((x3 + (zi μ15 a1 6)) * 3) + x4) ((zi μ15 132 (((x3 + (zi μ15 a1 6)) * 3) + x4)) + (((zi μ 133 x4) - v5) - (((zi μ 133 x4) - v5).tdiv 2))), 0, 0))))) ∧ (¬ (zi μ5 a1 6 ≤ (x3 % (zi μ5 a1 6)) + 1) → (0 ≤ ((x3 + 1) * 3) + x4 ∧ ((x3 + 1) * 3) + x4 < 192) ∧ (zin ((zi μ 133 x4) - v5)) ∧ qX7_cellCount G a1 (zup μ5 132 (((x3 + 1) * 3) + x4) ((zi μ5 132 (((x3 + 1) * 3) + x4)) + (((zi μ 133 x4) - v5).tdiv 2))) (fun v21 μ21 => zin (x3 + (zi (zup μ5 132 (((x3 + 1) * 3) + x4) ((zi μ5 132 (((x3 + 1) * 3) + x4)) + (((zi μ 133 x4) - v5).tdiv 2))) a1 6)) ∧ zin v21 ∧ ((v21 ≤ x3 + (zi (zup μ5 132 (((x3 + 1) * 3) + x4) ((zi μ5 132 (((x3 + 1) * 3) + x4)) + (((zi μ 133 x4) - v5).tdiv 2))) a1 6) → J 3 ([some (zR (some 130)), some (zR (some (a1))), some (zR (some (a2))), some (zI x3), some (zI (x4 + 1)), none], [], μ21, 0, 0)) ∧ (¬ (v21 ≤ x3 + (zi (zup μ5 132 (((x3 + 1) * 3) + x4) ((zi μ5 132 (((x3 + 1) * 3) + x4)) + (((zi μ 133 x4) - v5).tdiv 2))) a1 6)) → (0 ≤ ((x3 + (zi μ21 a1 6)) * 3) + x4 ∧ ((x3 + (zi μ21 a1 6)) * 3) + x4 < 192) ∧ (zin ((zi μ 133 x4) - v5)) ∧ J 3 ([some (zR (some 130)), some (zR (some (a1))), some (zR (some (a2))), some (zI x3), some (zI (x4 + 1)), none], [], zup μ21 132 (((x3 + (zi μ21 a1 6)) * 3) + x4) ((zi μ21 132 (((x3 + (zi μ21 a1 6)) * 3) + x4)) + (((zi μ 133 x4) - v5) - (((zi μ 133 x4) - v5).tdiv 2))), 0, 0)))))))))))) : J 3 ([some (zR (some 130)), some (zR (some (a1))), some (zR (some (a2))), some (zI x3), some (zI x4), none], [], μ, 0, 0) := by
  obtain ⟨p, e, s, m, args, below, meth, c, A, hml, hr, hlk, hnm, rfl⟩ := C
  refine s_iload A dX5_handOn_3 rfl ?_
  refine s_iconst A dX5_handOn_5 ?_
  obtain ⟨oz1, h⟩ := h
  refine z_icmp_ge (tgt := 118) A dX5_handOn_6 (by decide) oz1 ⟨by decide, by decide⟩ (fun c2 => ?_) (fun c2 => ?_)
  · have h := h.1 c2
    exact s_vret A dX5_handOn_118 hr hlk (Nat.le_of_ble_eq_true rfl) (Nat.le_of_ble_eq_true rfl) ⟨rfl, h⟩
  · have h := h.2 c2
    refine s_aload_n A dX5_handOn_9 rfl ?_
    refine s_getf (k := 5) (j := 2) (sl := true) (v := zR (some 133)) A dX5_handOn_10 rfl zuw_X5 (Nat.le_of_ble_eq_true rfl) zwd330 (by decide) (zk_130 _) rfl ?_
    refine s_iload A dX5_handOn_13 rfl ?_
    obtain ⟨ox3, h⟩ := h
    refine z_iald A dX5_handOn_15 (zk_133 _) (Nat.le_of_ble_eq_true rfl) ox3 ?_
    refine s_aload_n A dX5_handOn_16 rfl ?_
    refine s_aload_n A dX5_handOn_17 rfl ?_
    refine s_getf (k := 5) (j := 0) (sl := true) (v := zR (some 131)) A dX5_handOn_18 rfl zuw_X5 (Nat.le_of_ble_eq_true rfl) zwd327 (by decide) (zk_130 _) rfl ?_
    refine s_iload_n A dX5_handOn_21 rfl ?_
    obtain ⟨ox4, h⟩ := h
    refine z_iald A dX5_handOn_22 (zk_131 _) (Nat.le_of_ble_eq_true rfl) ox4 ?_
    refine s_iload A dX5_handOn_23 rfl ?_
    refine s_callV (a := a2) (k := 0) (N := 5) (sl := true) (M := mX0_number) (n := 2) (d := 0) (mc := 0) (ms := 0) (av := [zI (zi μ 131 x3), zI x4]) (st := [zI (zi μ 133 x4)]) A dX5_handOn_25 rfl (by decide) (ha2.k0 _) zwd1107 zwd864 zwd865 zwd95 zcd_X0_number (Nat.le_of_ble_eq_true rfl) (Nat.le_of_ble_eq_true rfl) (Nat.le_refl _) ⟨Nat.le_of_ble_eq_true rfl, Nat.le_of_ble_eq_true rfl⟩ ⟨rfl, zhn_X0_number⟩ rfl (Nat.le_of_ble_eq_true rfl) rfl (z_contI (fun v5 μ5 h => ?_) h)
    refine s_isub A dX5_handOn_28 ?_
    refine s_istore (L' := [some (zR (some 130)), some (zR (some (a1))), some (zR (some (a2))), some (zI x3), some (zI x4), some (zI ((zi μ 133 x4) - v5))]) A dX5_handOn_29 (Nat.le_of_ble_eq_true rfl) rfl ?_
    refine s_aload_n A dX5_handOn_31 rfl ?_
    refine s_getf (k := 7) (j := 6) (sl := true) (v := zI (zi μ5 a1 6)) A dX5_handOn_32 rfl zuw_X7 (Nat.le_of_ble_eq_true rfl) zwd198 (by decide) (ha1.k0 _) rfl ?_
    obtain ⟨oz6, h⟩ := h
    refine z_if_le (tgt := 73) A dX5_handOn_35 (by decide) oz6 (fun c7 => ?_) (fun c7 => ?_)
    · have h := h.1 c7
      refine s_iload_n A dX5_handOn_73 rfl ?_
      refine s_aload_n A dX5_handOn_74 rfl ?_
      refine s_getf (k := 7) (j := 6) (sl := true) (v := zI (zi μ5 a1 6)) A dX5_handOn_75 rfl zuw_X7 (Nat.le_of_ble_eq_true rfl) zwd198 (by decide) (ha1.k0 _) rfl ?_
      refine s_iadd A dX5_handOn_78 ?_
      refine s_aload_n A dX5_handOn_79 rfl ?_
      refine s_callV (a := a1) (k := 7) (N := 9) (sl := true) (M := mX7_cellCount) (n := 0) (d := 0) (mc := 0) (ms := 0) (av := []) (st := [zI (x3 + (zi μ5 a1 6))]) A dX5_handOn_80 rfl (by decide) (ha1.k0 _) zwd1108 zwd720 zwd721 zwd92 zcd_X7_cellCount (Nat.le_of_ble_eq_true rfl) (Nat.le_of_ble_eq_true rfl) (Nat.le_refl _) ⟨Nat.le_of_ble_eq_true rfl, Nat.le_of_ble_eq_true rfl⟩ ⟨rfl, zhn_X7_cellCount⟩ rfl (Nat.le_of_ble_eq_true rfl) rfl (z_contI (fun v8 μ8 h => ?_) h)
      obtain ⟨oz9, h⟩ := h
      obtain ⟨oz10, h⟩ := h
      refine z_icmp_ge (tgt := 112) A dX5_handOn_83 (by decide) oz9 oz10 (fun c11 => ?_) (fun c11 => ?_)
      · have h := h.1 c11
        refine s_iinc (L' := [some (zR (some 130)), some (zR (some (a1))), some (zR (some (a2))), some (zI x3), some (zI (x4 + 1)), some (zI ((zi μ 133 x4) - v5))]) A dX5_handOn_112 rfl rfl ?_
        refine s_goto (tgt := 3) A dX5_handOn_115 (by decide) ?_
        exact z_wk (L' := [some (zR (some 130)), some (zR (some (a1))), some (zR (some (a2))), some (zI x3), some (zI (x4 + 1)), none]) ⟨rfl, rfl, rfl, rfl, rfl, trivial⟩ h
      · have h := h.2 c11
        refine s_aload_n A dX5_handOn_86 rfl ?_
        refine s_getf (k := 5) (j := 1) (sl := true) (v := zR (some 132)) A dX5_handOn_87 rfl zuw_X5 (Nat.le_of_ble_eq_true rfl) zwd329 (by decide) (zk_130 _) rfl ?_
        refine s_iload_n A dX5_handOn_90 rfl ?_
        refine s_aload_n A dX5_handOn_91 rfl ?_
        refine s_getf (k := 7) (j := 6) (sl := true) (v := zI (zi μ8 a1 6)) A dX5_handOn_92 rfl zuw_X7 (Nat.le_of_ble_eq_true rfl) zwd198 (by decide) (ha1.k0 _) rfl ?_
        refine s_iadd A dX5_handOn_95 ?_
        refine s_iconst A dX5_handOn_96 ?_
        refine s_imul A dX5_handOn_97 ?_
        refine s_iload A dX5_handOn_98 rfl ?_
        refine s_iadd A dX5_handOn_100 ?_
        refine s_dup2 A dX5_handOn_101 rfl rfl ?_
        obtain ⟨ox12, h⟩ := h
        refine z_iald A dX5_handOn_102 (zk_132 _) (Nat.le_of_ble_eq_true rfl) ox12 ?_
        refine s_iload A dX5_handOn_103 rfl ?_
        refine s_iload A dX5_handOn_105 rfl ?_
        refine s_iconst A dX5_handOn_107 ?_
        obtain ⟨o1, h⟩ := h
        refine z_idivt A dX5_handOn_108 o1 ⟨by decide, by decide⟩ ?_
        refine s_isub A dX5_handOn_109 ?_
        refine s_iadd A dX5_handOn_110 ?_
        refine z_iast A dX5_handOn_111 (zk_132 _) (Nat.le_of_ble_eq_true rfl) ox12 ?_
        refine s_iinc (L' := [some (zR (some 130)), some (zR (some (a1))), some (zR (some (a2))), some (zI x3), some (zI (x4 + 1)), some (zI ((zi μ 133 x4) - v5))]) A dX5_handOn_112 rfl rfl ?_
        refine s_goto (tgt := 3) A dX5_handOn_115 (by decide) ?_
        exact z_wk (L' := [some (zR (some 130)), some (zR (some (a1))), some (zR (some (a2))), some (zI x3), some (zI (x4 + 1)), none]) ⟨rfl, rfl, rfl, rfl, rfl, trivial⟩ h
    · have h := h.2 c7
      refine s_iload_n A dX5_handOn_38 rfl ?_
      refine s_aload_n A dX5_handOn_39 rfl ?_
      refine s_getf (k := 7) (j := 6) (sl := true) (v := zI (zi μ5 a1 6)) A dX5_handOn_40 rfl zuw_X7 (Nat.le_of_ble_eq_true rfl) zwd198 (by decide) (ha1.k0 _) rfl ?_
      obtain ⟨o1, h⟩ := h
      obtain ⟨o2, h⟩ := h
      refine z_irem A dX5_handOn_43 o1 o2 ?_
      refine s_iconst A dX5_handOn_44 ?_
      refine s_iadd A dX5_handOn_45 ?_
      refine s_aload_n A dX5_handOn_46 rfl ?_
      refine s_getf (k := 7) (j := 6) (sl := true) (v := zI (zi μ5 a1 6)) A dX5_handOn_47 rfl zuw_X7 (Nat.le_of_ble_eq_true rfl) zwd198 (by decide) (ha1.k0 _) rfl ?_
      obtain ⟨oz13, h⟩ := h
      refine z_icmp_ge (tgt := 73) A dX5_handOn_50 (by decide) oz13 oz6 (fun c14 => ?_) (fun c14 => ?_)
      · have h := h.1 c14
        refine s_iload_n A dX5_handOn_73 rfl ?_
        refine s_aload_n A dX5_handOn_74 rfl ?_
        refine s_getf (k := 7) (j := 6) (sl := true) (v := zI (zi μ5 a1 6)) A dX5_handOn_75 rfl zuw_X7 (Nat.le_of_ble_eq_true rfl) zwd198 (by decide) (ha1.k0 _) rfl ?_
        refine s_iadd A dX5_handOn_78 ?_
        refine s_aload_n A dX5_handOn_79 rfl ?_
        refine s_callV (a := a1) (k := 7) (N := 9) (sl := true) (M := mX7_cellCount) (n := 0) (d := 0) (mc := 0) (ms := 0) (av := []) (st := [zI (x3 + (zi μ5 a1 6))]) A dX5_handOn_80 rfl (by decide) (ha1.k0 _) zwd1108 zwd720 zwd721 zwd92 zcd_X7_cellCount (Nat.le_of_ble_eq_true rfl) (Nat.le_of_ble_eq_true rfl) (Nat.le_refl _) ⟨Nat.le_of_ble_eq_true rfl, Nat.le_of_ble_eq_true rfl⟩ ⟨rfl, zhn_X7_cellCount⟩ rfl (Nat.le_of_ble_eq_true rfl) rfl (z_contI (fun v15 μ15 h => ?_) h)
        obtain ⟨oz16, h⟩ := h
        obtain ⟨oz17, h⟩ := h
        refine z_icmp_ge (tgt := 112) A dX5_handOn_83 (by decide) oz16 oz17 (fun c18 => ?_) (fun c18 => ?_)
        · have h := h.1 c18
          refine s_iinc (L' := [some (zR (some 130)), some (zR (some (a1))), some (zR (some (a2))), some (zI x3), some (zI (x4 + 1)), some (zI ((zi μ 133 x4) - v5))]) A dX5_handOn_112 rfl rfl ?_
          refine s_goto (tgt := 3) A dX5_handOn_115 (by decide) ?_
          exact z_wk (L' := [some (zR (some 130)), some (zR (some (a1))), some (zR (some (a2))), some (zI x3), some (zI (x4 + 1)), none]) ⟨rfl, rfl, rfl, rfl, rfl, trivial⟩ h
        · have h := h.2 c18
          refine s_aload_n A dX5_handOn_86 rfl ?_
          refine s_getf (k := 5) (j := 1) (sl := true) (v := zR (some 132)) A dX5_handOn_87 rfl zuw_X5 (Nat.le_of_ble_eq_true rfl) zwd329 (by decide) (zk_130 _) rfl ?_
          refine s_iload_n A dX5_handOn_90 rfl ?_
          refine s_aload_n A dX5_handOn_91 rfl ?_
          refine s_getf (k := 7) (j := 6) (sl := true) (v := zI (zi μ15 a1 6)) A dX5_handOn_92 rfl zuw_X7 (Nat.le_of_ble_eq_true rfl) zwd198 (by decide) (ha1.k0 _) rfl ?_
          refine s_iadd A dX5_handOn_95 ?_
          refine s_iconst A dX5_handOn_96 ?_
          refine s_imul A dX5_handOn_97 ?_
          refine s_iload A dX5_handOn_98 rfl ?_
          refine s_iadd A dX5_handOn_100 ?_
          refine s_dup2 A dX5_handOn_101 rfl rfl ?_
          obtain ⟨ox19, h⟩ := h
          refine z_iald A dX5_handOn_102 (zk_132 _) (Nat.le_of_ble_eq_true rfl) ox19 ?_
          refine s_iload A dX5_handOn_103 rfl ?_
          refine s_iload A dX5_handOn_105 rfl ?_
          refine s_iconst A dX5_handOn_107 ?_
          obtain ⟨o1, h⟩ := h
          refine z_idivt A dX5_handOn_108 o1 ⟨by decide, by decide⟩ ?_
          refine s_isub A dX5_handOn_109 ?_
          refine s_iadd A dX5_handOn_110 ?_
          refine z_iast A dX5_handOn_111 (zk_132 _) (Nat.le_of_ble_eq_true rfl) ox19 ?_
          refine s_iinc (L' := [some (zR (some 130)), some (zR (some (a1))), some (zR (some (a2))), some (zI x3), some (zI (x4 + 1)), some (zI ((zi μ 133 x4) - v5))]) A dX5_handOn_112 rfl rfl ?_
          refine s_goto (tgt := 3) A dX5_handOn_115 (by decide) ?_
          exact z_wk (L' := [some (zR (some 130)), some (zR (some (a1))), some (zR (some (a2))), some (zI x3), some (zI (x4 + 1)), none]) ⟨rfl, rfl, rfl, rfl, rfl, trivial⟩ h
      · have h := h.2 c14
        refine s_aload_n A dX5_handOn_53 rfl ?_
        refine s_getf (k := 5) (j := 1) (sl := true) (v := zR (some 132)) A dX5_handOn_54 rfl zuw_X5 (Nat.le_of_ble_eq_true rfl) zwd329 (by decide) (zk_130 _) rfl ?_
        refine s_iload_n A dX5_handOn_57 rfl ?_
        refine s_iconst A dX5_handOn_58 ?_
        refine s_iadd A dX5_handOn_59 ?_
        refine s_iconst A dX5_handOn_60 ?_
        refine s_imul A dX5_handOn_61 ?_
        refine s_iload A dX5_handOn_62 rfl ?_
        refine s_iadd A dX5_handOn_64 ?_
        refine s_dup2 A dX5_handOn_65 rfl rfl ?_
        obtain ⟨ox20, h⟩ := h
        refine z_iald A dX5_handOn_66 (zk_132 _) (Nat.le_of_ble_eq_true rfl) ox20 ?_
        refine s_iload A dX5_handOn_67 rfl ?_
        refine s_iconst A dX5_handOn_69 ?_
        obtain ⟨o1, h⟩ := h
        refine z_idivt A dX5_handOn_70 o1 ⟨by decide, by decide⟩ ?_
        refine s_iadd A dX5_handOn_71 ?_
        refine z_iast A dX5_handOn_72 (zk_132 _) (Nat.le_of_ble_eq_true rfl) ox20 ?_
        refine s_iload_n A dX5_handOn_73 rfl ?_
        refine s_aload_n A dX5_handOn_74 rfl ?_
        refine s_getf (k := 7) (j := 6) (sl := true) (v := zI (zi (zup μ5 132 (((x3 + 1) * 3) + x4) ((zi μ5 132 (((x3 + 1) * 3) + x4)) + (((zi μ 133 x4) - v5).tdiv 2))) a1 6)) A dX5_handOn_75 rfl zuw_X7 (Nat.le_of_ble_eq_true rfl) zwd198 (by decide) (ha1.k0 _) rfl ?_
        refine s_iadd A dX5_handOn_78 ?_
        refine s_aload_n A dX5_handOn_79 rfl ?_
        refine s_callV (a := a1) (k := 7) (N := 9) (sl := true) (M := mX7_cellCount) (n := 0) (d := 0) (mc := 0) (ms := 0) (av := []) (st := [zI (x3 + (zi (zup μ5 132 (((x3 + 1) * 3) + x4) ((zi μ5 132 (((x3 + 1) * 3) + x4)) + (((zi μ 133 x4) - v5).tdiv 2))) a1 6))]) A dX5_handOn_80 rfl (by decide) (ha1.k0 _) zwd1108 zwd720 zwd721 zwd92 zcd_X7_cellCount (Nat.le_of_ble_eq_true rfl) (Nat.le_of_ble_eq_true rfl) (Nat.le_refl _) ⟨Nat.le_of_ble_eq_true rfl, Nat.le_of_ble_eq_true rfl⟩ ⟨rfl, zhn_X7_cellCount⟩ rfl (Nat.le_of_ble_eq_true rfl) rfl (z_contI (fun v21 μ21 h => ?_) h)
        obtain ⟨oz22, h⟩ := h
        obtain ⟨oz23, h⟩ := h
        refine z_icmp_ge (tgt := 112) A dX5_handOn_83 (by decide) oz22 oz23 (fun c24 => ?_) (fun c24 => ?_)
        · have h := h.1 c24
          refine s_iinc (L' := [some (zR (some 130)), some (zR (some (a1))), some (zR (some (a2))), some (zI x3), some (zI (x4 + 1)), some (zI ((zi μ 133 x4) - v5))]) A dX5_handOn_112 rfl rfl ?_
          refine s_goto (tgt := 3) A dX5_handOn_115 (by decide) ?_
          exact z_wk (L' := [some (zR (some 130)), some (zR (some (a1))), some (zR (some (a2))), some (zI x3), some (zI (x4 + 1)), none]) ⟨rfl, rfl, rfl, rfl, rfl, trivial⟩ h
        · have h := h.2 c24
          refine s_aload_n A dX5_handOn_86 rfl ?_
          refine s_getf (k := 5) (j := 1) (sl := true) (v := zR (some 132)) A dX5_handOn_87 rfl zuw_X5 (Nat.le_of_ble_eq_true rfl) zwd329 (by decide) (zk_130 _) rfl ?_
          refine s_iload_n A dX5_handOn_90 rfl ?_
          refine s_aload_n A dX5_handOn_91 rfl ?_
          refine s_getf (k := 7) (j := 6) (sl := true) (v := zI (zi μ21 a1 6)) A dX5_handOn_92 rfl zuw_X7 (Nat.le_of_ble_eq_true rfl) zwd198 (by decide) (ha1.k0 _) rfl ?_
          refine s_iadd A dX5_handOn_95 ?_
          refine s_iconst A dX5_handOn_96 ?_
          refine s_imul A dX5_handOn_97 ?_
          refine s_iload A dX5_handOn_98 rfl ?_
          refine s_iadd A dX5_handOn_100 ?_
          refine s_dup2 A dX5_handOn_101 rfl rfl ?_
          obtain ⟨ox25, h⟩ := h
          refine z_iald A dX5_handOn_102 (zk_132 _) (Nat.le_of_ble_eq_true rfl) ox25 ?_
          refine s_iload A dX5_handOn_103 rfl ?_
          refine s_iload A dX5_handOn_105 rfl ?_
          refine s_iconst A dX5_handOn_107 ?_
          obtain ⟨o1, h⟩ := h
          refine z_idivt A dX5_handOn_108 o1 ⟨by decide, by decide⟩ ?_
          refine s_isub A dX5_handOn_109 ?_
          refine s_iadd A dX5_handOn_110 ?_
          refine z_iast A dX5_handOn_111 (zk_132 _) (Nat.le_of_ble_eq_true rfl) ox25 ?_
          refine s_iinc (L' := [some (zR (some 130)), some (zR (some (a1))), some (zR (some (a2))), some (zI x3), some (zI (x4 + 1)), some (zI ((zi μ 133 x4) - v5))]) A dX5_handOn_112 rfl rfl ?_
          refine s_goto (tgt := 3) A dX5_handOn_115 (by decide) ?_
          exact z_wk (L' := [some (zR (some 130)), some (zR (some (a1))), some (zR (some (a2))), some (zI x3), some (zI (x4 + 1)), none]) ⟨rfl, rfl, rfl, rfl, rfl, trivial⟩ h
theorem eX5_handOn {G : zG} {F : zM → Prop} {μ : zM} {a1 : Nat} {a2 : Nat} {x3 : Int} (h : ∀ J, zJ G true (2) 0 0 mX5_handOn (zKV F) J → J 0 ([some (zR (some 130)), some (zR (some (a1))), some (zR (some (a2))), some (zI x3), none, none], [], μ, 0, 0)) : qX5_handOn G a1 a2 x3 μ F :=
  z_body (by decide +kernel) (Nat.le_of_ble_eq_true rfl) h
set_option maxRecDepth 20000 in
theorem rX5_print_e {G : zG} {F : zM → Prop} {J : Nat → zS → Prop} {μ : zM} (C : zJ G true (10) 0 0 mX5_print (zKV F) J) {a1 : Nat} (ha1 : zIsSt a1) {a2 : Nat} (ha2 : zIsCh a2) (x4 : Int) (x5 : Int)
    (h : qJ7_fill_53178 G true 132 0 μ (fun μ1 => J 11 ([some (zR (some 130)), some (zR (some (a1))), some (zR (some (a2))), some (zR (some 125)), some (zI x4), some (zI x5), some (zI 0), none, none, none], [], μ1, 0, 0))) : J 0 ([some (zR (some 130)), some (zR (some (a1))), some (zR (some (a2))), some (zR (some 125)), some (zI x4), some (zI x5), none, none, none, none], [], μ, 0, 0) := by
  obtain ⟨p, e, s, m, args, below, meth, c, A, hml, hr, hlk, hnm, rfl⟩ := C
  refine s_aload_n A dX5_print_0 rfl ?_
  refine s_getf (k := 5) (j := 1) (sl := true) (v := zR (some 132)) A dX5_print_1 rfl zuw_X5 (Nat.le_of_ble_eq_true rfl) zwd329 (by decide) (zk_130 _) rfl ?_
  refine s_iconst A dX5_print_4 ?_
  refine s_callS (M := mJ7_fill_53178) (n := 2) (d := 0) (mc := 0) (ms := 0) (av := [zR (some 132), zI 0]) (st := []) A dX5_print_5 zwd1097 zwd251 zwd96 zcd_J7_fill_53178 (Nat.le_of_ble_eq_true rfl) (Nat.le_of_ble_eq_true rfl) (Nat.le_refl _) ⟨Nat.le_of_ble_eq_true rfl, Nat.le_of_ble_eq_true rfl⟩ zhn_J7_fill_53178 rfl (Nat.le_of_ble_eq_true rfl) rfl (z_contV (fun μ1 h => ?_) h)
  refine s_iconst A dX5_print_8 ?_
  refine s_istore (L' := [some (zR (some 130)), some (zR (some (a1))), some (zR (some (a2))), some (zR (some 125)), some (zI x4), some (zI x5), some (zI 0), none, none, none]) A dX5_print_9 (Nat.le_of_ble_eq_true rfl) rfl ?_
  exact h
set_option maxRecDepth 20000 in
theorem rX5_print_11 {G : zG} {F : zM → Prop} {J : Nat → zS → Prop} {μ : zM} (C : zJ G true (10) 0 0 mX5_print (zKV F) J) {a1 : Nat} (ha1 : zIsSt a1) {a2 : Nat} (ha2 : zIsCh a2) (x4 : Int) (x5 : Int) (x6 : Int)
    (h : zin x6 ∧ zin x5 ∧ ((x5 ≤ x6 → F μ) ∧ (¬ (x5 ≤ x6) → qX5_firstOfLetter G a1 x6 μ (fun v4 μ4 => zin x4 ∧ ((¬ x4 = 0 → J 58 ([some (zR (some 130)), some (zR (some (a1))), some (zR (some (a2))), some (zR (some 125)), some (zI x4), some (zI x5), some (zI x6), none, some (zI 0), none], [], μ4, 0, 0)) ∧ (x4 = 0 → zin v4 ∧ ((x6 ≤ v4 → J 58 ([some (zR (some 130)), some (zR (some (a1))), some (zR (some (a2))), some (zR (some 125)), some (zI x4), some (zI x5), some (zI x6), none, some (zI 0), none], [], μ4, 0, 0)) ∧ (¬ (x6 ≤ v4) → (0 ≤ v4 ∧ v4 < 64) ∧ (0 ≤ x6 ∧ x6 < 64) ∧ J 11 ([some (zR (some 130)), some (zR (some (a1))), some (zR (some (a2))), some (zR (some 125)), some (zI x4), some (zI x5), some (zI (x6 + 1)), none, none, none], [], zup μ4 131 x6 (zi μ4 131 v4), 0, 0))))))))) : J 11 ([some (zR (some 130)), some (zR (some (a1))), some (zR (some (a2))), some (zR (some 125)), some (zI x4), some (zI x5), some (zI x6), none, none, none], [], μ, 0, 0) := by
  obtain ⟨p, e, s, m, args, below, meth, c, A, hml, hr, hlk, hnm, rfl⟩ := C
  refine s_iload A dX5_print_11 rfl ?_
  refine s_iload A dX5_print_13 rfl ?_
  obtain ⟨oz1, h⟩ := h
  obtain ⟨oz2, h⟩ := h
  refine z_icmp_ge (tgt := 167) A dX5_print_15 (by decide) oz1 oz2 (fun c3 => ?_) (fun c3 => ?_)
  · have h := h.1 c3
    exact s_vret A dX5_print_167 hr hlk (Nat.le_of_ble_eq_true rfl) (Nat.le_of_ble_eq_true rfl) ⟨rfl, h⟩
  · have h := h.2 c3
    refine s_aload_n A dX5_print_18 rfl ?_
    refine s_iload A dX5_print_19 rfl ?_
    refine s_callS (M := mX5_firstOfLetter) (n := 2) (d := 0) (mc := 0) (ms := 0) (av := [zR (some (a1)), zI x6]) (st := []) A dX5_print_21 zwd1098 zwd1099 zwd99 zcd_X5_firstOfLetter (Nat.le_of_ble_eq_true rfl) (Nat.le_of_ble_eq_true rfl) (Nat.le_refl _) ⟨Nat.le_of_ble_eq_true rfl, Nat.le_of_ble_eq_true rfl⟩ zhn_X5_firstOfLetter rfl (Nat.le_of_ble_eq_true rfl) rfl (z_contI (fun v4 μ4 h => ?_) h)
    refine s_istore (L' := [some (zR (some 130)), some (zR (some (a1))), some (zR (some (a2))), some (zR (some 125)), some (zI x4), some (zI x5), some (zI x6), some (zI v4), none, none]) A dX5_print_24 (Nat.le_of_ble_eq_true rfl) rfl ?_
    refine s_iload A dX5_print_26 rfl ?_
    obtain ⟨oz5, h⟩ := h
    refine z_if_ne (tgt := 55) A dX5_print_28 (by decide) oz5 (fun c6 => ?_) (fun c6 => ?_)
    · have h := h.1 c6
      refine s_iconst A dX5_print_55 ?_
      refine s_istore (L' := [some (zR (some 130)), some (zR (some (a1))), some (zR (some (a2))), some (zR (some 125)), some (zI x4), some (zI x5), some (zI x6), some (zI v4), some (zI 0), none]) A dX5_print_56 (Nat.le_of_ble_eq_true rfl) rfl ?_
      exact z_wk (L' := [some (zR (some 130)), some (zR (some (a1))), some (zR (some (a2))), some (zR (some 125)), some (zI x4), some (zI x5), some (zI x6), none, some (zI 0), none]) ⟨rfl, rfl, rfl, rfl, rfl, rfl, rfl, rfl, trivial⟩ h
    · have h := h.2 c6
      refine s_iload A dX5_print_31 rfl ?_
      refine s_iload A dX5_print_33 rfl ?_
      obtain ⟨oz7, h⟩ := h
      refine z_icmp_ge (tgt := 55) A dX5_print_35 (by decide) oz7 oz1 (fun c8 => ?_) (fun c8 => ?_)
      · have h := h.1 c8
        refine s_iconst A dX5_print_55 ?_
        refine s_istore (L' := [some (zR (some 130)), some (zR (some (a1))), some (zR (some (a2))), some (zR (some 125)), some (zI x4), some (zI x5), some (zI x6), some (zI v4), some (zI 0), none]) A dX5_print_56 (Nat.le_of_ble_eq_true rfl) rfl ?_
        exact z_wk (L' := [some (zR (some 130)), some (zR (some (a1))), some (zR (some (a2))), some (zR (some 125)), some (zI x4), some (zI x5), some (zI x6), none, some (zI 0), none]) ⟨rfl, rfl, rfl, rfl, rfl, rfl, rfl, rfl, trivial⟩ h
      · have h := h.2 c8
        refine s_aload_n A dX5_print_38 rfl ?_
        refine s_getf (k := 5) (j := 0) (sl := true) (v := zR (some 131)) A dX5_print_39 rfl zuw_X5 (Nat.le_of_ble_eq_true rfl) zwd327 (by decide) (zk_130 _) rfl ?_
        refine s_iload A dX5_print_42 rfl ?_
        refine s_aload_n A dX5_print_44 rfl ?_
        refine s_getf (k := 5) (j := 0) (sl := true) (v := zR (some 131)) A dX5_print_45 rfl zuw_X5 (Nat.le_of_ble_eq_true rfl) zwd327 (by decide) (zk_130 _) rfl ?_
        refine s_iload A dX5_print_48 rfl ?_
        obtain ⟨ox9, h⟩ := h
        refine z_iald A dX5_print_50 (zk_131 _) (Nat.le_of_ble_eq_true rfl) ox9 ?_
        obtain ⟨ox10, h⟩ := h
        refine z_iast A dX5_print_51 (zk_131 _) (Nat.le_of_ble_eq_true rfl) ox10 ?_
        refine s_goto (tgt := 161) A dX5_print_52 (by decide) ?_
        refine s_iinc (L' := [some (zR (some 130)), some (zR (some (a1))), some (zR (some (a2))), some (zR (some 125)), some (zI x4), some (zI x5), some (zI (x6 + 1)), some (zI v4), none, none]) A dX5_print_161 rfl rfl ?_
        refine s_goto (tgt := 11) A dX5_print_164 (by decide) ?_
        exact z_wk (L' := [some (zR (some 130)), some (zR (some (a1))), some (zR (some (a2))), some (zR (some 125)), some (zI x4), some (zI x5), some (zI (x6 + 1)), none, none, none]) ⟨rfl, rfl, rfl, rfl, rfl, rfl, rfl, trivial⟩ h
set_option maxRecDepth 20000 in
theorem rX5_print_58 {G : zG} {F : zM → Prop} {J : Nat → zS → Prop} {μ : zM} (C : zJ G true (10) 0 0 mX5_print (zKV F) J) {a1 : Nat} (ha1 : zIsSt a1) {a2 : Nat} (ha2 : zIsCh a2) (x4 : Int) (x5 : Int) (x6 : Int) (x8 : Int)
    (h : zin x8 ∧ ((3 ≤ x8 → qX4_find G a1 a2 (zi μ 133 0) (zi μ 133 1) (zi μ 133 2) μ (fun v3 μ3 => (0 ≤ x6 ∧ x6 < 64) ∧ zin x4 ∧ ((x4 = 0 → J 11 ([some (zR (some 130)), some (zR (some (a1))), some (zR (some (a2))), some (zR (some 125)), some (zI x4), some (zI x5), some (zI (x6 + 1)), none, none, none], [], zup μ3 131 x6 v3, 0, 0)) ∧ (¬ (x4 = 0) → qX5_handOn G a1 a2 x6 (zup μ3 131 x6 v3) (fun μ7 => J 11 ([some (zR (some 130)), some (zR (some (a1))), some (zR (some (a2))), some (zR (some 125)), some (zI x4), some (zI x5), some (zI (x6 + 1)), none, none, none], [], μ7, 0, 0)))))) ∧ (¬ (3 ≤ x8) → (0 ≤ x6 ∧ x6 < 64) ∧ (0 ≤ ((zi μ (a1 + 6) x6) * 3) + x8 ∧ ((zi μ (a1 + 6) x6) * 3) + x8 < 24) ∧ (0 ≤ (x6 * 3) + x8 ∧ (x6 * 3) + x8 < 192) ∧ qX10_put G true ((zi μ (a1 + 5) (((zi μ (a1 + 6) x6) * 3) + x8)) + (zi μ 132 ((x6 * 3) + x8))) 400 μ (fun v11 μ11 => (0 ≤ x8 ∧ x8 < 3) ∧ J 58 ([some (zR (some 130)), some (zR (some (a1))), some (zR (some (a2))), some (zR (some 125)), some (zI x4), some (zI x5), some (zI x6), none, some (zI (x8 + 1)), none], [], zup μ11 133 x8 v11, 0, 0))))) : J 58 ([some (zR (some 130)), some (zR (some (a1))), some (zR (some (a2))), some (zR (some 125)), some (zI x4), some (zI x5), some (zI x6), none, some (zI x8), none], [], μ, 0, 0) := by
  obtain ⟨p, e, s, m, args, below, meth, c, A, hml, hr, hlk, hnm, rfl⟩ := C
  refine s_iload A dX5_print_58 rfl ?_
  refine s_iconst A dX5_print_60 ?_
  obtain ⟨oz1, h⟩ := h
  refine z_icmp_ge (tgt := 117) A dX5_print_61 (by decide) oz1 ⟨by decide, by decide⟩ (fun c2 => ?_) (fun c2 => ?_)
  · have h := h.1 c2
    refine s_aload_n A dX5_print_117 rfl ?_
    refine s_getf (k := 5) (j := 0) (sl := true) (v := zR (some 131)) A dX5_print_118 rfl zuw_X5 (Nat.le_of_ble_eq_true rfl) zwd327 (by decide) (zk_130 _) rfl ?_
    refine s_iload A dX5_print_121 rfl ?_
    refine s_aload_n A dX5_print_123 rfl ?_
    refine s_aload_n A dX5_print_124 rfl ?_
    refine s_aload_n A dX5_print_125 rfl ?_
    refine s_aload_n A dX5_print_126 rfl ?_
    refine s_getf (k := 5) (j := 2) (sl := true) (v := zR (some 133)) A dX5_print_127 rfl zuw_X5 (Nat.le_of_ble_eq_true rfl) zwd330 (by decide) (zk_130 _) rfl ?_
    refine s_iconst A dX5_print_130 ?_
    refine z_iald A dX5_print_131 (zk_133 _) (Nat.le_of_ble_eq_true rfl) ⟨by decide, by decide⟩ ?_
    refine s_aload_n A dX5_print_132 rfl ?_
    refine s_getf (k := 5) (j := 2) (sl := true) (v := zR (some 133)) A dX5_print_133 rfl zuw_X5 (Nat.le_of_ble_eq_true rfl) zwd330 (by decide) (zk_130 _) rfl ?_
    refine s_iconst A dX5_print_136 ?_
    refine z_iald A dX5_print_137 (zk_133 _) (Nat.le_of_ble_eq_true rfl) ⟨by decide, by decide⟩ ?_
    refine s_aload_n A dX5_print_138 rfl ?_
    refine s_getf (k := 5) (j := 2) (sl := true) (v := zR (some 133)) A dX5_print_139 rfl zuw_X5 (Nat.le_of_ble_eq_true rfl) zwd330 (by decide) (zk_130 _) rfl ?_
    refine s_iconst A dX5_print_142 ?_
    refine z_iald A dX5_print_143 (zk_133 _) (Nat.le_of_ble_eq_true rfl) ⟨by decide, by decide⟩ ?_
    refine s_callV (a := 125) (k := 4) (N := 9) (sl := true) (M := mX4_find) (n := 5) (d := 9) (mc := 0) (ms := 0) (av := [zR (some (a1)), zR (some (a2)), zI (zi μ 133 0), zI (zi μ 133 1), zI (zi μ 133 2)]) (st := [zI x6, zR (some 131)]) A dX5_print_144 rfl (by decide) (zk_125 _) zwd1102 zwd903 zwd904 zwd97 zcd_X4_find (Nat.le_of_ble_eq_true rfl) (Nat.le_of_ble_eq_true rfl) (Nat.le_refl _) ⟨Nat.le_of_ble_eq_true rfl, Nat.le_of_ble_eq_true rfl⟩ ⟨rfl, zhn_X4_find⟩ rfl (Nat.le_of_ble_eq_true rfl) rfl (z_contI (fun v3 μ3 h => ?_) h)
    obtain ⟨ox4, h⟩ := h
    refine z_iast A dX5_print_147 (zk_131 _) (Nat.le_of_ble_eq_true rfl) ox4 ?_
    refine s_iload A dX5_print_148 rfl ?_
    obtain ⟨oz5, h⟩ := h
    refine z_if_eq (tgt := 161) A dX5_print_150 (by decide) oz5 (fun c6 => ?_) (fun c6 => ?_)
    · have h := h.1 c6
      refine s_iinc (L' := [some (zR (some 130)), some (zR (some (a1))), some (zR (some (a2))), some (zR (some 125)), some (zI x4), some (zI x5), some (zI (x6 + 1)), none, some (zI x8), none]) A dX5_print_161 rfl rfl ?_
      refine s_goto (tgt := 11) A dX5_print_164 (by decide) ?_
      exact z_wk (L' := [some (zR (some 130)), some (zR (some (a1))), some (zR (some (a2))), some (zR (some 125)), some (zI x4), some (zI x5), some (zI (x6 + 1)), none, none, none]) ⟨rfl, rfl, rfl, rfl, rfl, rfl, rfl, trivial⟩ h
    · have h := h.2 c6
      refine s_aload_n A dX5_print_153 rfl ?_
      refine s_aload_n A dX5_print_154 rfl ?_
      refine s_aload_n A dX5_print_155 rfl ?_
      refine s_iload A dX5_print_156 rfl ?_
      refine s_callV (a := 130) (k := 5) (N := 3) (sl := true) (M := mX5_handOn) (n := 3) (d := 2) (mc := 0) (ms := 0) (av := [zR (some (a1)), zR (some (a2)), zI x6]) (st := []) A dX5_print_158 rfl (by decide) (zk_130 _) zwd1103 zwd1105 zwd27 zwd99 zcd_X5_handOn (Nat.le_of_ble_eq_true rfl) (Nat.le_of_ble_eq_true rfl) (Nat.le_refl _) ⟨Nat.le_of_ble_eq_true rfl, Nat.le_of_ble_eq_true rfl⟩ ⟨rfl, zhn_X5_handOn⟩ rfl (Nat.le_of_ble_eq_true rfl) rfl (z_contV (fun μ7 h => ?_) h)
      refine s_iinc (L' := [some (zR (some 130)), some (zR (some (a1))), some (zR (some (a2))), some (zR (some 125)), some (zI x4), some (zI x5), some (zI (x6 + 1)), none, some (zI x8), none]) A dX5_print_161 rfl rfl ?_
      refine s_goto (tgt := 11) A dX5_print_164 (by decide) ?_
      exact z_wk (L' := [some (zR (some 130)), some (zR (some (a1))), some (zR (some (a2))), some (zR (some 125)), some (zI x4), some (zI x5), some (zI (x6 + 1)), none, none, none]) ⟨rfl, rfl, rfl, rfl, rfl, rfl, rfl, trivial⟩ h
  · have h := h.2 c2
    refine s_aload_n A dX5_print_64 rfl ?_
    refine s_getf (k := 7) (j := 4) (sl := true) (v := zR (some (a1 + 5))) A dX5_print_65 rfl zuw_X7 (Nat.le_of_ble_eq_true rfl) zwd194 (by decide) (ha1.k0 _) rfl ?_
    refine s_aload_n A dX5_print_68 rfl ?_
    refine s_getf (k := 7) (j := 5) (sl := true) (v := zR (some (a1 + 6))) A dX5_print_69 rfl zuw_X7 (Nat.le_of_ble_eq_true rfl) zwd196 (by decide) (ha1.k0 _) rfl ?_
    refine s_iload A dX5_print_72 rfl ?_
    obtain ⟨ox8, h⟩ := h
    refine z_iald A dX5_print_74 (ha1.k6 _) (Nat.le_of_ble_eq_true rfl) ox8 ?_
    refine s_iconst A dX5_print_75 ?_
    refine s_imul A dX5_print_76 ?_
    refine s_iload A dX5_print_77 rfl ?_
    refine s_iadd A dX5_print_79 ?_
    obtain ⟨ox9, h⟩ := h
    refine z_iald A dX5_print_80 (ha1.k5 _) (Nat.le_of_ble_eq_true rfl) ox9 ?_
    refine s_istore (L' := [some (zR (some 130)), some (zR (some (a1))), some (zR (some (a2))), some (zR (some 125)), some (zI x4), some (zI x5), some (zI x6), none, some (zI x8), some (zI (zi μ (a1 + 5) (((zi μ (a1 + 6) x6) * 3) + x8)))]) A dX5_print_81 (Nat.le_of_ble_eq_true rfl) rfl ?_
    refine s_aload_n A dX5_print_83 rfl ?_
    refine s_getf (k := 5) (j := 2) (sl := true) (v := zR (some 133)) A dX5_print_84 rfl zuw_X5 (Nat.le_of_ble_eq_true rfl) zwd330 (by decide) (zk_130 _) rfl ?_
    refine s_iload A dX5_print_87 rfl ?_
    refine s_iload A dX5_print_89 rfl ?_
    refine s_aload_n A dX5_print_91 rfl ?_
    refine s_getf (k := 5) (j := 1) (sl := true) (v := zR (some 132)) A dX5_print_92 rfl zuw_X5 (Nat.le_of_ble_eq_true rfl) zwd329 (by decide) (zk_130 _) rfl ?_
    refine s_iload A dX5_print_95 rfl ?_
    refine s_iconst A dX5_print_97 ?_
    refine s_imul A dX5_print_98 ?_
    refine s_iload A dX5_print_99 rfl ?_
    refine s_iadd A dX5_print_101 ?_
    obtain ⟨ox10, h⟩ := h
    refine z_iald A dX5_print_102 (zk_132 _) (Nat.le_of_ble_eq_true rfl) ox10 ?_
    refine s_iadd A dX5_print_103 ?_
    refine s_sipush A dX5_print_104 rfl ?_
    refine s_callSN (host := "InkFolds") (M := mX10_put) (n := 2) (d := 8) (mc := 0) (ms := 0) (av := [zI ((zi μ (a1 + 5) (((zi μ (a1 + 6) x6) * 3) + x8)) + (zi μ 132 ((x6 * 3) + x8))), zI 400]) (st := [zI x8, zR (some 133)]) A dX5_print_107 zwr1101 zwd733 zwd89 zcd_X10_put (Nat.le_of_ble_eq_true rfl) (Nat.le_of_ble_eq_true rfl) (Nat.le_refl _) ⟨Nat.le_of_ble_eq_true rfl, Nat.le_of_ble_eq_true rfl⟩ zhn_X10_put rfl (Nat.le_of_ble_eq_true rfl) rfl (z_contI (fun v11 μ11 h => ?_) h)
    obtain ⟨ox12, h⟩ := h
    refine z_iast A dX5_print_110 (zk_133 _) (Nat.le_of_ble_eq_true rfl) ox12 ?_
    refine s_iinc (L' := [some (zR (some 130)), some (zR (some (a1))), some (zR (some (a2))), some (zR (some 125)), some (zI x4), some (zI x5), some (zI x6), none, some (zI (x8 + 1)), some (zI (zi μ (a1 + 5) (((zi μ (a1 + 6) x6) * 3) + x8)))]) A dX5_print_111 rfl rfl ?_
    refine s_goto (tgt := 58) A dX5_print_114 (by decide) ?_
    exact z_wk (L' := [some (zR (some 130)), some (zR (some (a1))), some (zR (some (a2))), some (zR (some 125)), some (zI x4), some (zI x5), some (zI x6), none, some (zI (x8 + 1)), none]) ⟨rfl, rfl, rfl, rfl, rfl, rfl, rfl, rfl, trivial⟩ h
theorem eX5_print {G : zG} {F : zM → Prop} {μ : zM} {a1 : Nat} {a2 : Nat} {x4 : Int} {x5 : Int} (h : ∀ J, zJ G true (10) 0 0 mX5_print (zKV F) J → J 0 ([some (zR (some 130)), some (zR (some (a1))), some (zR (some (a2))), some (zR (some 125)), some (zI x4), some (zI x5), none, none, none, none], [], μ, 0, 0)) : qX5_print G a1 a2 x4 x5 μ F :=
  z_body (by decide +kernel) (Nat.le_of_ble_eq_true rfl) h
set_option maxRecDepth 20000 in
theorem rX5_inkUsed_e {G : zG} {F : Int → zM → Prop} {J : Nat → zS → Prop} {μ : zM} (C : zJ G true (2) 0 0 mX5_inkUsed (zKI F) J) {a1 : Nat} (ha1 : zIsSt a1) (x2 : Int)
    (h : J 5 ([some (zR (some 130)), some (zR (some (a1))), some (zI x2), some (zI 0), some (zI 0)], [], μ, 0, 0)) : J 0 ([some (zR (some 130)), some (zR (some (a1))), some (zI x2), none, none], [], μ, 0, 0) := by
  obtain ⟨p, e, s, m, args, below, meth, c, A, hml, hr, hlk, hnm, rfl⟩ := C
  refine s_iconst A dX5_inkUsed_0 ?_
  refine s_istore_n (L' := [some (zR (some 130)), some (zR (some (a1))), some (zI x2), some (zI 0), none]) A dX5_inkUsed_1 (Nat.le_of_ble_eq_true rfl) rfl ?_
  refine s_iconst A dX5_inkUsed_2 ?_
  refine s_istore (L' := [some (zR (some 130)), some (zR (some (a1))), some (zI x2), some (zI 0), some (zI 0)]) A dX5_inkUsed_3 (Nat.le_of_ble_eq_true rfl) rfl ?_
  exact h
set_option maxRecDepth 20000 in
theorem rX5_inkUsed_5 {G : zG} {F : Int → zM → Prop} {J : Nat → zS → Prop} {μ : zM} (C : zJ G true (2) 0 0 mX5_inkUsed (zKI F) J) {a1 : Nat} (ha1 : zIsSt a1) (x2 : Int) (x3 : Int) (x4 : Int)
    (h : qX7_cellCount G a1 μ (fun v1 μ1 => zin x4 ∧ zin v1 ∧ ((v1 ≤ x4 → F x3 μ1) ∧ (¬ (v1 ≤ x4) → (0 ≤ x4 ∧ x4 < 64) ∧ qX10_amountOf G true (zi μ1 131 x4) x2 μ1 (fun v6 μ6 => J 5 ([some (zR (some 130)), some (zR (some (a1))), some (zI x2), some (zI (x3 + v6)), some (zI (x4 + 1))], [], μ6, 0, 0)))))) : J 5 ([some (zR (some 130)), some (zR (some (a1))), some (zI x2), some (zI x3), some (zI x4)], [], μ, 0, 0) := by
  obtain ⟨p, e, s, m, args, below, meth, c, A, hml, hr, hlk, hnm, rfl⟩ := C
  refine s_iload A dX5_inkUsed_5 rfl ?_
  refine s_aload_n A dX5_inkUsed_7 rfl ?_
  refine s_callV (a := a1) (k := 7) (N := 9) (sl := true) (M := mX7_cellCount) (n := 0) (d := 0) (mc := 0) (ms := 0) (av := []) (st := [zI x4]) A dX5_inkUsed_8 rfl (by decide) (ha1.k0 _) zwd1108 zwd720 zwd721 zwd92 zcd_X7_cellCount (Nat.le_of_ble_eq_true rfl) (Nat.le_of_ble_eq_true rfl) (Nat.le_refl _) ⟨Nat.le_of_ble_eq_true rfl, Nat.le_of_ble_eq_true rfl⟩ ⟨rfl, zhn_X7_cellCount⟩ rfl (Nat.le_of_ble_eq_true rfl) rfl (z_contI (fun v1 μ1 h => ?_) h)
  obtain ⟨oz2, h⟩ := h
  obtain ⟨oz3, h⟩ := h
  refine z_icmp_ge (tgt := 34) A dX5_inkUsed_11 (by decide) oz2 oz3 (fun c4 => ?_) (fun c4 => ?_)
  · have h := h.1 c4
    refine s_iload_n A dX5_inkUsed_34 rfl ?_
    exact s_iret A dX5_inkUsed_35 hr hlk (Nat.le_of_ble_eq_true rfl) (Nat.le_of_ble_eq_true rfl) ⟨_, rfl, h⟩
  · have h := h.2 c4
    refine s_iload_n A dX5_inkUsed_14 rfl ?_
    refine s_aload_n A dX5_inkUsed_15 rfl ?_
    refine s_getf (k := 5) (j := 0) (sl := true) (v := zR (some 131)) A dX5_inkUsed_16 rfl zuw_X5 (Nat.le_of_ble_eq_true rfl) zwd327 (by decide) (zk_130 _) rfl ?_
    refine s_iload A dX5_inkUsed_19 rfl ?_
    obtain ⟨ox5, h⟩ := h
    refine z_iald A dX5_inkUsed_21 (zk_131 _) (Nat.le_of_ble_eq_true rfl) ox5 ?_
    refine s_iload_n A dX5_inkUsed_22 rfl ?_
    refine s_callSN (host := "InkFolds") (M := mX10_amountOf) (n := 2) (d := 0) (mc := 0) (ms := 0) (av := [zI (zi μ1 131 x4), zI x2]) (st := [zI x3]) A dX5_inkUsed_23 zwr1113 zwd840 zwd89 zcd_X10_amountOf (Nat.le_of_ble_eq_true rfl) (Nat.le_of_ble_eq_true rfl) (Nat.le_refl _) ⟨Nat.le_of_ble_eq_true rfl, Nat.le_of_ble_eq_true rfl⟩ zhn_X10_amountOf rfl (Nat.le_of_ble_eq_true rfl) rfl (z_contI (fun v6 μ6 h => ?_) h)
    refine s_iadd A dX5_inkUsed_26 ?_
    refine s_istore_n (L' := [some (zR (some 130)), some (zR (some (a1))), some (zI x2), some (zI (x3 + v6)), some (zI x4)]) A dX5_inkUsed_27 (Nat.le_of_ble_eq_true rfl) rfl ?_
    refine s_iinc (L' := [some (zR (some 130)), some (zR (some (a1))), some (zI x2), some (zI (x3 + v6)), some (zI (x4 + 1))]) A dX5_inkUsed_28 rfl rfl ?_
    refine s_goto (tgt := 5) A dX5_inkUsed_31 (by decide) ?_
    exact h
theorem eX5_inkUsed {G : zG} {F : Int → zM → Prop} {μ : zM} {a1 : Nat} {x2 : Int} (h : ∀ J, zJ G true (2) 0 0 mX5_inkUsed (zKI F) J → J 0 ([some (zR (some 130)), some (zR (some (a1))), some (zI x2), none, none], [], μ, 0, 0)) : qX5_inkUsed G a1 x2 μ F :=
  z_body (by decide +kernel) (Nat.le_of_ble_eq_true rfl) h
set_option maxRecDepth 20000 in
theorem rX5_farFromLetters_e {G : zG} {F : Int → zM → Prop} {J : Nat → zS → Prop} {μ : zM} (C : zJ G true (3) 0 0 mX5_farFromLetters (zKL F) J) {a1 : Nat} (ha1 : zIsSt a1) {a2 : Nat} (ha2 : zIsCh a2)
    (h : J 5 ([some (zR (some 130)), some (zR (some (a1))), some (zR (some (a2))), some (zL 0), none, some (zI 0), none], [], μ, 0, 0)) : J 0 ([some (zR (some 130)), some (zR (some (a1))), some (zR (some (a2))), none, none, none, none], [], μ, 0, 0) := by
  obtain ⟨p, e, s, m, args, below, meth, c, A, hml, hr, hlk, hnm, rfl⟩ := C
  refine s_lconst (z := 0) A dX5_farFromLetters_0 rfl ?_
  refine s_lstore_n (L' := [some (zR (some 130)), some (zR (some (a1))), some (zR (some (a2))), some (zL 0), none, none, none]) A dX5_farFromLetters_1 (Nat.le_of_ble_eq_true rfl) rfl ?_
  refine s_iconst A dX5_farFromLetters_2 ?_
  refine s_istore (L' := [some (zR (some 130)), some (zR (some (a1))), some (zR (some (a2))), some (zL 0), none, some (zI 0), none]) A dX5_farFromLetters_3 (Nat.le_of_ble_eq_true rfl) rfl ?_
  exact h
set_option maxRecDepth 20000 in
theorem rX5_farFromLetters_5 {G : zG} {F : Int → zM → Prop} {J : Nat → zS → Prop} {μ : zM} (C : zJ G true (3) 0 0 mX5_farFromLetters (zKL F) J) {a1 : Nat} (ha1 : zIsSt a1) {a2 : Nat} (ha2 : zIsCh a2) (y3 : Int) (x5 : Int)
    (h : qX7_cellCount G a1 μ (fun v1 μ1 => zin x5 ∧ zin v1 ∧ ((v1 ≤ x5 → F y3 μ1) ∧ (¬ (v1 ≤ x5) → (0 ≤ x5 ∧ x5 < 64) ∧ (0 ≤ (zi μ1 (a1 + 6) x5) * 3 ∧ (zi μ1 (a1 + 6) x5) * 3 < 24) ∧ (0 ≤ ((zi μ1 (a1 + 6) x5) * 3) + 1 ∧ ((zi μ1 (a1 + 6) x5) * 3) + 1 < 24) ∧ (0 ≤ ((zi μ1 (a1 + 6) x5) * 3) + 2 ∧ ((zi μ1 (a1 + 6) x5) * 3) + 2 < 24) ∧ qX0_distanceTo G a2 a1 (zi μ1 131 x5) (zi μ1 (a1 + 5) ((zi μ1 (a1 + 6) x5) * 3)) (zi μ1 (a1 + 5) (((zi μ1 (a1 + 6) x5) * 3) + 1)) (zi μ1 (a1 + 5) (((zi μ1 (a1 + 6) x5) * 3) + 2)) μ1 (fun v9 μ9 => zin v9 ∧ J 5 ([some (zR (some 130)), some (zR (some (a1))), some (zR (some (a2))), some (zL (y3 + v9)), none, some (zI (x5 + 1)), none], [], μ9, 0, 0)))))) : J 5 ([some (zR (some 130)), some (zR (some (a1))), some (zR (some (a2))), some (zL y3), none, some (zI x5), none], [], μ, 0, 0) := by
  obtain ⟨p, e, s, m, args, below, meth, c, A, hml, hr, hlk, hnm, rfl⟩ := C
  refine s_iload A dX5_farFromLetters_5 rfl ?_
  refine s_aload_n A dX5_farFromLetters_7 rfl ?_
  refine s_callV (a := a1) (k := 7) (N := 9) (sl := true) (M := mX7_cellCount) (n := 0) (d := 0) (mc := 0) (ms := 0) (av := []) (st := [zI x5]) A dX5_farFromLetters_8 rfl (by decide) (ha1.k0 _) zwd1108 zwd720 zwd721 zwd92 zcd_X7_cellCount (Nat.le_of_ble_eq_true rfl) (Nat.le_of_ble_eq_true rfl) (Nat.le_refl _) ⟨Nat.le_of_ble_eq_true rfl, Nat.le_of_ble_eq_true rfl⟩ ⟨rfl, zhn_X7_cellCount⟩ rfl (Nat.le_of_ble_eq_true rfl) rfl (z_contI (fun v1 μ1 h => ?_) h)
  obtain ⟨oz2, h⟩ := h
  obtain ⟨oz3, h⟩ := h
  refine z_icmp_ge (tgt := 72) A dX5_farFromLetters_11 (by decide) oz2 oz3 (fun c4 => ?_) (fun c4 => ?_)
  · have h := h.1 c4
    refine s_lload_n A dX5_farFromLetters_72 rfl ?_
    exact s_lret A dX5_farFromLetters_73 hr hlk (Nat.le_of_ble_eq_true rfl) (Nat.le_of_ble_eq_true rfl) ⟨_, rfl, h⟩
  · have h := h.2 c4
    refine s_aload_n A dX5_farFromLetters_14 rfl ?_
    refine s_getf (k := 7) (j := 5) (sl := true) (v := zR (some (a1 + 6))) A dX5_farFromLetters_15 rfl zuw_X7 (Nat.le_of_ble_eq_true rfl) zwd196 (by decide) (ha1.k0 _) rfl ?_
    refine s_iload A dX5_farFromLetters_18 rfl ?_
    obtain ⟨ox5, h⟩ := h
    refine z_iald A dX5_farFromLetters_20 (ha1.k6 _) (Nat.le_of_ble_eq_true rfl) ox5 ?_
    refine s_iconst A dX5_farFromLetters_21 ?_
    refine s_imul A dX5_farFromLetters_22 ?_
    refine s_istore (L' := [some (zR (some 130)), some (zR (some (a1))), some (zR (some (a2))), some (zL y3), none, some (zI x5), some (zI ((zi μ1 (a1 + 6) x5) * 3))]) A dX5_farFromLetters_23 (Nat.le_of_ble_eq_true rfl) rfl ?_
    refine s_lload_n A dX5_farFromLetters_25 rfl ?_
    refine s_aload_n A dX5_farFromLetters_26 rfl ?_
    refine s_aload_n A dX5_farFromLetters_27 rfl ?_
    refine s_aload_n A dX5_farFromLetters_28 rfl ?_
    refine s_getf (k := 5) (j := 0) (sl := true) (v := zR (some 131)) A dX5_farFromLetters_29 rfl zuw_X5 (Nat.le_of_ble_eq_true rfl) zwd327 (by decide) (zk_130 _) rfl ?_
    refine s_iload A dX5_farFromLetters_32 rfl ?_
    refine z_iald A dX5_farFromLetters_34 (zk_131 _) (Nat.le_of_ble_eq_true rfl) ox5 ?_
    refine s_aload_n A dX5_farFromLetters_35 rfl ?_
    refine s_getf (k := 7) (j := 4) (sl := true) (v := zR (some (a1 + 5))) A dX5_farFromLetters_36 rfl zuw_X7 (Nat.le_of_ble_eq_true rfl) zwd194 (by decide) (ha1.k0 _) rfl ?_
    refine s_iload A dX5_farFromLetters_39 rfl ?_
    obtain ⟨ox6, h⟩ := h
    refine z_iald A dX5_farFromLetters_41 (ha1.k5 _) (Nat.le_of_ble_eq_true rfl) ox6 ?_
    refine s_aload_n A dX5_farFromLetters_42 rfl ?_
    refine s_getf (k := 7) (j := 4) (sl := true) (v := zR (some (a1 + 5))) A dX5_farFromLetters_43 rfl zuw_X7 (Nat.le_of_ble_eq_true rfl) zwd194 (by decide) (ha1.k0 _) rfl ?_
    refine s_iload A dX5_farFromLetters_46 rfl ?_
    refine s_iconst A dX5_farFromLetters_48 ?_
    refine s_iadd A dX5_farFromLetters_49 ?_
    obtain ⟨ox7, h⟩ := h
    refine z_iald A dX5_farFromLetters_50 (ha1.k5 _) (Nat.le_of_ble_eq_true rfl) ox7 ?_
    refine s_aload_n A dX5_farFromLetters_51 rfl ?_
    refine s_getf (k := 7) (j := 4) (sl := true) (v := zR (some (a1 + 5))) A dX5_farFromLetters_52 rfl zuw_X7 (Nat.le_of_ble_eq_true rfl) zwd194 (by decide) (ha1.k0 _) rfl ?_
    refine s_iload A dX5_farFromLetters_55 rfl ?_
    refine s_iconst A dX5_farFromLetters_57 ?_
    refine s_iadd A dX5_farFromLetters_58 ?_
    obtain ⟨ox8, h⟩ := h
    refine z_iald A dX5_farFromLetters_59 (ha1.k5 _) (Nat.le_of_ble_eq_true rfl) ox8 ?_
    refine s_callV (a := a2) (k := 0) (N := 5) (sl := true) (M := mX0_distanceTo) (n := 5) (d := 2) (mc := 0) (ms := 0) (av := [zR (some (a1)), zI (zi μ1 131 x5), zI (zi μ1 (a1 + 5) ((zi μ1 (a1 + 6) x5) * 3)), zI (zi μ1 (a1 + 5) (((zi μ1 (a1 + 6) x5) * 3) + 1)), zI (zi μ1 (a1 + 5) (((zi μ1 (a1 + 6) x5) * 3) + 2))]) (st := [zL y3]) A dX5_farFromLetters_60 rfl (by decide) (ha2.k0 _) zwd1118 zwd912 zwd913 zwd95 zcd_X0_distanceTo (Nat.le_of_ble_eq_true rfl) (Nat.le_of_ble_eq_true rfl) (Nat.le_refl _) ⟨Nat.le_of_ble_eq_true rfl, Nat.le_of_ble_eq_true rfl⟩ ⟨rfl, zhn_X0_distanceTo⟩ rfl (Nat.le_of_ble_eq_true rfl) rfl (z_contI (fun v9 μ9 h => ?_) h)
    obtain ⟨oz10, h⟩ := h
    refine z_i2l2 A dX5_farFromLetters_63 oz10 ?_
    refine s_ladd A dX5_farFromLetters_64 ?_
    refine s_lstore_n (L' := [some (zR (some 130)), some (zR (some (a1))), some (zR (some (a2))), some (zL (y3 + v9)), none, some (zI x5), some (zI ((zi μ1 (a1 + 6) x5) * 3))]) A dX5_farFromLetters_65 (Nat.le_of_ble_eq_true rfl) rfl ?_
    refine s_iinc (L' := [some (zR (some 130)), some (zR (some (a1))), some (zR (some (a2))), some (zL (y3 + v9)), none, some (zI (x5 + 1)), some (zI ((zi μ1 (a1 + 6) x5) * 3))]) A dX5_farFromLetters_66 rfl rfl ?_
    refine s_goto (tgt := 5) A dX5_farFromLetters_69 (by decide) ?_
    exact z_wk (L' := [some (zR (some 130)), some (zR (some (a1))), some (zR (some (a2))), some (zL (y3 + v9)), none, some (zI (x5 + 1)), none]) ⟨rfl, rfl, rfl, rfl, rfl, trivial⟩ h
theorem eX5_farFromLetters {G : zG} {F : Int → zM → Prop} {μ : zM} {a1 : Nat} {a2 : Nat} (h : ∀ J, zJ G true (3) 0 0 mX5_farFromLetters (zKL F) J → J 0 ([some (zR (some 130)), some (zR (some (a1))), some (zR (some (a2))), none, none, none, none], [], μ, 0, 0)) : qX5_farFromLetters G a1 a2 μ F :=
  z_body (by decide +kernel) (Nat.le_of_ble_eq_true rfl) h
set_option maxRecDepth 20000 in
theorem rX5_countDifferent_e {G : zG} {F : Int → zM → Prop} {J : Nat → zS → Prop} {μ : zM} (C : zJ G true (2) 0 0 mX5_countDifferent (zKI F) J) {a1 : Nat} (ha1 : zIsSt a1)
    (h : J 4 ([some (zR (some 130)), some (zR (some (a1))), some (zI 0), some (zI 0), none, none], [], μ, 0, 0)) : J 0 ([some (zR (some 130)), some (zR (some (a1))), none, none, none, none], [], μ, 0, 0) := by
  obtain ⟨p, e, s, m, args, below, meth, c, A, hml, hr, hlk, hnm, rfl⟩ := C
  refine s_iconst A dX5_countDifferent_0 ?_
  refine s_istore_n (L' := [some (zR (some 130)), some (zR (some (a1))), some (zI 0), none, none, none]) A dX5_countDifferent_1 (Nat.le_of_ble_eq_true rfl) rfl ?_
  refine s_iconst A dX5_countDifferent_2 ?_
  refine s_istore_n (L' := [some (zR (some 130)), some (zR (some (a1))), some (zI 0), some (zI 0), none, none]) A dX5_countDifferent_3 (Nat.le_of_ble_eq_true rfl) rfl ?_
  exact h
set_option maxRecDepth 20000 in
theorem rX5_countDifferent_4 {G : zG} {F : Int → zM → Prop} {J : Nat → zS → Prop} {μ : zM} (C : zJ G true (2) 0 0 mX5_countDifferent (zKI F) J) {a1 : Nat} (ha1 : zIsSt a1) (x2 : Int) (x3 : Int)
    (h : qX7_cellCount G a1 μ (fun v1 μ1 => zin x3 ∧ zin v1 ∧ ((v1 ≤ x3 → F x2 μ1) ∧ (¬ (v1 ≤ x3) → J 18 ([some (zR (some 130)), some (zR (some (a1))), some (zI x2), some (zI x3), some (zI 1), some (zI 0)], [], μ1, 0, 0))))) : J 4 ([some (zR (some 130)), some (zR (some (a1))), some (zI x2), some (zI x3), none, none], [], μ, 0, 0) := by
  obtain ⟨p, e, s, m, args, below, meth, c, A, hml, hr, hlk, hnm, rfl⟩ := C
  refine s_iload_n A dX5_countDifferent_4 rfl ?_
  refine s_aload_n A dX5_countDifferent_5 rfl ?_
  refine s_callV (a := a1) (k := 7) (N := 9) (sl := true) (M := mX7_cellCount) (n := 0) (d := 0) (mc := 0) (ms := 0) (av := []) (st := [zI x3]) A dX5_countDifferent_6 rfl (by decide) (ha1.k0 _) zwd1108 zwd720 zwd721 zwd92 zcd_X7_cellCount (Nat.le_of_ble_eq_true rfl) (Nat.le_of_ble_eq_true rfl) (Nat.le_refl _) ⟨Nat.le_of_ble_eq_true rfl, Nat.le_of_ble_eq_true rfl⟩ ⟨rfl, zhn_X7_cellCount⟩ rfl (Nat.le_of_ble_eq_true rfl) rfl (z_contI (fun v1 μ1 h => ?_) h)
  obtain ⟨oz2, h⟩ := h
  obtain ⟨oz3, h⟩ := h
  refine z_icmp_ge (tgt := 72) A dX5_countDifferent_9 (by decide) oz2 oz3 (fun c4 => ?_) (fun c4 => ?_)
  · have h := h.1 c4
    refine s_iload_n A dX5_countDifferent_72 rfl ?_
    exact s_iret A dX5_countDifferent_73 hr hlk (Nat.le_of_ble_eq_true rfl) (Nat.le_of_ble_eq_true rfl) ⟨_, rfl, h⟩
  · have h := h.2 c4
    refine s_iconst A dX5_countDifferent_12 ?_
    refine s_istore (L' := [some (zR (some 130)), some (zR (some (a1))), some (zI x2), some (zI x3), some (zI 1), none]) A dX5_countDifferent_13 (Nat.le_of_ble_eq_true rfl) rfl ?_
    refine s_iconst A dX5_countDifferent_15 ?_
    refine s_istore (L' := [some (zR (some 130)), some (zR (some (a1))), some (zI x2), some (zI x3), some (zI 1), some (zI 0)]) A dX5_countDifferent_16 (Nat.le_of_ble_eq_true rfl) rfl ?_
    exact h
set_option maxRecDepth 20000 in
theorem rX5_countDifferent_18 {G : zG} {F : Int → zM → Prop} {J : Nat → zS → Prop} {μ : zM} (C : zJ G true (2) 0 0 mX5_countDifferent (zKI F) J) {a1 : Nat} (ha1 : zIsSt a1) (x2 : Int) (x3 : Int) (x4 : Int) (x5 : Int)
    (h : zin x5 ∧ zin x3 ∧ ((x3 ≤ x5 → zin x4 ∧ ((x4 = 0 → J 4 ([some (zR (some 130)), some (zR (some (a1))), some (zI x2), some (zI (x3 + 1)), none, none], [], μ, 0, 0)) ∧ (¬ (x4 = 0) → J 4 ([some (zR (some 130)), some (zR (some (a1))), some (zI (x2 + 1)), some (zI (x3 + 1)), none, none], [], μ, 0, 0)))) ∧ (¬ (x3 ≤ x5) → zin x4 ∧ ((x4 = 0 → ((x4 = 0 → J 4 ([some (zR (some 130)), some (zR (some (a1))), some (zI x2), some (zI (x3 + 1)), none, none], [], μ, 0, 0)) ∧ (¬ (x4 = 0) → J 4 ([some (zR (some 130)), some (zR (some (a1))), some (zI (x2 + 1)), some (zI (x3 + 1)), none, none], [], μ, 0, 0)))) ∧ (¬ (x4 = 0) → (0 ≤ x5 ∧ x5 < 64) ∧ (0 ≤ x3 ∧ x3 < 64) ∧ zin (zi μ 131 x5) ∧ zin (zi μ 131 x3) ∧ ((zi μ 131 x5 = zi μ 131 x3 → J 18 ([some (zR (some 130)), some (zR (some (a1))), some (zI x2), some (zI x3), some (zI 0), some (zI (x5 + 1))], [], μ, 0, 0)) ∧ (¬ (zi μ 131 x5 = zi μ 131 x3) → J 18 ([some (zR (some 130)), some (zR (some (a1))), some (zI x2), some (zI x3), some (zI 1), some (zI (x5 + 1))], [], μ, 0, 0)))))))) : J 18 ([some (zR (some 130)), some (zR (some (a1))), some (zI x2), some (zI x3), some (zI x4), some (zI x5)], [], μ, 0, 0) := by
  obtain ⟨p, e, s, m, args, below, meth, c, A, hml, hr, hlk, hnm, rfl⟩ := C
  refine s_iload A dX5_countDifferent_18 rfl ?_
  refine s_iload_n A dX5_countDifferent_20 rfl ?_
  obtain ⟨oz1, h⟩ := h
  obtain ⟨oz2, h⟩ := h
  refine z_icmp_ge (tgt := 58) A dX5_countDifferent_21 (by decide) oz1 oz2 (fun c3 => ?_) (fun c3 => ?_)
  · have h := h.1 c3
    refine s_iload A dX5_countDifferent_58 rfl ?_
    obtain ⟨oz4, h⟩ := h
    refine z_if_eq (tgt := 66) A dX5_countDifferent_60 (by decide) oz4 (fun c5 => ?_) (fun c5 => ?_)
    · have h := h.1 c5
      refine s_iinc (L' := [some (zR (some 130)), some (zR (some (a1))), some (zI x2), some (zI (x3 + 1)), some (zI x4), some (zI x5)]) A dX5_countDifferent_66 rfl rfl ?_
      refine s_goto (tgt := 4) A dX5_countDifferent_69 (by decide) ?_
      exact z_wk (L' := [some (zR (some 130)), some (zR (some (a1))), some (zI x2), some (zI (x3 + 1)), none, none]) ⟨rfl, rfl, rfl, rfl, trivial⟩ h
    · have h := h.2 c5
      refine s_iinc (L' := [some (zR (some 130)), some (zR (some (a1))), some (zI (x2 + 1)), some (zI x3), some (zI x4), some (zI x5)]) A dX5_countDifferent_63 rfl rfl ?_
      refine s_iinc (L' := [some (zR (some 130)), some (zR (some (a1))), some (zI (x2 + 1)), some (zI (x3 + 1)), some (zI x4), some (zI x5)]) A dX5_countDifferent_66 rfl rfl ?_
      refine s_goto (tgt := 4) A dX5_countDifferent_69 (by decide) ?_
      exact z_wk (L' := [some (zR (some 130)), some (zR (some (a1))), some (zI (x2 + 1)), some (zI (x3 + 1)), none, none]) ⟨rfl, rfl, rfl, rfl, trivial⟩ h
  · have h := h.2 c3
    refine s_iload A dX5_countDifferent_24 rfl ?_
    obtain ⟨oz6, h⟩ := h
    refine z_if_eq (tgt := 58) A dX5_countDifferent_26 (by decide) oz6 (fun c7 => ?_) (fun c7 => ?_)
    · have h := h.1 c7
      refine s_iload A dX5_countDifferent_58 rfl ?_
      refine z_if_eq (tgt := 66) A dX5_countDifferent_60 (by decide) oz6 (fun c8 => ?_) (fun c8 => ?_)
      · have h := h.1 c8
        refine s_iinc (L' := [some (zR (some 130)), some (zR (some (a1))), some (zI x2), some (zI (x3 + 1)), some (zI x4), some (zI x5)]) A dX5_countDifferent_66 rfl rfl ?_
        refine s_goto (tgt := 4) A dX5_countDifferent_69 (by decide) ?_
        exact z_wk (L' := [some (zR (some 130)), some (zR (some (a1))), some (zI x2), some (zI (x3 + 1)), none, none]) ⟨rfl, rfl, rfl, rfl, trivial⟩ h
      · have h := h.2 c8
        refine s_iinc (L' := [some (zR (some 130)), some (zR (some (a1))), some (zI (x2 + 1)), some (zI x3), some (zI x4), some (zI x5)]) A dX5_countDifferent_63 rfl rfl ?_
        refine s_iinc (L' := [some (zR (some 130)), some (zR (some (a1))), some (zI (x2 + 1)), some (zI (x3 + 1)), some (zI x4), some (zI x5)]) A dX5_countDifferent_66 rfl rfl ?_
        refine s_goto (tgt := 4) A dX5_countDifferent_69 (by decide) ?_
        exact z_wk (L' := [some (zR (some 130)), some (zR (some (a1))), some (zI (x2 + 1)), some (zI (x3 + 1)), none, none]) ⟨rfl, rfl, rfl, rfl, trivial⟩ h
    · have h := h.2 c7
      refine s_aload_n A dX5_countDifferent_29 rfl ?_
      refine s_getf (k := 5) (j := 0) (sl := true) (v := zR (some 131)) A dX5_countDifferent_30 rfl zuw_X5 (Nat.le_of_ble_eq_true rfl) zwd327 (by decide) (zk_130 _) rfl ?_
      refine s_iload A dX5_countDifferent_33 rfl ?_
      obtain ⟨ox9, h⟩ := h
      refine z_iald A dX5_countDifferent_35 (zk_131 _) (Nat.le_of_ble_eq_true rfl) ox9 ?_
      refine s_aload_n A dX5_countDifferent_36 rfl ?_
      refine s_getf (k := 5) (j := 0) (sl := true) (v := zR (some 131)) A dX5_countDifferent_37 rfl zuw_X5 (Nat.le_of_ble_eq_true rfl) zwd327 (by decide) (zk_130 _) rfl ?_
      refine s_iload_n A dX5_countDifferent_40 rfl ?_
      obtain ⟨ox10, h⟩ := h
      refine z_iald A dX5_countDifferent_41 (zk_131 _) (Nat.le_of_ble_eq_true rfl) ox10 ?_
      obtain ⟨oz11, h⟩ := h
      obtain ⟨oz12, h⟩ := h
      refine z_icmp_eq (tgt := 49) A dX5_countDifferent_42 (by decide) oz11 oz12 (fun c13 => ?_) (fun c13 => ?_)
      · have h := h.1 c13
        refine s_iconst A dX5_countDifferent_49 ?_
        refine s_istore (L' := [some (zR (some 130)), some (zR (some (a1))), some (zI x2), some (zI x3), some (zI 0), some (zI x5)]) A dX5_countDifferent_50 (Nat.le_of_ble_eq_true rfl) rfl ?_
        refine s_iinc (L' := [some (zR (some 130)), some (zR (some (a1))), some (zI x2), some (zI x3), some (zI 0), some (zI (x5 + 1))]) A dX5_countDifferent_52 rfl rfl ?_
        refine s_goto (tgt := 18) A dX5_countDifferent_55 (by decide) ?_
        exact h
      · have h := h.2 c13
        refine s_iconst A dX5_countDifferent_45 ?_
        refine s_goto (tgt := 50) A dX5_countDifferent_46 (by decide) ?_
        refine s_istore (L' := [some (zR (some 130)), some (zR (some (a1))), some (zI x2), some (zI x3), some (zI 1), some (zI x5)]) A dX5_countDifferent_50 (Nat.le_of_ble_eq_true rfl) rfl ?_
        refine s_iinc (L' := [some (zR (some 130)), some (zR (some (a1))), some (zI x2), some (zI x3), some (zI 1), some (zI (x5 + 1))]) A dX5_countDifferent_52 rfl rfl ?_
        refine s_goto (tgt := 18) A dX5_countDifferent_55 (by decide) ?_
        exact h
theorem eX5_countDifferent {G : zG} {F : Int → zM → Prop} {μ : zM} {a1 : Nat} (h : ∀ J, zJ G true (2) 0 0 mX5_countDifferent (zKI F) J → J 0 ([some (zR (some 130)), some (zR (some (a1))), none, none, none, none], [], μ, 0, 0)) : qX5_countDifferent G a1 μ F :=
  z_body (by decide +kernel) (Nat.le_of_ble_eq_true rfl) h
set_option maxRecDepth 20000 in
theorem rX5_slipped_e {G : zG} {F : Int → zM → Prop} {J : Nat → zS → Prop} {μ : zM} (C : zJ G true (2) 0 0 mX5_slipped (zKI F) J) {a1 : Nat} (ha1 : zIsSt a1) (x2 : Int) (x3 : Int) (x4 : Int) (x5 : Int)
    (h : zin (zi μ a1 6) ∧ ((¬ zi μ a1 6 = 0 → (0 ≤ x2 ∧ x2 < 2147483648) ∧ (0 < zi μ a1 6 ∧ zi μ a1 6 < 2147483648) ∧ (0 ≤ x2 ∧ x2 < 2147483648) ∧ (0 < zi μ a1 6 ∧ zi μ a1 6 < 2147483648) ∧ qX10_isIn G true ((x2 % (zi μ a1 6)) - x4) 0 ((zi μ a1 6) - 1) μ (fun v3 μ3 => zin v3 ∧ ((v3 = 0 → (0 ≤ x2 ∧ x2 < 64) ∧ qX10_amountOf G true (zi μ3 131 x2) x3 μ3 (fun v7 μ7 => (0 ≤ x3 ∧ x3 < 4) ∧ F ((zi μ3 131 x2) + ((0 - v7) * (zta 1 x3))) μ7)) ∧ (¬ (v3 = 0) → qX10_isIn G true ((x2 / (zi μ a1 6)) - x5) 0 ((zi μ3 a1 7) - 1) μ3 (fun v9 μ9 => zin v9 ∧ ((v9 = 0 → (0 ≤ x2 ∧ x2 < 64) ∧ qX10_amountOf G true (zi μ9 131 x2) x3 μ9 (fun v13 μ13 => (0 ≤ x3 ∧ x3 < 4) ∧ F ((zi μ9 131 x2) + ((0 - v13) * (zta 1 x3))) μ13)) ∧ (¬ (v9 = 0) → (0 ≤ (((x2 / (zi μ a1 6)) - x5) * (zi μ9 a1 6)) + ((x2 % (zi μ a1 6)) - x4) ∧ (((x2 / (zi μ a1 6)) - x5) * (zi μ9 a1 6)) + ((x2 % (zi μ a1 6)) - x4) < 64) ∧ qX10_amountOf G true (zi μ9 131 ((((x2 / (zi μ a1 6)) - x5) * (zi μ9 a1 6)) + ((x2 % (zi μ a1 6)) - x4))) x3 μ9 (fun v16 μ16 => (0 ≤ x2 ∧ x2 < 64) ∧ qX10_amountOf G true (zi μ16 131 x2) x3 μ16 (fun v18 μ18 => (0 ≤ x3 ∧ x3 < 4) ∧ F ((zi μ16 131 x2) + ((v16 - v18) * (zta 1 x3))) μ18))))))))) ∧ (zi μ a1 6 = 0 → (0 ≤ x2 ∧ x2 < 64) ∧ F (zi μ 131 x2) μ))) : J 0 ([some (zR (some 130)), some (zR (some (a1))), some (zI x2), some (zI x3), some (zI x4), some (zI x5), none, none, none], [], μ, 0, 0) := by
  obtain ⟨p, e, s, m, args, below, meth, c, A, hml, hr, hlk, hnm, rfl⟩ := C
  refine s_aload_n A dX5_slipped_0 rfl ?_
  refine s_getf (k := 7) (j := 6) (sl := true) (v := zI (zi μ a1 6)) A dX5_slipped_1 rfl zuw_X7 (Nat.le_of_ble_eq_true rfl) zwd198 (by decide) (ha1.k0 _) rfl ?_
  obtain ⟨oz1, h⟩ := h
  refine z_if_ne (tgt := 14) A dX5_slipped_4 (by decide) oz1 (fun c2 => ?_) (fun c2 => ?_)
  · have h := h.1 c2
    refine s_iload_n A dX5_slipped_14 rfl ?_
    refine s_aload_n A dX5_slipped_15 rfl ?_
    refine s_getf (k := 7) (j := 6) (sl := true) (v := zI (zi μ a1 6)) A dX5_slipped_16 rfl zuw_X7 (Nat.le_of_ble_eq_true rfl) zwd198 (by decide) (ha1.k0 _) rfl ?_
    obtain ⟨o1, h⟩ := h
    obtain ⟨o2, h⟩ := h
    refine z_irem A dX5_slipped_19 o1 o2 ?_
    refine s_iload A dX5_slipped_20 rfl ?_
    refine s_isub A dX5_slipped_22 ?_
    refine s_istore (L' := [some (zR (some 130)), some (zR (some (a1))), some (zI x2), some (zI x3), some (zI x4), some (zI x5), some (zI ((x2 % (zi μ a1 6)) - x4)), none, none]) A dX5_slipped_23 (Nat.le_of_ble_eq_true rfl) rfl ?_
    refine s_iload_n A dX5_slipped_25 rfl ?_
    refine s_aload_n A dX5_slipped_26 rfl ?_
    refine s_getf (k := 7) (j := 6) (sl := true) (v := zI (zi μ a1 6)) A dX5_slipped_27 rfl zuw_X7 (Nat.le_of_ble_eq_true rfl) zwd198 (by decide) (ha1.k0 _) rfl ?_
    obtain ⟨o1, h⟩ := h
    obtain ⟨o2, h⟩ := h
    refine z_idiv A dX5_slipped_30 o1 o2 ?_
    refine s_iload A dX5_slipped_31 rfl ?_
    refine s_isub A dX5_slipped_33 ?_
    refine s_istore (L' := [some (zR (some 130)), some (zR (some (a1))), some (zI x2), some (zI x3), some (zI x4), some (zI x5), some (zI ((x2 % (zi μ a1 6)) - x4)), some (zI ((x2 / (zi μ a1 6)) - x5)), none]) A dX5_slipped_34 (Nat.le_of_ble_eq_true rfl) rfl ?_
    refine s_iconst A dX5_slipped_36 ?_
    refine s_istore (L' := [some (zR (some 130)), some (zR (some (a1))), some (zI x2), some (zI x3), some (zI x4), some (zI x5), some (zI ((x2 % (zi μ a1 6)) - x4)), some (zI ((x2 / (zi μ a1 6)) - x5)), some (zI 0)]) A dX5_slipped_37 (Nat.le_of_ble_eq_true rfl) rfl ?_
    refine s_iload A dX5_slipped_39 rfl ?_
    refine s_iconst A dX5_slipped_41 ?_
    refine s_aload_n A dX5_slipped_42 rfl ?_
    refine s_getf (k := 7) (j := 6) (sl := true) (v := zI (zi μ a1 6)) A dX5_slipped_43 rfl zuw_X7 (Nat.le_of_ble_eq_true rfl) zwd198 (by decide) (ha1.k0 _) rfl ?_
    refine s_iconst A dX5_slipped_46 ?_
    refine s_isub A dX5_slipped_47 ?_
    refine s_callSN (host := "InkFolds") (M := mX10_isIn) (n := 3) (d := 0) (mc := 0) (ms := 0) (av := [zI ((x2 % (zi μ a1 6)) - x4), zI 0, zI ((zi μ a1 6) - 1)]) (st := []) A dX5_slipped_48 zwr1135 zwd598 zwd89 zcd_X10_isIn (Nat.le_of_ble_eq_true rfl) (Nat.le_of_ble_eq_true rfl) (Nat.le_refl _) ⟨Nat.le_of_ble_eq_true rfl, Nat.le_of_ble_eq_true rfl⟩ zhn_X10_isIn rfl (Nat.le_of_ble_eq_true rfl) rfl (z_contI (fun v3 μ3 h => ?_) h)
    obtain ⟨oz4, h⟩ := h
    refine z_if_eq (tgt := 90) A dX5_slipped_51 (by decide) oz4 (fun c5 => ?_) (fun c5 => ?_)
    · have h := h.1 c5
      refine s_aload_n A dX5_slipped_90 rfl ?_
      refine s_getf (k := 5) (j := 0) (sl := true) (v := zR (some 131)) A dX5_slipped_91 rfl zuw_X5 (Nat.le_of_ble_eq_true rfl) zwd327 (by decide) (zk_130 _) rfl ?_
      refine s_iload_n A dX5_slipped_94 rfl ?_
      obtain ⟨ox6, h⟩ := h
      refine z_iald A dX5_slipped_95 (zk_131 _) (Nat.le_of_ble_eq_true rfl) ox6 ?_
      refine s_iload A dX5_slipped_96 rfl ?_
      refine s_aload_n A dX5_slipped_98 rfl ?_
      refine s_getf (k := 5) (j := 0) (sl := true) (v := zR (some 131)) A dX5_slipped_99 rfl zuw_X5 (Nat.le_of_ble_eq_true rfl) zwd327 (by decide) (zk_130 _) rfl ?_
      refine s_iload_n A dX5_slipped_102 rfl ?_
      refine z_iald A dX5_slipped_103 (zk_131 _) (Nat.le_of_ble_eq_true rfl) ox6 ?_
      refine s_iload_n A dX5_slipped_104 rfl ?_
      refine s_callSN (host := "InkFolds") (M := mX10_amountOf) (n := 2) (d := 0) (mc := 0) (ms := 0) (av := [zI (zi μ3 131 x2), zI x3]) (st := [zI 0, zI (zi μ3 131 x2)]) A dX5_slipped_105 zwr1113 zwd840 zwd89 zcd_X10_amountOf (Nat.le_of_ble_eq_true rfl) (Nat.le_of_ble_eq_true rfl) (Nat.le_refl _) ⟨Nat.le_of_ble_eq_true rfl, Nat.le_of_ble_eq_true rfl⟩ zhn_X10_amountOf rfl (Nat.le_of_ble_eq_true rfl) rfl (z_contI (fun v7 μ7 h => ?_) h)
      refine s_isub A dX5_slipped_108 ?_
      refine s_getsN (t := 1) A dX5_slipped_109 (by decide) (host := "InkFolds") zwr1136 ?_
      refine s_iload_n A dX5_slipped_112 rfl ?_
      obtain ⟨ox8, h⟩ := h
      refine z_tald A dX5_slipped_113 (by decide) (Nat.le_of_ble_eq_true rfl) ox8 ?_
      refine s_imul A dX5_slipped_114 ?_
      refine s_iadd A dX5_slipped_115 ?_
      exact s_iret A dX5_slipped_116 hr hlk (Nat.le_of_ble_eq_true rfl) (Nat.le_of_ble_eq_true rfl) ⟨_, rfl, h⟩
    · have h := h.2 c5
      refine s_iload A dX5_slipped_54 rfl ?_
      refine s_iconst A dX5_slipped_56 ?_
      refine s_aload_n A dX5_slipped_57 rfl ?_
      refine s_getf (k := 7) (j := 7) (sl := true) (v := zI (zi μ3 a1 7)) A dX5_slipped_58 rfl zuw_X7 (Nat.le_of_ble_eq_true rfl) zwd201 (by decide) (ha1.k0 _) rfl ?_
      refine s_iconst A dX5_slipped_61 ?_
      refine s_isub A dX5_slipped_62 ?_
      refine s_callSN (host := "InkFolds") (M := mX10_isIn) (n := 3) (d := 0) (mc := 0) (ms := 0) (av := [zI ((x2 / (zi μ a1 6)) - x5), zI 0, zI ((zi μ3 a1 7) - 1)]) (st := []) A dX5_slipped_63 zwr1135 zwd598 zwd89 zcd_X10_isIn (Nat.le_of_ble_eq_true rfl) (Nat.le_of_ble_eq_true rfl) (Nat.le_refl _) ⟨Nat.le_of_ble_eq_true rfl, Nat.le_of_ble_eq_true rfl⟩ zhn_X10_isIn rfl (Nat.le_of_ble_eq_true rfl) rfl (z_contI (fun v9 μ9 h => ?_) h)
      obtain ⟨oz10, h⟩ := h
      refine z_if_eq (tgt := 90) A dX5_slipped_66 (by decide) oz10 (fun c11 => ?_) (fun c11 => ?_)
      · have h := h.1 c11
        refine s_aload_n A dX5_slipped_90 rfl ?_
        refine s_getf (k := 5) (j := 0) (sl := true) (v := zR (some 131)) A dX5_slipped_91 rfl zuw_X5 (Nat.le_of_ble_eq_true rfl) zwd327 (by decide) (zk_130 _) rfl ?_
        refine s_iload_n A dX5_slipped_94 rfl ?_
        obtain ⟨ox12, h⟩ := h
        refine z_iald A dX5_slipped_95 (zk_131 _) (Nat.le_of_ble_eq_true rfl) ox12 ?_
        refine s_iload A dX5_slipped_96 rfl ?_
        refine s_aload_n A dX5_slipped_98 rfl ?_
        refine s_getf (k := 5) (j := 0) (sl := true) (v := zR (some 131)) A dX5_slipped_99 rfl zuw_X5 (Nat.le_of_ble_eq_true rfl) zwd327 (by decide) (zk_130 _) rfl ?_
        refine s_iload_n A dX5_slipped_102 rfl ?_
        refine z_iald A dX5_slipped_103 (zk_131 _) (Nat.le_of_ble_eq_true rfl) ox12 ?_
        refine s_iload_n A dX5_slipped_104 rfl ?_
        refine s_callSN (host := "InkFolds") (M := mX10_amountOf) (n := 2) (d := 0) (mc := 0) (ms := 0) (av := [zI (zi μ9 131 x2), zI x3]) (st := [zI 0, zI (zi μ9 131 x2)]) A dX5_slipped_105 zwr1113 zwd840 zwd89 zcd_X10_amountOf (Nat.le_of_ble_eq_true rfl) (Nat.le_of_ble_eq_true rfl) (Nat.le_refl _) ⟨Nat.le_of_ble_eq_true rfl, Nat.le_of_ble_eq_true rfl⟩ zhn_X10_amountOf rfl (Nat.le_of_ble_eq_true rfl) rfl (z_contI (fun v13 μ13 h => ?_) h)
        refine s_isub A dX5_slipped_108 ?_
        refine s_getsN (t := 1) A dX5_slipped_109 (by decide) (host := "InkFolds") zwr1136 ?_
        refine s_iload_n A dX5_slipped_112 rfl ?_
        obtain ⟨ox14, h⟩ := h
        refine z_tald A dX5_slipped_113 (by decide) (Nat.le_of_ble_eq_true rfl) ox14 ?_
        refine s_imul A dX5_slipped_114 ?_
        refine s_iadd A dX5_slipped_115 ?_
        exact s_iret A dX5_slipped_116 hr hlk (Nat.le_of_ble_eq_true rfl) (Nat.le_of_ble_eq_true rfl) ⟨_, rfl, h⟩
      · have h := h.2 c11
        refine s_aload_n A dX5_slipped_69 rfl ?_
        refine s_getf (k := 5) (j := 0) (sl := true) (v := zR (some 131)) A dX5_slipped_70 rfl zuw_X5 (Nat.le_of_ble_eq_true rfl) zwd327 (by decide) (zk_130 _) rfl ?_
        refine s_iload A dX5_slipped_73 rfl ?_
        refine s_aload_n A dX5_slipped_75 rfl ?_
        refine s_getf (k := 7) (j := 6) (sl := true) (v := zI (zi μ9 a1 6)) A dX5_slipped_76 rfl zuw_X7 (Nat.le_of_ble_eq_true rfl) zwd198 (by decide) (ha1.k0 _) rfl ?_
        refine s_imul A dX5_slipped_79 ?_
        refine s_iload A dX5_slipped_80 rfl ?_
        refine s_iadd A dX5_slipped_82 ?_
        obtain ⟨ox15, h⟩ := h
        refine z_iald A dX5_slipped_83 (zk_131 _) (Nat.le_of_ble_eq_true rfl) ox15 ?_
        refine s_iload_n A dX5_slipped_84 rfl ?_
        refine s_callSN (host := "InkFolds") (M := mX10_amountOf) (n := 2) (d := 0) (mc := 0) (ms := 0) (av := [zI (zi μ9 131 ((((x2 / (zi μ a1 6)) - x5) * (zi μ9 a1 6)) + ((x2 % (zi μ a1 6)) - x4))), zI x3]) (st := []) A dX5_slipped_85 zwr1113 zwd840 zwd89 zcd_X10_amountOf (Nat.le_of_ble_eq_true rfl) (Nat.le_of_ble_eq_true rfl) (Nat.le_refl _) ⟨Nat.le_of_ble_eq_true rfl, Nat.le_of_ble_eq_true rfl⟩ zhn_X10_amountOf rfl (Nat.le_of_ble_eq_true rfl) rfl (z_contI (fun v16 μ16 h => ?_) h)
        refine s_istore (L' := [some (zR (some 130)), some (zR (some (a1))), some (zI x2), some (zI x3), some (zI x4), some (zI x5), some (zI ((x2 % (zi μ a1 6)) - x4)), some (zI ((x2 / (zi μ a1 6)) - x5)), some (zI v16)]) A dX5_slipped_88 (Nat.le_of_ble_eq_true rfl) rfl ?_
        refine s_aload_n A dX5_slipped_90 rfl ?_
        refine s_getf (k := 5) (j := 0) (sl := true) (v := zR (some 131)) A dX5_slipped_91 rfl zuw_X5 (Nat.le_of_ble_eq_true rfl) zwd327 (by decide) (zk_130 _) rfl ?_
        refine s_iload_n A dX5_slipped_94 rfl ?_
        obtain ⟨ox17, h⟩ := h
        refine z_iald A dX5_slipped_95 (zk_131 _) (Nat.le_of_ble_eq_true rfl) ox17 ?_
        refine s_iload A dX5_slipped_96 rfl ?_
        refine s_aload_n A dX5_slipped_98 rfl ?_
        refine s_getf (k := 5) (j := 0) (sl := true) (v := zR (some 131)) A dX5_slipped_99 rfl zuw_X5 (Nat.le_of_ble_eq_true rfl) zwd327 (by decide) (zk_130 _) rfl ?_
        refine s_iload_n A dX5_slipped_102 rfl ?_
        refine z_iald A dX5_slipped_103 (zk_131 _) (Nat.le_of_ble_eq_true rfl) ox17 ?_
        refine s_iload_n A dX5_slipped_104 rfl ?_
        refine s_callSN (host := "InkFolds") (M := mX10_amountOf) (n := 2) (d := 0) (mc := 0) (ms := 0) (av := [zI (zi μ16 131 x2), zI x3]) (st := [zI v16, zI (zi μ16 131 x2)]) A dX5_slipped_105 zwr1113 zwd840 zwd89 zcd_X10_amountOf (Nat.le_of_ble_eq_true rfl) (Nat.le_of_ble_eq_true rfl) (Nat.le_refl _) ⟨Nat.le_of_ble_eq_true rfl, Nat.le_of_ble_eq_true rfl⟩ zhn_X10_amountOf rfl (Nat.le_of_ble_eq_true rfl) rfl (z_contI (fun v18 μ18 h => ?_) h)
        refine s_isub A dX5_slipped_108 ?_
        refine s_getsN (t := 1) A dX5_slipped_109 (by decide) (host := "InkFolds") zwr1136 ?_
        refine s_iload_n A dX5_slipped_112 rfl ?_
        obtain ⟨ox19, h⟩ := h
        refine z_tald A dX5_slipped_113 (by decide) (Nat.le_of_ble_eq_true rfl) ox19 ?_
        refine s_imul A dX5_slipped_114 ?_
        refine s_iadd A dX5_slipped_115 ?_
        exact s_iret A dX5_slipped_116 hr hlk (Nat.le_of_ble_eq_true rfl) (Nat.le_of_ble_eq_true rfl) ⟨_, rfl, h⟩
  · have h := h.2 c2
    refine s_aload_n A dX5_slipped_7 rfl ?_
    refine s_getf (k := 5) (j := 0) (sl := true) (v := zR (some 131)) A dX5_slipped_8 rfl zuw_X5 (Nat.le_of_ble_eq_true rfl) zwd327 (by decide) (zk_130 _) rfl ?_
    refine s_iload_n A dX5_slipped_11 rfl ?_
    obtain ⟨ox20, h⟩ := h
    refine z_iald A dX5_slipped_12 (zk_131 _) (Nat.le_of_ble_eq_true rfl) ox20 ?_
    exact s_iret A dX5_slipped_13 hr hlk (Nat.le_of_ble_eq_true rfl) (Nat.le_of_ble_eq_true rfl) ⟨_, rfl, h⟩
theorem eX5_slipped {G : zG} {F : Int → zM → Prop} {μ : zM} {a1 : Nat} {x2 : Int} {x3 : Int} {x4 : Int} {x5 : Int} (h : ∀ J, zJ G true (2) 0 0 mX5_slipped (zKI F) J → J 0 ([some (zR (some 130)), some (zR (some (a1))), some (zI x2), some (zI x3), some (zI x4), some (zI x5), none, none, none], [], μ, 0, 0)) : qX5_slipped G a1 x2 x3 x4 x5 μ F :=
  z_body (by decide +kernel) (Nat.le_of_ble_eq_true rfl) h
set_option maxRecDepth 20000 in
theorem rX6_init_e {G : zG} {F : zM → Prop} {J : Nat → zS → Prop} {μ : zM} (C : zJ G false (2) 1 9 mX6_init (zKV F) J) (a0 : Nat)
    (h : zs false (znew μ (41, 9)) (zn μ) = (41, 9) ∧ ∀ b1 μ1, b1 = zn μ → μ1 = znew μ (41, 9) → zok false μ1 a0 (6, 2) ∧ F (zupr μ1 a0 0 (some b1))) : J 0 ([some (zR (some a0))], [], μ, 0, 0) := by
  obtain ⟨p, e, s, m, args, below, meth, c, A, hml, hr, hlk, hnm, rfl⟩ := C
  refine s_aload_n A dX6_init_0 rfl ?_
  refine z_objInit A dX6_init_1 zwd143 zwd119 zwd120 (Nat.le_of_ble_eq_true rfl) (by decide) (Nat.le_of_ble_eq_true rfl) ?_
  refine s_aload_n A dX6_init_4 rfl ?_
  refine s_bipush A dX6_init_5 rfl ?_
  obtain ⟨o1, h⟩ := h
  refine z_newa_long (n := 9) A dX6_init_7 rfl (by decide) zwd153 o1 (Nat.le_of_ble_eq_true rfl) (Nat.le_of_ble_eq_true rfl) (fun b1 μ1 eb1 em1 => ?_)
  have h := h b1 μ1 eb1 em1
  obtain ⟨o2, h⟩ := h
  refine z_putFR (k := 6) (j := 0) (sl := false) A dX6_init_9 rfl zuw_X6 (Nat.le_of_ble_eq_true rfl) zwd144 (by decide) o2 tyX6 tyX6_ok nmX6 rfl (Or.inl rfl) rfl (Or.inr ⟨_, rfl⟩) rfl hnm rfl ?_
  exact s_vret A dX6_init_12 hr hlk (Nat.le_of_ble_eq_true rfl) (Nat.le_of_ble_eq_true rfl) ⟨rfl, h⟩
theorem eX6_init {G : zG} {F : zM → Prop} {μ : zM} {a0 : Nat} (h : ∀ J, zJ G false (2) 1 9 mX6_init (zKV F) J → J 0 ([some (zR (some a0))], [], μ, 0, 0)) : qX6_init G a0 μ F :=
  z_body (by decide +kernel) (Nat.le_of_ble_eq_true rfl) h
set_option maxRecDepth 20000 in
theorem rX6_clear_e {G : zG} {F : zM → Prop} {J : Nat → zS → Prop} {μ : zM} (C : zJ G true (0) 0 0 mX6_clear (zKV F) J) 
    (h : F (zup μ 3 1 0)) : J 0 ([some (zR (some 3))], [], μ, 0, 0) := by
  obtain ⟨p, e, s, m, args, below, meth, c, A, hml, hr, hlk, hnm, rfl⟩ := C
  refine s_aload_n A dX6_clear_0 rfl ?_
  refine s_iconst A dX6_clear_1 ?_
  refine z_putI (k := 6) (j := 1) (sl := true) A dX6_clear_2 rfl zuw_X6 (Nat.le_of_ble_eq_true rfl) zwd146 (by decide) (zk_3 _) tyX6 tyX6_ok nmX6 rfl rfl rfl ?_
  exact s_vret A dX6_clear_5 hr hlk (Nat.le_of_ble_eq_true rfl) (Nat.le_of_ble_eq_true rfl) ⟨rfl, h⟩
theorem eX6_clear {G : zG} {F : zM → Prop} {μ : zM}  (h : ∀ J, zJ G true (0) 0 0 mX6_clear (zKV F) J → J 0 ([some (zR (some 3))], [], μ, 0, 0)) : qX6_clear G  μ F :=
  z_body (by decide +kernel) (Nat.le_of_ble_eq_true rfl) h
set_option maxRecDepth 20000 in
theorem rX6_append_e {G : zG} {F : zM → Prop} {J : Nat → zS → Prop} {μ : zM} (C : zJ G true (0) 0 0 mX6_append (zKV F) J) (y1 : Int)
    (h : zin (zi μ 3 1) ∧ ((9 ≤ zi μ 3 1 → F μ) ∧ (¬ (9 ≤ zi μ 3 1) → (0 ≤ zi μ 3 1 ∧ zi μ 3 1 < 9) ∧ F (zup (zup μ 4 (zi μ 3 1) y1) 3 1 ((zi (zup μ 4 (zi μ 3 1) y1) 3 1) + 1))))) : J 0 ([some (zR (some 3)), some (zL y1), none], [], μ, 0, 0) := by
  obtain ⟨p, e, s, m, args, below, meth, c, A, hml, hr, hlk, hnm, rfl⟩ := C
  refine s_aload_n A dX6_append_0 rfl ?_
  refine s_getf (k := 6) (j := 1) (sl := true) (v := zI (zi μ 3 1)) A dX6_append_1 rfl zuw_X6 (Nat.le_of_ble_eq_true rfl) zwd146 (by decide) (zk_3 _) rfl ?_
  refine s_aload_n A dX6_append_4 rfl ?_
  refine s_getf (k := 6) (j := 0) (sl := true) (v := zR (some 4)) A dX6_append_5 rfl zuw_X6 (Nat.le_of_ble_eq_true rfl) zwd144 (by decide) (zk_3 _) rfl ?_
  refine s_alen A dX6_append_8 (by decide) (zk_4 _) ?_
  obtain ⟨oz1, h⟩ := h
  refine z_icmp_ge (tgt := 32) A dX6_append_9 (by decide) oz1 ⟨by decide, by decide⟩ (fun c2 => ?_) (fun c2 => ?_)
  · have h := h.1 c2
    exact s_vret A dX6_append_32 hr hlk (Nat.le_of_ble_eq_true rfl) (Nat.le_of_ble_eq_true rfl) ⟨rfl, h⟩
  · have h := h.2 c2
    refine s_aload_n A dX6_append_12 rfl ?_
    refine s_getf (k := 6) (j := 0) (sl := true) (v := zR (some 4)) A dX6_append_13 rfl zuw_X6 (Nat.le_of_ble_eq_true rfl) zwd144 (by decide) (zk_3 _) rfl ?_
    refine s_aload_n A dX6_append_16 rfl ?_
    refine s_getf (k := 6) (j := 1) (sl := true) (v := zI (zi μ 3 1)) A dX6_append_17 rfl zuw_X6 (Nat.le_of_ble_eq_true rfl) zwd146 (by decide) (zk_3 _) rfl ?_
    refine s_lload_n A dX6_append_20 rfl ?_
    obtain ⟨ox3, h⟩ := h
    refine z_last A dX6_append_21 (zk_4 _) (Nat.le_of_ble_eq_true rfl) ox3 ?_
    refine s_aload_n A dX6_append_22 rfl ?_
    refine s_dup A dX6_append_23 rfl ?_
    refine s_getf (k := 6) (j := 1) (sl := true) (v := zI (zi (zup μ 4 (zi μ 3 1) y1) 3 1)) A dX6_append_24 rfl zuw_X6 (Nat.le_of_ble_eq_true rfl) zwd146 (by decide) (zk_3 _) rfl ?_
    refine s_iconst A dX6_append_27 ?_
    refine s_iadd A dX6_append_28 ?_
    refine z_putI (k := 6) (j := 1) (sl := true) A dX6_append_29 rfl zuw_X6 (Nat.le_of_ble_eq_true rfl) zwd146 (by decide) (zk_3 _) tyX6 tyX6_ok nmX6 rfl rfl rfl ?_
    exact s_vret A dX6_append_32 hr hlk (Nat.le_of_ble_eq_true rfl) (Nat.le_of_ble_eq_true rfl) ⟨rfl, h⟩
theorem eX6_append {G : zG} {F : zM → Prop} {μ : zM} {y1 : Int} (h : ∀ J, zJ G true (0) 0 0 mX6_append (zKV F) J → J 0 ([some (zR (some 3)), some (zL y1), none], [], μ, 0, 0)) : qX6_append G y1 μ F :=
  z_body (by decide +kernel) (Nat.le_of_ble_eq_true rfl) h
set_option maxRecDepth 20000 in
theorem rX7_countMeasured_e {G : zG} {F : Int → zM → Prop} {J : Nat → zS → Prop} {μ : zM} (C : zJ G true (0) 0 0 mX7_countMeasured (zKI F) J) {a0 : Nat} (ha0 : zIsSt a0)
    (h : J 4 ([some (zR (some (a0))), some (zI 0), some (zI 0)], [], μ, 0, 0)) : J 0 ([some (zR (some (a0))), none, none], [], μ, 0, 0) := by
  obtain ⟨p, e, s, m, args, below, meth, c, A, hml, hr, hlk, hnm, rfl⟩ := C
  refine s_iconst A dX7_countMeasured_0 ?_
  refine s_istore_n (L' := [some (zR (some (a0))), some (zI 0), none]) A dX7_countMeasured_1 (Nat.le_of_ble_eq_true rfl) rfl ?_
  refine s_iconst A dX7_countMeasured_2 ?_
  refine s_istore_n (L' := [some (zR (some (a0))), some (zI 0), some (zI 0)]) A dX7_countMeasured_3 (Nat.le_of_ble_eq_true rfl) rfl ?_
  exact h
set_option maxRecDepth 20000 in
theorem rX7_countMeasured_4 {G : zG} {F : Int → zM → Prop} {J : Nat → zS → Prop} {μ : zM} (C : zJ G true (0) 0 0 mX7_countMeasured (zKI F) J) {a0 : Nat} (ha0 : zIsSt a0) (x1 : Int) (x2 : Int)
    (h : zin x2 ∧ ((81 ≤ x2 → F x1 μ) ∧ (¬ (81 ≤ x2) → (0 ≤ x2 ∧ x2 < 81) ∧ zin (zi μ (a0 + 2) x2) ∧ ((zi μ (a0 + 2) x2 = 0 → J 4 ([some (zR (some (a0))), some (zI x1), some (zI (x2 + 1))], [], μ, 0, 0)) ∧ (¬ (zi μ (a0 + 2) x2 = 0) → J 4 ([some (zR (some (a0))), some (zI (x1 + 1)), some (zI (x2 + 1))], [], μ, 0, 0)))))) : J 4 ([some (zR (some (a0))), some (zI x1), some (zI x2)], [], μ, 0, 0) := by
  obtain ⟨p, e, s, m, args, below, meth, c, A, hml, hr, hlk, hnm, rfl⟩ := C
  refine s_iload_n A dX7_countMeasured_4 rfl ?_
  refine s_bipush A dX7_countMeasured_5 rfl ?_
  obtain ⟨oz1, h⟩ := h
  refine z_icmp_ge (tgt := 28) A dX7_countMeasured_7 (by decide) oz1 ⟨by decide, by decide⟩ (fun c2 => ?_) (fun c2 => ?_)
  · have h := h.1 c2
    refine s_iload_n A dX7_countMeasured_28 rfl ?_
    exact s_iret A dX7_countMeasured_29 hr hlk (Nat.le_of_ble_eq_true rfl) (Nat.le_of_ble_eq_true rfl) ⟨_, rfl, h⟩
  · have h := h.2 c2
    refine s_aload_n A dX7_countMeasured_10 rfl ?_
    refine s_getf (k := 7) (j := 1) (sl := true) (v := zR (some (a0 + 2))) A dX7_countMeasured_11 rfl zuw_X7 (Nat.le_of_ble_eq_true rfl) zwd186 (by decide) (ha0.k0 _) rfl ?_
    refine s_iload_n A dX7_countMeasured_14 rfl ?_
    obtain ⟨ox3, h⟩ := h
    refine z_zald A dX7_countMeasured_15 (ha0.k2 _) (Nat.le_of_ble_eq_true rfl) ox3 ?_
    obtain ⟨oz4, h⟩ := h
    refine z_if_eq (tgt := 22) A dX7_countMeasured_16 (by decide) oz4 (fun c5 => ?_) (fun c5 => ?_)
    · have h := h.1 c5
      refine s_iinc (L' := [some (zR (some (a0))), some (zI x1), some (zI (x2 + 1))]) A dX7_countMeasured_22 rfl rfl ?_
      refine s_goto (tgt := 4) A dX7_countMeasured_25 (by decide) ?_
      exact h
    · have h := h.2 c5
      refine s_iinc (L' := [some (zR (some (a0))), some (zI (x1 + 1)), some (zI x2)]) A dX7_countMeasured_19 rfl rfl ?_
      refine s_iinc (L' := [some (zR (some (a0))), some (zI (x1 + 1)), some (zI (x2 + 1))]) A dX7_countMeasured_22 rfl rfl ?_
      refine s_goto (tgt := 4) A dX7_countMeasured_25 (by decide) ?_
      exact h
theorem eX7_countMeasured {G : zG} {F : Int → zM → Prop} {μ : zM} {a0 : Nat} (h : ∀ J, zJ G true (0) 0 0 mX7_countMeasured (zKI F) J → J 0 ([some (zR (some (a0))), none, none], [], μ, 0, 0)) : qX7_countMeasured G a0 μ F :=
  z_body (by decide +kernel) (Nat.le_of_ble_eq_true rfl) h
set_option maxRecDepth 20000 in
theorem rX7_tellPatch_e {G : zG} {F : Int → zM → Prop} {J : Nat → zS → Prop} {μ : zM} (C : zJ G true (3) 0 0 mX7_tellPatch (zKI F) J) {a0 : Nat} (ha0 : zIsSt a0) (x1 : Int) (x2 : Int) (x3 : Int) (x4 : Int)
    (h : qX10_isPatch G true x1 μ (fun v1 μ1 => zin v1 ∧ ((v1 = 0 → F (-1) μ1) ∧ (¬ (v1 = 0) → qX10_isIn G true x2 0 100 μ1 (fun v4 μ4 => zin v4 ∧ ((v4 = 0 → F (-1) μ4) ∧ (¬ (v4 = 0) → qX10_isIn G true x3 0 100 μ4 (fun v7 μ7 => zin v7 ∧ ((v7 = 0 → F (-1) μ7) ∧ (¬ (v7 = 0) → qX10_isIn G true x4 0 100 μ7 (fun v10 μ10 => zin v10 ∧ ((¬ v10 = 0 → (0 ≤ x1 * 3 ∧ x1 * 3 < 243) ∧ (0 ≤ (x1 * 3) + 1 ∧ (x1 * 3) + 1 < 243) ∧ (0 ≤ (x1 * 3) + 2 ∧ (x1 * 3) + 2 < 243) ∧ qX10_isPlain G true x1 (zup (zup (zup μ10 (a0 + 1) (x1 * 3) x2) (a0 + 1) ((x1 * 3) + 1) x3) (a0 + 1) ((x1 * 3) + 2) x4) (fun v16 μ16 => zin v16 ∧ ((¬ v16 = 0 → (0 ≤ x1 ∧ x1 < 81) ∧ qX7_countMeasured G a0 (zup μ16 (a0 + 2) x1 0) (fun v20 μ20 => F v20 μ20)) ∧ (v16 = 0 → (0 ≤ x1 ∧ x1 < 81) ∧ qX7_countMeasured G a0 (zup μ16 (a0 + 2) x1 1) (fun v22 μ22 => F v22 μ22))))) ∧ (v10 = 0 → F (-1) μ10))))))))))))) : J 0 ([some (zR (some (a0))), some (zI x1), some (zI x2), some (zI x3), some (zI x4)], [], μ, 0, 0) := by
  obtain ⟨p, e, s, m, args, below, meth, c, A, hml, hr, hlk, hnm, rfl⟩ := C
  refine s_iload_n A dX7_tellPatch_0 rfl ?_
  refine s_callSN (host := "InkFolds") (M := mX10_isPatch) (n := 1) (d := 2) (mc := 0) (ms := 0) (av := [zI x1]) (st := []) A dX7_tellPatch_1 zwr594 zwd595 zwd89 zcd_X10_isPatch (Nat.le_of_ble_eq_true rfl) (Nat.le_of_ble_eq_true rfl) (Nat.le_refl _) ⟨Nat.le_of_ble_eq_true rfl, Nat.le_of_ble_eq_true rfl⟩ zhn_X10_isPatch rfl (Nat.le_of_ble_eq_true rfl) rfl (z_contI (fun v1 μ1 h => ?_) h)
  obtain ⟨oz2, h⟩ := h
  refine z_if_eq (tgt := 38) A dX7_tellPatch_4 (by decide) oz2 (fun c3 => ?_) (fun c3 => ?_)
  · have h := h.1 c3
    refine s_iconst A dX7_tellPatch_38 ?_
    exact s_iret A dX7_tellPatch_39 hr hlk (Nat.le_of_ble_eq_true rfl) (Nat.le_of_ble_eq_true rfl) ⟨_, rfl, h⟩
  · have h := h.2 c3
    refine s_iload_n A dX7_tellPatch_7 rfl ?_
    refine s_iconst A dX7_tellPatch_8 ?_
    refine s_bipush A dX7_tellPatch_9 rfl ?_
    refine s_callSN (host := "InkFolds") (M := mX10_isIn) (n := 3) (d := 0) (mc := 0) (ms := 0) (av := [zI x2, zI 0, zI 100]) (st := []) A dX7_tellPatch_11 zwr600 zwd598 zwd89 zcd_X10_isIn (Nat.le_of_ble_eq_true rfl) (Nat.le_of_ble_eq_true rfl) (Nat.le_refl _) ⟨Nat.le_of_ble_eq_true rfl, Nat.le_of_ble_eq_true rfl⟩ zhn_X10_isIn rfl (Nat.le_of_ble_eq_true rfl) rfl (z_contI (fun v4 μ4 h => ?_) h)
    obtain ⟨oz5, h⟩ := h
    refine z_if_eq (tgt := 38) A dX7_tellPatch_14 (by decide) oz5 (fun c6 => ?_) (fun c6 => ?_)
    · have h := h.1 c6
      refine s_iconst A dX7_tellPatch_38 ?_
      exact s_iret A dX7_tellPatch_39 hr hlk (Nat.le_of_ble_eq_true rfl) (Nat.le_of_ble_eq_true rfl) ⟨_, rfl, h⟩
    · have h := h.2 c6
      refine s_iload_n A dX7_tellPatch_17 rfl ?_
      refine s_iconst A dX7_tellPatch_18 ?_
      refine s_bipush A dX7_tellPatch_19 rfl ?_
      refine s_callSN (host := "InkFolds") (M := mX10_isIn) (n := 3) (d := 0) (mc := 0) (ms := 0) (av := [zI x3, zI 0, zI 100]) (st := []) A dX7_tellPatch_21 zwr600 zwd598 zwd89 zcd_X10_isIn (Nat.le_of_ble_eq_true rfl) (Nat.le_of_ble_eq_true rfl) (Nat.le_refl _) ⟨Nat.le_of_ble_eq_true rfl, Nat.le_of_ble_eq_true rfl⟩ zhn_X10_isIn rfl (Nat.le_of_ble_eq_true rfl) rfl (z_contI (fun v7 μ7 h => ?_) h)
      obtain ⟨oz8, h⟩ := h
      refine z_if_eq (tgt := 38) A dX7_tellPatch_24 (by decide) oz8 (fun c9 => ?_) (fun c9 => ?_)
      · have h := h.1 c9
        refine s_iconst A dX7_tellPatch_38 ?_
        exact s_iret A dX7_tellPatch_39 hr hlk (Nat.le_of_ble_eq_true rfl) (Nat.le_of_ble_eq_true rfl) ⟨_, rfl, h⟩
      · have h := h.2 c9
        refine s_iload A dX7_tellPatch_27 rfl ?_
        refine s_iconst A dX7_tellPatch_29 ?_
        refine s_bipush A dX7_tellPatch_30 rfl ?_
        refine s_callSN (host := "InkFolds") (M := mX10_isIn) (n := 3) (d := 0) (mc := 0) (ms := 0) (av := [zI x4, zI 0, zI 100]) (st := []) A dX7_tellPatch_32 zwr600 zwd598 zwd89 zcd_X10_isIn (Nat.le_of_ble_eq_true rfl) (Nat.le_of_ble_eq_true rfl) (Nat.le_refl _) ⟨Nat.le_of_ble_eq_true rfl, Nat.le_of_ble_eq_true rfl⟩ zhn_X10_isIn rfl (Nat.le_of_ble_eq_true rfl) rfl (z_contI (fun v10 μ10 h => ?_) h)
        obtain ⟨oz11, h⟩ := h
        refine z_if_ne (tgt := 40) A dX7_tellPatch_35 (by decide) oz11 (fun c12 => ?_) (fun c12 => ?_)
        · have h := h.1 c12
          refine s_aload_n A dX7_tellPatch_40 rfl ?_
          refine s_getf (k := 7) (j := 0) (sl := true) (v := zR (some (a0 + 1))) A dX7_tellPatch_41 rfl zuw_X7 (Nat.le_of_ble_eq_true rfl) zwd184 (by decide) (ha0.k0 _) rfl ?_
          refine s_iload_n A dX7_tellPatch_44 rfl ?_
          refine s_iconst A dX7_tellPatch_45 ?_
          refine s_imul A dX7_tellPatch_46 ?_
          refine s_iload_n A dX7_tellPatch_47 rfl ?_
          obtain ⟨ox13, h⟩ := h
          refine z_iast A dX7_tellPatch_48 (ha0.k1 _) (Nat.le_of_ble_eq_true rfl) ox13 ?_
          refine s_aload_n A dX7_tellPatch_49 rfl ?_
          refine s_getf (k := 7) (j := 0) (sl := true) (v := zR (some (a0 + 1))) A dX7_tellPatch_50 rfl zuw_X7 (Nat.le_of_ble_eq_true rfl) zwd184 (by decide) (ha0.k0 _) rfl ?_
          refine s_iload_n A dX7_tellPatch_53 rfl ?_
          refine s_iconst A dX7_tellPatch_54 ?_
          refine s_imul A dX7_tellPatch_55 ?_
          refine s_iconst A dX7_tellPatch_56 ?_
          refine s_iadd A dX7_tellPatch_57 ?_
          refine s_iload_n A dX7_tellPatch_58 rfl ?_
          obtain ⟨ox14, h⟩ := h
          refine z_iast A dX7_tellPatch_59 (ha0.k1 _) (Nat.le_of_ble_eq_true rfl) ox14 ?_
          refine s_aload_n A dX7_tellPatch_60 rfl ?_
          refine s_getf (k := 7) (j := 0) (sl := true) (v := zR (some (a0 + 1))) A dX7_tellPatch_61 rfl zuw_X7 (Nat.le_of_ble_eq_true rfl) zwd184 (by decide) (ha0.k0 _) rfl ?_
          refine s_iload_n A dX7_tellPatch_64 rfl ?_
          refine s_iconst A dX7_tellPatch_65 ?_
          refine s_imul A dX7_tellPatch_66 ?_
          refine s_iconst A dX7_tellPatch_67 ?_
          refine s_iadd A dX7_tellPatch_68 ?_
          refine s_iload A dX7_tellPatch_69 rfl ?_
          obtain ⟨ox15, h⟩ := h
          refine z_iast A dX7_tellPatch_71 (ha0.k1 _) (Nat.le_of_ble_eq_true rfl) ox15 ?_
          refine s_aload_n A dX7_tellPatch_72 rfl ?_
          refine s_getf (k := 7) (j := 1) (sl := true) (v := zR (some (a0 + 2))) A dX7_tellPatch_73 rfl zuw_X7 (Nat.le_of_ble_eq_true rfl) zwd186 (by decide) (ha0.k0 _) rfl ?_
          refine s_iload_n A dX7_tellPatch_76 rfl ?_
          refine s_iload_n A dX7_tellPatch_77 rfl ?_
          refine s_callSN (host := "InkFolds") (M := mX10_isPlain) (n := 1) (d := 2) (mc := 0) (ms := 0) (av := [zI x1]) (st := [zI x1, zR (some (a0 + 2))]) A dX7_tellPatch_78 zwr601 zwd602 zwd89 zcd_X10_isPlain (Nat.le_of_ble_eq_true rfl) (Nat.le_of_ble_eq_true rfl) (Nat.le_refl _) ⟨Nat.le_of_ble_eq_true rfl, Nat.le_of_ble_eq_true rfl⟩ zhn_X10_isPlain rfl (Nat.le_of_ble_eq_true rfl) rfl (z_contI (fun v16 μ16 h => ?_) h)
          obtain ⟨oz17, h⟩ := h
          refine z_if_ne (tgt := 88) A dX7_tellPatch_81 (by decide) oz17 (fun c18 => ?_) (fun c18 => ?_)
          · have h := h.1 c18
            refine s_iconst A dX7_tellPatch_88 ?_
            obtain ⟨ox19, h⟩ := h
            refine z_zast A dX7_tellPatch_89 (ha0.k2 _) (Nat.le_of_ble_eq_true rfl) ox19 (Or.inl rfl) ?_
            refine s_aload_n A dX7_tellPatch_90 rfl ?_
            refine s_callV (a := a0) (k := 7) (N := 9) (sl := true) (M := mX7_countMeasured) (n := 0) (d := 0) (mc := 0) (ms := 0) (av := []) (st := []) A dX7_tellPatch_91 rfl (by decide) (ha0.k0 _) zwd608 zwd609 zwd610 zwd92 zcd_X7_countMeasured (Nat.le_of_ble_eq_true rfl) (Nat.le_of_ble_eq_true rfl) (Nat.le_refl _) ⟨Nat.le_of_ble_eq_true rfl, Nat.le_of_ble_eq_true rfl⟩ ⟨rfl, zhn_X7_countMeasured⟩ rfl (Nat.le_of_ble_eq_true rfl) rfl (z_contI (fun v20 μ20 h => ?_) h)
            exact s_iret A dX7_tellPatch_94 hr hlk (Nat.le_of_ble_eq_true rfl) (Nat.le_of_ble_eq_true rfl) ⟨_, rfl, h⟩
          · have h := h.2 c18
            refine s_iconst A dX7_tellPatch_84 ?_
            refine s_goto (tgt := 89) A dX7_tellPatch_85 (by decide) ?_
            obtain ⟨ox21, h⟩ := h
            refine z_zast A dX7_tellPatch_89 (ha0.k2 _) (Nat.le_of_ble_eq_true rfl) ox21 (Or.inr rfl) ?_
            refine s_aload_n A dX7_tellPatch_90 rfl ?_
            refine s_callV (a := a0) (k := 7) (N := 9) (sl := true) (M := mX7_countMeasured) (n := 0) (d := 0) (mc := 0) (ms := 0) (av := []) (st := []) A dX7_tellPatch_91 rfl (by decide) (ha0.k0 _) zwd608 zwd609 zwd610 zwd92 zcd_X7_countMeasured (Nat.le_of_ble_eq_true rfl) (Nat.le_of_ble_eq_true rfl) (Nat.le_refl _) ⟨Nat.le_of_ble_eq_true rfl, Nat.le_of_ble_eq_true rfl⟩ ⟨rfl, zhn_X7_countMeasured⟩ rfl (Nat.le_of_ble_eq_true rfl) rfl (z_contI (fun v22 μ22 h => ?_) h)
            exact s_iret A dX7_tellPatch_94 hr hlk (Nat.le_of_ble_eq_true rfl) (Nat.le_of_ble_eq_true rfl) ⟨_, rfl, h⟩
        · have h := h.2 c12
          refine s_iconst A dX7_tellPatch_38 ?_
          exact s_iret A dX7_tellPatch_39 hr hlk (Nat.le_of_ble_eq_true rfl) (Nat.le_of_ble_eq_true rfl) ⟨_, rfl, h⟩
theorem eX7_tellPatch {G : zG} {F : Int → zM → Prop} {μ : zM} {a0 : Nat} {x1 : Int} {x2 : Int} {x3 : Int} {x4 : Int} (h : ∀ J, zJ G true (3) 0 0 mX7_tellPatch (zKI F) J → J 0 ([some (zR (some (a0))), some (zI x1), some (zI x2), some (zI x3), some (zI x4)], [], μ, 0, 0)) : qX7_tellPatch G a0 x1 x2 x3 x4 μ F :=
  z_body (by decide +kernel) (Nat.le_of_ble_eq_true rfl) h
set_option maxRecDepth 20000 in
theorem rX7_dropPatch_e {G : zG} {F : Int → zM → Prop} {J : Nat → zS → Prop} {μ : zM} (C : zJ G true (3) 0 0 mX7_dropPatch (zKI F) J) {a0 : Nat} (ha0 : zIsSt a0) (x1 : Int)
    (h : qX10_isPatch G true x1 μ (fun v1 μ1 => zin v1 ∧ ((¬ v1 = 0 → (0 ≤ x1 ∧ x1 < 81) ∧ zin (zi μ1 (a0 + 2) x1) ∧ ((¬ zi μ1 (a0 + 2) x1 = 0 → qX7_countMeasured G a0 (zup μ1 (a0 + 2) x1 0) (fun v7 μ7 => F v7 μ7)) ∧ (zi μ1 (a0 + 2) x1 = 0 → F (-2) μ1))) ∧ (v1 = 0 → F (-1) μ1)))) : J 0 ([some (zR (some (a0))), some (zI x1)], [], μ, 0, 0) := by
  obtain ⟨p, e, s, m, args, below, meth, c, A, hml, hr, hlk, hnm, rfl⟩ := C
  refine s_iload_n A dX7_dropPatch_0 rfl ?_
  refine s_callSN (host := "InkFolds") (M := mX10_isPatch) (n := 1) (d := 2) (mc := 0) (ms := 0) (av := [zI x1]) (st := []) A dX7_dropPatch_1 zwr594 zwd595 zwd89 zcd_X10_isPatch (Nat.le_of_ble_eq_true rfl) (Nat.le_of_ble_eq_true rfl) (Nat.le_refl _) ⟨Nat.le_of_ble_eq_true rfl, Nat.le_of_ble_eq_true rfl⟩ zhn_X10_isPatch rfl (Nat.le_of_ble_eq_true rfl) rfl (z_contI (fun v1 μ1 h => ?_) h)
  obtain ⟨oz2, h⟩ := h
  refine z_if_ne (tgt := 9) A dX7_dropPatch_4 (by decide) oz2 (fun c3 => ?_) (fun c3 => ?_)
  · have h := h.1 c3
    refine s_aload_n A dX7_dropPatch_9 rfl ?_
    refine s_getf (k := 7) (j := 1) (sl := true) (v := zR (some (a0 + 2))) A dX7_dropPatch_10 rfl zuw_X7 (Nat.le_of_ble_eq_true rfl) zwd186 (by decide) (ha0.k0 _) rfl ?_
    refine s_iload_n A dX7_dropPatch_13 rfl ?_
    obtain ⟨ox4, h⟩ := h
    refine z_zald A dX7_dropPatch_14 (ha0.k2 _) (Nat.le_of_ble_eq_true rfl) ox4 ?_
    obtain ⟨oz5, h⟩ := h
    refine z_if_ne (tgt := 21) A dX7_dropPatch_15 (by decide) oz5 (fun c6 => ?_) (fun c6 => ?_)
    · have h := h.1 c6
      refine s_aload_n A dX7_dropPatch_21 rfl ?_
      refine s_getf (k := 7) (j := 1) (sl := true) (v := zR (some (a0 + 2))) A dX7_dropPatch_22 rfl zuw_X7 (Nat.le_of_ble_eq_true rfl) zwd186 (by decide) (ha0.k0 _) rfl ?_
      refine s_iload_n A dX7_dropPatch_25 rfl ?_
      refine s_iconst A dX7_dropPatch_26 ?_
      refine z_zast A dX7_dropPatch_27 (ha0.k2 _) (Nat.le_of_ble_eq_true rfl) ox4 (Or.inl rfl) ?_
      refine s_aload_n A dX7_dropPatch_28 rfl ?_
      refine s_callV (a := a0) (k := 7) (N := 9) (sl := true) (M := mX7_countMeasured) (n := 0) (d := 0) (mc := 0) (ms := 0) (av := []) (st := []) A dX7_dropPatch_29 rfl (by decide) (ha0.k0 _) zwd608 zwd609 zwd610 zwd92 zcd_X7_countMeasured (Nat.le_of_ble_eq_true rfl) (Nat.le_of_ble_eq_true rfl) (Nat.le_refl _) ⟨Nat.le_of_ble_eq_true rfl, Nat.le_of_ble_eq_true rfl⟩ ⟨rfl, zhn_X7_countMeasured⟩ rfl (Nat.le_of_ble_eq_true rfl) rfl (z_contI (fun v7 μ7 h => ?_) h)
      exact s_iret A dX7_dropPatch_32 hr hlk (Nat.le_of_ble_eq_true rfl) (Nat.le_of_ble_eq_true rfl) ⟨_, rfl, h⟩
    · have h := h.2 c6
      refine s_bipush A dX7_dropPatch_18 rfl ?_
      exact s_iret A dX7_dropPatch_20 hr hlk (Nat.le_of_ble_eq_true rfl) (Nat.le_of_ble_eq_true rfl) ⟨_, rfl, h⟩
  · have h := h.2 c3
    refine s_iconst A dX7_dropPatch_7 ?_
    exact s_iret A dX7_dropPatch_8 hr hlk (Nat.le_of_ble_eq_true rfl) (Nat.le_of_ble_eq_true rfl) ⟨_, rfl, h⟩
theorem eX7_dropPatch {G : zG} {F : Int → zM → Prop} {μ : zM} {a0 : Nat} {x1 : Int} (h : ∀ J, zJ G true (3) 0 0 mX7_dropPatch (zKI F) J → J 0 ([some (zR (some (a0))), some (zI x1)], [], μ, 0, 0)) : qX7_dropPatch G a0 x1 μ F :=
  z_body (by decide +kernel) (Nat.le_of_ble_eq_true rfl) h
set_option maxRecDepth 20000 in
theorem rX7_change_e {G : zG} {F : Int → zM → Prop} {J : Nat → zS → Prop} {μ : zM} (C : zJ G true (2) 0 0 mX7_change (zKI F) J) {a0 : Nat} (ha0 : zIsSt a0) (x1 : Int) (x2 : Int)
    (h : qX10_isIn G true x1 0 6 μ (fun v1 μ1 => zin v1 ∧ ((v1 = 0 → F (-1) μ1) ∧ (¬ (v1 = 0) → (0 ≤ x1 ∧ x1 < 7) ∧ qX10_isIn G true x2 (zta 4 x1) (zta 5 x1) μ1 (fun v5 μ5 => zin v5 ∧ ((¬ v5 = 0 → zin (zi μ5 (a0 + 3) x1) ∧ zin x2 ∧ ((¬ zi μ5 (a0 + 3) x1 = x2 → F (zi μ5 (a0 + 3) x1) (zup μ5 (a0 + 3) x1 x2)) ∧ (zi μ5 (a0 + 3) x1 = x2 → F (-2) (zup μ5 (a0 + 3) x1 x2)))) ∧ (v5 = 0 → F (-1) μ5))))))) : J 0 ([some (zR (some (a0))), some (zI x1), some (zI x2), none], [], μ, 0, 0) := by
  obtain ⟨p, e, s, m, args, below, meth, c, A, hml, hr, hlk, hnm, rfl⟩ := C
  refine s_iload_n A dX7_change_0 rfl ?_
  refine s_iconst A dX7_change_1 ?_
  refine s_bipush A dX7_change_2 rfl ?_
  refine s_callSN (host := "InkFolds") (M := mX10_isIn) (n := 3) (d := 0) (mc := 0) (ms := 0) (av := [zI x1, zI 0, zI 6]) (st := []) A dX7_change_4 zwr600 zwd598 zwd89 zcd_X10_isIn (Nat.le_of_ble_eq_true rfl) (Nat.le_of_ble_eq_true rfl) (Nat.le_refl _) ⟨Nat.le_of_ble_eq_true rfl, Nat.le_of_ble_eq_true rfl⟩ zhn_X10_isIn rfl (Nat.le_of_ble_eq_true rfl) rfl (z_contI (fun v1 μ1 h => ?_) h)
  obtain ⟨oz2, h⟩ := h
  refine z_if_eq (tgt := 27) A dX7_change_7 (by decide) oz2 (fun c3 => ?_) (fun c3 => ?_)
  · have h := h.1 c3
    refine s_iconst A dX7_change_27 ?_
    exact s_iret A dX7_change_28 hr hlk (Nat.le_of_ble_eq_true rfl) (Nat.le_of_ble_eq_true rfl) ⟨_, rfl, h⟩
  · have h := h.2 c3
    refine s_iload_n A dX7_change_10 rfl ?_
    refine s_getsN (t := 4) A dX7_change_11 (by decide) (host := "InkFolds") zwr757 ?_
    refine s_iload_n A dX7_change_14 rfl ?_
    obtain ⟨ox4, h⟩ := h
    refine z_tald A dX7_change_15 (by decide) (Nat.le_of_ble_eq_true rfl) ox4 ?_
    refine s_getsN (t := 5) A dX7_change_16 (by decide) (host := "InkFolds") zwr759 ?_
    refine s_iload_n A dX7_change_19 rfl ?_
    refine z_tald A dX7_change_20 (by decide) (Nat.le_of_ble_eq_true rfl) ox4 ?_
    refine s_callSN (host := "InkFolds") (M := mX10_isIn) (n := 3) (d := 0) (mc := 0) (ms := 0) (av := [zI x2, zI (zta 4 x1), zI (zta 5 x1)]) (st := []) A dX7_change_21 zwr600 zwd598 zwd89 zcd_X10_isIn (Nat.le_of_ble_eq_true rfl) (Nat.le_of_ble_eq_true rfl) (Nat.le_refl _) ⟨Nat.le_of_ble_eq_true rfl, Nat.le_of_ble_eq_true rfl⟩ zhn_X10_isIn rfl (Nat.le_of_ble_eq_true rfl) rfl (z_contI (fun v5 μ5 h => ?_) h)
    obtain ⟨oz6, h⟩ := h
    refine z_if_ne (tgt := 29) A dX7_change_24 (by decide) oz6 (fun c7 => ?_) (fun c7 => ?_)
    · have h := h.1 c7
      refine s_aload_n A dX7_change_29 rfl ?_
      refine s_getf (k := 7) (j := 2) (sl := true) (v := zR (some (a0 + 3))) A dX7_change_30 rfl zuw_X7 (Nat.le_of_ble_eq_true rfl) zwd188 (by decide) (ha0.k0 _) rfl ?_
      refine s_iload_n A dX7_change_33 rfl ?_
      refine z_iald A dX7_change_34 (ha0.k3 _) (Nat.le_of_ble_eq_true rfl) ox4 ?_
      refine s_istore_n (L' := [some (zR (some (a0))), some (zI x1), some (zI x2), some (zI (zi μ5 (a0 + 3) x1))]) A dX7_change_35 (Nat.le_of_ble_eq_true rfl) rfl ?_
      refine s_aload_n A dX7_change_36 rfl ?_
      refine s_getf (k := 7) (j := 2) (sl := true) (v := zR (some (a0 + 3))) A dX7_change_37 rfl zuw_X7 (Nat.le_of_ble_eq_true rfl) zwd188 (by decide) (ha0.k0 _) rfl ?_
      refine s_iload_n A dX7_change_40 rfl ?_
      refine s_iload_n A dX7_change_41 rfl ?_
      refine z_iast A dX7_change_42 (ha0.k3 _) (Nat.le_of_ble_eq_true rfl) ox4 ?_
      refine s_iload_n A dX7_change_43 rfl ?_
      refine s_iload_n A dX7_change_44 rfl ?_
      obtain ⟨oz8, h⟩ := h
      obtain ⟨oz9, h⟩ := h
      refine z_icmp_ne (tgt := 53) A dX7_change_45 (by decide) oz8 oz9 (fun c10 => ?_) (fun c10 => ?_)
      · have h := h.1 c10
        refine s_iload_n A dX7_change_53 rfl ?_
        exact s_iret A dX7_change_54 hr hlk (Nat.le_of_ble_eq_true rfl) (Nat.le_of_ble_eq_true rfl) ⟨_, rfl, h⟩
      · have h := h.2 c10
        refine s_bipush A dX7_change_48 rfl ?_
        refine s_goto (tgt := 54) A dX7_change_50 (by decide) ?_
        exact s_iret A dX7_change_54 hr hlk (Nat.le_of_ble_eq_true rfl) (Nat.le_of_ble_eq_true rfl) ⟨_, rfl, h⟩
    · have h := h.2 c7
      refine s_iconst A dX7_change_27 ?_
      exact s_iret A dX7_change_28 hr hlk (Nat.le_of_ble_eq_true rfl) (Nat.le_of_ble_eq_true rfl) ⟨_, rfl, h⟩
theorem eX7_change {G : zG} {F : Int → zM → Prop} {μ : zM} {a0 : Nat} {x1 : Int} {x2 : Int} (h : ∀ J, zJ G true (2) 0 0 mX7_change (zKI F) J → J 0 ([some (zR (some (a0))), some (zI x1), some (zI x2), none], [], μ, 0, 0)) : qX7_change G a0 x1 x2 μ F :=
  z_body (by decide +kernel) (Nat.le_of_ble_eq_true rfl) h
set_option maxRecDepth 20000 in
theorem rX7_paintLetter_e {G : zG} {F : Int → zM → Prop} {J : Nat → zS → Prop} {μ : zM} (C : zJ G true (3) 0 0 mX7_paintLetter (zKI F) J) {a0 : Nat} (ha0 : zIsSt a0) (x1 : Int) (x2 : Int) (x3 : Int) (x4 : Int)
    (h : qX10_isIn G true x1 0 7 μ (fun v1 μ1 => zin v1 ∧ ((v1 = 0 → F (-1) μ1) ∧ (¬ (v1 = 0) → qX10_isColour G true x2 x3 x4 μ1 (fun v4 μ4 => zin v4 ∧ ((¬ v4 = 0 → (0 ≤ x1 * 3 ∧ x1 * 3 < 24) ∧ (0 ≤ (x1 * 3) + 1 ∧ (x1 * 3) + 1 < 24) ∧ (0 ≤ (x1 * 3) + 2 ∧ (x1 * 3) + 2 < 24) ∧ qX7_weighed G a0 ((zi μ4 (a0 + 5) (x1 * 3)) - x2) ((zi μ4 (a0 + 5) ((x1 * 3) + 1)) - x3) ((zi μ4 (a0 + 5) ((x1 * 3) + 2)) - x4) μ4 (fun v10 μ10 => F v10 (zup (zup (zup μ10 (a0 + 5) (x1 * 3) x2) (a0 + 5) ((x1 * 3) + 1) x3) (a0 + 5) ((x1 * 3) + 2) x4))) ∧ (v4 = 0 → F (-1) μ4))))))) : J 0 ([some (zR (some (a0))), some (zI x1), some (zI x2), some (zI x3), some (zI x4), none, none], [], μ, 0, 0) := by
  obtain ⟨p, e, s, m, args, below, meth, c, A, hml, hr, hlk, hnm, rfl⟩ := C
  refine s_iload_n A dX7_paintLetter_0 rfl ?_
  refine s_iconst A dX7_paintLetter_1 ?_
  refine s_bipush A dX7_paintLetter_2 rfl ?_
  refine s_callSN (host := "InkFolds") (M := mX10_isIn) (n := 3) (d := 0) (mc := 0) (ms := 0) (av := [zI x1, zI 0, zI 7]) (st := []) A dX7_paintLetter_4 zwr600 zwd598 zwd89 zcd_X10_isIn (Nat.le_of_ble_eq_true rfl) (Nat.le_of_ble_eq_true rfl) (Nat.le_refl _) ⟨Nat.le_of_ble_eq_true rfl, Nat.le_of_ble_eq_true rfl⟩ zhn_X10_isIn rfl (Nat.le_of_ble_eq_true rfl) rfl (z_contI (fun v1 μ1 h => ?_) h)
  obtain ⟨oz2, h⟩ := h
  refine z_if_eq (tgt := 20) A dX7_paintLetter_7 (by decide) oz2 (fun c3 => ?_) (fun c3 => ?_)
  · have h := h.1 c3
    refine s_iconst A dX7_paintLetter_20 ?_
    exact s_iret A dX7_paintLetter_21 hr hlk (Nat.le_of_ble_eq_true rfl) (Nat.le_of_ble_eq_true rfl) ⟨_, rfl, h⟩
  · have h := h.2 c3
    refine s_iload_n A dX7_paintLetter_10 rfl ?_
    refine s_iload_n A dX7_paintLetter_11 rfl ?_
    refine s_iload A dX7_paintLetter_12 rfl ?_
    refine s_callSN (host := "InkFolds") (M := mX10_isColour) (n := 3) (d := 2) (mc := 0) (ms := 0) (av := [zI x2, zI x3, zI x4]) (st := []) A dX7_paintLetter_14 zwr769 zwd770 zwd89 zcd_X10_isColour (Nat.le_of_ble_eq_true rfl) (Nat.le_of_ble_eq_true rfl) (Nat.le_refl _) ⟨Nat.le_of_ble_eq_true rfl, Nat.le_of_ble_eq_true rfl⟩ zhn_X10_isColour rfl (Nat.le_of_ble_eq_true rfl) rfl (z_contI (fun v4 μ4 h => ?_) h)
    obtain ⟨oz5, h⟩ := h
    refine z_if_ne (tgt := 22) A dX7_paintLetter_17 (by decide) oz5 (fun c6 => ?_) (fun c6 => ?_)
    · have h := h.1 c6
      refine s_iload_n A dX7_paintLetter_22 rfl ?_
      refine s_iconst A dX7_paintLetter_23 ?_
      refine s_imul A dX7_paintLetter_24 ?_
      refine s_istore (L' := [some (zR (some (a0))), some (zI x1), some (zI x2), some (zI x3), some (zI x4), some (zI (x1 * 3)), none]) A dX7_paintLetter_25 (Nat.le_of_ble_eq_true rfl) rfl ?_
      refine s_aload_n A dX7_paintLetter_27 rfl ?_
      refine s_aload_n A dX7_paintLetter_28 rfl ?_
      refine s_getf (k := 7) (j := 4) (sl := true) (v := zR (some (a0 + 5))) A dX7_paintLetter_29 rfl zuw_X7 (Nat.le_of_ble_eq_true rfl) zwd193 (by decide) (ha0.k0 _) rfl ?_
      refine s_iload A dX7_paintLetter_32 rfl ?_
      obtain ⟨ox7, h⟩ := h
      refine z_iald A dX7_paintLetter_34 (ha0.k5 _) (Nat.le_of_ble_eq_true rfl) ox7 ?_
      refine s_iload_n A dX7_paintLetter_35 rfl ?_
      refine s_isub A dX7_paintLetter_36 ?_
      refine s_aload_n A dX7_paintLetter_37 rfl ?_
      refine s_getf (k := 7) (j := 4) (sl := true) (v := zR (some (a0 + 5))) A dX7_paintLetter_38 rfl zuw_X7 (Nat.le_of_ble_eq_true rfl) zwd193 (by decide) (ha0.k0 _) rfl ?_
      refine s_iload A dX7_paintLetter_41 rfl ?_
      refine s_iconst A dX7_paintLetter_43 ?_
      refine s_iadd A dX7_paintLetter_44 ?_
      obtain ⟨ox8, h⟩ := h
      refine z_iald A dX7_paintLetter_45 (ha0.k5 _) (Nat.le_of_ble_eq_true rfl) ox8 ?_
      refine s_iload_n A dX7_paintLetter_46 rfl ?_
      refine s_isub A dX7_paintLetter_47 ?_
      refine s_aload_n A dX7_paintLetter_48 rfl ?_
      refine s_getf (k := 7) (j := 4) (sl := true) (v := zR (some (a0 + 5))) A dX7_paintLetter_49 rfl zuw_X7 (Nat.le_of_ble_eq_true rfl) zwd193 (by decide) (ha0.k0 _) rfl ?_
      refine s_iload A dX7_paintLetter_52 rfl ?_
      refine s_iconst A dX7_paintLetter_54 ?_
      refine s_iadd A dX7_paintLetter_55 ?_
      obtain ⟨ox9, h⟩ := h
      refine z_iald A dX7_paintLetter_56 (ha0.k5 _) (Nat.le_of_ble_eq_true rfl) ox9 ?_
      refine s_iload A dX7_paintLetter_57 rfl ?_
      refine s_isub A dX7_paintLetter_59 ?_
      refine s_callV (a := a0) (k := 7) (N := 9) (sl := true) (M := mX7_weighed) (n := 3) (d := 0) (mc := 0) (ms := 0) (av := [zI ((zi μ4 (a0 + 5) (x1 * 3)) - x2), zI ((zi μ4 (a0 + 5) ((x1 * 3) + 1)) - x3), zI ((zi μ4 (a0 + 5) ((x1 * 3) + 2)) - x4)]) (st := []) A dX7_paintLetter_60 rfl (by decide) (ha0.k0 _) zwd772 zwd773 zwd774 zwd92 zcd_X7_weighed (Nat.le_of_ble_eq_true rfl) (Nat.le_of_ble_eq_true rfl) (Nat.le_refl _) ⟨Nat.le_of_ble_eq_true rfl, Nat.le_of_ble_eq_true rfl⟩ ⟨rfl, zhn_X7_weighed⟩ rfl (Nat.le_of_ble_eq_true rfl) rfl (z_contI (fun v10 μ10 h => ?_) h)
      refine s_istore (L' := [some (zR (some (a0))), some (zI x1), some (zI x2), some (zI x3), some (zI x4), some (zI (x1 * 3)), some (zI v10)]) A dX7_paintLetter_63 (Nat.le_of_ble_eq_true rfl) rfl ?_
      refine s_aload_n A dX7_paintLetter_65 rfl ?_
      refine s_getf (k := 7) (j := 4) (sl := true) (v := zR (some (a0 + 5))) A dX7_paintLetter_66 rfl zuw_X7 (Nat.le_of_ble_eq_true rfl) zwd193 (by decide) (ha0.k0 _) rfl ?_
      refine s_iload A dX7_paintLetter_69 rfl ?_
      refine s_iload_n A dX7_paintLetter_71 rfl ?_
      refine z_iast A dX7_paintLetter_72 (ha0.k5 _) (Nat.le_of_ble_eq_true rfl) ox7 ?_
      refine s_aload_n A dX7_paintLetter_73 rfl ?_
      refine s_getf (k := 7) (j := 4) (sl := true) (v := zR (some (a0 + 5))) A dX7_paintLetter_74 rfl zuw_X7 (Nat.le_of_ble_eq_true rfl) zwd193 (by decide) (ha0.k0 _) rfl ?_
      refine s_iload A dX7_paintLetter_77 rfl ?_
      refine s_iconst A dX7_paintLetter_79 ?_
      refine s_iadd A dX7_paintLetter_80 ?_
      refine s_iload_n A dX7_paintLetter_81 rfl ?_
      refine z_iast A dX7_paintLetter_82 (ha0.k5 _) (Nat.le_of_ble_eq_true rfl) ox8 ?_
      refine s_aload_n A dX7_paintLetter_83 rfl ?_
      refine s_getf (k := 7) (j := 4) (sl := true) (v := zR (some (a0 + 5))) A dX7_paintLetter_84 rfl zuw_X7 (Nat.le_of_ble_eq_true rfl) zwd193 (by decide) (ha0.k0 _) rfl ?_
      refine s_iload A dX7_paintLetter_87 rfl ?_
      refine s_iconst A dX7_paintLetter_89 ?_
      refine s_iadd A dX7_paintLetter_90 ?_
      refine s_iload A dX7_paintLetter_91 rfl ?_
      refine z_iast A dX7_paintLetter_93 (ha0.k5 _) (Nat.le_of_ble_eq_true rfl) ox9 ?_
      refine s_iload A dX7_paintLetter_94 rfl ?_
      exact s_iret A dX7_paintLetter_96 hr hlk (Nat.le_of_ble_eq_true rfl) (Nat.le_of_ble_eq_true rfl) ⟨_, rfl, h⟩
    · have h := h.2 c6
      refine s_iconst A dX7_paintLetter_20 ?_
      exact s_iret A dX7_paintLetter_21 hr hlk (Nat.le_of_ble_eq_true rfl) (Nat.le_of_ble_eq_true rfl) ⟨_, rfl, h⟩
theorem eX7_paintLetter {G : zG} {F : Int → zM → Prop} {μ : zM} {a0 : Nat} {x1 : Int} {x2 : Int} {x3 : Int} {x4 : Int} (h : ∀ J, zJ G true (3) 0 0 mX7_paintLetter (zKI F) J → J 0 ([some (zR (some (a0))), some (zI x1), some (zI x2), some (zI x3), some (zI x4), none, none], [], μ, 0, 0)) : qX7_paintLetter G a0 x1 x2 x3 x4 μ F :=
  z_body (by decide +kernel) (Nat.le_of_ble_eq_true rfl) h
set_option maxRecDepth 20000 in
theorem rX7_hang_e {G : zG} {F : zM → Prop} {J : Nat → zS → Prop} {μ : zM} (C : zJ G true (2) 0 0 mX7_hang (zKV F) J) {a0 : Nat} (ha0 : zIsSt a0)
    (h : zin (zi μ 1 1) ∧ ((¬ zi μ 1 1 = 0 → J 20 ([some (zR (some (a0))), some (zR (some 1)), some (zI 0), some (zI 0)], [], zup μ a0 7 1, 0, 0)) ∧ (zi μ 1 1 = 0 → J 20 ([some (zR (some (a0))), some (zR (some 1)), some (zI 0), some (zI 0)], [], zup μ a0 7 0, 0, 0)))) : J 0 ([some (zR (some (a0))), some (zR (some 1)), none, none], [], μ, 0, 0) := by
  obtain ⟨p, e, s, m, args, below, meth, c, A, hml, hr, hlk, hnm, rfl⟩ := C
  refine s_iconst A dX7_hang_0 ?_
  refine s_istore_n (L' := [some (zR (some (a0))), some (zR (some 1)), some (zI 0), none]) A dX7_hang_1 (Nat.le_of_ble_eq_true rfl) rfl ?_
  refine s_aload_n A dX7_hang_2 rfl ?_
  refine s_aload_n A dX7_hang_3 rfl ?_
  refine s_getf (k := 9) (j := 1) (sl := true) (v := zI (zi μ 1 1)) A dX7_hang_4 rfl zuw_X9 (Nat.le_of_ble_eq_true rfl) zwd131 (by decide) (zk_1 _) rfl ?_
  obtain ⟨oz1, h⟩ := h
  refine z_if_ne (tgt := 14) A dX7_hang_7 (by decide) oz1 (fun c2 => ?_) (fun c2 => ?_)
  · have h := h.1 c2
    refine s_iconst A dX7_hang_14 ?_
    refine z_putI (k := 7) (j := 7) (sl := true) A dX7_hang_15 rfl zuw_X7 (Nat.le_of_ble_eq_true rfl) zwd200 (by decide) (ha0.k0 _) tyX7 tyX7_ok nmX7 rfl rfl rfl ?_
    refine s_iconst A dX7_hang_18 ?_
    refine s_istore_n (L' := [some (zR (some (a0))), some (zR (some 1)), some (zI 0), some (zI 0)]) A dX7_hang_19 (Nat.le_of_ble_eq_true rfl) rfl ?_
    exact h
  · have h := h.2 c2
    refine s_iconst A dX7_hang_10 ?_
    refine s_goto (tgt := 15) A dX7_hang_11 (by decide) ?_
    refine z_putI (k := 7) (j := 7) (sl := true) A dX7_hang_15 rfl zuw_X7 (Nat.le_of_ble_eq_true rfl) zwd200 (by decide) (ha0.k0 _) tyX7 tyX7_ok nmX7 rfl rfl rfl ?_
    refine s_iconst A dX7_hang_18 ?_
    refine s_istore_n (L' := [some (zR (some (a0))), some (zR (some 1)), some (zI 0), some (zI 0)]) A dX7_hang_19 (Nat.le_of_ble_eq_true rfl) rfl ?_
    exact h
set_option maxRecDepth 20000 in
theorem rX7_hang_20 {G : zG} {F : zM → Prop} {J : Nat → zS → Prop} {μ : zM} (C : zJ G true (2) 0 0 mX7_hang (zKV F) J) {a0 : Nat} (ha0 : zIsSt a0) (x2 : Int) (x3 : Int)
    (h : zin x3 ∧ zin (zi μ 1 1) ∧ ((zi μ 1 1 ≤ x3 → zin (zi μ a0 7) ∧ ((¬ zi μ a0 7 = 0 → (0 ≤ x2 ∧ x2 < 2147483648) ∧ (0 < zi μ a0 7 ∧ zi μ a0 7 < 2147483648) ∧ F (zup μ a0 6 (x2 / (zi μ a0 7)))) ∧ (zi μ a0 7 = 0 → F (zup μ a0 6 0)))) ∧ (¬ (zi μ 1 1 ≤ x3) → zin x2 ∧ ((64 < x2 → zin (zi μ a0 7) ∧ ((¬ zi μ a0 7 = 0 → (0 ≤ x2 ∧ x2 < 2147483648) ∧ (0 < zi μ a0 7 ∧ zi μ a0 7 < 2147483648) ∧ F (zup μ a0 6 (x2 / (zi μ a0 7)))) ∧ (zi μ a0 7 = 0 → F (zup μ a0 6 0)))) ∧ (¬ (64 < x2) → qX9_at G x3 μ (fun v10 μ10 => zin v10 ∧ ((¬ v10 = 47 → ((64 ≤ x2 → J 20 ([some (zR (some (a0))), some (zR (some 1)), some (zI x2), some (zI (x3 + 1))], [], μ10, 0, 0)) ∧ (¬ (64 ≤ x2) → qX9_at G x3 μ10 (fun v14 μ14 => (0 ≤ x2 ∧ x2 < 64) ∧ J 20 ([some (zR (some (a0))), some (zR (some 1)), some (zI (x2 + 1)), some (zI (x3 + 1))], [], zup μ14 (a0 + 6) x2 (v14 - 97), 0, 0))))) ∧ (v10 = 47 → J 20 ([some (zR (some (a0))), some (zR (some 1)), some (zI x2), some (zI (x3 + 1))], [], zup μ10 a0 7 ((zi μ10 a0 7) + 1), 0, 0))))))))) : J 20 ([some (zR (some (a0))), some (zR (some 1)), some (zI x2), some (zI x3)], [], μ, 0, 0) := by
  obtain ⟨p, e, s, m, args, below, meth, c, A, hml, hr, hlk, hnm, rfl⟩ := C
  refine s_iload_n A dX7_hang_20 rfl ?_
  refine s_aload_n A dX7_hang_21 rfl ?_
  refine s_getf (k := 9) (j := 1) (sl := true) (v := zI (zi μ 1 1)) A dX7_hang_22 rfl zuw_X9 (Nat.le_of_ble_eq_true rfl) zwd131 (by decide) (zk_1 _) rfl ?_
  obtain ⟨oz1, h⟩ := h
  obtain ⟨oz2, h⟩ := h
  refine z_icmp_ge (tgt := 86) A dX7_hang_25 (by decide) oz1 oz2 (fun c3 => ?_) (fun c3 => ?_)
  · have h := h.1 c3
    refine s_aload_n A dX7_hang_86 rfl ?_
    refine s_aload_n A dX7_hang_87 rfl ?_
    refine s_getf (k := 7) (j := 7) (sl := true) (v := zI (zi μ a0 7)) A dX7_hang_88 rfl zuw_X7 (Nat.le_of_ble_eq_true rfl) zwd200 (by decide) (ha0.k0 _) rfl ?_
    obtain ⟨oz4, h⟩ := h
    refine z_if_ne (tgt := 98) A dX7_hang_91 (by decide) oz4 (fun c5 => ?_) (fun c5 => ?_)
    · have h := h.1 c5
      refine s_iload_n A dX7_hang_98 rfl ?_
      refine s_aload_n A dX7_hang_99 rfl ?_
      refine s_getf (k := 7) (j := 7) (sl := true) (v := zI (zi μ a0 7)) A dX7_hang_100 rfl zuw_X7 (Nat.le_of_ble_eq_true rfl) zwd200 (by decide) (ha0.k0 _) rfl ?_
      obtain ⟨o1, h⟩ := h
      obtain ⟨o2, h⟩ := h
      refine z_idiv A dX7_hang_103 o1 o2 ?_
      refine z_putI (k := 7) (j := 6) (sl := true) A dX7_hang_104 rfl zuw_X7 (Nat.le_of_ble_eq_true rfl) zwd197 (by decide) (ha0.k0 _) tyX7 tyX7_ok nmX7 rfl rfl rfl ?_
      exact s_vret A dX7_hang_107 hr hlk (Nat.le_of_ble_eq_true rfl) (Nat.le_of_ble_eq_true rfl) ⟨rfl, h⟩
    · have h := h.2 c5
      refine s_iconst A dX7_hang_94 ?_
      refine s_goto (tgt := 104) A dX7_hang_95 (by decide) ?_
      refine z_putI (k := 7) (j := 6) (sl := true) A dX7_hang_104 rfl zuw_X7 (Nat.le_of_ble_eq_true rfl) zwd197 (by decide) (ha0.k0 _) tyX7 tyX7_ok nmX7 rfl rfl rfl ?_
      exact s_vret A dX7_hang_107 hr hlk (Nat.le_of_ble_eq_true rfl) (Nat.le_of_ble_eq_true rfl) ⟨rfl, h⟩
  · have h := h.2 c3
    refine s_iload_n A dX7_hang_28 rfl ?_
    refine s_bipush A dX7_hang_29 rfl ?_
    obtain ⟨oz6, h⟩ := h
    refine z_icmp_gt (tgt := 86) A dX7_hang_31 (by decide) oz6 ⟨by decide, by decide⟩ (fun c7 => ?_) (fun c7 => ?_)
    · have h := h.1 c7
      refine s_aload_n A dX7_hang_86 rfl ?_
      refine s_aload_n A dX7_hang_87 rfl ?_
      refine s_getf (k := 7) (j := 7) (sl := true) (v := zI (zi μ a0 7)) A dX7_hang_88 rfl zuw_X7 (Nat.le_of_ble_eq_true rfl) zwd200 (by decide) (ha0.k0 _) rfl ?_
      obtain ⟨oz8, h⟩ := h
      refine z_if_ne (tgt := 98) A dX7_hang_91 (by decide) oz8 (fun c9 => ?_) (fun c9 => ?_)
      · have h := h.1 c9
        refine s_iload_n A dX7_hang_98 rfl ?_
        refine s_aload_n A dX7_hang_99 rfl ?_
        refine s_getf (k := 7) (j := 7) (sl := true) (v := zI (zi μ a0 7)) A dX7_hang_100 rfl zuw_X7 (Nat.le_of_ble_eq_true rfl) zwd200 (by decide) (ha0.k0 _) rfl ?_
        obtain ⟨o1, h⟩ := h
        obtain ⟨o2, h⟩ := h
        refine z_idiv A dX7_hang_103 o1 o2 ?_
        refine z_putI (k := 7) (j := 6) (sl := true) A dX7_hang_104 rfl zuw_X7 (Nat.le_of_ble_eq_true rfl) zwd197 (by decide) (ha0.k0 _) tyX7 tyX7_ok nmX7 rfl rfl rfl ?_
        exact s_vret A dX7_hang_107 hr hlk (Nat.le_of_ble_eq_true rfl) (Nat.le_of_ble_eq_true rfl) ⟨rfl, h⟩
      · have h := h.2 c9
        refine s_iconst A dX7_hang_94 ?_
        refine s_goto (tgt := 104) A dX7_hang_95 (by decide) ?_
        refine z_putI (k := 7) (j := 6) (sl := true) A dX7_hang_104 rfl zuw_X7 (Nat.le_of_ble_eq_true rfl) zwd197 (by decide) (ha0.k0 _) tyX7 tyX7_ok nmX7 rfl rfl rfl ?_
        exact s_vret A dX7_hang_107 hr hlk (Nat.le_of_ble_eq_true rfl) (Nat.le_of_ble_eq_true rfl) ⟨rfl, h⟩
    · have h := h.2 c7
      refine s_aload_n A dX7_hang_34 rfl ?_
      refine s_iload_n A dX7_hang_35 rfl ?_
      refine s_callV (a := 1) (k := 9) (N := 2) (sl := true) (M := mX9_at) (n := 1) (d := 0) (mc := 0) (ms := 0) (av := [zI x3]) (st := []) A dX7_hang_36 rfl (by decide) (zk_1 _) zwd718 zwd583 zwd584 zwd90 zcd_X9_at (Nat.le_of_ble_eq_true rfl) (Nat.le_of_ble_eq_true rfl) (Nat.le_refl _) ⟨Nat.le_of_ble_eq_true rfl, Nat.le_of_ble_eq_true rfl⟩ ⟨rfl, zhn_X9_at⟩ rfl (Nat.le_of_ble_eq_true rfl) rfl (z_contI (fun v10 μ10 h => ?_) h)
      refine s_bipush A dX7_hang_39 rfl ?_
      obtain ⟨oz11, h⟩ := h
      refine z_icmp_ne (tgt := 57) A dX7_hang_41 (by decide) oz11 ⟨by decide, by decide⟩ (fun c12 => ?_) (fun c12 => ?_)
      · have h := h.1 c12
        refine s_iload_n A dX7_hang_57 rfl ?_
        refine s_bipush A dX7_hang_58 rfl ?_
        refine z_icmp_ge (tgt := 80) A dX7_hang_60 (by decide) oz6 ⟨by decide, by decide⟩ (fun c13 => ?_) (fun c13 => ?_)
        · have h := h.1 c13
          refine s_iinc (L' := [some (zR (some (a0))), some (zR (some 1)), some (zI x2), some (zI (x3 + 1))]) A dX7_hang_80 rfl rfl ?_
          refine s_goto (tgt := 20) A dX7_hang_83 (by decide) ?_
          exact h
        · have h := h.2 c13
          refine s_aload_n A dX7_hang_63 rfl ?_
          refine s_getf (k := 7) (j := 5) (sl := true) (v := zR (some (a0 + 6))) A dX7_hang_64 rfl zuw_X7 (Nat.le_of_ble_eq_true rfl) zwd195 (by decide) (ha0.k0 _) rfl ?_
          refine s_iload_n A dX7_hang_67 rfl ?_
          refine s_aload_n A dX7_hang_68 rfl ?_
          refine s_iload_n A dX7_hang_69 rfl ?_
          refine s_callV (a := 1) (k := 9) (N := 2) (sl := true) (M := mX9_at) (n := 1) (d := 0) (mc := 0) (ms := 0) (av := [zI x3]) (st := [zI x2, zR (some (a0 + 6))]) A dX7_hang_70 rfl (by decide) (zk_1 _) zwd718 zwd583 zwd584 zwd90 zcd_X9_at (Nat.le_of_ble_eq_true rfl) (Nat.le_of_ble_eq_true rfl) (Nat.le_refl _) ⟨Nat.le_of_ble_eq_true rfl, Nat.le_of_ble_eq_true rfl⟩ ⟨rfl, zhn_X9_at⟩ rfl (Nat.le_of_ble_eq_true rfl) rfl (z_contI (fun v14 μ14 h => ?_) h)
          refine s_bipush A dX7_hang_73 rfl ?_
          refine s_isub A dX7_hang_75 ?_
          obtain ⟨ox15, h⟩ := h
          refine z_iast A dX7_hang_76 (ha0.k6 _) (Nat.le_of_ble_eq_true rfl) ox15 ?_
          refine s_iinc (L' := [some (zR (some (a0))), some (zR (some 1)), some (zI (x2 + 1)), some (zI x3)]) A dX7_hang_77 rfl rfl ?_
          refine s_iinc (L' := [some (zR (some (a0))), some (zR (some 1)), some (zI (x2 + 1)), some (zI (x3 + 1))]) A dX7_hang_80 rfl rfl ?_
          refine s_goto (tgt := 20) A dX7_hang_83 (by decide) ?_
          exact h
      · have h := h.2 c12
        refine s_aload_n A dX7_hang_44 rfl ?_
        refine s_dup A dX7_hang_45 rfl ?_
        refine s_getf (k := 7) (j := 7) (sl := true) (v := zI (zi μ10 a0 7)) A dX7_hang_46 rfl zuw_X7 (Nat.le_of_ble_eq_true rfl) zwd200 (by decide) (ha0.k0 _) rfl ?_
        refine s_iconst A dX7_hang_49 ?_
        refine s_iadd A dX7_hang_50 ?_
        refine z_putI (k := 7) (j := 7) (sl := true) A dX7_hang_51 rfl zuw_X7 (Nat.le_of_ble_eq_true rfl) zwd200 (by decide) (ha0.k0 _) tyX7 tyX7_ok nmX7 rfl rfl rfl ?_
        refine s_goto (tgt := 80) A dX7_hang_54 (by decide) ?_
        refine s_iinc (L' := [some (zR (some (a0))), some (zR (some 1)), some (zI x2), some (zI (x3 + 1))]) A dX7_hang_80 rfl rfl ?_
        refine s_goto (tgt := 20) A dX7_hang_83 (by decide) ?_
        exact h
theorem eX7_hang {G : zG} {F : zM → Prop} {μ : zM} {a0 : Nat} (h : ∀ J, zJ G true (2) 0 0 mX7_hang (zKV F) J → J 0 ([some (zR (some (a0))), some (zR (some 1)), none, none], [], μ, 0, 0)) : qX7_hang G a0 μ F :=
  z_body (by decide +kernel) (Nat.le_of_ble_eq_true rfl) h
set_option maxRecDepth 20000 in
theorem rX7_bentFromStraight_e {G : zG} {F : Int → zM → Prop} {J : Nat → zS → Prop} {μ : zM} (C : zJ G true (8) 0 0 mX7_bentFromStraight (zKI F) J) {a0 : Nat} (ha0 : zIsSt a0) (x1 : Int)
    (h : J 4 ([some (zR (some (a0))), some (zI x1), some (zI 0), some (zI 0)], [], μ, 0, 0)) : J 0 ([some (zR (some (a0))), some (zI x1), none, none], [], μ, 0, 0) := by
  obtain ⟨p, e, s, m, args, below, meth, c, A, hml, hr, hlk, hnm, rfl⟩ := C
  refine s_iconst A dX7_bentFromStraight_0 ?_
  refine s_istore_n (L' := [some (zR (some (a0))), some (zI x1), some (zI 0), none]) A dX7_bentFromStraight_1 (Nat.le_of_ble_eq_true rfl) rfl ?_
  refine s_iconst A dX7_bentFromStraight_2 ?_
  refine s_istore_n (L' := [some (zR (some (a0))), some (zI x1), some (zI 0), some (zI 0)]) A dX7_bentFromStraight_3 (Nat.le_of_ble_eq_true rfl) rfl ?_
  exact h
set_option maxRecDepth 20000 in
theorem rX7_bentFromStraight_4 {G : zG} {F : Int → zM → Prop} {J : Nat → zS → Prop} {μ : zM} (C : zJ G true (8) 0 0 mX7_bentFromStraight (zKI F) J) {a0 : Nat} (ha0 : zIsSt a0) (x1 : Int) (x2 : Int) (x3 : Int)
    (h : zin x3 ∧ ((9 ≤ x3 → F x2 μ) ∧ (¬ (9 ≤ x3) → (0 ≤ (x1 * 9) + x3 ∧ (x1 * 9) + x3 < 36) ∧ zin ((zi μ (a0 + 4) ((x1 * 9) + x3)) - x3) ∧ J 4 ([some (zR (some (a0))), some (zI x1), some (zI (x2 + (max ((zi μ (a0 + 4) ((x1 * 9) + x3)) - x3) (-((zi μ (a0 + 4) ((x1 * 9) + x3)) - x3))))), some (zI (x3 + 1))], [], μ, 0, 0)))) : J 4 ([some (zR (some (a0))), some (zI x1), some (zI x2), some (zI x3)], [], μ, 0, 0) := by
  obtain ⟨p, e, s, m, args, below, meth, c, A, hml, hr, hlk, hnm, rfl⟩ := C
  refine s_iload_n A dX7_bentFromStraight_4 rfl ?_
  refine s_bipush A dX7_bentFromStraight_5 rfl ?_
  obtain ⟨oz1, h⟩ := h
  refine z_icmp_ge (tgt := 35) A dX7_bentFromStraight_7 (by decide) oz1 ⟨by decide, by decide⟩ (fun c2 => ?_) (fun c2 => ?_)
  · have h := h.1 c2
    refine s_iload_n A dX7_bentFromStraight_35 rfl ?_
    exact s_iret A dX7_bentFromStraight_36 hr hlk (Nat.le_of_ble_eq_true rfl) (Nat.le_of_ble_eq_true rfl) ⟨_, rfl, h⟩
  · have h := h.2 c2
    refine s_iload_n A dX7_bentFromStraight_10 rfl ?_
    refine s_aload_n A dX7_bentFromStraight_11 rfl ?_
    refine s_getf (k := 7) (j := 3) (sl := true) (v := zR (some (a0 + 4))) A dX7_bentFromStraight_12 rfl zuw_X7 (Nat.le_of_ble_eq_true rfl) zwd191 (by decide) (ha0.k0 _) rfl ?_
    refine s_iload_n A dX7_bentFromStraight_15 rfl ?_
    refine s_bipush A dX7_bentFromStraight_16 rfl ?_
    refine s_imul A dX7_bentFromStraight_18 ?_
    refine s_iload_n A dX7_bentFromStraight_19 rfl ?_
    refine s_iadd A dX7_bentFromStraight_20 ?_
    obtain ⟨ox3, h⟩ := h
    refine z_iald A dX7_bentFromStraight_21 (ha0.k4 _) (Nat.le_of_ble_eq_true rfl) ox3 ?_
    refine s_iload_n A dX7_bentFromStraight_22 rfl ?_
    refine s_isub A dX7_bentFromStraight_23 ?_
    obtain ⟨oz4, h⟩ := h
    refine z_mabs A dX7_bentFromStraight_24 zwd637 zwd638 zwd105 zwd639 (Nat.le_of_ble_eq_true rfl) (Nat.le_of_ble_eq_true rfl) ⟨Nat.le_of_ble_eq_true rfl, Nat.le_of_ble_eq_true rfl⟩ oz4 ?_
    refine s_iadd A dX7_bentFromStraight_27 ?_
    refine s_istore_n (L' := [some (zR (some (a0))), some (zI x1), some (zI (x2 + (max ((zi μ (a0 + 4) ((x1 * 9) + x3)) - x3) (-((zi μ (a0 + 4) ((x1 * 9) + x3)) - x3))))), some (zI x3)]) A dX7_bentFromStraight_28 (Nat.le_of_ble_eq_true rfl) rfl ?_
    refine s_iinc (L' := [some (zR (some (a0))), some (zI x1), some (zI (x2 + (max ((zi μ (a0 + 4) ((x1 * 9) + x3)) - x3) (-((zi μ (a0 + 4) ((x1 * 9) + x3)) - x3))))), some (zI (x3 + 1))]) A dX7_bentFromStraight_29 rfl rfl ?_
    refine s_goto (tgt := 4) A dX7_bentFromStraight_32 (by decide) ?_
    exact h
theorem eX7_bentFromStraight {G : zG} {F : Int → zM → Prop} {μ : zM} {a0 : Nat} {x1 : Int} (h : ∀ J, zJ G true (8) 0 0 mX7_bentFromStraight (zKI F) J → J 0 ([some (zR (some (a0))), some (zI x1), none, none], [], μ, 0, 0)) : qX7_bentFromStraight G a0 x1 μ F :=
  z_body (by decide +kernel) (Nat.le_of_ble_eq_true rfl) h
set_option maxRecDepth 20000 in
theorem rX7_unlike_e {G : zG} {F : Int → zM → Prop} {J : Nat → zS → Prop} {μ : zM} (C : zJ G true (10) 0 0 mX7_unlike (zKI F) J) {a0 : Nat} (ha0 : zIsSt a0) (x1 : Int)
    (h : qX7_lightOf G a0 x1 0 μ (fun v1 μ1 => qX7_reckoned G a0 x1 0 μ1 (fun v2 μ2 => qX7_lightOf G a0 x1 1 μ2 (fun v3 μ3 => qX7_reckoned G a0 x1 1 μ3 (fun v4 μ4 => qX7_lightOf G a0 x1 2 μ4 (fun v5 μ5 => qX7_reckoned G a0 x1 2 μ5 (fun v6 μ6 => qX7_weighed G a0 (v1 - v2) (v3 - v4) (v5 - v6) μ6 (fun v7 μ7 => F v7 μ7)))))))) : J 0 ([some (zR (some (a0))), some (zI x1)], [], μ, 0, 0) := by
  obtain ⟨p, e, s, m, args, below, meth, c, A, hml, hr, hlk, hnm, rfl⟩ := C
  refine s_aload_n A dX7_unlike_0 rfl ?_
  refine s_aload_n A dX7_unlike_1 rfl ?_
  refine s_iload_n A dX7_unlike_2 rfl ?_
  refine s_iconst A dX7_unlike_3 ?_
  refine s_callV (a := a0) (k := 7) (N := 9) (sl := true) (M := mX7_lightOf) (n := 2) (d := 9) (mc := 0) (ms := 0) (av := [zI x1, zI 0]) (st := [zR (some (a0))]) A dX7_unlike_4 rfl (by decide) (ha0.k0 _) zwd1166 zwd822 zwd823 zwd92 zcd_X7_lightOf (Nat.le_of_ble_eq_true rfl) (Nat.le_of_ble_eq_true rfl) (Nat.le_refl _) ⟨Nat.le_of_ble_eq_true rfl, Nat.le_of_ble_eq_true rfl⟩ ⟨rfl, zhn_X7_lightOf⟩ rfl (Nat.le_of_ble_eq_true rfl) rfl (z_contI (fun v1 μ1 h => ?_) h)
  refine s_aload_n A dX7_unlike_7 rfl ?_
  refine s_iload_n A dX7_unlike_8 rfl ?_
  refine s_iconst A dX7_unlike_9 ?_
  refine s_callV (a := a0) (k := 7) (N := 9) (sl := true) (M := mX7_reckoned) (n := 2) (d := 8) (mc := 0) (ms := 0) (av := [zI x1, zI 0]) (st := [zI v1, zR (some (a0))]) A dX7_unlike_10 rfl (by decide) (ha0.k0 _) zwd825 zwd826 zwd827 zwd92 zcd_X7_reckoned (Nat.le_of_ble_eq_true rfl) (Nat.le_of_ble_eq_true rfl) (Nat.le_refl _) ⟨Nat.le_of_ble_eq_true rfl, Nat.le_of_ble_eq_true rfl⟩ ⟨rfl, zhn_X7_reckoned⟩ rfl (Nat.le_of_ble_eq_true rfl) rfl (z_contI (fun v2 μ2 h => ?_) h)
  refine s_isub A dX7_unlike_13 ?_
  refine s_aload_n A dX7_unlike_14 rfl ?_
  refine s_iload_n A dX7_unlike_15 rfl ?_
  refine s_iconst A dX7_unlike_16 ?_
  refine s_callV (a := a0) (k := 7) (N := 9) (sl := true) (M := mX7_lightOf) (n := 2) (d := 9) (mc := 0) (ms := 0) (av := [zI x1, zI 1]) (st := [zI (v1 - v2), zR (some (a0))]) A dX7_unlike_17 rfl (by decide) (ha0.k0 _) zwd1166 zwd822 zwd823 zwd92 zcd_X7_lightOf (Nat.le_of_ble_eq_true rfl) (Nat.le_of_ble_eq_true rfl) (Nat.le_refl _) ⟨Nat.le_of_ble_eq_true rfl, Nat.le_of_ble_eq_true rfl⟩ ⟨rfl, zhn_X7_lightOf⟩ rfl (Nat.le_of_ble_eq_true rfl) rfl (z_contI (fun v3 μ3 h => ?_) h)
  refine s_aload_n A dX7_unlike_20 rfl ?_
  refine s_iload_n A dX7_unlike_21 rfl ?_
  refine s_iconst A dX7_unlike_22 ?_
  refine s_callV (a := a0) (k := 7) (N := 9) (sl := true) (M := mX7_reckoned) (n := 2) (d := 8) (mc := 0) (ms := 0) (av := [zI x1, zI 1]) (st := [zI v3, zI (v1 - v2), zR (some (a0))]) A dX7_unlike_23 rfl (by decide) (ha0.k0 _) zwd825 zwd826 zwd827 zwd92 zcd_X7_reckoned (Nat.le_of_ble_eq_true rfl) (Nat.le_of_ble_eq_true rfl) (Nat.le_refl _) ⟨Nat.le_of_ble_eq_true rfl, Nat.le_of_ble_eq_true rfl⟩ ⟨rfl, zhn_X7_reckoned⟩ rfl (Nat.le_of_ble_eq_true rfl) rfl (z_contI (fun v4 μ4 h => ?_) h)
  refine s_isub A dX7_unlike_26 ?_
  refine s_aload_n A dX7_unlike_27 rfl ?_
  refine s_iload_n A dX7_unlike_28 rfl ?_
  refine s_iconst A dX7_unlike_29 ?_
  refine s_callV (a := a0) (k := 7) (N := 9) (sl := true) (M := mX7_lightOf) (n := 2) (d := 9) (mc := 0) (ms := 0) (av := [zI x1, zI 2]) (st := [zI (v3 - v4), zI (v1 - v2), zR (some (a0))]) A dX7_unlike_30 rfl (by decide) (ha0.k0 _) zwd1166 zwd822 zwd823 zwd92 zcd_X7_lightOf (Nat.le_of_ble_eq_true rfl) (Nat.le_of_ble_eq_true rfl) (Nat.le_refl _) ⟨Nat.le_of_ble_eq_true rfl, Nat.le_of_ble_eq_true rfl⟩ ⟨rfl, zhn_X7_lightOf⟩ rfl (Nat.le_of_ble_eq_true rfl) rfl (z_contI (fun v5 μ5 h => ?_) h)
  refine s_aload_n A dX7_unlike_33 rfl ?_
  refine s_iload_n A dX7_unlike_34 rfl ?_
  refine s_iconst A dX7_unlike_35 ?_
  refine s_callV (a := a0) (k := 7) (N := 9) (sl := true) (M := mX7_reckoned) (n := 2) (d := 8) (mc := 0) (ms := 0) (av := [zI x1, zI 2]) (st := [zI v5, zI (v3 - v4), zI (v1 - v2), zR (some (a0))]) A dX7_unlike_36 rfl (by decide) (ha0.k0 _) zwd825 zwd826 zwd827 zwd92 zcd_X7_reckoned (Nat.le_of_ble_eq_true rfl) (Nat.le_of_ble_eq_true rfl) (Nat.le_refl _) ⟨Nat.le_of_ble_eq_true rfl, Nat.le_of_ble_eq_true rfl⟩ ⟨rfl, zhn_X7_reckoned⟩ rfl (Nat.le_of_ble_eq_true rfl) rfl (z_contI (fun v6 μ6 h => ?_) h)
  refine s_isub A dX7_unlike_39 ?_
  refine s_callV (a := a0) (k := 7) (N := 9) (sl := true) (M := mX7_weighed) (n := 3) (d := 0) (mc := 0) (ms := 0) (av := [zI (v1 - v2), zI (v3 - v4), zI (v5 - v6)]) (st := []) A dX7_unlike_40 rfl (by decide) (ha0.k0 _) zwd772 zwd773 zwd774 zwd92 zcd_X7_weighed (Nat.le_of_ble_eq_true rfl) (Nat.le_of_ble_eq_true rfl) (Nat.le_refl _) ⟨Nat.le_of_ble_eq_true rfl, Nat.le_of_ble_eq_true rfl⟩ ⟨rfl, zhn_X7_weighed⟩ rfl (Nat.le_of_ble_eq_true rfl) rfl (z_contI (fun v7 μ7 h => ?_) h)
  exact s_iret A dX7_unlike_43 hr hlk (Nat.le_of_ble_eq_true rfl) (Nat.le_of_ble_eq_true rfl) ⟨_, rfl, h⟩
theorem eX7_unlike {G : zG} {F : Int → zM → Prop} {μ : zM} {a0 : Nat} {x1 : Int} (h : ∀ J, zJ G true (10) 0 0 mX7_unlike (zKI F) J → J 0 ([some (zR (some (a0))), some (zI x1)], [], μ, 0, 0)) : qX7_unlike G a0 x1 μ F :=
  z_body (by decide +kernel) (Nat.le_of_ble_eq_true rfl) h
set_option maxRecDepth 20000 in
theorem rX9_init_e {G : zG} {F : zM → Prop} {J : Nat → zS → Prop} {μ : zM} (C : zJ G false (2) 1 80 mX9_init (zKV F) J) (a0 : Nat)
    (h : zs false (znew μ (40, 80)) (zn μ) = (40, 80) ∧ ∀ b1 μ1, b1 = zn μ → μ1 = znew μ (40, 80) → zok false μ1 a0 (9, 2) ∧ F (zupr μ1 a0 0 (some b1))) : J 0 ([some (zR (some a0))], [], μ, 0, 0) := by
  obtain ⟨p, e, s, m, args, below, meth, c, A, hml, hr, hlk, hnm, rfl⟩ := C
  refine s_aload_n A dX9_init_0 rfl ?_
  refine z_objInit A dX9_init_1 zwd126 zwd119 zwd120 (Nat.le_of_ble_eq_true rfl) (by decide) (Nat.le_of_ble_eq_true rfl) ?_
  refine s_aload_n A dX9_init_4 rfl ?_
  refine s_bipush A dX9_init_5 rfl ?_
  obtain ⟨o1, h⟩ := h
  refine z_newa_int (n := 80) A dX9_init_7 rfl (by decide) zwd137 o1 (Nat.le_of_ble_eq_true rfl) (Nat.le_of_ble_eq_true rfl) (fun b1 μ1 eb1 em1 => ?_)
  have h := h b1 μ1 eb1 em1
  obtain ⟨o2, h⟩ := h
  refine z_putFR (k := 9) (j := 0) (sl := false) A dX9_init_9 rfl zuw_X9 (Nat.le_of_ble_eq_true rfl) zwd127 (by decide) o2 tyX9 tyX9_ok nmX9 rfl (Or.inl rfl) rfl (Or.inr ⟨_, rfl⟩) rfl hnm rfl ?_
  exact s_vret A dX9_init_12 hr hlk (Nat.le_of_ble_eq_true rfl) (Nat.le_of_ble_eq_true rfl) ⟨rfl, h⟩
theorem eX9_init {G : zG} {F : zM → Prop} {μ : zM} {a0 : Nat} (h : ∀ J, zJ G false (2) 1 80 mX9_init (zKV F) J → J 0 ([some (zR (some a0))], [], μ, 0, 0)) : qX9_init G a0 μ F :=
  z_body (by decide +kernel) (Nat.le_of_ble_eq_true rfl) h
set_option maxRecDepth 20000 in
theorem rX9_append_e {G : zG} {F : zM → Prop} {J : Nat → zS → Prop} {μ : zM} (C : zJ G true (0) 0 0 mX9_append (zKV F) J) (x1 : Int)
    (h : zin (zi μ 1 1) ∧ ((80 ≤ zi μ 1 1 → F μ) ∧ (¬ (80 ≤ zi μ 1 1) → (0 ≤ zi μ 1 1 ∧ zi μ 1 1 < 80) ∧ F (zup (zup μ 2 (zi μ 1 1) x1) 1 1 ((zi (zup μ 2 (zi μ 1 1) x1) 1 1) + 1))))) : J 0 ([some (zR (some 1)), some (zI x1)], [], μ, 0, 0) := by
  obtain ⟨p, e, s, m, args, below, meth, c, A, hml, hr, hlk, hnm, rfl⟩ := C
  refine s_aload_n A dX9_append_0 rfl ?_
  refine s_getf (k := 9) (j := 1) (sl := true) (v := zI (zi μ 1 1)) A dX9_append_1 rfl zuw_X9 (Nat.le_of_ble_eq_true rfl) zwd128 (by decide) (zk_1 _) rfl ?_
  refine s_bipush A dX9_append_4 rfl ?_
  obtain ⟨oz1, h⟩ := h
  refine z_icmp_ge (tgt := 29) A dX9_append_6 (by decide) oz1 ⟨by decide, by decide⟩ (fun c2 => ?_) (fun c2 => ?_)
  · have h := h.1 c2
    exact s_vret A dX9_append_29 hr hlk (Nat.le_of_ble_eq_true rfl) (Nat.le_of_ble_eq_true rfl) ⟨rfl, h⟩
  · have h := h.2 c2
    refine s_aload_n A dX9_append_9 rfl ?_
    refine s_getf (k := 9) (j := 0) (sl := true) (v := zR (some 2)) A dX9_append_10 rfl zuw_X9 (Nat.le_of_ble_eq_true rfl) zwd127 (by decide) (zk_1 _) rfl ?_
    refine s_aload_n A dX9_append_13 rfl ?_
    refine s_getf (k := 9) (j := 1) (sl := true) (v := zI (zi μ 1 1)) A dX9_append_14 rfl zuw_X9 (Nat.le_of_ble_eq_true rfl) zwd128 (by decide) (zk_1 _) rfl ?_
    refine s_iload_n A dX9_append_17 rfl ?_
    obtain ⟨ox3, h⟩ := h
    refine z_iast A dX9_append_18 (zk_2 _) (Nat.le_of_ble_eq_true rfl) ox3 ?_
    refine s_aload_n A dX9_append_19 rfl ?_
    refine s_dup A dX9_append_20 rfl ?_
    refine s_getf (k := 9) (j := 1) (sl := true) (v := zI (zi (zup μ 2 (zi μ 1 1) x1) 1 1)) A dX9_append_21 rfl zuw_X9 (Nat.le_of_ble_eq_true rfl) zwd128 (by decide) (zk_1 _) rfl ?_
    refine s_iconst A dX9_append_24 ?_
    refine s_iadd A dX9_append_25 ?_
    refine z_putI (k := 9) (j := 1) (sl := true) A dX9_append_26 rfl zuw_X9 (Nat.le_of_ble_eq_true rfl) zwd128 (by decide) (zk_1 _) tyX9 tyX9_ok nmX9 rfl rfl rfl ?_
    exact s_vret A dX9_append_29 hr hlk (Nat.le_of_ble_eq_true rfl) (Nat.le_of_ble_eq_true rfl) ⟨rfl, h⟩
theorem eX9_append {G : zG} {F : zM → Prop} {μ : zM} {x1 : Int} (h : ∀ J, zJ G true (0) 0 0 mX9_append (zKV F) J → J 0 ([some (zR (some 1)), some (zI x1)], [], μ, 0, 0)) : qX9_append G x1 μ F :=
  z_body (by decide +kernel) (Nat.le_of_ble_eq_true rfl) h
set_option maxRecDepth 20000 in
theorem rX9_two_e {G : zG} {F : Int → zM → Prop} {J : Nat → zS → Prop} {μ : zM} (C : zJ G true (3) 0 0 mX9_two (zKI F) J) (x1 : Int)
    (h : qX9_digit G x1 μ (fun v1 μ1 => qX9_digit G (x1 + 1) μ1 (fun v2 μ2 => F ((10 * v1) + v2) μ2))) : J 0 ([some (zR (some 1)), some (zI x1)], [], μ, 0, 0) := by
  obtain ⟨p, e, s, m, args, below, meth, c, A, hml, hr, hlk, hnm, rfl⟩ := C
  refine s_bipush A dX9_two_0 rfl ?_
  refine s_aload_n A dX9_two_2 rfl ?_
  refine s_iload_n A dX9_two_3 rfl ?_
  refine s_callV (a := 1) (k := 9) (N := 2) (sl := true) (M := mX9_digit) (n := 1) (d := 2) (mc := 0) (ms := 0) (av := [zI x1]) (st := [zI 10]) A dX9_two_4 rfl (by decide) (zk_1 _) zwd578 zwd579 zwd580 zwd90 zcd_X9_digit (Nat.le_of_ble_eq_true rfl) (Nat.le_of_ble_eq_true rfl) (Nat.le_refl _) ⟨Nat.le_of_ble_eq_true rfl, Nat.le_of_ble_eq_true rfl⟩ ⟨rfl, zhn_X9_digit⟩ rfl (Nat.le_of_ble_eq_true rfl) rfl (z_contI (fun v1 μ1 h => ?_) h)
  refine s_imul A dX9_two_7 ?_
  refine s_aload_n A dX9_two_8 rfl ?_
  refine s_iload_n A dX9_two_9 rfl ?_
  refine s_iconst A dX9_two_10 ?_
  refine s_iadd A dX9_two_11 ?_
  refine s_callV (a := 1) (k := 9) (N := 2) (sl := true) (M := mX9_digit) (n := 1) (d := 2) (mc := 0) (ms := 0) (av := [zI (x1 + 1)]) (st := [zI (10 * v1)]) A dX9_two_12 rfl (by decide) (zk_1 _) zwd578 zwd579 zwd580 zwd90 zcd_X9_digit (Nat.le_of_ble_eq_true rfl) (Nat.le_of_ble_eq_true rfl) (Nat.le_refl _) ⟨Nat.le_of_ble_eq_true rfl, Nat.le_of_ble_eq_true rfl⟩ ⟨rfl, zhn_X9_digit⟩ rfl (Nat.le_of_ble_eq_true rfl) rfl (z_contI (fun v2 μ2 h => ?_) h)
  refine s_iadd A dX9_two_15 ?_
  exact s_iret A dX9_two_16 hr hlk (Nat.le_of_ble_eq_true rfl) (Nat.le_of_ble_eq_true rfl) ⟨_, rfl, h⟩
theorem eX9_two {G : zG} {F : Int → zM → Prop} {μ : zM} {x1 : Int} (h : ∀ J, zJ G true (3) 0 0 mX9_two (zKI F) J → J 0 ([some (zR (some 1)), some (zI x1)], [], μ, 0, 0)) : qX9_two G x1 μ F :=
  z_body (by decide +kernel) (Nat.le_of_ble_eq_true rfl) h
set_option maxRecDepth 20000 in
theorem rX9_patch_e {G : zG} {F : Int → zM → Prop} {J : Nat → zS → Prop} {μ : zM} (C : zJ G true (3) 0 0 mX9_patch (zKI F) J) (x1 : Int)
    (h : qX9_digit G x1 μ (fun v1 μ1 => qX9_digit G (x1 + 1) μ1 (fun v2 μ2 => qX9_digit G (x1 + 2) μ2 (fun v3 μ3 => qX9_digit G (x1 + 3) μ3 (fun v4 μ4 => F ((((27 * v1) + (9 * v2)) + (3 * v3)) + v4) μ4))))) : J 0 ([some (zR (some 1)), some (zI x1)], [], μ, 0, 0) := by
  obtain ⟨p, e, s, m, args, below, meth, c, A, hml, hr, hlk, hnm, rfl⟩ := C
  refine s_bipush A dX9_patch_0 rfl ?_
  refine s_aload_n A dX9_patch_2 rfl ?_
  refine s_iload_n A dX9_patch_3 rfl ?_
  refine s_callV (a := 1) (k := 9) (N := 2) (sl := true) (M := mX9_digit) (n := 1) (d := 2) (mc := 0) (ms := 0) (av := [zI x1]) (st := [zI 27]) A dX9_patch_4 rfl (by decide) (zk_1 _) zwd578 zwd579 zwd580 zwd90 zcd_X9_digit (Nat.le_of_ble_eq_true rfl) (Nat.le_of_ble_eq_true rfl) (Nat.le_refl _) ⟨Nat.le_of_ble_eq_true rfl, Nat.le_of_ble_eq_true rfl⟩ ⟨rfl, zhn_X9_digit⟩ rfl (Nat.le_of_ble_eq_true rfl) rfl (z_contI (fun v1 μ1 h => ?_) h)
  refine s_imul A dX9_patch_7 ?_
  refine s_bipush A dX9_patch_8 rfl ?_
  refine s_aload_n A dX9_patch_10 rfl ?_
  refine s_iload_n A dX9_patch_11 rfl ?_
  refine s_iconst A dX9_patch_12 ?_
  refine s_iadd A dX9_patch_13 ?_
  refine s_callV (a := 1) (k := 9) (N := 2) (sl := true) (M := mX9_digit) (n := 1) (d := 2) (mc := 0) (ms := 0) (av := [zI (x1 + 1)]) (st := [zI 9, zI (27 * v1)]) A dX9_patch_14 rfl (by decide) (zk_1 _) zwd578 zwd579 zwd580 zwd90 zcd_X9_digit (Nat.le_of_ble_eq_true rfl) (Nat.le_of_ble_eq_true rfl) (Nat.le_refl _) ⟨Nat.le_of_ble_eq_true rfl, Nat.le_of_ble_eq_true rfl⟩ ⟨rfl, zhn_X9_digit⟩ rfl (Nat.le_of_ble_eq_true rfl) rfl (z_contI (fun v2 μ2 h => ?_) h)
  refine s_imul A dX9_patch_17 ?_
  refine s_iadd A dX9_patch_18 ?_
  refine s_iconst A dX9_patch_19 ?_
  refine s_aload_n A dX9_patch_20 rfl ?_
  refine s_iload_n A dX9_patch_21 rfl ?_
  refine s_iconst A dX9_patch_22 ?_
  refine s_iadd A dX9_patch_23 ?_
  refine s_callV (a := 1) (k := 9) (N := 2) (sl := true) (M := mX9_digit) (n := 1) (d := 2) (mc := 0) (ms := 0) (av := [zI (x1 + 2)]) (st := [zI 3, zI ((27 * v1) + (9 * v2))]) A dX9_patch_24 rfl (by decide) (zk_1 _) zwd578 zwd579 zwd580 zwd90 zcd_X9_digit (Nat.le_of_ble_eq_true rfl) (Nat.le_of_ble_eq_true rfl) (Nat.le_refl _) ⟨Nat.le_of_ble_eq_true rfl, Nat.le_of_ble_eq_true rfl⟩ ⟨rfl, zhn_X9_digit⟩ rfl (Nat.le_of_ble_eq_true rfl) rfl (z_contI (fun v3 μ3 h => ?_) h)
  refine s_imul A dX9_patch_27 ?_
  refine s_iadd A dX9_patch_28 ?_
  refine s_aload_n A dX9_patch_29 rfl ?_
  refine s_iload_n A dX9_patch_30 rfl ?_
  refine s_iconst A dX9_patch_31 ?_
  refine s_iadd A dX9_patch_32 ?_
  refine s_callV (a := 1) (k := 9) (N := 2) (sl := true) (M := mX9_digit) (n := 1) (d := 2) (mc := 0) (ms := 0) (av := [zI (x1 + 3)]) (st := [zI (((27 * v1) + (9 * v2)) + (3 * v3))]) A dX9_patch_33 rfl (by decide) (zk_1 _) zwd578 zwd579 zwd580 zwd90 zcd_X9_digit (Nat.le_of_ble_eq_true rfl) (Nat.le_of_ble_eq_true rfl) (Nat.le_refl _) ⟨Nat.le_of_ble_eq_true rfl, Nat.le_of_ble_eq_true rfl⟩ ⟨rfl, zhn_X9_digit⟩ rfl (Nat.le_of_ble_eq_true rfl) rfl (z_contI (fun v4 μ4 h => ?_) h)
  refine s_iadd A dX9_patch_36 ?_
  exact s_iret A dX9_patch_37 hr hlk (Nat.le_of_ble_eq_true rfl) (Nat.le_of_ble_eq_true rfl) ⟨_, rfl, h⟩
theorem eX9_patch {G : zG} {F : Int → zM → Prop} {μ : zM} {x1 : Int} (h : ∀ J, zJ G true (3) 0 0 mX9_patch (zKI F) J → J 0 ([some (zR (some 1)), some (zI x1)], [], μ, 0, 0)) : qX9_patch G x1 μ F :=
  z_body (by decide +kernel) (Nat.le_of_ble_eq_true rfl) h
set_option maxRecDepth 20000 in
theorem rX9_canStand_e {G : zG} {F : Int → zM → Prop} {J : Nat → zS → Prop} {μ : zM} (C : zJ G true (9) 0 0 mX9_canStand (zKI F) J) (x0 : Int) (x1 : Int) (x2 : Int)
    (h : zin x1 ∧ ((x1 = 40 → zin x0 ∧ ((¬ x0 = 40 → F 0 μ) ∧ (x0 = 40 → zin x2 ∧ ((3 ≤ x2 → F 0 μ) ∧ (¬ (3 ≤ x2) → F 1 μ))))) ∧ (x1 = 42 → F 1 μ) ∧ (x1 = 104 → zin x0 ∧ ((x0 < 97 → F 0 μ) ∧ (¬ (x0 < 97) → ((104 < x0 → F 0 μ) ∧ (¬ (104 < x0) → F 1 μ))))) ∧ (x1 = 107 → qX9_inkOf G x0 μ (fun v9 μ9 => zin v9 ∧ ((v9 < 0 → F 0 μ9) ∧ (¬ (v9 < 0) → F 1 μ9)))) ∧ (x1 ≠ 40 ∧ x1 ≠ 42 ∧ x1 ≠ 104 ∧ x1 ≠ 107 → zin x0 ∧ ((x0 < 48 → F 0 μ) ∧ (¬ (x0 < 48) → ((x1 < x0 → F 0 μ) ∧ (¬ (x1 < x0) → F 1 μ))))))) : J 0 ([some (zI x0), some (zI x1), some (zI x2)], [], μ, 0, 0) := by
  obtain ⟨p, e, s, m, args, below, meth, c, A, hml, hr, hlk, hnm, rfl⟩ := C
  refine s_iload_n A dX9_canStand_0 rfl ?_
  obtain ⟨oz1, h⟩ := h
  have hx15 : x1 = 40 ∨ x1 = 42 ∨ x1 = 104 ∨ x1 = 107 ∨ (x1 ≠ 40 ∧ x1 ≠ 42 ∧ x1 ≠ 104 ∧ x1 ≠ 107) := by omega
  rcases hx15 with hq | hq | hq | hq | hq
  · refine z_lsw (tgt := 46) A dX9_canStand_1 oz1 (by decide +kernel) (by rw [hq]; decide +kernel) ?_
    have h := h.1 (by omega)
    refine s_iload_n A dX9_canStand_46 rfl ?_
    refine s_bipush A dX9_canStand_47 rfl ?_
    obtain ⟨oz2, h⟩ := h
    refine z_icmp_ne (tgt := 61) A dX9_canStand_49 (by decide) oz2 ⟨by decide, by decide⟩ (fun c3 => ?_) (fun c3 => ?_)
    · have h := h.1 c3
      refine s_iconst A dX9_canStand_61 ?_
      exact s_zret A dX9_canStand_62 hr hlk (Nat.le_of_ble_eq_true rfl) (Nat.le_of_ble_eq_true rfl) (Or.inl rfl) ⟨_, rfl, h⟩
    · have h := h.2 c3
      refine s_iload_n A dX9_canStand_52 rfl ?_
      refine s_iconst A dX9_canStand_53 ?_
      obtain ⟨oz4, h⟩ := h
      refine z_icmp_ge (tgt := 61) A dX9_canStand_54 (by decide) oz4 ⟨by decide, by decide⟩ (fun c5 => ?_) (fun c5 => ?_)
      · have h := h.1 c5
        refine s_iconst A dX9_canStand_61 ?_
        exact s_zret A dX9_canStand_62 hr hlk (Nat.le_of_ble_eq_true rfl) (Nat.le_of_ble_eq_true rfl) (Or.inl rfl) ⟨_, rfl, h⟩
      · have h := h.2 c5
        refine s_iconst A dX9_canStand_57 ?_
        refine s_goto (tgt := 62) A dX9_canStand_58 (by decide) ?_
        exact s_zret A dX9_canStand_62 hr hlk (Nat.le_of_ble_eq_true rfl) (Nat.le_of_ble_eq_true rfl) (Or.inr rfl) ⟨_, rfl, h⟩
  · refine z_lsw (tgt := 44) A dX9_canStand_1 oz1 (by decide +kernel) (by rw [hq]; decide +kernel) ?_
    have h := h.2.1 (by omega)
    refine s_iconst A dX9_canStand_44 ?_
    exact s_zret A dX9_canStand_45 hr hlk (Nat.le_of_ble_eq_true rfl) (Nat.le_of_ble_eq_true rfl) (Or.inr rfl) ⟨_, rfl, h⟩
  · refine z_lsw (tgt := 76) A dX9_canStand_1 oz1 (by decide +kernel) (by rw [hq]; decide +kernel) ?_
    have h := h.2.2.1 (by omega)
    refine s_iload_n A dX9_canStand_76 rfl ?_
    refine s_bipush A dX9_canStand_77 rfl ?_
    obtain ⟨oz6, h⟩ := h
    refine z_icmp_lt (tgt := 92) A dX9_canStand_79 (by decide) oz6 ⟨by decide, by decide⟩ (fun c7 => ?_) (fun c7 => ?_)
    · have h := h.1 c7
      refine s_iconst A dX9_canStand_92 ?_
      exact s_zret A dX9_canStand_93 hr hlk (Nat.le_of_ble_eq_true rfl) (Nat.le_of_ble_eq_true rfl) (Or.inl rfl) ⟨_, rfl, h⟩
    · have h := h.2 c7
      refine s_iload_n A dX9_canStand_82 rfl ?_
      refine s_bipush A dX9_canStand_83 rfl ?_
      refine z_icmp_gt (tgt := 92) A dX9_canStand_85 (by decide) oz6 ⟨by decide, by decide⟩ (fun c8 => ?_) (fun c8 => ?_)
      · have h := h.1 c8
        refine s_iconst A dX9_canStand_92 ?_
        exact s_zret A dX9_canStand_93 hr hlk (Nat.le_of_ble_eq_true rfl) (Nat.le_of_ble_eq_true rfl) (Or.inl rfl) ⟨_, rfl, h⟩
      · have h := h.2 c8
        refine s_iconst A dX9_canStand_88 ?_
        refine s_goto (tgt := 93) A dX9_canStand_89 (by decide) ?_
        exact s_zret A dX9_canStand_93 hr hlk (Nat.le_of_ble_eq_true rfl) (Nat.le_of_ble_eq_true rfl) (Or.inr rfl) ⟨_, rfl, h⟩
  · refine z_lsw (tgt := 63) A dX9_canStand_1 oz1 (by decide +kernel) (by rw [hq]; decide +kernel) ?_
    have h := h.2.2.2.1 (by omega)
    refine s_iload_n A dX9_canStand_63 rfl ?_
    refine s_callS (M := mX9_inkOf) (n := 1) (d := 8) (mc := 0) (ms := 0) (av := [zI x0]) (st := []) A dX9_canStand_64 zwd486 zwd487 zwd90 zcd_X9_inkOf (Nat.le_of_ble_eq_true rfl) (Nat.le_of_ble_eq_true rfl) (Nat.le_refl _) ⟨Nat.le_of_ble_eq_true rfl, Nat.le_of_ble_eq_true rfl⟩ zhn_X9_inkOf rfl (Nat.le_of_ble_eq_true rfl) rfl (z_contI (fun v9 μ9 h => ?_) h)
    obtain ⟨oz10, h⟩ := h
    refine z_if_lt (tgt := 74) A dX9_canStand_67 (by decide) oz10 (fun c11 => ?_) (fun c11 => ?_)
    · have h := h.1 c11
      refine s_iconst A dX9_canStand_74 ?_
      exact s_zret A dX9_canStand_75 hr hlk (Nat.le_of_ble_eq_true rfl) (Nat.le_of_ble_eq_true rfl) (Or.inl rfl) ⟨_, rfl, h⟩
    · have h := h.2 c11
      refine s_iconst A dX9_canStand_70 ?_
      refine s_goto (tgt := 75) A dX9_canStand_71 (by decide) ?_
      exact s_zret A dX9_canStand_75 hr hlk (Nat.le_of_ble_eq_true rfl) (Nat.le_of_ble_eq_true rfl) (Or.inr rfl) ⟨_, rfl, h⟩
  · refine z_lsw (tgt := 94) A dX9_canStand_1 oz1 (by decide +kernel) (by simp [Op.lookupswitch.offset]; (repeat' split) <;> omega) ?_
    have h := h.2.2.2.2 (by omega)
    refine s_iload_n A dX9_canStand_94 rfl ?_
    refine s_bipush A dX9_canStand_95 rfl ?_
    obtain ⟨oz12, h⟩ := h
    refine z_icmp_lt (tgt := 109) A dX9_canStand_97 (by decide) oz12 ⟨by decide, by decide⟩ (fun c13 => ?_) (fun c13 => ?_)
    · have h := h.1 c13
      refine s_iconst A dX9_canStand_109 ?_
      exact s_zret A dX9_canStand_110 hr hlk (Nat.le_of_ble_eq_true rfl) (Nat.le_of_ble_eq_true rfl) (Or.inl rfl) ⟨_, rfl, h⟩
    · have h := h.2 c13
      refine s_iload_n A dX9_canStand_100 rfl ?_
      refine s_iload_n A dX9_canStand_101 rfl ?_
      refine z_icmp_gt (tgt := 109) A dX9_canStand_102 (by decide) oz12 oz1 (fun c14 => ?_) (fun c14 => ?_)
      · have h := h.1 c14
        refine s_iconst A dX9_canStand_109 ?_
        exact s_zret A dX9_canStand_110 hr hlk (Nat.le_of_ble_eq_true rfl) (Nat.le_of_ble_eq_true rfl) (Or.inl rfl) ⟨_, rfl, h⟩
      · have h := h.2 c14
        refine s_iconst A dX9_canStand_105 ?_
        refine s_goto (tgt := 110) A dX9_canStand_106 (by decide) ?_
        exact s_zret A dX9_canStand_110 hr hlk (Nat.le_of_ble_eq_true rfl) (Nat.le_of_ble_eq_true rfl) (Or.inr rfl) ⟨_, rfl, h⟩
theorem eX9_canStand {G : zG} {F : Int → zM → Prop} {μ : zM} {x0 : Int} {x1 : Int} {x2 : Int} (h : ∀ J, zJ G true (9) 0 0 mX9_canStand (zKI F) J → J 0 ([some (zI x0), some (zI x1), some (zI x2)], [], μ, 0, 0)) : qX9_canStand G x0 x1 x2 μ F :=
  z_body (by decide +kernel) (Nat.le_of_ble_eq_true rfl) h
set_option maxRecDepth 20000 in
theorem rX9_curveWrongAt_e {G : zG} {F : Int → zM → Prop} {J : Nat → zS → Prop} {μ : zM} (C : zJ G true (0) 0 0 mX9_curveWrongAt (zKI F) J) 
    (h : J 5 ([some (zR (some 1)), some (zI 48), some (zI 0)], [], μ, 0, 0)) : J 0 ([some (zR (some 1)), none, none], [], μ, 0, 0) := by
  obtain ⟨p, e, s, m, args, below, meth, c, A, hml, hr, hlk, hnm, rfl⟩ := C
  refine s_bipush A dX9_curveWrongAt_0 rfl ?_
  refine s_istore_n (L' := [some (zR (some 1)), some (zI 48), none]) A dX9_curveWrongAt_2 (Nat.le_of_ble_eq_true rfl) rfl ?_
  refine s_iconst A dX9_curveWrongAt_3 ?_
  refine s_istore_n (L' := [some (zR (some 1)), some (zI 48), some (zI 0)]) A dX9_curveWrongAt_4 (Nat.le_of_ble_eq_true rfl) rfl ?_
  exact h
set_option maxRecDepth 20000 in
theorem rX9_curveWrongAt_5 {G : zG} {F : Int → zM → Prop} {J : Nat → zS → Prop} {μ : zM} (C : zJ G true (0) 0 0 mX9_curveWrongAt (zKI F) J) (x1 : Int) (x2 : Int)
    (h : zin x2 ∧ zin (zi μ 1 1) ∧ ((zi μ 1 1 ≤ x2 → ((zi μ 1 1 ≤ 0 → F (-1) μ) ∧ (¬ (zi μ 1 1 ≤ 0) → ((9 ≤ zi μ 1 1 → F (-1) μ) ∧ (¬ (9 ≤ zi μ 1 1) → F (zi μ 1 1) μ))))) ∧ (¬ (zi μ 1 1 ≤ x2) → ((x2 = 9 → F x2 μ) ∧ (¬ (x2 = 9) → (0 ≤ x2 ∧ x2 < 80) ∧ zin (zi μ 2 x2) ∧ zin x1 ∧ ((zi μ 2 x2 < x1 → F x2 μ) ∧ (¬ (zi μ 2 x2 < x1) → ((zi μ 2 x2 ≤ 56 → J 5 ([some (zR (some 1)), some (zI (zi μ 2 x2)), some (zI (x2 + 1))], [], μ, 0, 0)) ∧ (¬ (zi μ 2 x2 ≤ 56) → F x2 μ))))))))) : J 5 ([some (zR (some 1)), some (zI x1), some (zI x2)], [], μ, 0, 0) := by
  obtain ⟨p, e, s, m, args, below, meth, c, A, hml, hr, hlk, hnm, rfl⟩ := C
  refine s_iload_n A dX9_curveWrongAt_5 rfl ?_
  refine s_aload_n A dX9_curveWrongAt_6 rfl ?_
  refine s_getf (k := 9) (j := 1) (sl := true) (v := zI (zi μ 1 1)) A dX9_curveWrongAt_7 rfl zuw_X9 (Nat.le_of_ble_eq_true rfl) zwd128 (by decide) (zk_1 _) rfl ?_
  obtain ⟨oz1, h⟩ := h
  obtain ⟨oz2, h⟩ := h
  refine z_icmp_ge (tgt := 55) A dX9_curveWrongAt_10 (by decide) oz1 oz2 (fun c3 => ?_) (fun c3 => ?_)
  · have h := h.1 c3
    refine s_aload_n A dX9_curveWrongAt_55 rfl ?_
    refine s_getf (k := 9) (j := 1) (sl := true) (v := zI (zi μ 1 1)) A dX9_curveWrongAt_56 rfl zuw_X9 (Nat.le_of_ble_eq_true rfl) zwd128 (by decide) (zk_1 _) rfl ?_
    refine z_if_le (tgt := 78) A dX9_curveWrongAt_59 (by decide) oz2 (fun c4 => ?_) (fun c4 => ?_)
    · have h := h.1 c4
      refine s_iconst A dX9_curveWrongAt_78 ?_
      exact s_iret A dX9_curveWrongAt_79 hr hlk (Nat.le_of_ble_eq_true rfl) (Nat.le_of_ble_eq_true rfl) ⟨_, rfl, h⟩
    · have h := h.2 c4
      refine s_aload_n A dX9_curveWrongAt_62 rfl ?_
      refine s_getf (k := 9) (j := 1) (sl := true) (v := zI (zi μ 1 1)) A dX9_curveWrongAt_63 rfl zuw_X9 (Nat.le_of_ble_eq_true rfl) zwd128 (by decide) (zk_1 _) rfl ?_
      refine s_bipush A dX9_curveWrongAt_66 rfl ?_
      refine z_icmp_ge (tgt := 78) A dX9_curveWrongAt_68 (by decide) oz2 ⟨by decide, by decide⟩ (fun c5 => ?_) (fun c5 => ?_)
      · have h := h.1 c5
        refine s_iconst A dX9_curveWrongAt_78 ?_
        exact s_iret A dX9_curveWrongAt_79 hr hlk (Nat.le_of_ble_eq_true rfl) (Nat.le_of_ble_eq_true rfl) ⟨_, rfl, h⟩
      · have h := h.2 c5
        refine s_aload_n A dX9_curveWrongAt_71 rfl ?_
        refine s_getf (k := 9) (j := 1) (sl := true) (v := zI (zi μ 1 1)) A dX9_curveWrongAt_72 rfl zuw_X9 (Nat.le_of_ble_eq_true rfl) zwd128 (by decide) (zk_1 _) rfl ?_
        refine s_goto (tgt := 79) A dX9_curveWrongAt_75 (by decide) ?_
        exact s_iret A dX9_curveWrongAt_79 hr hlk (Nat.le_of_ble_eq_true rfl) (Nat.le_of_ble_eq_true rfl) ⟨_, rfl, h⟩
  · have h := h.2 c3
    refine s_iload_n A dX9_curveWrongAt_13 rfl ?_
    refine s_bipush A dX9_curveWrongAt_14 rfl ?_
    refine z_icmp_eq (tgt := 40) A dX9_curveWrongAt_16 (by decide) oz1 ⟨by decide, by decide⟩ (fun c6 => ?_) (fun c6 => ?_)
    · have h := h.1 c6
      refine s_iload_n A dX9_curveWrongAt_40 rfl ?_
      exact s_iret A dX9_curveWrongAt_41 hr hlk (Nat.le_of_ble_eq_true rfl) (Nat.le_of_ble_eq_true rfl) ⟨_, rfl, h⟩
    · have h := h.2 c6
      refine s_aload_n A dX9_curveWrongAt_19 rfl ?_
      refine s_getf (k := 9) (j := 0) (sl := true) (v := zR (some 2)) A dX9_curveWrongAt_20 rfl zuw_X9 (Nat.le_of_ble_eq_true rfl) zwd127 (by decide) (zk_1 _) rfl ?_
      refine s_iload_n A dX9_curveWrongAt_23 rfl ?_
      obtain ⟨ox7, h⟩ := h
      refine z_iald A dX9_curveWrongAt_24 (zk_2 _) (Nat.le_of_ble_eq_true rfl) ox7 ?_
      refine s_iload_n A dX9_curveWrongAt_25 rfl ?_
      obtain ⟨oz8, h⟩ := h
      obtain ⟨oz9, h⟩ := h
      refine z_icmp_lt (tgt := 40) A dX9_curveWrongAt_26 (by decide) oz8 oz9 (fun c10 => ?_) (fun c10 => ?_)
      · have h := h.1 c10
        refine s_iload_n A dX9_curveWrongAt_40 rfl ?_
        exact s_iret A dX9_curveWrongAt_41 hr hlk (Nat.le_of_ble_eq_true rfl) (Nat.le_of_ble_eq_true rfl) ⟨_, rfl, h⟩
      · have h := h.2 c10
        refine s_aload_n A dX9_curveWrongAt_29 rfl ?_
        refine s_getf (k := 9) (j := 0) (sl := true) (v := zR (some 2)) A dX9_curveWrongAt_30 rfl zuw_X9 (Nat.le_of_ble_eq_true rfl) zwd127 (by decide) (zk_1 _) rfl ?_
        refine s_iload_n A dX9_curveWrongAt_33 rfl ?_
        refine z_iald A dX9_curveWrongAt_34 (zk_2 _) (Nat.le_of_ble_eq_true rfl) ox7 ?_
        refine s_bipush A dX9_curveWrongAt_35 rfl ?_
        refine z_icmp_le (tgt := 42) A dX9_curveWrongAt_37 (by decide) oz8 ⟨by decide, by decide⟩ (fun c11 => ?_) (fun c11 => ?_)
        · have h := h.1 c11
          refine s_aload_n A dX9_curveWrongAt_42 rfl ?_
          refine s_getf (k := 9) (j := 0) (sl := true) (v := zR (some 2)) A dX9_curveWrongAt_43 rfl zuw_X9 (Nat.le_of_ble_eq_true rfl) zwd127 (by decide) (zk_1 _) rfl ?_
          refine s_iload_n A dX9_curveWrongAt_46 rfl ?_
          refine z_iald A dX9_curveWrongAt_47 (zk_2 _) (Nat.le_of_ble_eq_true rfl) ox7 ?_
          refine s_istore_n (L' := [some (zR (some 1)), some (zI (zi μ 2 x2)), some (zI x2)]) A dX9_curveWrongAt_48 (Nat.le_of_ble_eq_true rfl) rfl ?_
          refine s_iinc (L' := [some (zR (some 1)), some (zI (zi μ 2 x2)), some (zI (x2 + 1))]) A dX9_curveWrongAt_49 rfl rfl ?_
          refine s_goto (tgt := 5) A dX9_curveWrongAt_52 (by decide) ?_
          exact h
        · have h := h.2 c11
          refine s_iload_n A dX9_curveWrongAt_40 rfl ?_
          exact s_iret A dX9_curveWrongAt_41 hr hlk (Nat.le_of_ble_eq_true rfl) (Nat.le_of_ble_eq_true rfl) ⟨_, rfl, h⟩
theorem eX9_curveWrongAt {G : zG} {F : Int → zM → Prop} {μ : zM}  (h : ∀ J, zJ G true (0) 0 0 mX9_curveWrongAt (zKI F) J → J 0 ([some (zR (some 1)), none, none], [], μ, 0, 0)) : qX9_curveWrongAt G  μ F :=
  z_body (by decide +kernel) (Nat.le_of_ble_eq_true rfl) h
set_option maxRecDepth 20000 in
theorem rX9_pictureWrongAt_e {G : zG} {F : Int → zM → Prop} {J : Nat → zS → Prop} {μ : zM} (C : zJ G true (10) 0 0 mX9_pictureWrongAt (zKI F) J) 
    (h : J 10 ([some (zR (some 1)), some (zI 8), some (zI 0), some (zI 0), some (zI 0), none], [], μ, 0, 0)) : J 0 ([some (zR (some 1)), none, none, none, none, none], [], μ, 0, 0) := by
  obtain ⟨p, e, s, m, args, below, meth, c, A, hml, hr, hlk, hnm, rfl⟩ := C
  refine s_bipush A dX9_pictureWrongAt_0 rfl ?_
  refine s_istore_n (L' := [some (zR (some 1)), some (zI 8), none, none, none, none]) A dX9_pictureWrongAt_2 (Nat.le_of_ble_eq_true rfl) rfl ?_
  refine s_iconst A dX9_pictureWrongAt_3 ?_
  refine s_istore_n (L' := [some (zR (some 1)), some (zI 8), some (zI 0), none, none, none]) A dX9_pictureWrongAt_4 (Nat.le_of_ble_eq_true rfl) rfl ?_
  refine s_iconst A dX9_pictureWrongAt_5 ?_
  refine s_istore_n (L' := [some (zR (some 1)), some (zI 8), some (zI 0), some (zI 0), none, none]) A dX9_pictureWrongAt_6 (Nat.le_of_ble_eq_true rfl) rfl ?_
  refine s_iconst A dX9_pictureWrongAt_7 ?_
  refine s_istore (L' := [some (zR (some 1)), some (zI 8), some (zI 0), some (zI 0), some (zI 0), none]) A dX9_pictureWrongAt_8 (Nat.le_of_ble_eq_true rfl) rfl ?_
  exact h
set_option maxRecDepth 20000 in
theorem rX9_pictureWrongAt_10 {G : zG} {F : Int → zM → Prop} {J : Nat → zS → Prop} {μ : zM} (C : zJ G true (10) 0 0 mX9_pictureWrongAt (zKI F) J) (x1 : Int) (x2 : Int) (x3 : Int) (x4 : Int)
    (h : zin x4 ∧ zin (zi μ 1 1) ∧ ((zi μ 1 1 ≤ x4 → zin x2 ∧ ((x2 ≤ 0 → F (-1) μ) ∧ (¬ (x2 ≤ 0) → zin x3 ∧ zin x1 ∧ ((x1 ≤ x3 → F (-1) μ) ∧ (¬ (x1 ≤ x3) → F (zi μ 1 1) μ))))) ∧ (¬ (zi μ 1 1 ≤ x4) → (0 ≤ x4 ∧ x4 < 80) ∧ zin (zi μ 2 x4) ∧ ((¬ zi μ 2 x4 = 47 → qX9_canStand G (zi μ 2 x4) 104 0 μ (fun v12 μ12 => zin v12 ∧ ((v12 = 0 → F x4 μ12) ∧ (¬ (v12 = 0) → zin x3 ∧ zin x1 ∧ ((¬ x3 = x1 → J 10 ([some (zR (some 1)), some (zI x1), some (zI x2), some (zI (x3 + 1)), some (zI (x4 + 1)), none], [], μ12, 0, 0)) ∧ (x3 = x1 → F x4 μ12)))))) ∧ (zi μ 2 x4 = 47 → zin x3 ∧ ((x3 = 0 → F x4 μ) ∧ (¬ (x3 = 0) → zin x2 ∧ ((x2 ≤ 0 → J 48 ([some (zR (some 1)), none, some (zI x2), some (zI x3), some (zI x4), none], [], μ, 0, 0)) ∧ (¬ (x2 ≤ 0) → zin x1 ∧ ((x3 < x1 → F x4 μ) ∧ (¬ (x3 < x1) → J 48 ([some (zR (some 1)), none, some (zI x2), some (zI x3), some (zI x4), none], [], μ, 0, 0)))))))))))) : J 10 ([some (zR (some 1)), some (zI x1), some (zI x2), some (zI x3), some (zI x4), none], [], μ, 0, 0) := by
  obtain ⟨p, e, s, m, args, below, meth, c, A, hml, hr, hlk, hnm, rfl⟩ := C
  refine s_iload A dX9_pictureWrongAt_10 rfl ?_
  refine s_aload_n A dX9_pictureWrongAt_12 rfl ?_
  refine s_getf (k := 9) (j := 1) (sl := true) (v := zI (zi μ 1 1)) A dX9_pictureWrongAt_13 rfl zuw_X9 (Nat.le_of_ble_eq_true rfl) zwd128 (by decide) (zk_1 _) rfl ?_
  obtain ⟨oz1, h⟩ := h
  obtain ⟨oz2, h⟩ := h
  refine z_icmp_ge (tgt := 95) A dX9_pictureWrongAt_16 (by decide) oz1 oz2 (fun c3 => ?_) (fun c3 => ?_)
  · have h := h.1 c3
    refine s_iload_n A dX9_pictureWrongAt_95 rfl ?_
    obtain ⟨oz4, h⟩ := h
    refine z_if_le (tgt := 111) A dX9_pictureWrongAt_96 (by decide) oz4 (fun c5 => ?_) (fun c5 => ?_)
    · have h := h.1 c5
      refine s_iconst A dX9_pictureWrongAt_111 ?_
      exact s_iret A dX9_pictureWrongAt_112 hr hlk (Nat.le_of_ble_eq_true rfl) (Nat.le_of_ble_eq_true rfl) ⟨_, rfl, h⟩
    · have h := h.2 c5
      refine s_iload_n A dX9_pictureWrongAt_99 rfl ?_
      refine s_iload_n A dX9_pictureWrongAt_100 rfl ?_
      obtain ⟨oz6, h⟩ := h
      obtain ⟨oz7, h⟩ := h
      refine z_icmp_ge (tgt := 111) A dX9_pictureWrongAt_101 (by decide) oz6 oz7 (fun c8 => ?_) (fun c8 => ?_)
      · have h := h.1 c8
        refine s_iconst A dX9_pictureWrongAt_111 ?_
        exact s_iret A dX9_pictureWrongAt_112 hr hlk (Nat.le_of_ble_eq_true rfl) (Nat.le_of_ble_eq_true rfl) ⟨_, rfl, h⟩
      · have h := h.2 c8
        refine s_aload_n A dX9_pictureWrongAt_104 rfl ?_
        refine s_getf (k := 9) (j := 1) (sl := true) (v := zI (zi μ 1 1)) A dX9_pictureWrongAt_105 rfl zuw_X9 (Nat.le_of_ble_eq_true rfl) zwd128 (by decide) (zk_1 _) rfl ?_
        refine s_goto (tgt := 112) A dX9_pictureWrongAt_108 (by decide) ?_
        exact s_iret A dX9_pictureWrongAt_112 hr hlk (Nat.le_of_ble_eq_true rfl) (Nat.le_of_ble_eq_true rfl) ⟨_, rfl, h⟩
  · have h := h.2 c3
    refine s_aload_n A dX9_pictureWrongAt_19 rfl ?_
    refine s_getf (k := 9) (j := 0) (sl := true) (v := zR (some 2)) A dX9_pictureWrongAt_20 rfl zuw_X9 (Nat.le_of_ble_eq_true rfl) zwd127 (by decide) (zk_1 _) rfl ?_
    refine s_iload A dX9_pictureWrongAt_23 rfl ?_
    obtain ⟨ox9, h⟩ := h
    refine z_iald A dX9_pictureWrongAt_25 (zk_2 _) (Nat.le_of_ble_eq_true rfl) ox9 ?_
    refine s_istore (L' := [some (zR (some 1)), some (zI x1), some (zI x2), some (zI x3), some (zI x4), some (zI (zi μ 2 x4))]) A dX9_pictureWrongAt_26 (Nat.le_of_ble_eq_true rfl) rfl ?_
    refine s_iload A dX9_pictureWrongAt_28 rfl ?_
    refine s_bipush A dX9_pictureWrongAt_30 rfl ?_
    obtain ⟨oz10, h⟩ := h
    refine z_icmp_ne (tgt := 67) A dX9_pictureWrongAt_32 (by decide) oz10 ⟨by decide, by decide⟩ (fun c11 => ?_) (fun c11 => ?_)
    · have h := h.1 c11
      refine s_iload A dX9_pictureWrongAt_67 rfl ?_
      refine s_bipush A dX9_pictureWrongAt_69 rfl ?_
      refine s_iconst A dX9_pictureWrongAt_71 ?_
      refine s_callS (M := mX9_canStand) (n := 3) (d := 9) (mc := 0) (ms := 0) (av := [zI (zi μ 2 x4), zI 104, zI 0]) (st := []) A dX9_pictureWrongAt_72 zwd483 zwd484 zwd90 zcd_X9_canStand (Nat.le_of_ble_eq_true rfl) (Nat.le_of_ble_eq_true rfl) (Nat.le_refl _) ⟨Nat.le_of_ble_eq_true rfl, Nat.le_of_ble_eq_true rfl⟩ zhn_X9_canStand rfl (Nat.le_of_ble_eq_true rfl) rfl (z_contI (fun v12 μ12 h => ?_) h)
      obtain ⟨oz13, h⟩ := h
      refine z_if_eq (tgt := 83) A dX9_pictureWrongAt_75 (by decide) oz13 (fun c14 => ?_) (fun c14 => ?_)
      · have h := h.1 c14
        refine s_iload A dX9_pictureWrongAt_83 rfl ?_
        exact s_iret A dX9_pictureWrongAt_85 hr hlk (Nat.le_of_ble_eq_true rfl) (Nat.le_of_ble_eq_true rfl) ⟨_, rfl, h⟩
      · have h := h.2 c14
        refine s_iload_n A dX9_pictureWrongAt_78 rfl ?_
        refine s_iload_n A dX9_pictureWrongAt_79 rfl ?_
        obtain ⟨oz15, h⟩ := h
        obtain ⟨oz16, h⟩ := h
        refine z_icmp_ne (tgt := 86) A dX9_pictureWrongAt_80 (by decide) oz15 oz16 (fun c17 => ?_) (fun c17 => ?_)
        · have h := h.1 c17
          refine s_iinc (L' := [some (zR (some 1)), some (zI x1), some (zI x2), some (zI (x3 + 1)), some (zI x4), some (zI (zi μ 2 x4))]) A dX9_pictureWrongAt_86 rfl rfl ?_
          refine s_iinc (L' := [some (zR (some 1)), some (zI x1), some (zI x2), some (zI (x3 + 1)), some (zI (x4 + 1)), some (zI (zi μ 2 x4))]) A dX9_pictureWrongAt_89 rfl rfl ?_
          refine s_goto (tgt := 10) A dX9_pictureWrongAt_92 (by decide) ?_
          exact z_wk (L' := [some (zR (some 1)), some (zI x1), some (zI x2), some (zI (x3 + 1)), some (zI (x4 + 1)), none]) ⟨rfl, rfl, rfl, rfl, rfl, trivial⟩ h
        · have h := h.2 c17
          refine s_iload A dX9_pictureWrongAt_83 rfl ?_
          exact s_iret A dX9_pictureWrongAt_85 hr hlk (Nat.le_of_ble_eq_true rfl) (Nat.le_of_ble_eq_true rfl) ⟨_, rfl, h⟩
    · have h := h.2 c11
      refine s_iload_n A dX9_pictureWrongAt_35 rfl ?_
      obtain ⟨oz18, h⟩ := h
      refine z_if_eq (tgt := 54) A dX9_pictureWrongAt_36 (by decide) oz18 (fun c19 => ?_) (fun c19 => ?_)
      · have h := h.1 c19
        refine s_iload A dX9_pictureWrongAt_54 rfl ?_
        exact s_iret A dX9_pictureWrongAt_56 hr hlk (Nat.le_of_ble_eq_true rfl) (Nat.le_of_ble_eq_true rfl) ⟨_, rfl, h⟩
      · have h := h.2 c19
        refine s_iload_n A dX9_pictureWrongAt_39 rfl ?_
        obtain ⟨oz20, h⟩ := h
        refine z_if_le (tgt := 48) A dX9_pictureWrongAt_40 (by decide) oz20 (fun c21 => ?_) (fun c21 => ?_)
        · have h := h.1 c21
          exact z_wk (L' := [some (zR (some 1)), none, some (zI x2), some (zI x3), some (zI x4), none]) ⟨rfl, rfl, rfl, rfl, trivial⟩ h
        · have h := h.2 c21
          refine s_iload_n A dX9_pictureWrongAt_43 rfl ?_
          refine s_iload_n A dX9_pictureWrongAt_44 rfl ?_
          obtain ⟨oz22, h⟩ := h
          refine z_icmp_lt (tgt := 54) A dX9_pictureWrongAt_45 (by decide) oz18 oz22 (fun c23 => ?_) (fun c23 => ?_)
          · have h := h.1 c23
            refine s_iload A dX9_pictureWrongAt_54 rfl ?_
            exact s_iret A dX9_pictureWrongAt_56 hr hlk (Nat.le_of_ble_eq_true rfl) (Nat.le_of_ble_eq_true rfl) ⟨_, rfl, h⟩
          · have h := h.2 c23
            exact z_wk (L' := [some (zR (some 1)), none, some (zI x2), some (zI x3), some (zI x4), none]) ⟨rfl, rfl, rfl, rfl, trivial⟩ h
set_option maxRecDepth 20000 in
theorem rX9_pictureWrongAt_48 {G : zG} {F : Int → zM → Prop} {J : Nat → zS → Prop} {μ : zM} (C : zJ G true (10) 0 0 mX9_pictureWrongAt (zKI F) J) (x2 : Int) (x3 : Int) (x4 : Int)
    (h : zin x2 ∧ ((¬ x2 = 7 → J 10 ([some (zR (some 1)), some (zI x3), some (zI (x2 + 1)), some (zI 0), some (zI (x4 + 1)), none], [], μ, 0, 0)) ∧ (x2 = 7 → F x4 μ))) : J 48 ([some (zR (some 1)), none, some (zI x2), some (zI x3), some (zI x4), none], [], μ, 0, 0) := by
  obtain ⟨p, e, s, m, args, below, meth, c, A, hml, hr, hlk, hnm, rfl⟩ := C
  refine s_iload_n A dX9_pictureWrongAt_48 rfl ?_
  refine s_bipush A dX9_pictureWrongAt_49 rfl ?_
  obtain ⟨oz1, h⟩ := h
  refine z_icmp_ne (tgt := 57) A dX9_pictureWrongAt_51 (by decide) oz1 ⟨by decide, by decide⟩ (fun c2 => ?_) (fun c2 => ?_)
  · have h := h.1 c2
    refine s_iload_n A dX9_pictureWrongAt_57 rfl ?_
    refine s_istore_n (L' := [some (zR (some 1)), some (zI x3), some (zI x2), some (zI x3), some (zI x4), none]) A dX9_pictureWrongAt_58 (Nat.le_of_ble_eq_true rfl) rfl ?_
    refine s_iconst A dX9_pictureWrongAt_59 ?_
    refine s_istore_n (L' := [some (zR (some 1)), some (zI x3), some (zI x2), some (zI 0), some (zI x4), none]) A dX9_pictureWrongAt_60 (Nat.le_of_ble_eq_true rfl) rfl ?_
    refine s_iinc (L' := [some (zR (some 1)), some (zI x3), some (zI (x2 + 1)), some (zI 0), some (zI x4), none]) A dX9_pictureWrongAt_61 rfl rfl ?_
    refine s_goto (tgt := 89) A dX9_pictureWrongAt_64 (by decide) ?_
    refine s_iinc (L' := [some (zR (some 1)), some (zI x3), some (zI (x2 + 1)), some (zI 0), some (zI (x4 + 1)), none]) A dX9_pictureWrongAt_89 rfl rfl ?_
    refine s_goto (tgt := 10) A dX9_pictureWrongAt_92 (by decide) ?_
    exact h
  · have h := h.2 c2
    refine s_iload A dX9_pictureWrongAt_54 rfl ?_
    exact s_iret A dX9_pictureWrongAt_56 hr hlk (Nat.le_of_ble_eq_true rfl) (Nat.le_of_ble_eq_true rfl) ⟨_, rfl, h⟩
theorem eX9_pictureWrongAt {G : zG} {F : Int → zM → Prop} {μ : zM}  (h : ∀ J, zJ G true (10) 0 0 mX9_pictureWrongAt (zKI F) J → J 0 ([some (zR (some 1)), none, none, none, none, none], [], μ, 0, 0)) : qX9_pictureWrongAt G  μ F :=
  z_body (by decide +kernel) (Nat.le_of_ble_eq_true rfl) h
