set_option maxRecDepth 20000 in
theorem rX11_plainLight_e {G : zG} {F : Int → zM → Prop} {J : Nat → zS → Prop} {μ : zM} (C : zJ G true (0) 0 0 mX11_plainLight (zKI F) J) {a0 n0 : Nat} (ha0 : zIsAr a0 n0) (hn0 : n0 < 2147483648) (x1 : Int) (x2 : Int) (x3 : Int)
    (h : (0 ≤ x1 ∧ x1 < 4) ∧ (0 ≤ ((3 * x2) * (zta 7 x1)) + x3 ∧ ((3 * x2) * (zta 7 x1)) + x3 < (n0 : Int)) ∧ F (zi μ a0 (((3 * x2) * (zta 7 x1)) + x3)) μ) : J 0 ([some (zR (some a0)), some (zI x1), some (zI x2), some (zI x3)], [], μ, 0, 0) := by
  obtain ⟨p, e, s, m, args, below, meth, c, A, hml, hr, hlk, hnm, rfl⟩ := C
  refine s_aload_n A dX11_plainLight_0 rfl ?_
  refine s_iconst A dX11_plainLight_1 ?_
  refine s_iload_n A dX11_plainLight_2 rfl ?_
  refine s_imul A dX11_plainLight_3 ?_
  refine s_getsT (t := 7) A dX11_plainLight_4 (by decide) zwd1297 ?_
  refine s_iload_n A dX11_plainLight_7 rfl ?_
  obtain ⟨ox1, h⟩ := h
  refine z_tald A dX11_plainLight_8 (by decide) (Nat.le_of_ble_eq_true rfl) ox1 ?_
  refine s_imul A dX11_plainLight_9 ?_
  refine s_iload_n A dX11_plainLight_10 rfl ?_
  refine s_iadd A dX11_plainLight_11 ?_
  obtain ⟨ox2, h⟩ := h
  refine z_iald A dX11_plainLight_12 (ha0.k _) hn0 ox2 ?_
  exact s_iret A dX11_plainLight_13 hr hlk (Nat.le_of_ble_eq_true rfl) (Nat.le_of_ble_eq_true rfl) ⟨_, rfl, h⟩
theorem eX11_plainLight {G : zG} {F : Int → zM → Prop} {μ : zM} {a0 : Nat} {x1 : Int} {x2 : Int} {x3 : Int} (h : ∀ J, zJ G true (0) 0 0 mX11_plainLight (zKI F) J → J 0 ([some (zR (some a0)), some (zI x1), some (zI x2), some (zI x3)], [], μ, 0, 0)) : qX11_plainLight G a0 x1 x2 x3 μ F :=
  z_body (by decide +kernel) (Nat.le_of_ble_eq_true rfl) h
set_option maxRecDepth 20000 in
theorem rX11_reckoned_e {G : zG} {F : Int → zM → Prop} {J : Nat → zS → Prop} {μ : zM} (C : zJ G true (8) 0 0 mX11_reckoned (zKI F) J) {a0 n0 : Nat} (ha0 : zIsAr a0 n0) (hn0 : n0 < 2147483648) (x1 : Int) (x2 : Int)
    (h : (0 ≤ x2 ∧ x2 < (n0 : Int)) ∧ J 10 ([some (zR (some a0)), some (zI x1), some (zI x2), some (zI (zi μ a0 x2)), some (zI (zi μ a0 x2)), some (zI 0), none], [], μ, 0, 0)) : J 0 ([some (zR (some a0)), some (zI x1), some (zI x2), none, none, none, none], [], μ, 0, 0) := by
  obtain ⟨p, e, s, m, args, below, meth, c, A, hml, hr, hlk, hnm, rfl⟩ := C
  refine s_aload_n A dX11_reckoned_0 rfl ?_
  refine s_iload_n A dX11_reckoned_1 rfl ?_
  obtain ⟨ox1, h⟩ := h
  refine z_iald A dX11_reckoned_2 (ha0.k _) hn0 ox1 ?_
  refine s_istore_n (L' := [some (zR (some a0)), some (zI x1), some (zI x2), some (zI (zi μ a0 x2)), none, none, none]) A dX11_reckoned_3 (Nat.le_of_ble_eq_true rfl) rfl ?_
  refine s_iload_n A dX11_reckoned_4 rfl ?_
  refine s_istore (L' := [some (zR (some a0)), some (zI x1), some (zI x2), some (zI (zi μ a0 x2)), some (zI (zi μ a0 x2)), none, none]) A dX11_reckoned_5 (Nat.le_of_ble_eq_true rfl) rfl ?_
  refine s_iconst A dX11_reckoned_7 ?_
  refine s_istore (L' := [some (zR (some a0)), some (zI x1), some (zI x2), some (zI (zi μ a0 x2)), some (zI (zi μ a0 x2)), some (zI 0), none]) A dX11_reckoned_8 (Nat.le_of_ble_eq_true rfl) rfl ?_
  exact h
set_option maxRecDepth 20000 in
theorem rX11_reckoned_10 {G : zG} {F : Int → zM → Prop} {J : Nat → zS → Prop} {μ : zM} (C : zJ G true (8) 0 0 mX11_reckoned (zKI F) J) {a0 n0 : Nat} (ha0 : zIsAr a0 n0) (hn0 : n0 < 2147483648) (x1 : Int) (x2 : Int) (x3 : Int) (x4 : Int) (x5 : Int)
    (h : zin x5 ∧ ((4 ≤ x5 → F x4 μ) ∧ (¬ (4 ≤ x5) → qX11_levelOf G true x1 x5 μ (fun v3 μ3 => zin v3 ∧ ((v3 ≤ 0 → J 10 ([some (zR (some a0)), some (zI x1), some (zI x2), some (zI x3), some (zI x4), some (zI (x5 + 1)), none], [], μ3, 0, 0)) ∧ (¬ (v3 ≤ 0) → zin x3 ∧ ((¬ x3 = 0 → qX11_plainLight G a0 x5 v3 x2 μ3 (fun v8 μ8 => (0 ≤ x4 * v8 ∧ x4 * v8 < 2147483648) ∧ (0 < x3 ∧ x3 < 2147483648) ∧ zin ((x4 * v8) / x3) ∧ J 10 ([some (zR (some a0)), some (zI x1), some (zI x2), some (zI x3), some (zI (min 100 ((x4 * v8) / x3))), some (zI (x5 + 1)), none], [], μ8, 0, 0))) ∧ (x3 = 0 → J 10 ([some (zR (some a0)), some (zI x1), some (zI x2), some (zI x3), some (zI 0), some (zI (x5 + 1)), none], [], μ3, 0, 0))))))))) : J 10 ([some (zR (some a0)), some (zI x1), some (zI x2), some (zI x3), some (zI x4), some (zI x5), none], [], μ, 0, 0) := by
  obtain ⟨p, e, s, m, args, below, meth, c, A, hml, hr, hlk, hnm, rfl⟩ := C
  refine s_iload A dX11_reckoned_10 rfl ?_
  refine s_iconst A dX11_reckoned_12 ?_
  obtain ⟨oz1, h⟩ := h
  refine z_icmp_ge (tgt := 64) A dX11_reckoned_13 (by decide) oz1 ⟨by decide, by decide⟩ (fun c2 => ?_) (fun c2 => ?_)
  · have h := h.1 c2
    refine s_iload A dX11_reckoned_64 rfl ?_
    exact s_iret A dX11_reckoned_66 hr hlk (Nat.le_of_ble_eq_true rfl) (Nat.le_of_ble_eq_true rfl) ⟨_, rfl, h⟩
  · have h := h.2 c2
    refine s_iload_n A dX11_reckoned_16 rfl ?_
    refine s_iload A dX11_reckoned_17 rfl ?_
    refine s_callS (M := mX11_levelOf) (n := 2) (d := 0) (mc := 0) (ms := 0) (av := [zI x1, zI x5]) (st := []) A dX11_reckoned_19 zwd1514 zwd1515 zwd100 zcd_X11_levelOf (Nat.le_of_ble_eq_true rfl) (Nat.le_of_ble_eq_true rfl) (Nat.le_refl _) ⟨Nat.le_of_ble_eq_true rfl, Nat.le_of_ble_eq_true rfl⟩ zhn_X11_levelOf rfl (Nat.le_of_ble_eq_true rfl) rfl (z_contI (fun v3 μ3 h => ?_) h)
    refine s_istore (L' := [some (zR (some a0)), some (zI x1), some (zI x2), some (zI x3), some (zI x4), some (zI x5), some (zI v3)]) A dX11_reckoned_22 (Nat.le_of_ble_eq_true rfl) rfl ?_
    refine s_iload A dX11_reckoned_24 rfl ?_
    obtain ⟨oz4, h⟩ := h
    refine z_if_le (tgt := 58) A dX11_reckoned_26 (by decide) oz4 (fun c5 => ?_) (fun c5 => ?_)
    · have h := h.1 c5
      refine s_iinc (L' := [some (zR (some a0)), some (zI x1), some (zI x2), some (zI x3), some (zI x4), some (zI (x5 + 1)), some (zI v3)]) A dX11_reckoned_58 rfl rfl ?_
      refine s_goto (tgt := 10) A dX11_reckoned_61 (by decide) ?_
      exact z_wk (L' := [some (zR (some a0)), some (zI x1), some (zI x2), some (zI x3), some (zI x4), some (zI (x5 + 1)), none]) ⟨rfl, rfl, rfl, rfl, rfl, rfl, trivial⟩ h
    · have h := h.2 c5
      refine s_iload_n A dX11_reckoned_29 rfl ?_
      obtain ⟨oz6, h⟩ := h
      refine z_if_ne (tgt := 37) A dX11_reckoned_30 (by decide) oz6 (fun c7 => ?_) (fun c7 => ?_)
      · have h := h.1 c7
        refine s_bipush A dX11_reckoned_37 rfl ?_
        refine s_iload A dX11_reckoned_39 rfl ?_
        refine s_aload_n A dX11_reckoned_41 rfl ?_
        refine s_iload A dX11_reckoned_42 rfl ?_
        refine s_iload A dX11_reckoned_44 rfl ?_
        refine s_iload_n A dX11_reckoned_46 rfl ?_
        refine s_callS (M := mX11_plainLight) (n := 4) (d := 0) (mc := 0) (ms := 0) (av := [zR (some a0), zI x5, zI v3, zI x2]) (st := [zI x4, zI 100]) A dX11_reckoned_47 zwd1572 zwd1573 zwd100 zcd_X11_plainLight (Nat.le_of_ble_eq_true rfl) (Nat.le_of_ble_eq_true rfl) (Nat.le_refl _) ⟨Nat.le_of_ble_eq_true rfl, Nat.le_of_ble_eq_true rfl⟩ zhn_X11_plainLight rfl (Nat.le_of_ble_eq_true rfl) rfl (z_contI (fun v8 μ8 h => ?_) h)
        refine s_imul A dX11_reckoned_50 ?_
        refine s_iload_n A dX11_reckoned_51 rfl ?_
        obtain ⟨o1, h⟩ := h
        obtain ⟨o2, h⟩ := h
        refine z_idiv A dX11_reckoned_52 o1 o2 ?_
        obtain ⟨oz9, h⟩ := h
        refine z_mmin A dX11_reckoned_53 zwd1575 zwd509 zwd105 zwd510 (Nat.le_of_ble_eq_true rfl) (Nat.le_of_ble_eq_true rfl) ⟨Nat.le_of_ble_eq_true rfl, Nat.le_of_ble_eq_true rfl⟩ ⟨by decide, by decide⟩ oz9 ?_
        refine s_istore (L' := [some (zR (some a0)), some (zI x1), some (zI x2), some (zI x3), some (zI (min 100 ((x4 * v8) / x3))), some (zI x5), some (zI v3)]) A dX11_reckoned_56 (Nat.le_of_ble_eq_true rfl) rfl ?_
        refine s_iinc (L' := [some (zR (some a0)), some (zI x1), some (zI x2), some (zI x3), some (zI (min 100 ((x4 * v8) / x3))), some (zI (x5 + 1)), some (zI v3)]) A dX11_reckoned_58 rfl rfl ?_
        refine s_goto (tgt := 10) A dX11_reckoned_61 (by decide) ?_
        exact z_wk (L' := [some (zR (some a0)), some (zI x1), some (zI x2), some (zI x3), some (zI (min 100 ((x4 * v8) / x3))), some (zI (x5 + 1)), none]) ⟨rfl, rfl, rfl, rfl, rfl, rfl, trivial⟩ h
      · have h := h.2 c7
        refine s_iconst A dX11_reckoned_33 ?_
        refine s_goto (tgt := 56) A dX11_reckoned_34 (by decide) ?_
        refine s_istore (L' := [some (zR (some a0)), some (zI x1), some (zI x2), some (zI x3), some (zI 0), some (zI x5), some (zI v3)]) A dX11_reckoned_56 (Nat.le_of_ble_eq_true rfl) rfl ?_
        refine s_iinc (L' := [some (zR (some a0)), some (zI x1), some (zI x2), some (zI x3), some (zI 0), some (zI (x5 + 1)), some (zI v3)]) A dX11_reckoned_58 rfl rfl ?_
        refine s_goto (tgt := 10) A dX11_reckoned_61 (by decide) ?_
        exact z_wk (L' := [some (zR (some a0)), some (zI x1), some (zI x2), some (zI x3), some (zI 0), some (zI (x5 + 1)), none]) ⟨rfl, rfl, rfl, rfl, rfl, rfl, trivial⟩ h
theorem eX11_reckoned {G : zG} {F : Int → zM → Prop} {μ : zM} {a0 : Nat} {x1 : Int} {x2 : Int} (h : ∀ J, zJ G true (8) 0 0 mX11_reckoned (zKI F) J → J 0 ([some (zR (some a0)), some (zI x1), some (zI x2), none, none, none, none], [], μ, 0, 0)) : qX11_reckoned G a0 x1 x2 μ F :=
  z_body (by decide +kernel) (Nat.le_of_ble_eq_true rfl) h
set_option maxRecDepth 20000 in
theorem rX11_lightOf_e {G : zG} {F : Int → zM → Prop} {J : Nat → zS → Prop} {μ : zM} (C : zJ G true (9) 0 0 mX11_lightOf (zKI F) J) {a0 n0 : Nat} (ha0 : zIsAr a0 n0) (hn0 : n0 < 2147483648) (x1 : Int) (x2 : Int)
    (h : qX11_isPlain G true x1 μ (fun v1 μ1 => zin v1 ∧ ((¬ v1 = 0 → (0 ≤ (3 * x1) + x2 ∧ (3 * x1) + x2 < (n0 : Int)) ∧ F (zi μ1 a0 ((3 * x1) + x2)) μ1) ∧ (v1 = 0 → (0 ≤ 243 + x1 ∧ 243 + x1 < (n0 : Int)) ∧ zin (zi μ1 a0 (243 + x1)) ∧ ((¬ zi μ1 a0 (243 + x1) = 1 → qX11_reckoned G a0 x1 x2 μ1 (fun v8 μ8 => F v8 μ8)) ∧ (zi μ1 a0 (243 + x1) = 1 → (0 ≤ (3 * x1) + x2 ∧ (3 * x1) + x2 < (n0 : Int)) ∧ F (zi μ1 a0 ((3 * x1) + x2)) μ1)))))) : J 0 ([some (zR (some a0)), some (zI x1), some (zI x2)], [], μ, 0, 0) := by
  obtain ⟨p, e, s, m, args, below, meth, c, A, hml, hr, hlk, hnm, rfl⟩ := C
  refine s_iload_n A dX11_lightOf_0 rfl ?_
  refine s_callS (M := mX11_isPlain) (n := 1) (d := 2) (mc := 0) (ms := 0) (av := [zI x1]) (st := []) A dX11_lightOf_1 zwd1511 zwd1512 zwd100 zcd_X11_isPlain (Nat.le_of_ble_eq_true rfl) (Nat.le_of_ble_eq_true rfl) (Nat.le_refl _) ⟨Nat.le_of_ble_eq_true rfl, Nat.le_of_ble_eq_true rfl⟩ zhn_X11_isPlain rfl (Nat.le_of_ble_eq_true rfl) rfl (z_contI (fun v1 μ1 h => ?_) h)
  obtain ⟨oz2, h⟩ := h
  refine z_if_ne (tgt := 18) A dX11_lightOf_4 (by decide) oz2 (fun c3 => ?_) (fun c3 => ?_)
  · have h := h.1 c3
    refine s_aload_n A dX11_lightOf_18 rfl ?_
    refine s_iconst A dX11_lightOf_19 ?_
    refine s_iload_n A dX11_lightOf_20 rfl ?_
    refine s_imul A dX11_lightOf_21 ?_
    refine s_iload_n A dX11_lightOf_22 rfl ?_
    refine s_iadd A dX11_lightOf_23 ?_
    obtain ⟨ox4, h⟩ := h
    refine z_iald A dX11_lightOf_24 (ha0.k _) hn0 ox4 ?_
    refine s_goto (tgt := 34) A dX11_lightOf_25 (by decide) ?_
    exact s_iret A dX11_lightOf_34 hr hlk (Nat.le_of_ble_eq_true rfl) (Nat.le_of_ble_eq_true rfl) ⟨_, rfl, h⟩
  · have h := h.2 c3
    refine s_aload_n A dX11_lightOf_7 rfl ?_
    refine s_sipush A dX11_lightOf_8 rfl ?_
    refine s_iload_n A dX11_lightOf_11 rfl ?_
    refine s_iadd A dX11_lightOf_12 ?_
    obtain ⟨ox5, h⟩ := h
    refine z_iald A dX11_lightOf_13 (ha0.k _) hn0 ox5 ?_
    refine s_iconst A dX11_lightOf_14 ?_
    obtain ⟨oz6, h⟩ := h
    refine z_icmp_ne (tgt := 28) A dX11_lightOf_15 (by decide) oz6 ⟨by decide, by decide⟩ (fun c7 => ?_) (fun c7 => ?_)
    · have h := h.1 c7
      refine s_aload_n A dX11_lightOf_28 rfl ?_
      refine s_iload_n A dX11_lightOf_29 rfl ?_
      refine s_iload_n A dX11_lightOf_30 rfl ?_
      refine s_callS (M := mX11_reckoned) (n := 3) (d := 8) (mc := 0) (ms := 0) (av := [zR (some a0), zI x1, zI x2]) (st := []) A dX11_lightOf_31 zwd1569 zwd1570 zwd100 zcd_X11_reckoned (Nat.le_of_ble_eq_true rfl) (Nat.le_of_ble_eq_true rfl) (Nat.le_refl _) ⟨Nat.le_of_ble_eq_true rfl, Nat.le_of_ble_eq_true rfl⟩ zhn_X11_reckoned rfl (Nat.le_of_ble_eq_true rfl) rfl (z_contI (fun v8 μ8 h => ?_) h)
      exact s_iret A dX11_lightOf_34 hr hlk (Nat.le_of_ble_eq_true rfl) (Nat.le_of_ble_eq_true rfl) ⟨_, rfl, h⟩
    · have h := h.2 c7
      refine s_aload_n A dX11_lightOf_18 rfl ?_
      refine s_iconst A dX11_lightOf_19 ?_
      refine s_iload_n A dX11_lightOf_20 rfl ?_
      refine s_imul A dX11_lightOf_21 ?_
      refine s_iload_n A dX11_lightOf_22 rfl ?_
      refine s_iadd A dX11_lightOf_23 ?_
      obtain ⟨ox9, h⟩ := h
      refine z_iald A dX11_lightOf_24 (ha0.k _) hn0 ox9 ?_
      refine s_goto (tgt := 34) A dX11_lightOf_25 (by decide) ?_
      exact s_iret A dX11_lightOf_34 hr hlk (Nat.le_of_ble_eq_true rfl) (Nat.le_of_ble_eq_true rfl) ⟨_, rfl, h⟩
theorem eX11_lightOf {G : zG} {F : Int → zM → Prop} {μ : zM} {a0 : Nat} {x1 : Int} {x2 : Int} (h : ∀ J, zJ G true (9) 0 0 mX11_lightOf (zKI F) J → J 0 ([some (zR (some a0)), some (zI x1), some (zI x2)], [], μ, 0, 0)) : qX11_lightOf G a0 x1 x2 μ F :=
  z_body (by decide +kernel) (Nat.le_of_ble_eq_true rfl) h
set_option maxRecDepth 20000 in
theorem rX11_light_e {G : zG} {F : Int → zM → Prop} {J : Nat → zS → Prop} {μ : zM} (C : zJ G true (10) 0 0 mX11_light (zKI F) J) (x1 : Int) (x2 : Int)
    (h : qX11_in G true x1 0 80 (zup μ 153 5 0) (fun v1 μ1 => zin v1 ∧ ((v1 = 0 → qX11_lost G μ1 (fun v4 μ4 => F v4 μ4)) ∧ (¬ (v1 = 0) → qX11_in G true x2 0 2 μ1 (fun v5 μ5 => zin v5 ∧ ((v5 = 0 → qX11_lost G μ5 (fun v8 μ8 => F v8 μ8)) ∧ (¬ (v5 = 0) → qX11_lightOf G 154 x1 x2 μ5 (fun v9 μ9 => F v9 μ9)))))))) : J 0 ([some (zR (some 153)), some (zI x1), some (zI x2)], [], μ, 0, 0) := by
  obtain ⟨p, e, s, m, args, below, meth, c, A, hml, hr, hlk, hnm, rfl⟩ := C
  refine s_aload_n A dX11_light_0 rfl ?_
  refine s_iconst A dX11_light_1 ?_
  refine z_putI (k := 11) (j := 5) (sl := true) A dX11_light_2 rfl zuw_X11 (Nat.le_of_ble_eq_true rfl) zwd1313 (by decide) (zk_153 _) tyX11 tyX11_ok nmX11 rfl rfl rfl ?_
  refine s_iload_n A dX11_light_5 rfl ?_
  refine s_iconst A dX11_light_6 ?_
  refine s_bipush A dX11_light_7 rfl ?_
  refine s_callS (M := mX11_in) (n := 3) (d := 0) (mc := 0) (ms := 0) (av := [zI x1, zI 0, zI 80]) (st := []) A dX11_light_9 zwd1456 zwd1457 zwd100 zcd_X11_in (Nat.le_of_ble_eq_true rfl) (Nat.le_of_ble_eq_true rfl) (Nat.le_refl _) ⟨Nat.le_of_ble_eq_true rfl, Nat.le_of_ble_eq_true rfl⟩ zhn_X11_in rfl (Nat.le_of_ble_eq_true rfl) rfl (z_contI (fun v1 μ1 h => ?_) h)
  obtain ⟨oz2, h⟩ := h
  refine z_if_eq (tgt := 36) A dX11_light_12 (by decide) oz2 (fun c3 => ?_) (fun c3 => ?_)
  · have h := h.1 c3
    refine s_aload_n A dX11_light_36 rfl ?_
    refine s_callV (a := 153) (k := 11) (N := 45) (sl := true) (M := mX11_lost) (n := 0) (d := 0) (mc := 0) (ms := 0) (av := []) (st := []) A dX11_light_37 rfl (by decide) (zk_153 _) zwd1576 zwd1578 zwd47 zwd100 zcd_X11_lost (Nat.le_of_ble_eq_true rfl) (Nat.le_of_ble_eq_true rfl) (Nat.le_refl _) ⟨Nat.le_of_ble_eq_true rfl, Nat.le_of_ble_eq_true rfl⟩ ⟨rfl, zhn_X11_lost⟩ rfl (Nat.le_of_ble_eq_true rfl) rfl (z_contI (fun v4 μ4 h => ?_) h)
    exact s_iret A dX11_light_40 hr hlk (Nat.le_of_ble_eq_true rfl) (Nat.le_of_ble_eq_true rfl) ⟨_, rfl, h⟩
  · have h := h.2 c3
    refine s_iload_n A dX11_light_15 rfl ?_
    refine s_iconst A dX11_light_16 ?_
    refine s_iconst A dX11_light_17 ?_
    refine s_callS (M := mX11_in) (n := 3) (d := 0) (mc := 0) (ms := 0) (av := [zI x2, zI 0, zI 2]) (st := []) A dX11_light_18 zwd1456 zwd1457 zwd100 zcd_X11_in (Nat.le_of_ble_eq_true rfl) (Nat.le_of_ble_eq_true rfl) (Nat.le_refl _) ⟨Nat.le_of_ble_eq_true rfl, Nat.le_of_ble_eq_true rfl⟩ zhn_X11_in rfl (Nat.le_of_ble_eq_true rfl) rfl (z_contI (fun v5 μ5 h => ?_) h)
    obtain ⟨oz6, h⟩ := h
    refine z_if_eq (tgt := 36) A dX11_light_21 (by decide) oz6 (fun c7 => ?_) (fun c7 => ?_)
    · have h := h.1 c7
      refine s_aload_n A dX11_light_36 rfl ?_
      refine s_callV (a := 153) (k := 11) (N := 45) (sl := true) (M := mX11_lost) (n := 0) (d := 0) (mc := 0) (ms := 0) (av := []) (st := []) A dX11_light_37 rfl (by decide) (zk_153 _) zwd1576 zwd1578 zwd47 zwd100 zcd_X11_lost (Nat.le_of_ble_eq_true rfl) (Nat.le_of_ble_eq_true rfl) (Nat.le_refl _) ⟨Nat.le_of_ble_eq_true rfl, Nat.le_of_ble_eq_true rfl⟩ ⟨rfl, zhn_X11_lost⟩ rfl (Nat.le_of_ble_eq_true rfl) rfl (z_contI (fun v8 μ8 h => ?_) h)
      exact s_iret A dX11_light_40 hr hlk (Nat.le_of_ble_eq_true rfl) (Nat.le_of_ble_eq_true rfl) ⟨_, rfl, h⟩
    · have h := h.2 c7
      refine s_aload_n A dX11_light_24 rfl ?_
      refine s_getf (k := 11) (j := 0) (sl := true) (v := zR (some 154)) A dX11_light_25 rfl zuw_X11 (Nat.le_of_ble_eq_true rfl) zwd1308 (by decide) (zk_153 _) rfl ?_
      refine s_iload_n A dX11_light_28 rfl ?_
      refine s_iload_n A dX11_light_29 rfl ?_
      refine s_callS (M := mX11_lightOf) (n := 3) (d := 9) (mc := 0) (ms := 0) (av := [zR (some 154), zI x1, zI x2]) (st := []) A dX11_light_30 zwd1566 zwd1567 zwd100 zcd_X11_lightOf (Nat.le_of_ble_eq_true rfl) (Nat.le_of_ble_eq_true rfl) (Nat.le_refl _) ⟨Nat.le_of_ble_eq_true rfl, Nat.le_of_ble_eq_true rfl⟩ zhn_X11_lightOf rfl (Nat.le_of_ble_eq_true rfl) rfl (z_contI (fun v9 μ9 h => ?_) h)
      refine s_goto (tgt := 40) A dX11_light_33 (by decide) ?_
      exact s_iret A dX11_light_40 hr hlk (Nat.le_of_ble_eq_true rfl) (Nat.le_of_ble_eq_true rfl) ⟨_, rfl, h⟩
theorem eX11_light {G : zG} {F : Int → zM → Prop} {μ : zM} {x1 : Int} {x2 : Int} (h : ∀ J, zJ G true (10) 0 0 mX11_light (zKI F) J → J 0 ([some (zR (some 153)), some (zI x1), some (zI x2)], [], μ, 0, 0)) : qX11_light G x1 x2 μ F :=
  z_body (by decide +kernel) (Nat.le_of_ble_eq_true rfl) h
set_option maxRecDepth 20000 in
theorem rX11_bent_e {G : zG} {F : Int → zM → Prop} {J : Nat → zS → Prop} {μ : zM} (C : zJ G true (3) 0 0 mX11_bent (zKI F) J) (x1 : Int) (x2 : Int)
    (h : qX11_isInk G true x1 (zup μ 153 5 0) (fun v1 μ1 => zin v1 ∧ ((v1 = 0 → qX11_lost G μ1 (fun v4 μ4 => F v4 μ4)) ∧ (¬ (v1 = 0) → qX11_in G true x2 0 8 μ1 (fun v5 μ5 => zin v5 ∧ ((v5 = 0 → qX11_lost G μ5 (fun v8 μ8 => F v8 μ8)) ∧ (¬ (v5 = 0) → (0 ≤ (324 + (9 * x1)) + x2 ∧ (324 + (9 * x1)) + x2 < 711) ∧ F (zi μ5 154 ((324 + (9 * x1)) + x2)) μ5))))))) : J 0 ([some (zR (some 153)), some (zI x1), some (zI x2)], [], μ, 0, 0) := by
  obtain ⟨p, e, s, m, args, below, meth, c, A, hml, hr, hlk, hnm, rfl⟩ := C
  refine s_aload_n A dX11_bent_0 rfl ?_
  refine s_iconst A dX11_bent_1 ?_
  refine z_putI (k := 11) (j := 5) (sl := true) A dX11_bent_2 rfl zuw_X11 (Nat.le_of_ble_eq_true rfl) zwd1313 (by decide) (zk_153 _) tyX11 tyX11_ok nmX11 rfl rfl rfl ?_
  refine s_iload_n A dX11_bent_5 rfl ?_
  refine s_callS (M := mX11_isInk) (n := 1) (d := 2) (mc := 0) (ms := 0) (av := [zI x1]) (st := []) A dX11_bent_6 zwd1521 zwd1522 zwd100 zcd_X11_isInk (Nat.le_of_ble_eq_true rfl) (Nat.le_of_ble_eq_true rfl) (Nat.le_refl _) ⟨Nat.le_of_ble_eq_true rfl, Nat.le_of_ble_eq_true rfl⟩ zhn_X11_isInk rfl (Nat.le_of_ble_eq_true rfl) rfl (z_contI (fun v1 μ1 h => ?_) h)
  obtain ⟨oz2, h⟩ := h
  refine z_if_eq (tgt := 40) A dX11_bent_9 (by decide) oz2 (fun c3 => ?_) (fun c3 => ?_)
  · have h := h.1 c3
    refine s_aload_n A dX11_bent_40 rfl ?_
    refine s_callV (a := 153) (k := 11) (N := 45) (sl := true) (M := mX11_lost) (n := 0) (d := 0) (mc := 0) (ms := 0) (av := []) (st := []) A dX11_bent_41 rfl (by decide) (zk_153 _) zwd1576 zwd1578 zwd47 zwd100 zcd_X11_lost (Nat.le_of_ble_eq_true rfl) (Nat.le_of_ble_eq_true rfl) (Nat.le_refl _) ⟨Nat.le_of_ble_eq_true rfl, Nat.le_of_ble_eq_true rfl⟩ ⟨rfl, zhn_X11_lost⟩ rfl (Nat.le_of_ble_eq_true rfl) rfl (z_contI (fun v4 μ4 h => ?_) h)
    exact s_iret A dX11_bent_44 hr hlk (Nat.le_of_ble_eq_true rfl) (Nat.le_of_ble_eq_true rfl) ⟨_, rfl, h⟩
  · have h := h.2 c3
    refine s_iload_n A dX11_bent_12 rfl ?_
    refine s_iconst A dX11_bent_13 ?_
    refine s_bipush A dX11_bent_14 rfl ?_
    refine s_callS (M := mX11_in) (n := 3) (d := 0) (mc := 0) (ms := 0) (av := [zI x2, zI 0, zI 8]) (st := []) A dX11_bent_16 zwd1456 zwd1457 zwd100 zcd_X11_in (Nat.le_of_ble_eq_true rfl) (Nat.le_of_ble_eq_true rfl) (Nat.le_refl _) ⟨Nat.le_of_ble_eq_true rfl, Nat.le_of_ble_eq_true rfl⟩ zhn_X11_in rfl (Nat.le_of_ble_eq_true rfl) rfl (z_contI (fun v5 μ5 h => ?_) h)
    obtain ⟨oz6, h⟩ := h
    refine z_if_eq (tgt := 40) A dX11_bent_19 (by decide) oz6 (fun c7 => ?_) (fun c7 => ?_)
    · have h := h.1 c7
      refine s_aload_n A dX11_bent_40 rfl ?_
      refine s_callV (a := 153) (k := 11) (N := 45) (sl := true) (M := mX11_lost) (n := 0) (d := 0) (mc := 0) (ms := 0) (av := []) (st := []) A dX11_bent_41 rfl (by decide) (zk_153 _) zwd1576 zwd1578 zwd47 zwd100 zcd_X11_lost (Nat.le_of_ble_eq_true rfl) (Nat.le_of_ble_eq_true rfl) (Nat.le_refl _) ⟨Nat.le_of_ble_eq_true rfl, Nat.le_of_ble_eq_true rfl⟩ ⟨rfl, zhn_X11_lost⟩ rfl (Nat.le_of_ble_eq_true rfl) rfl (z_contI (fun v8 μ8 h => ?_) h)
      exact s_iret A dX11_bent_44 hr hlk (Nat.le_of_ble_eq_true rfl) (Nat.le_of_ble_eq_true rfl) ⟨_, rfl, h⟩
    · have h := h.2 c7
      refine s_aload_n A dX11_bent_22 rfl ?_
      refine s_getf (k := 11) (j := 0) (sl := true) (v := zR (some 154)) A dX11_bent_23 rfl zuw_X11 (Nat.le_of_ble_eq_true rfl) zwd1308 (by decide) (zk_153 _) rfl ?_
      refine s_sipush A dX11_bent_26 rfl ?_
      refine s_bipush A dX11_bent_29 rfl ?_
      refine s_iload_n A dX11_bent_31 rfl ?_
      refine s_imul A dX11_bent_32 ?_
      refine s_iadd A dX11_bent_33 ?_
      refine s_iload_n A dX11_bent_34 rfl ?_
      refine s_iadd A dX11_bent_35 ?_
      obtain ⟨ox9, h⟩ := h
      refine z_iald A dX11_bent_36 (zk_154 _) (Nat.le_of_ble_eq_true rfl) ox9 ?_
      refine s_goto (tgt := 44) A dX11_bent_37 (by decide) ?_
      exact s_iret A dX11_bent_44 hr hlk (Nat.le_of_ble_eq_true rfl) (Nat.le_of_ble_eq_true rfl) ⟨_, rfl, h⟩
theorem eX11_bent {G : zG} {F : Int → zM → Prop} {μ : zM} {x1 : Int} {x2 : Int} (h : ∀ J, zJ G true (3) 0 0 mX11_bent (zKI F) J → J 0 ([some (zR (some 153)), some (zI x1), some (zI x2)], [], μ, 0, 0)) : qX11_bent G x1 x2 μ F :=
  z_body (by decide +kernel) (Nat.le_of_ble_eq_true rfl) h
set_option maxRecDepth 20000 in
theorem rX11_sheet_e {G : zG} {F : Int → zM → Prop} {J : Nat → zS → Prop} {μ : zM} (C : zJ G true (8) 0 0 mX11_sheet (zKI F) J) (x1 : Int) (x2 : Int) (x3 : Int) (x4 : Int)
    (h : qX11_in G true x1 0 3 (zup μ 153 5 0) (fun v1 μ1 => zin v1 ∧ ((v1 = 0 → F (-1) μ1) ∧ (¬ (v1 = 0) → zin x2 ∧ zin (9 * 3) ∧ ((x2 ≤ 9 * 3 → zin x1 ∧ ((3 ≤ x1 → J 47 ([some (zR (some 153)), some (zI x1), some (zI x2), none, some (zI x4), some (zI x3), some (zI 0), some (zI 0), none, none], [], μ1, 0, 0)) ∧ (¬ (3 ≤ x1) → ((0 ≤ x2 → J 47 ([some (zR (some 153)), some (zI x1), some (zI x2), none, some (zI x4), some (zI x3), some (zI 0), some (zI 0), none, none], [], μ1, 0, 0)) ∧ (¬ (0 ≤ x2) → F (-2) μ1))))) ∧ (¬ (x2 ≤ 9 * 3) → F (-1) μ1)))))) : J 0 ([some (zR (some 153)), some (zI x1), some (zI x2), some (zI x3), some (zI x4), none, none, none, none, none], [], μ, 0, 0) := by
  obtain ⟨p, e, s, m, args, below, meth, c, A, hml, hr, hlk, hnm, rfl⟩ := C
  refine s_aload_n A dX11_sheet_0 rfl ?_
  refine s_iconst A dX11_sheet_1 ?_
  refine z_putI (k := 11) (j := 5) (sl := true) A dX11_sheet_2 rfl zuw_X11 (Nat.le_of_ble_eq_true rfl) zwd1313 (by decide) (zk_153 _) tyX11 tyX11_ok nmX11 rfl rfl rfl ?_
  refine s_iload_n A dX11_sheet_5 rfl ?_
  refine s_iconst A dX11_sheet_6 ?_
  refine s_iconst A dX11_sheet_7 ?_
  refine s_callS (M := mX11_in) (n := 3) (d := 0) (mc := 0) (ms := 0) (av := [zI x1, zI 0, zI 3]) (st := []) A dX11_sheet_8 zwd1456 zwd1457 zwd100 zcd_X11_in (Nat.le_of_ble_eq_true rfl) (Nat.le_of_ble_eq_true rfl) (Nat.le_refl _) ⟨Nat.le_of_ble_eq_true rfl, Nat.le_of_ble_eq_true rfl⟩ zhn_X11_in rfl (Nat.le_of_ble_eq_true rfl) rfl (z_contI (fun v1 μ1 h => ?_) h)
  obtain ⟨oz2, h⟩ := h
  refine z_if_eq (tgt := 24) A dX11_sheet_11 (by decide) oz2 (fun c3 => ?_) (fun c3 => ?_)
  · have h := h.1 c3
    refine s_iconst A dX11_sheet_24 ?_
    exact s_iret A dX11_sheet_25 hr hlk (Nat.le_of_ble_eq_true rfl) (Nat.le_of_ble_eq_true rfl) ⟨_, rfl, h⟩
  · have h := h.2 c3
    refine s_iload_n A dX11_sheet_14 rfl ?_
    refine s_getsT (t := 9) A dX11_sheet_15 (by decide) zwd1588 ?_
    refine s_tlen A dX11_sheet_18 (by decide) ?_
    refine s_iconst A dX11_sheet_19 ?_
    refine s_imul A dX11_sheet_20 ?_
    obtain ⟨oz4, h⟩ := h
    obtain ⟨oz5, h⟩ := h
    refine z_icmp_le (tgt := 26) A dX11_sheet_21 (by decide) oz4 oz5 (fun c6 => ?_) (fun c6 => ?_)
    · have h := h.1 c6
      refine s_iload_n A dX11_sheet_26 rfl ?_
      refine s_iconst A dX11_sheet_27 ?_
      obtain ⟨oz7, h⟩ := h
      refine z_icmp_ge (tgt := 38) A dX11_sheet_28 (by decide) oz7 ⟨by decide, by decide⟩ (fun c8 => ?_) (fun c8 => ?_)
      · have h := h.1 c8
        refine s_iload_n A dX11_sheet_38 rfl ?_
        refine s_istore (L' := [some (zR (some 153)), some (zI x1), some (zI x2), some (zI x3), some (zI x4), some (zI x3), none, none, none, none]) A dX11_sheet_39 (Nat.le_of_ble_eq_true rfl) rfl ?_
        refine s_iconst A dX11_sheet_41 ?_
        refine s_istore (L' := [some (zR (some 153)), some (zI x1), some (zI x2), some (zI x3), some (zI x4), some (zI x3), some (zI 0), none, none, none]) A dX11_sheet_42 (Nat.le_of_ble_eq_true rfl) rfl ?_
        refine s_iconst A dX11_sheet_44 ?_
        refine s_istore (L' := [some (zR (some 153)), some (zI x1), some (zI x2), some (zI x3), some (zI x4), some (zI x3), some (zI 0), some (zI 0), none, none]) A dX11_sheet_45 (Nat.le_of_ble_eq_true rfl) rfl ?_
        exact z_wk (L' := [some (zR (some 153)), some (zI x1), some (zI x2), none, some (zI x4), some (zI x3), some (zI 0), some (zI 0), none, none]) ⟨rfl, rfl, rfl, rfl, rfl, rfl, rfl, trivial⟩ h
      · have h := h.2 c8
        refine s_iload_n A dX11_sheet_31 rfl ?_
        refine z_if_ge (tgt := 38) A dX11_sheet_32 (by decide) oz4 (fun c9 => ?_) (fun c9 => ?_)
        · have h := h.1 c9
          refine s_iload_n A dX11_sheet_38 rfl ?_
          refine s_istore (L' := [some (zR (some 153)), some (zI x1), some (zI x2), some (zI x3), some (zI x4), some (zI x3), none, none, none, none]) A dX11_sheet_39 (Nat.le_of_ble_eq_true rfl) rfl ?_
          refine s_iconst A dX11_sheet_41 ?_
          refine s_istore (L' := [some (zR (some 153)), some (zI x1), some (zI x2), some (zI x3), some (zI x4), some (zI x3), some (zI 0), none, none, none]) A dX11_sheet_42 (Nat.le_of_ble_eq_true rfl) rfl ?_
          refine s_iconst A dX11_sheet_44 ?_
          refine s_istore (L' := [some (zR (some 153)), some (zI x1), some (zI x2), some (zI x3), some (zI x4), some (zI x3), some (zI 0), some (zI 0), none, none]) A dX11_sheet_45 (Nat.le_of_ble_eq_true rfl) rfl ?_
          exact z_wk (L' := [some (zR (some 153)), some (zI x1), some (zI x2), none, some (zI x4), some (zI x3), some (zI 0), some (zI 0), none, none]) ⟨rfl, rfl, rfl, rfl, rfl, rfl, rfl, trivial⟩ h
        · have h := h.2 c9
          refine s_bipush A dX11_sheet_35 rfl ?_
          exact s_iret A dX11_sheet_37 hr hlk (Nat.le_of_ble_eq_true rfl) (Nat.le_of_ble_eq_true rfl) ⟨_, rfl, h⟩
    · have h := h.2 c6
      refine s_iconst A dX11_sheet_24 ?_
      exact s_iret A dX11_sheet_25 hr hlk (Nat.le_of_ble_eq_true rfl) (Nat.le_of_ble_eq_true rfl) ⟨_, rfl, h⟩
set_option maxRecDepth 20000 in
theorem rX11_sheet_47 {G : zG} {F : Int → zM → Prop} {J : Nat → zS → Prop} {μ : zM} (C : zJ G true (8) 0 0 mX11_sheet (zKI F) J) (x1 : Int) (x2 : Int) (x4 : Int) (x5 : Int) (x6 : Int) (x7 : Int)
    (h : zin x7 ∧ zin (9 * 3) ∧ ((9 * 3 ≤ x7 → zin x1 ∧ ((¬ x1 = 3 → F x6 μ) ∧ (x1 = 3 → F (-3) μ))) ∧ (¬ (9 * 3 ≤ x7) → zin x1 ∧ ((¬ x1 = 0 → ((¬ x1 = 1 → J 81 ([some (zR (some 153)), some (zI x1), some (zI x2), none, some (zI x4), some (zI x5), some (zI x6), some (zI x7), none, none], [zI x5], μ, 0, 0)) ∧ (x1 = 1 → J 81 ([some (zR (some 153)), some (zI x1), some (zI x2), none, some (zI x4), some (zI x5), some (zI x6), some (zI x7), none, none], [zI (zsh x5)], μ, 0, 0)))) ∧ (x1 = 0 → J 81 ([some (zR (some 153)), some (zI x1), some (zI x2), none, some (zI x4), some (zI x5), some (zI x6), some (zI x7), none, none], [zI (zb x5)], μ, 0, 0)))))) : J 47 ([some (zR (some 153)), some (zI x1), some (zI x2), none, some (zI x4), some (zI x5), some (zI x6), some (zI x7), none, none], [], μ, 0, 0) := by
  obtain ⟨p, e, s, m, args, below, meth, c, A, hml, hr, hlk, hnm, rfl⟩ := C
  refine s_iload A dX11_sheet_47 rfl ?_
  refine s_getsT (t := 9) A dX11_sheet_49 (by decide) zwd1588 ?_
  refine s_tlen A dX11_sheet_52 (by decide) ?_
  refine s_iconst A dX11_sheet_53 ?_
  refine s_imul A dX11_sheet_54 ?_
  obtain ⟨oz1, h⟩ := h
  obtain ⟨oz2, h⟩ := h
  refine z_icmp_ge (tgt := 154) A dX11_sheet_55 (by decide) oz1 oz2 (fun c3 => ?_) (fun c3 => ?_)
  · have h := h.1 c3
    refine s_iload_n A dX11_sheet_154 rfl ?_
    refine s_iconst A dX11_sheet_155 ?_
    obtain ⟨oz4, h⟩ := h
    refine z_icmp_ne (tgt := 164) A dX11_sheet_156 (by decide) oz4 ⟨by decide, by decide⟩ (fun c5 => ?_) (fun c5 => ?_)
    · have h := h.1 c5
      refine s_iload A dX11_sheet_164 rfl ?_
      exact s_iret A dX11_sheet_166 hr hlk (Nat.le_of_ble_eq_true rfl) (Nat.le_of_ble_eq_true rfl) ⟨_, rfl, h⟩
    · have h := h.2 c5
      refine s_bipush A dX11_sheet_159 rfl ?_
      refine s_goto (tgt := 166) A dX11_sheet_161 (by decide) ?_
      exact s_iret A dX11_sheet_166 hr hlk (Nat.le_of_ble_eq_true rfl) (Nat.le_of_ble_eq_true rfl) ⟨_, rfl, h⟩
  · have h := h.2 c3
    refine s_iload_n A dX11_sheet_58 rfl ?_
    obtain ⟨oz6, h⟩ := h
    refine z_if_ne (tgt := 68) A dX11_sheet_59 (by decide) oz6 (fun c7 => ?_) (fun c7 => ?_)
    · have h := h.1 c7
      refine s_iload_n A dX11_sheet_68 rfl ?_
      refine s_iconst A dX11_sheet_69 ?_
      refine z_icmp_ne (tgt := 79) A dX11_sheet_70 (by decide) oz6 ⟨by decide, by decide⟩ (fun c8 => ?_) (fun c8 => ?_)
      · have h := h.1 c8
        refine s_iload A dX11_sheet_79 rfl ?_
        exact h
      · have h := h.2 c8
        refine s_iload A dX11_sheet_73 rfl ?_
        refine s_i2s A dX11_sheet_75 ?_
        refine s_goto (tgt := 81) A dX11_sheet_76 (by decide) ?_
        exact h
    · have h := h.2 c7
      refine s_iload A dX11_sheet_62 rfl ?_
      refine s_i2b A dX11_sheet_64 ?_
      refine s_goto (tgt := 81) A dX11_sheet_65 (by decide) ?_
      exact h
set_option maxRecDepth 20000 in
theorem rX11_sheet_81 {G : zG} {F : Int → zM → Prop} {J : Nat → zS → Prop} {μ : zM} (C : zJ G true (8) 0 0 mX11_sheet (zKI F) J) (x1 : Int) (x2 : Int) (x4 : Int) (x5 : Int) (x6 : Int) (x7 : Int) (xs0 : Int)
    (h : zin x1 ∧ ((x1 = 3 → (0 ≤ x7 ∧ x7 < 2147483648) ∧ (0 ≤ x7 / 3 ∧ x7 / 3 < 9) ∧ (0 ≤ x7 ∧ x7 < 2147483648) ∧ (0 ≤ (3 * (zta 9 (x7 / 3))) + (x7 % 3) ∧ (3 * (zta 9 (x7 / 3))) + (x7 % 3) < 711) ∧ J 47 ([some (zR (some 153)), some (zI x1), some (zI x2), none, some (zI x4), some (zI (x5 + x4)), some (zI (x6 + 100)), some (zI (x7 + 1)), none, none], [], zup μ 154 ((3 * (zta 9 (x7 / 3))) + (x7 % 3)) 100, 0, 0)) ∧ (¬ (x1 = 3) → zin x7 ∧ zin x2 ∧ ((x7 < x2 → zin xs0 ∧ zin (min 100 xs0) ∧ (0 ≤ x7 ∧ x7 < 2147483648) ∧ (0 ≤ x7 / 3 ∧ x7 / 3 < 9) ∧ (0 ≤ x7 ∧ x7 < 2147483648) ∧ (0 ≤ (3 * (zta 9 (x7 / 3))) + (x7 % 3) ∧ (3 * (zta 9 (x7 / 3))) + (x7 % 3) < 711) ∧ J 47 ([some (zR (some 153)), some (zI x1), some (zI x2), none, some (zI x4), some (zI (x5 + x4)), some (zI (x6 + (max 0 (min 100 xs0)))), some (zI (x7 + 1)), none, none], [], zup μ 154 ((3 * (zta 9 (x7 / 3))) + (x7 % 3)) (max 0 (min 100 xs0)), 0, 0)) ∧ (¬ (x7 < x2) → (0 ≤ x7 ∧ x7 < 2147483648) ∧ (0 ≤ x7 / 3 ∧ x7 / 3 < 9) ∧ (0 ≤ x7 ∧ x7 < 2147483648) ∧ (0 ≤ (3 * (zta 9 (x7 / 3))) + (x7 % 3) ∧ (3 * (zta 9 (x7 / 3))) + (x7 % 3) < 711) ∧ J 47 ([some (zR (some 153)), some (zI x1), some (zI x2), none, some (zI x4), some (zI (x5 + x4)), some (zI (x6 + 100)), some (zI (x7 + 1)), none, none], [], zup μ 154 ((3 * (zta 9 (x7 / 3))) + (x7 % 3)) 100, 0, 0)))))) : J 81 ([some (zR (some 153)), some (zI x1), some (zI x2), none, some (zI x4), some (zI x5), some (zI x6), some (zI x7), none, none], [zI xs0], μ, 0, 0) := by
  obtain ⟨p, e, s, m, args, below, meth, c, A, hml, hr, hlk, hnm, rfl⟩ := C
  refine s_istore (L' := [some (zR (some 153)), some (zI x1), some (zI x2), none, some (zI x4), some (zI x5), some (zI x6), some (zI x7), some (zI xs0), none]) A dX11_sheet_81 (Nat.le_of_ble_eq_true rfl) rfl ?_
  refine s_iload_n A dX11_sheet_83 rfl ?_
  refine s_iconst A dX11_sheet_84 ?_
  obtain ⟨oz1, h⟩ := h
  refine z_icmp_eq (tgt := 94) A dX11_sheet_85 (by decide) oz1 ⟨by decide, by decide⟩ (fun c2 => ?_) (fun c2 => ?_)
  · have h := h.1 c2
    refine s_bipush A dX11_sheet_94 rfl ?_
    refine s_goto (tgt := 110) A dX11_sheet_96 (by decide) ?_
    refine s_istore (L' := [some (zR (some 153)), some (zI x1), some (zI x2), none, some (zI x4), some (zI x5), some (zI x6), some (zI x7), some (zI xs0), some (zI 100)]) A dX11_sheet_110 (Nat.le_of_ble_eq_true rfl) rfl ?_
    refine s_aload_n A dX11_sheet_112 rfl ?_
    refine s_getf (k := 11) (j := 0) (sl := true) (v := zR (some 154)) A dX11_sheet_113 rfl zuw_X11 (Nat.le_of_ble_eq_true rfl) zwd1308 (by decide) (zk_153 _) rfl ?_
    refine s_iconst A dX11_sheet_116 ?_
    refine s_getsT (t := 9) A dX11_sheet_117 (by decide) zwd1588 ?_
    refine s_iload A dX11_sheet_120 rfl ?_
    refine s_iconst A dX11_sheet_122 ?_
    obtain ⟨o1, h⟩ := h
    refine z_idiv A dX11_sheet_123 o1 ⟨by decide, by decide⟩ ?_
    obtain ⟨ox3, h⟩ := h
    refine z_tald A dX11_sheet_124 (by decide) (Nat.le_of_ble_eq_true rfl) ox3 ?_
    refine s_imul A dX11_sheet_125 ?_
    refine s_iload A dX11_sheet_126 rfl ?_
    refine s_iconst A dX11_sheet_128 ?_
    obtain ⟨o1, h⟩ := h
    refine z_irem A dX11_sheet_129 o1 ⟨by decide, by decide⟩ ?_
    refine s_iadd A dX11_sheet_130 ?_
    refine s_iload A dX11_sheet_131 rfl ?_
    obtain ⟨ox4, h⟩ := h
    refine z_iast A dX11_sheet_133 (zk_154 _) (Nat.le_of_ble_eq_true rfl) ox4 ?_
    refine s_iload A dX11_sheet_134 rfl ?_
    refine s_iload A dX11_sheet_136 rfl ?_
    refine s_iadd A dX11_sheet_138 ?_
    refine s_istore (L' := [some (zR (some 153)), some (zI x1), some (zI x2), none, some (zI x4), some (zI x5), some (zI (x6 + 100)), some (zI x7), some (zI xs0), some (zI 100)]) A dX11_sheet_139 (Nat.le_of_ble_eq_true rfl) rfl ?_
    refine s_iload A dX11_sheet_141 rfl ?_
    refine s_iload A dX11_sheet_143 rfl ?_
    refine s_iadd A dX11_sheet_145 ?_
    refine s_istore (L' := [some (zR (some 153)), some (zI x1), some (zI x2), none, some (zI x4), some (zI (x5 + x4)), some (zI (x6 + 100)), some (zI x7), some (zI xs0), some (zI 100)]) A dX11_sheet_146 (Nat.le_of_ble_eq_true rfl) rfl ?_
    refine s_iinc (L' := [some (zR (some 153)), some (zI x1), some (zI x2), none, some (zI x4), some (zI (x5 + x4)), some (zI (x6 + 100)), some (zI (x7 + 1)), some (zI xs0), some (zI 100)]) A dX11_sheet_148 rfl rfl ?_
    refine s_goto (tgt := 47) A dX11_sheet_151 (by decide) ?_
    exact z_wk (L' := [some (zR (some 153)), some (zI x1), some (zI x2), none, some (zI x4), some (zI (x5 + x4)), some (zI (x6 + 100)), some (zI (x7 + 1)), none, none]) ⟨rfl, rfl, rfl, rfl, rfl, rfl, rfl, trivial⟩ h
  · have h := h.2 c2
    refine s_iload A dX11_sheet_88 rfl ?_
    refine s_iload_n A dX11_sheet_90 rfl ?_
    obtain ⟨oz5, h⟩ := h
    obtain ⟨oz6, h⟩ := h
    refine z_icmp_lt (tgt := 99) A dX11_sheet_91 (by decide) oz5 oz6 (fun c7 => ?_) (fun c7 => ?_)
    · have h := h.1 c7
      refine s_iconst A dX11_sheet_99 ?_
      refine s_bipush A dX11_sheet_100 rfl ?_
      refine s_iload A dX11_sheet_102 rfl ?_
      obtain ⟨oz8, h⟩ := h
      refine z_mmin A dX11_sheet_104 zwd1575 zwd509 zwd105 zwd510 (Nat.le_of_ble_eq_true rfl) (Nat.le_of_ble_eq_true rfl) ⟨Nat.le_of_ble_eq_true rfl, Nat.le_of_ble_eq_true rfl⟩ ⟨by decide, by decide⟩ oz8 ?_
      obtain ⟨oz9, h⟩ := h
      refine z_mmax A dX11_sheet_107 zwd1590 zwd506 zwd105 zwd507 (Nat.le_of_ble_eq_true rfl) (Nat.le_of_ble_eq_true rfl) ⟨Nat.le_of_ble_eq_true rfl, Nat.le_of_ble_eq_true rfl⟩ ⟨by decide, by decide⟩ oz9 ?_
      refine s_istore (L' := [some (zR (some 153)), some (zI x1), some (zI x2), none, some (zI x4), some (zI x5), some (zI x6), some (zI x7), some (zI xs0), some (zI (max 0 (min 100 xs0)))]) A dX11_sheet_110 (Nat.le_of_ble_eq_true rfl) rfl ?_
      refine s_aload_n A dX11_sheet_112 rfl ?_
      refine s_getf (k := 11) (j := 0) (sl := true) (v := zR (some 154)) A dX11_sheet_113 rfl zuw_X11 (Nat.le_of_ble_eq_true rfl) zwd1308 (by decide) (zk_153 _) rfl ?_
      refine s_iconst A dX11_sheet_116 ?_
      refine s_getsT (t := 9) A dX11_sheet_117 (by decide) zwd1588 ?_
      refine s_iload A dX11_sheet_120 rfl ?_
      refine s_iconst A dX11_sheet_122 ?_
      obtain ⟨o1, h⟩ := h
      refine z_idiv A dX11_sheet_123 o1 ⟨by decide, by decide⟩ ?_
      obtain ⟨ox10, h⟩ := h
      refine z_tald A dX11_sheet_124 (by decide) (Nat.le_of_ble_eq_true rfl) ox10 ?_
      refine s_imul A dX11_sheet_125 ?_
      refine s_iload A dX11_sheet_126 rfl ?_
      refine s_iconst A dX11_sheet_128 ?_
      obtain ⟨o1, h⟩ := h
      refine z_irem A dX11_sheet_129 o1 ⟨by decide, by decide⟩ ?_
      refine s_iadd A dX11_sheet_130 ?_
      refine s_iload A dX11_sheet_131 rfl ?_
      obtain ⟨ox11, h⟩ := h
      refine z_iast A dX11_sheet_133 (zk_154 _) (Nat.le_of_ble_eq_true rfl) ox11 ?_
      refine s_iload A dX11_sheet_134 rfl ?_
      refine s_iload A dX11_sheet_136 rfl ?_
      refine s_iadd A dX11_sheet_138 ?_
      refine s_istore (L' := [some (zR (some 153)), some (zI x1), some (zI x2), none, some (zI x4), some (zI x5), some (zI (x6 + (max 0 (min 100 xs0)))), some (zI x7), some (zI xs0), some (zI (max 0 (min 100 xs0)))]) A dX11_sheet_139 (Nat.le_of_ble_eq_true rfl) rfl ?_
      refine s_iload A dX11_sheet_141 rfl ?_
      refine s_iload A dX11_sheet_143 rfl ?_
      refine s_iadd A dX11_sheet_145 ?_
      refine s_istore (L' := [some (zR (some 153)), some (zI x1), some (zI x2), none, some (zI x4), some (zI (x5 + x4)), some (zI (x6 + (max 0 (min 100 xs0)))), some (zI x7), some (zI xs0), some (zI (max 0 (min 100 xs0)))]) A dX11_sheet_146 (Nat.le_of_ble_eq_true rfl) rfl ?_
      refine s_iinc (L' := [some (zR (some 153)), some (zI x1), some (zI x2), none, some (zI x4), some (zI (x5 + x4)), some (zI (x6 + (max 0 (min 100 xs0)))), some (zI (x7 + 1)), some (zI xs0), some (zI (max 0 (min 100 xs0)))]) A dX11_sheet_148 rfl rfl ?_
      refine s_goto (tgt := 47) A dX11_sheet_151 (by decide) ?_
      exact z_wk (L' := [some (zR (some 153)), some (zI x1), some (zI x2), none, some (zI x4), some (zI (x5 + x4)), some (zI (x6 + (max 0 (min 100 xs0)))), some (zI (x7 + 1)), none, none]) ⟨rfl, rfl, rfl, rfl, rfl, rfl, rfl, trivial⟩ h
    · have h := h.2 c7
      refine s_bipush A dX11_sheet_94 rfl ?_
      refine s_goto (tgt := 110) A dX11_sheet_96 (by decide) ?_
      refine s_istore (L' := [some (zR (some 153)), some (zI x1), some (zI x2), none, some (zI x4), some (zI x5), some (zI x6), some (zI x7), some (zI xs0), some (zI 100)]) A dX11_sheet_110 (Nat.le_of_ble_eq_true rfl) rfl ?_
      refine s_aload_n A dX11_sheet_112 rfl ?_
      refine s_getf (k := 11) (j := 0) (sl := true) (v := zR (some 154)) A dX11_sheet_113 rfl zuw_X11 (Nat.le_of_ble_eq_true rfl) zwd1308 (by decide) (zk_153 _) rfl ?_
      refine s_iconst A dX11_sheet_116 ?_
      refine s_getsT (t := 9) A dX11_sheet_117 (by decide) zwd1588 ?_
      refine s_iload A dX11_sheet_120 rfl ?_
      refine s_iconst A dX11_sheet_122 ?_
      obtain ⟨o1, h⟩ := h
      refine z_idiv A dX11_sheet_123 o1 ⟨by decide, by decide⟩ ?_
      obtain ⟨ox12, h⟩ := h
      refine z_tald A dX11_sheet_124 (by decide) (Nat.le_of_ble_eq_true rfl) ox12 ?_
      refine s_imul A dX11_sheet_125 ?_
      refine s_iload A dX11_sheet_126 rfl ?_
      refine s_iconst A dX11_sheet_128 ?_
      obtain ⟨o1, h⟩ := h
      refine z_irem A dX11_sheet_129 o1 ⟨by decide, by decide⟩ ?_
      refine s_iadd A dX11_sheet_130 ?_
      refine s_iload A dX11_sheet_131 rfl ?_
      obtain ⟨ox13, h⟩ := h
      refine z_iast A dX11_sheet_133 (zk_154 _) (Nat.le_of_ble_eq_true rfl) ox13 ?_
      refine s_iload A dX11_sheet_134 rfl ?_
      refine s_iload A dX11_sheet_136 rfl ?_
      refine s_iadd A dX11_sheet_138 ?_
      refine s_istore (L' := [some (zR (some 153)), some (zI x1), some (zI x2), none, some (zI x4), some (zI x5), some (zI (x6 + 100)), some (zI x7), some (zI xs0), some (zI 100)]) A dX11_sheet_139 (Nat.le_of_ble_eq_true rfl) rfl ?_
      refine s_iload A dX11_sheet_141 rfl ?_
      refine s_iload A dX11_sheet_143 rfl ?_
      refine s_iadd A dX11_sheet_145 ?_
      refine s_istore (L' := [some (zR (some 153)), some (zI x1), some (zI x2), none, some (zI x4), some (zI (x5 + x4)), some (zI (x6 + 100)), some (zI x7), some (zI xs0), some (zI 100)]) A dX11_sheet_146 (Nat.le_of_ble_eq_true rfl) rfl ?_
      refine s_iinc (L' := [some (zR (some 153)), some (zI x1), some (zI x2), none, some (zI x4), some (zI (x5 + x4)), some (zI (x6 + 100)), some (zI (x7 + 1)), some (zI xs0), some (zI 100)]) A dX11_sheet_148 rfl rfl ?_
      refine s_goto (tgt := 47) A dX11_sheet_151 (by decide) ?_
      exact z_wk (L' := [some (zR (some 153)), some (zI x1), some (zI x2), none, some (zI x4), some (zI (x5 + x4)), some (zI (x6 + 100)), some (zI (x7 + 1)), none, none]) ⟨rfl, rfl, rfl, rfl, rfl, rfl, rfl, trivial⟩ h
theorem eX11_sheet {G : zG} {F : Int → zM → Prop} {μ : zM} {x1 : Int} {x2 : Int} {x3 : Int} {x4 : Int} (h : ∀ J, zJ G true (8) 0 0 mX11_sheet (zKI F) J → J 0 ([some (zR (some 153)), some (zI x1), some (zI x2), some (zI x3), some (zI x4), none, none, none, none, none], [], μ, 0, 0)) : qX11_sheet G x1 x2 x3 x4 μ F :=
  z_body (by decide +kernel) (Nat.le_of_ble_eq_true rfl) h
set_option maxRecDepth 20000 in
theorem rX11_layWay_e {G : zG} {F : zM → Prop} {J : Nat → zS → Prop} {μ : zM} (C : zJ G true (2) 0 0 mX11_layWay (zKV F) J) (x1 : Int)
    (h : J 4 ([some (zR (some 153)), some (zI x1), some (zI 0), some (zI 0), none, none, none, none, none, none], [], μ, 0, 0)) : J 0 ([some (zR (some 153)), some (zI x1), none, none, none, none, none, none, none, none], [], μ, 0, 0) := by
  obtain ⟨p, e, s, m, args, below, meth, c, A, hml, hr, hlk, hnm, rfl⟩ := C
  refine s_iconst A dX11_layWay_0 ?_
  refine s_istore_n (L' := [some (zR (some 153)), some (zI x1), some (zI 0), none, none, none, none, none, none, none]) A dX11_layWay_1 (Nat.le_of_ble_eq_true rfl) rfl ?_
  refine s_iconst A dX11_layWay_2 ?_
  refine s_istore_n (L' := [some (zR (some 153)), some (zI x1), some (zI 0), some (zI 0), none, none, none, none, none, none]) A dX11_layWay_3 (Nat.le_of_ble_eq_true rfl) rfl ?_
  exact h
set_option maxRecDepth 20000 in
theorem rX11_layWay_4 {G : zG} {F : zM → Prop} {J : Nat → zS → Prop} {μ : zM} (C : zJ G true (2) 0 0 mX11_layWay (zKV F) J) (x1 : Int) (x2 : Int) (x3 : Int)
    (h : zin x3 ∧ ((4 ≤ x3 → J 44 ([some (zR (some 153)), some (zI x1), some (zI x2), some (zI 0), some (zI 4), some (zI 0), none, none, none, none], [], μ, 0, 0)) ∧ (¬ (4 ≤ x3) → qX11_amountOf G true x1 x3 μ (fun v3 μ3 => zin v3 ∧ ((v3 ≤ 3 → J 4 ([some (zR (some 153)), some (zI x1), some (zI (x2 + 0)), some (zI (x3 + 1)), none, none, none, none, none, none], [], μ3, 0, 0)) ∧ (¬ (v3 ≤ 3) → (0 ≤ x3 ∧ x3 < 4) ∧ J 4 ([some (zR (some 153)), some (zI x1), some (zI (x2 + (zta 7 x3))), some (zI (x3 + 1)), none, none, none, none, none, none], [], μ3, 0, 0))))))) : J 4 ([some (zR (some 153)), some (zI x1), some (zI x2), some (zI x3), none, none, none, none, none, none], [], μ, 0, 0) := by
  obtain ⟨p, e, s, m, args, below, meth, c, A, hml, hr, hlk, hnm, rfl⟩ := C
  refine s_iload_n A dX11_layWay_4 rfl ?_
  refine s_iconst A dX11_layWay_5 ?_
  obtain ⟨oz1, h⟩ := h
  refine z_icmp_ge (tgt := 36) A dX11_layWay_6 (by decide) oz1 ⟨by decide, by decide⟩ (fun c2 => ?_) (fun c2 => ?_)
  · have h := h.1 c2
    refine s_iconst A dX11_layWay_36 ?_
    refine s_istore_n (L' := [some (zR (some 153)), some (zI x1), some (zI x2), some (zI 0), none, none, none, none, none, none]) A dX11_layWay_37 (Nat.le_of_ble_eq_true rfl) rfl ?_
    refine s_iconst A dX11_layWay_38 ?_
    refine s_istore (L' := [some (zR (some 153)), some (zI x1), some (zI x2), some (zI 0), some (zI 4), none, none, none, none, none]) A dX11_layWay_39 (Nat.le_of_ble_eq_true rfl) rfl ?_
    refine s_iconst A dX11_layWay_41 ?_
    refine s_istore (L' := [some (zR (some 153)), some (zI x1), some (zI x2), some (zI 0), some (zI 4), some (zI 0), none, none, none, none]) A dX11_layWay_42 (Nat.le_of_ble_eq_true rfl) rfl ?_
    exact h
  · have h := h.2 c2
    refine s_iload_n A dX11_layWay_9 rfl ?_
    refine s_iload_n A dX11_layWay_10 rfl ?_
    refine s_iload_n A dX11_layWay_11 rfl ?_
    refine s_callS (M := mX11_amountOf) (n := 2) (d := 0) (mc := 0) (ms := 0) (av := [zI x1, zI x3]) (st := [zI x2]) A dX11_layWay_12 zwd1610 zwd1611 zwd100 zcd_X11_amountOf (Nat.le_of_ble_eq_true rfl) (Nat.le_of_ble_eq_true rfl) (Nat.le_refl _) ⟨Nat.le_of_ble_eq_true rfl, Nat.le_of_ble_eq_true rfl⟩ zhn_X11_amountOf rfl (Nat.le_of_ble_eq_true rfl) rfl (z_contI (fun v3 μ3 h => ?_) h)
    refine s_iconst A dX11_layWay_15 ?_
    obtain ⟨oz4, h⟩ := h
    refine z_icmp_le (tgt := 27) A dX11_layWay_16 (by decide) oz4 ⟨by decide, by decide⟩ (fun c5 => ?_) (fun c5 => ?_)
    · have h := h.1 c5
      refine s_iconst A dX11_layWay_27 ?_
      refine s_iadd A dX11_layWay_28 ?_
      refine s_istore_n (L' := [some (zR (some 153)), some (zI x1), some (zI (x2 + 0)), some (zI x3), none, none, none, none, none, none]) A dX11_layWay_29 (Nat.le_of_ble_eq_true rfl) rfl ?_
      refine s_iinc (L' := [some (zR (some 153)), some (zI x1), some (zI (x2 + 0)), some (zI (x3 + 1)), none, none, none, none, none, none]) A dX11_layWay_30 rfl rfl ?_
      refine s_goto (tgt := 4) A dX11_layWay_33 (by decide) ?_
      exact h
    · have h := h.2 c5
      refine s_getsT (t := 7) A dX11_layWay_19 (by decide) zwd1297 ?_
      refine s_iload_n A dX11_layWay_22 rfl ?_
      obtain ⟨ox6, h⟩ := h
      refine z_tald A dX11_layWay_23 (by decide) (Nat.le_of_ble_eq_true rfl) ox6 ?_
      refine s_goto (tgt := 28) A dX11_layWay_24 (by decide) ?_
      refine s_iadd A dX11_layWay_28 ?_
      refine s_istore_n (L' := [some (zR (some 153)), some (zI x1), some (zI (x2 + (zta 7 x3))), some (zI x3), none, none, none, none, none, none]) A dX11_layWay_29 (Nat.le_of_ble_eq_true rfl) rfl ?_
      refine s_iinc (L' := [some (zR (some 153)), some (zI x1), some (zI (x2 + (zta 7 x3))), some (zI (x3 + 1)), none, none, none, none, none, none]) A dX11_layWay_30 rfl rfl ?_
      refine s_goto (tgt := 4) A dX11_layWay_33 (by decide) ?_
      exact h
set_option maxRecDepth 20000 in
theorem rX11_layWay_44 {G : zG} {F : zM → Prop} {J : Nat → zS → Prop} {μ : zM} (C : zJ G true (2) 0 0 mX11_layWay (zKV F) J) (x1 : Int) (x2 : Int) (x3 : Int) (x4 : Int) (x5 : Int)
    (h : zin x5 ∧ ((4 ≤ x5 → F (zup (zup μ 160 4 x2) 161 4 x4)) ∧ (¬ (4 ≤ x5) → J 59 ([some (zR (some 153)), some (zI x1), some (zI x2), some (zI x3), some (zI x4), some (zI x5), some (zI (-1)), some (zI 0), some (zI 0), none], [], μ, 0, 0)))) : J 44 ([some (zR (some 153)), some (zI x1), some (zI x2), some (zI x3), some (zI x4), some (zI x5), none, none, none, none], [], μ, 0, 0) := by
  obtain ⟨p, e, s, m, args, below, meth, c, A, hml, hr, hlk, hnm, rfl⟩ := C
  refine s_iload A dX11_layWay_44 rfl ?_
  refine s_iconst A dX11_layWay_46 ?_
  obtain ⟨oz1, h⟩ := h
  refine z_icmp_ge (tgt := 183) A dX11_layWay_47 (by decide) oz1 ⟨by decide, by decide⟩ (fun c2 => ?_) (fun c2 => ?_)
  · have h := h.1 c2
    refine s_aload_n A dX11_layWay_183 rfl ?_
    refine s_getf (k := 11) (j := 14) (sl := true) (v := zR (some 160)) A dX11_layWay_184 rfl zuw_X11 (Nat.le_of_ble_eq_true rfl) zwd1322 (by decide) (zk_153 _) rfl ?_
    refine s_iconst A dX11_layWay_187 ?_
    refine s_iload_n A dX11_layWay_188 rfl ?_
    refine z_iast A dX11_layWay_189 (zk_160 _) (Nat.le_of_ble_eq_true rfl) ⟨by decide, by decide⟩ ?_
    refine s_aload_n A dX11_layWay_190 rfl ?_
    refine s_getf (k := 11) (j := 15) (sl := true) (v := zR (some 161)) A dX11_layWay_191 rfl zuw_X11 (Nat.le_of_ble_eq_true rfl) zwd1323 (by decide) (zk_153 _) rfl ?_
    refine s_iconst A dX11_layWay_194 ?_
    refine s_iload A dX11_layWay_195 rfl ?_
    refine z_iast A dX11_layWay_197 (zk_161 _) (Nat.le_of_ble_eq_true rfl) ⟨by decide, by decide⟩ ?_
    exact s_vret A dX11_layWay_198 hr hlk (Nat.le_of_ble_eq_true rfl) (Nat.le_of_ble_eq_true rfl) ⟨rfl, h⟩
  · have h := h.2 c2
    refine s_iconst A dX11_layWay_50 ?_
    refine s_istore (L' := [some (zR (some 153)), some (zI x1), some (zI x2), some (zI x3), some (zI x4), some (zI x5), some (zI (-1)), none, none, none]) A dX11_layWay_51 (Nat.le_of_ble_eq_true rfl) rfl ?_
    refine s_iconst A dX11_layWay_53 ?_
    refine s_istore (L' := [some (zR (some 153)), some (zI x1), some (zI x2), some (zI x3), some (zI x4), some (zI x5), some (zI (-1)), some (zI 0), none, none]) A dX11_layWay_54 (Nat.le_of_ble_eq_true rfl) rfl ?_
    refine s_iconst A dX11_layWay_56 ?_
    refine s_istore (L' := [some (zR (some 153)), some (zI x1), some (zI x2), some (zI x3), some (zI x4), some (zI x5), some (zI (-1)), some (zI 0), some (zI 0), none]) A dX11_layWay_57 (Nat.le_of_ble_eq_true rfl) rfl ?_
    exact h
set_option maxRecDepth 20000 in
theorem rX11_layWay_59 {G : zG} {F : zM → Prop} {J : Nat → zS → Prop} {μ : zM} (C : zJ G true (2) 0 0 mX11_layWay (zKV F) J) (x1 : Int) (x2 : Int) (x3 : Int) (x4 : Int) (x5 : Int) (x6 : Int) (x7 : Int) (x8 : Int)
    (h : zin x8 ∧ ((4 ≤ x8 → (0 ≤ x5 ∧ x5 < 5) ∧ (0 ≤ x6 ∧ x6 < 4) ∧ J 44 ([some (zR (some 153)), some (zI x1), some (zI (x2 + (zta 7 x6))), some (zI (zor x3 (zshl 1 x6))), some (zI x7), some (zI (x5 + 1)), none, none, none, none], [], zup (zup μ 160 x5 x2) 161 x5 (x4 - x7), 0, 0)) ∧ (¬ (4 ≤ x8) → zin ((zshr x3 x8) % 2) ∧ ((¬ (zshr x3 x8) % 2 = 1 → qX11_amountOf G true x1 x8 μ (fun v7 μ7 => zin v7 ∧ ((v7 ≤ 3 → qX11_amountOf G true x1 x8 μ7 (fun v10 μ10 => zin x6 ∧ ((x6 = -1 → J 59 ([some (zR (some 153)), some (zI x1), some (zI x2), some (zI x3), some (zI x4), some (zI x5), some (zI x8), some (zI v10), some (zI (x8 + 1)), none], [], μ10, 0, 0)) ∧ (¬ (x6 = -1) → zin v10 ∧ zin x7 ∧ ((x7 < v10 → J 59 ([some (zR (some 153)), some (zI x1), some (zI x2), some (zI x3), some (zI x4), some (zI x5), some (zI x8), some (zI v10), some (zI (x8 + 1)), none], [], μ10, 0, 0)) ∧ (¬ (x7 < v10) → J 59 ([some (zR (some 153)), some (zI x1), some (zI x2), some (zI x3), some (zI x4), some (zI x5), some (zI x6), some (zI x7), some (zI (x8 + 1)), none], [], μ10, 0, 0))))))) ∧ (¬ (v7 ≤ 3) → qX11_amountOf G true x1 x8 μ7 (fun v16 μ16 => zin x6 ∧ ((x6 = -1 → J 59 ([some (zR (some 153)), some (zI x1), some (zI x2), some (zI x3), some (zI x4), some (zI x5), some (zI x8), some (zI (v16 - 4)), some (zI (x8 + 1)), none], [], μ16, 0, 0)) ∧ (¬ (x6 = -1) → zin (v16 - 4) ∧ zin x7 ∧ ((x7 < v16 - 4 → J 59 ([some (zR (some 153)), some (zI x1), some (zI x2), some (zI x3), some (zI x4), some (zI x5), some (zI x8), some (zI (v16 - 4)), some (zI (x8 + 1)), none], [], μ16, 0, 0)) ∧ (¬ (x7 < v16 - 4) → J 59 ([some (zR (some 153)), some (zI x1), some (zI x2), some (zI x3), some (zI x4), some (zI x5), some (zI x6), some (zI x7), some (zI (x8 + 1)), none], [], μ16, 0, 0)))))))))) ∧ ((zshr x3 x8) % 2 = 1 → J 59 ([some (zR (some 153)), some (zI x1), some (zI x2), some (zI x3), some (zI x4), some (zI x5), some (zI x6), some (zI x7), some (zI (x8 + 1)), none], [], μ, 0, 0)))))) : J 59 ([some (zR (some 153)), some (zI x1), some (zI x2), some (zI x3), some (zI x4), some (zI x5), some (zI x6), some (zI x7), some (zI x8), none], [], μ, 0, 0) := by
  obtain ⟨p, e, s, m, args, below, meth, c, A, hml, hr, hlk, hnm, rfl⟩ := C
  refine s_iload A dX11_layWay_59 rfl ?_
  refine s_iconst A dX11_layWay_61 ?_
  obtain ⟨oz1, h⟩ := h
  refine z_icmp_ge (tgt := 137) A dX11_layWay_62 (by decide) oz1 ⟨by decide, by decide⟩ (fun c2 => ?_) (fun c2 => ?_)
  · have h := h.1 c2
    refine s_aload_n A dX11_layWay_137 rfl ?_
    refine s_getf (k := 11) (j := 14) (sl := true) (v := zR (some 160)) A dX11_layWay_138 rfl zuw_X11 (Nat.le_of_ble_eq_true rfl) zwd1322 (by decide) (zk_153 _) rfl ?_
    refine s_iload A dX11_layWay_141 rfl ?_
    refine s_iload_n A dX11_layWay_143 rfl ?_
    obtain ⟨ox3, h⟩ := h
    refine z_iast A dX11_layWay_144 (zk_160 _) (Nat.le_of_ble_eq_true rfl) ox3 ?_
    refine s_aload_n A dX11_layWay_145 rfl ?_
    refine s_getf (k := 11) (j := 15) (sl := true) (v := zR (some 161)) A dX11_layWay_146 rfl zuw_X11 (Nat.le_of_ble_eq_true rfl) zwd1323 (by decide) (zk_153 _) rfl ?_
    refine s_iload A dX11_layWay_149 rfl ?_
    refine s_iload A dX11_layWay_151 rfl ?_
    refine s_iload A dX11_layWay_153 rfl ?_
    refine s_isub A dX11_layWay_155 ?_
    refine z_iast A dX11_layWay_156 (zk_161 _) (Nat.le_of_ble_eq_true rfl) ox3 ?_
    refine s_iload A dX11_layWay_157 rfl ?_
    refine s_istore (L' := [some (zR (some 153)), some (zI x1), some (zI x2), some (zI x3), some (zI x7), some (zI x5), some (zI x6), some (zI x7), some (zI x8), none]) A dX11_layWay_159 (Nat.le_of_ble_eq_true rfl) rfl ?_
    refine s_iload_n A dX11_layWay_161 rfl ?_
    refine s_iconst A dX11_layWay_162 ?_
    refine s_iload A dX11_layWay_163 rfl ?_
    refine s_ishl A dX11_layWay_165 ?_
    refine s_ior A dX11_layWay_166 ?_
    refine s_istore_n (L' := [some (zR (some 153)), some (zI x1), some (zI x2), some (zI (zor x3 (zshl 1 x6))), some (zI x7), some (zI x5), some (zI x6), some (zI x7), some (zI x8), none]) A dX11_layWay_167 (Nat.le_of_ble_eq_true rfl) rfl ?_
    refine s_iload_n A dX11_layWay_168 rfl ?_
    refine s_getsT (t := 7) A dX11_layWay_169 (by decide) zwd1297 ?_
    refine s_iload A dX11_layWay_172 rfl ?_
    obtain ⟨ox4, h⟩ := h
    refine z_tald A dX11_layWay_174 (by decide) (Nat.le_of_ble_eq_true rfl) ox4 ?_
    refine s_iadd A dX11_layWay_175 ?_
    refine s_istore_n (L' := [some (zR (some 153)), some (zI x1), some (zI (x2 + (zta 7 x6))), some (zI (zor x3 (zshl 1 x6))), some (zI x7), some (zI x5), some (zI x6), some (zI x7), some (zI x8), none]) A dX11_layWay_176 (Nat.le_of_ble_eq_true rfl) rfl ?_
    refine s_iinc (L' := [some (zR (some 153)), some (zI x1), some (zI (x2 + (zta 7 x6))), some (zI (zor x3 (zshl 1 x6))), some (zI x7), some (zI (x5 + 1)), some (zI x6), some (zI x7), some (zI x8), none]) A dX11_layWay_177 rfl rfl ?_
    refine s_goto (tgt := 44) A dX11_layWay_180 (by decide) ?_
    exact z_wk (L' := [some (zR (some 153)), some (zI x1), some (zI (x2 + (zta 7 x6))), some (zI (zor x3 (zshl 1 x6))), some (zI x7), some (zI (x5 + 1)), none, none, none, none]) ⟨rfl, rfl, rfl, rfl, rfl, rfl, trivial⟩ h
  · have h := h.2 c2
    refine s_iload_n A dX11_layWay_65 rfl ?_
    refine s_iload A dX11_layWay_66 rfl ?_
    refine s_ishr A dX11_layWay_68 ?_
    refine s_iconst A dX11_layWay_69 ?_
    refine z_iand1 A dX11_layWay_70 ?_
    refine s_iconst A dX11_layWay_71 ?_
    obtain ⟨oz5, h⟩ := h
    refine z_icmp_ne (tgt := 78) A dX11_layWay_72 (by decide) oz5 ⟨by decide, by decide⟩ (fun c6 => ?_) (fun c6 => ?_)
    · have h := h.1 c6
      refine s_iload_n A dX11_layWay_78 rfl ?_
      refine s_iload A dX11_layWay_79 rfl ?_
      refine s_callS (M := mX11_amountOf) (n := 2) (d := 0) (mc := 0) (ms := 0) (av := [zI x1, zI x8]) (st := []) A dX11_layWay_81 zwd1610 zwd1611 zwd100 zcd_X11_amountOf (Nat.le_of_ble_eq_true rfl) (Nat.le_of_ble_eq_true rfl) (Nat.le_refl _) ⟨Nat.le_of_ble_eq_true rfl, Nat.le_of_ble_eq_true rfl⟩ zhn_X11_amountOf rfl (Nat.le_of_ble_eq_true rfl) rfl (z_contI (fun v7 μ7 h => ?_) h)
      refine s_iconst A dX11_layWay_84 ?_
      obtain ⟨oz8, h⟩ := h
      refine z_icmp_le (tgt := 99) A dX11_layWay_85 (by decide) oz8 ⟨by decide, by decide⟩ (fun c9 => ?_) (fun c9 => ?_)
      · have h := h.1 c9
        refine s_iload_n A dX11_layWay_99 rfl ?_
        refine s_iload A dX11_layWay_100 rfl ?_
        refine s_callS (M := mX11_amountOf) (n := 2) (d := 0) (mc := 0) (ms := 0) (av := [zI x1, zI x8]) (st := []) A dX11_layWay_102 zwd1610 zwd1611 zwd100 zcd_X11_amountOf (Nat.le_of_ble_eq_true rfl) (Nat.le_of_ble_eq_true rfl) (Nat.le_refl _) ⟨Nat.le_of_ble_eq_true rfl, Nat.le_of_ble_eq_true rfl⟩ zhn_X11_amountOf rfl (Nat.le_of_ble_eq_true rfl) rfl (z_contI (fun v10 μ10 h => ?_) h)
        refine s_istore (L' := [some (zR (some 153)), some (zI x1), some (zI x2), some (zI x3), some (zI x4), some (zI x5), some (zI x6), some (zI x7), some (zI x8), some (zI v10)]) A dX11_layWay_105 (Nat.le_of_ble_eq_true rfl) rfl ?_
        refine s_iload A dX11_layWay_107 rfl ?_
        refine s_iconst A dX11_layWay_109 ?_
        obtain ⟨oz11, h⟩ := h
        refine z_icmp_eq (tgt := 123) A dX11_layWay_110 (by decide) oz11 ⟨by decide, by decide⟩ (fun c12 => ?_) (fun c12 => ?_)
        · have h := h.1 c12
          refine s_iload A dX11_layWay_123 rfl ?_
          refine s_istore (L' := [some (zR (some 153)), some (zI x1), some (zI x2), some (zI x3), some (zI x4), some (zI x5), some (zI x8), some (zI x7), some (zI x8), some (zI v10)]) A dX11_layWay_125 (Nat.le_of_ble_eq_true rfl) rfl ?_
          refine s_iload A dX11_layWay_127 rfl ?_
          refine s_istore (L' := [some (zR (some 153)), some (zI x1), some (zI x2), some (zI x3), some (zI x4), some (zI x5), some (zI x8), some (zI v10), some (zI x8), some (zI v10)]) A dX11_layWay_129 (Nat.le_of_ble_eq_true rfl) rfl ?_
          refine s_iinc (L' := [some (zR (some 153)), some (zI x1), some (zI x2), some (zI x3), some (zI x4), some (zI x5), some (zI x8), some (zI v10), some (zI (x8 + 1)), some (zI v10)]) A dX11_layWay_131 rfl rfl ?_
          refine s_goto (tgt := 59) A dX11_layWay_134 (by decide) ?_
          exact z_wk (L' := [some (zR (some 153)), some (zI x1), some (zI x2), some (zI x3), some (zI x4), some (zI x5), some (zI x8), some (zI v10), some (zI (x8 + 1)), none]) ⟨rfl, rfl, rfl, rfl, rfl, rfl, rfl, rfl, rfl, trivial⟩ h
        · have h := h.2 c12
          refine s_iload A dX11_layWay_113 rfl ?_
          refine s_iload A dX11_layWay_115 rfl ?_
          obtain ⟨oz13, h⟩ := h
          obtain ⟨oz14, h⟩ := h
          refine z_icmp_gt (tgt := 123) A dX11_layWay_117 (by decide) oz13 oz14 (fun c15 => ?_) (fun c15 => ?_)
          · have h := h.1 c15
            refine s_iload A dX11_layWay_123 rfl ?_
            refine s_istore (L' := [some (zR (some 153)), some (zI x1), some (zI x2), some (zI x3), some (zI x4), some (zI x5), some (zI x8), some (zI x7), some (zI x8), some (zI v10)]) A dX11_layWay_125 (Nat.le_of_ble_eq_true rfl) rfl ?_
            refine s_iload A dX11_layWay_127 rfl ?_
            refine s_istore (L' := [some (zR (some 153)), some (zI x1), some (zI x2), some (zI x3), some (zI x4), some (zI x5), some (zI x8), some (zI v10), some (zI x8), some (zI v10)]) A dX11_layWay_129 (Nat.le_of_ble_eq_true rfl) rfl ?_
            refine s_iinc (L' := [some (zR (some 153)), some (zI x1), some (zI x2), some (zI x3), some (zI x4), some (zI x5), some (zI x8), some (zI v10), some (zI (x8 + 1)), some (zI v10)]) A dX11_layWay_131 rfl rfl ?_
            refine s_goto (tgt := 59) A dX11_layWay_134 (by decide) ?_
            exact z_wk (L' := [some (zR (some 153)), some (zI x1), some (zI x2), some (zI x3), some (zI x4), some (zI x5), some (zI x8), some (zI v10), some (zI (x8 + 1)), none]) ⟨rfl, rfl, rfl, rfl, rfl, rfl, rfl, rfl, rfl, trivial⟩ h
          · have h := h.2 c15
            refine s_goto (tgt := 131) A dX11_layWay_120 (by decide) ?_
            refine s_iinc (L' := [some (zR (some 153)), some (zI x1), some (zI x2), some (zI x3), some (zI x4), some (zI x5), some (zI x6), some (zI x7), some (zI (x8 + 1)), some (zI v10)]) A dX11_layWay_131 rfl rfl ?_
            refine s_goto (tgt := 59) A dX11_layWay_134 (by decide) ?_
            exact z_wk (L' := [some (zR (some 153)), some (zI x1), some (zI x2), some (zI x3), some (zI x4), some (zI x5), some (zI x6), some (zI x7), some (zI (x8 + 1)), none]) ⟨rfl, rfl, rfl, rfl, rfl, rfl, rfl, rfl, rfl, trivial⟩ h
      · have h := h.2 c9
        refine s_iload_n A dX11_layWay_88 rfl ?_
        refine s_iload A dX11_layWay_89 rfl ?_
        refine s_callS (M := mX11_amountOf) (n := 2) (d := 0) (mc := 0) (ms := 0) (av := [zI x1, zI x8]) (st := []) A dX11_layWay_91 zwd1610 zwd1611 zwd100 zcd_X11_amountOf (Nat.le_of_ble_eq_true rfl) (Nat.le_of_ble_eq_true rfl) (Nat.le_refl _) ⟨Nat.le_of_ble_eq_true rfl, Nat.le_of_ble_eq_true rfl⟩ zhn_X11_amountOf rfl (Nat.le_of_ble_eq_true rfl) rfl (z_contI (fun v16 μ16 h => ?_) h)
        refine s_iconst A dX11_layWay_94 ?_
        refine s_isub A dX11_layWay_95 ?_
        refine s_goto (tgt := 105) A dX11_layWay_96 (by decide) ?_
        refine s_istore (L' := [some (zR (some 153)), some (zI x1), some (zI x2), some (zI x3), some (zI x4), some (zI x5), some (zI x6), some (zI x7), some (zI x8), some (zI (v16 - 4))]) A dX11_layWay_105 (Nat.le_of_ble_eq_true rfl) rfl ?_
        refine s_iload A dX11_layWay_107 rfl ?_
        refine s_iconst A dX11_layWay_109 ?_
        obtain ⟨oz17, h⟩ := h
        refine z_icmp_eq (tgt := 123) A dX11_layWay_110 (by decide) oz17 ⟨by decide, by decide⟩ (fun c18 => ?_) (fun c18 => ?_)
        · have h := h.1 c18
          refine s_iload A dX11_layWay_123 rfl ?_
          refine s_istore (L' := [some (zR (some 153)), some (zI x1), some (zI x2), some (zI x3), some (zI x4), some (zI x5), some (zI x8), some (zI x7), some (zI x8), some (zI (v16 - 4))]) A dX11_layWay_125 (Nat.le_of_ble_eq_true rfl) rfl ?_
          refine s_iload A dX11_layWay_127 rfl ?_
          refine s_istore (L' := [some (zR (some 153)), some (zI x1), some (zI x2), some (zI x3), some (zI x4), some (zI x5), some (zI x8), some (zI (v16 - 4)), some (zI x8), some (zI (v16 - 4))]) A dX11_layWay_129 (Nat.le_of_ble_eq_true rfl) rfl ?_
          refine s_iinc (L' := [some (zR (some 153)), some (zI x1), some (zI x2), some (zI x3), some (zI x4), some (zI x5), some (zI x8), some (zI (v16 - 4)), some (zI (x8 + 1)), some (zI (v16 - 4))]) A dX11_layWay_131 rfl rfl ?_
          refine s_goto (tgt := 59) A dX11_layWay_134 (by decide) ?_
          exact z_wk (L' := [some (zR (some 153)), some (zI x1), some (zI x2), some (zI x3), some (zI x4), some (zI x5), some (zI x8), some (zI (v16 - 4)), some (zI (x8 + 1)), none]) ⟨rfl, rfl, rfl, rfl, rfl, rfl, rfl, rfl, rfl, trivial⟩ h
        · have h := h.2 c18
          refine s_iload A dX11_layWay_113 rfl ?_
          refine s_iload A dX11_layWay_115 rfl ?_
          obtain ⟨oz19, h⟩ := h
          obtain ⟨oz20, h⟩ := h
          refine z_icmp_gt (tgt := 123) A dX11_layWay_117 (by decide) oz19 oz20 (fun c21 => ?_) (fun c21 => ?_)
          · have h := h.1 c21
            refine s_iload A dX11_layWay_123 rfl ?_
            refine s_istore (L' := [some (zR (some 153)), some (zI x1), some (zI x2), some (zI x3), some (zI x4), some (zI x5), some (zI x8), some (zI x7), some (zI x8), some (zI (v16 - 4))]) A dX11_layWay_125 (Nat.le_of_ble_eq_true rfl) rfl ?_
            refine s_iload A dX11_layWay_127 rfl ?_
            refine s_istore (L' := [some (zR (some 153)), some (zI x1), some (zI x2), some (zI x3), some (zI x4), some (zI x5), some (zI x8), some (zI (v16 - 4)), some (zI x8), some (zI (v16 - 4))]) A dX11_layWay_129 (Nat.le_of_ble_eq_true rfl) rfl ?_
            refine s_iinc (L' := [some (zR (some 153)), some (zI x1), some (zI x2), some (zI x3), some (zI x4), some (zI x5), some (zI x8), some (zI (v16 - 4)), some (zI (x8 + 1)), some (zI (v16 - 4))]) A dX11_layWay_131 rfl rfl ?_
            refine s_goto (tgt := 59) A dX11_layWay_134 (by decide) ?_
            exact z_wk (L' := [some (zR (some 153)), some (zI x1), some (zI x2), some (zI x3), some (zI x4), some (zI x5), some (zI x8), some (zI (v16 - 4)), some (zI (x8 + 1)), none]) ⟨rfl, rfl, rfl, rfl, rfl, rfl, rfl, rfl, rfl, trivial⟩ h
          · have h := h.2 c21
            refine s_goto (tgt := 131) A dX11_layWay_120 (by decide) ?_
            refine s_iinc (L' := [some (zR (some 153)), some (zI x1), some (zI x2), some (zI x3), some (zI x4), some (zI x5), some (zI x6), some (zI x7), some (zI (x8 + 1)), some (zI (v16 - 4))]) A dX11_layWay_131 rfl rfl ?_
            refine s_goto (tgt := 59) A dX11_layWay_134 (by decide) ?_
            exact z_wk (L' := [some (zR (some 153)), some (zI x1), some (zI x2), some (zI x3), some (zI x4), some (zI x5), some (zI x6), some (zI x7), some (zI (x8 + 1)), none]) ⟨rfl, rfl, rfl, rfl, rfl, rfl, rfl, rfl, rfl, trivial⟩ h
    · have h := h.2 c6
      refine s_goto (tgt := 131) A dX11_layWay_75 (by decide) ?_
      refine s_iinc (L' := [some (zR (some 153)), some (zI x1), some (zI x2), some (zI x3), some (zI x4), some (zI x5), some (zI x6), some (zI x7), some (zI (x8 + 1)), none]) A dX11_layWay_131 rfl rfl ?_
      refine s_goto (tgt := 59) A dX11_layWay_134 (by decide) ?_
      exact h
theorem eX11_layWay {G : zG} {F : zM → Prop} {μ : zM} {x1 : Int} (h : ∀ J, zJ G true (2) 0 0 mX11_layWay (zKV F) J → J 0 ([some (zR (some 153)), some (zI x1), none, none, none, none, none, none, none, none], [], μ, 0, 0)) : qX11_layWay G x1 μ F :=
  z_body (by decide +kernel) (Nat.le_of_ble_eq_true rfl) h
set_option maxRecDepth 20000 in
theorem rX11_layColour_e {G : zG} {F : zM → Prop} {J : Nat → zS → Prop} {μ : zM} (C : zJ G true (3) 0 0 mX11_layColour (zKV F) J) (x1 : Int) {a2 n2 : Nat} (ha2 : zIsAr a2 n2) (hn2 : n2 < 2147483648) (x3 : Int)
    (h : qX11_layWay G x1 μ (fun μ1 => J 8 ([some (zR (some 153)), none, some (zR (some a2)), some (zI x3), some (zI 0), none, none], [], μ1, 0, 0))) : J 0 ([some (zR (some 153)), some (zI x1), some (zR (some a2)), some (zI x3), none, none, none], [], μ, 0, 0) := by
  obtain ⟨p, e, s, m, args, below, meth, c, A, hml, hr, hlk, hnm, rfl⟩ := C
  refine s_aload_n A dX11_layColour_0 rfl ?_
  refine s_iload_n A dX11_layColour_1 rfl ?_
  refine s_callV (a := 153) (k := 11) (N := 45) (sl := true) (M := mX11_layWay) (n := 1) (d := 2) (mc := 0) (ms := 0) (av := [zI x1]) (st := []) A dX11_layColour_2 rfl (by decide) (zk_153 _) zwd1606 zwd1608 zwd50 zwd100 zcd_X11_layWay (Nat.le_of_ble_eq_true rfl) (Nat.le_of_ble_eq_true rfl) (Nat.le_refl _) ⟨Nat.le_of_ble_eq_true rfl, Nat.le_of_ble_eq_true rfl⟩ ⟨rfl, zhn_X11_layWay⟩ rfl (Nat.le_of_ble_eq_true rfl) rfl (z_contV (fun μ1 h => ?_) h)
  refine s_iconst A dX11_layColour_5 ?_
  refine s_istore (L' := [some (zR (some 153)), some (zI x1), some (zR (some a2)), some (zI x3), some (zI 0), none, none]) A dX11_layColour_6 (Nat.le_of_ble_eq_true rfl) rfl ?_
  exact z_wk (L' := [some (zR (some 153)), none, some (zR (some a2)), some (zI x3), some (zI 0), none, none]) ⟨rfl, rfl, rfl, rfl, trivial⟩ h
set_option maxRecDepth 20000 in
theorem rX11_layColour_8 {G : zG} {F : zM → Prop} {J : Nat → zS → Prop} {μ : zM} (C : zJ G true (3) 0 0 mX11_layColour (zKV F) J) {a2 n2 : Nat} (ha2 : zIsAr a2 n2) (hn2 : n2 < 2147483648) (x3 : Int) (x4 : Int)
    (h : zin x4 ∧ ((3 ≤ x4 → F μ) ∧ (¬ (3 ≤ x4) → J 20 ([some (zR (some 153)), none, some (zR (some a2)), some (zI x3), some (zI x4), some (zI 0), some (zI 0)], [], μ, 0, 0)))) : J 8 ([some (zR (some 153)), none, some (zR (some a2)), some (zI x3), some (zI x4), none, none], [], μ, 0, 0) := by
  obtain ⟨p, e, s, m, args, below, meth, c, A, hml, hr, hlk, hnm, rfl⟩ := C
  refine s_iload A dX11_layColour_8 rfl ?_
  refine s_iconst A dX11_layColour_10 ?_
  obtain ⟨oz1, h⟩ := h
  refine z_icmp_ge (tgt := 86) A dX11_layColour_11 (by decide) oz1 ⟨by decide, by decide⟩ (fun c2 => ?_) (fun c2 => ?_)
  · have h := h.1 c2
    exact s_vret A dX11_layColour_86 hr hlk (Nat.le_of_ble_eq_true rfl) (Nat.le_of_ble_eq_true rfl) ⟨rfl, h⟩
  · have h := h.2 c2
    refine s_iconst A dX11_layColour_14 ?_
    refine s_istore (L' := [some (zR (some 153)), none, some (zR (some a2)), some (zI x3), some (zI x4), some (zI 0), none]) A dX11_layColour_15 (Nat.le_of_ble_eq_true rfl) rfl ?_
    refine s_iconst A dX11_layColour_17 ?_
    refine s_istore (L' := [some (zR (some 153)), none, some (zR (some a2)), some (zI x3), some (zI x4), some (zI 0), some (zI 0)]) A dX11_layColour_18 (Nat.le_of_ble_eq_true rfl) rfl ?_
    exact h
set_option maxRecDepth 20000 in
theorem rX11_layColour_20 {G : zG} {F : zM → Prop} {J : Nat → zS → Prop} {μ : zM} (C : zJ G true (3) 0 0 mX11_layColour (zKV F) J) {a2 n2 : Nat} (ha2 : zIsAr a2 n2) (hn2 : n2 < 2147483648) (x3 : Int) (x4 : Int) (x5 : Int) (x6 : Int)
    (h : zin x6 ∧ ((4 < x6 → (0 ≤ x3 + x4 ∧ x3 + x4 < (n2 : Int)) ∧ J 8 ([some (zR (some 153)), none, some (zR (some a2)), some (zI x3), some (zI (x4 + 1)), none, none], [], zup μ a2 (x3 + x4) x5, 0, 0)) ∧ (¬ (4 < x6) → (0 ≤ x6 ∧ x6 < 5) ∧ zin (zi μ 161 x6) ∧ ((zi μ 161 x6 ≤ 0 → J 20 ([some (zR (some 153)), none, some (zR (some a2)), some (zI x3), some (zI x4), some (zI x5), some (zI (x6 + 1))], [], μ, 0, 0)) ∧ (¬ (zi μ 161 x6 ≤ 0) → (0 ≤ (3 * (zi μ 160 x6)) + x4 ∧ (3 * (zi μ 160 x6)) + x4 < 243) ∧ J 20 ([some (zR (some 153)), none, some (zR (some a2)), some (zI x3), some (zI x4), some (zI (x5 + ((zi μ 161 x6) * (zi μ 158 ((3 * (zi μ 160 x6)) + x4))))), some (zI (x6 + 1))], [], μ, 0, 0)))))) : J 20 ([some (zR (some 153)), none, some (zR (some a2)), some (zI x3), some (zI x4), some (zI x5), some (zI x6)], [], μ, 0, 0) := by
  obtain ⟨p, e, s, m, args, below, meth, c, A, hml, hr, hlk, hnm, rfl⟩ := C
  refine s_iload A dX11_layColour_20 rfl ?_
  refine s_iconst A dX11_layColour_22 ?_
  obtain ⟨oz1, h⟩ := h
  refine z_icmp_gt (tgt := 72) A dX11_layColour_23 (by decide) oz1 ⟨by decide, by decide⟩ (fun c2 => ?_) (fun c2 => ?_)
  · have h := h.1 c2
    refine s_aload_n A dX11_layColour_72 rfl ?_
    refine s_iload_n A dX11_layColour_73 rfl ?_
    refine s_iload A dX11_layColour_74 rfl ?_
    refine s_iadd A dX11_layColour_76 ?_
    refine s_iload A dX11_layColour_77 rfl ?_
    obtain ⟨ox3, h⟩ := h
    refine z_iast A dX11_layColour_79 (ha2.k _) hn2 ox3 ?_
    refine s_iinc (L' := [some (zR (some 153)), none, some (zR (some a2)), some (zI x3), some (zI (x4 + 1)), some (zI x5), some (zI x6)]) A dX11_layColour_80 rfl rfl ?_
    refine s_goto (tgt := 8) A dX11_layColour_83 (by decide) ?_
    exact z_wk (L' := [some (zR (some 153)), none, some (zR (some a2)), some (zI x3), some (zI (x4 + 1)), none, none]) ⟨rfl, rfl, rfl, rfl, trivial⟩ h
  · have h := h.2 c2
    refine s_aload_n A dX11_layColour_26 rfl ?_
    refine s_getf (k := 11) (j := 15) (sl := true) (v := zR (some 161)) A dX11_layColour_27 rfl zuw_X11 (Nat.le_of_ble_eq_true rfl) zwd1323 (by decide) (zk_153 _) rfl ?_
    refine s_iload A dX11_layColour_30 rfl ?_
    obtain ⟨ox4, h⟩ := h
    refine z_iald A dX11_layColour_32 (zk_161 _) (Nat.le_of_ble_eq_true rfl) ox4 ?_
    obtain ⟨oz5, h⟩ := h
    refine z_if_le (tgt := 66) A dX11_layColour_33 (by decide) oz5 (fun c6 => ?_) (fun c6 => ?_)
    · have h := h.1 c6
      refine s_iinc (L' := [some (zR (some 153)), none, some (zR (some a2)), some (zI x3), some (zI x4), some (zI x5), some (zI (x6 + 1))]) A dX11_layColour_66 rfl rfl ?_
      refine s_goto (tgt := 20) A dX11_layColour_69 (by decide) ?_
      exact h
    · have h := h.2 c6
      refine s_iload A dX11_layColour_36 rfl ?_
      refine s_aload_n A dX11_layColour_38 rfl ?_
      refine s_getf (k := 11) (j := 15) (sl := true) (v := zR (some 161)) A dX11_layColour_39 rfl zuw_X11 (Nat.le_of_ble_eq_true rfl) zwd1323 (by decide) (zk_153 _) rfl ?_
      refine s_iload A dX11_layColour_42 rfl ?_
      refine z_iald A dX11_layColour_44 (zk_161 _) (Nat.le_of_ble_eq_true rfl) ox4 ?_
      refine s_aload_n A dX11_layColour_45 rfl ?_
      refine s_getf (k := 11) (j := 12) (sl := true) (v := zR (some 158)) A dX11_layColour_46 rfl zuw_X11 (Nat.le_of_ble_eq_true rfl) zwd1320 (by decide) (zk_153 _) rfl ?_
      refine s_iconst A dX11_layColour_49 ?_
      refine s_aload_n A dX11_layColour_50 rfl ?_
      refine s_getf (k := 11) (j := 14) (sl := true) (v := zR (some 160)) A dX11_layColour_51 rfl zuw_X11 (Nat.le_of_ble_eq_true rfl) zwd1322 (by decide) (zk_153 _) rfl ?_
      refine s_iload A dX11_layColour_54 rfl ?_
      refine z_iald A dX11_layColour_56 (zk_160 _) (Nat.le_of_ble_eq_true rfl) ox4 ?_
      refine s_imul A dX11_layColour_57 ?_
      refine s_iload A dX11_layColour_58 rfl ?_
      refine s_iadd A dX11_layColour_60 ?_
      obtain ⟨ox7, h⟩ := h
      refine z_iald A dX11_layColour_61 (zk_158 _) (Nat.le_of_ble_eq_true rfl) ox7 ?_
      refine s_imul A dX11_layColour_62 ?_
      refine s_iadd A dX11_layColour_63 ?_
      refine s_istore (L' := [some (zR (some 153)), none, some (zR (some a2)), some (zI x3), some (zI x4), some (zI (x5 + ((zi μ 161 x6) * (zi μ 158 ((3 * (zi μ 160 x6)) + x4))))), some (zI x6)]) A dX11_layColour_64 (Nat.le_of_ble_eq_true rfl) rfl ?_
      refine s_iinc (L' := [some (zR (some 153)), none, some (zR (some a2)), some (zI x3), some (zI x4), some (zI (x5 + ((zi μ 161 x6) * (zi μ 158 ((3 * (zi μ 160 x6)) + x4))))), some (zI (x6 + 1))]) A dX11_layColour_66 rfl rfl ?_
      refine s_goto (tgt := 20) A dX11_layColour_69 (by decide) ?_
      exact h
theorem eX11_layColour {G : zG} {F : zM → Prop} {μ : zM} {x1 : Int} {a2 : Nat} {x3 : Int} (h : ∀ J, zJ G true (3) 0 0 mX11_layColour (zKV F) J → J 0 ([some (zR (some 153)), some (zI x1), some (zR (some a2)), some (zI x3), none, none, none], [], μ, 0, 0)) : qX11_layColour G x1 a2 x3 μ F :=
  z_body (by decide +kernel) (Nat.le_of_ble_eq_true rfl) h
set_option maxRecDepth 20000 in
theorem rX11_layLights_e {G : zG} {F : zM → Prop} {J : Nat → zS → Prop} {μ : zM} (C : zJ G true (10) 0 0 mX11_layLights (zKV F) J) {a1 n1 : Nat} (ha1 : zIsAr a1 n1) (hn1 : n1 < 2147483648)
    (h : J 2 ([some (zR (some 153)), some (zR (some a1)), some (zI 0), none], [], μ, 0, 0)) : J 0 ([some (zR (some 153)), some (zR (some a1)), none, none], [], μ, 0, 0) := by
  obtain ⟨p, e, s, m, args, below, meth, c, A, hml, hr, hlk, hnm, rfl⟩ := C
  refine s_iconst A dX11_layLights_0 ?_
  refine s_istore_n (L' := [some (zR (some 153)), some (zR (some a1)), some (zI 0), none]) A dX11_layLights_1 (Nat.le_of_ble_eq_true rfl) rfl ?_
  exact h
set_option maxRecDepth 20000 in
theorem rX11_layLights_2 {G : zG} {F : zM → Prop} {J : Nat → zS → Prop} {μ : zM} (C : zJ G true (10) 0 0 mX11_layLights (zKV F) J) {a1 n1 : Nat} (ha1 : zIsAr a1 n1) (hn1 : n1 < 2147483648) (x2 : Int)
    (h : zin x2 ∧ ((81 ≤ x2 → F μ) ∧ (¬ (81 ≤ x2) → J 10 ([some (zR (some 153)), some (zR (some a1)), some (zI x2), some (zI 0)], [], μ, 0, 0)))) : J 2 ([some (zR (some 153)), some (zR (some a1)), some (zI x2), none], [], μ, 0, 0) := by
  obtain ⟨p, e, s, m, args, below, meth, c, A, hml, hr, hlk, hnm, rfl⟩ := C
  refine s_iload_n A dX11_layLights_2 rfl ?_
  refine s_bipush A dX11_layLights_3 rfl ?_
  obtain ⟨oz1, h⟩ := h
  refine z_icmp_ge (tgt := 43) A dX11_layLights_5 (by decide) oz1 ⟨by decide, by decide⟩ (fun c2 => ?_) (fun c2 => ?_)
  · have h := h.1 c2
    exact s_vret A dX11_layLights_43 hr hlk (Nat.le_of_ble_eq_true rfl) (Nat.le_of_ble_eq_true rfl) ⟨rfl, h⟩
  · have h := h.2 c2
    refine s_iconst A dX11_layLights_8 ?_
    refine s_istore_n (L' := [some (zR (some 153)), some (zR (some a1)), some (zI x2), some (zI 0)]) A dX11_layLights_9 (Nat.le_of_ble_eq_true rfl) rfl ?_
    exact h
set_option maxRecDepth 20000 in
theorem rX11_layLights_10 {G : zG} {F : zM → Prop} {J : Nat → zS → Prop} {μ : zM} (C : zJ G true (10) 0 0 mX11_layLights (zKV F) J) {a1 n1 : Nat} (ha1 : zIsAr a1 n1) (hn1 : n1 < 2147483648) (x2 : Int) (x3 : Int)
    (h : zin x3 ∧ ((3 ≤ x3 → J 2 ([some (zR (some 153)), some (zR (some a1)), some (zI (x2 + 1)), none], [], μ, 0, 0)) ∧ (¬ (3 ≤ x3) → qX11_lightOf G a1 x2 x3 μ (fun v3 μ3 => (0 ≤ (3 * x2) + x3 ∧ (3 * x2) + x3 < 243) ∧ J 10 ([some (zR (some 153)), some (zR (some a1)), some (zI x2), some (zI (x3 + 1))], [], zup μ3 158 ((3 * x2) + x3) v3, 0, 0))))) : J 10 ([some (zR (some 153)), some (zR (some a1)), some (zI x2), some (zI x3)], [], μ, 0, 0) := by
  obtain ⟨p, e, s, m, args, below, meth, c, A, hml, hr, hlk, hnm, rfl⟩ := C
  refine s_iload_n A dX11_layLights_10 rfl ?_
  refine s_iconst A dX11_layLights_11 ?_
  obtain ⟨oz1, h⟩ := h
  refine z_icmp_ge (tgt := 37) A dX11_layLights_12 (by decide) oz1 ⟨by decide, by decide⟩ (fun c2 => ?_) (fun c2 => ?_)
  · have h := h.1 c2
    refine s_iinc (L' := [some (zR (some 153)), some (zR (some a1)), some (zI (x2 + 1)), some (zI x3)]) A dX11_layLights_37 rfl rfl ?_
    refine s_goto (tgt := 2) A dX11_layLights_40 (by decide) ?_
    exact z_wk (L' := [some (zR (some 153)), some (zR (some a1)), some (zI (x2 + 1)), none]) ⟨rfl, rfl, rfl, trivial⟩ h
  · have h := h.2 c2
    refine s_aload_n A dX11_layLights_15 rfl ?_
    refine s_getf (k := 11) (j := 12) (sl := true) (v := zR (some 158)) A dX11_layLights_16 rfl zuw_X11 (Nat.le_of_ble_eq_true rfl) zwd1320 (by decide) (zk_153 _) rfl ?_
    refine s_iconst A dX11_layLights_19 ?_
    refine s_iload_n A dX11_layLights_20 rfl ?_
    refine s_imul A dX11_layLights_21 ?_
    refine s_iload_n A dX11_layLights_22 rfl ?_
    refine s_iadd A dX11_layLights_23 ?_
    refine s_aload_n A dX11_layLights_24 rfl ?_
    refine s_iload_n A dX11_layLights_25 rfl ?_
    refine s_iload_n A dX11_layLights_26 rfl ?_
    refine s_callS (M := mX11_lightOf) (n := 3) (d := 9) (mc := 0) (ms := 0) (av := [zR (some a1), zI x2, zI x3]) (st := [zI ((3 * x2) + x3), zR (some 158)]) A dX11_layLights_27 zwd1566 zwd1567 zwd100 zcd_X11_lightOf (Nat.le_of_ble_eq_true rfl) (Nat.le_of_ble_eq_true rfl) (Nat.le_refl _) ⟨Nat.le_of_ble_eq_true rfl, Nat.le_of_ble_eq_true rfl⟩ zhn_X11_lightOf rfl (Nat.le_of_ble_eq_true rfl) rfl (z_contI (fun v3 μ3 h => ?_) h)
    obtain ⟨ox4, h⟩ := h
    refine z_iast A dX11_layLights_30 (zk_158 _) (Nat.le_of_ble_eq_true rfl) ox4 ?_
    refine s_iinc (L' := [some (zR (some 153)), some (zR (some a1)), some (zI x2), some (zI (x3 + 1))]) A dX11_layLights_31 rfl rfl ?_
    refine s_goto (tgt := 10) A dX11_layLights_34 (by decide) ?_
    exact h
theorem eX11_layLights {G : zG} {F : zM → Prop} {μ : zM} {a1 : Nat} (h : ∀ J, zJ G true (10) 0 0 mX11_layLights (zKV F) J → J 0 ([some (zR (some 153)), some (zR (some a1)), none, none], [], μ, 0, 0)) : qX11_layLights G a1 μ F :=
  z_body (by decide +kernel) (Nat.le_of_ble_eq_true rfl) h
set_option maxRecDepth 20000 in
theorem rX11_open_e {G : zG} {F : Int → zM → Prop} {J : Nat → zS → Prop} {μ : zM} (C : zJ G true (3) 0 0 mX11_open (zKI F) J) (x1 : Int)
    (h : qX11_totalOf G true x1 μ (fun v1 μ1 => zin v1 ∧ zin (zi μ1 154 704) ∧ ((zi μ1 154 704 < v1 → F 0 μ1) ∧ (¬ (zi μ1 154 704 < v1) → qX11_amountOf G true x1 3 μ1 (fun v5 μ5 => zin v5 ∧ zin (zi μ5 154 707) ∧ ((zi μ5 154 707 < v5 → F 0 μ5) ∧ (¬ (zi μ5 154 707 < v5) → F 1 μ5))))))) : J 0 ([some (zR (some 153)), some (zI x1)], [], μ, 0, 0) := by
  obtain ⟨p, e, s, m, args, below, meth, c, A, hml, hr, hlk, hnm, rfl⟩ := C
  refine s_iload_n A dX11_open_0 rfl ?_
  refine s_callS (M := mX11_totalOf) (n := 1) (d := 2) (mc := 0) (ms := 0) (av := [zI x1]) (st := []) A dX11_open_1 zwd1617 zwd1618 zwd100 zcd_X11_totalOf (Nat.le_of_ble_eq_true rfl) (Nat.le_of_ble_eq_true rfl) (Nat.le_refl _) ⟨Nat.le_of_ble_eq_true rfl, Nat.le_of_ble_eq_true rfl⟩ zhn_X11_totalOf rfl (Nat.le_of_ble_eq_true rfl) rfl (z_contI (fun v1 μ1 h => ?_) h)
  refine s_aload_n A dX11_open_4 rfl ?_
  refine s_getf (k := 11) (j := 0) (sl := true) (v := zR (some 154)) A dX11_open_5 rfl zuw_X11 (Nat.le_of_ble_eq_true rfl) zwd1308 (by decide) (zk_153 _) rfl ?_
  refine s_sipush A dX11_open_8 rfl ?_
  refine z_iald A dX11_open_11 (zk_154 _) (Nat.le_of_ble_eq_true rfl) ⟨by decide, by decide⟩ ?_
  obtain ⟨oz2, h⟩ := h
  obtain ⟨oz3, h⟩ := h
  refine z_icmp_gt (tgt := 35) A dX11_open_12 (by decide) oz2 oz3 (fun c4 => ?_) (fun c4 => ?_)
  · have h := h.1 c4
    refine s_iconst A dX11_open_35 ?_
    exact s_zret A dX11_open_36 hr hlk (Nat.le_of_ble_eq_true rfl) (Nat.le_of_ble_eq_true rfl) (Or.inl rfl) ⟨_, rfl, h⟩
  · have h := h.2 c4
    refine s_iload_n A dX11_open_15 rfl ?_
    refine s_iconst A dX11_open_16 ?_
    refine s_callS (M := mX11_amountOf) (n := 2) (d := 0) (mc := 0) (ms := 0) (av := [zI x1, zI 3]) (st := []) A dX11_open_17 zwd1610 zwd1611 zwd100 zcd_X11_amountOf (Nat.le_of_ble_eq_true rfl) (Nat.le_of_ble_eq_true rfl) (Nat.le_refl _) ⟨Nat.le_of_ble_eq_true rfl, Nat.le_of_ble_eq_true rfl⟩ zhn_X11_amountOf rfl (Nat.le_of_ble_eq_true rfl) rfl (z_contI (fun v5 μ5 h => ?_) h)
    refine s_aload_n A dX11_open_20 rfl ?_
    refine s_getf (k := 11) (j := 0) (sl := true) (v := zR (some 154)) A dX11_open_21 rfl zuw_X11 (Nat.le_of_ble_eq_true rfl) zwd1308 (by decide) (zk_153 _) rfl ?_
    refine s_sipush A dX11_open_24 rfl ?_
    refine z_iald A dX11_open_27 (zk_154 _) (Nat.le_of_ble_eq_true rfl) ⟨by decide, by decide⟩ ?_
    obtain ⟨oz6, h⟩ := h
    obtain ⟨oz7, h⟩ := h
    refine z_icmp_gt (tgt := 35) A dX11_open_28 (by decide) oz6 oz7 (fun c8 => ?_) (fun c8 => ?_)
    · have h := h.1 c8
      refine s_iconst A dX11_open_35 ?_
      exact s_zret A dX11_open_36 hr hlk (Nat.le_of_ble_eq_true rfl) (Nat.le_of_ble_eq_true rfl) (Or.inl rfl) ⟨_, rfl, h⟩
    · have h := h.2 c8
      refine s_iconst A dX11_open_31 ?_
      refine s_goto (tgt := 36) A dX11_open_32 (by decide) ?_
      exact s_zret A dX11_open_36 hr hlk (Nat.le_of_ble_eq_true rfl) (Nat.le_of_ble_eq_true rfl) (Or.inr rfl) ⟨_, rfl, h⟩
theorem eX11_open {G : zG} {F : Int → zM → Prop} {μ : zM} {x1 : Int} (h : ∀ J, zJ G true (3) 0 0 mX11_open (zKI F) J → J 0 ([some (zR (some 153)), some (zI x1)], [], μ, 0, 0)) : qX11_open G x1 μ F :=
  z_body (by decide +kernel) (Nat.le_of_ble_eq_true rfl) h
set_option maxRecDepth 20000 in
theorem rX11_layColours_e {G : zG} {F : zM → Prop} {J : Nat → zS → Prop} {μ : zM} (C : zJ G true (11) 0 0 mX11_layColours (zKV F) J) {a1 n1 : Nat} (ha1 : zIsAr a1 n1) (hn1 : n1 < 2147483648)
    (h : qX11_layLights G a1 μ (fun μ1 => J 12 ([some (zR (some 153)), none, some (zI 0)], [], zup μ1 153 18 0, 0, 0))) : J 0 ([some (zR (some 153)), some (zR (some a1)), none], [], μ, 0, 0) := by
  obtain ⟨p, e, s, m, args, below, meth, c, A, hml, hr, hlk, hnm, rfl⟩ := C
  refine s_aload_n A dX11_layColours_0 rfl ?_
  refine s_aload_n A dX11_layColours_1 rfl ?_
  refine s_callV (a := 153) (k := 11) (N := 45) (sl := true) (M := mX11_layLights) (n := 1) (d := 10) (mc := 0) (ms := 0) (av := [zR (some a1)]) (st := []) A dX11_layColours_2 rfl (by decide) (zk_153 _) zwd1598 zwd1600 zwd48 zwd100 zcd_X11_layLights (Nat.le_of_ble_eq_true rfl) (Nat.le_of_ble_eq_true rfl) (Nat.le_refl _) ⟨Nat.le_of_ble_eq_true rfl, Nat.le_of_ble_eq_true rfl⟩ ⟨rfl, zhn_X11_layLights⟩ rfl (Nat.le_of_ble_eq_true rfl) rfl (z_contV (fun μ1 h => ?_) h)
  refine s_aload_n A dX11_layColours_5 rfl ?_
  refine s_iconst A dX11_layColours_6 ?_
  refine z_putI (k := 11) (j := 18) (sl := true) A dX11_layColours_7 rfl zuw_X11 (Nat.le_of_ble_eq_true rfl) zwd1326 (by decide) (zk_153 _) tyX11 tyX11_ok nmX11 rfl rfl rfl ?_
  refine s_iconst A dX11_layColours_10 ?_
  refine s_istore_n (L' := [some (zR (some 153)), some (zR (some a1)), some (zI 0)]) A dX11_layColours_11 (Nat.le_of_ble_eq_true rfl) rfl ?_
  exact z_wk (L' := [some (zR (some 153)), none, some (zI 0)]) ⟨rfl, rfl, trivial⟩ h
set_option maxRecDepth 20000 in
theorem rX11_layColours_12 {G : zG} {F : zM → Prop} {J : Nat → zS → Prop} {μ : zM} (C : zJ G true (11) 0 0 mX11_layColours (zKV F) J) (x2 : Int)
    (h : zin x2 ∧ ((6561 ≤ x2 → F μ) ∧ (¬ (6561 ≤ x2) → (0 ≤ x2 ∧ x2 < 6561) ∧ qX11_layColour G (zi μ 162 x2) 159 (3 * x2) μ (fun μ4 => qX11_open G (zi μ4 162 x2) μ4 (fun v5 μ5 => zin v5 ∧ ((v5 = 0 → J 12 ([some (zR (some 153)), none, some (zI (x2 + 1))], [], μ5, 0, 0)) ∧ (¬ (v5 = 0) → (0 ≤ zi μ5 153 18 ∧ zi μ5 153 18 < 6561) ∧ J 12 ([some (zR (some 153)), none, some (zI (x2 + 1))], [], zup (zup μ5 153 18 ((zi μ5 153 18) + 1)) 163 (zi μ5 153 18) x2, 0, 0)))))))) : J 12 ([some (zR (some 153)), none, some (zI x2)], [], μ, 0, 0) := by
  obtain ⟨p, e, s, m, args, below, meth, c, A, hml, hr, hlk, hnm, rfl⟩ := C
  refine s_iload_n A dX11_layColours_12 rfl ?_
  refine s_sipush A dX11_layColours_13 rfl ?_
  obtain ⟨oz1, h⟩ := h
  refine z_icmp_ge (tgt := 72) A dX11_layColours_16 (by decide) oz1 ⟨by decide, by decide⟩ (fun c2 => ?_) (fun c2 => ?_)
  · have h := h.1 c2
    exact s_vret A dX11_layColours_72 hr hlk (Nat.le_of_ble_eq_true rfl) (Nat.le_of_ble_eq_true rfl) ⟨rfl, h⟩
  · have h := h.2 c2
    refine s_aload_n A dX11_layColours_19 rfl ?_
    refine s_aload_n A dX11_layColours_20 rfl ?_
    refine s_getf (k := 11) (j := 16) (sl := true) (v := zR (some 162)) A dX11_layColours_21 rfl zuw_X11 (Nat.le_of_ble_eq_true rfl) zwd1324 (by decide) (zk_153 _) rfl ?_
    refine s_iload_n A dX11_layColours_24 rfl ?_
    obtain ⟨ox3, h⟩ := h
    refine z_iald A dX11_layColours_25 (zk_162 _) (Nat.le_of_ble_eq_true rfl) ox3 ?_
    refine s_aload_n A dX11_layColours_26 rfl ?_
    refine s_getf (k := 11) (j := 13) (sl := true) (v := zR (some 159)) A dX11_layColours_27 rfl zuw_X11 (Nat.le_of_ble_eq_true rfl) zwd1321 (by decide) (zk_153 _) rfl ?_
    refine s_iconst A dX11_layColours_30 ?_
    refine s_iload_n A dX11_layColours_31 rfl ?_
    refine s_imul A dX11_layColours_32 ?_
    refine s_callV (a := 153) (k := 11) (N := 45) (sl := true) (M := mX11_layColour) (n := 3) (d := 3) (mc := 0) (ms := 0) (av := [zI (zi μ 162 x2), zR (some 159), zI (3 * x2)]) (st := []) A dX11_layColours_33 rfl (by decide) (zk_153 _) zwd1602 zwd1604 zwd49 zwd100 zcd_X11_layColour (Nat.le_of_ble_eq_true rfl) (Nat.le_of_ble_eq_true rfl) (Nat.le_refl _) ⟨Nat.le_of_ble_eq_true rfl, Nat.le_of_ble_eq_true rfl⟩ ⟨rfl, zhn_X11_layColour⟩ rfl (Nat.le_of_ble_eq_true rfl) rfl (z_contV (fun μ4 h => ?_) h)
    refine s_aload_n A dX11_layColours_36 rfl ?_
    refine s_aload_n A dX11_layColours_37 rfl ?_
    refine s_getf (k := 11) (j := 16) (sl := true) (v := zR (some 162)) A dX11_layColours_38 rfl zuw_X11 (Nat.le_of_ble_eq_true rfl) zwd1324 (by decide) (zk_153 _) rfl ?_
    refine s_iload_n A dX11_layColours_41 rfl ?_
    refine z_iald A dX11_layColours_42 (zk_162 _) (Nat.le_of_ble_eq_true rfl) ox3 ?_
    refine s_callV (a := 153) (k := 11) (N := 45) (sl := true) (M := mX11_open) (n := 1) (d := 3) (mc := 0) (ms := 0) (av := [zI (zi μ4 162 x2)]) (st := []) A dX11_layColours_43 rfl (by decide) (zk_153 _) zwd1647 zwd1649 zwd56 zwd100 zcd_X11_open (Nat.le_of_ble_eq_true rfl) (Nat.le_of_ble_eq_true rfl) (Nat.le_refl _) ⟨Nat.le_of_ble_eq_true rfl, Nat.le_of_ble_eq_true rfl⟩ ⟨rfl, zhn_X11_open⟩ rfl (Nat.le_of_ble_eq_true rfl) rfl (z_contI (fun v5 μ5 h => ?_) h)
    obtain ⟨oz6, h⟩ := h
    refine z_if_eq (tgt := 66) A dX11_layColours_46 (by decide) oz6 (fun c7 => ?_) (fun c7 => ?_)
    · have h := h.1 c7
      refine s_iinc (L' := [some (zR (some 153)), none, some (zI (x2 + 1))]) A dX11_layColours_66 rfl rfl ?_
      refine s_goto (tgt := 12) A dX11_layColours_69 (by decide) ?_
      exact h
    · have h := h.2 c7
      refine s_aload_n A dX11_layColours_49 rfl ?_
      refine s_getf (k := 11) (j := 17) (sl := true) (v := zR (some 163)) A dX11_layColours_50 rfl zuw_X11 (Nat.le_of_ble_eq_true rfl) zwd1325 (by decide) (zk_153 _) rfl ?_
      refine s_aload_n A dX11_layColours_53 rfl ?_
      refine s_dup A dX11_layColours_54 rfl ?_
      refine s_getf (k := 11) (j := 18) (sl := true) (v := zI (zi μ5 153 18)) A dX11_layColours_55 rfl zuw_X11 (Nat.le_of_ble_eq_true rfl) zwd1326 (by decide) (zk_153 _) rfl ?_
      refine s_dup_x1 A dX11_layColours_58 rfl rfl ?_
      refine s_iconst A dX11_layColours_59 ?_
      refine s_iadd A dX11_layColours_60 ?_
      refine z_putI (k := 11) (j := 18) (sl := true) A dX11_layColours_61 rfl zuw_X11 (Nat.le_of_ble_eq_true rfl) zwd1326 (by decide) (zk_153 _) tyX11 tyX11_ok nmX11 rfl rfl rfl ?_
      refine s_iload_n A dX11_layColours_64 rfl ?_
      obtain ⟨ox8, h⟩ := h
      refine z_iast A dX11_layColours_65 (zk_163 _) (Nat.le_of_ble_eq_true rfl) ox8 ?_
      refine s_iinc (L' := [some (zR (some 153)), none, some (zI (x2 + 1))]) A dX11_layColours_66 rfl rfl ?_
      refine s_goto (tgt := 12) A dX11_layColours_69 (by decide) ?_
      exact h
theorem eX11_layColours {G : zG} {F : zM → Prop} {μ : zM} {a1 : Nat} (h : ∀ J, zJ G true (11) 0 0 mX11_layColours (zKV F) J → J 0 ([some (zR (some 153)), some (zR (some a1)), none], [], μ, 0, 0)) : qX11_layColours G a1 μ F :=
  z_body (by decide +kernel) (Nat.le_of_ble_eq_true rfl) h
set_option maxRecDepth 20000 in
theorem rX11_apart_e {G : zG} {F : Int → zM → Prop} {J : Nat → zS → Prop} {μ : zM} (C : zJ G true (0) 0 0 mX11_apart (zKI F) J) (x1 : Int) (x2 : Int) (x3 : Int) {a4 n4 : Nat} (ha4 : zIsAr a4 n4) (hn4 : n4 < 2147483648) (x5 : Int)
    (h : (0 ≤ x5 ∧ x5 < (n4 : Int)) ∧ (0 ≤ x5 + 1 ∧ x5 + 1 < (n4 : Int)) ∧ (0 ≤ x5 + 2 ∧ x5 + 2 < (n4 : Int)) ∧ F (((((zi μ 154 708) * ((zi μ a4 x5) - x1)) * ((zi μ a4 x5) - x1)) + (((zi μ 154 709) * ((zi μ a4 (x5 + 1)) - x2)) * ((zi μ a4 (x5 + 1)) - x2))) + (((zi μ 154 710) * ((zi μ a4 (x5 + 2)) - x3)) * ((zi μ a4 (x5 + 2)) - x3))) μ) : J 0 ([some (zR (some 153)), some (zI x1), some (zI x2), some (zI x3), some (zR (some a4)), some (zI x5), none, none, none], [], μ, 0, 0) := by
  obtain ⟨p, e, s, m, args, below, meth, c, A, hml, hr, hlk, hnm, rfl⟩ := C
  refine s_aload A dX11_apart_0 rfl ?_
  refine s_iload A dX11_apart_2 rfl ?_
  obtain ⟨ox1, h⟩ := h
  refine z_iald A dX11_apart_4 (ha4.k _) hn4 ox1 ?_
  refine s_iload_n A dX11_apart_5 rfl ?_
  refine s_isub A dX11_apart_6 ?_
  refine s_istore (L' := [some (zR (some 153)), some (zI x1), some (zI x2), some (zI x3), some (zR (some a4)), some (zI x5), some (zI ((zi μ a4 x5) - x1)), none, none]) A dX11_apart_7 (Nat.le_of_ble_eq_true rfl) rfl ?_
  refine s_aload A dX11_apart_9 rfl ?_
  refine s_iload A dX11_apart_11 rfl ?_
  refine s_iconst A dX11_apart_13 ?_
  refine s_iadd A dX11_apart_14 ?_
  obtain ⟨ox2, h⟩ := h
  refine z_iald A dX11_apart_15 (ha4.k _) hn4 ox2 ?_
  refine s_iload_n A dX11_apart_16 rfl ?_
  refine s_isub A dX11_apart_17 ?_
  refine s_istore (L' := [some (zR (some 153)), some (zI x1), some (zI x2), some (zI x3), some (zR (some a4)), some (zI x5), some (zI ((zi μ a4 x5) - x1)), some (zI ((zi μ a4 (x5 + 1)) - x2)), none]) A dX11_apart_18 (Nat.le_of_ble_eq_true rfl) rfl ?_
  refine s_aload A dX11_apart_20 rfl ?_
  refine s_iload A dX11_apart_22 rfl ?_
  refine s_iconst A dX11_apart_24 ?_
  refine s_iadd A dX11_apart_25 ?_
  obtain ⟨ox3, h⟩ := h
  refine z_iald A dX11_apart_26 (ha4.k _) hn4 ox3 ?_
  refine s_iload_n A dX11_apart_27 rfl ?_
  refine s_isub A dX11_apart_28 ?_
  refine s_istore (L' := [some (zR (some 153)), some (zI x1), some (zI x2), some (zI x3), some (zR (some a4)), some (zI x5), some (zI ((zi μ a4 x5) - x1)), some (zI ((zi μ a4 (x5 + 1)) - x2)), some (zI ((zi μ a4 (x5 + 2)) - x3))]) A dX11_apart_29 (Nat.le_of_ble_eq_true rfl) rfl ?_
  refine s_aload_n A dX11_apart_31 rfl ?_
  refine s_getf (k := 11) (j := 0) (sl := true) (v := zR (some 154)) A dX11_apart_32 rfl zuw_X11 (Nat.le_of_ble_eq_true rfl) zwd1308 (by decide) (zk_153 _) rfl ?_
  refine s_sipush A dX11_apart_35 rfl ?_
  refine z_iald A dX11_apart_38 (zk_154 _) (Nat.le_of_ble_eq_true rfl) ⟨by decide, by decide⟩ ?_
  refine s_iload A dX11_apart_39 rfl ?_
  refine s_imul A dX11_apart_41 ?_
  refine s_iload A dX11_apart_42 rfl ?_
  refine s_imul A dX11_apart_44 ?_
  refine s_aload_n A dX11_apart_45 rfl ?_
  refine s_getf (k := 11) (j := 0) (sl := true) (v := zR (some 154)) A dX11_apart_46 rfl zuw_X11 (Nat.le_of_ble_eq_true rfl) zwd1308 (by decide) (zk_153 _) rfl ?_
  refine s_sipush A dX11_apart_49 rfl ?_
  refine z_iald A dX11_apart_52 (zk_154 _) (Nat.le_of_ble_eq_true rfl) ⟨by decide, by decide⟩ ?_
  refine s_iload A dX11_apart_53 rfl ?_
  refine s_imul A dX11_apart_55 ?_
  refine s_iload A dX11_apart_56 rfl ?_
  refine s_imul A dX11_apart_58 ?_
  refine s_iadd A dX11_apart_59 ?_
  refine s_aload_n A dX11_apart_60 rfl ?_
  refine s_getf (k := 11) (j := 0) (sl := true) (v := zR (some 154)) A dX11_apart_61 rfl zuw_X11 (Nat.le_of_ble_eq_true rfl) zwd1308 (by decide) (zk_153 _) rfl ?_
  refine s_sipush A dX11_apart_64 rfl ?_
  refine z_iald A dX11_apart_67 (zk_154 _) (Nat.le_of_ble_eq_true rfl) ⟨by decide, by decide⟩ ?_
  refine s_iload A dX11_apart_68 rfl ?_
  refine s_imul A dX11_apart_70 ?_
  refine s_iload A dX11_apart_71 rfl ?_
  refine s_imul A dX11_apart_73 ?_
  refine s_iadd A dX11_apart_74 ?_
  exact s_iret A dX11_apart_75 hr hlk (Nat.le_of_ble_eq_true rfl) (Nat.le_of_ble_eq_true rfl) ⟨_, rfl, h⟩
theorem eX11_apart {G : zG} {F : Int → zM → Prop} {μ : zM} {x1 : Int} {x2 : Int} {x3 : Int} {a4 : Nat} {x5 : Int} (h : ∀ J, zJ G true (0) 0 0 mX11_apart (zKI F) J → J 0 ([some (zR (some 153)), some (zI x1), some (zI x2), some (zI x3), some (zR (some a4)), some (zI x5), none, none, none], [], μ, 0, 0)) : qX11_apart G x1 x2 x3 a4 x5 μ F :=
  z_body (by decide +kernel) (Nat.le_of_ble_eq_true rfl) h
set_option maxRecDepth 20000 in
theorem rX11_apartOf_e {G : zG} {F : Int → zM → Prop} {J : Nat → zS → Prop} {μ : zM} (C : zJ G true (2) 0 0 mX11_apartOf (zKI F) J) (x1 : Int) (x2 : Int) (x3 : Int) (x4 : Int)
    (h : qX11_apart G x2 x3 x4 159 (3 * x1) μ (fun v1 μ1 => F v1 μ1)) : J 0 ([some (zR (some 153)), some (zI x1), some (zI x2), some (zI x3), some (zI x4)], [], μ, 0, 0) := by
  obtain ⟨p, e, s, m, args, below, meth, c, A, hml, hr, hlk, hnm, rfl⟩ := C
  refine s_aload_n A dX11_apartOf_0 rfl ?_
  refine s_iload_n A dX11_apartOf_1 rfl ?_
  refine s_iload_n A dX11_apartOf_2 rfl ?_
  refine s_iload A dX11_apartOf_3 rfl ?_
  refine s_aload_n A dX11_apartOf_5 rfl ?_
  refine s_getf (k := 11) (j := 13) (sl := true) (v := zR (some 159)) A dX11_apartOf_6 rfl zuw_X11 (Nat.le_of_ble_eq_true rfl) zwd1321 (by decide) (zk_153 _) rfl ?_
  refine s_iconst A dX11_apartOf_9 ?_
  refine s_iload_n A dX11_apartOf_10 rfl ?_
  refine s_imul A dX11_apartOf_11 ?_
  refine s_callV (a := 153) (k := 11) (N := 45) (sl := true) (M := mX11_apart) (n := 5) (d := 0) (mc := 0) (ms := 0) (av := [zI x2, zI x3, zI x4, zR (some 159), zI (3 * x1)]) (st := []) A dX11_apartOf_12 rfl (by decide) (zk_153 _) zwd1663 zwd1665 zwd60 zwd100 zcd_X11_apart (Nat.le_of_ble_eq_true rfl) (Nat.le_of_ble_eq_true rfl) (Nat.le_refl _) ⟨Nat.le_of_ble_eq_true rfl, Nat.le_of_ble_eq_true rfl⟩ ⟨rfl, zhn_X11_apart⟩ rfl (Nat.le_of_ble_eq_true rfl) rfl (z_contI (fun v1 μ1 h => ?_) h)
  exact s_iret A dX11_apartOf_15 hr hlk (Nat.le_of_ble_eq_true rfl) (Nat.le_of_ble_eq_true rfl) ⟨_, rfl, h⟩
theorem eX11_apartOf {G : zG} {F : Int → zM → Prop} {μ : zM} {x1 : Int} {x2 : Int} {x3 : Int} {x4 : Int} (h : ∀ J, zJ G true (2) 0 0 mX11_apartOf (zKI F) J → J 0 ([some (zR (some 153)), some (zI x1), some (zI x2), some (zI x3), some (zI x4)], [], μ, 0, 0)) : qX11_apartOf G x1 x2 x3 x4 μ F :=
  z_body (by decide +kernel) (Nat.le_of_ble_eq_true rfl) h
set_option maxRecDepth 20000 in
theorem rX11_between_e {G : zG} {F : Int → zM → Prop} {J : Nat → zS → Prop} {μ : zM} (C : zJ G true (3) 0 0 mX11_between (zKI F) J) (x1 : Int) (x2 : Int)
    (h : (0 ≤ 3 * x2 ∧ 3 * x2 < 19683) ∧ (0 ≤ (3 * x2) + 1 ∧ (3 * x2) + 1 < 19683) ∧ (0 ≤ (3 * x2) + 2 ∧ (3 * x2) + 2 < 19683) ∧ qX11_apartOf G x1 (zi μ 159 (3 * x2)) (zi μ 159 ((3 * x2) + 1)) (zi μ 159 ((3 * x2) + 2)) μ (fun v4 μ4 => F v4 μ4)) : J 0 ([some (zR (some 153)), some (zI x1), some (zI x2)], [], μ, 0, 0) := by
  obtain ⟨p, e, s, m, args, below, meth, c, A, hml, hr, hlk, hnm, rfl⟩ := C
  refine s_aload_n A dX11_between_0 rfl ?_
  refine s_iload_n A dX11_between_1 rfl ?_
  refine s_aload_n A dX11_between_2 rfl ?_
  refine s_getf (k := 11) (j := 13) (sl := true) (v := zR (some 159)) A dX11_between_3 rfl zuw_X11 (Nat.le_of_ble_eq_true rfl) zwd1321 (by decide) (zk_153 _) rfl ?_
  refine s_iconst A dX11_between_6 ?_
  refine s_iload_n A dX11_between_7 rfl ?_
  refine s_imul A dX11_between_8 ?_
  obtain ⟨ox1, h⟩ := h
  refine z_iald A dX11_between_9 (zk_159 _) (Nat.le_of_ble_eq_true rfl) ox1 ?_
  refine s_aload_n A dX11_between_10 rfl ?_
  refine s_getf (k := 11) (j := 13) (sl := true) (v := zR (some 159)) A dX11_between_11 rfl zuw_X11 (Nat.le_of_ble_eq_true rfl) zwd1321 (by decide) (zk_153 _) rfl ?_
  refine s_iconst A dX11_between_14 ?_
  refine s_iload_n A dX11_between_15 rfl ?_
  refine s_imul A dX11_between_16 ?_
  refine s_iconst A dX11_between_17 ?_
  refine s_iadd A dX11_between_18 ?_
  obtain ⟨ox2, h⟩ := h
  refine z_iald A dX11_between_19 (zk_159 _) (Nat.le_of_ble_eq_true rfl) ox2 ?_
  refine s_aload_n A dX11_between_20 rfl ?_
  refine s_getf (k := 11) (j := 13) (sl := true) (v := zR (some 159)) A dX11_between_21 rfl zuw_X11 (Nat.le_of_ble_eq_true rfl) zwd1321 (by decide) (zk_153 _) rfl ?_
  refine s_iconst A dX11_between_24 ?_
  refine s_iload_n A dX11_between_25 rfl ?_
  refine s_imul A dX11_between_26 ?_
  refine s_iconst A dX11_between_27 ?_
  refine s_iadd A dX11_between_28 ?_
  obtain ⟨ox3, h⟩ := h
  refine z_iald A dX11_between_29 (zk_159 _) (Nat.le_of_ble_eq_true rfl) ox3 ?_
  refine s_callV (a := 153) (k := 11) (N := 45) (sl := true) (M := mX11_apartOf) (n := 4) (d := 2) (mc := 0) (ms := 0) (av := [zI x1, zI (zi μ 159 (3 * x2)), zI (zi μ 159 ((3 * x2) + 1)), zI (zi μ 159 ((3 * x2) + 2))]) (st := []) A dX11_between_30 rfl (by decide) (zk_153 _) zwd1659 zwd1661 zwd59 zwd100 zcd_X11_apartOf (Nat.le_of_ble_eq_true rfl) (Nat.le_of_ble_eq_true rfl) (Nat.le_refl _) ⟨Nat.le_of_ble_eq_true rfl, Nat.le_of_ble_eq_true rfl⟩ ⟨rfl, zhn_X11_apartOf⟩ rfl (Nat.le_of_ble_eq_true rfl) rfl (z_contI (fun v4 μ4 h => ?_) h)
  exact s_iret A dX11_between_33 hr hlk (Nat.le_of_ble_eq_true rfl) (Nat.le_of_ble_eq_true rfl) ⟨_, rfl, h⟩
theorem eX11_between {G : zG} {F : Int → zM → Prop} {μ : zM} {x1 : Int} {x2 : Int} (h : ∀ J, zJ G true (3) 0 0 mX11_between (zKI F) J → J 0 ([some (zR (some 153)), some (zI x1), some (zI x2)], [], μ, 0, 0)) : qX11_between G x1 x2 μ F :=
  z_body (by decide +kernel) (Nat.le_of_ble_eq_true rfl) h
set_option maxRecDepth 20000 in
theorem rX11_isWanted_e {G : zG} {ph : Bool} {F : Int → zM → Prop} {J : Nat → zS → Prop} {μ : zM} (C : zJ G ph (2) 0 0 mX11_isWanted (zKI F) J) (x0 : Int) (x1 : Int) (x2 : Int)
    (h : qX11_in G ph x0 0 400 μ (fun v1 μ1 => zin v1 ∧ ((v1 = 0 → F 0 μ1) ∧ (¬ (v1 = 0) → qX11_in G ph x1 0 400 μ1 (fun v4 μ4 => zin v4 ∧ ((v4 = 0 → F 0 μ4) ∧ (¬ (v4 = 0) → qX11_in G ph x2 0 400 μ4 (fun v7 μ7 => zin v7 ∧ ((v7 = 0 → F 0 μ7) ∧ (¬ (v7 = 0) → F 1 μ7)))))))))) : J 0 ([some (zI x0), some (zI x1), some (zI x2)], [], μ, 0, 0) := by
  obtain ⟨p, e, s, m, args, below, meth, c, A, hml, hr, hlk, hnm, rfl⟩ := C
  refine s_iload_n A dX11_isWanted_0 rfl ?_
  refine s_iconst A dX11_isWanted_1 ?_
  refine s_sipush A dX11_isWanted_2 rfl ?_
  refine s_callS (M := mX11_in) (n := 3) (d := 0) (mc := 0) (ms := 0) (av := [zI x0, zI 0, zI 400]) (st := []) A dX11_isWanted_5 zwd1456 zwd1457 zwd100 zcd_X11_in (Nat.le_of_ble_eq_true rfl) (Nat.le_of_ble_eq_true rfl) (Nat.le_refl _) ⟨Nat.le_of_ble_eq_true rfl, Nat.le_of_ble_eq_true rfl⟩ zhn_X11_in rfl (Nat.le_of_ble_eq_true rfl) rfl (z_contI (fun v1 μ1 h => ?_) h)
  obtain ⟨oz2, h⟩ := h
  refine z_if_eq (tgt := 37) A dX11_isWanted_8 (by decide) oz2 (fun c3 => ?_) (fun c3 => ?_)
  · have h := h.1 c3
    refine s_iconst A dX11_isWanted_37 ?_
    exact s_zret A dX11_isWanted_38 hr hlk (Nat.le_of_ble_eq_true rfl) (Nat.le_of_ble_eq_true rfl) (Or.inl rfl) ⟨_, rfl, h⟩
  · have h := h.2 c3
    refine s_iload_n A dX11_isWanted_11 rfl ?_
    refine s_iconst A dX11_isWanted_12 ?_
    refine s_sipush A dX11_isWanted_13 rfl ?_
    refine s_callS (M := mX11_in) (n := 3) (d := 0) (mc := 0) (ms := 0) (av := [zI x1, zI 0, zI 400]) (st := []) A dX11_isWanted_16 zwd1456 zwd1457 zwd100 zcd_X11_in (Nat.le_of_ble_eq_true rfl) (Nat.le_of_ble_eq_true rfl) (Nat.le_refl _) ⟨Nat.le_of_ble_eq_true rfl, Nat.le_of_ble_eq_true rfl⟩ zhn_X11_in rfl (Nat.le_of_ble_eq_true rfl) rfl (z_contI (fun v4 μ4 h => ?_) h)
    obtain ⟨oz5, h⟩ := h
    refine z_if_eq (tgt := 37) A dX11_isWanted_19 (by decide) oz5 (fun c6 => ?_) (fun c6 => ?_)
    · have h := h.1 c6
      refine s_iconst A dX11_isWanted_37 ?_
      exact s_zret A dX11_isWanted_38 hr hlk (Nat.le_of_ble_eq_true rfl) (Nat.le_of_ble_eq_true rfl) (Or.inl rfl) ⟨_, rfl, h⟩
    · have h := h.2 c6
      refine s_iload_n A dX11_isWanted_22 rfl ?_
      refine s_iconst A dX11_isWanted_23 ?_
      refine s_sipush A dX11_isWanted_24 rfl ?_
      refine s_callS (M := mX11_in) (n := 3) (d := 0) (mc := 0) (ms := 0) (av := [zI x2, zI 0, zI 400]) (st := []) A dX11_isWanted_27 zwd1456 zwd1457 zwd100 zcd_X11_in (Nat.le_of_ble_eq_true rfl) (Nat.le_of_ble_eq_true rfl) (Nat.le_refl _) ⟨Nat.le_of_ble_eq_true rfl, Nat.le_of_ble_eq_true rfl⟩ zhn_X11_in rfl (Nat.le_of_ble_eq_true rfl) rfl (z_contI (fun v7 μ7 h => ?_) h)
      obtain ⟨oz8, h⟩ := h
      refine z_if_eq (tgt := 37) A dX11_isWanted_30 (by decide) oz8 (fun c9 => ?_) (fun c9 => ?_)
      · have h := h.1 c9
        refine s_iconst A dX11_isWanted_37 ?_
        exact s_zret A dX11_isWanted_38 hr hlk (Nat.le_of_ble_eq_true rfl) (Nat.le_of_ble_eq_true rfl) (Or.inl rfl) ⟨_, rfl, h⟩
      · have h := h.2 c9
        refine s_iconst A dX11_isWanted_33 ?_
        refine s_goto (tgt := 38) A dX11_isWanted_34 (by decide) ?_
        exact s_zret A dX11_isWanted_38 hr hlk (Nat.le_of_ble_eq_true rfl) (Nat.le_of_ble_eq_true rfl) (Or.inr rfl) ⟨_, rfl, h⟩
theorem eX11_isWanted {G : zG} {ph : Bool} {F : Int → zM → Prop} {μ : zM} {x0 : Int} {x1 : Int} {x2 : Int} (h : ∀ J, zJ G ph (2) 0 0 mX11_isWanted (zKI F) J → J 0 ([some (zI x0), some (zI x1), some (zI x2)], [], μ, 0, 0)) : qX11_isWanted G ph x0 x1 x2 μ F :=
  z_body (by decide +kernel) (Nat.le_of_ble_eq_true rfl) h
set_option maxRecDepth 20000 in
theorem rX11_colour_e {G : zG} {F : Int → zM → Prop} {J : Nat → zS → Prop} {μ : zM} (C : zJ G true (11) 0 0 mX11_colour (zKI F) J) (x1 : Int)
    (h : qX11_isCode G true x1 (zup μ 153 5 0) (fun v1 μ1 => zin v1 ∧ ((¬ v1 = 0 → qX11_layLights G 154 μ1 (fun μ4 => qX11_layColour G x1 159 0 μ4 (fun μ5 => J 39 ([some (zR (some 153)), some (zI x1), some (zI 0)], [], zup μ5 153 4 0, 0, 0)))) ∧ (v1 = 0 → F (-1) μ1)))) : J 0 ([some (zR (some 153)), some (zI x1), none], [], μ, 0, 0) := by
  obtain ⟨p, e, s, m, args, below, meth, c, A, hml, hr, hlk, hnm, rfl⟩ := C
  refine s_aload_n A dX11_colour_0 rfl ?_
  refine s_iconst A dX11_colour_1 ?_
  refine z_putI (k := 11) (j := 5) (sl := true) A dX11_colour_2 rfl zuw_X11 (Nat.le_of_ble_eq_true rfl) zwd1313 (by decide) (zk_153 _) tyX11 tyX11_ok nmX11 rfl rfl rfl ?_
  refine s_iload_n A dX11_colour_5 rfl ?_
  refine s_callS (M := mX11_isCode) (n := 1) (d := 2) (mc := 0) (ms := 0) (av := [zI x1]) (st := []) A dX11_colour_6 zwd1595 zwd1596 zwd100 zcd_X11_isCode (Nat.le_of_ble_eq_true rfl) (Nat.le_of_ble_eq_true rfl) (Nat.le_refl _) ⟨Nat.le_of_ble_eq_true rfl, Nat.le_of_ble_eq_true rfl⟩ zhn_X11_isCode rfl (Nat.le_of_ble_eq_true rfl) rfl (z_contI (fun v1 μ1 h => ?_) h)
  obtain ⟨oz2, h⟩ := h
  refine z_if_ne (tgt := 14) A dX11_colour_9 (by decide) oz2 (fun c3 => ?_) (fun c3 => ?_)
  · have h := h.1 c3
    refine s_aload_n A dX11_colour_14 rfl ?_
    refine s_aload_n A dX11_colour_15 rfl ?_
    refine s_getf (k := 11) (j := 0) (sl := true) (v := zR (some 154)) A dX11_colour_16 rfl zuw_X11 (Nat.le_of_ble_eq_true rfl) zwd1308 (by decide) (zk_153 _) rfl ?_
    refine s_callV (a := 153) (k := 11) (N := 45) (sl := true) (M := mX11_layLights) (n := 1) (d := 10) (mc := 0) (ms := 0) (av := [zR (some 154)]) (st := []) A dX11_colour_19 rfl (by decide) (zk_153 _) zwd1598 zwd1600 zwd48 zwd100 zcd_X11_layLights (Nat.le_of_ble_eq_true rfl) (Nat.le_of_ble_eq_true rfl) (Nat.le_refl _) ⟨Nat.le_of_ble_eq_true rfl, Nat.le_of_ble_eq_true rfl⟩ ⟨rfl, zhn_X11_layLights⟩ rfl (Nat.le_of_ble_eq_true rfl) rfl (z_contV (fun μ4 h => ?_) h)
    refine s_aload_n A dX11_colour_22 rfl ?_
    refine s_iload_n A dX11_colour_23 rfl ?_
    refine s_aload_n A dX11_colour_24 rfl ?_
    refine s_getf (k := 11) (j := 13) (sl := true) (v := zR (some 159)) A dX11_colour_25 rfl zuw_X11 (Nat.le_of_ble_eq_true rfl) zwd1321 (by decide) (zk_153 _) rfl ?_
    refine s_iconst A dX11_colour_28 ?_
    refine s_callV (a := 153) (k := 11) (N := 45) (sl := true) (M := mX11_layColour) (n := 3) (d := 3) (mc := 0) (ms := 0) (av := [zI x1, zR (some 159), zI 0]) (st := []) A dX11_colour_29 rfl (by decide) (zk_153 _) zwd1602 zwd1604 zwd49 zwd100 zcd_X11_layColour (Nat.le_of_ble_eq_true rfl) (Nat.le_of_ble_eq_true rfl) (Nat.le_refl _) ⟨Nat.le_of_ble_eq_true rfl, Nat.le_of_ble_eq_true rfl⟩ ⟨rfl, zhn_X11_layColour⟩ rfl (Nat.le_of_ble_eq_true rfl) rfl (z_contV (fun μ5 h => ?_) h)
    refine s_aload_n A dX11_colour_32 rfl ?_
    refine s_iconst A dX11_colour_33 ?_
    refine z_putI (k := 11) (j := 4) (sl := true) A dX11_colour_34 rfl zuw_X11 (Nat.le_of_ble_eq_true rfl) zwd1312 (by decide) (zk_153 _) tyX11 tyX11_ok nmX11 rfl rfl rfl ?_
    refine s_iconst A dX11_colour_37 ?_
    refine s_istore_n (L' := [some (zR (some 153)), some (zI x1), some (zI 0)]) A dX11_colour_38 (Nat.le_of_ble_eq_true rfl) rfl ?_
    exact h
  · have h := h.2 c3
    refine s_iconst A dX11_colour_12 ?_
    exact s_iret A dX11_colour_13 hr hlk (Nat.le_of_ble_eq_true rfl) (Nat.le_of_ble_eq_true rfl) ⟨_, rfl, h⟩
set_option maxRecDepth 20000 in
theorem rX11_colour_39 {G : zG} {F : Int → zM → Prop} {J : Nat → zS → Prop} {μ : zM} (C : zJ G true (11) 0 0 mX11_colour (zKI F) J) (x1 : Int) (x2 : Int)
    (h : zin x2 ∧ ((3 ≤ x2 → qX11_totalOf G true x1 μ (fun v3 μ3 => F v3 μ3)) ∧ (¬ (3 ≤ x2) → (0 ≤ x2 ∧ x2 < 19683) ∧ zin (zi μ 159 x2) ∧ qX11_tell G (zi μ 159 x2) μ (fun μ6 => J 39 ([some (zR (some 153)), some (zI x1), some (zI (x2 + 1))], [], μ6, 0, 0))))) : J 39 ([some (zR (some 153)), some (zI x1), some (zI x2)], [], μ, 0, 0) := by
  obtain ⟨p, e, s, m, args, below, meth, c, A, hml, hr, hlk, hnm, rfl⟩ := C
  refine s_iload_n A dX11_colour_39 rfl ?_
  refine s_iconst A dX11_colour_40 ?_
  obtain ⟨oz1, h⟩ := h
  refine z_icmp_ge (tgt := 61) A dX11_colour_41 (by decide) oz1 ⟨by decide, by decide⟩ (fun c2 => ?_) (fun c2 => ?_)
  · have h := h.1 c2
    refine s_iload_n A dX11_colour_61 rfl ?_
    refine s_callS (M := mX11_totalOf) (n := 1) (d := 2) (mc := 0) (ms := 0) (av := [zI x1]) (st := []) A dX11_colour_62 zwd1617 zwd1618 zwd100 zcd_X11_totalOf (Nat.le_of_ble_eq_true rfl) (Nat.le_of_ble_eq_true rfl) (Nat.le_refl _) ⟨Nat.le_of_ble_eq_true rfl, Nat.le_of_ble_eq_true rfl⟩ zhn_X11_totalOf rfl (Nat.le_of_ble_eq_true rfl) rfl (z_contI (fun v3 μ3 h => ?_) h)
    exact s_iret A dX11_colour_65 hr hlk (Nat.le_of_ble_eq_true rfl) (Nat.le_of_ble_eq_true rfl) ⟨_, rfl, h⟩
  · have h := h.2 c2
    refine s_aload_n A dX11_colour_44 rfl ?_
    refine s_aload_n A dX11_colour_45 rfl ?_
    refine s_getf (k := 11) (j := 13) (sl := true) (v := zR (some 159)) A dX11_colour_46 rfl zuw_X11 (Nat.le_of_ble_eq_true rfl) zwd1321 (by decide) (zk_153 _) rfl ?_
    refine s_iload_n A dX11_colour_49 rfl ?_
    obtain ⟨ox4, h⟩ := h
    refine z_iald A dX11_colour_50 (zk_159 _) (Nat.le_of_ble_eq_true rfl) ox4 ?_
    obtain ⟨oz5, h⟩ := h
    refine z_i2l2 A dX11_colour_51 oz5 ?_
    refine s_callV (a := 153) (k := 11) (N := 45) (sl := true) (M := mX11_tell) (n := 1) (d := 0) (mc := 0) (ms := 0) (av := [zL (zi μ 159 x2)]) (st := []) A dX11_colour_52 rfl (by decide) (zk_153 _) zwd1613 zwd1615 zwd51 zwd100 zcd_X11_tell (Nat.le_of_ble_eq_true rfl) (Nat.le_of_ble_eq_true rfl) (Nat.le_refl _) ⟨Nat.le_of_ble_eq_true rfl, Nat.le_of_ble_eq_true rfl⟩ ⟨rfl, zhn_X11_tell⟩ rfl (Nat.le_of_ble_eq_true rfl) rfl (z_contV (fun μ6 h => ?_) h)
    refine s_iinc (L' := [some (zR (some 153)), some (zI x1), some (zI (x2 + 1))]) A dX11_colour_55 rfl rfl ?_
    refine s_goto (tgt := 39) A dX11_colour_58 (by decide) ?_
    exact h
theorem eX11_colour {G : zG} {F : Int → zM → Prop} {μ : zM} {x1 : Int} (h : ∀ J, zJ G true (11) 0 0 mX11_colour (zKI F) J → J 0 ([some (zR (some 153)), some (zI x1), none], [], μ, 0, 0)) : qX11_colour G x1 μ F :=
  z_body (by decide +kernel) (Nat.le_of_ble_eq_true rfl) h
set_option maxRecDepth 20000 in
theorem rX11_take_e {G : zG} {F : zM → Prop} {J : Nat → zS → Prop} {μ : zM} (C : zJ G true (2) 0 0 mX11_take (zKV F) J) (x1 : Int)
    (h : J 2 ([some (zR (some 153)), some (zI x1), some (zI 0)], [], μ, 0, 0)) : J 0 ([some (zR (some 153)), some (zI x1), none], [], μ, 0, 0) := by
  obtain ⟨p, e, s, m, args, below, meth, c, A, hml, hr, hlk, hnm, rfl⟩ := C
  refine s_iconst A dX11_take_0 ?_
  refine s_istore_n (L' := [some (zR (some 153)), some (zI x1), some (zI 0)]) A dX11_take_1 (Nat.le_of_ble_eq_true rfl) rfl ?_
  exact h
set_option maxRecDepth 20000 in
theorem rX11_take_2 {G : zG} {F : zM → Prop} {J : Nat → zS → Prop} {μ : zM} (C : zJ G true (2) 0 0 mX11_take (zKV F) J) (x1 : Int) (x2 : Int)
    (h : zin x2 ∧ ((4 ≤ x2 → F μ) ∧ (¬ (4 ≤ x2) → qX11_amountOf G true x1 x2 μ (fun v3 μ3 => (0 ≤ x2 ∧ x2 < 4) ∧ J 2 ([some (zR (some 153)), some (zI x1), some (zI (x2 + 1))], [], zup μ3 164 x2 v3, 0, 0))))) : J 2 ([some (zR (some 153)), some (zI x1), some (zI x2)], [], μ, 0, 0) := by
  obtain ⟨p, e, s, m, args, below, meth, c, A, hml, hr, hlk, hnm, rfl⟩ := C
  refine s_iload_n A dX11_take_2 rfl ?_
  refine s_iconst A dX11_take_3 ?_
  obtain ⟨oz1, h⟩ := h
  refine z_icmp_ge (tgt := 24) A dX11_take_4 (by decide) oz1 ⟨by decide, by decide⟩ (fun c2 => ?_) (fun c2 => ?_)
  · have h := h.1 c2
    exact s_vret A dX11_take_24 hr hlk (Nat.le_of_ble_eq_true rfl) (Nat.le_of_ble_eq_true rfl) ⟨rfl, h⟩
  · have h := h.2 c2
    refine s_aload_n A dX11_take_7 rfl ?_
    refine s_getf (k := 11) (j := 19) (sl := true) (v := zR (some 164)) A dX11_take_8 rfl zuw_X11 (Nat.le_of_ble_eq_true rfl) zwd1327 (by decide) (zk_153 _) rfl ?_
    refine s_iload_n A dX11_take_11 rfl ?_
    refine s_iload_n A dX11_take_12 rfl ?_
    refine s_iload_n A dX11_take_13 rfl ?_
    refine s_callS (M := mX11_amountOf) (n := 2) (d := 0) (mc := 0) (ms := 0) (av := [zI x1, zI x2]) (st := [zI x2, zR (some 164)]) A dX11_take_14 zwd1610 zwd1611 zwd100 zcd_X11_amountOf (Nat.le_of_ble_eq_true rfl) (Nat.le_of_ble_eq_true rfl) (Nat.le_refl _) ⟨Nat.le_of_ble_eq_true rfl, Nat.le_of_ble_eq_true rfl⟩ zhn_X11_amountOf rfl (Nat.le_of_ble_eq_true rfl) rfl (z_contI (fun v3 μ3 h => ?_) h)
    obtain ⟨ox4, h⟩ := h
    refine z_iast A dX11_take_17 (zk_164 _) (Nat.le_of_ble_eq_true rfl) ox4 ?_
    refine s_iinc (L' := [some (zR (some 153)), some (zI x1), some (zI (x2 + 1))]) A dX11_take_18 rfl rfl ?_
    refine s_goto (tgt := 2) A dX11_take_21 (by decide) ?_
    exact h
theorem eX11_take {G : zG} {F : zM → Prop} {μ : zM} {x1 : Int} (h : ∀ J, zJ G true (2) 0 0 mX11_take (zKV F) J → J 0 ([some (zR (some 153)), some (zI x1), none], [], μ, 0, 0)) : qX11_take G x1 μ F :=
  z_body (by decide +kernel) (Nat.le_of_ble_eq_true rfl) h
set_option maxRecDepth 20000 in
theorem rX11_codeNow_e {G : zG} {F : Int → zM → Prop} {J : Nat → zS → Prop} {μ : zM} (C : zJ G true (0) 0 0 mX11_codeNow (zKI F) J) 
    (h : F ((((1000 * (zi μ 164 0)) + (100 * (zi μ 164 1))) + (10 * (zi μ 164 2))) + (zi μ 164 3)) μ) : J 0 ([some (zR (some 153))], [], μ, 0, 0) := by
  obtain ⟨p, e, s, m, args, below, meth, c, A, hml, hr, hlk, hnm, rfl⟩ := C
  refine s_sipush A dX11_codeNow_0 rfl ?_
  refine s_aload_n A dX11_codeNow_3 rfl ?_
  refine s_getf (k := 11) (j := 19) (sl := true) (v := zR (some 164)) A dX11_codeNow_4 rfl zuw_X11 (Nat.le_of_ble_eq_true rfl) zwd1327 (by decide) (zk_153 _) rfl ?_
  refine s_iconst A dX11_codeNow_7 ?_
  refine z_iald A dX11_codeNow_8 (zk_164 _) (Nat.le_of_ble_eq_true rfl) ⟨by decide, by decide⟩ ?_
  refine s_imul A dX11_codeNow_9 ?_
  refine s_bipush A dX11_codeNow_10 rfl ?_
  refine s_aload_n A dX11_codeNow_12 rfl ?_
  refine s_getf (k := 11) (j := 19) (sl := true) (v := zR (some 164)) A dX11_codeNow_13 rfl zuw_X11 (Nat.le_of_ble_eq_true rfl) zwd1327 (by decide) (zk_153 _) rfl ?_
  refine s_iconst A dX11_codeNow_16 ?_
  refine z_iald A dX11_codeNow_17 (zk_164 _) (Nat.le_of_ble_eq_true rfl) ⟨by decide, by decide⟩ ?_
  refine s_imul A dX11_codeNow_18 ?_
  refine s_iadd A dX11_codeNow_19 ?_
  refine s_bipush A dX11_codeNow_20 rfl ?_
  refine s_aload_n A dX11_codeNow_22 rfl ?_
  refine s_getf (k := 11) (j := 19) (sl := true) (v := zR (some 164)) A dX11_codeNow_23 rfl zuw_X11 (Nat.le_of_ble_eq_true rfl) zwd1327 (by decide) (zk_153 _) rfl ?_
  refine s_iconst A dX11_codeNow_26 ?_
  refine z_iald A dX11_codeNow_27 (zk_164 _) (Nat.le_of_ble_eq_true rfl) ⟨by decide, by decide⟩ ?_
  refine s_imul A dX11_codeNow_28 ?_
  refine s_iadd A dX11_codeNow_29 ?_
  refine s_aload_n A dX11_codeNow_30 rfl ?_
  refine s_getf (k := 11) (j := 19) (sl := true) (v := zR (some 164)) A dX11_codeNow_31 rfl zuw_X11 (Nat.le_of_ble_eq_true rfl) zwd1327 (by decide) (zk_153 _) rfl ?_
  refine s_iconst A dX11_codeNow_34 ?_
  refine z_iald A dX11_codeNow_35 (zk_164 _) (Nat.le_of_ble_eq_true rfl) ⟨by decide, by decide⟩ ?_
  refine s_iadd A dX11_codeNow_36 ?_
  exact s_iret A dX11_codeNow_37 hr hlk (Nat.le_of_ble_eq_true rfl) (Nat.le_of_ble_eq_true rfl) ⟨_, rfl, h⟩
theorem eX11_codeNow {G : zG} {F : Int → zM → Prop} {μ : zM}  (h : ∀ J, zJ G true (0) 0 0 mX11_codeNow (zKI F) J → J 0 ([some (zR (some 153))], [], μ, 0, 0)) : qX11_codeNow G  μ F :=
  z_body (by decide +kernel) (Nat.le_of_ble_eq_true rfl) h
set_option maxRecDepth 20000 in
theorem rX11_limit_e {G : zG} {F : zM → Prop} {J : Nat → zS → Prop} {μ : zM} (C : zJ G true (8) 0 0 mX11_limit (zKV F) J) (x1 : Int)
    (h : J 3 ([some (zR (some 153)), some (zI x1), some (zI 8), none], [], μ, 0, 0)) : J 0 ([some (zR (some 153)), some (zI x1), none, none], [], μ, 0, 0) := by
  obtain ⟨p, e, s, m, args, below, meth, c, A, hml, hr, hlk, hnm, rfl⟩ := C
  refine s_bipush A dX11_limit_0 rfl ?_
  refine s_istore_n (L' := [some (zR (some 153)), some (zI x1), some (zI 8), none]) A dX11_limit_2 (Nat.le_of_ble_eq_true rfl) rfl ?_
  exact h
set_option maxRecDepth 20000 in
theorem rX11_limit_3 {G : zG} {F : zM → Prop} {J : Nat → zS → Prop} {μ : zM} (C : zJ G true (8) 0 0 mX11_limit (zKV F) J) (x1 : Int) (x2 : Int)
    (h : zin x2 ∧ zin (zi μ 164 0) ∧ zin (zi μ 164 1) ∧ zin (zi μ 164 2) ∧ zin ((((min x2 (zi μ 164 0)) + (min x2 (zi μ 164 1))) + (min x2 (zi μ 164 2))) + (zi μ 164 3)) ∧ zin x1 ∧ (((((min x2 (zi μ 164 0)) + (min x2 (zi μ 164 1))) + (min x2 (zi μ 164 2))) + (zi μ 164 3) ≤ x1 → J 54 ([some (zR (some 153)), none, some (zI x2), some (zI 0)], [], μ, 0, 0)) ∧ (¬ ((((min x2 (zi μ 164 0)) + (min x2 (zi μ 164 1))) + (min x2 (zi μ 164 2))) + (zi μ 164 3) ≤ x1) → J 3 ([some (zR (some 153)), some (zI x1), some (zI (x2 + (-1))), none], [], μ, 0, 0)))) : J 3 ([some (zR (some 153)), some (zI x1), some (zI x2), none], [], μ, 0, 0) := by
  obtain ⟨p, e, s, m, args, below, meth, c, A, hml, hr, hlk, hnm, rfl⟩ := C
  refine s_iload_n A dX11_limit_3 rfl ?_
  refine s_aload_n A dX11_limit_4 rfl ?_
  refine s_getf (k := 11) (j := 19) (sl := true) (v := zR (some 164)) A dX11_limit_5 rfl zuw_X11 (Nat.le_of_ble_eq_true rfl) zwd1327 (by decide) (zk_153 _) rfl ?_
  refine s_iconst A dX11_limit_8 ?_
  refine z_iald A dX11_limit_9 (zk_164 _) (Nat.le_of_ble_eq_true rfl) ⟨by decide, by decide⟩ ?_
  obtain ⟨oz1, h⟩ := h
  obtain ⟨oz2, h⟩ := h
  refine z_mmin A dX11_limit_10 zwd1575 zwd509 zwd105 zwd510 (Nat.le_of_ble_eq_true rfl) (Nat.le_of_ble_eq_true rfl) ⟨Nat.le_of_ble_eq_true rfl, Nat.le_of_ble_eq_true rfl⟩ oz1 oz2 ?_
  refine s_iload_n A dX11_limit_13 rfl ?_
  refine s_aload_n A dX11_limit_14 rfl ?_
  refine s_getf (k := 11) (j := 19) (sl := true) (v := zR (some 164)) A dX11_limit_15 rfl zuw_X11 (Nat.le_of_ble_eq_true rfl) zwd1327 (by decide) (zk_153 _) rfl ?_
  refine s_iconst A dX11_limit_18 ?_
  refine z_iald A dX11_limit_19 (zk_164 _) (Nat.le_of_ble_eq_true rfl) ⟨by decide, by decide⟩ ?_
  obtain ⟨oz3, h⟩ := h
  refine z_mmin A dX11_limit_20 zwd1575 zwd509 zwd105 zwd510 (Nat.le_of_ble_eq_true rfl) (Nat.le_of_ble_eq_true rfl) ⟨Nat.le_of_ble_eq_true rfl, Nat.le_of_ble_eq_true rfl⟩ oz1 oz3 ?_
  refine s_iadd A dX11_limit_23 ?_
  refine s_iload_n A dX11_limit_24 rfl ?_
  refine s_aload_n A dX11_limit_25 rfl ?_
  refine s_getf (k := 11) (j := 19) (sl := true) (v := zR (some 164)) A dX11_limit_26 rfl zuw_X11 (Nat.le_of_ble_eq_true rfl) zwd1327 (by decide) (zk_153 _) rfl ?_
  refine s_iconst A dX11_limit_29 ?_
  refine z_iald A dX11_limit_30 (zk_164 _) (Nat.le_of_ble_eq_true rfl) ⟨by decide, by decide⟩ ?_
  obtain ⟨oz4, h⟩ := h
  refine z_mmin A dX11_limit_31 zwd1575 zwd509 zwd105 zwd510 (Nat.le_of_ble_eq_true rfl) (Nat.le_of_ble_eq_true rfl) ⟨Nat.le_of_ble_eq_true rfl, Nat.le_of_ble_eq_true rfl⟩ oz1 oz4 ?_
  refine s_iadd A dX11_limit_34 ?_
  refine s_aload_n A dX11_limit_35 rfl ?_
  refine s_getf (k := 11) (j := 19) (sl := true) (v := zR (some 164)) A dX11_limit_36 rfl zuw_X11 (Nat.le_of_ble_eq_true rfl) zwd1327 (by decide) (zk_153 _) rfl ?_
  refine s_iconst A dX11_limit_39 ?_
  refine z_iald A dX11_limit_40 (zk_164 _) (Nat.le_of_ble_eq_true rfl) ⟨by decide, by decide⟩ ?_
  refine s_iadd A dX11_limit_41 ?_
  refine s_iload_n A dX11_limit_42 rfl ?_
  obtain ⟨oz5, h⟩ := h
  obtain ⟨oz6, h⟩ := h
  refine z_icmp_le (tgt := 52) A dX11_limit_43 (by decide) oz5 oz6 (fun c7 => ?_) (fun c7 => ?_)
  · have h := h.1 c7
    refine s_iconst A dX11_limit_52 ?_
    refine s_istore_n (L' := [some (zR (some 153)), some (zI x1), some (zI x2), some (zI 0)]) A dX11_limit_53 (Nat.le_of_ble_eq_true rfl) rfl ?_
    exact z_wk (L' := [some (zR (some 153)), none, some (zI x2), some (zI 0)]) ⟨rfl, rfl, rfl, trivial⟩ h
  · have h := h.2 c7
    refine s_iinc (L' := [some (zR (some 153)), some (zI x1), some (zI (x2 + (-1))), none]) A dX11_limit_46 rfl rfl ?_
    refine s_goto (tgt := 3) A dX11_limit_49 (by decide) ?_
    exact h
set_option maxRecDepth 20000 in
theorem rX11_limit_54 {G : zG} {F : zM → Prop} {J : Nat → zS → Prop} {μ : zM} (C : zJ G true (8) 0 0 mX11_limit (zKV F) J) (x2 : Int) (x3 : Int)
    (h : zin x3 ∧ ((3 ≤ x3 → F μ) ∧ (¬ (3 ≤ x3) → (0 ≤ x3 ∧ x3 < 4) ∧ zin x2 ∧ zin (zi μ 164 x3) ∧ J 54 ([some (zR (some 153)), none, some (zI x2), some (zI (x3 + 1))], [], zup μ 164 x3 (min x2 (zi μ 164 x3)), 0, 0)))) : J 54 ([some (zR (some 153)), none, some (zI x2), some (zI x3)], [], μ, 0, 0) := by
  obtain ⟨p, e, s, m, args, below, meth, c, A, hml, hr, hlk, hnm, rfl⟩ := C
  refine s_iload_n A dX11_limit_54 rfl ?_
  refine s_iconst A dX11_limit_55 ?_
  obtain ⟨oz1, h⟩ := h
  refine z_icmp_ge (tgt := 81) A dX11_limit_56 (by decide) oz1 ⟨by decide, by decide⟩ (fun c2 => ?_) (fun c2 => ?_)
  · have h := h.1 c2
    exact s_vret A dX11_limit_81 hr hlk (Nat.le_of_ble_eq_true rfl) (Nat.le_of_ble_eq_true rfl) ⟨rfl, h⟩
  · have h := h.2 c2
    refine s_aload_n A dX11_limit_59 rfl ?_
    refine s_getf (k := 11) (j := 19) (sl := true) (v := zR (some 164)) A dX11_limit_60 rfl zuw_X11 (Nat.le_of_ble_eq_true rfl) zwd1327 (by decide) (zk_153 _) rfl ?_
    refine s_iload_n A dX11_limit_63 rfl ?_
    refine s_iload_n A dX11_limit_64 rfl ?_
    refine s_aload_n A dX11_limit_65 rfl ?_
    refine s_getf (k := 11) (j := 19) (sl := true) (v := zR (some 164)) A dX11_limit_66 rfl zuw_X11 (Nat.le_of_ble_eq_true rfl) zwd1327 (by decide) (zk_153 _) rfl ?_
    refine s_iload_n A dX11_limit_69 rfl ?_
    obtain ⟨ox3, h⟩ := h
    refine z_iald A dX11_limit_70 (zk_164 _) (Nat.le_of_ble_eq_true rfl) ox3 ?_
    obtain ⟨oz4, h⟩ := h
    obtain ⟨oz5, h⟩ := h
    refine z_mmin A dX11_limit_71 zwd1575 zwd509 zwd105 zwd510 (Nat.le_of_ble_eq_true rfl) (Nat.le_of_ble_eq_true rfl) ⟨Nat.le_of_ble_eq_true rfl, Nat.le_of_ble_eq_true rfl⟩ oz4 oz5 ?_
    refine z_iast A dX11_limit_74 (zk_164 _) (Nat.le_of_ble_eq_true rfl) ox3 ?_
    refine s_iinc (L' := [some (zR (some 153)), none, some (zI x2), some (zI (x3 + 1))]) A dX11_limit_75 rfl rfl ?_
    refine s_goto (tgt := 54) A dX11_limit_78 (by decide) ?_
    exact h
theorem eX11_limit {G : zG} {F : zM → Prop} {μ : zM} {x1 : Int} (h : ∀ J, zJ G true (8) 0 0 mX11_limit (zKV F) J → J 0 ([some (zR (some 153)), some (zI x1), none, none], [], μ, 0, 0)) : qX11_limit G x1 μ F :=
  z_body (by decide +kernel) (Nat.le_of_ble_eq_true rfl) h
set_option maxRecDepth 20000 in
theorem rX11_limited_e {G : zG} {F : Int → zM → Prop} {J : Nat → zS → Prop} {μ : zM} (C : zJ G true (9) 0 0 mX11_limited (zKI F) J) (x1 : Int) (x2 : Int)
    (h : qX11_isCode G true x1 (zup μ 153 5 0) (fun v1 μ1 => zin v1 ∧ ((v1 = 0 → F (-1) μ1) ∧ (¬ (v1 = 0) → qX11_in G true x2 8 32 μ1 (fun v4 μ4 => zin v4 ∧ ((¬ v4 = 0 → qX11_take G x1 μ4 (fun μ7 => qX11_limit G x2 μ7 (fun μ8 => qX11_codeNow G μ8 (fun v9 μ9 => F v9 μ9)))) ∧ (v4 = 0 → F (-1) μ4))))))) : J 0 ([some (zR (some 153)), some (zI x1), some (zI x2)], [], μ, 0, 0) := by
  obtain ⟨p, e, s, m, args, below, meth, c, A, hml, hr, hlk, hnm, rfl⟩ := C
  refine s_aload_n A dX11_limited_0 rfl ?_
  refine s_iconst A dX11_limited_1 ?_
  refine z_putI (k := 11) (j := 5) (sl := true) A dX11_limited_2 rfl zuw_X11 (Nat.le_of_ble_eq_true rfl) zwd1313 (by decide) (zk_153 _) tyX11 tyX11_ok nmX11 rfl rfl rfl ?_
  refine s_iload_n A dX11_limited_5 rfl ?_
  refine s_callS (M := mX11_isCode) (n := 1) (d := 2) (mc := 0) (ms := 0) (av := [zI x1]) (st := []) A dX11_limited_6 zwd1595 zwd1596 zwd100 zcd_X11_isCode (Nat.le_of_ble_eq_true rfl) (Nat.le_of_ble_eq_true rfl) (Nat.le_refl _) ⟨Nat.le_of_ble_eq_true rfl, Nat.le_of_ble_eq_true rfl⟩ zhn_X11_isCode rfl (Nat.le_of_ble_eq_true rfl) rfl (z_contI (fun v1 μ1 h => ?_) h)
  obtain ⟨oz2, h⟩ := h
  refine z_if_eq (tgt := 23) A dX11_limited_9 (by decide) oz2 (fun c3 => ?_) (fun c3 => ?_)
  · have h := h.1 c3
    refine s_iconst A dX11_limited_23 ?_
    exact s_iret A dX11_limited_24 hr hlk (Nat.le_of_ble_eq_true rfl) (Nat.le_of_ble_eq_true rfl) ⟨_, rfl, h⟩
  · have h := h.2 c3
    refine s_iload_n A dX11_limited_12 rfl ?_
    refine s_bipush A dX11_limited_13 rfl ?_
    refine s_bipush A dX11_limited_15 rfl ?_
    refine s_callS (M := mX11_in) (n := 3) (d := 0) (mc := 0) (ms := 0) (av := [zI x2, zI 8, zI 32]) (st := []) A dX11_limited_17 zwd1456 zwd1457 zwd100 zcd_X11_in (Nat.le_of_ble_eq_true rfl) (Nat.le_of_ble_eq_true rfl) (Nat.le_refl _) ⟨Nat.le_of_ble_eq_true rfl, Nat.le_of_ble_eq_true rfl⟩ zhn_X11_in rfl (Nat.le_of_ble_eq_true rfl) rfl (z_contI (fun v4 μ4 h => ?_) h)
    obtain ⟨oz5, h⟩ := h
    refine z_if_ne (tgt := 25) A dX11_limited_20 (by decide) oz5 (fun c6 => ?_) (fun c6 => ?_)
    · have h := h.1 c6
      refine s_aload_n A dX11_limited_25 rfl ?_
      refine s_iload_n A dX11_limited_26 rfl ?_
      refine s_callV (a := 153) (k := 11) (N := 45) (sl := true) (M := mX11_take) (n := 1) (d := 2) (mc := 0) (ms := 0) (av := [zI x1]) (st := []) A dX11_limited_27 rfl (by decide) (zk_153 _) zwd1624 zwd1626 zwd52 zwd100 zcd_X11_take (Nat.le_of_ble_eq_true rfl) (Nat.le_of_ble_eq_true rfl) (Nat.le_refl _) ⟨Nat.le_of_ble_eq_true rfl, Nat.le_of_ble_eq_true rfl⟩ ⟨rfl, zhn_X11_take⟩ rfl (Nat.le_of_ble_eq_true rfl) rfl (z_contV (fun μ7 h => ?_) h)
      refine s_aload_n A dX11_limited_30 rfl ?_
      refine s_iload_n A dX11_limited_31 rfl ?_
      refine s_callV (a := 153) (k := 11) (N := 45) (sl := true) (M := mX11_limit) (n := 1) (d := 8) (mc := 0) (ms := 0) (av := [zI x2]) (st := []) A dX11_limited_32 rfl (by decide) (zk_153 _) zwd1628 zwd1630 zwd53 zwd100 zcd_X11_limit (Nat.le_of_ble_eq_true rfl) (Nat.le_of_ble_eq_true rfl) (Nat.le_refl _) ⟨Nat.le_of_ble_eq_true rfl, Nat.le_of_ble_eq_true rfl⟩ ⟨rfl, zhn_X11_limit⟩ rfl (Nat.le_of_ble_eq_true rfl) rfl (z_contV (fun μ8 h => ?_) h)
      refine s_aload_n A dX11_limited_35 rfl ?_
      refine s_callV (a := 153) (k := 11) (N := 45) (sl := true) (M := mX11_codeNow) (n := 0) (d := 0) (mc := 0) (ms := 0) (av := []) (st := []) A dX11_limited_36 rfl (by decide) (zk_153 _) zwd1632 zwd1634 zwd54 zwd100 zcd_X11_codeNow (Nat.le_of_ble_eq_true rfl) (Nat.le_of_ble_eq_true rfl) (Nat.le_refl _) ⟨Nat.le_of_ble_eq_true rfl, Nat.le_of_ble_eq_true rfl⟩ ⟨rfl, zhn_X11_codeNow⟩ rfl (Nat.le_of_ble_eq_true rfl) rfl (z_contI (fun v9 μ9 h => ?_) h)
      exact s_iret A dX11_limited_39 hr hlk (Nat.le_of_ble_eq_true rfl) (Nat.le_of_ble_eq_true rfl) ⟨_, rfl, h⟩
    · have h := h.2 c6
      refine s_iconst A dX11_limited_23 ?_
      exact s_iret A dX11_limited_24 hr hlk (Nat.le_of_ble_eq_true rfl) (Nat.le_of_ble_eq_true rfl) ⟨_, rfl, h⟩
theorem eX11_limited {G : zG} {F : Int → zM → Prop} {μ : zM} {x1 : Int} {x2 : Int} (h : ∀ J, zJ G true (9) 0 0 mX11_limited (zKI F) J → J 0 ([some (zR (some 153)), some (zI x1), some (zI x2)], [], μ, 0, 0)) : qX11_limited G x1 x2 μ F :=
  z_body (by decide +kernel) (Nat.le_of_ble_eq_true rfl) h
set_option maxRecDepth 20000 in
theorem rX11_leastOf_e {G : zG} {F : Int → zM → Prop} {J : Nat → zS → Prop} {μ : zM} (C : zJ G true (3) 0 0 mX11_leastOf (zKI F) J) (x1 : Int) (x2 : Int) (x3 : Int)
    (h : J 6 ([some (zR (some 153)), some (zI x1), some (zI x2), some (zI x3), some (zI (-1)), some (zI 0)], [], μ, 0, 0)) : J 0 ([some (zR (some 153)), some (zI x1), some (zI x2), some (zI x3), none, none], [], μ, 0, 0) := by
  obtain ⟨p, e, s, m, args, below, meth, c, A, hml, hr, hlk, hnm, rfl⟩ := C
  refine s_iconst A dX11_leastOf_0 ?_
  refine s_istore (L' := [some (zR (some 153)), some (zI x1), some (zI x2), some (zI x3), some (zI (-1)), none]) A dX11_leastOf_1 (Nat.le_of_ble_eq_true rfl) rfl ?_
  refine s_iconst A dX11_leastOf_3 ?_
  refine s_istore (L' := [some (zR (some 153)), some (zI x1), some (zI x2), some (zI x3), some (zI (-1)), some (zI 0)]) A dX11_leastOf_4 (Nat.le_of_ble_eq_true rfl) rfl ?_
  exact h
set_option maxRecDepth 20000 in
theorem rX11_leastOf_6 {G : zG} {F : Int → zM → Prop} {J : Nat → zS → Prop} {μ : zM} (C : zJ G true (3) 0 0 mX11_leastOf (zKI F) J) (x1 : Int) (x2 : Int) (x3 : Int) (x4 : Int) (x5 : Int)
    (h : zin x5 ∧ zin (zi μ 153 18) ∧ ((zi μ 153 18 ≤ x5 → F x4 μ) ∧ (¬ (zi μ 153 18 ≤ x5) → (0 ≤ x5 ∧ x5 < 6561) ∧ qX11_apartOf G (zi μ 163 x5) x1 x2 x3 μ (fun v5 μ5 => zin x4 ∧ ((x4 = -1 → J 6 ([some (zR (some 153)), some (zI x1), some (zI x2), some (zI x3), some (zI (zi (zup μ5 165 x5 v5) 165 x5)), some (zI (x5 + 1))], [], zup μ5 165 x5 v5, 0, 0)) ∧ (¬ (x4 = -1) → zin (zi (zup μ5 165 x5 v5) 165 x5) ∧ ((x4 ≤ zi (zup μ5 165 x5 v5) 165 x5 → J 6 ([some (zR (some 153)), some (zI x1), some (zI x2), some (zI x3), some (zI x4), some (zI (x5 + 1))], [], zup μ5 165 x5 v5, 0, 0)) ∧ (¬ (x4 ≤ zi (zup μ5 165 x5 v5) 165 x5) → J 6 ([some (zR (some 153)), some (zI x1), some (zI x2), some (zI x3), some (zI (zi (zup μ5 165 x5 v5) 165 x5)), some (zI (x5 + 1))], [], zup μ5 165 x5 v5, 0, 0))))))))) : J 6 ([some (zR (some 153)), some (zI x1), some (zI x2), some (zI x3), some (zI x4), some (zI x5)], [], μ, 0, 0) := by
  obtain ⟨p, e, s, m, args, below, meth, c, A, hml, hr, hlk, hnm, rfl⟩ := C
  refine s_iload A dX11_leastOf_6 rfl ?_
  refine s_aload_n A dX11_leastOf_8 rfl ?_
  refine s_getf (k := 11) (j := 18) (sl := true) (v := zI (zi μ 153 18)) A dX11_leastOf_9 rfl zuw_X11 (Nat.le_of_ble_eq_true rfl) zwd1326 (by decide) (zk_153 _) rfl ?_
  obtain ⟨oz1, h⟩ := h
  obtain ⟨oz2, h⟩ := h
  refine z_icmp_ge (tgt := 69) A dX11_leastOf_12 (by decide) oz1 oz2 (fun c3 => ?_) (fun c3 => ?_)
  · have h := h.1 c3
    refine s_iload A dX11_leastOf_69 rfl ?_
    exact s_iret A dX11_leastOf_71 hr hlk (Nat.le_of_ble_eq_true rfl) (Nat.le_of_ble_eq_true rfl) ⟨_, rfl, h⟩
  · have h := h.2 c3
    refine s_aload_n A dX11_leastOf_15 rfl ?_
    refine s_getf (k := 11) (j := 24) (sl := true) (v := zR (some 165)) A dX11_leastOf_16 rfl zuw_X11 (Nat.le_of_ble_eq_true rfl) zwd1332 (by decide) (zk_153 _) rfl ?_
    refine s_iload A dX11_leastOf_19 rfl ?_
    refine s_aload_n A dX11_leastOf_21 rfl ?_
    refine s_aload_n A dX11_leastOf_22 rfl ?_
    refine s_getf (k := 11) (j := 17) (sl := true) (v := zR (some 163)) A dX11_leastOf_23 rfl zuw_X11 (Nat.le_of_ble_eq_true rfl) zwd1325 (by decide) (zk_153 _) rfl ?_
    refine s_iload A dX11_leastOf_26 rfl ?_
    obtain ⟨ox4, h⟩ := h
    refine z_iald A dX11_leastOf_28 (zk_163 _) (Nat.le_of_ble_eq_true rfl) ox4 ?_
    refine s_iload_n A dX11_leastOf_29 rfl ?_
    refine s_iload_n A dX11_leastOf_30 rfl ?_
    refine s_iload_n A dX11_leastOf_31 rfl ?_
    refine s_callV (a := 153) (k := 11) (N := 45) (sl := true) (M := mX11_apartOf) (n := 4) (d := 2) (mc := 0) (ms := 0) (av := [zI (zi μ 163 x5), zI x1, zI x2, zI x3]) (st := [zI x5, zR (some 165)]) A dX11_leastOf_32 rfl (by decide) (zk_153 _) zwd1659 zwd1661 zwd59 zwd100 zcd_X11_apartOf (Nat.le_of_ble_eq_true rfl) (Nat.le_of_ble_eq_true rfl) (Nat.le_refl _) ⟨Nat.le_of_ble_eq_true rfl, Nat.le_of_ble_eq_true rfl⟩ ⟨rfl, zhn_X11_apartOf⟩ rfl (Nat.le_of_ble_eq_true rfl) rfl (z_contI (fun v5 μ5 h => ?_) h)
    refine z_iast A dX11_leastOf_35 (zk_165 _) (Nat.le_of_ble_eq_true rfl) ox4 ?_
    refine s_iload A dX11_leastOf_36 rfl ?_
    refine s_iconst A dX11_leastOf_38 ?_
    obtain ⟨oz6, h⟩ := h
    refine z_icmp_eq (tgt := 54) A dX11_leastOf_39 (by decide) oz6 ⟨by decide, by decide⟩ (fun c7 => ?_) (fun c7 => ?_)
    · have h := h.1 c7
      refine s_aload_n A dX11_leastOf_54 rfl ?_
      refine s_getf (k := 11) (j := 24) (sl := true) (v := zR (some 165)) A dX11_leastOf_55 rfl zuw_X11 (Nat.le_of_ble_eq_true rfl) zwd1332 (by decide) (zk_153 _) rfl ?_
      refine s_iload A dX11_leastOf_58 rfl ?_
      refine z_iald A dX11_leastOf_60 (zk_165 _) (Nat.le_of_ble_eq_true rfl) ox4 ?_
      refine s_istore (L' := [some (zR (some 153)), some (zI x1), some (zI x2), some (zI x3), some (zI (zi (zup μ5 165 x5 v5) 165 x5)), some (zI x5)]) A dX11_leastOf_61 (Nat.le_of_ble_eq_true rfl) rfl ?_
      refine s_iinc (L' := [some (zR (some 153)), some (zI x1), some (zI x2), some (zI x3), some (zI (zi (zup μ5 165 x5 v5) 165 x5)), some (zI (x5 + 1))]) A dX11_leastOf_63 rfl rfl ?_
      refine s_goto (tgt := 6) A dX11_leastOf_66 (by decide) ?_
      exact h
    · have h := h.2 c7
      refine s_aload_n A dX11_leastOf_42 rfl ?_
      refine s_getf (k := 11) (j := 24) (sl := true) (v := zR (some 165)) A dX11_leastOf_43 rfl zuw_X11 (Nat.le_of_ble_eq_true rfl) zwd1332 (by decide) (zk_153 _) rfl ?_
      refine s_iload A dX11_leastOf_46 rfl ?_
      refine z_iald A dX11_leastOf_48 (zk_165 _) (Nat.le_of_ble_eq_true rfl) ox4 ?_
      refine s_iload A dX11_leastOf_49 rfl ?_
      obtain ⟨oz8, h⟩ := h
      refine z_icmp_ge (tgt := 63) A dX11_leastOf_51 (by decide) oz8 oz6 (fun c9 => ?_) (fun c9 => ?_)
      · have h := h.1 c9
        refine s_iinc (L' := [some (zR (some 153)), some (zI x1), some (zI x2), some (zI x3), some (zI x4), some (zI (x5 + 1))]) A dX11_leastOf_63 rfl rfl ?_
        refine s_goto (tgt := 6) A dX11_leastOf_66 (by decide) ?_
        exact h
      · have h := h.2 c9
        refine s_aload_n A dX11_leastOf_54 rfl ?_
        refine s_getf (k := 11) (j := 24) (sl := true) (v := zR (some 165)) A dX11_leastOf_55 rfl zuw_X11 (Nat.le_of_ble_eq_true rfl) zwd1332 (by decide) (zk_153 _) rfl ?_
        refine s_iload A dX11_leastOf_58 rfl ?_
        refine z_iald A dX11_leastOf_60 (zk_165 _) (Nat.le_of_ble_eq_true rfl) ox4 ?_
        refine s_istore (L' := [some (zR (some 153)), some (zI x1), some (zI x2), some (zI x3), some (zI (zi (zup μ5 165 x5 v5) 165 x5)), some (zI x5)]) A dX11_leastOf_61 (Nat.le_of_ble_eq_true rfl) rfl ?_
        refine s_iinc (L' := [some (zR (some 153)), some (zI x1), some (zI x2), some (zI x3), some (zI (zi (zup μ5 165 x5 v5) 165 x5)), some (zI (x5 + 1))]) A dX11_leastOf_63 rfl rfl ?_
        refine s_goto (tgt := 6) A dX11_leastOf_66 (by decide) ?_
        exact h
theorem eX11_leastOf {G : zG} {F : Int → zM → Prop} {μ : zM} {x1 : Int} {x2 : Int} {x3 : Int} (h : ∀ J, zJ G true (3) 0 0 mX11_leastOf (zKI F) J → J 0 ([some (zR (some 153)), some (zI x1), some (zI x2), some (zI x3), none, none], [], μ, 0, 0)) : qX11_leastOf G x1 x2 x3 μ F :=
  z_body (by decide +kernel) (Nat.le_of_ble_eq_true rfl) h
set_option maxRecDepth 20000 in
theorem rX11_isBetter_e {G : zG} {F : Int → zM → Prop} {J : Nat → zS → Prop} {μ : zM} (C : zJ G true (8) 0 0 mX11_isBetter (zKI F) J) (x1 : Int) (x2 : Int) (x3 : Int)
    (h : (0 ≤ x1 ∧ x1 < 6561) ∧ (0 ≤ zi μ 163 x1 ∧ zi μ 163 x1 < 2147483648) ∧ (0 ≤ x2 ∧ x2 < 6561) ∧ (0 ≤ zi μ 163 x2 ∧ zi μ 163 x2 < 2147483648) ∧ zin (((zi μ 163 x1) % 9) - x3) ∧ zin (((zi μ 163 x2) % 9) - x3) ∧ zin ((max (((zi μ 163 x1) % 9) - x3) (-(((zi μ 163 x1) % 9) - x3))) - (max (((zi μ 163 x2) % 9) - x3) (-(((zi μ 163 x2) % 9) - x3)))) ∧ ((¬ (max (((zi μ 163 x1) % 9) - x3) (-(((zi μ 163 x1) % 9) - x3))) - (max (((zi μ 163 x2) % 9) - x3) (-(((zi μ 163 x2) % 9) - x3))) = 0 → ((¬ (max (((zi μ 163 x1) % 9) - x3) (-(((zi μ 163 x1) % 9) - x3))) - (max (((zi μ 163 x2) % 9) - x3) (-(((zi μ 163 x2) % 9) - x3))) = 0 → J 71 ([some (zR (some 153)), some (zI x1), some (zI x2), none, none, none, some (zI ((max (((zi μ 163 x1) % 9) - x3) (-(((zi μ 163 x1) % 9) - x3))) - (max (((zi μ 163 x2) % 9) - x3) (-(((zi μ 163 x2) % 9) - x3)))))], [], μ, 0, 0)) ∧ ((max (((zi μ 163 x1) % 9) - x3) (-(((zi μ 163 x1) % 9) - x3))) - (max (((zi μ 163 x2) % 9) - x3) (-(((zi μ 163 x2) % 9) - x3))) = 0 → J 71 ([some (zR (some 153)), some (zI x1), some (zI x2), none, none, none, some (zI ((zi μ 165 x1) - (zi μ 165 x2)))], [], μ, 0, 0)))) ∧ ((max (((zi μ 163 x1) % 9) - x3) (-(((zi μ 163 x1) % 9) - x3))) - (max (((zi μ 163 x2) % 9) - x3) (-(((zi μ 163 x2) % 9) - x3))) = 0 → zin (((zi μ 163 x1) % 9) - ((zi μ 163 x2) % 9)) ∧ ((¬ ((zi μ 163 x1) % 9) - ((zi μ 163 x2) % 9) = 0 → J 71 ([some (zR (some 153)), some (zI x1), some (zI x2), none, none, none, some (zI (((zi μ 163 x1) % 9) - ((zi μ 163 x2) % 9)))], [], μ, 0, 0)) ∧ (((zi μ 163 x1) % 9) - ((zi μ 163 x2) % 9) = 0 → J 71 ([some (zR (some 153)), some (zI x1), some (zI x2), none, none, none, some (zI ((zi μ 165 x1) - (zi μ 165 x2)))], [], μ, 0, 0)))))) : J 0 ([some (zR (some 153)), some (zI x1), some (zI x2), some (zI x3), none, none, none], [], μ, 0, 0) := by
  obtain ⟨p, e, s, m, args, below, meth, c, A, hml, hr, hlk, hnm, rfl⟩ := C
  refine s_aload_n A dX11_isBetter_0 rfl ?_
  refine s_getf (k := 11) (j := 17) (sl := true) (v := zR (some 163)) A dX11_isBetter_1 rfl zuw_X11 (Nat.le_of_ble_eq_true rfl) zwd1325 (by decide) (zk_153 _) rfl ?_
  refine s_iload_n A dX11_isBetter_4 rfl ?_
  obtain ⟨ox1, h⟩ := h
  refine z_iald A dX11_isBetter_5 (zk_163 _) (Nat.le_of_ble_eq_true rfl) ox1 ?_
  refine s_bipush A dX11_isBetter_6 rfl ?_
  obtain ⟨o1, h⟩ := h
  refine z_irem A dX11_isBetter_8 o1 ⟨by decide, by decide⟩ ?_
  refine s_istore (L' := [some (zR (some 153)), some (zI x1), some (zI x2), some (zI x3), some (zI ((zi μ 163 x1) % 9)), none, none]) A dX11_isBetter_9 (Nat.le_of_ble_eq_true rfl) rfl ?_
  refine s_aload_n A dX11_isBetter_11 rfl ?_
  refine s_getf (k := 11) (j := 17) (sl := true) (v := zR (some 163)) A dX11_isBetter_12 rfl zuw_X11 (Nat.le_of_ble_eq_true rfl) zwd1325 (by decide) (zk_153 _) rfl ?_
  refine s_iload_n A dX11_isBetter_15 rfl ?_
  obtain ⟨ox2, h⟩ := h
  refine z_iald A dX11_isBetter_16 (zk_163 _) (Nat.le_of_ble_eq_true rfl) ox2 ?_
  refine s_bipush A dX11_isBetter_17 rfl ?_
  obtain ⟨o1, h⟩ := h
  refine z_irem A dX11_isBetter_19 o1 ⟨by decide, by decide⟩ ?_
  refine s_istore (L' := [some (zR (some 153)), some (zI x1), some (zI x2), some (zI x3), some (zI ((zi μ 163 x1) % 9)), some (zI ((zi μ 163 x2) % 9)), none]) A dX11_isBetter_20 (Nat.le_of_ble_eq_true rfl) rfl ?_
  refine s_iload A dX11_isBetter_22 rfl ?_
  refine s_iload_n A dX11_isBetter_24 rfl ?_
  refine s_isub A dX11_isBetter_25 ?_
  obtain ⟨oz3, h⟩ := h
  refine z_mabs A dX11_isBetter_26 zwd1524 zwd638 zwd105 zwd639 (Nat.le_of_ble_eq_true rfl) (Nat.le_of_ble_eq_true rfl) ⟨Nat.le_of_ble_eq_true rfl, Nat.le_of_ble_eq_true rfl⟩ oz3 ?_
  refine s_iload A dX11_isBetter_29 rfl ?_
  refine s_iload_n A dX11_isBetter_31 rfl ?_
  refine s_isub A dX11_isBetter_32 ?_
  obtain ⟨oz4, h⟩ := h
  refine z_mabs A dX11_isBetter_33 zwd1524 zwd638 zwd105 zwd639 (Nat.le_of_ble_eq_true rfl) (Nat.le_of_ble_eq_true rfl) ⟨Nat.le_of_ble_eq_true rfl, Nat.le_of_ble_eq_true rfl⟩ oz4 ?_
  refine s_isub A dX11_isBetter_36 ?_
  refine s_istore (L' := [some (zR (some 153)), some (zI x1), some (zI x2), some (zI x3), some (zI ((zi μ 163 x1) % 9)), some (zI ((zi μ 163 x2) % 9)), some (zI ((max (((zi μ 163 x1) % 9) - x3) (-(((zi μ 163 x1) % 9) - x3))) - (max (((zi μ 163 x2) % 9) - x3) (-(((zi μ 163 x2) % 9) - x3)))))]) A dX11_isBetter_37 (Nat.le_of_ble_eq_true rfl) rfl ?_
  refine s_iload A dX11_isBetter_39 rfl ?_
  obtain ⟨oz5, h⟩ := h
  refine z_if_ne (tgt := 51) A dX11_isBetter_41 (by decide) oz5 (fun c6 => ?_) (fun c6 => ?_)
  · have h := h.1 c6
    refine s_iload A dX11_isBetter_51 rfl ?_
    refine z_if_ne (tgt := 71) A dX11_isBetter_53 (by decide) oz5 (fun c7 => ?_) (fun c7 => ?_)
    · have h := h.1 c7
      exact z_wk (L' := [some (zR (some 153)), some (zI x1), some (zI x2), none, none, none, some (zI ((max (((zi μ 163 x1) % 9) - x3) (-(((zi μ 163 x1) % 9) - x3))) - (max (((zi μ 163 x2) % 9) - x3) (-(((zi μ 163 x2) % 9) - x3)))))]) ⟨rfl, rfl, rfl, rfl, trivial⟩ h
    · have h := h.2 c7
      refine s_aload_n A dX11_isBetter_56 rfl ?_
      refine s_getf (k := 11) (j := 24) (sl := true) (v := zR (some 165)) A dX11_isBetter_57 rfl zuw_X11 (Nat.le_of_ble_eq_true rfl) zwd1332 (by decide) (zk_153 _) rfl ?_
      refine s_iload_n A dX11_isBetter_60 rfl ?_
      refine z_iald A dX11_isBetter_61 (zk_165 _) (Nat.le_of_ble_eq_true rfl) ox1 ?_
      refine s_aload_n A dX11_isBetter_62 rfl ?_
      refine s_getf (k := 11) (j := 24) (sl := true) (v := zR (some 165)) A dX11_isBetter_63 rfl zuw_X11 (Nat.le_of_ble_eq_true rfl) zwd1332 (by decide) (zk_153 _) rfl ?_
      refine s_iload_n A dX11_isBetter_66 rfl ?_
      refine z_iald A dX11_isBetter_67 (zk_165 _) (Nat.le_of_ble_eq_true rfl) ox2 ?_
      refine s_isub A dX11_isBetter_68 ?_
      refine s_istore (L' := [some (zR (some 153)), some (zI x1), some (zI x2), some (zI x3), some (zI ((zi μ 163 x1) % 9)), some (zI ((zi μ 163 x2) % 9)), some (zI ((zi μ 165 x1) - (zi μ 165 x2)))]) A dX11_isBetter_69 (Nat.le_of_ble_eq_true rfl) rfl ?_
      exact z_wk (L' := [some (zR (some 153)), some (zI x1), some (zI x2), none, none, none, some (zI ((zi μ 165 x1) - (zi μ 165 x2)))]) ⟨rfl, rfl, rfl, rfl, trivial⟩ h
  · have h := h.2 c6
    refine s_iload A dX11_isBetter_44 rfl ?_
    refine s_iload A dX11_isBetter_46 rfl ?_
    refine s_isub A dX11_isBetter_48 ?_
    refine s_istore (L' := [some (zR (some 153)), some (zI x1), some (zI x2), some (zI x3), some (zI ((zi μ 163 x1) % 9)), some (zI ((zi μ 163 x2) % 9)), some (zI (((zi μ 163 x1) % 9) - ((zi μ 163 x2) % 9)))]) A dX11_isBetter_49 (Nat.le_of_ble_eq_true rfl) rfl ?_
    refine s_iload A dX11_isBetter_51 rfl ?_
    obtain ⟨oz8, h⟩ := h
    refine z_if_ne (tgt := 71) A dX11_isBetter_53 (by decide) oz8 (fun c9 => ?_) (fun c9 => ?_)
    · have h := h.1 c9
      exact z_wk (L' := [some (zR (some 153)), some (zI x1), some (zI x2), none, none, none, some (zI (((zi μ 163 x1) % 9) - ((zi μ 163 x2) % 9)))]) ⟨rfl, rfl, rfl, rfl, trivial⟩ h
    · have h := h.2 c9
      refine s_aload_n A dX11_isBetter_56 rfl ?_
      refine s_getf (k := 11) (j := 24) (sl := true) (v := zR (some 165)) A dX11_isBetter_57 rfl zuw_X11 (Nat.le_of_ble_eq_true rfl) zwd1332 (by decide) (zk_153 _) rfl ?_
      refine s_iload_n A dX11_isBetter_60 rfl ?_
      refine z_iald A dX11_isBetter_61 (zk_165 _) (Nat.le_of_ble_eq_true rfl) ox1 ?_
      refine s_aload_n A dX11_isBetter_62 rfl ?_
      refine s_getf (k := 11) (j := 24) (sl := true) (v := zR (some 165)) A dX11_isBetter_63 rfl zuw_X11 (Nat.le_of_ble_eq_true rfl) zwd1332 (by decide) (zk_153 _) rfl ?_
      refine s_iload_n A dX11_isBetter_66 rfl ?_
      refine z_iald A dX11_isBetter_67 (zk_165 _) (Nat.le_of_ble_eq_true rfl) ox2 ?_
      refine s_isub A dX11_isBetter_68 ?_
      refine s_istore (L' := [some (zR (some 153)), some (zI x1), some (zI x2), some (zI x3), some (zI ((zi μ 163 x1) % 9)), some (zI ((zi μ 163 x2) % 9)), some (zI ((zi μ 165 x1) - (zi μ 165 x2)))]) A dX11_isBetter_69 (Nat.le_of_ble_eq_true rfl) rfl ?_
      exact z_wk (L' := [some (zR (some 153)), some (zI x1), some (zI x2), none, none, none, some (zI ((zi μ 165 x1) - (zi μ 165 x2)))]) ⟨rfl, rfl, rfl, rfl, trivial⟩ h
set_option maxRecDepth 20000 in
theorem rX11_isBetter_71 {G : zG} {F : Int → zM → Prop} {J : Nat → zS → Prop} {μ : zM} (C : zJ G true (8) 0 0 mX11_isBetter (zKI F) J) (x1 : Int) (x2 : Int) (x6 : Int)
    (h : zin x6 ∧ ((¬ x6 = 0 → ((0 ≤ x6 → F 0 μ) ∧ (¬ (0 ≤ x6) → F 1 μ))) ∧ (x6 = 0 → (0 ≤ x1 ∧ x1 < 6561) ∧ (0 ≤ zi μ 163 x1 ∧ zi μ 163 x1 < 6561) ∧ qX11_totalOf G true (zi μ 162 (zi μ 163 x1)) μ (fun v6 μ6 => (0 ≤ x2 ∧ x2 < 6561) ∧ (0 ≤ zi μ6 163 x2 ∧ zi μ6 163 x2 < 6561) ∧ qX11_totalOf G true (zi μ6 162 (zi μ6 163 x2)) μ6 (fun v9 μ9 => zin (v6 - v9) ∧ ((0 ≤ v6 - v9 → F 0 μ9) ∧ (¬ (0 ≤ v6 - v9) → F 1 μ9))))))) : J 71 ([some (zR (some 153)), some (zI x1), some (zI x2), none, none, none, some (zI x6)], [], μ, 0, 0) := by
  obtain ⟨p, e, s, m, args, below, meth, c, A, hml, hr, hlk, hnm, rfl⟩ := C
  refine s_iload A dX11_isBetter_71 rfl ?_
  obtain ⟨oz1, h⟩ := h
  refine z_if_ne (tgt := 107) A dX11_isBetter_73 (by decide) oz1 (fun c2 => ?_) (fun c2 => ?_)
  · have h := h.1 c2
    refine s_iload A dX11_isBetter_107 rfl ?_
    refine z_if_ge (tgt := 116) A dX11_isBetter_109 (by decide) oz1 (fun c3 => ?_) (fun c3 => ?_)
    · have h := h.1 c3
      refine s_iconst A dX11_isBetter_116 ?_
      exact s_zret A dX11_isBetter_117 hr hlk (Nat.le_of_ble_eq_true rfl) (Nat.le_of_ble_eq_true rfl) (Or.inl rfl) ⟨_, rfl, h⟩
    · have h := h.2 c3
      refine s_iconst A dX11_isBetter_112 ?_
      refine s_goto (tgt := 117) A dX11_isBetter_113 (by decide) ?_
      exact s_zret A dX11_isBetter_117 hr hlk (Nat.le_of_ble_eq_true rfl) (Nat.le_of_ble_eq_true rfl) (Or.inr rfl) ⟨_, rfl, h⟩
  · have h := h.2 c2
    refine s_aload_n A dX11_isBetter_76 rfl ?_
    refine s_getf (k := 11) (j := 16) (sl := true) (v := zR (some 162)) A dX11_isBetter_77 rfl zuw_X11 (Nat.le_of_ble_eq_true rfl) zwd1324 (by decide) (zk_153 _) rfl ?_
    refine s_aload_n A dX11_isBetter_80 rfl ?_
    refine s_getf (k := 11) (j := 17) (sl := true) (v := zR (some 163)) A dX11_isBetter_81 rfl zuw_X11 (Nat.le_of_ble_eq_true rfl) zwd1325 (by decide) (zk_153 _) rfl ?_
    refine s_iload_n A dX11_isBetter_84 rfl ?_
    obtain ⟨ox4, h⟩ := h
    refine z_iald A dX11_isBetter_85 (zk_163 _) (Nat.le_of_ble_eq_true rfl) ox4 ?_
    obtain ⟨ox5, h⟩ := h
    refine z_iald A dX11_isBetter_86 (zk_162 _) (Nat.le_of_ble_eq_true rfl) ox5 ?_
    refine s_callS (M := mX11_totalOf) (n := 1) (d := 2) (mc := 0) (ms := 0) (av := [zI (zi μ 162 (zi μ 163 x1))]) (st := []) A dX11_isBetter_87 zwd1617 zwd1618 zwd100 zcd_X11_totalOf (Nat.le_of_ble_eq_true rfl) (Nat.le_of_ble_eq_true rfl) (Nat.le_refl _) ⟨Nat.le_of_ble_eq_true rfl, Nat.le_of_ble_eq_true rfl⟩ zhn_X11_totalOf rfl (Nat.le_of_ble_eq_true rfl) rfl (z_contI (fun v6 μ6 h => ?_) h)
    refine s_aload_n A dX11_isBetter_90 rfl ?_
    refine s_getf (k := 11) (j := 16) (sl := true) (v := zR (some 162)) A dX11_isBetter_91 rfl zuw_X11 (Nat.le_of_ble_eq_true rfl) zwd1324 (by decide) (zk_153 _) rfl ?_
    refine s_aload_n A dX11_isBetter_94 rfl ?_
    refine s_getf (k := 11) (j := 17) (sl := true) (v := zR (some 163)) A dX11_isBetter_95 rfl zuw_X11 (Nat.le_of_ble_eq_true rfl) zwd1325 (by decide) (zk_153 _) rfl ?_
    refine s_iload_n A dX11_isBetter_98 rfl ?_
    obtain ⟨ox7, h⟩ := h
    refine z_iald A dX11_isBetter_99 (zk_163 _) (Nat.le_of_ble_eq_true rfl) ox7 ?_
    obtain ⟨ox8, h⟩ := h
    refine z_iald A dX11_isBetter_100 (zk_162 _) (Nat.le_of_ble_eq_true rfl) ox8 ?_
    refine s_callS (M := mX11_totalOf) (n := 1) (d := 2) (mc := 0) (ms := 0) (av := [zI (zi μ6 162 (zi μ6 163 x2))]) (st := [zI v6]) A dX11_isBetter_101 zwd1617 zwd1618 zwd100 zcd_X11_totalOf (Nat.le_of_ble_eq_true rfl) (Nat.le_of_ble_eq_true rfl) (Nat.le_refl _) ⟨Nat.le_of_ble_eq_true rfl, Nat.le_of_ble_eq_true rfl⟩ zhn_X11_totalOf rfl (Nat.le_of_ble_eq_true rfl) rfl (z_contI (fun v9 μ9 h => ?_) h)
    refine s_isub A dX11_isBetter_104 ?_
    refine s_istore (L' := [some (zR (some 153)), some (zI x1), some (zI x2), none, none, none, some (zI (v6 - v9))]) A dX11_isBetter_105 (Nat.le_of_ble_eq_true rfl) rfl ?_
    refine s_iload A dX11_isBetter_107 rfl ?_
    obtain ⟨oz10, h⟩ := h
    refine z_if_ge (tgt := 116) A dX11_isBetter_109 (by decide) oz10 (fun c11 => ?_) (fun c11 => ?_)
    · have h := h.1 c11
      refine s_iconst A dX11_isBetter_116 ?_
      exact s_zret A dX11_isBetter_117 hr hlk (Nat.le_of_ble_eq_true rfl) (Nat.le_of_ble_eq_true rfl) (Or.inl rfl) ⟨_, rfl, h⟩
    · have h := h.2 c11
      refine s_iconst A dX11_isBetter_112 ?_
      refine s_goto (tgt := 117) A dX11_isBetter_113 (by decide) ?_
      exact s_zret A dX11_isBetter_117 hr hlk (Nat.le_of_ble_eq_true rfl) (Nat.le_of_ble_eq_true rfl) (Or.inr rfl) ⟨_, rfl, h⟩
theorem eX11_isBetter {G : zG} {F : Int → zM → Prop} {μ : zM} {x1 : Int} {x2 : Int} {x3 : Int} (h : ∀ J, zJ G true (8) 0 0 mX11_isBetter (zKI F) J → J 0 ([some (zR (some 153)), some (zI x1), some (zI x2), some (zI x3), none, none, none], [], μ, 0, 0)) : qX11_isBetter G x1 x2 x3 μ F :=
  z_body (by decide +kernel) (Nat.le_of_ble_eq_true rfl) h
set_option maxRecDepth 20000 in
theorem rX11_matchOf_e {G : zG} {F : Int → zM → Prop} {J : Nat → zS → Prop} {μ : zM} (C : zJ G true (9) 0 0 mX11_matchOf (zKI F) J) (x1 : Int) (x2 : Int) (x3 : Int)
    (h : qX11_leastOf G x1 x2 x3 μ (fun v1 μ1 => J 30 ([some (zR (some 153)), none, none, none, some (zI 0), none, none], [], zup (zup (zup (zup μ1 153 20 v1) 153 21 8) 153 22 0) 153 23 0, 0, 0))) : J 0 ([some (zR (some 153)), some (zI x1), some (zI x2), some (zI x3), none, none, none], [], μ, 0, 0) := by
  obtain ⟨p, e, s, m, args, below, meth, c, A, hml, hr, hlk, hnm, rfl⟩ := C
  refine s_aload_n A dX11_matchOf_0 rfl ?_
  refine s_aload_n A dX11_matchOf_1 rfl ?_
  refine s_iload_n A dX11_matchOf_2 rfl ?_
  refine s_iload_n A dX11_matchOf_3 rfl ?_
  refine s_iload_n A dX11_matchOf_4 rfl ?_
  refine s_callV (a := 153) (k := 11) (N := 45) (sl := true) (M := mX11_leastOf) (n := 3) (d := 3) (mc := 0) (ms := 0) (av := [zI x1, zI x2, zI x3]) (st := [zR (some 153)]) A dX11_matchOf_5 rfl (by decide) (zk_153 _) zwd1655 zwd1657 zwd58 zwd100 zcd_X11_leastOf (Nat.le_of_ble_eq_true rfl) (Nat.le_of_ble_eq_true rfl) (Nat.le_refl _) ⟨Nat.le_of_ble_eq_true rfl, Nat.le_of_ble_eq_true rfl⟩ ⟨rfl, zhn_X11_leastOf⟩ rfl (Nat.le_of_ble_eq_true rfl) rfl (z_contI (fun v1 μ1 h => ?_) h)
  refine z_putI (k := 11) (j := 20) (sl := true) A dX11_matchOf_8 rfl zuw_X11 (Nat.le_of_ble_eq_true rfl) zwd1328 (by decide) (zk_153 _) tyX11 tyX11_ok nmX11 rfl rfl rfl ?_
  refine s_aload_n A dX11_matchOf_11 rfl ?_
  refine s_bipush A dX11_matchOf_12 rfl ?_
  refine z_putI (k := 11) (j := 21) (sl := true) A dX11_matchOf_14 rfl zuw_X11 (Nat.le_of_ble_eq_true rfl) zwd1329 (by decide) (zk_153 _) tyX11 tyX11_ok nmX11 rfl rfl rfl ?_
  refine s_aload_n A dX11_matchOf_17 rfl ?_
  refine s_iconst A dX11_matchOf_18 ?_
  refine z_putI (k := 11) (j := 22) (sl := true) A dX11_matchOf_19 rfl zuw_X11 (Nat.le_of_ble_eq_true rfl) zwd1330 (by decide) (zk_153 _) tyX11 tyX11_ok nmX11 rfl rfl rfl ?_
  refine s_aload_n A dX11_matchOf_22 rfl ?_
  refine s_iconst A dX11_matchOf_23 ?_
  refine z_putI (k := 11) (j := 23) (sl := true) A dX11_matchOf_24 rfl zuw_X11 (Nat.le_of_ble_eq_true rfl) zwd1331 (by decide) (zk_153 _) tyX11 tyX11_ok nmX11 rfl rfl rfl ?_
  refine s_iconst A dX11_matchOf_27 ?_
  refine s_istore (L' := [some (zR (some 153)), some (zI x1), some (zI x2), some (zI x3), some (zI 0), none, none]) A dX11_matchOf_28 (Nat.le_of_ble_eq_true rfl) rfl ?_
  exact z_wk (L' := [some (zR (some 153)), none, none, none, some (zI 0), none, none]) ⟨rfl, rfl, trivial⟩ h
set_option maxRecDepth 20000 in
theorem rX11_matchOf_30 {G : zG} {F : Int → zM → Prop} {J : Nat → zS → Prop} {μ : zM} (C : zJ G true (9) 0 0 mX11_matchOf (zKI F) J) (x4 : Int)
    (h : zin x4 ∧ zin (zi μ 153 18) ∧ ((zi μ 153 18 ≤ x4 → (0 ≤ ((zi μ 153 22) - (zi μ 153 21)) * (zi μ 154 705) ∧ ((zi μ 153 22) - (zi μ 153 21)) * (zi μ 154 705) < 2147483648) ∧ J 156 ([some (zR (some 153)), none, none, none, some (zI ((zi μ 153 21) + ((((zi μ 153 22) - (zi μ 153 21)) * (zi μ 154 705)) / 4))), some (zI (-1)), some (zI 0)], [], μ, 0, 0)) ∧ (¬ (zi μ 153 18 ≤ x4) → (0 ≤ x4 ∧ x4 < 6561) ∧ zin (zi μ 165 x4) ∧ zin ((zi μ 153 20) + (zi μ 154 706)) ∧ ((zi μ 165 x4 ≤ (zi μ 153 20) + (zi μ 154 706) → (0 ≤ zi (zup μ 153 23 ((zi μ 153 23) + 1)) 163 x4 ∧ zi (zup μ 153 23 ((zi μ 153 23) + 1)) 163 x4 < 2147483648) ∧ zin (zi (zup μ 153 23 ((zi μ 153 23) + 1)) 153 21) ∧ zin ((zi (zup μ 153 23 ((zi μ 153 23) + 1)) 163 x4) % 9) ∧ (0 ≤ zi (zup (zup μ 153 23 ((zi μ 153 23) + 1)) 153 21 (min (zi (zup μ 153 23 ((zi μ 153 23) + 1)) 153 21) ((zi (zup μ 153 23 ((zi μ 153 23) + 1)) 163 x4) % 9))) 163 x4 ∧ zi (zup (zup μ 153 23 ((zi μ 153 23) + 1)) 153 21 (min (zi (zup μ 153 23 ((zi μ 153 23) + 1)) 153 21) ((zi (zup μ 153 23 ((zi μ 153 23) + 1)) 163 x4) % 9))) 163 x4 < 2147483648) ∧ zin (zi (zup (zup μ 153 23 ((zi μ 153 23) + 1)) 153 21 (min (zi (zup μ 153 23 ((zi μ 153 23) + 1)) 153 21) ((zi (zup μ 153 23 ((zi μ 153 23) + 1)) 163 x4) % 9))) 153 22) ∧ zin ((zi (zup (zup μ 153 23 ((zi μ 153 23) + 1)) 153 21 (min (zi (zup μ 153 23 ((zi μ 153 23) + 1)) 153 21) ((zi (zup μ 153 23 ((zi μ 153 23) + 1)) 163 x4) % 9))) 163 x4) % 9) ∧ J 30 ([some (zR (some 153)), none, none, none, some (zI (x4 + 1)), none, none], [], zup (zup (zup μ 153 23 ((zi μ 153 23) + 1)) 153 21 (min (zi (zup μ 153 23 ((zi μ 153 23) + 1)) 153 21) ((zi (zup μ 153 23 ((zi μ 153 23) + 1)) 163 x4) % 9))) 153 22 (max (zi (zup (zup μ 153 23 ((zi μ 153 23) + 1)) 153 21 (min (zi (zup μ 153 23 ((zi μ 153 23) + 1)) 153 21) ((zi (zup μ 153 23 ((zi μ 153 23) + 1)) 163 x4) % 9))) 153 22) ((zi (zup (zup μ 153 23 ((zi μ 153 23) + 1)) 153 21 (min (zi (zup μ 153 23 ((zi μ 153 23) + 1)) 153 21) ((zi (zup μ 153 23 ((zi μ 153 23) + 1)) 163 x4) % 9))) 163 x4) % 9)), 0, 0)) ∧ (¬ (zi μ 165 x4 ≤ (zi μ 153 20) + (zi μ 154 706)) → J 30 ([some (zR (some 153)), none, none, none, some (zI (x4 + 1)), none, none], [], μ, 0, 0)))))) : J 30 ([some (zR (some 153)), none, none, none, some (zI x4), none, none], [], μ, 0, 0) := by
  obtain ⟨p, e, s, m, args, below, meth, c, A, hml, hr, hlk, hnm, rfl⟩ := C
  refine s_iload A dX11_matchOf_30 rfl ?_
  refine s_aload_n A dX11_matchOf_32 rfl ?_
  refine s_getf (k := 11) (j := 18) (sl := true) (v := zI (zi μ 153 18)) A dX11_matchOf_33 rfl zuw_X11 (Nat.le_of_ble_eq_true rfl) zwd1326 (by decide) (zk_153 _) rfl ?_
  obtain ⟨oz1, h⟩ := h
  obtain ⟨oz2, h⟩ := h
  refine z_icmp_ge (tgt := 123) A dX11_matchOf_36 (by decide) oz1 oz2 (fun c3 => ?_) (fun c3 => ?_)
  · have h := h.1 c3
    refine s_aload_n A dX11_matchOf_123 rfl ?_
    refine s_getf (k := 11) (j := 21) (sl := true) (v := zI (zi μ 153 21)) A dX11_matchOf_124 rfl zuw_X11 (Nat.le_of_ble_eq_true rfl) zwd1329 (by decide) (zk_153 _) rfl ?_
    refine s_aload_n A dX11_matchOf_127 rfl ?_
    refine s_getf (k := 11) (j := 22) (sl := true) (v := zI (zi μ 153 22)) A dX11_matchOf_128 rfl zuw_X11 (Nat.le_of_ble_eq_true rfl) zwd1330 (by decide) (zk_153 _) rfl ?_
    refine s_aload_n A dX11_matchOf_131 rfl ?_
    refine s_getf (k := 11) (j := 21) (sl := true) (v := zI (zi μ 153 21)) A dX11_matchOf_132 rfl zuw_X11 (Nat.le_of_ble_eq_true rfl) zwd1329 (by decide) (zk_153 _) rfl ?_
    refine s_isub A dX11_matchOf_135 ?_
    refine s_aload_n A dX11_matchOf_136 rfl ?_
    refine s_getf (k := 11) (j := 0) (sl := true) (v := zR (some 154)) A dX11_matchOf_137 rfl zuw_X11 (Nat.le_of_ble_eq_true rfl) zwd1308 (by decide) (zk_153 _) rfl ?_
    refine s_sipush A dX11_matchOf_140 rfl ?_
    refine z_iald A dX11_matchOf_143 (zk_154 _) (Nat.le_of_ble_eq_true rfl) ⟨by decide, by decide⟩ ?_
    refine s_imul A dX11_matchOf_144 ?_
    refine s_iconst A dX11_matchOf_145 ?_
    obtain ⟨o1, h⟩ := h
    refine z_idiv A dX11_matchOf_146 o1 ⟨by decide, by decide⟩ ?_
    refine s_iadd A dX11_matchOf_147 ?_
    refine s_istore (L' := [some (zR (some 153)), none, none, none, some (zI ((zi μ 153 21) + ((((zi μ 153 22) - (zi μ 153 21)) * (zi μ 154 705)) / 4))), none, none]) A dX11_matchOf_148 (Nat.le_of_ble_eq_true rfl) rfl ?_
    refine s_iconst A dX11_matchOf_150 ?_
    refine s_istore (L' := [some (zR (some 153)), none, none, none, some (zI ((zi μ 153 21) + ((((zi μ 153 22) - (zi μ 153 21)) * (zi μ 154 705)) / 4))), some (zI (-1)), none]) A dX11_matchOf_151 (Nat.le_of_ble_eq_true rfl) rfl ?_
    refine s_iconst A dX11_matchOf_153 ?_
    refine s_istore (L' := [some (zR (some 153)), none, none, none, some (zI ((zi μ 153 21) + ((((zi μ 153 22) - (zi μ 153 21)) * (zi μ 154 705)) / 4))), some (zI (-1)), some (zI 0)]) A dX11_matchOf_154 (Nat.le_of_ble_eq_true rfl) rfl ?_
    exact h
  · have h := h.2 c3
    refine s_aload_n A dX11_matchOf_39 rfl ?_
    refine s_getf (k := 11) (j := 24) (sl := true) (v := zR (some 165)) A dX11_matchOf_40 rfl zuw_X11 (Nat.le_of_ble_eq_true rfl) zwd1332 (by decide) (zk_153 _) rfl ?_
    refine s_iload A dX11_matchOf_43 rfl ?_
    obtain ⟨ox4, h⟩ := h
    refine z_iald A dX11_matchOf_45 (zk_165 _) (Nat.le_of_ble_eq_true rfl) ox4 ?_
    refine s_aload_n A dX11_matchOf_46 rfl ?_
    refine s_getf (k := 11) (j := 20) (sl := true) (v := zI (zi μ 153 20)) A dX11_matchOf_47 rfl zuw_X11 (Nat.le_of_ble_eq_true rfl) zwd1328 (by decide) (zk_153 _) rfl ?_
    refine s_aload_n A dX11_matchOf_50 rfl ?_
    refine s_getf (k := 11) (j := 0) (sl := true) (v := zR (some 154)) A dX11_matchOf_51 rfl zuw_X11 (Nat.le_of_ble_eq_true rfl) zwd1308 (by decide) (zk_153 _) rfl ?_
    refine s_sipush A dX11_matchOf_54 rfl ?_
    refine z_iald A dX11_matchOf_57 (zk_154 _) (Nat.le_of_ble_eq_true rfl) ⟨by decide, by decide⟩ ?_
    refine s_iadd A dX11_matchOf_58 ?_
    obtain ⟨oz5, h⟩ := h
    obtain ⟨oz6, h⟩ := h
    refine z_icmp_le (tgt := 65) A dX11_matchOf_59 (by decide) oz5 oz6 (fun c7 => ?_) (fun c7 => ?_)
    · have h := h.1 c7
      refine s_aload_n A dX11_matchOf_65 rfl ?_
      refine s_dup A dX11_matchOf_66 rfl ?_
      refine s_getf (k := 11) (j := 23) (sl := true) (v := zI (zi μ 153 23)) A dX11_matchOf_67 rfl zuw_X11 (Nat.le_of_ble_eq_true rfl) zwd1331 (by decide) (zk_153 _) rfl ?_
      refine s_iconst A dX11_matchOf_70 ?_
      refine s_iadd A dX11_matchOf_71 ?_
      refine z_putI (k := 11) (j := 23) (sl := true) A dX11_matchOf_72 rfl zuw_X11 (Nat.le_of_ble_eq_true rfl) zwd1331 (by decide) (zk_153 _) tyX11 tyX11_ok nmX11 rfl rfl rfl ?_
      refine s_aload_n A dX11_matchOf_75 rfl ?_
      refine s_aload_n A dX11_matchOf_76 rfl ?_
      refine s_getf (k := 11) (j := 21) (sl := true) (v := zI (zi (zup μ 153 23 ((zi μ 153 23) + 1)) 153 21)) A dX11_matchOf_77 rfl zuw_X11 (Nat.le_of_ble_eq_true rfl) zwd1329 (by decide) (zk_153 _) rfl ?_
      refine s_aload_n A dX11_matchOf_80 rfl ?_
      refine s_getf (k := 11) (j := 17) (sl := true) (v := zR (some 163)) A dX11_matchOf_81 rfl zuw_X11 (Nat.le_of_ble_eq_true rfl) zwd1325 (by decide) (zk_153 _) rfl ?_
      refine s_iload A dX11_matchOf_84 rfl ?_
      refine z_iald A dX11_matchOf_86 (zk_163 _) (Nat.le_of_ble_eq_true rfl) ox4 ?_
      refine s_bipush A dX11_matchOf_87 rfl ?_
      obtain ⟨o1, h⟩ := h
      refine z_irem A dX11_matchOf_89 o1 ⟨by decide, by decide⟩ ?_
      obtain ⟨oz8, h⟩ := h
      obtain ⟨oz9, h⟩ := h
      refine z_mmin A dX11_matchOf_90 zwd1575 zwd509 zwd105 zwd510 (Nat.le_of_ble_eq_true rfl) (Nat.le_of_ble_eq_true rfl) ⟨Nat.le_of_ble_eq_true rfl, Nat.le_of_ble_eq_true rfl⟩ oz8 oz9 ?_
      refine z_putI (k := 11) (j := 21) (sl := true) A dX11_matchOf_93 rfl zuw_X11 (Nat.le_of_ble_eq_true rfl) zwd1329 (by decide) (zk_153 _) tyX11 tyX11_ok nmX11 rfl rfl rfl ?_
      refine s_aload_n A dX11_matchOf_96 rfl ?_
      refine s_aload_n A dX11_matchOf_97 rfl ?_
      refine s_getf (k := 11) (j := 22) (sl := true) (v := zI (zi (zup (zup μ 153 23 ((zi μ 153 23) + 1)) 153 21 (min (zi (zup μ 153 23 ((zi μ 153 23) + 1)) 153 21) ((zi (zup μ 153 23 ((zi μ 153 23) + 1)) 163 x4) % 9))) 153 22)) A dX11_matchOf_98 rfl zuw_X11 (Nat.le_of_ble_eq_true rfl) zwd1330 (by decide) (zk_153 _) rfl ?_
      refine s_aload_n A dX11_matchOf_101 rfl ?_
      refine s_getf (k := 11) (j := 17) (sl := true) (v := zR (some 163)) A dX11_matchOf_102 rfl zuw_X11 (Nat.le_of_ble_eq_true rfl) zwd1325 (by decide) (zk_153 _) rfl ?_
      refine s_iload A dX11_matchOf_105 rfl ?_
      refine z_iald A dX11_matchOf_107 (zk_163 _) (Nat.le_of_ble_eq_true rfl) ox4 ?_
      refine s_bipush A dX11_matchOf_108 rfl ?_
      obtain ⟨o1, h⟩ := h
      refine z_irem A dX11_matchOf_110 o1 ⟨by decide, by decide⟩ ?_
      obtain ⟨oz10, h⟩ := h
      obtain ⟨oz11, h⟩ := h
      refine z_mmax A dX11_matchOf_111 zwd1590 zwd506 zwd105 zwd507 (Nat.le_of_ble_eq_true rfl) (Nat.le_of_ble_eq_true rfl) ⟨Nat.le_of_ble_eq_true rfl, Nat.le_of_ble_eq_true rfl⟩ oz10 oz11 ?_
      refine z_putI (k := 11) (j := 22) (sl := true) A dX11_matchOf_114 rfl zuw_X11 (Nat.le_of_ble_eq_true rfl) zwd1330 (by decide) (zk_153 _) tyX11 tyX11_ok nmX11 rfl rfl rfl ?_
      refine s_iinc (L' := [some (zR (some 153)), none, none, none, some (zI (x4 + 1)), none, none]) A dX11_matchOf_117 rfl rfl ?_
      refine s_goto (tgt := 30) A dX11_matchOf_120 (by decide) ?_
      exact h
    · have h := h.2 c7
      refine s_goto (tgt := 117) A dX11_matchOf_62 (by decide) ?_
      refine s_iinc (L' := [some (zR (some 153)), none, none, none, some (zI (x4 + 1)), none, none]) A dX11_matchOf_117 rfl rfl ?_
      refine s_goto (tgt := 30) A dX11_matchOf_120 (by decide) ?_
      exact h
set_option maxRecDepth 20000 in
theorem rX11_matchOf_156 {G : zG} {F : Int → zM → Prop} {J : Nat → zS → Prop} {μ : zM} (C : zJ G true (9) 0 0 mX11_matchOf (zKI F) J) (x4 : Int) (x5 : Int) (x6 : Int)
    (h : zin x6 ∧ zin (zi μ 153 18) ∧ ((zi μ 153 18 ≤ x6 → (0 ≤ x5 ∧ x5 < 6561) ∧ (0 ≤ zi μ 163 x5 ∧ zi μ 163 x5 < 6561) ∧ F (zi μ 162 (zi μ 163 x5)) μ) ∧ (¬ (zi μ 153 18 ≤ x6) → (0 ≤ x6 ∧ x6 < 6561) ∧ zin (zi μ 165 x6) ∧ zin ((zi μ 153 20) + (zi μ 154 706)) ∧ ((zi μ 165 x6 ≤ (zi μ 153 20) + (zi μ 154 706) → zin x5 ∧ ((x5 = -1 → J 156 ([some (zR (some 153)), none, none, none, some (zI x4), some (zI x6), some (zI (x6 + 1))], [], μ, 0, 0)) ∧ (¬ (x5 = -1) → qX11_isBetter G x6 x5 x4 μ (fun v12 μ12 => zin v12 ∧ ((v12 = 0 → J 156 ([some (zR (some 153)), none, none, none, some (zI x4), some (zI x5), some (zI (x6 + 1))], [], μ12, 0, 0)) ∧ (¬ (v12 = 0) → J 156 ([some (zR (some 153)), none, none, none, some (zI x4), some (zI x6), some (zI (x6 + 1))], [], μ12, 0, 0))))))) ∧ (¬ (zi μ 165 x6 ≤ (zi μ 153 20) + (zi μ 154 706)) → J 156 ([some (zR (some 153)), none, none, none, some (zI x4), some (zI x5), some (zI (x6 + 1))], [], μ, 0, 0)))))) : J 156 ([some (zR (some 153)), none, none, none, some (zI x4), some (zI x5), some (zI x6)], [], μ, 0, 0) := by
  obtain ⟨p, e, s, m, args, below, meth, c, A, hml, hr, hlk, hnm, rfl⟩ := C
  refine s_iload A dX11_matchOf_156 rfl ?_
  refine s_aload_n A dX11_matchOf_158 rfl ?_
  refine s_getf (k := 11) (j := 18) (sl := true) (v := zI (zi μ 153 18)) A dX11_matchOf_159 rfl zuw_X11 (Nat.le_of_ble_eq_true rfl) zwd1326 (by decide) (zk_153 _) rfl ?_
  obtain ⟨oz1, h⟩ := h
  obtain ⟨oz2, h⟩ := h
  refine z_icmp_ge (tgt := 220) A dX11_matchOf_162 (by decide) oz1 oz2 (fun c3 => ?_) (fun c3 => ?_)
  · have h := h.1 c3
    refine s_aload_n A dX11_matchOf_220 rfl ?_
    refine s_getf (k := 11) (j := 16) (sl := true) (v := zR (some 162)) A dX11_matchOf_221 rfl zuw_X11 (Nat.le_of_ble_eq_true rfl) zwd1324 (by decide) (zk_153 _) rfl ?_
    refine s_aload_n A dX11_matchOf_224 rfl ?_
    refine s_getf (k := 11) (j := 17) (sl := true) (v := zR (some 163)) A dX11_matchOf_225 rfl zuw_X11 (Nat.le_of_ble_eq_true rfl) zwd1325 (by decide) (zk_153 _) rfl ?_
    refine s_iload A dX11_matchOf_228 rfl ?_
    obtain ⟨ox4, h⟩ := h
    refine z_iald A dX11_matchOf_230 (zk_163 _) (Nat.le_of_ble_eq_true rfl) ox4 ?_
    obtain ⟨ox5, h⟩ := h
    refine z_iald A dX11_matchOf_231 (zk_162 _) (Nat.le_of_ble_eq_true rfl) ox5 ?_
    exact s_iret A dX11_matchOf_232 hr hlk (Nat.le_of_ble_eq_true rfl) (Nat.le_of_ble_eq_true rfl) ⟨_, rfl, h⟩
  · have h := h.2 c3
    refine s_aload_n A dX11_matchOf_165 rfl ?_
    refine s_getf (k := 11) (j := 24) (sl := true) (v := zR (some 165)) A dX11_matchOf_166 rfl zuw_X11 (Nat.le_of_ble_eq_true rfl) zwd1332 (by decide) (zk_153 _) rfl ?_
    refine s_iload A dX11_matchOf_169 rfl ?_
    obtain ⟨ox6, h⟩ := h
    refine z_iald A dX11_matchOf_171 (zk_165 _) (Nat.le_of_ble_eq_true rfl) ox6 ?_
    refine s_aload_n A dX11_matchOf_172 rfl ?_
    refine s_getf (k := 11) (j := 20) (sl := true) (v := zI (zi μ 153 20)) A dX11_matchOf_173 rfl zuw_X11 (Nat.le_of_ble_eq_true rfl) zwd1328 (by decide) (zk_153 _) rfl ?_
    refine s_aload_n A dX11_matchOf_176 rfl ?_
    refine s_getf (k := 11) (j := 0) (sl := true) (v := zR (some 154)) A dX11_matchOf_177 rfl zuw_X11 (Nat.le_of_ble_eq_true rfl) zwd1308 (by decide) (zk_153 _) rfl ?_
    refine s_sipush A dX11_matchOf_180 rfl ?_
    refine z_iald A dX11_matchOf_183 (zk_154 _) (Nat.le_of_ble_eq_true rfl) ⟨by decide, by decide⟩ ?_
    refine s_iadd A dX11_matchOf_184 ?_
    obtain ⟨oz7, h⟩ := h
    obtain ⟨oz8, h⟩ := h
    refine z_icmp_le (tgt := 191) A dX11_matchOf_185 (by decide) oz7 oz8 (fun c9 => ?_) (fun c9 => ?_)
    · have h := h.1 c9
      refine s_iload A dX11_matchOf_191 rfl ?_
      refine s_iconst A dX11_matchOf_193 ?_
      obtain ⟨oz10, h⟩ := h
      refine z_icmp_eq (tgt := 210) A dX11_matchOf_194 (by decide) oz10 ⟨by decide, by decide⟩ (fun c11 => ?_) (fun c11 => ?_)
      · have h := h.1 c11
        refine s_iload A dX11_matchOf_210 rfl ?_
        refine s_istore (L' := [some (zR (some 153)), none, none, none, some (zI x4), some (zI x6), some (zI x6)]) A dX11_matchOf_212 (Nat.le_of_ble_eq_true rfl) rfl ?_
        refine s_iinc (L' := [some (zR (some 153)), none, none, none, some (zI x4), some (zI x6), some (zI (x6 + 1))]) A dX11_matchOf_214 rfl rfl ?_
        refine s_goto (tgt := 156) A dX11_matchOf_217 (by decide) ?_
        exact h
      · have h := h.2 c11
        refine s_aload_n A dX11_matchOf_197 rfl ?_
        refine s_iload A dX11_matchOf_198 rfl ?_
        refine s_iload A dX11_matchOf_200 rfl ?_
        refine s_iload A dX11_matchOf_202 rfl ?_
        refine s_callV (a := 153) (k := 11) (N := 45) (sl := true) (M := mX11_isBetter) (n := 3) (d := 8) (mc := 0) (ms := 0) (av := [zI x6, zI x5, zI x4]) (st := []) A dX11_matchOf_204 rfl (by decide) (zk_153 _) zwd1667 zwd1669 zwd61 zwd100 zcd_X11_isBetter (Nat.le_of_ble_eq_true rfl) (Nat.le_of_ble_eq_true rfl) (Nat.le_refl _) ⟨Nat.le_of_ble_eq_true rfl, Nat.le_of_ble_eq_true rfl⟩ ⟨rfl, zhn_X11_isBetter⟩ rfl (Nat.le_of_ble_eq_true rfl) rfl (z_contI (fun v12 μ12 h => ?_) h)
        obtain ⟨oz13, h⟩ := h
        refine z_if_eq (tgt := 214) A dX11_matchOf_207 (by decide) oz13 (fun c14 => ?_) (fun c14 => ?_)
        · have h := h.1 c14
          refine s_iinc (L' := [some (zR (some 153)), none, none, none, some (zI x4), some (zI x5), some (zI (x6 + 1))]) A dX11_matchOf_214 rfl rfl ?_
          refine s_goto (tgt := 156) A dX11_matchOf_217 (by decide) ?_
          exact h
        · have h := h.2 c14
          refine s_iload A dX11_matchOf_210 rfl ?_
          refine s_istore (L' := [some (zR (some 153)), none, none, none, some (zI x4), some (zI x6), some (zI x6)]) A dX11_matchOf_212 (Nat.le_of_ble_eq_true rfl) rfl ?_
          refine s_iinc (L' := [some (zR (some 153)), none, none, none, some (zI x4), some (zI x6), some (zI (x6 + 1))]) A dX11_matchOf_214 rfl rfl ?_
          refine s_goto (tgt := 156) A dX11_matchOf_217 (by decide) ?_
          exact h
    · have h := h.2 c9
      refine s_goto (tgt := 214) A dX11_matchOf_188 (by decide) ?_
      refine s_iinc (L' := [some (zR (some 153)), none, none, none, some (zI x4), some (zI x5), some (zI (x6 + 1))]) A dX11_matchOf_214 rfl rfl ?_
      refine s_goto (tgt := 156) A dX11_matchOf_217 (by decide) ?_
      exact h
theorem eX11_matchOf {G : zG} {F : Int → zM → Prop} {μ : zM} {x1 : Int} {x2 : Int} {x3 : Int} (h : ∀ J, zJ G true (9) 0 0 mX11_matchOf (zKI F) J → J 0 ([some (zR (some 153)), some (zI x1), some (zI x2), some (zI x3), none, none, none], [], μ, 0, 0)) : qX11_matchOf G x1 x2 x3 μ F :=
  z_body (by decide +kernel) (Nat.le_of_ble_eq_true rfl) h
set_option maxRecDepth 20000 in
theorem rX11_match_e {G : zG} {F : Int → zM → Prop} {J : Nat → zS → Prop} {μ : zM} (C : zJ G true (12) 0 0 mX11_match (zKI F) J) (x1 : Int) (x2 : Int) (x3 : Int)
    (h : qX11_isWanted G true x1 x2 x3 (zup μ 153 5 0) (fun v1 μ1 => zin v1 ∧ ((¬ v1 = 0 → qX11_layColours G 154 μ1 (fun μ4 => qX11_matchOf G x1 x2 x3 μ4 (fun v5 μ5 => qX11_numberOf G true v5 (zup μ5 153 4 0) (fun v6 μ6 => qX11_apartOf G v6 x1 x2 x3 μ6 (fun v7 μ7 => zin v7 ∧ qX11_tell G v7 μ7 (fun μ9 => zin (zi μ9 153 21) ∧ qX11_tell G (zi μ9 153 21) μ9 (fun μ11 => zin (zi μ11 153 22) ∧ qX11_tell G (zi μ11 153 22) μ11 (fun μ13 => zin (zi μ13 153 23) ∧ qX11_tell G (zi μ13 153 23) μ13 (fun μ15 => F v5 μ15))))))))) ∧ (v1 = 0 → F (-1) μ1)))) : J 0 ([some (zR (some 153)), some (zI x1), some (zI x2), some (zI x3), none], [], μ, 0, 0) := by
  obtain ⟨p, e, s, m, args, below, meth, c, A, hml, hr, hlk, hnm, rfl⟩ := C
  refine s_aload_n A dX11_match_0 rfl ?_
  refine s_iconst A dX11_match_1 ?_
  refine z_putI (k := 11) (j := 5) (sl := true) A dX11_match_2 rfl zuw_X11 (Nat.le_of_ble_eq_true rfl) zwd1313 (by decide) (zk_153 _) tyX11 tyX11_ok nmX11 rfl rfl rfl ?_
  refine s_iload_n A dX11_match_5 rfl ?_
  refine s_iload_n A dX11_match_6 rfl ?_
  refine s_iload_n A dX11_match_7 rfl ?_
  refine s_callS (M := mX11_isWanted) (n := 3) (d := 2) (mc := 0) (ms := 0) (av := [zI x1, zI x2, zI x3]) (st := []) A dX11_match_8 zwd1640 zwd1641 zwd100 zcd_X11_isWanted (Nat.le_of_ble_eq_true rfl) (Nat.le_of_ble_eq_true rfl) (Nat.le_refl _) ⟨Nat.le_of_ble_eq_true rfl, Nat.le_of_ble_eq_true rfl⟩ zhn_X11_isWanted rfl (Nat.le_of_ble_eq_true rfl) rfl (z_contI (fun v1 μ1 h => ?_) h)
  obtain ⟨oz2, h⟩ := h
  refine z_if_ne (tgt := 16) A dX11_match_11 (by decide) oz2 (fun c3 => ?_) (fun c3 => ?_)
  · have h := h.1 c3
    refine s_aload_n A dX11_match_16 rfl ?_
    refine s_aload_n A dX11_match_17 rfl ?_
    refine s_getf (k := 11) (j := 0) (sl := true) (v := zR (some 154)) A dX11_match_18 rfl zuw_X11 (Nat.le_of_ble_eq_true rfl) zwd1308 (by decide) (zk_153 _) rfl ?_
    refine s_callV (a := 153) (k := 11) (N := 45) (sl := true) (M := mX11_layColours) (n := 1) (d := 11) (mc := 0) (ms := 0) (av := [zR (some 154)]) (st := []) A dX11_match_21 rfl (by decide) (zk_153 _) zwd1643 zwd1645 zwd55 zwd100 zcd_X11_layColours (Nat.le_of_ble_eq_true rfl) (Nat.le_of_ble_eq_true rfl) (Nat.le_refl _) ⟨Nat.le_of_ble_eq_true rfl, Nat.le_of_ble_eq_true rfl⟩ ⟨rfl, zhn_X11_layColours⟩ rfl (Nat.le_of_ble_eq_true rfl) rfl (z_contV (fun μ4 h => ?_) h)
    refine s_aload_n A dX11_match_24 rfl ?_
    refine s_iload_n A dX11_match_25 rfl ?_
    refine s_iload_n A dX11_match_26 rfl ?_
    refine s_iload_n A dX11_match_27 rfl ?_
    refine s_callV (a := 153) (k := 11) (N := 45) (sl := true) (M := mX11_matchOf) (n := 3) (d := 9) (mc := 0) (ms := 0) (av := [zI x1, zI x2, zI x3]) (st := []) A dX11_match_28 rfl (by decide) (zk_153 _) zwd1651 zwd1653 zwd57 zwd100 zcd_X11_matchOf (Nat.le_of_ble_eq_true rfl) (Nat.le_of_ble_eq_true rfl) (Nat.le_refl _) ⟨Nat.le_of_ble_eq_true rfl, Nat.le_of_ble_eq_true rfl⟩ ⟨rfl, zhn_X11_matchOf⟩ rfl (Nat.le_of_ble_eq_true rfl) rfl (z_contI (fun v5 μ5 h => ?_) h)
    refine s_istore (L' := [some (zR (some 153)), some (zI x1), some (zI x2), some (zI x3), some (zI v5)]) A dX11_match_31 (Nat.le_of_ble_eq_true rfl) rfl ?_
    refine s_aload_n A dX11_match_33 rfl ?_
    refine s_iconst A dX11_match_34 ?_
    refine z_putI (k := 11) (j := 4) (sl := true) A dX11_match_35 rfl zuw_X11 (Nat.le_of_ble_eq_true rfl) zwd1312 (by decide) (zk_153 _) tyX11 tyX11_ok nmX11 rfl rfl rfl ?_
    refine s_aload_n A dX11_match_38 rfl ?_
    refine s_aload_n A dX11_match_39 rfl ?_
    refine s_iload A dX11_match_40 rfl ?_
    refine s_callS (M := mX11_numberOf) (n := 1) (d := 2) (mc := 0) (ms := 0) (av := [zI v5]) (st := [zR (some 153), zR (some 153)]) A dX11_match_42 zwd1671 zwd1672 zwd100 zcd_X11_numberOf (Nat.le_of_ble_eq_true rfl) (Nat.le_of_ble_eq_true rfl) (Nat.le_refl _) ⟨Nat.le_of_ble_eq_true rfl, Nat.le_of_ble_eq_true rfl⟩ zhn_X11_numberOf rfl (Nat.le_of_ble_eq_true rfl) rfl (z_contI (fun v6 μ6 h => ?_) h)
    refine s_iload_n A dX11_match_45 rfl ?_
    refine s_iload_n A dX11_match_46 rfl ?_
    refine s_iload_n A dX11_match_47 rfl ?_
    refine s_callV (a := 153) (k := 11) (N := 45) (sl := true) (M := mX11_apartOf) (n := 4) (d := 2) (mc := 0) (ms := 0) (av := [zI v6, zI x1, zI x2, zI x3]) (st := [zR (some 153)]) A dX11_match_48 rfl (by decide) (zk_153 _) zwd1659 zwd1661 zwd59 zwd100 zcd_X11_apartOf (Nat.le_of_ble_eq_true rfl) (Nat.le_of_ble_eq_true rfl) (Nat.le_refl _) ⟨Nat.le_of_ble_eq_true rfl, Nat.le_of_ble_eq_true rfl⟩ ⟨rfl, zhn_X11_apartOf⟩ rfl (Nat.le_of_ble_eq_true rfl) rfl (z_contI (fun v7 μ7 h => ?_) h)
    obtain ⟨oz8, h⟩ := h
    refine z_i2l2 A dX11_match_51 oz8 ?_
    refine s_callV (a := 153) (k := 11) (N := 45) (sl := true) (M := mX11_tell) (n := 1) (d := 0) (mc := 0) (ms := 0) (av := [zL v7]) (st := []) A dX11_match_52 rfl (by decide) (zk_153 _) zwd1613 zwd1615 zwd51 zwd100 zcd_X11_tell (Nat.le_of_ble_eq_true rfl) (Nat.le_of_ble_eq_true rfl) (Nat.le_refl _) ⟨Nat.le_of_ble_eq_true rfl, Nat.le_of_ble_eq_true rfl⟩ ⟨rfl, zhn_X11_tell⟩ rfl (Nat.le_of_ble_eq_true rfl) rfl (z_contV (fun μ9 h => ?_) h)
    refine s_aload_n A dX11_match_55 rfl ?_
    refine s_aload_n A dX11_match_56 rfl ?_
    refine s_getf (k := 11) (j := 21) (sl := true) (v := zI (zi μ9 153 21)) A dX11_match_57 rfl zuw_X11 (Nat.le_of_ble_eq_true rfl) zwd1329 (by decide) (zk_153 _) rfl ?_
    obtain ⟨oz10, h⟩ := h
    refine z_i2l2 A dX11_match_60 oz10 ?_
    refine s_callV (a := 153) (k := 11) (N := 45) (sl := true) (M := mX11_tell) (n := 1) (d := 0) (mc := 0) (ms := 0) (av := [zL (zi μ9 153 21)]) (st := []) A dX11_match_61 rfl (by decide) (zk_153 _) zwd1613 zwd1615 zwd51 zwd100 zcd_X11_tell (Nat.le_of_ble_eq_true rfl) (Nat.le_of_ble_eq_true rfl) (Nat.le_refl _) ⟨Nat.le_of_ble_eq_true rfl, Nat.le_of_ble_eq_true rfl⟩ ⟨rfl, zhn_X11_tell⟩ rfl (Nat.le_of_ble_eq_true rfl) rfl (z_contV (fun μ11 h => ?_) h)
    refine s_aload_n A dX11_match_64 rfl ?_
    refine s_aload_n A dX11_match_65 rfl ?_
    refine s_getf (k := 11) (j := 22) (sl := true) (v := zI (zi μ11 153 22)) A dX11_match_66 rfl zuw_X11 (Nat.le_of_ble_eq_true rfl) zwd1330 (by decide) (zk_153 _) rfl ?_
    obtain ⟨oz12, h⟩ := h
    refine z_i2l2 A dX11_match_69 oz12 ?_
    refine s_callV (a := 153) (k := 11) (N := 45) (sl := true) (M := mX11_tell) (n := 1) (d := 0) (mc := 0) (ms := 0) (av := [zL (zi μ11 153 22)]) (st := []) A dX11_match_70 rfl (by decide) (zk_153 _) zwd1613 zwd1615 zwd51 zwd100 zcd_X11_tell (Nat.le_of_ble_eq_true rfl) (Nat.le_of_ble_eq_true rfl) (Nat.le_refl _) ⟨Nat.le_of_ble_eq_true rfl, Nat.le_of_ble_eq_true rfl⟩ ⟨rfl, zhn_X11_tell⟩ rfl (Nat.le_of_ble_eq_true rfl) rfl (z_contV (fun μ13 h => ?_) h)
    refine s_aload_n A dX11_match_73 rfl ?_
    refine s_aload_n A dX11_match_74 rfl ?_
    refine s_getf (k := 11) (j := 23) (sl := true) (v := zI (zi μ13 153 23)) A dX11_match_75 rfl zuw_X11 (Nat.le_of_ble_eq_true rfl) zwd1331 (by decide) (zk_153 _) rfl ?_
    obtain ⟨oz14, h⟩ := h
    refine z_i2l2 A dX11_match_78 oz14 ?_
    refine s_callV (a := 153) (k := 11) (N := 45) (sl := true) (M := mX11_tell) (n := 1) (d := 0) (mc := 0) (ms := 0) (av := [zL (zi μ13 153 23)]) (st := []) A dX11_match_79 rfl (by decide) (zk_153 _) zwd1613 zwd1615 zwd51 zwd100 zcd_X11_tell (Nat.le_of_ble_eq_true rfl) (Nat.le_of_ble_eq_true rfl) (Nat.le_refl _) ⟨Nat.le_of_ble_eq_true rfl, Nat.le_of_ble_eq_true rfl⟩ ⟨rfl, zhn_X11_tell⟩ rfl (Nat.le_of_ble_eq_true rfl) rfl (z_contV (fun μ15 h => ?_) h)
    refine s_iload A dX11_match_82 rfl ?_
    exact s_iret A dX11_match_84 hr hlk (Nat.le_of_ble_eq_true rfl) (Nat.le_of_ble_eq_true rfl) ⟨_, rfl, h⟩
  · have h := h.2 c3
    refine s_iconst A dX11_match_14 ?_
    exact s_iret A dX11_match_15 hr hlk (Nat.le_of_ble_eq_true rfl) (Nat.le_of_ble_eq_true rfl) ⟨_, rfl, h⟩
theorem eX11_match {G : zG} {F : Int → zM → Prop} {μ : zM} {x1 : Int} {x2 : Int} {x3 : Int} (h : ∀ J, zJ G true (12) 0 0 mX11_match (zKI F) J → J 0 ([some (zR (some 153)), some (zI x1), some (zI x2), some (zI x3), none], [], μ, 0, 0)) : qX11_match G x1 x2 x3 μ F :=
  z_body (by decide +kernel) (Nat.le_of_ble_eq_true rfl) h
set_option maxRecDepth 20000 in
theorem rX11_layFold_e {G : zG} {F : zM → Prop} {J : Nat → zS → Prop} {μ : zM} (C : zJ G true (0) 0 0 mX11_layFold (zKV F) J) (x1 : Int) (x2 : Int) (x3 : Int) (x4 : Int)
    (h : (zin ((x2 + x3) + x4)) ∧ (zin ((x2 - (((x2 + x3) + x4).tdiv 3)) * (8 - x1))) ∧ (zin ((x3 - (((x2 + x3) + x4).tdiv 3)) * (8 - x1))) ∧ (zin ((x4 - (((x2 + x3) + x4).tdiv 3)) * (8 - x1))) ∧ F (zup (zup (zup μ 166 0 ((((x2 + x3) + x4).tdiv 3) + (((x2 - (((x2 + x3) + x4).tdiv 3)) * (8 - x1)).tdiv 8))) 166 1 ((((x2 + x3) + x4).tdiv 3) + (((x3 - (((x2 + x3) + x4).tdiv 3)) * (8 - x1)).tdiv 8))) 166 2 ((((x2 + x3) + x4).tdiv 3) + (((x4 - (((x2 + x3) + x4).tdiv 3)) * (8 - x1)).tdiv 8)))) : J 0 ([some (zR (some 153)), some (zI x1), some (zI x2), some (zI x3), some (zI x4), none], [], μ, 0, 0) := by
  obtain ⟨p, e, s, m, args, below, meth, c, A, hml, hr, hlk, hnm, rfl⟩ := C
  refine s_iload_n A dX11_layFold_0 rfl ?_
  refine s_iload_n A dX11_layFold_1 rfl ?_
  refine s_iadd A dX11_layFold_2 ?_
  refine s_iload A dX11_layFold_3 rfl ?_
  refine s_iadd A dX11_layFold_5 ?_
  refine s_iconst A dX11_layFold_6 ?_
  obtain ⟨o1, h⟩ := h
  refine z_idivt A dX11_layFold_7 o1 ⟨by decide, by decide⟩ ?_
  refine s_istore (L' := [some (zR (some 153)), some (zI x1), some (zI x2), some (zI x3), some (zI x4), some (zI (((x2 + x3) + x4).tdiv 3))]) A dX11_layFold_8 (Nat.le_of_ble_eq_true rfl) rfl ?_
  refine s_aload_n A dX11_layFold_10 rfl ?_
  refine s_getf (k := 11) (j := 25) (sl := true) (v := zR (some 166)) A dX11_layFold_11 rfl zuw_X11 (Nat.le_of_ble_eq_true rfl) zwd1333 (by decide) (zk_153 _) rfl ?_
  refine s_iconst A dX11_layFold_14 ?_
  refine s_iload A dX11_layFold_15 rfl ?_
  refine s_iload_n A dX11_layFold_17 rfl ?_
  refine s_iload A dX11_layFold_18 rfl ?_
  refine s_isub A dX11_layFold_20 ?_
  refine s_bipush A dX11_layFold_21 rfl ?_
  refine s_iload_n A dX11_layFold_23 rfl ?_
  refine s_isub A dX11_layFold_24 ?_
  refine s_imul A dX11_layFold_25 ?_
  refine s_bipush A dX11_layFold_26 rfl ?_
  obtain ⟨o1, h⟩ := h
  refine z_idivt A dX11_layFold_28 o1 ⟨by decide, by decide⟩ ?_
  refine s_iadd A dX11_layFold_29 ?_
  refine z_iast A dX11_layFold_30 (zk_166 _) (Nat.le_of_ble_eq_true rfl) ⟨by decide, by decide⟩ ?_
  refine s_aload_n A dX11_layFold_31 rfl ?_
  refine s_getf (k := 11) (j := 25) (sl := true) (v := zR (some 166)) A dX11_layFold_32 rfl zuw_X11 (Nat.le_of_ble_eq_true rfl) zwd1333 (by decide) (zk_153 _) rfl ?_
  refine s_iconst A dX11_layFold_35 ?_
  refine s_iload A dX11_layFold_36 rfl ?_
  refine s_iload_n A dX11_layFold_38 rfl ?_
  refine s_iload A dX11_layFold_39 rfl ?_
  refine s_isub A dX11_layFold_41 ?_
  refine s_bipush A dX11_layFold_42 rfl ?_
  refine s_iload_n A dX11_layFold_44 rfl ?_
  refine s_isub A dX11_layFold_45 ?_
  refine s_imul A dX11_layFold_46 ?_
  refine s_bipush A dX11_layFold_47 rfl ?_
  obtain ⟨o1, h⟩ := h
  refine z_idivt A dX11_layFold_49 o1 ⟨by decide, by decide⟩ ?_
  refine s_iadd A dX11_layFold_50 ?_
  refine z_iast A dX11_layFold_51 (zk_166 _) (Nat.le_of_ble_eq_true rfl) ⟨by decide, by decide⟩ ?_
  refine s_aload_n A dX11_layFold_52 rfl ?_
  refine s_getf (k := 11) (j := 25) (sl := true) (v := zR (some 166)) A dX11_layFold_53 rfl zuw_X11 (Nat.le_of_ble_eq_true rfl) zwd1333 (by decide) (zk_153 _) rfl ?_
  refine s_iconst A dX11_layFold_56 ?_
  refine s_iload A dX11_layFold_57 rfl ?_
  refine s_iload A dX11_layFold_59 rfl ?_
  refine s_iload A dX11_layFold_61 rfl ?_
  refine s_isub A dX11_layFold_63 ?_
  refine s_bipush A dX11_layFold_64 rfl ?_
  refine s_iload_n A dX11_layFold_66 rfl ?_
  refine s_isub A dX11_layFold_67 ?_
  refine s_imul A dX11_layFold_68 ?_
  refine s_bipush A dX11_layFold_69 rfl ?_
  obtain ⟨o1, h⟩ := h
  refine z_idivt A dX11_layFold_71 o1 ⟨by decide, by decide⟩ ?_
  refine s_iadd A dX11_layFold_72 ?_
  refine z_iast A dX11_layFold_73 (zk_166 _) (Nat.le_of_ble_eq_true rfl) ⟨by decide, by decide⟩ ?_
  exact s_vret A dX11_layFold_74 hr hlk (Nat.le_of_ble_eq_true rfl) (Nat.le_of_ble_eq_true rfl) ⟨rfl, h⟩
theorem eX11_layFold {G : zG} {F : zM → Prop} {μ : zM} {x1 : Int} {x2 : Int} {x3 : Int} {x4 : Int} (h : ∀ J, zJ G true (0) 0 0 mX11_layFold (zKV F) J → J 0 ([some (zR (some 153)), some (zI x1), some (zI x2), some (zI x3), some (zI x4), none], [], μ, 0, 0)) : qX11_layFold G x1 x2 x3 x4 μ F :=
  z_body (by decide +kernel) (Nat.le_of_ble_eq_true rfl) h
set_option maxRecDepth 20000 in
theorem rX11_foldOf_e {G : zG} {F : Int → zM → Prop} {J : Nat → zS → Prop} {μ : zM} (C : zJ G true (4) 0 0 mX11_foldOf (zKI F) J) (x1 : Int) (x2 : Int) (x3 : Int)
    (h : J 9 ([some (zR (some 153)), some (zI x1), some (zI x2), some (zI x3), some (zI (-1)), some (zI 0), some (zI 0), none, none], [], μ, 0, 0)) : J 0 ([some (zR (some 153)), some (zI x1), some (zI x2), some (zI x3), none, none, none, none, none], [], μ, 0, 0) := by
  obtain ⟨p, e, s, m, args, below, meth, c, A, hml, hr, hlk, hnm, rfl⟩ := C
  refine s_iconst A dX11_foldOf_0 ?_
  refine s_istore (L' := [some (zR (some 153)), some (zI x1), some (zI x2), some (zI x3), some (zI (-1)), none, none, none, none]) A dX11_foldOf_1 (Nat.le_of_ble_eq_true rfl) rfl ?_
  refine s_iconst A dX11_foldOf_3 ?_
  refine s_istore (L' := [some (zR (some 153)), some (zI x1), some (zI x2), some (zI x3), some (zI (-1)), some (zI 0), none, none, none]) A dX11_foldOf_4 (Nat.le_of_ble_eq_true rfl) rfl ?_
  refine s_iconst A dX11_foldOf_6 ?_
  refine s_istore (L' := [some (zR (some 153)), some (zI x1), some (zI x2), some (zI x3), some (zI (-1)), some (zI 0), some (zI 0), none, none]) A dX11_foldOf_7 (Nat.le_of_ble_eq_true rfl) rfl ?_
  exact h
set_option maxRecDepth 20000 in
theorem rX11_foldOf_9 {G : zG} {F : Int → zM → Prop} {J : Nat → zS → Prop} {μ : zM} (C : zJ G true (4) 0 0 mX11_foldOf (zKI F) J) (x1 : Int) (x2 : Int) (x3 : Int) (x4 : Int) (x5 : Int) (x6 : Int)
    (h : zin x6 ∧ ((8 < x6 → qX11_layFold G x4 x1 x2 x3 μ (fun μ3 => F x4 (zup μ3 153 26 x5))) ∧ (¬ (8 < x6) → qX11_layFold G x6 x1 x2 x3 μ (fun μ4 => qX11_leastOf G (zi μ4 166 0) (zi μ4 166 1) (zi μ4 166 2) μ4 (fun v5 μ5 => zin x4 ∧ ((x4 = -1 → J 67 ([some (zR (some 153)), some (zI x1), some (zI x2), some (zI x3), some (zI x4), some (zI x5), some (zI x6), some (zI v5), none], [zI 1], μ5, 0, 0)) ∧ (¬ (x4 = -1) → zin v5 ∧ zin x5 ∧ ((x5 ≤ v5 → J 67 ([some (zR (some 153)), some (zI x1), some (zI x2), some (zI x3), some (zI x4), some (zI x5), some (zI x6), some (zI v5), none], [zI 0], μ5, 0, 0)) ∧ (¬ (x5 ≤ v5) → J 67 ([some (zR (some 153)), some (zI x1), some (zI x2), some (zI x3), some (zI x4), some (zI x5), some (zI x6), some (zI v5), none], [zI 1], μ5, 0, 0)))))))))) : J 9 ([some (zR (some 153)), some (zI x1), some (zI x2), some (zI x3), some (zI x4), some (zI x5), some (zI x6), none, none], [], μ, 0, 0) := by
  obtain ⟨p, e, s, m, args, below, meth, c, A, hml, hr, hlk, hnm, rfl⟩ := C
  refine s_iload A dX11_foldOf_9 rfl ?_
  refine s_bipush A dX11_foldOf_11 rfl ?_
  obtain ⟨oz1, h⟩ := h
  refine z_icmp_gt (tgt := 115) A dX11_foldOf_13 (by decide) oz1 ⟨by decide, by decide⟩ (fun c2 => ?_) (fun c2 => ?_)
  · have h := h.1 c2
    refine s_aload_n A dX11_foldOf_115 rfl ?_
    refine s_iload A dX11_foldOf_116 rfl ?_
    refine s_iload_n A dX11_foldOf_118 rfl ?_
    refine s_iload_n A dX11_foldOf_119 rfl ?_
    refine s_iload_n A dX11_foldOf_120 rfl ?_
    refine s_callV (a := 153) (k := 11) (N := 45) (sl := true) (M := mX11_layFold) (n := 4) (d := 0) (mc := 0) (ms := 0) (av := [zI x4, zI x1, zI x2, zI x3]) (st := []) A dX11_foldOf_121 rfl (by decide) (zk_153 _) zwd1682 zwd1684 zwd63 zwd100 zcd_X11_layFold (Nat.le_of_ble_eq_true rfl) (Nat.le_of_ble_eq_true rfl) (Nat.le_refl _) ⟨Nat.le_of_ble_eq_true rfl, Nat.le_of_ble_eq_true rfl⟩ ⟨rfl, zhn_X11_layFold⟩ rfl (Nat.le_of_ble_eq_true rfl) rfl (z_contV (fun μ3 h => ?_) h)
    refine s_aload_n A dX11_foldOf_124 rfl ?_
    refine s_iload A dX11_foldOf_125 rfl ?_
    refine z_putI (k := 11) (j := 26) (sl := true) A dX11_foldOf_127 rfl zuw_X11 (Nat.le_of_ble_eq_true rfl) zwd1334 (by decide) (zk_153 _) tyX11 tyX11_ok nmX11 rfl rfl rfl ?_
    refine s_iload A dX11_foldOf_130 rfl ?_
    exact s_iret A dX11_foldOf_132 hr hlk (Nat.le_of_ble_eq_true rfl) (Nat.le_of_ble_eq_true rfl) ⟨_, rfl, h⟩
  · have h := h.2 c2
    refine s_aload_n A dX11_foldOf_16 rfl ?_
    refine s_iload A dX11_foldOf_17 rfl ?_
    refine s_iload_n A dX11_foldOf_19 rfl ?_
    refine s_iload_n A dX11_foldOf_20 rfl ?_
    refine s_iload_n A dX11_foldOf_21 rfl ?_
    refine s_callV (a := 153) (k := 11) (N := 45) (sl := true) (M := mX11_layFold) (n := 4) (d := 0) (mc := 0) (ms := 0) (av := [zI x6, zI x1, zI x2, zI x3]) (st := []) A dX11_foldOf_22 rfl (by decide) (zk_153 _) zwd1682 zwd1684 zwd63 zwd100 zcd_X11_layFold (Nat.le_of_ble_eq_true rfl) (Nat.le_of_ble_eq_true rfl) (Nat.le_refl _) ⟨Nat.le_of_ble_eq_true rfl, Nat.le_of_ble_eq_true rfl⟩ ⟨rfl, zhn_X11_layFold⟩ rfl (Nat.le_of_ble_eq_true rfl) rfl (z_contV (fun μ4 h => ?_) h)
    refine s_aload_n A dX11_foldOf_25 rfl ?_
    refine s_aload_n A dX11_foldOf_26 rfl ?_
    refine s_getf (k := 11) (j := 25) (sl := true) (v := zR (some 166)) A dX11_foldOf_27 rfl zuw_X11 (Nat.le_of_ble_eq_true rfl) zwd1333 (by decide) (zk_153 _) rfl ?_
    refine s_iconst A dX11_foldOf_30 ?_
    refine z_iald A dX11_foldOf_31 (zk_166 _) (Nat.le_of_ble_eq_true rfl) ⟨by decide, by decide⟩ ?_
    refine s_aload_n A dX11_foldOf_32 rfl ?_
    refine s_getf (k := 11) (j := 25) (sl := true) (v := zR (some 166)) A dX11_foldOf_33 rfl zuw_X11 (Nat.le_of_ble_eq_true rfl) zwd1333 (by decide) (zk_153 _) rfl ?_
    refine s_iconst A dX11_foldOf_36 ?_
    refine z_iald A dX11_foldOf_37 (zk_166 _) (Nat.le_of_ble_eq_true rfl) ⟨by decide, by decide⟩ ?_
    refine s_aload_n A dX11_foldOf_38 rfl ?_
    refine s_getf (k := 11) (j := 25) (sl := true) (v := zR (some 166)) A dX11_foldOf_39 rfl zuw_X11 (Nat.le_of_ble_eq_true rfl) zwd1333 (by decide) (zk_153 _) rfl ?_
    refine s_iconst A dX11_foldOf_42 ?_
    refine z_iald A dX11_foldOf_43 (zk_166 _) (Nat.le_of_ble_eq_true rfl) ⟨by decide, by decide⟩ ?_
    refine s_callV (a := 153) (k := 11) (N := 45) (sl := true) (M := mX11_leastOf) (n := 3) (d := 3) (mc := 0) (ms := 0) (av := [zI (zi μ4 166 0), zI (zi μ4 166 1), zI (zi μ4 166 2)]) (st := []) A dX11_foldOf_44 rfl (by decide) (zk_153 _) zwd1655 zwd1657 zwd58 zwd100 zcd_X11_leastOf (Nat.le_of_ble_eq_true rfl) (Nat.le_of_ble_eq_true rfl) (Nat.le_refl _) ⟨Nat.le_of_ble_eq_true rfl, Nat.le_of_ble_eq_true rfl⟩ ⟨rfl, zhn_X11_leastOf⟩ rfl (Nat.le_of_ble_eq_true rfl) rfl (z_contI (fun v5 μ5 h => ?_) h)
    refine s_istore (L' := [some (zR (some 153)), some (zI x1), some (zI x2), some (zI x3), some (zI x4), some (zI x5), some (zI x6), some (zI v5), none]) A dX11_foldOf_47 (Nat.le_of_ble_eq_true rfl) rfl ?_
    refine s_iload A dX11_foldOf_49 rfl ?_
    refine s_iconst A dX11_foldOf_51 ?_
    obtain ⟨oz6, h⟩ := h
    refine z_icmp_eq (tgt := 62) A dX11_foldOf_52 (by decide) oz6 ⟨by decide, by decide⟩ (fun c7 => ?_) (fun c7 => ?_)
    · have h := h.1 c7
      refine s_iconst A dX11_foldOf_62 ?_
      refine s_goto (tgt := 67) A dX11_foldOf_63 (by decide) ?_
      exact h
    · have h := h.2 c7
      refine s_iload A dX11_foldOf_55 rfl ?_
      refine s_iload A dX11_foldOf_57 rfl ?_
      obtain ⟨oz8, h⟩ := h
      obtain ⟨oz9, h⟩ := h
      refine z_icmp_ge (tgt := 66) A dX11_foldOf_59 (by decide) oz8 oz9 (fun c10 => ?_) (fun c10 => ?_)
      · have h := h.1 c10
        refine s_iconst A dX11_foldOf_66 ?_
        exact h
      · have h := h.2 c10
        refine s_iconst A dX11_foldOf_62 ?_
        refine s_goto (tgt := 67) A dX11_foldOf_63 (by decide) ?_
        exact h
set_option maxRecDepth 20000 in
theorem rX11_foldOf_67 {G : zG} {F : Int → zM → Prop} {J : Nat → zS → Prop} {μ : zM} (C : zJ G true (4) 0 0 mX11_foldOf (zKI F) J) (x1 : Int) (x2 : Int) (x3 : Int) (x4 : Int) (x5 : Int) (x6 : Int) (x7 : Int) (xs0 : Int)
    (h : zin xs0 ∧ ((xs0 = 0 → zin x7 ∧ zin (zi μ 154 706) ∧ ((x7 ≤ zi μ 154 706 → qX11_layFold G x6 x1 x2 x3 μ (fun μ6 => F x6 (zup μ6 153 26 x7))) ∧ (¬ (x7 ≤ zi μ 154 706) → J 9 ([some (zR (some 153)), some (zI x1), some (zI x2), some (zI x3), some (zI x4), some (zI x5), some (zI (x6 + 1)), none, none], [], μ, 0, 0)))) ∧ (¬ (xs0 = 0) → zin x7 ∧ zin (zi μ 154 706) ∧ ((x7 ≤ zi μ 154 706 → qX11_layFold G x6 x1 x2 x3 μ (fun μ10 => F x6 (zup μ10 153 26 x7))) ∧ (¬ (x7 ≤ zi μ 154 706) → J 9 ([some (zR (some 153)), some (zI x1), some (zI x2), some (zI x3), some (zI x6), some (zI x7), some (zI (x6 + 1)), none, none], [], μ, 0, 0)))))) : J 67 ([some (zR (some 153)), some (zI x1), some (zI x2), some (zI x3), some (zI x4), some (zI x5), some (zI x6), some (zI x7), none], [zI xs0], μ, 0, 0) := by
  obtain ⟨p, e, s, m, args, below, meth, c, A, hml, hr, hlk, hnm, rfl⟩ := C
  refine s_istore (L' := [some (zR (some 153)), some (zI x1), some (zI x2), some (zI x3), some (zI x4), some (zI x5), some (zI x6), some (zI x7), some (zI xs0)]) A dX11_foldOf_67 (Nat.le_of_ble_eq_true rfl) rfl ?_
  refine s_iload A dX11_foldOf_69 rfl ?_
  obtain ⟨oz1, h⟩ := h
  refine z_if_eq (tgt := 82) A dX11_foldOf_71 (by decide) oz1 (fun c2 => ?_) (fun c2 => ?_)
  · have h := h.1 c2
    refine s_iload A dX11_foldOf_82 rfl ?_
    refine s_aload_n A dX11_foldOf_84 rfl ?_
    refine s_getf (k := 11) (j := 0) (sl := true) (v := zR (some 154)) A dX11_foldOf_85 rfl zuw_X11 (Nat.le_of_ble_eq_true rfl) zwd1308 (by decide) (zk_153 _) rfl ?_
    refine s_sipush A dX11_foldOf_88 rfl ?_
    refine z_iald A dX11_foldOf_91 (zk_154 _) (Nat.le_of_ble_eq_true rfl) ⟨by decide, by decide⟩ ?_
    obtain ⟨oz3, h⟩ := h
    obtain ⟨oz4, h⟩ := h
    refine z_icmp_le (tgt := 98) A dX11_foldOf_92 (by decide) oz3 oz4 (fun c5 => ?_) (fun c5 => ?_)
    · have h := h.1 c5
      refine s_iload A dX11_foldOf_98 rfl ?_
      refine s_istore (L' := [some (zR (some 153)), some (zI x1), some (zI x2), some (zI x3), some (zI x6), some (zI x5), some (zI x6), some (zI x7), some (zI xs0)]) A dX11_foldOf_100 (Nat.le_of_ble_eq_true rfl) rfl ?_
      refine s_iload A dX11_foldOf_102 rfl ?_
      refine s_istore (L' := [some (zR (some 153)), some (zI x1), some (zI x2), some (zI x3), some (zI x6), some (zI x7), some (zI x6), some (zI x7), some (zI xs0)]) A dX11_foldOf_104 (Nat.le_of_ble_eq_true rfl) rfl ?_
      refine s_goto (tgt := 115) A dX11_foldOf_106 (by decide) ?_
      refine s_aload_n A dX11_foldOf_115 rfl ?_
      refine s_iload A dX11_foldOf_116 rfl ?_
      refine s_iload_n A dX11_foldOf_118 rfl ?_
      refine s_iload_n A dX11_foldOf_119 rfl ?_
      refine s_iload_n A dX11_foldOf_120 rfl ?_
      refine s_callV (a := 153) (k := 11) (N := 45) (sl := true) (M := mX11_layFold) (n := 4) (d := 0) (mc := 0) (ms := 0) (av := [zI x6, zI x1, zI x2, zI x3]) (st := []) A dX11_foldOf_121 rfl (by decide) (zk_153 _) zwd1682 zwd1684 zwd63 zwd100 zcd_X11_layFold (Nat.le_of_ble_eq_true rfl) (Nat.le_of_ble_eq_true rfl) (Nat.le_refl _) ⟨Nat.le_of_ble_eq_true rfl, Nat.le_of_ble_eq_true rfl⟩ ⟨rfl, zhn_X11_layFold⟩ rfl (Nat.le_of_ble_eq_true rfl) rfl (z_contV (fun μ6 h => ?_) h)
      refine s_aload_n A dX11_foldOf_124 rfl ?_
      refine s_iload A dX11_foldOf_125 rfl ?_
      refine z_putI (k := 11) (j := 26) (sl := true) A dX11_foldOf_127 rfl zuw_X11 (Nat.le_of_ble_eq_true rfl) zwd1334 (by decide) (zk_153 _) tyX11 tyX11_ok nmX11 rfl rfl rfl ?_
      refine s_iload A dX11_foldOf_130 rfl ?_
      exact s_iret A dX11_foldOf_132 hr hlk (Nat.le_of_ble_eq_true rfl) (Nat.le_of_ble_eq_true rfl) ⟨_, rfl, h⟩
    · have h := h.2 c5
      refine s_goto (tgt := 109) A dX11_foldOf_95 (by decide) ?_
      refine s_iinc (L' := [some (zR (some 153)), some (zI x1), some (zI x2), some (zI x3), some (zI x4), some (zI x5), some (zI (x6 + 1)), some (zI x7), some (zI xs0)]) A dX11_foldOf_109 rfl rfl ?_
      refine s_goto (tgt := 9) A dX11_foldOf_112 (by decide) ?_
      exact z_wk (L' := [some (zR (some 153)), some (zI x1), some (zI x2), some (zI x3), some (zI x4), some (zI x5), some (zI (x6 + 1)), none, none]) ⟨rfl, rfl, rfl, rfl, rfl, rfl, rfl, trivial⟩ h
  · have h := h.2 c2
    refine s_iload A dX11_foldOf_74 rfl ?_
    refine s_istore (L' := [some (zR (some 153)), some (zI x1), some (zI x2), some (zI x3), some (zI x6), some (zI x5), some (zI x6), some (zI x7), some (zI xs0)]) A dX11_foldOf_76 (Nat.le_of_ble_eq_true rfl) rfl ?_
    refine s_iload A dX11_foldOf_78 rfl ?_
    refine s_istore (L' := [some (zR (some 153)), some (zI x1), some (zI x2), some (zI x3), some (zI x6), some (zI x7), some (zI x6), some (zI x7), some (zI xs0)]) A dX11_foldOf_80 (Nat.le_of_ble_eq_true rfl) rfl ?_
    refine s_iload A dX11_foldOf_82 rfl ?_
    refine s_aload_n A dX11_foldOf_84 rfl ?_
    refine s_getf (k := 11) (j := 0) (sl := true) (v := zR (some 154)) A dX11_foldOf_85 rfl zuw_X11 (Nat.le_of_ble_eq_true rfl) zwd1308 (by decide) (zk_153 _) rfl ?_
    refine s_sipush A dX11_foldOf_88 rfl ?_
    refine z_iald A dX11_foldOf_91 (zk_154 _) (Nat.le_of_ble_eq_true rfl) ⟨by decide, by decide⟩ ?_
    obtain ⟨oz7, h⟩ := h
    obtain ⟨oz8, h⟩ := h
    refine z_icmp_le (tgt := 98) A dX11_foldOf_92 (by decide) oz7 oz8 (fun c9 => ?_) (fun c9 => ?_)
    · have h := h.1 c9
      refine s_iload A dX11_foldOf_98 rfl ?_
      refine s_istore (L' := [some (zR (some 153)), some (zI x1), some (zI x2), some (zI x3), some (zI x6), some (zI x7), some (zI x6), some (zI x7), some (zI xs0)]) A dX11_foldOf_100 (Nat.le_of_ble_eq_true rfl) rfl ?_
      refine s_iload A dX11_foldOf_102 rfl ?_
      refine s_istore (L' := [some (zR (some 153)), some (zI x1), some (zI x2), some (zI x3), some (zI x6), some (zI x7), some (zI x6), some (zI x7), some (zI xs0)]) A dX11_foldOf_104 (Nat.le_of_ble_eq_true rfl) rfl ?_
      refine s_goto (tgt := 115) A dX11_foldOf_106 (by decide) ?_
      refine s_aload_n A dX11_foldOf_115 rfl ?_
      refine s_iload A dX11_foldOf_116 rfl ?_
      refine s_iload_n A dX11_foldOf_118 rfl ?_
      refine s_iload_n A dX11_foldOf_119 rfl ?_
      refine s_iload_n A dX11_foldOf_120 rfl ?_
      refine s_callV (a := 153) (k := 11) (N := 45) (sl := true) (M := mX11_layFold) (n := 4) (d := 0) (mc := 0) (ms := 0) (av := [zI x6, zI x1, zI x2, zI x3]) (st := []) A dX11_foldOf_121 rfl (by decide) (zk_153 _) zwd1682 zwd1684 zwd63 zwd100 zcd_X11_layFold (Nat.le_of_ble_eq_true rfl) (Nat.le_of_ble_eq_true rfl) (Nat.le_refl _) ⟨Nat.le_of_ble_eq_true rfl, Nat.le_of_ble_eq_true rfl⟩ ⟨rfl, zhn_X11_layFold⟩ rfl (Nat.le_of_ble_eq_true rfl) rfl (z_contV (fun μ10 h => ?_) h)
      refine s_aload_n A dX11_foldOf_124 rfl ?_
      refine s_iload A dX11_foldOf_125 rfl ?_
      refine z_putI (k := 11) (j := 26) (sl := true) A dX11_foldOf_127 rfl zuw_X11 (Nat.le_of_ble_eq_true rfl) zwd1334 (by decide) (zk_153 _) tyX11 tyX11_ok nmX11 rfl rfl rfl ?_
      refine s_iload A dX11_foldOf_130 rfl ?_
      exact s_iret A dX11_foldOf_132 hr hlk (Nat.le_of_ble_eq_true rfl) (Nat.le_of_ble_eq_true rfl) ⟨_, rfl, h⟩
    · have h := h.2 c9
      refine s_goto (tgt := 109) A dX11_foldOf_95 (by decide) ?_
      refine s_iinc (L' := [some (zR (some 153)), some (zI x1), some (zI x2), some (zI x3), some (zI x6), some (zI x7), some (zI (x6 + 1)), some (zI x7), some (zI xs0)]) A dX11_foldOf_109 rfl rfl ?_
      refine s_goto (tgt := 9) A dX11_foldOf_112 (by decide) ?_
      exact z_wk (L' := [some (zR (some 153)), some (zI x1), some (zI x2), some (zI x3), some (zI x6), some (zI x7), some (zI (x6 + 1)), none, none]) ⟨rfl, rfl, rfl, rfl, rfl, rfl, rfl, trivial⟩ h
theorem eX11_foldOf {G : zG} {F : Int → zM → Prop} {μ : zM} {x1 : Int} {x2 : Int} {x3 : Int} (h : ∀ J, zJ G true (4) 0 0 mX11_foldOf (zKI F) J → J 0 ([some (zR (some 153)), some (zI x1), some (zI x2), some (zI x3), none, none, none, none, none], [], μ, 0, 0)) : qX11_foldOf G x1 x2 x3 μ F :=
  z_body (by decide +kernel) (Nat.le_of_ble_eq_true rfl) h
set_option maxRecDepth 20000 in
theorem rX11_fold_e {G : zG} {F : Int → zM → Prop} {J : Nat → zS → Prop} {μ : zM} (C : zJ G true (12) 0 0 mX11_fold (zKI F) J) (x1 : Int) (x2 : Int) (x3 : Int)
    (h : qX11_isWanted G true x1 x2 x3 (zup μ 153 5 0) (fun v1 μ1 => zin v1 ∧ ((¬ v1 = 0 → qX11_layColours G 154 μ1 (fun μ4 => qX11_foldOf G x1 x2 x3 μ4 (fun v5 μ5 => J 41 ([some (zR (some 153)), none, none, none, some (zI v5), some (zI 0)], [], zup μ5 153 4 0, 0, 0)))) ∧ (v1 = 0 → F (-1) μ1)))) : J 0 ([some (zR (some 153)), some (zI x1), some (zI x2), some (zI x3), none, none], [], μ, 0, 0) := by
  obtain ⟨p, e, s, m, args, below, meth, c, A, hml, hr, hlk, hnm, rfl⟩ := C
  refine s_aload_n A dX11_fold_0 rfl ?_
  refine s_iconst A dX11_fold_1 ?_
  refine z_putI (k := 11) (j := 5) (sl := true) A dX11_fold_2 rfl zuw_X11 (Nat.le_of_ble_eq_true rfl) zwd1313 (by decide) (zk_153 _) tyX11 tyX11_ok nmX11 rfl rfl rfl ?_
  refine s_iload_n A dX11_fold_5 rfl ?_
  refine s_iload_n A dX11_fold_6 rfl ?_
  refine s_iload_n A dX11_fold_7 rfl ?_
  refine s_callS (M := mX11_isWanted) (n := 3) (d := 2) (mc := 0) (ms := 0) (av := [zI x1, zI x2, zI x3]) (st := []) A dX11_fold_8 zwd1640 zwd1641 zwd100 zcd_X11_isWanted (Nat.le_of_ble_eq_true rfl) (Nat.le_of_ble_eq_true rfl) (Nat.le_refl _) ⟨Nat.le_of_ble_eq_true rfl, Nat.le_of_ble_eq_true rfl⟩ zhn_X11_isWanted rfl (Nat.le_of_ble_eq_true rfl) rfl (z_contI (fun v1 μ1 h => ?_) h)
  obtain ⟨oz2, h⟩ := h
  refine z_if_ne (tgt := 16) A dX11_fold_11 (by decide) oz2 (fun c3 => ?_) (fun c3 => ?_)
  · have h := h.1 c3
    refine s_aload_n A dX11_fold_16 rfl ?_
    refine s_aload_n A dX11_fold_17 rfl ?_
    refine s_getf (k := 11) (j := 0) (sl := true) (v := zR (some 154)) A dX11_fold_18 rfl zuw_X11 (Nat.le_of_ble_eq_true rfl) zwd1308 (by decide) (zk_153 _) rfl ?_
    refine s_callV (a := 153) (k := 11) (N := 45) (sl := true) (M := mX11_layColours) (n := 1) (d := 11) (mc := 0) (ms := 0) (av := [zR (some 154)]) (st := []) A dX11_fold_21 rfl (by decide) (zk_153 _) zwd1643 zwd1645 zwd55 zwd100 zcd_X11_layColours (Nat.le_of_ble_eq_true rfl) (Nat.le_of_ble_eq_true rfl) (Nat.le_refl _) ⟨Nat.le_of_ble_eq_true rfl, Nat.le_of_ble_eq_true rfl⟩ ⟨rfl, zhn_X11_layColours⟩ rfl (Nat.le_of_ble_eq_true rfl) rfl (z_contV (fun μ4 h => ?_) h)
    refine s_aload_n A dX11_fold_24 rfl ?_
    refine s_iload_n A dX11_fold_25 rfl ?_
    refine s_iload_n A dX11_fold_26 rfl ?_
    refine s_iload_n A dX11_fold_27 rfl ?_
    refine s_callV (a := 153) (k := 11) (N := 45) (sl := true) (M := mX11_foldOf) (n := 3) (d := 4) (mc := 0) (ms := 0) (av := [zI x1, zI x2, zI x3]) (st := []) A dX11_fold_28 rfl (by decide) (zk_153 _) zwd1678 zwd1680 zwd62 zwd100 zcd_X11_foldOf (Nat.le_of_ble_eq_true rfl) (Nat.le_of_ble_eq_true rfl) (Nat.le_refl _) ⟨Nat.le_of_ble_eq_true rfl, Nat.le_of_ble_eq_true rfl⟩ ⟨rfl, zhn_X11_foldOf⟩ rfl (Nat.le_of_ble_eq_true rfl) rfl (z_contI (fun v5 μ5 h => ?_) h)
    refine s_istore (L' := [some (zR (some 153)), some (zI x1), some (zI x2), some (zI x3), some (zI v5), none]) A dX11_fold_31 (Nat.le_of_ble_eq_true rfl) rfl ?_
    refine s_aload_n A dX11_fold_33 rfl ?_
    refine s_iconst A dX11_fold_34 ?_
    refine z_putI (k := 11) (j := 4) (sl := true) A dX11_fold_35 rfl zuw_X11 (Nat.le_of_ble_eq_true rfl) zwd1312 (by decide) (zk_153 _) tyX11 tyX11_ok nmX11 rfl rfl rfl ?_
    refine s_iconst A dX11_fold_38 ?_
    refine s_istore (L' := [some (zR (some 153)), some (zI x1), some (zI x2), some (zI x3), some (zI v5), some (zI 0)]) A dX11_fold_39 (Nat.le_of_ble_eq_true rfl) rfl ?_
    exact z_wk (L' := [some (zR (some 153)), none, none, none, some (zI v5), some (zI 0)]) ⟨rfl, rfl, rfl, trivial⟩ h
  · have h := h.2 c3
    refine s_iconst A dX11_fold_14 ?_
    exact s_iret A dX11_fold_15 hr hlk (Nat.le_of_ble_eq_true rfl) (Nat.le_of_ble_eq_true rfl) ⟨_, rfl, h⟩
set_option maxRecDepth 20000 in
theorem rX11_fold_41 {G : zG} {F : Int → zM → Prop} {J : Nat → zS → Prop} {μ : zM} (C : zJ G true (12) 0 0 mX11_fold (zKI F) J) (x4 : Int) (x5 : Int)
    (h : zin x5 ∧ ((3 ≤ x5 → zin (zi μ 153 26) ∧ qX11_tell G (zi μ 153 26) μ (fun μ4 => F x4 μ4)) ∧ (¬ (3 ≤ x5) → (0 ≤ x5 ∧ x5 < 3) ∧ zin (zi μ 166 x5) ∧ qX11_tell G (zi μ 166 x5) μ (fun μ7 => J 41 ([some (zR (some 153)), none, none, none, some (zI x4), some (zI (x5 + 1))], [], μ7, 0, 0))))) : J 41 ([some (zR (some 153)), none, none, none, some (zI x4), some (zI x5)], [], μ, 0, 0) := by
  obtain ⟨p, e, s, m, args, below, meth, c, A, hml, hr, hlk, hnm, rfl⟩ := C
  refine s_iload A dX11_fold_41 rfl ?_
  refine s_iconst A dX11_fold_43 ?_
  obtain ⟨oz1, h⟩ := h
  refine z_icmp_ge (tgt := 65) A dX11_fold_44 (by decide) oz1 ⟨by decide, by decide⟩ (fun c2 => ?_) (fun c2 => ?_)
  · have h := h.1 c2
    refine s_aload_n A dX11_fold_65 rfl ?_
    refine s_aload_n A dX11_fold_66 rfl ?_
    refine s_getf (k := 11) (j := 26) (sl := true) (v := zI (zi μ 153 26)) A dX11_fold_67 rfl zuw_X11 (Nat.le_of_ble_eq_true rfl) zwd1334 (by decide) (zk_153 _) rfl ?_
    obtain ⟨oz3, h⟩ := h
    refine z_i2l2 A dX11_fold_70 oz3 ?_
    refine s_callV (a := 153) (k := 11) (N := 45) (sl := true) (M := mX11_tell) (n := 1) (d := 0) (mc := 0) (ms := 0) (av := [zL (zi μ 153 26)]) (st := []) A dX11_fold_71 rfl (by decide) (zk_153 _) zwd1613 zwd1615 zwd51 zwd100 zcd_X11_tell (Nat.le_of_ble_eq_true rfl) (Nat.le_of_ble_eq_true rfl) (Nat.le_refl _) ⟨Nat.le_of_ble_eq_true rfl, Nat.le_of_ble_eq_true rfl⟩ ⟨rfl, zhn_X11_tell⟩ rfl (Nat.le_of_ble_eq_true rfl) rfl (z_contV (fun μ4 h => ?_) h)
    refine s_iload A dX11_fold_74 rfl ?_
    exact s_iret A dX11_fold_76 hr hlk (Nat.le_of_ble_eq_true rfl) (Nat.le_of_ble_eq_true rfl) ⟨_, rfl, h⟩
  · have h := h.2 c2
    refine s_aload_n A dX11_fold_47 rfl ?_
    refine s_aload_n A dX11_fold_48 rfl ?_
    refine s_getf (k := 11) (j := 25) (sl := true) (v := zR (some 166)) A dX11_fold_49 rfl zuw_X11 (Nat.le_of_ble_eq_true rfl) zwd1333 (by decide) (zk_153 _) rfl ?_
    refine s_iload A dX11_fold_52 rfl ?_
    obtain ⟨ox5, h⟩ := h
    refine z_iald A dX11_fold_54 (zk_166 _) (Nat.le_of_ble_eq_true rfl) ox5 ?_
    obtain ⟨oz6, h⟩ := h
    refine z_i2l2 A dX11_fold_55 oz6 ?_
    refine s_callV (a := 153) (k := 11) (N := 45) (sl := true) (M := mX11_tell) (n := 1) (d := 0) (mc := 0) (ms := 0) (av := [zL (zi μ 166 x5)]) (st := []) A dX11_fold_56 rfl (by decide) (zk_153 _) zwd1613 zwd1615 zwd51 zwd100 zcd_X11_tell (Nat.le_of_ble_eq_true rfl) (Nat.le_of_ble_eq_true rfl) (Nat.le_refl _) ⟨Nat.le_of_ble_eq_true rfl, Nat.le_of_ble_eq_true rfl⟩ ⟨rfl, zhn_X11_tell⟩ rfl (Nat.le_of_ble_eq_true rfl) rfl (z_contV (fun μ7 h => ?_) h)
    refine s_iinc (L' := [some (zR (some 153)), none, none, none, some (zI x4), some (zI (x5 + 1))]) A dX11_fold_59 rfl rfl ?_
    refine s_goto (tgt := 41) A dX11_fold_62 (by decide) ?_
    exact h
theorem eX11_fold {G : zG} {F : Int → zM → Prop} {μ : zM} {x1 : Int} {x2 : Int} {x3 : Int} (h : ∀ J, zJ G true (12) 0 0 mX11_fold (zKI F) J → J 0 ([some (zR (some 153)), some (zI x1), some (zI x2), some (zI x3), none, none], [], μ, 0, 0)) : qX11_fold G x1 x2 x3 μ F :=
  z_body (by decide +kernel) (Nat.le_of_ble_eq_true rfl) h
set_option maxRecDepth 20000 in
theorem rX11_closing_e {G : zG} {F : Int → zM → Prop} {J : Nat → zS → Prop} {μ : zM} (C : zJ G true (0) 0 0 mX11_closing (zKI F) J) {a0 n0 : Nat} (ha0 : zIsAr a0 n0) (hn0 : n0 < 2147483648) (x1 : Int) (x2 : Int)
    (h : J 5 ([some (zR (some a0)), some (zI x1), none, some (zI 0), some (zI x2)], [], μ, 0, 0)) : J 0 ([some (zR (some a0)), some (zI x1), some (zI x2), none, none], [], μ, 0, 0) := by
  obtain ⟨p, e, s, m, args, below, meth, c, A, hml, hr, hlk, hnm, rfl⟩ := C
  refine s_iconst A dX11_closing_0 ?_
  refine s_istore_n (L' := [some (zR (some a0)), some (zI x1), some (zI x2), some (zI 0), none]) A dX11_closing_1 (Nat.le_of_ble_eq_true rfl) rfl ?_
  refine s_iload_n A dX11_closing_2 rfl ?_
  refine s_istore (L' := [some (zR (some a0)), some (zI x1), some (zI x2), some (zI 0), some (zI x2)]) A dX11_closing_3 (Nat.le_of_ble_eq_true rfl) rfl ?_
  exact z_wk (L' := [some (zR (some a0)), some (zI x1), none, some (zI 0), some (zI x2)]) ⟨rfl, rfl, rfl, rfl, trivial⟩ h
set_option maxRecDepth 20000 in
theorem rX11_closing_5 {G : zG} {F : Int → zM → Prop} {J : Nat → zS → Prop} {μ : zM} (C : zJ G true (0) 0 0 mX11_closing (zKI F) J) {a0 n0 : Nat} (ha0 : zIsAr a0 n0) (hn0 : n0 < 2147483648) (x1 : Int) (x3 : Int) (x4 : Int)
    (h : zin x3 ∧ ((0 < x3 → (0 ≤ x1 + x4 ∧ x1 + x4 < (n0 : Int)) ∧ zin (zi μ a0 (x1 + x4)) ∧ ((¬ zi μ a0 (x1 + x4) = 40 → ((¬ zi μ a0 (x1 + x4) = 41 → J 5 ([some (zR (some a0)), some (zI x1), none, some (zI (x3 + 0)), some (zI (x4 + 1))], [], μ, 0, 0)) ∧ (zi μ a0 (x1 + x4) = 41 → J 5 ([some (zR (some a0)), some (zI x1), none, some (zI (x3 + (-1))), some (zI (x4 + 1))], [], μ, 0, 0)))) ∧ (zi μ a0 (x1 + x4) = 40 → J 5 ([some (zR (some a0)), some (zI x1), none, some (zI (x3 + 1)), some (zI (x4 + 1))], [], μ, 0, 0)))) ∧ (¬ (0 < x3) → (0 ≤ x1 + x4 ∧ x1 + x4 < (n0 : Int)) ∧ zin (zi μ a0 (x1 + x4)) ∧ ((zi μ a0 (x1 + x4) = 41 → F x4 μ) ∧ (¬ (zi μ a0 (x1 + x4) = 41) → ((¬ zi μ a0 (x1 + x4) = 40 → ((¬ zi μ a0 (x1 + x4) = 41 → J 5 ([some (zR (some a0)), some (zI x1), none, some (zI (x3 + 0)), some (zI (x4 + 1))], [], μ, 0, 0)) ∧ (zi μ a0 (x1 + x4) = 41 → J 5 ([some (zR (some a0)), some (zI x1), none, some (zI (x3 + (-1))), some (zI (x4 + 1))], [], μ, 0, 0)))) ∧ (zi μ a0 (x1 + x4) = 40 → J 5 ([some (zR (some a0)), some (zI x1), none, some (zI (x3 + 1)), some (zI (x4 + 1))], [], μ, 0, 0)))))))) : J 5 ([some (zR (some a0)), some (zI x1), none, some (zI x3), some (zI x4)], [], μ, 0, 0) := by
  obtain ⟨p, e, s, m, args, below, meth, c, A, hml, hr, hlk, hnm, rfl⟩ := C
  refine s_iload_n A dX11_closing_5 rfl ?_
  obtain ⟨oz1, h⟩ := h
  refine z_if_gt (tgt := 20) A dX11_closing_6 (by decide) oz1 (fun c2 => ?_) (fun c2 => ?_)
  · have h := h.1 c2
    refine s_iload_n A dX11_closing_20 rfl ?_
    refine s_aload_n A dX11_closing_21 rfl ?_
    refine s_iload_n A dX11_closing_22 rfl ?_
    refine s_iload A dX11_closing_23 rfl ?_
    refine s_iadd A dX11_closing_25 ?_
    obtain ⟨ox3, h⟩ := h
    refine z_iald A dX11_closing_26 (ha0.k _) hn0 ox3 ?_
    refine s_bipush A dX11_closing_27 rfl ?_
    obtain ⟨oz4, h⟩ := h
    refine z_icmp_ne (tgt := 36) A dX11_closing_29 (by decide) oz4 ⟨by decide, by decide⟩ (fun c5 => ?_) (fun c5 => ?_)
    · have h := h.1 c5
      refine s_aload_n A dX11_closing_36 rfl ?_
      refine s_iload_n A dX11_closing_37 rfl ?_
      refine s_iload A dX11_closing_38 rfl ?_
      refine s_iadd A dX11_closing_40 ?_
      refine z_iald A dX11_closing_41 (ha0.k _) hn0 ox3 ?_
      refine s_bipush A dX11_closing_42 rfl ?_
      refine z_icmp_ne (tgt := 51) A dX11_closing_44 (by decide) oz4 ⟨by decide, by decide⟩ (fun c6 => ?_) (fun c6 => ?_)
      · have h := h.1 c6
        refine s_iconst A dX11_closing_51 ?_
        refine s_iadd A dX11_closing_52 ?_
        refine s_istore_n (L' := [some (zR (some a0)), some (zI x1), none, some (zI (x3 + 0)), some (zI x4)]) A dX11_closing_53 (Nat.le_of_ble_eq_true rfl) rfl ?_
        refine s_iinc (L' := [some (zR (some a0)), some (zI x1), none, some (zI (x3 + 0)), some (zI (x4 + 1))]) A dX11_closing_54 rfl rfl ?_
        refine s_goto (tgt := 5) A dX11_closing_57 (by decide) ?_
        exact h
      · have h := h.2 c6
        refine s_iconst A dX11_closing_47 ?_
        refine s_goto (tgt := 52) A dX11_closing_48 (by decide) ?_
        refine s_iadd A dX11_closing_52 ?_
        refine s_istore_n (L' := [some (zR (some a0)), some (zI x1), none, some (zI (x3 + (-1))), some (zI x4)]) A dX11_closing_53 (Nat.le_of_ble_eq_true rfl) rfl ?_
        refine s_iinc (L' := [some (zR (some a0)), some (zI x1), none, some (zI (x3 + (-1))), some (zI (x4 + 1))]) A dX11_closing_54 rfl rfl ?_
        refine s_goto (tgt := 5) A dX11_closing_57 (by decide) ?_
        exact h
    · have h := h.2 c5
      refine s_iconst A dX11_closing_32 ?_
      refine s_goto (tgt := 52) A dX11_closing_33 (by decide) ?_
      refine s_iadd A dX11_closing_52 ?_
      refine s_istore_n (L' := [some (zR (some a0)), some (zI x1), none, some (zI (x3 + 1)), some (zI x4)]) A dX11_closing_53 (Nat.le_of_ble_eq_true rfl) rfl ?_
      refine s_iinc (L' := [some (zR (some a0)), some (zI x1), none, some (zI (x3 + 1)), some (zI (x4 + 1))]) A dX11_closing_54 rfl rfl ?_
      refine s_goto (tgt := 5) A dX11_closing_57 (by decide) ?_
      exact h
  · have h := h.2 c2
    refine s_aload_n A dX11_closing_9 rfl ?_
    refine s_iload_n A dX11_closing_10 rfl ?_
    refine s_iload A dX11_closing_11 rfl ?_
    refine s_iadd A dX11_closing_13 ?_
    obtain ⟨ox7, h⟩ := h
    refine z_iald A dX11_closing_14 (ha0.k _) hn0 ox7 ?_
    refine s_bipush A dX11_closing_15 rfl ?_
    obtain ⟨oz8, h⟩ := h
    refine z_icmp_eq (tgt := 60) A dX11_closing_17 (by decide) oz8 ⟨by decide, by decide⟩ (fun c9 => ?_) (fun c9 => ?_)
    · have h := h.1 c9
      refine s_iload A dX11_closing_60 rfl ?_
      exact s_iret A dX11_closing_62 hr hlk (Nat.le_of_ble_eq_true rfl) (Nat.le_of_ble_eq_true rfl) ⟨_, rfl, h⟩
    · have h := h.2 c9
      refine s_iload_n A dX11_closing_20 rfl ?_
      refine s_aload_n A dX11_closing_21 rfl ?_
      refine s_iload_n A dX11_closing_22 rfl ?_
      refine s_iload A dX11_closing_23 rfl ?_
      refine s_iadd A dX11_closing_25 ?_
      refine z_iald A dX11_closing_26 (ha0.k _) hn0 ox7 ?_
      refine s_bipush A dX11_closing_27 rfl ?_
      refine z_icmp_ne (tgt := 36) A dX11_closing_29 (by decide) oz8 ⟨by decide, by decide⟩ (fun c10 => ?_) (fun c10 => ?_)
      · have h := h.1 c10
        refine s_aload_n A dX11_closing_36 rfl ?_
        refine s_iload_n A dX11_closing_37 rfl ?_
        refine s_iload A dX11_closing_38 rfl ?_
        refine s_iadd A dX11_closing_40 ?_
        refine z_iald A dX11_closing_41 (ha0.k _) hn0 ox7 ?_
        refine s_bipush A dX11_closing_42 rfl ?_
        refine z_icmp_ne (tgt := 51) A dX11_closing_44 (by decide) oz8 ⟨by decide, by decide⟩ (fun c11 => ?_) (fun c11 => ?_)
        · have h := h.1 c11
          refine s_iconst A dX11_closing_51 ?_
          refine s_iadd A dX11_closing_52 ?_
          refine s_istore_n (L' := [some (zR (some a0)), some (zI x1), none, some (zI (x3 + 0)), some (zI x4)]) A dX11_closing_53 (Nat.le_of_ble_eq_true rfl) rfl ?_
          refine s_iinc (L' := [some (zR (some a0)), some (zI x1), none, some (zI (x3 + 0)), some (zI (x4 + 1))]) A dX11_closing_54 rfl rfl ?_
          refine s_goto (tgt := 5) A dX11_closing_57 (by decide) ?_
          exact h
        · have h := h.2 c11
          refine s_iconst A dX11_closing_47 ?_
          refine s_goto (tgt := 52) A dX11_closing_48 (by decide) ?_
          refine s_iadd A dX11_closing_52 ?_
          refine s_istore_n (L' := [some (zR (some a0)), some (zI x1), none, some (zI (x3 + (-1))), some (zI x4)]) A dX11_closing_53 (Nat.le_of_ble_eq_true rfl) rfl ?_
          refine s_iinc (L' := [some (zR (some a0)), some (zI x1), none, some (zI (x3 + (-1))), some (zI (x4 + 1))]) A dX11_closing_54 rfl rfl ?_
          refine s_goto (tgt := 5) A dX11_closing_57 (by decide) ?_
          exact h
      · have h := h.2 c10
        refine s_iconst A dX11_closing_32 ?_
        refine s_goto (tgt := 52) A dX11_closing_33 (by decide) ?_
        refine s_iadd A dX11_closing_52 ?_
        refine s_istore_n (L' := [some (zR (some a0)), some (zI x1), none, some (zI (x3 + 1)), some (zI x4)]) A dX11_closing_53 (Nat.le_of_ble_eq_true rfl) rfl ?_
        refine s_iinc (L' := [some (zR (some a0)), some (zI x1), none, some (zI (x3 + 1)), some (zI (x4 + 1))]) A dX11_closing_54 rfl rfl ?_
        refine s_goto (tgt := 5) A dX11_closing_57 (by decide) ?_
        exact h
theorem eX11_closing {G : zG} {F : Int → zM → Prop} {μ : zM} {a0 : Nat} {x1 : Int} {x2 : Int} (h : ∀ J, zJ G true (0) 0 0 mX11_closing (zKI F) J → J 0 ([some (zR (some a0)), some (zI x1), some (zI x2), none, none], [], μ, 0, 0)) : qX11_closing G a0 x1 x2 μ F :=
  z_body (by decide +kernel) (Nat.le_of_ble_eq_true rfl) h
set_option maxRecDepth 20000 in
theorem rX11_more_e {G : zG} {F : zM → Prop} {J : Nat → zS → Prop} {μ : zM} (C : zJ G true (8) 0 0 mX11_more (zKV F) J) (x1 : Int) (x2 : Int)
    (h : (0 ≤ x1 ∧ x1 < 4) ∧ zin ((zi μ 164 x1) + x2) ∧ zin (min 8 ((zi μ 164 x1) + x2)) ∧ F (zup μ 164 x1 (max 0 (min 8 ((zi μ 164 x1) + x2))))) : J 0 ([some (zR (some 153)), some (zI x1), some (zI x2)], [], μ, 0, 0) := by
  obtain ⟨p, e, s, m, args, below, meth, c, A, hml, hr, hlk, hnm, rfl⟩ := C
  refine s_aload_n A dX11_more_0 rfl ?_
  refine s_getf (k := 11) (j := 19) (sl := true) (v := zR (some 164)) A dX11_more_1 rfl zuw_X11 (Nat.le_of_ble_eq_true rfl) zwd1327 (by decide) (zk_153 _) rfl ?_
  refine s_iload_n A dX11_more_4 rfl ?_
  refine s_iconst A dX11_more_5 ?_
  refine s_bipush A dX11_more_6 rfl ?_
  refine s_aload_n A dX11_more_8 rfl ?_
  refine s_getf (k := 11) (j := 19) (sl := true) (v := zR (some 164)) A dX11_more_9 rfl zuw_X11 (Nat.le_of_ble_eq_true rfl) zwd1327 (by decide) (zk_153 _) rfl ?_
  refine s_iload_n A dX11_more_12 rfl ?_
  obtain ⟨ox1, h⟩ := h
  refine z_iald A dX11_more_13 (zk_164 _) (Nat.le_of_ble_eq_true rfl) ox1 ?_
  refine s_iload_n A dX11_more_14 rfl ?_
  refine s_iadd A dX11_more_15 ?_
  obtain ⟨oz2, h⟩ := h
  refine z_mmin A dX11_more_16 zwd1575 zwd509 zwd105 zwd510 (Nat.le_of_ble_eq_true rfl) (Nat.le_of_ble_eq_true rfl) ⟨Nat.le_of_ble_eq_true rfl, Nat.le_of_ble_eq_true rfl⟩ ⟨by decide, by decide⟩ oz2 ?_
  obtain ⟨oz3, h⟩ := h
  refine z_mmax A dX11_more_19 zwd1590 zwd506 zwd105 zwd507 (Nat.le_of_ble_eq_true rfl) (Nat.le_of_ble_eq_true rfl) ⟨Nat.le_of_ble_eq_true rfl, Nat.le_of_ble_eq_true rfl⟩ ⟨by decide, by decide⟩ oz3 ?_
  refine z_iast A dX11_more_22 (zk_164 _) (Nat.le_of_ble_eq_true rfl) ox1 ?_
  exact s_vret A dX11_more_23 hr hlk (Nat.le_of_ble_eq_true rfl) (Nat.le_of_ble_eq_true rfl) ⟨rfl, h⟩
theorem eX11_more {G : zG} {F : zM → Prop} {μ : zM} {x1 : Int} {x2 : Int} (h : ∀ J, zJ G true (8) 0 0 mX11_more (zKV F) J → J 0 ([some (zR (some 153)), some (zI x1), some (zI x2)], [], μ, 0, 0)) : qX11_more G x1 x2 μ F :=
  z_body (by decide +kernel) (Nat.le_of_ble_eq_true rfl) h
set_option maxRecDepth 20000 in
theorem rX11_timesOf_e {G : zG} {F : Int → zM → Prop} {J : Nat → zS → Prop} {μ : zM} (C : zJ G true (2) 0 0 mX11_timesOf (zKI F) J) (x1 : Int) (x2 : Int)
    (h : zin x1 ∧ ((¬ x1 = 110 → (0 ≤ x2 + 1 ∧ x2 + 1 < 711) ∧ qX11_inkBy G true (zi μ 154 (x2 + 1)) μ (fun v4 μ4 => (0 ≤ v4 ∧ v4 < 4) ∧ ((¬ x1 = 111 → ((¬ x1 = 105 → (0 ≤ x2 + 2 ∧ x2 + 2 < 711) ∧ qX11_inkBy G true (zi μ4 154 (x2 + 2)) μ4 (fun v9 μ9 => (0 ≤ v9 ∧ v9 < 4) ∧ zin (zi μ4 164 v4) ∧ zin (zi μ9 164 v9) ∧ ((zi μ4 164 v4 ≤ zi μ9 164 v9 → F 0 μ9) ∧ (¬ (zi μ4 164 v4 ≤ zi μ9 164 v9) → F 1 μ9)))) ∧ (x1 = 105 → (0 ≤ x2 + 2 ∧ x2 + 2 < 711) ∧ zin (zi μ4 164 v4) ∧ zin ((zi μ4 154 (x2 + 2)) - 48) ∧ ((zi μ4 164 v4 ≤ (zi μ4 154 (x2 + 2)) - 48 → F 0 μ4) ∧ (¬ (zi μ4 164 v4 ≤ (zi μ4 154 (x2 + 2)) - 48) → F 1 μ4))))) ∧ (x1 = 111 → F (zi μ4 164 v4) μ4)))) ∧ (x1 = 110 → (0 ≤ x2 + 1 ∧ x2 + 1 < 711) ∧ F ((zi μ 154 (x2 + 1)) - 48) μ))) : J 0 ([some (zR (some 153)), some (zI x1), some (zI x2), none, none], [], μ, 0, 0) := by
  obtain ⟨p, e, s, m, args, below, meth, c, A, hml, hr, hlk, hnm, rfl⟩ := C
  refine s_iload_n A dX11_timesOf_0 rfl ?_
  refine s_bipush A dX11_timesOf_1 rfl ?_
  obtain ⟨oz1, h⟩ := h
  refine z_icmp_ne (tgt := 18) A dX11_timesOf_3 (by decide) oz1 ⟨by decide, by decide⟩ (fun c2 => ?_) (fun c2 => ?_)
  · have h := h.1 c2
    refine s_aload_n A dX11_timesOf_18 rfl ?_
    refine s_getf (k := 11) (j := 19) (sl := true) (v := zR (some 164)) A dX11_timesOf_19 rfl zuw_X11 (Nat.le_of_ble_eq_true rfl) zwd1327 (by decide) (zk_153 _) rfl ?_
    refine s_aload_n A dX11_timesOf_22 rfl ?_
    refine s_getf (k := 11) (j := 0) (sl := true) (v := zR (some 154)) A dX11_timesOf_23 rfl zuw_X11 (Nat.le_of_ble_eq_true rfl) zwd1308 (by decide) (zk_153 _) rfl ?_
    refine s_iload_n A dX11_timesOf_26 rfl ?_
    refine s_iconst A dX11_timesOf_27 ?_
    refine s_iadd A dX11_timesOf_28 ?_
    obtain ⟨ox3, h⟩ := h
    refine z_iald A dX11_timesOf_29 (zk_154 _) (Nat.le_of_ble_eq_true rfl) ox3 ?_
    refine s_callS (M := mX11_inkBy) (n := 1) (d := 0) (mc := 0) (ms := 0) (av := [zI (zi μ 154 (x2 + 1))]) (st := [zR (some 164)]) A dX11_timesOf_30 zwd1547 zwd1548 zwd100 zcd_X11_inkBy (Nat.le_of_ble_eq_true rfl) (Nat.le_of_ble_eq_true rfl) (Nat.le_refl _) ⟨Nat.le_of_ble_eq_true rfl, Nat.le_of_ble_eq_true rfl⟩ zhn_X11_inkBy rfl (Nat.le_of_ble_eq_true rfl) rfl (z_contI (fun v4 μ4 h => ?_) h)
    obtain ⟨ox5, h⟩ := h
    refine z_iald A dX11_timesOf_33 (zk_164 _) (Nat.le_of_ble_eq_true rfl) ox5 ?_
    refine s_istore_n (L' := [some (zR (some 153)), some (zI x1), some (zI x2), some (zI (zi μ4 164 v4)), none]) A dX11_timesOf_34 (Nat.le_of_ble_eq_true rfl) rfl ?_
    refine s_iload_n A dX11_timesOf_35 rfl ?_
    refine s_bipush A dX11_timesOf_36 rfl ?_
    refine z_icmp_ne (tgt := 43) A dX11_timesOf_38 (by decide) oz1 ⟨by decide, by decide⟩ (fun c6 => ?_) (fun c6 => ?_)
    · have h := h.1 c6
      refine s_iload_n A dX11_timesOf_43 rfl ?_
      refine s_bipush A dX11_timesOf_44 rfl ?_
      refine z_icmp_ne (tgt := 63) A dX11_timesOf_46 (by decide) oz1 ⟨by decide, by decide⟩ (fun c7 => ?_) (fun c7 => ?_)
      · have h := h.1 c7
        refine s_aload_n A dX11_timesOf_63 rfl ?_
        refine s_getf (k := 11) (j := 19) (sl := true) (v := zR (some 164)) A dX11_timesOf_64 rfl zuw_X11 (Nat.le_of_ble_eq_true rfl) zwd1327 (by decide) (zk_153 _) rfl ?_
        refine s_aload_n A dX11_timesOf_67 rfl ?_
        refine s_getf (k := 11) (j := 0) (sl := true) (v := zR (some 154)) A dX11_timesOf_68 rfl zuw_X11 (Nat.le_of_ble_eq_true rfl) zwd1308 (by decide) (zk_153 _) rfl ?_
        refine s_iload_n A dX11_timesOf_71 rfl ?_
        refine s_iconst A dX11_timesOf_72 ?_
        refine s_iadd A dX11_timesOf_73 ?_
        obtain ⟨ox8, h⟩ := h
        refine z_iald A dX11_timesOf_74 (zk_154 _) (Nat.le_of_ble_eq_true rfl) ox8 ?_
        refine s_callS (M := mX11_inkBy) (n := 1) (d := 0) (mc := 0) (ms := 0) (av := [zI (zi μ4 154 (x2 + 2))]) (st := [zR (some 164)]) A dX11_timesOf_75 zwd1547 zwd1548 zwd100 zcd_X11_inkBy (Nat.le_of_ble_eq_true rfl) (Nat.le_of_ble_eq_true rfl) (Nat.le_refl _) ⟨Nat.le_of_ble_eq_true rfl, Nat.le_of_ble_eq_true rfl⟩ zhn_X11_inkBy rfl (Nat.le_of_ble_eq_true rfl) rfl (z_contI (fun v9 μ9 h => ?_) h)
        obtain ⟨ox10, h⟩ := h
        refine z_iald A dX11_timesOf_78 (zk_164 _) (Nat.le_of_ble_eq_true rfl) ox10 ?_
        refine s_istore (L' := [some (zR (some 153)), some (zI x1), some (zI x2), some (zI (zi μ4 164 v4)), some (zI (zi μ9 164 v9))]) A dX11_timesOf_79 (Nat.le_of_ble_eq_true rfl) rfl ?_
        refine s_iload_n A dX11_timesOf_81 rfl ?_
        refine s_iload A dX11_timesOf_82 rfl ?_
        obtain ⟨oz11, h⟩ := h
        obtain ⟨oz12, h⟩ := h
        refine z_icmp_le (tgt := 91) A dX11_timesOf_84 (by decide) oz11 oz12 (fun c13 => ?_) (fun c13 => ?_)
        · have h := h.1 c13
          refine s_iconst A dX11_timesOf_91 ?_
          exact s_iret A dX11_timesOf_92 hr hlk (Nat.le_of_ble_eq_true rfl) (Nat.le_of_ble_eq_true rfl) ⟨_, rfl, h⟩
        · have h := h.2 c13
          refine s_iconst A dX11_timesOf_87 ?_
          refine s_goto (tgt := 92) A dX11_timesOf_88 (by decide) ?_
          exact s_iret A dX11_timesOf_92 hr hlk (Nat.le_of_ble_eq_true rfl) (Nat.le_of_ble_eq_true rfl) ⟨_, rfl, h⟩
      · have h := h.2 c7
        refine s_aload_n A dX11_timesOf_49 rfl ?_
        refine s_getf (k := 11) (j := 0) (sl := true) (v := zR (some 154)) A dX11_timesOf_50 rfl zuw_X11 (Nat.le_of_ble_eq_true rfl) zwd1308 (by decide) (zk_153 _) rfl ?_
        refine s_iload_n A dX11_timesOf_53 rfl ?_
        refine s_iconst A dX11_timesOf_54 ?_
        refine s_iadd A dX11_timesOf_55 ?_
        obtain ⟨ox14, h⟩ := h
        refine z_iald A dX11_timesOf_56 (zk_154 _) (Nat.le_of_ble_eq_true rfl) ox14 ?_
        refine s_bipush A dX11_timesOf_57 rfl ?_
        refine s_isub A dX11_timesOf_59 ?_
        refine s_goto (tgt := 79) A dX11_timesOf_60 (by decide) ?_
        refine s_istore (L' := [some (zR (some 153)), some (zI x1), some (zI x2), some (zI (zi μ4 164 v4)), some (zI ((zi μ4 154 (x2 + 2)) - 48))]) A dX11_timesOf_79 (Nat.le_of_ble_eq_true rfl) rfl ?_
        refine s_iload_n A dX11_timesOf_81 rfl ?_
        refine s_iload A dX11_timesOf_82 rfl ?_
        obtain ⟨oz15, h⟩ := h
        obtain ⟨oz16, h⟩ := h
        refine z_icmp_le (tgt := 91) A dX11_timesOf_84 (by decide) oz15 oz16 (fun c17 => ?_) (fun c17 => ?_)
        · have h := h.1 c17
          refine s_iconst A dX11_timesOf_91 ?_
          exact s_iret A dX11_timesOf_92 hr hlk (Nat.le_of_ble_eq_true rfl) (Nat.le_of_ble_eq_true rfl) ⟨_, rfl, h⟩
        · have h := h.2 c17
          refine s_iconst A dX11_timesOf_87 ?_
          refine s_goto (tgt := 92) A dX11_timesOf_88 (by decide) ?_
          exact s_iret A dX11_timesOf_92 hr hlk (Nat.le_of_ble_eq_true rfl) (Nat.le_of_ble_eq_true rfl) ⟨_, rfl, h⟩
    · have h := h.2 c6
      refine s_iload_n A dX11_timesOf_41 rfl ?_
      exact s_iret A dX11_timesOf_42 hr hlk (Nat.le_of_ble_eq_true rfl) (Nat.le_of_ble_eq_true rfl) ⟨_, rfl, h⟩
  · have h := h.2 c2
    refine s_aload_n A dX11_timesOf_6 rfl ?_
    refine s_getf (k := 11) (j := 0) (sl := true) (v := zR (some 154)) A dX11_timesOf_7 rfl zuw_X11 (Nat.le_of_ble_eq_true rfl) zwd1308 (by decide) (zk_153 _) rfl ?_
    refine s_iload_n A dX11_timesOf_10 rfl ?_
    refine s_iconst A dX11_timesOf_11 ?_
    refine s_iadd A dX11_timesOf_12 ?_
    obtain ⟨ox18, h⟩ := h
    refine z_iald A dX11_timesOf_13 (zk_154 _) (Nat.le_of_ble_eq_true rfl) ox18 ?_
    refine s_bipush A dX11_timesOf_14 rfl ?_
    refine s_isub A dX11_timesOf_16 ?_
    exact s_iret A dX11_timesOf_17 hr hlk (Nat.le_of_ble_eq_true rfl) (Nat.le_of_ble_eq_true rfl) ⟨_, rfl, h⟩
theorem eX11_timesOf {G : zG} {F : Int → zM → Prop} {μ : zM} {x1 : Int} {x2 : Int} (h : ∀ J, zJ G true (2) 0 0 mX11_timesOf (zKI F) J → J 0 ([some (zR (some 153)), some (zI x1), some (zI x2), none, none], [], μ, 0, 0)) : qX11_timesOf G x1 x2 μ F :=
  z_body (by decide +kernel) (Nat.le_of_ble_eq_true rfl) h
set_option maxRecDepth 20000 in
theorem rX11_trade_e {G : zG} {F : zM → Prop} {J : Nat → zS → Prop} {μ : zM} (C : zJ G true (0) 0 0 mX11_trade (zKV F) J) (x1 : Int)
    (h : J 2 ([some (zR (some 153)), some (zI x1), some (zI 0)], [], μ, 0, 0)) : J 0 ([some (zR (some 153)), some (zI x1), none], [], μ, 0, 0) := by
  obtain ⟨p, e, s, m, args, below, meth, c, A, hml, hr, hlk, hnm, rfl⟩ := C
  refine s_iconst A dX11_trade_0 ?_
  refine s_istore_n (L' := [some (zR (some 153)), some (zI x1), some (zI 0)]) A dX11_trade_1 (Nat.le_of_ble_eq_true rfl) rfl ?_
  exact h
set_option maxRecDepth 20000 in
theorem rX11_trade_2 {G : zG} {F : zM → Prop} {J : Nat → zS → Prop} {μ : zM} (C : zJ G true (0) 0 0 mX11_trade (zKV F) J) (x1 : Int) (x2 : Int)
    (h : zin x2 ∧ ((3 ≤ x2 → F (zup μ 164 3 ((zi μ 164 3) - x1))) ∧ (¬ (3 ≤ x2) → (0 ≤ x2 ∧ x2 < 4) ∧ J 2 ([some (zR (some 153)), some (zI x1), some (zI (x2 + 1))], [], zup μ 164 x2 ((zi μ 164 x2) + x1), 0, 0)))) : J 2 ([some (zR (some 153)), some (zI x1), some (zI x2)], [], μ, 0, 0) := by
  obtain ⟨p, e, s, m, args, below, meth, c, A, hml, hr, hlk, hnm, rfl⟩ := C
  refine s_iload_n A dX11_trade_2 rfl ?_
  refine s_iconst A dX11_trade_3 ?_
  obtain ⟨oz1, h⟩ := h
  refine z_icmp_ge (tgt := 23) A dX11_trade_4 (by decide) oz1 ⟨by decide, by decide⟩ (fun c2 => ?_) (fun c2 => ?_)
  · have h := h.1 c2
    refine s_aload_n A dX11_trade_23 rfl ?_
    refine s_getf (k := 11) (j := 19) (sl := true) (v := zR (some 164)) A dX11_trade_24 rfl zuw_X11 (Nat.le_of_ble_eq_true rfl) zwd1327 (by decide) (zk_153 _) rfl ?_
    refine s_iconst A dX11_trade_27 ?_
    refine s_dup2 A dX11_trade_28 rfl rfl ?_
    refine z_iald A dX11_trade_29 (zk_164 _) (Nat.le_of_ble_eq_true rfl) ⟨by decide, by decide⟩ ?_
    refine s_iload_n A dX11_trade_30 rfl ?_
    refine s_isub A dX11_trade_31 ?_
    refine z_iast A dX11_trade_32 (zk_164 _) (Nat.le_of_ble_eq_true rfl) ⟨by decide, by decide⟩ ?_
    exact s_vret A dX11_trade_33 hr hlk (Nat.le_of_ble_eq_true rfl) (Nat.le_of_ble_eq_true rfl) ⟨rfl, h⟩
  · have h := h.2 c2
    refine s_aload_n A dX11_trade_7 rfl ?_
    refine s_getf (k := 11) (j := 19) (sl := true) (v := zR (some 164)) A dX11_trade_8 rfl zuw_X11 (Nat.le_of_ble_eq_true rfl) zwd1327 (by decide) (zk_153 _) rfl ?_
    refine s_iload_n A dX11_trade_11 rfl ?_
    refine s_dup2 A dX11_trade_12 rfl rfl ?_
    obtain ⟨ox3, h⟩ := h
    refine z_iald A dX11_trade_13 (zk_164 _) (Nat.le_of_ble_eq_true rfl) ox3 ?_
    refine s_iload_n A dX11_trade_14 rfl ?_
    refine s_iadd A dX11_trade_15 ?_
    refine z_iast A dX11_trade_16 (zk_164 _) (Nat.le_of_ble_eq_true rfl) ox3 ?_
    refine s_iinc (L' := [some (zR (some 153)), some (zI x1), some (zI (x2 + 1))]) A dX11_trade_17 rfl rfl ?_
    refine s_goto (tgt := 2) A dX11_trade_20 (by decide) ?_
    exact h
theorem eX11_trade {G : zG} {F : zM → Prop} {μ : zM} {x1 : Int} (h : ∀ J, zJ G true (0) 0 0 mX11_trade (zKV F) J → J 0 ([some (zR (some 153)), some (zI x1), none], [], μ, 0, 0)) : qX11_trade G x1 μ F :=
  z_body (by decide +kernel) (Nat.le_of_ble_eq_true rfl) h
set_option maxRecDepth 20000 in
theorem rX11_doesOne_e {G : zG} {F : zM → Prop} {J : Nat → zS → Prop} {μ : zM} (C : zJ G true (9) 0 0 mX11_doesOne (zKV F) J) (x1 : Int) (x2 : Int) (x3 : Int)
    (h : zin x1 ∧ ((x1 = 97 → (0 ≤ x3 + 2 ∧ x3 + 2 < 711) ∧ qX11_more G x2 ((zi μ 154 (x3 + 2)) - 48) μ (fun μ3 => F μ3)) ∧ (x1 = 104 → (0 ≤ x2 ∧ x2 < 4) ∧ (0 ≤ zi μ 164 x2 ∧ zi μ 164 x2 < 2147483648) ∧ F (zup μ 164 x2 ((zi μ 164 x2) / 2))) ∧ (x1 = 115 → (0 ≤ x3 + 2 ∧ x3 + 2 < 711) ∧ qX11_more G x2 (48 - (zi μ 154 (x3 + 2))) μ (fun μ6 => F μ6)) ∧ (x1 = 119 → (0 ≤ x2 ∧ x2 < 4) ∧ (0 ≤ x3 + 2 ∧ x3 + 2 < 711) ∧ zin (zi μ 164 x2) ∧ zin ((zi μ 154 (x3 + 2)) - 48) ∧ F (zup μ 164 x2 (min (zi μ 164 x2) ((zi μ 154 (x3 + 2)) - 48)))) ∧ (x1 ≠ 97 ∧ x1 ≠ 104 ∧ x1 ≠ 115 ∧ x1 ≠ 119 → (0 ≤ x3 + 2 ∧ x3 + 2 < 711) ∧ qX11_inkBy G true (zi μ 154 (x3 + 2)) μ (fun v12 μ12 => (0 ≤ x2 ∧ x2 < 4) ∧ (0 ≤ v12 ∧ v12 < 4) ∧ F (zup (zup μ12 164 x2 (zi μ12 164 v12)) 164 v12 (zi μ12 164 x2)))))) : J 0 ([some (zR (some 153)), some (zI x1), some (zI x2), some (zI x3), none, none], [], μ, 0, 0) := by
  obtain ⟨p, e, s, m, args, below, meth, c, A, hml, hr, hlk, hnm, rfl⟩ := C
  refine s_iload_n A dX11_doesOne_0 rfl ?_
  obtain ⟨oz1, h⟩ := h
  have hx15 : x1 = 97 ∨ x1 = 104 ∨ x1 = 115 ∨ x1 = 119 ∨ (x1 ≠ 97 ∧ x1 ≠ 104 ∧ x1 ≠ 115 ∧ x1 ≠ 119) := by omega
  rcases hx15 with hq | hq | hq | hq | hq
  · refine z_lsw (tgt := 44) A dX11_doesOne_1 oz1 (by decide +kernel) (by rw [hq]; decide +kernel) ?_
    have h := h.1 (by omega)
    refine s_aload_n A dX11_doesOne_44 rfl ?_
    refine s_iload_n A dX11_doesOne_45 rfl ?_
    refine s_aload_n A dX11_doesOne_46 rfl ?_
    refine s_getf (k := 11) (j := 0) (sl := true) (v := zR (some 154)) A dX11_doesOne_47 rfl zuw_X11 (Nat.le_of_ble_eq_true rfl) zwd1308 (by decide) (zk_153 _) rfl ?_
    refine s_iload_n A dX11_doesOne_50 rfl ?_
    refine s_iconst A dX11_doesOne_51 ?_
    refine s_iadd A dX11_doesOne_52 ?_
    obtain ⟨ox2, h⟩ := h
    refine z_iald A dX11_doesOne_53 (zk_154 _) (Nat.le_of_ble_eq_true rfl) ox2 ?_
    refine s_bipush A dX11_doesOne_54 rfl ?_
    refine s_isub A dX11_doesOne_56 ?_
    refine s_callV (a := 153) (k := 11) (N := 45) (sl := true) (M := mX11_more) (n := 2) (d := 8) (mc := 0) (ms := 0) (av := [zI x2, zI ((zi μ 154 (x3 + 2)) - 48)]) (st := []) A dX11_doesOne_57 rfl (by decide) (zk_153 _) zwd1717 zwd1719 zwd70 zwd100 zcd_X11_more (Nat.le_of_ble_eq_true rfl) (Nat.le_of_ble_eq_true rfl) (Nat.le_refl _) ⟨Nat.le_of_ble_eq_true rfl, Nat.le_of_ble_eq_true rfl⟩ ⟨rfl, zhn_X11_more⟩ rfl (Nat.le_of_ble_eq_true rfl) rfl (z_contV (fun μ3 h => ?_) h)
    refine s_goto (tgt := 167) A dX11_doesOne_60 (by decide) ?_
    exact s_vret A dX11_doesOne_167 hr hlk (Nat.le_of_ble_eq_true rfl) (Nat.le_of_ble_eq_true rfl) ⟨rfl, h⟩
  · refine z_lsw (tgt := 111) A dX11_doesOne_1 oz1 (by decide +kernel) (by rw [hq]; decide +kernel) ?_
    have h := h.2.1 (by omega)
    refine s_aload_n A dX11_doesOne_111 rfl ?_
    refine s_getf (k := 11) (j := 19) (sl := true) (v := zR (some 164)) A dX11_doesOne_112 rfl zuw_X11 (Nat.le_of_ble_eq_true rfl) zwd1327 (by decide) (zk_153 _) rfl ?_
    refine s_iload_n A dX11_doesOne_115 rfl ?_
    refine s_dup2 A dX11_doesOne_116 rfl rfl ?_
    obtain ⟨ox4, h⟩ := h
    refine z_iald A dX11_doesOne_117 (zk_164 _) (Nat.le_of_ble_eq_true rfl) ox4 ?_
    refine s_iconst A dX11_doesOne_118 ?_
    obtain ⟨o1, h⟩ := h
    refine z_idiv A dX11_doesOne_119 o1 ⟨by decide, by decide⟩ ?_
    refine z_iast A dX11_doesOne_120 (zk_164 _) (Nat.le_of_ble_eq_true rfl) ox4 ?_
    refine s_goto (tgt := 167) A dX11_doesOne_121 (by decide) ?_
    exact s_vret A dX11_doesOne_167 hr hlk (Nat.le_of_ble_eq_true rfl) (Nat.le_of_ble_eq_true rfl) ⟨rfl, h⟩
  · refine z_lsw (tgt := 63) A dX11_doesOne_1 oz1 (by decide +kernel) (by rw [hq]; decide +kernel) ?_
    have h := h.2.2.1 (by omega)
    refine s_aload_n A dX11_doesOne_63 rfl ?_
    refine s_iload_n A dX11_doesOne_64 rfl ?_
    refine s_bipush A dX11_doesOne_65 rfl ?_
    refine s_aload_n A dX11_doesOne_67 rfl ?_
    refine s_getf (k := 11) (j := 0) (sl := true) (v := zR (some 154)) A dX11_doesOne_68 rfl zuw_X11 (Nat.le_of_ble_eq_true rfl) zwd1308 (by decide) (zk_153 _) rfl ?_
    refine s_iload_n A dX11_doesOne_71 rfl ?_
    refine s_iconst A dX11_doesOne_72 ?_
    refine s_iadd A dX11_doesOne_73 ?_
    obtain ⟨ox5, h⟩ := h
    refine z_iald A dX11_doesOne_74 (zk_154 _) (Nat.le_of_ble_eq_true rfl) ox5 ?_
    refine s_isub A dX11_doesOne_75 ?_
    refine s_callV (a := 153) (k := 11) (N := 45) (sl := true) (M := mX11_more) (n := 2) (d := 8) (mc := 0) (ms := 0) (av := [zI x2, zI (48 - (zi μ 154 (x3 + 2)))]) (st := []) A dX11_doesOne_76 rfl (by decide) (zk_153 _) zwd1717 zwd1719 zwd70 zwd100 zcd_X11_more (Nat.le_of_ble_eq_true rfl) (Nat.le_of_ble_eq_true rfl) (Nat.le_refl _) ⟨Nat.le_of_ble_eq_true rfl, Nat.le_of_ble_eq_true rfl⟩ ⟨rfl, zhn_X11_more⟩ rfl (Nat.le_of_ble_eq_true rfl) rfl (z_contV (fun μ6 h => ?_) h)
    refine s_goto (tgt := 167) A dX11_doesOne_79 (by decide) ?_
    exact s_vret A dX11_doesOne_167 hr hlk (Nat.le_of_ble_eq_true rfl) (Nat.le_of_ble_eq_true rfl) ⟨rfl, h⟩
  · refine z_lsw (tgt := 82) A dX11_doesOne_1 oz1 (by decide +kernel) (by rw [hq]; decide +kernel) ?_
    have h := h.2.2.2.1 (by omega)
    refine s_aload_n A dX11_doesOne_82 rfl ?_
    refine s_getf (k := 11) (j := 19) (sl := true) (v := zR (some 164)) A dX11_doesOne_83 rfl zuw_X11 (Nat.le_of_ble_eq_true rfl) zwd1327 (by decide) (zk_153 _) rfl ?_
    refine s_iload_n A dX11_doesOne_86 rfl ?_
    refine s_aload_n A dX11_doesOne_87 rfl ?_
    refine s_getf (k := 11) (j := 19) (sl := true) (v := zR (some 164)) A dX11_doesOne_88 rfl zuw_X11 (Nat.le_of_ble_eq_true rfl) zwd1327 (by decide) (zk_153 _) rfl ?_
    refine s_iload_n A dX11_doesOne_91 rfl ?_
    obtain ⟨ox7, h⟩ := h
    refine z_iald A dX11_doesOne_92 (zk_164 _) (Nat.le_of_ble_eq_true rfl) ox7 ?_
    refine s_aload_n A dX11_doesOne_93 rfl ?_
    refine s_getf (k := 11) (j := 0) (sl := true) (v := zR (some 154)) A dX11_doesOne_94 rfl zuw_X11 (Nat.le_of_ble_eq_true rfl) zwd1308 (by decide) (zk_153 _) rfl ?_
    refine s_iload_n A dX11_doesOne_97 rfl ?_
    refine s_iconst A dX11_doesOne_98 ?_
    refine s_iadd A dX11_doesOne_99 ?_
    obtain ⟨ox8, h⟩ := h
    refine z_iald A dX11_doesOne_100 (zk_154 _) (Nat.le_of_ble_eq_true rfl) ox8 ?_
    refine s_bipush A dX11_doesOne_101 rfl ?_
    refine s_isub A dX11_doesOne_103 ?_
    obtain ⟨oz9, h⟩ := h
    obtain ⟨oz10, h⟩ := h
    refine z_mmin A dX11_doesOne_104 zwd1575 zwd509 zwd105 zwd510 (Nat.le_of_ble_eq_true rfl) (Nat.le_of_ble_eq_true rfl) ⟨Nat.le_of_ble_eq_true rfl, Nat.le_of_ble_eq_true rfl⟩ oz9 oz10 ?_
    refine z_iast A dX11_doesOne_107 (zk_164 _) (Nat.le_of_ble_eq_true rfl) ox7 ?_
    refine s_goto (tgt := 167) A dX11_doesOne_108 (by decide) ?_
    exact s_vret A dX11_doesOne_167 hr hlk (Nat.le_of_ble_eq_true rfl) (Nat.le_of_ble_eq_true rfl) ⟨rfl, h⟩
  · refine z_lsw (tgt := 124) A dX11_doesOne_1 oz1 (by decide +kernel) (by simp [Op.lookupswitch.offset]; (repeat' split) <;> omega) ?_
    have h := h.2.2.2.2 (by omega)
    refine s_aload_n A dX11_doesOne_124 rfl ?_
    refine s_getf (k := 11) (j := 0) (sl := true) (v := zR (some 154)) A dX11_doesOne_125 rfl zuw_X11 (Nat.le_of_ble_eq_true rfl) zwd1308 (by decide) (zk_153 _) rfl ?_
    refine s_iload_n A dX11_doesOne_128 rfl ?_
    refine s_iconst A dX11_doesOne_129 ?_
    refine s_iadd A dX11_doesOne_130 ?_
    obtain ⟨ox11, h⟩ := h
    refine z_iald A dX11_doesOne_131 (zk_154 _) (Nat.le_of_ble_eq_true rfl) ox11 ?_
    refine s_callS (M := mX11_inkBy) (n := 1) (d := 0) (mc := 0) (ms := 0) (av := [zI (zi μ 154 (x3 + 2))]) (st := []) A dX11_doesOne_132 zwd1547 zwd1548 zwd100 zcd_X11_inkBy (Nat.le_of_ble_eq_true rfl) (Nat.le_of_ble_eq_true rfl) (Nat.le_refl _) ⟨Nat.le_of_ble_eq_true rfl, Nat.le_of_ble_eq_true rfl⟩ zhn_X11_inkBy rfl (Nat.le_of_ble_eq_true rfl) rfl (z_contI (fun v12 μ12 h => ?_) h)
    refine s_istore (L' := [some (zR (some 153)), some (zI x1), some (zI x2), some (zI x3), some (zI v12), none]) A dX11_doesOne_135 (Nat.le_of_ble_eq_true rfl) rfl ?_
    refine s_aload_n A dX11_doesOne_137 rfl ?_
    refine s_getf (k := 11) (j := 19) (sl := true) (v := zR (some 164)) A dX11_doesOne_138 rfl zuw_X11 (Nat.le_of_ble_eq_true rfl) zwd1327 (by decide) (zk_153 _) rfl ?_
    refine s_iload_n A dX11_doesOne_141 rfl ?_
    obtain ⟨ox13, h⟩ := h
    refine z_iald A dX11_doesOne_142 (zk_164 _) (Nat.le_of_ble_eq_true rfl) ox13 ?_
    refine s_istore (L' := [some (zR (some 153)), some (zI x1), some (zI x2), some (zI x3), some (zI v12), some (zI (zi μ12 164 x2))]) A dX11_doesOne_143 (Nat.le_of_ble_eq_true rfl) rfl ?_
    refine s_aload_n A dX11_doesOne_145 rfl ?_
    refine s_getf (k := 11) (j := 19) (sl := true) (v := zR (some 164)) A dX11_doesOne_146 rfl zuw_X11 (Nat.le_of_ble_eq_true rfl) zwd1327 (by decide) (zk_153 _) rfl ?_
    refine s_iload_n A dX11_doesOne_149 rfl ?_
    refine s_aload_n A dX11_doesOne_150 rfl ?_
    refine s_getf (k := 11) (j := 19) (sl := true) (v := zR (some 164)) A dX11_doesOne_151 rfl zuw_X11 (Nat.le_of_ble_eq_true rfl) zwd1327 (by decide) (zk_153 _) rfl ?_
    refine s_iload A dX11_doesOne_154 rfl ?_
    obtain ⟨ox14, h⟩ := h
    refine z_iald A dX11_doesOne_156 (zk_164 _) (Nat.le_of_ble_eq_true rfl) ox14 ?_
    refine z_iast A dX11_doesOne_157 (zk_164 _) (Nat.le_of_ble_eq_true rfl) ox13 ?_
    refine s_aload_n A dX11_doesOne_158 rfl ?_
    refine s_getf (k := 11) (j := 19) (sl := true) (v := zR (some 164)) A dX11_doesOne_159 rfl zuw_X11 (Nat.le_of_ble_eq_true rfl) zwd1327 (by decide) (zk_153 _) rfl ?_
    refine s_iload A dX11_doesOne_162 rfl ?_
    refine s_iload A dX11_doesOne_164 rfl ?_
    refine z_iast A dX11_doesOne_166 (zk_164 _) (Nat.le_of_ble_eq_true rfl) ox14 ?_
    exact s_vret A dX11_doesOne_167 hr hlk (Nat.le_of_ble_eq_true rfl) (Nat.le_of_ble_eq_true rfl) ⟨rfl, h⟩
theorem eX11_doesOne {G : zG} {F : zM → Prop} {μ : zM} {x1 : Int} {x2 : Int} {x3 : Int} (h : ∀ J, zJ G true (9) 0 0 mX11_doesOne (zKV F) J → J 0 ([some (zR (some 153)), some (zI x1), some (zI x2), some (zI x3), none, none], [], μ, 0, 0)) : qX11_doesOne G x1 x2 x3 μ F :=
  z_body (by decide +kernel) (Nat.le_of_ble_eq_true rfl) h
set_option maxRecDepth 20000 in
theorem rX11_does_e {G : zG} {dd : Nat} {F : zM → Prop} {J : Nat → zS → Prop} {μ : zM} (C : zJ G true (10 + dd) 0 0 mX11_does (zKV F) J) (x1 : Int) (x2 : Int) (x3 : Int)
    (h : zin x1 ∧ ((x1 = 103 → zin (zi μ 164 1) ∧ zin (zi μ 164 2) ∧ zin (zi μ 164 0) ∧ zin (min (zi μ 164 1) (zi μ 164 2)) ∧ (0 ≤ x3 + 1 ∧ x3 + 1 < 711) ∧ (0 ≤ (min (zi μ 164 0) (min (zi μ 164 1) (zi μ 164 2))) * ((zi μ 154 (x3 + 1)) - 48) ∧ (min (zi μ 164 0) (min (zi μ 164 1) (zi μ 164 2))) * ((zi μ 154 (x3 + 1)) - 48) < 2147483648) ∧ zin (((min (zi μ 164 0) (min (zi μ 164 1) (zi μ 164 2))) * ((zi μ 154 (x3 + 1)) - 48)) / 4) ∧ zin (8 - (zi μ 164 3)) ∧ qX11_trade G (-(min (((min (zi μ 164 0) (min (zi μ 164 1) (zi μ 164 2))) * ((zi μ 154 (x3 + 1)) - 48)) / 4) (8 - (zi μ 164 3)))) μ (fun μ9 => F μ9)) ∧ (x1 = 108 → (0 ≤ 606 + x2 ∧ 606 + x2 < 711) ∧ qX11_limit G (zi μ 154 (606 + x2)) μ (fun μ11 => F μ11)) ∧ (x1 = 112 → zin x2 ∧ ((x2 ≤ 0 → F μ) ∧ (¬ (x2 ≤ 0) → (0 ≤ (600 + x2) - 1 ∧ (600 + x2) - 1 < 711) ∧ ∃ d15, d15 < dd ∧ qX11_goes G d15 (x2 - 1) 0 (zi μ 154 ((600 + x2) - 1)) μ (fun μ15 => F μ15)))) ∧ (x1 = 117 → (0 ≤ x3 + 1 ∧ x3 + 1 < 711) ∧ zin (zi μ 164 1) ∧ zin (zi μ 164 2) ∧ zin (zi μ 164 0) ∧ zin (max (zi μ 164 1) (zi μ 164 2)) ∧ zin (zi μ 164 3) ∧ zin (8 - (max (zi μ 164 0) (max (zi μ 164 1) (zi μ 164 2)))) ∧ zin ((zi μ 154 (x3 + 1)) - 48) ∧ zin (min (zi μ 164 3) (8 - (max (zi μ 164 0) (max (zi μ 164 1) (zi μ 164 2))))) ∧ qX11_trade G (min ((zi μ 154 (x3 + 1)) - 48) (min (zi μ 164 3) (8 - (max (zi μ 164 0) (max (zi μ 164 1) (zi μ 164 2)))))) μ (fun μ25 => F μ25)) ∧ (x1 = 118 → J 72 ([some (zR (some 153)), none, none, none, some (zI 0)], [], μ, 0, 0)) ∧ (x1 ≠ 103 ∧ x1 ≠ 108 ∧ x1 ≠ 112 ∧ x1 ≠ 117 ∧ x1 ≠ 118 → (0 ≤ x3 + 1 ∧ x3 + 1 < 711) ∧ qX11_inkBy G true (zi μ 154 (x3 + 1)) μ (fun v27 μ27 => qX11_doesOne G x1 v27 x3 μ27 (fun μ28 => F μ28))))) : J 0 ([some (zR (some 153)), some (zI x1), some (zI x2), some (zI x3), none], [], μ, 0, 0) := by
  obtain ⟨p, e, s, m, args, below, meth, c, A, hml, hr, hlk, hnm, rfl⟩ := C
  refine s_iload_n A dX11_does_0 rfl ?_
  obtain ⟨oz1, h⟩ := h
  have hx29 : x1 = 103 ∨ x1 = 108 ∨ x1 = 112 ∨ x1 = 117 ∨ x1 = 118 ∨ (x1 ≠ 103 ∧ x1 ≠ 108 ∧ x1 ≠ 112 ∧ x1 ≠ 117 ∧ x1 ≠ 118) := by omega
  rcases hx29 with hq | hq | hq | hq | hq | hq
  · refine z_lsw (tgt := 116) A dX11_does_1 oz1 (by decide +kernel) (by rw [hq]; decide +kernel) ?_
    have h := h.1 (by omega)
    refine s_aload_n A dX11_does_116 rfl ?_
    refine s_aload_n A dX11_does_117 rfl ?_
    refine s_getf (k := 11) (j := 19) (sl := true) (v := zR (some 164)) A dX11_does_118 rfl zuw_X11 (Nat.le_of_ble_eq_true rfl) zwd1327 (by decide) (zk_153 _) rfl ?_
    refine s_iconst A dX11_does_121 ?_
    refine z_iald A dX11_does_122 (zk_164 _) (Nat.le_of_ble_eq_true rfl) ⟨by decide, by decide⟩ ?_
    refine s_aload_n A dX11_does_123 rfl ?_
    refine s_getf (k := 11) (j := 19) (sl := true) (v := zR (some 164)) A dX11_does_124 rfl zuw_X11 (Nat.le_of_ble_eq_true rfl) zwd1327 (by decide) (zk_153 _) rfl ?_
    refine s_iconst A dX11_does_127 ?_
    refine z_iald A dX11_does_128 (zk_164 _) (Nat.le_of_ble_eq_true rfl) ⟨by decide, by decide⟩ ?_
    refine s_aload_n A dX11_does_129 rfl ?_
    refine s_getf (k := 11) (j := 19) (sl := true) (v := zR (some 164)) A dX11_does_130 rfl zuw_X11 (Nat.le_of_ble_eq_true rfl) zwd1327 (by decide) (zk_153 _) rfl ?_
    refine s_iconst A dX11_does_133 ?_
    refine z_iald A dX11_does_134 (zk_164 _) (Nat.le_of_ble_eq_true rfl) ⟨by decide, by decide⟩ ?_
    obtain ⟨oz2, h⟩ := h
    obtain ⟨oz3, h⟩ := h
    refine z_mmin A dX11_does_135 zwd1575 zwd509 zwd105 zwd510 (by show 1 ≤ 10 + dd; omega) (by show 2 + 13 ≤ 40 * (10 + dd); omega) ⟨Nat.le_of_ble_eq_true rfl, Nat.le_of_ble_eq_true rfl⟩ oz2 oz3 ?_
    obtain ⟨oz4, h⟩ := h
    obtain ⟨oz5, h⟩ := h
    refine z_mmin A dX11_does_138 zwd1575 zwd509 zwd105 zwd510 (by show 1 ≤ 10 + dd; omega) (by show 1 + 13 ≤ 40 * (10 + dd); omega) ⟨Nat.le_of_ble_eq_true rfl, Nat.le_of_ble_eq_true rfl⟩ oz4 oz5 ?_
    refine s_aload_n A dX11_does_141 rfl ?_
    refine s_getf (k := 11) (j := 0) (sl := true) (v := zR (some 154)) A dX11_does_142 rfl zuw_X11 (Nat.le_of_ble_eq_true rfl) zwd1308 (by decide) (zk_153 _) rfl ?_
    refine s_iload_n A dX11_does_145 rfl ?_
    refine s_iconst A dX11_does_146 ?_
    refine s_iadd A dX11_does_147 ?_
    obtain ⟨ox6, h⟩ := h
    refine z_iald A dX11_does_148 (zk_154 _) (Nat.le_of_ble_eq_true rfl) ox6 ?_
    refine s_bipush A dX11_does_149 rfl ?_
    refine s_isub A dX11_does_151 ?_
    refine s_imul A dX11_does_152 ?_
    refine s_iconst A dX11_does_153 ?_
    obtain ⟨o1, h⟩ := h
    refine z_idiv A dX11_does_154 o1 ⟨by decide, by decide⟩ ?_
    refine s_bipush A dX11_does_155 rfl ?_
    refine s_aload_n A dX11_does_157 rfl ?_
    refine s_getf (k := 11) (j := 19) (sl := true) (v := zR (some 164)) A dX11_does_158 rfl zuw_X11 (Nat.le_of_ble_eq_true rfl) zwd1327 (by decide) (zk_153 _) rfl ?_
    refine s_iconst A dX11_does_161 ?_
    refine z_iald A dX11_does_162 (zk_164 _) (Nat.le_of_ble_eq_true rfl) ⟨by decide, by decide⟩ ?_
    refine s_isub A dX11_does_163 ?_
    obtain ⟨oz7, h⟩ := h
    obtain ⟨oz8, h⟩ := h
    refine z_mmin A dX11_does_164 zwd1575 zwd509 zwd105 zwd510 (by show 1 ≤ 10 + dd; omega) (by show 1 + 13 ≤ 40 * (10 + dd); omega) ⟨Nat.le_of_ble_eq_true rfl, Nat.le_of_ble_eq_true rfl⟩ oz7 oz8 ?_
    refine s_ineg A dX11_does_167 ?_
    refine s_callV (a := 153) (k := 11) (N := 45) (sl := true) (M := mX11_trade) (n := 1) (d := 0) (mc := 0) (ms := 0) (av := [zI (-(min (((min (zi μ 164 0) (min (zi μ 164 1) (zi μ 164 2))) * ((zi μ 154 (x3 + 1)) - 48)) / 4) (8 - (zi μ 164 3))))]) (st := []) A dX11_does_168 rfl (by decide) (zk_153 _) zwd1709 zwd1711 zwd68 zwd100 zcd_X11_trade (by show 0 + 1 ≤ 10 + dd; omega) (Nat.le_of_ble_eq_true rfl) (Nat.le_refl _) ⟨Nat.le_of_ble_eq_true rfl, Nat.le_of_ble_eq_true rfl⟩ ⟨rfl, zhn_X11_trade⟩ rfl (Nat.le_of_ble_eq_true rfl) rfl (z_contV (fun μ9 h => ?_) h)
    refine s_goto (tgt := 275) A dX11_does_171 (by decide) ?_
    exact s_vret A dX11_does_275 hr hlk (Nat.le_of_ble_eq_true rfl) (Nat.le_of_ble_eq_true rfl) ⟨rfl, h⟩
  · refine z_lsw (tgt := 52) A dX11_does_1 oz1 (by decide +kernel) (by rw [hq]; decide +kernel) ?_
    have h := h.2.1 (by omega)
    refine s_aload_n A dX11_does_52 rfl ?_
    refine s_aload_n A dX11_does_53 rfl ?_
    refine s_getf (k := 11) (j := 0) (sl := true) (v := zR (some 154)) A dX11_does_54 rfl zuw_X11 (Nat.le_of_ble_eq_true rfl) zwd1308 (by decide) (zk_153 _) rfl ?_
    refine s_sipush A dX11_does_57 rfl ?_
    refine s_iload_n A dX11_does_60 rfl ?_
    refine s_iadd A dX11_does_61 ?_
    obtain ⟨ox10, h⟩ := h
    refine z_iald A dX11_does_62 (zk_154 _) (Nat.le_of_ble_eq_true rfl) ox10 ?_
    refine s_callV (a := 153) (k := 11) (N := 45) (sl := true) (M := mX11_limit) (n := 1) (d := 8) (mc := 0) (ms := 0) (av := [zI (zi μ 154 (606 + x2))]) (st := []) A dX11_does_63 rfl (by decide) (zk_153 _) zwd1628 zwd1630 zwd53 zwd100 zcd_X11_limit (by show 8 + 1 ≤ 10 + dd; omega) (Nat.le_of_ble_eq_true rfl) (Nat.le_refl _) ⟨Nat.le_of_ble_eq_true rfl, Nat.le_of_ble_eq_true rfl⟩ ⟨rfl, zhn_X11_limit⟩ rfl (Nat.le_of_ble_eq_true rfl) rfl (z_contV (fun μ11 h => ?_) h)
    refine s_goto (tgt := 275) A dX11_does_66 (by decide) ?_
    exact s_vret A dX11_does_275 hr hlk (Nat.le_of_ble_eq_true rfl) (Nat.le_of_ble_eq_true rfl) ⟨rfl, h⟩
  · refine z_lsw (tgt := 231) A dX11_does_1 oz1 (by decide +kernel) (by rw [hq]; decide +kernel) ?_
    have h := h.2.2.1 (by omega)
    refine s_iload_n A dX11_does_231 rfl ?_
    obtain ⟨oz12, h⟩ := h
    refine z_if_le (tgt := 275) A dX11_does_232 (by decide) oz12 (fun c13 => ?_) (fun c13 => ?_)
    · have h := h.1 c13
      exact s_vret A dX11_does_275 hr hlk (Nat.le_of_ble_eq_true rfl) (Nat.le_of_ble_eq_true rfl) ⟨rfl, h⟩
    · have h := h.2 c13
      refine s_aload_n A dX11_does_235 rfl ?_
      refine s_iload_n A dX11_does_236 rfl ?_
      refine s_iconst A dX11_does_237 ?_
      refine s_isub A dX11_does_238 ?_
      refine s_iconst A dX11_does_239 ?_
      refine s_aload_n A dX11_does_240 rfl ?_
      refine s_getf (k := 11) (j := 0) (sl := true) (v := zR (some 154)) A dX11_does_241 rfl zuw_X11 (Nat.le_of_ble_eq_true rfl) zwd1308 (by decide) (zk_153 _) rfl ?_
      refine s_sipush A dX11_does_244 rfl ?_
      refine s_iload_n A dX11_does_247 rfl ?_
      refine s_iadd A dX11_does_248 ?_
      refine s_iconst A dX11_does_249 ?_
      refine s_isub A dX11_does_250 ?_
      obtain ⟨ox14, h⟩ := h
      refine z_iald A dX11_does_251 (zk_154 _) (Nat.le_of_ble_eq_true rfl) ox14 ?_
      obtain ⟨d15, hd15, h⟩ := h
      refine s_callV (a := 153) (k := 11) (N := 45) (sl := true) (M := mX11_goes) (n := 3) (d := 10 + d15) (mc := 0) (ms := 0) (av := [zI (x2 - 1), zI 0, zI (zi μ 154 ((600 + x2) - 1))]) (st := []) A dX11_does_252 rfl (by decide) (zk_153 _) zwd1694 zwd1696 zwd65 zwd100 zcd_X11_goes (by show 10 + d15 + 1 ≤ 10 + dd; omega) (Nat.le_of_ble_eq_true rfl) (Nat.le_refl _) ⟨Nat.le_of_ble_eq_true rfl, Nat.le_of_ble_eq_true rfl⟩ ⟨rfl, zhn_X11_goes⟩ rfl (Nat.le_of_ble_eq_true rfl) rfl (z_contV (fun μ15 h => ?_) h)
      refine s_goto (tgt := 275) A dX11_does_255 (by decide) ?_
      exact s_vret A dX11_does_275 hr hlk (Nat.le_of_ble_eq_true rfl) (Nat.le_of_ble_eq_true rfl) ⟨rfl, h⟩
  · refine z_lsw (tgt := 174) A dX11_does_1 oz1 (by decide +kernel) (by rw [hq]; decide +kernel) ?_
    have h := h.2.2.2.1 (by omega)
    refine s_aload_n A dX11_does_174 rfl ?_
    refine s_aload_n A dX11_does_175 rfl ?_
    refine s_getf (k := 11) (j := 0) (sl := true) (v := zR (some 154)) A dX11_does_176 rfl zuw_X11 (Nat.le_of_ble_eq_true rfl) zwd1308 (by decide) (zk_153 _) rfl ?_
    refine s_iload_n A dX11_does_179 rfl ?_
    refine s_iconst A dX11_does_180 ?_
    refine s_iadd A dX11_does_181 ?_
    obtain ⟨ox16, h⟩ := h
    refine z_iald A dX11_does_182 (zk_154 _) (Nat.le_of_ble_eq_true rfl) ox16 ?_
    refine s_bipush A dX11_does_183 rfl ?_
    refine s_isub A dX11_does_185 ?_
    refine s_aload_n A dX11_does_186 rfl ?_
    refine s_getf (k := 11) (j := 19) (sl := true) (v := zR (some 164)) A dX11_does_187 rfl zuw_X11 (Nat.le_of_ble_eq_true rfl) zwd1327 (by decide) (zk_153 _) rfl ?_
    refine s_iconst A dX11_does_190 ?_
    refine z_iald A dX11_does_191 (zk_164 _) (Nat.le_of_ble_eq_true rfl) ⟨by decide, by decide⟩ ?_
    refine s_bipush A dX11_does_192 rfl ?_
    refine s_aload_n A dX11_does_194 rfl ?_
    refine s_getf (k := 11) (j := 19) (sl := true) (v := zR (some 164)) A dX11_does_195 rfl zuw_X11 (Nat.le_of_ble_eq_true rfl) zwd1327 (by decide) (zk_153 _) rfl ?_
    refine s_iconst A dX11_does_198 ?_
    refine z_iald A dX11_does_199 (zk_164 _) (Nat.le_of_ble_eq_true rfl) ⟨by decide, by decide⟩ ?_
    refine s_aload_n A dX11_does_200 rfl ?_
    refine s_getf (k := 11) (j := 19) (sl := true) (v := zR (some 164)) A dX11_does_201 rfl zuw_X11 (Nat.le_of_ble_eq_true rfl) zwd1327 (by decide) (zk_153 _) rfl ?_
    refine s_iconst A dX11_does_204 ?_
    refine z_iald A dX11_does_205 (zk_164 _) (Nat.le_of_ble_eq_true rfl) ⟨by decide, by decide⟩ ?_
    refine s_aload_n A dX11_does_206 rfl ?_
    refine s_getf (k := 11) (j := 19) (sl := true) (v := zR (some 164)) A dX11_does_207 rfl zuw_X11 (Nat.le_of_ble_eq_true rfl) zwd1327 (by decide) (zk_153 _) rfl ?_
    refine s_iconst A dX11_does_210 ?_
    refine z_iald A dX11_does_211 (zk_164 _) (Nat.le_of_ble_eq_true rfl) ⟨by decide, by decide⟩ ?_
    obtain ⟨oz17, h⟩ := h
    obtain ⟨oz18, h⟩ := h
    refine z_mmax A dX11_does_212 zwd1590 zwd506 zwd105 zwd507 (by show 1 ≤ 10 + dd; omega) (by show 5 + 13 ≤ 40 * (10 + dd); omega) ⟨Nat.le_of_ble_eq_true rfl, Nat.le_of_ble_eq_true rfl⟩ oz17 oz18 ?_
    obtain ⟨oz19, h⟩ := h
    obtain ⟨oz20, h⟩ := h
    refine z_mmax A dX11_does_215 zwd1590 zwd506 zwd105 zwd507 (by show 1 ≤ 10 + dd; omega) (by show 4 + 13 ≤ 40 * (10 + dd); omega) ⟨Nat.le_of_ble_eq_true rfl, Nat.le_of_ble_eq_true rfl⟩ oz19 oz20 ?_
    refine s_isub A dX11_does_218 ?_
    obtain ⟨oz21, h⟩ := h
    obtain ⟨oz22, h⟩ := h
    refine z_mmin A dX11_does_219 zwd1575 zwd509 zwd105 zwd510 (by show 1 ≤ 10 + dd; omega) (by show 2 + 13 ≤ 40 * (10 + dd); omega) ⟨Nat.le_of_ble_eq_true rfl, Nat.le_of_ble_eq_true rfl⟩ oz21 oz22 ?_
    obtain ⟨oz23, h⟩ := h
    obtain ⟨oz24, h⟩ := h
    refine z_mmin A dX11_does_222 zwd1575 zwd509 zwd105 zwd510 (by show 1 ≤ 10 + dd; omega) (by show 1 + 13 ≤ 40 * (10 + dd); omega) ⟨Nat.le_of_ble_eq_true rfl, Nat.le_of_ble_eq_true rfl⟩ oz23 oz24 ?_
    refine s_callV (a := 153) (k := 11) (N := 45) (sl := true) (M := mX11_trade) (n := 1) (d := 0) (mc := 0) (ms := 0) (av := [zI (min ((zi μ 154 (x3 + 1)) - 48) (min (zi μ 164 3) (8 - (max (zi μ 164 0) (max (zi μ 164 1) (zi μ 164 2))))))]) (st := []) A dX11_does_225 rfl (by decide) (zk_153 _) zwd1709 zwd1711 zwd68 zwd100 zcd_X11_trade (by show 0 + 1 ≤ 10 + dd; omega) (Nat.le_of_ble_eq_true rfl) (Nat.le_refl _) ⟨Nat.le_of_ble_eq_true rfl, Nat.le_of_ble_eq_true rfl⟩ ⟨rfl, zhn_X11_trade⟩ rfl (Nat.le_of_ble_eq_true rfl) rfl (z_contV (fun μ25 h => ?_) h)
    refine s_goto (tgt := 275) A dX11_does_228 (by decide) ?_
    exact s_vret A dX11_does_275 hr hlk (Nat.le_of_ble_eq_true rfl) (Nat.le_of_ble_eq_true rfl) ⟨rfl, h⟩
  · refine z_lsw (tgt := 69) A dX11_does_1 oz1 (by decide +kernel) (by rw [hq]; decide +kernel) ?_
    have h := h.2.2.2.2.1 (by omega)
    refine s_iconst A dX11_does_69 ?_
    refine s_istore (L' := [some (zR (some 153)), some (zI x1), some (zI x2), some (zI x3), some (zI 0)]) A dX11_does_70 (Nat.le_of_ble_eq_true rfl) rfl ?_
    exact z_wk (L' := [some (zR (some 153)), none, none, none, some (zI 0)]) ⟨rfl, rfl, trivial⟩ h
  · refine z_lsw (tgt := 258) A dX11_does_1 oz1 (by decide +kernel) (by simp [Op.lookupswitch.offset]; (repeat' split) <;> omega) ?_
    have h := h.2.2.2.2.2 (by omega)
    refine s_aload_n A dX11_does_258 rfl ?_
    refine s_iload_n A dX11_does_259 rfl ?_
    refine s_aload_n A dX11_does_260 rfl ?_
    refine s_getf (k := 11) (j := 0) (sl := true) (v := zR (some 154)) A dX11_does_261 rfl zuw_X11 (Nat.le_of_ble_eq_true rfl) zwd1308 (by decide) (zk_153 _) rfl ?_
    refine s_iload_n A dX11_does_264 rfl ?_
    refine s_iconst A dX11_does_265 ?_
    refine s_iadd A dX11_does_266 ?_
    obtain ⟨ox26, h⟩ := h
    refine z_iald A dX11_does_267 (zk_154 _) (Nat.le_of_ble_eq_true rfl) ox26 ?_
    refine s_callS (M := mX11_inkBy) (n := 1) (d := 0) (mc := 0) (ms := 0) (av := [zI (zi μ 154 (x3 + 1))]) (st := [zI x1, zR (some 153)]) A dX11_does_268 zwd1547 zwd1548 zwd100 zcd_X11_inkBy (by show 0 + 1 ≤ 10 + dd; omega) (Nat.le_of_ble_eq_true rfl) (Nat.le_refl _) ⟨Nat.le_of_ble_eq_true rfl, Nat.le_of_ble_eq_true rfl⟩ zhn_X11_inkBy rfl (Nat.le_of_ble_eq_true rfl) rfl (z_contI (fun v27 μ27 h => ?_) h)
    refine s_iload_n A dX11_does_271 rfl ?_
    refine s_callV (a := 153) (k := 11) (N := 45) (sl := true) (M := mX11_doesOne) (n := 3) (d := 9) (mc := 0) (ms := 0) (av := [zI x1, zI v27, zI x3]) (st := []) A dX11_does_272 rfl (by decide) (zk_153 _) zwd1713 zwd1715 zwd69 zwd100 zcd_X11_doesOne (by show 9 + 1 ≤ 10 + dd; omega) (Nat.le_of_ble_eq_true rfl) (Nat.le_refl _) ⟨Nat.le_of_ble_eq_true rfl, Nat.le_of_ble_eq_true rfl⟩ ⟨rfl, zhn_X11_doesOne⟩ rfl (Nat.le_of_ble_eq_true rfl) rfl (z_contV (fun μ28 h => ?_) h)
    exact s_vret A dX11_does_275 hr hlk (Nat.le_of_ble_eq_true rfl) (Nat.le_of_ble_eq_true rfl) ⟨rfl, h⟩
set_option maxRecDepth 20000 in
theorem rX11_does_72 {G : zG} {dd : Nat} {F : zM → Prop} {J : Nat → zS → Prop} {μ : zM} (C : zJ G true (10 + dd) 0 0 mX11_does (zKV F) J) (x4 : Int)
    (h : zin x4 ∧ ((4 ≤ x4 → F μ) ∧ (¬ (4 ≤ x4) → (0 ≤ x4 ∧ x4 < 4) ∧ (0 ≤ (324 + (9 * x4)) + (zi μ 164 x4) ∧ (324 + (9 * x4)) + (zi μ 164 x4) < 711) ∧ J 72 ([some (zR (some 153)), none, none, none, some (zI (x4 + 1))], [], zup μ 164 x4 (zi μ 154 ((324 + (9 * x4)) + (zi μ 164 x4))), 0, 0)))) : J 72 ([some (zR (some 153)), none, none, none, some (zI x4)], [], μ, 0, 0) := by
  obtain ⟨p, e, s, m, args, below, meth, c, A, hml, hr, hlk, hnm, rfl⟩ := C
  refine s_iload A dX11_does_72 rfl ?_
  refine s_iconst A dX11_does_74 ?_
  obtain ⟨oz1, h⟩ := h
  refine z_icmp_ge (tgt := 113) A dX11_does_75 (by decide) oz1 ⟨by decide, by decide⟩ (fun c2 => ?_) (fun c2 => ?_)
  · have h := h.1 c2
    refine s_goto (tgt := 275) A dX11_does_113 (by decide) ?_
    exact s_vret A dX11_does_275 hr hlk (Nat.le_of_ble_eq_true rfl) (Nat.le_of_ble_eq_true rfl) ⟨rfl, h⟩
  · have h := h.2 c2
    refine s_aload_n A dX11_does_78 rfl ?_
    refine s_getf (k := 11) (j := 19) (sl := true) (v := zR (some 164)) A dX11_does_79 rfl zuw_X11 (Nat.le_of_ble_eq_true rfl) zwd1327 (by decide) (zk_153 _) rfl ?_
    refine s_iload A dX11_does_82 rfl ?_
    refine s_aload_n A dX11_does_84 rfl ?_
    refine s_getf (k := 11) (j := 0) (sl := true) (v := zR (some 154)) A dX11_does_85 rfl zuw_X11 (Nat.le_of_ble_eq_true rfl) zwd1308 (by decide) (zk_153 _) rfl ?_
    refine s_sipush A dX11_does_88 rfl ?_
    refine s_bipush A dX11_does_91 rfl ?_
    refine s_iload A dX11_does_93 rfl ?_
    refine s_imul A dX11_does_95 ?_
    refine s_iadd A dX11_does_96 ?_
    refine s_aload_n A dX11_does_97 rfl ?_
    refine s_getf (k := 11) (j := 19) (sl := true) (v := zR (some 164)) A dX11_does_98 rfl zuw_X11 (Nat.le_of_ble_eq_true rfl) zwd1327 (by decide) (zk_153 _) rfl ?_
    refine s_iload A dX11_does_101 rfl ?_
    obtain ⟨ox3, h⟩ := h
    refine z_iald A dX11_does_103 (zk_164 _) (Nat.le_of_ble_eq_true rfl) ox3 ?_
    refine s_iadd A dX11_does_104 ?_
    obtain ⟨ox4, h⟩ := h
    refine z_iald A dX11_does_105 (zk_154 _) (Nat.le_of_ble_eq_true rfl) ox4 ?_
    refine z_iast A dX11_does_106 (zk_164 _) (Nat.le_of_ble_eq_true rfl) ox3 ?_
    refine s_iinc (L' := [some (zR (some 153)), none, none, none, some (zI (x4 + 1))]) A dX11_does_107 rfl rfl ?_
    refine s_goto (tgt := 72) A dX11_does_110 (by decide) ?_
    exact h
theorem eX11_does {G : zG} {dd : Nat} {F : zM → Prop} {μ : zM} {x1 : Int} {x2 : Int} {x3 : Int} (h : ∀ J, zJ G true (10 + dd) 0 0 mX11_does (zKV F) J → J 0 ([some (zR (some 153)), some (zI x1), some (zI x2), some (zI x3), none], [], μ, 0, 0)) : qX11_does G dd x1 x2 x3 μ F :=
  z_body (by decide +kernel) (Nat.le_of_ble_eq_true rfl) h
