set_option maxRecDepth 20000 in
theorem rX10_way_e {G : zG} {F : Int → zM → Prop} {J : Nat → zS → Prop} {μ : zM} (C : zJ G true (12) 0 0 mX10_way (zKI F) J) (x1 : Int) (x2 : Int) (x3 : Int)
    (h : qX10_placeOf G true x1 μ (fun v1 μ1 => qX10_placeOf G true x2 μ1 (fun v2 μ2 => zin v1 ∧ ((v1 < 0 → F (-1) μ2) ∧ (¬ (v1 < 0) → zin v2 ∧ ((0 ≤ v2 → qX7_isOpen G 5 v1 μ2 (fun v7 μ7 => zin v7 ∧ ((v7 = 0 → F (-2) μ7) ∧ (¬ (v7 = 0) → qX7_isOpen G 5 v2 μ7 (fun v10 μ10 => zin v10 ∧ ((¬ v10 = 0 → qX10_refresh G μ10 (fun μ13 => qX10_markChangesTo G v2 x3 μ13 (fun μ14 => (0 ≤ v1 ∧ v1 < 6561) ∧ zin (zi μ14 134 v1) ∧ ((0 ≤ zi μ14 134 v1 → qX6_clear G μ14 (fun μ18 => zin (zi μ18 134 v1) ∧ ((zi μ18 134 v1 ≤ 0 → F (zi μ18 134 v1) μ18) ∧ (¬ (zi μ18 134 v1 ≤ 0) → qX10_firstOfTheWay G v1 x3 μ18 (fun v21 μ21 => qX10_codeOf G true v21 μ21 (fun v22 μ22 => zin v22 ∧ qX6_append G v22 μ22 (fun μ24 => F (zi μ24 134 v1) μ24))))))) ∧ (¬ (0 ≤ zi μ14 134 v1) → F (-2) μ14))))) ∧ (v10 = 0 → F (-2) μ10))))))) ∧ (¬ (0 ≤ v2) → F (-1) μ2))))))) : J 0 ([some (zR (some 0)), some (zI x1), some (zI x2), some (zI x3), none, none], [], μ, 0, 0) := by
  obtain ⟨p, e, s, m, args, below, meth, c, A, hml, hr, hlk, hnm, rfl⟩ := C
  refine s_iload_n A dX10_way_0 rfl ?_
  refine s_callS (M := mX10_placeOf) (n := 1) (d := 2) (mc := 0) (ms := 0) (av := [zI x1]) (st := []) A dX10_way_1 zwd806 zwd807 zwd89 zcd_X10_placeOf (Nat.le_of_ble_eq_true rfl) (Nat.le_of_ble_eq_true rfl) (Nat.le_refl _) ⟨Nat.le_of_ble_eq_true rfl, Nat.le_of_ble_eq_true rfl⟩ zhn_X10_placeOf rfl (Nat.le_of_ble_eq_true rfl) rfl (z_contI (fun v1 μ1 h => ?_) h)
  refine s_istore (L' := [some (zR (some 0)), some (zI x1), some (zI x2), some (zI x3), some (zI v1), none]) A dX10_way_4 (Nat.le_of_ble_eq_true rfl) rfl ?_
  refine s_iload_n A dX10_way_6 rfl ?_
  refine s_callS (M := mX10_placeOf) (n := 1) (d := 2) (mc := 0) (ms := 0) (av := [zI x2]) (st := []) A dX10_way_7 zwd806 zwd807 zwd89 zcd_X10_placeOf (Nat.le_of_ble_eq_true rfl) (Nat.le_of_ble_eq_true rfl) (Nat.le_refl _) ⟨Nat.le_of_ble_eq_true rfl, Nat.le_of_ble_eq_true rfl⟩ zhn_X10_placeOf rfl (Nat.le_of_ble_eq_true rfl) rfl (z_contI (fun v2 μ2 h => ?_) h)
  refine s_istore (L' := [some (zR (some 0)), some (zI x1), some (zI x2), some (zI x3), some (zI v1), some (zI v2)]) A dX10_way_10 (Nat.le_of_ble_eq_true rfl) rfl ?_
  refine s_iload A dX10_way_12 rfl ?_
  obtain ⟨oz3, h⟩ := h
  refine z_if_lt (tgt := 22) A dX10_way_14 (by decide) oz3 (fun c4 => ?_) (fun c4 => ?_)
  · have h := h.1 c4
    refine s_iconst A dX10_way_22 ?_
    exact s_iret A dX10_way_23 hr hlk (Nat.le_of_ble_eq_true rfl) (Nat.le_of_ble_eq_true rfl) ⟨_, rfl, h⟩
  · have h := h.2 c4
    refine s_iload A dX10_way_17 rfl ?_
    obtain ⟨oz5, h⟩ := h
    refine z_if_ge (tgt := 24) A dX10_way_19 (by decide) oz5 (fun c6 => ?_) (fun c6 => ?_)
    · have h := h.1 c6
      refine s_aload_n A dX10_way_24 rfl ?_
      refine s_getf (k := 10) (j := 2) (sl := true) (v := zR (some 5)) A dX10_way_25 rfl zuw_X10 (Nat.le_of_ble_eq_true rfl) zwd340 (by decide) (zk_0 _) rfl ?_
      refine s_iload A dX10_way_28 rfl ?_
      refine s_callV (a := 5) (k := 7) (N := 9) (sl := true) (M := mX7_isOpen) (n := 1) (d := 2) (mc := 0) (ms := 0) (av := [zI v1]) (st := []) A dX10_way_30 rfl (by decide) (zk_5 _) zwd1009 zwd852 zwd853 zwd92 zcd_X7_isOpen (Nat.le_of_ble_eq_true rfl) (Nat.le_of_ble_eq_true rfl) (Nat.le_refl _) ⟨Nat.le_of_ble_eq_true rfl, Nat.le_of_ble_eq_true rfl⟩ ⟨rfl, zhn_X7_isOpen⟩ rfl (Nat.le_of_ble_eq_true rfl) rfl (z_contI (fun v7 μ7 h => ?_) h)
      obtain ⟨oz8, h⟩ := h
      refine z_if_eq (tgt := 48) A dX10_way_33 (by decide) oz8 (fun c9 => ?_) (fun c9 => ?_)
      · have h := h.1 c9
        refine s_bipush A dX10_way_48 rfl ?_
        exact s_iret A dX10_way_50 hr hlk (Nat.le_of_ble_eq_true rfl) (Nat.le_of_ble_eq_true rfl) ⟨_, rfl, h⟩
      · have h := h.2 c9
        refine s_aload_n A dX10_way_36 rfl ?_
        refine s_getf (k := 10) (j := 2) (sl := true) (v := zR (some 5)) A dX10_way_37 rfl zuw_X10 (Nat.le_of_ble_eq_true rfl) zwd340 (by decide) (zk_0 _) rfl ?_
        refine s_iload A dX10_way_40 rfl ?_
        refine s_callV (a := 5) (k := 7) (N := 9) (sl := true) (M := mX7_isOpen) (n := 1) (d := 2) (mc := 0) (ms := 0) (av := [zI v2]) (st := []) A dX10_way_42 rfl (by decide) (zk_5 _) zwd1009 zwd852 zwd853 zwd92 zcd_X7_isOpen (Nat.le_of_ble_eq_true rfl) (Nat.le_of_ble_eq_true rfl) (Nat.le_refl _) ⟨Nat.le_of_ble_eq_true rfl, Nat.le_of_ble_eq_true rfl⟩ ⟨rfl, zhn_X7_isOpen⟩ rfl (Nat.le_of_ble_eq_true rfl) rfl (z_contI (fun v10 μ10 h => ?_) h)
        obtain ⟨oz11, h⟩ := h
        refine z_if_ne (tgt := 51) A dX10_way_45 (by decide) oz11 (fun c12 => ?_) (fun c12 => ?_)
        · have h := h.1 c12
          refine s_aload_n A dX10_way_51 rfl ?_
          refine s_callV (a := 0) (k := 10) (N := 15) (sl := true) (M := mX10_refresh) (n := 0) (d := 11) (mc := 0) (ms := 0) (av := []) (st := []) A dX10_way_52 rfl (by decide) (zk_0 _) zwd813 zwd815 zwd5 zwd89 zcd_X10_refresh (Nat.le_of_ble_eq_true rfl) (Nat.le_of_ble_eq_true rfl) (Nat.le_refl _) ⟨Nat.le_of_ble_eq_true rfl, Nat.le_of_ble_eq_true rfl⟩ ⟨rfl, zhn_X10_refresh⟩ rfl (Nat.le_of_ble_eq_true rfl) rfl (z_contV (fun μ13 h => ?_) h)
          refine s_aload_n A dX10_way_55 rfl ?_
          refine s_iload A dX10_way_56 rfl ?_
          refine s_iload_n A dX10_way_58 rfl ?_
          refine s_callV (a := 0) (k := 10) (N := 15) (sl := true) (M := mX10_markChangesTo) (n := 2) (d := 4) (mc := 0) (ms := 0) (av := [zI v2, zI x3]) (st := []) A dX10_way_59 rfl (by decide) (zk_0 _) zwd1010 zwd1012 zwd22 zwd89 zcd_X10_markChangesTo (Nat.le_of_ble_eq_true rfl) (Nat.le_of_ble_eq_true rfl) (Nat.le_refl _) ⟨Nat.le_of_ble_eq_true rfl, Nat.le_of_ble_eq_true rfl⟩ ⟨rfl, zhn_X10_markChangesTo⟩ rfl (Nat.le_of_ble_eq_true rfl) rfl (z_contV (fun μ14 h => ?_) h)
          refine s_aload_n A dX10_way_62 rfl ?_
          refine s_getf (k := 10) (j := 12) (sl := true) (v := zR (some 134)) A dX10_way_63 rfl zuw_X10 (Nat.le_of_ble_eq_true rfl) zwd350 (by decide) (zk_0 _) rfl ?_
          refine s_iload A dX10_way_66 rfl ?_
          obtain ⟨ox15, h⟩ := h
          refine z_iald A dX10_way_68 (zk_134 _) (Nat.le_of_ble_eq_true rfl) ox15 ?_
          obtain ⟨oz16, h⟩ := h
          refine z_if_ge (tgt := 75) A dX10_way_69 (by decide) oz16 (fun c17 => ?_) (fun c17 => ?_)
          · have h := h.1 c17
            refine s_aload_n A dX10_way_75 rfl ?_
            refine s_getf (k := 10) (j := 1) (sl := true) (v := zR (some 3)) A dX10_way_76 rfl zuw_X10 (Nat.le_of_ble_eq_true rfl) zwd339 (by decide) (zk_0 _) rfl ?_
            refine s_callV (a := 3) (k := 6) (N := 2) (sl := true) (M := mX6_clear) (n := 0) (d := 0) (mc := 0) (ms := 0) (av := []) (st := []) A dX10_way_79 rfl (by decide) (zk_3 _) zwd786 zwd787 zwd788 zwd91 zcd_X6_clear (Nat.le_of_ble_eq_true rfl) (Nat.le_of_ble_eq_true rfl) (Nat.le_refl _) ⟨Nat.le_of_ble_eq_true rfl, Nat.le_of_ble_eq_true rfl⟩ ⟨rfl, zhn_X6_clear⟩ rfl (Nat.le_of_ble_eq_true rfl) rfl (z_contV (fun μ18 h => ?_) h)
            refine s_aload_n A dX10_way_82 rfl ?_
            refine s_getf (k := 10) (j := 12) (sl := true) (v := zR (some 134)) A dX10_way_83 rfl zuw_X10 (Nat.le_of_ble_eq_true rfl) zwd350 (by decide) (zk_0 _) rfl ?_
            refine s_iload A dX10_way_86 rfl ?_
            refine z_iald A dX10_way_88 (zk_134 _) (Nat.le_of_ble_eq_true rfl) ox15 ?_
            obtain ⟨oz19, h⟩ := h
            refine z_if_le (tgt := 110) A dX10_way_89 (by decide) oz19 (fun c20 => ?_) (fun c20 => ?_)
            · have h := h.1 c20
              refine s_aload_n A dX10_way_110 rfl ?_
              refine s_getf (k := 10) (j := 12) (sl := true) (v := zR (some 134)) A dX10_way_111 rfl zuw_X10 (Nat.le_of_ble_eq_true rfl) zwd350 (by decide) (zk_0 _) rfl ?_
              refine s_iload A dX10_way_114 rfl ?_
              refine z_iald A dX10_way_116 (zk_134 _) (Nat.le_of_ble_eq_true rfl) ox15 ?_
              exact s_iret A dX10_way_117 hr hlk (Nat.le_of_ble_eq_true rfl) (Nat.le_of_ble_eq_true rfl) ⟨_, rfl, h⟩
            · have h := h.2 c20
              refine s_aload_n A dX10_way_92 rfl ?_
              refine s_getf (k := 10) (j := 1) (sl := true) (v := zR (some 3)) A dX10_way_93 rfl zuw_X10 (Nat.le_of_ble_eq_true rfl) zwd339 (by decide) (zk_0 _) rfl ?_
              refine s_aload_n A dX10_way_96 rfl ?_
              refine s_iload A dX10_way_97 rfl ?_
              refine s_iload_n A dX10_way_99 rfl ?_
              refine s_callV (a := 0) (k := 10) (N := 15) (sl := true) (M := mX10_firstOfTheWay) (n := 2) (d := 4) (mc := 0) (ms := 0) (av := [zI v1, zI x3]) (st := [zR (some 3)]) A dX10_way_100 rfl (by decide) (zk_0 _) zwd1023 zwd1025 zwd23 zwd89 zcd_X10_firstOfTheWay (Nat.le_of_ble_eq_true rfl) (Nat.le_of_ble_eq_true rfl) (Nat.le_refl _) ⟨Nat.le_of_ble_eq_true rfl, Nat.le_of_ble_eq_true rfl⟩ ⟨rfl, zhn_X10_firstOfTheWay⟩ rfl (Nat.le_of_ble_eq_true rfl) rfl (z_contI (fun v21 μ21 h => ?_) h)
              refine s_callS (M := mX10_codeOf) (n := 1) (d := 2) (mc := 0) (ms := 0) (av := [zI v21]) (st := [zR (some 3)]) A dX10_way_103 zwd893 zwd894 zwd89 zcd_X10_codeOf (Nat.le_of_ble_eq_true rfl) (Nat.le_of_ble_eq_true rfl) (Nat.le_refl _) ⟨Nat.le_of_ble_eq_true rfl, Nat.le_of_ble_eq_true rfl⟩ zhn_X10_codeOf rfl (Nat.le_of_ble_eq_true rfl) rfl (z_contI (fun v22 μ22 h => ?_) h)
              obtain ⟨oz23, h⟩ := h
              refine z_i2l2 A dX10_way_106 oz23 ?_
              refine s_callV (a := 3) (k := 6) (N := 2) (sl := true) (M := mX6_append) (n := 1) (d := 0) (mc := 0) (ms := 0) (av := [zL v22]) (st := []) A dX10_way_107 rfl (by decide) (zk_3 _) zwd790 zwd791 zwd792 zwd91 zcd_X6_append (Nat.le_of_ble_eq_true rfl) (Nat.le_of_ble_eq_true rfl) (Nat.le_refl _) ⟨Nat.le_of_ble_eq_true rfl, Nat.le_of_ble_eq_true rfl⟩ ⟨rfl, zhn_X6_append⟩ rfl (Nat.le_of_ble_eq_true rfl) rfl (z_contV (fun μ24 h => ?_) h)
              refine s_aload_n A dX10_way_110 rfl ?_
              refine s_getf (k := 10) (j := 12) (sl := true) (v := zR (some 134)) A dX10_way_111 rfl zuw_X10 (Nat.le_of_ble_eq_true rfl) zwd350 (by decide) (zk_0 _) rfl ?_
              refine s_iload A dX10_way_114 rfl ?_
              refine z_iald A dX10_way_116 (zk_134 _) (Nat.le_of_ble_eq_true rfl) ox15 ?_
              exact s_iret A dX10_way_117 hr hlk (Nat.le_of_ble_eq_true rfl) (Nat.le_of_ble_eq_true rfl) ⟨_, rfl, h⟩
          · have h := h.2 c17
            refine s_bipush A dX10_way_72 rfl ?_
            exact s_iret A dX10_way_74 hr hlk (Nat.le_of_ble_eq_true rfl) (Nat.le_of_ble_eq_true rfl) ⟨_, rfl, h⟩
        · have h := h.2 c12
          refine s_bipush A dX10_way_48 rfl ?_
          exact s_iret A dX10_way_50 hr hlk (Nat.le_of_ble_eq_true rfl) (Nat.le_of_ble_eq_true rfl) ⟨_, rfl, h⟩
    · have h := h.2 c6
      refine s_iconst A dX10_way_22 ?_
      exact s_iret A dX10_way_23 hr hlk (Nat.le_of_ble_eq_true rfl) (Nat.le_of_ble_eq_true rfl) ⟨_, rfl, h⟩
theorem eX10_way {G : zG} {F : Int → zM → Prop} {μ : zM} {x1 : Int} {x2 : Int} {x3 : Int} (h : ∀ J, zJ G true (12) 0 0 mX10_way (zKI F) J → J 0 ([some (zR (some 0)), some (zI x1), some (zI x2), some (zI x3), none, none], [], μ, 0, 0)) : qX10_way G x1 x2 x3 μ F :=
  z_body (by decide +kernel) (Nat.le_of_ble_eq_true rfl) h
set_option maxRecDepth 20000 in
theorem rX10_rises_e {G : zG} {F : Int → zM → Prop} {J : Nat → zS → Prop} {μ : zM} (C : zJ G true (12) 0 0 mX10_rises (zKI F) J) (x1 : Int)
    (h : qX10_isInk G true x1 μ (fun v1 μ1 => zin v1 ∧ ((¬ v1 = 0 → qX10_refresh G μ1 (fun μ4 => qX0_countRises G 105 x1 μ4 (fun v5 μ5 => qX6_clear G μ5 (fun μ6 => zin v5 ∧ ((v5 ≤ 0 → F v5 μ6) ∧ (¬ (v5 ≤ 0) → qX0_firstRise G 105 x1 μ6 (fun v9 μ9 => (0 ≤ v9 ∧ v9 < 2147483648) ∧ zin (v9 / 3) ∧ qX6_append G (v9 / 3) μ9 (fun μ11 => (0 ≤ v9 ∧ v9 < 2147483648) ∧ zin (v9 % 3) ∧ qX6_append G (v9 % 3) μ11 (fun μ13 => F v5 μ13))))))))) ∧ (v1 = 0 → F (-1) μ1)))) : J 0 ([some (zR (some 0)), some (zI x1), none, none], [], μ, 0, 0) := by
  obtain ⟨p, e, s, m, args, below, meth, c, A, hml, hr, hlk, hnm, rfl⟩ := C
  refine s_iload_n A dX10_rises_0 rfl ?_
  refine s_callS (M := mX10_isInk) (n := 1) (d := 2) (mc := 0) (ms := 0) (av := [zI x1]) (st := []) A dX10_rises_1 zwd629 zwd630 zwd89 zcd_X10_isInk (Nat.le_of_ble_eq_true rfl) (Nat.le_of_ble_eq_true rfl) (Nat.le_refl _) ⟨Nat.le_of_ble_eq_true rfl, Nat.le_of_ble_eq_true rfl⟩ zhn_X10_isInk rfl (Nat.le_of_ble_eq_true rfl) rfl (z_contI (fun v1 μ1 h => ?_) h)
  obtain ⟨oz2, h⟩ := h
  refine z_if_ne (tgt := 9) A dX10_rises_4 (by decide) oz2 (fun c3 => ?_) (fun c3 => ?_)
  · have h := h.1 c3
    refine s_aload_n A dX10_rises_9 rfl ?_
    refine s_callV (a := 0) (k := 10) (N := 15) (sl := true) (M := mX10_refresh) (n := 0) (d := 11) (mc := 0) (ms := 0) (av := []) (st := []) A dX10_rises_10 rfl (by decide) (zk_0 _) zwd813 zwd815 zwd5 zwd89 zcd_X10_refresh (Nat.le_of_ble_eq_true rfl) (Nat.le_of_ble_eq_true rfl) (Nat.le_refl _) ⟨Nat.le_of_ble_eq_true rfl, Nat.le_of_ble_eq_true rfl⟩ ⟨rfl, zhn_X10_refresh⟩ rfl (Nat.le_of_ble_eq_true rfl) rfl (z_contV (fun μ4 h => ?_) h)
    refine s_aload_n A dX10_rises_13 rfl ?_
    refine s_getf (k := 10) (j := 6) (sl := true) (v := zR (some 105)) A dX10_rises_14 rfl zuw_X10 (Nat.le_of_ble_eq_true rfl) zwd344 (by decide) (zk_0 _) rfl ?_
    refine s_iload_n A dX10_rises_17 rfl ?_
    refine s_callV (a := 105) (k := 0) (N := 5) (sl := true) (M := mX0_countRises) (n := 1) (d := 3) (mc := 0) (ms := 0) (av := [zI x1]) (st := []) A dX10_rises_18 rfl (by decide) (zk_105 _) zwd1031 zwd1032 zwd1033 zwd95 zcd_X0_countRises (Nat.le_of_ble_eq_true rfl) (Nat.le_of_ble_eq_true rfl) (Nat.le_refl _) ⟨Nat.le_of_ble_eq_true rfl, Nat.le_of_ble_eq_true rfl⟩ ⟨rfl, zhn_X0_countRises⟩ rfl (Nat.le_of_ble_eq_true rfl) rfl (z_contI (fun v5 μ5 h => ?_) h)
    refine s_istore_n (L' := [some (zR (some 0)), some (zI x1), some (zI v5), none]) A dX10_rises_21 (Nat.le_of_ble_eq_true rfl) rfl ?_
    refine s_aload_n A dX10_rises_22 rfl ?_
    refine s_getf (k := 10) (j := 1) (sl := true) (v := zR (some 3)) A dX10_rises_23 rfl zuw_X10 (Nat.le_of_ble_eq_true rfl) zwd339 (by decide) (zk_0 _) rfl ?_
    refine s_callV (a := 3) (k := 6) (N := 2) (sl := true) (M := mX6_clear) (n := 0) (d := 0) (mc := 0) (ms := 0) (av := []) (st := []) A dX10_rises_26 rfl (by decide) (zk_3 _) zwd786 zwd787 zwd788 zwd91 zcd_X6_clear (Nat.le_of_ble_eq_true rfl) (Nat.le_of_ble_eq_true rfl) (Nat.le_refl _) ⟨Nat.le_of_ble_eq_true rfl, Nat.le_of_ble_eq_true rfl⟩ ⟨rfl, zhn_X6_clear⟩ rfl (Nat.le_of_ble_eq_true rfl) rfl (z_contV (fun μ6 h => ?_) h)
    refine s_iload_n A dX10_rises_29 rfl ?_
    obtain ⟨oz7, h⟩ := h
    refine z_if_le (tgt := 64) A dX10_rises_30 (by decide) oz7 (fun c8 => ?_) (fun c8 => ?_)
    · have h := h.1 c8
      refine s_iload_n A dX10_rises_64 rfl ?_
      exact s_iret A dX10_rises_65 hr hlk (Nat.le_of_ble_eq_true rfl) (Nat.le_of_ble_eq_true rfl) ⟨_, rfl, h⟩
    · have h := h.2 c8
      refine s_aload_n A dX10_rises_33 rfl ?_
      refine s_getf (k := 10) (j := 6) (sl := true) (v := zR (some 105)) A dX10_rises_34 rfl zuw_X10 (Nat.le_of_ble_eq_true rfl) zwd344 (by decide) (zk_0 _) rfl ?_
      refine s_iload_n A dX10_rises_37 rfl ?_
      refine s_callV (a := 105) (k := 0) (N := 5) (sl := true) (M := mX0_firstRise) (n := 1) (d := 3) (mc := 0) (ms := 0) (av := [zI x1]) (st := []) A dX10_rises_38 rfl (by decide) (zk_105 _) zwd1040 zwd1041 zwd1042 zwd95 zcd_X0_firstRise (Nat.le_of_ble_eq_true rfl) (Nat.le_of_ble_eq_true rfl) (Nat.le_refl _) ⟨Nat.le_of_ble_eq_true rfl, Nat.le_of_ble_eq_true rfl⟩ ⟨rfl, zhn_X0_firstRise⟩ rfl (Nat.le_of_ble_eq_true rfl) rfl (z_contI (fun v9 μ9 h => ?_) h)
      refine s_istore_n (L' := [some (zR (some 0)), some (zI x1), some (zI v5), some (zI v9)]) A dX10_rises_41 (Nat.le_of_ble_eq_true rfl) rfl ?_
      refine s_aload_n A dX10_rises_42 rfl ?_
      refine s_getf (k := 10) (j := 1) (sl := true) (v := zR (some 3)) A dX10_rises_43 rfl zuw_X10 (Nat.le_of_ble_eq_true rfl) zwd339 (by decide) (zk_0 _) rfl ?_
      refine s_iload_n A dX10_rises_46 rfl ?_
      refine s_iconst A dX10_rises_47 ?_
      obtain ⟨o1, h⟩ := h
      refine z_idiv A dX10_rises_48 o1 ⟨by decide, by decide⟩ ?_
      obtain ⟨oz10, h⟩ := h
      refine z_i2l2 A dX10_rises_49 oz10 ?_
      refine s_callV (a := 3) (k := 6) (N := 2) (sl := true) (M := mX6_append) (n := 1) (d := 0) (mc := 0) (ms := 0) (av := [zL (v9 / 3)]) (st := []) A dX10_rises_50 rfl (by decide) (zk_3 _) zwd790 zwd791 zwd792 zwd91 zcd_X6_append (Nat.le_of_ble_eq_true rfl) (Nat.le_of_ble_eq_true rfl) (Nat.le_refl _) ⟨Nat.le_of_ble_eq_true rfl, Nat.le_of_ble_eq_true rfl⟩ ⟨rfl, zhn_X6_append⟩ rfl (Nat.le_of_ble_eq_true rfl) rfl (z_contV (fun μ11 h => ?_) h)
      refine s_aload_n A dX10_rises_53 rfl ?_
      refine s_getf (k := 10) (j := 1) (sl := true) (v := zR (some 3)) A dX10_rises_54 rfl zuw_X10 (Nat.le_of_ble_eq_true rfl) zwd339 (by decide) (zk_0 _) rfl ?_
      refine s_iload_n A dX10_rises_57 rfl ?_
      refine s_iconst A dX10_rises_58 ?_
      obtain ⟨o1, h⟩ := h
      refine z_irem A dX10_rises_59 o1 ⟨by decide, by decide⟩ ?_
      obtain ⟨oz12, h⟩ := h
      refine z_i2l2 A dX10_rises_60 oz12 ?_
      refine s_callV (a := 3) (k := 6) (N := 2) (sl := true) (M := mX6_append) (n := 1) (d := 0) (mc := 0) (ms := 0) (av := [zL (v9 % 3)]) (st := []) A dX10_rises_61 rfl (by decide) (zk_3 _) zwd790 zwd791 zwd792 zwd91 zcd_X6_append (Nat.le_of_ble_eq_true rfl) (Nat.le_of_ble_eq_true rfl) (Nat.le_refl _) ⟨Nat.le_of_ble_eq_true rfl, Nat.le_of_ble_eq_true rfl⟩ ⟨rfl, zhn_X6_append⟩ rfl (Nat.le_of_ble_eq_true rfl) rfl (z_contV (fun μ13 h => ?_) h)
      refine s_iload_n A dX10_rises_64 rfl ?_
      exact s_iret A dX10_rises_65 hr hlk (Nat.le_of_ble_eq_true rfl) (Nat.le_of_ble_eq_true rfl) ⟨_, rfl, h⟩
  · have h := h.2 c3
    refine s_iconst A dX10_rises_7 ?_
    exact s_iret A dX10_rises_8 hr hlk (Nat.le_of_ble_eq_true rfl) (Nat.le_of_ble_eq_true rfl) ⟨_, rfl, h⟩
theorem eX10_rises {G : zG} {F : Int → zM → Prop} {μ : zM} {x1 : Int} (h : ∀ J, zJ G true (12) 0 0 mX10_rises (zKI F) J → J 0 ([some (zR (some 0)), some (zI x1), none, none], [], μ, 0, 0)) : qX10_rises G x1 μ F :=
  z_body (by decide +kernel) (Nat.le_of_ble_eq_true rfl) h
set_option maxRecDepth 20000 in
theorem rX10_reach_e {G : zG} {F : Int → zM → Prop} {J : Nat → zS → Prop} {μ : zM} (C : zJ G true (12) 0 0 mX10_reach (zKI F) J) (x1 : Int)
    (h : qX10_isBand G true x1 μ (fun v1 μ1 => zin v1 ∧ ((¬ v1 = 0 → qX10_refresh G μ1 (fun μ4 => J 20 ([some (zR (some 0)), some (zI x1), some (zI 0), some (zI 0), some (zI 0), none], [], μ4, 0, 0))) ∧ (v1 = 0 → F (-1) μ1)))) : J 0 ([some (zR (some 0)), some (zI x1), none, none, none, none], [], μ, 0, 0) := by
  obtain ⟨p, e, s, m, args, below, meth, c, A, hml, hr, hlk, hnm, rfl⟩ := C
  refine s_iload_n A dX10_reach_0 rfl ?_
  refine s_callS (M := mX10_isBand) (n := 1) (d := 2) (mc := 0) (ms := 0) (av := [zI x1]) (st := []) A dX10_reach_1 zwd1048 zwd1049 zwd89 zcd_X10_isBand (Nat.le_of_ble_eq_true rfl) (Nat.le_of_ble_eq_true rfl) (Nat.le_refl _) ⟨Nat.le_of_ble_eq_true rfl, Nat.le_of_ble_eq_true rfl⟩ zhn_X10_isBand rfl (Nat.le_of_ble_eq_true rfl) rfl (z_contI (fun v1 μ1 h => ?_) h)
  obtain ⟨oz2, h⟩ := h
  refine z_if_ne (tgt := 9) A dX10_reach_4 (by decide) oz2 (fun c3 => ?_) (fun c3 => ?_)
  · have h := h.1 c3
    refine s_aload_n A dX10_reach_9 rfl ?_
    refine s_callV (a := 0) (k := 10) (N := 15) (sl := true) (M := mX10_refresh) (n := 0) (d := 11) (mc := 0) (ms := 0) (av := []) (st := []) A dX10_reach_10 rfl (by decide) (zk_0 _) zwd813 zwd815 zwd5 zwd89 zcd_X10_refresh (Nat.le_of_ble_eq_true rfl) (Nat.le_of_ble_eq_true rfl) (Nat.le_refl _) ⟨Nat.le_of_ble_eq_true rfl, Nat.le_of_ble_eq_true rfl⟩ ⟨rfl, zhn_X10_refresh⟩ rfl (Nat.le_of_ble_eq_true rfl) rfl (z_contV (fun μ4 h => ?_) h)
    refine s_iconst A dX10_reach_13 ?_
    refine s_istore_n (L' := [some (zR (some 0)), some (zI x1), some (zI 0), none, none, none]) A dX10_reach_14 (Nat.le_of_ble_eq_true rfl) rfl ?_
    refine s_iconst A dX10_reach_15 ?_
    refine s_istore_n (L' := [some (zR (some 0)), some (zI x1), some (zI 0), some (zI 0), none, none]) A dX10_reach_16 (Nat.le_of_ble_eq_true rfl) rfl ?_
    refine s_iconst A dX10_reach_17 ?_
    refine s_istore (L' := [some (zR (some 0)), some (zI x1), some (zI 0), some (zI 0), some (zI 0), none]) A dX10_reach_18 (Nat.le_of_ble_eq_true rfl) rfl ?_
    exact h
  · have h := h.2 c3
    refine s_iconst A dX10_reach_7 ?_
    exact s_iret A dX10_reach_8 hr hlk (Nat.le_of_ble_eq_true rfl) (Nat.le_of_ble_eq_true rfl) ⟨_, rfl, h⟩
set_option maxRecDepth 20000 in
theorem rX10_reach_20 {G : zG} {F : Int → zM → Prop} {J : Nat → zS → Prop} {μ : zM} (C : zJ G true (12) 0 0 mX10_reach (zKI F) J) (x1 : Int) (x2 : Int) (x3 : Int) (x4 : Int)
    (h : zin x4 ∧ zin (zi μ 125 1) ∧ ((zi μ 125 1 ≤ x4 → qX6_clear G μ (fun μ4 => qX0_number G 105 x2 x1 μ4 (fun v5 μ5 => zin v5 ∧ qX6_append G v5 μ5 (fun μ7 => qX10_codeOf G true x2 μ7 (fun v8 μ8 => zin v8 ∧ qX6_append G v8 μ8 (fun μ10 => qX0_number G 105 x3 x1 μ10 (fun v11 μ11 => zin v11 ∧ qX6_append G v11 μ11 (fun μ13 => qX10_codeOf G true x3 μ13 (fun v14 μ14 => zin v14 ∧ qX6_append G v14 μ14 (fun μ16 => qX0_number G 105 x3 x1 μ16 (fun v17 μ17 => qX0_number G 105 x2 x1 μ17 (fun v18 μ18 => F (v17 - v18) μ18)))))))))))) ∧ (¬ (zi μ 125 1 ≤ x4) → (0 ≤ x4 ∧ x4 < 6561) ∧ qX0_number G 105 (zi μ 126 x4) x1 μ (fun v20 μ20 => qX0_number G 105 x2 x1 μ20 (fun v21 μ21 => zin v20 ∧ zin v21 ∧ ((v21 ≤ v20 → qX0_number G 105 (zi μ 126 x4) x1 μ21 (fun v25 μ25 => qX0_number G 105 x3 x1 μ25 (fun v26 μ26 => zin v25 ∧ zin v26 ∧ ((v25 ≤ v26 → J 20 ([some (zR (some 0)), some (zI x1), some (zI x2), some (zI x3), some (zI (x4 + 1)), none], [], μ26, 0, 0)) ∧ (¬ (v25 ≤ v26) → J 20 ([some (zR (some 0)), some (zI x1), some (zI x2), some (zI (zi μ 126 x4)), some (zI (x4 + 1)), none], [], μ26, 0, 0)))))) ∧ (¬ (v21 ≤ v20) → qX0_number G 105 (zi μ 126 x4) x1 μ21 (fun v30 μ30 => qX0_number G 105 x3 x1 μ30 (fun v31 μ31 => zin v30 ∧ zin v31 ∧ ((v30 ≤ v31 → J 20 ([some (zR (some 0)), some (zI x1), some (zI (zi μ 126 x4)), some (zI x3), some (zI (x4 + 1)), none], [], μ31, 0, 0)) ∧ (¬ (v30 ≤ v31) → J 20 ([some (zR (some 0)), some (zI x1), some (zI (zi μ 126 x4)), some (zI (zi μ 126 x4)), some (zI (x4 + 1)), none], [], μ31, 0, 0)))))))))))) : J 20 ([some (zR (some 0)), some (zI x1), some (zI x2), some (zI x3), some (zI x4), none], [], μ, 0, 0) := by
  obtain ⟨p, e, s, m, args, below, meth, c, A, hml, hr, hlk, hnm, rfl⟩ := C
  refine s_iload A dX10_reach_20 rfl ?_
  refine s_aload_n A dX10_reach_22 rfl ?_
  refine s_getf (k := 10) (j := 9) (sl := true) (v := zR (some 125)) A dX10_reach_23 rfl zuw_X10 (Nat.le_of_ble_eq_true rfl) zwd347 (by decide) (zk_0 _) rfl ?_
  refine s_getf (k := 4) (j := 1) (sl := true) (v := zI (zi μ 125 1)) A dX10_reach_26 rfl zuw_X4 (Nat.le_of_ble_eq_true rfl) zwd280 (by decide) (zk_125 _) rfl ?_
  obtain ⟨oz1, h⟩ := h
  obtain ⟨oz2, h⟩ := h
  refine z_icmp_ge (tgt := 100) A dX10_reach_29 (by decide) oz1 oz2 (fun c3 => ?_) (fun c3 => ?_)
  · have h := h.1 c3
    refine s_aload_n A dX10_reach_100 rfl ?_
    refine s_getf (k := 10) (j := 1) (sl := true) (v := zR (some 3)) A dX10_reach_101 rfl zuw_X10 (Nat.le_of_ble_eq_true rfl) zwd339 (by decide) (zk_0 _) rfl ?_
    refine s_callV (a := 3) (k := 6) (N := 2) (sl := true) (M := mX6_clear) (n := 0) (d := 0) (mc := 0) (ms := 0) (av := []) (st := []) A dX10_reach_104 rfl (by decide) (zk_3 _) zwd786 zwd787 zwd788 zwd91 zcd_X6_clear (Nat.le_of_ble_eq_true rfl) (Nat.le_of_ble_eq_true rfl) (Nat.le_refl _) ⟨Nat.le_of_ble_eq_true rfl, Nat.le_of_ble_eq_true rfl⟩ ⟨rfl, zhn_X6_clear⟩ rfl (Nat.le_of_ble_eq_true rfl) rfl (z_contV (fun μ4 h => ?_) h)
    refine s_aload_n A dX10_reach_107 rfl ?_
    refine s_getf (k := 10) (j := 1) (sl := true) (v := zR (some 3)) A dX10_reach_108 rfl zuw_X10 (Nat.le_of_ble_eq_true rfl) zwd339 (by decide) (zk_0 _) rfl ?_
    refine s_aload_n A dX10_reach_111 rfl ?_
    refine s_getf (k := 10) (j := 6) (sl := true) (v := zR (some 105)) A dX10_reach_112 rfl zuw_X10 (Nat.le_of_ble_eq_true rfl) zwd344 (by decide) (zk_0 _) rfl ?_
    refine s_iload_n A dX10_reach_115 rfl ?_
    refine s_iload_n A dX10_reach_116 rfl ?_
    refine s_callV (a := 105) (k := 0) (N := 5) (sl := true) (M := mX0_number) (n := 2) (d := 0) (mc := 0) (ms := 0) (av := [zI x2, zI x1]) (st := [zR (some 3)]) A dX10_reach_117 rfl (by decide) (zk_105 _) zwd863 zwd864 zwd865 zwd95 zcd_X0_number (Nat.le_of_ble_eq_true rfl) (Nat.le_of_ble_eq_true rfl) (Nat.le_refl _) ⟨Nat.le_of_ble_eq_true rfl, Nat.le_of_ble_eq_true rfl⟩ ⟨rfl, zhn_X0_number⟩ rfl (Nat.le_of_ble_eq_true rfl) rfl (z_contI (fun v5 μ5 h => ?_) h)
    obtain ⟨oz6, h⟩ := h
    refine z_i2l2 A dX10_reach_120 oz6 ?_
    refine s_callV (a := 3) (k := 6) (N := 2) (sl := true) (M := mX6_append) (n := 1) (d := 0) (mc := 0) (ms := 0) (av := [zL v5]) (st := []) A dX10_reach_121 rfl (by decide) (zk_3 _) zwd790 zwd791 zwd792 zwd91 zcd_X6_append (Nat.le_of_ble_eq_true rfl) (Nat.le_of_ble_eq_true rfl) (Nat.le_refl _) ⟨Nat.le_of_ble_eq_true rfl, Nat.le_of_ble_eq_true rfl⟩ ⟨rfl, zhn_X6_append⟩ rfl (Nat.le_of_ble_eq_true rfl) rfl (z_contV (fun μ7 h => ?_) h)
    refine s_aload_n A dX10_reach_124 rfl ?_
    refine s_getf (k := 10) (j := 1) (sl := true) (v := zR (some 3)) A dX10_reach_125 rfl zuw_X10 (Nat.le_of_ble_eq_true rfl) zwd339 (by decide) (zk_0 _) rfl ?_
    refine s_iload_n A dX10_reach_128 rfl ?_
    refine s_callS (M := mX10_codeOf) (n := 1) (d := 2) (mc := 0) (ms := 0) (av := [zI x2]) (st := [zR (some 3)]) A dX10_reach_129 zwd893 zwd894 zwd89 zcd_X10_codeOf (Nat.le_of_ble_eq_true rfl) (Nat.le_of_ble_eq_true rfl) (Nat.le_refl _) ⟨Nat.le_of_ble_eq_true rfl, Nat.le_of_ble_eq_true rfl⟩ zhn_X10_codeOf rfl (Nat.le_of_ble_eq_true rfl) rfl (z_contI (fun v8 μ8 h => ?_) h)
    obtain ⟨oz9, h⟩ := h
    refine z_i2l2 A dX10_reach_132 oz9 ?_
    refine s_callV (a := 3) (k := 6) (N := 2) (sl := true) (M := mX6_append) (n := 1) (d := 0) (mc := 0) (ms := 0) (av := [zL v8]) (st := []) A dX10_reach_133 rfl (by decide) (zk_3 _) zwd790 zwd791 zwd792 zwd91 zcd_X6_append (Nat.le_of_ble_eq_true rfl) (Nat.le_of_ble_eq_true rfl) (Nat.le_refl _) ⟨Nat.le_of_ble_eq_true rfl, Nat.le_of_ble_eq_true rfl⟩ ⟨rfl, zhn_X6_append⟩ rfl (Nat.le_of_ble_eq_true rfl) rfl (z_contV (fun μ10 h => ?_) h)
    refine s_aload_n A dX10_reach_136 rfl ?_
    refine s_getf (k := 10) (j := 1) (sl := true) (v := zR (some 3)) A dX10_reach_137 rfl zuw_X10 (Nat.le_of_ble_eq_true rfl) zwd339 (by decide) (zk_0 _) rfl ?_
    refine s_aload_n A dX10_reach_140 rfl ?_
    refine s_getf (k := 10) (j := 6) (sl := true) (v := zR (some 105)) A dX10_reach_141 rfl zuw_X10 (Nat.le_of_ble_eq_true rfl) zwd344 (by decide) (zk_0 _) rfl ?_
    refine s_iload_n A dX10_reach_144 rfl ?_
    refine s_iload_n A dX10_reach_145 rfl ?_
    refine s_callV (a := 105) (k := 0) (N := 5) (sl := true) (M := mX0_number) (n := 2) (d := 0) (mc := 0) (ms := 0) (av := [zI x3, zI x1]) (st := [zR (some 3)]) A dX10_reach_146 rfl (by decide) (zk_105 _) zwd863 zwd864 zwd865 zwd95 zcd_X0_number (Nat.le_of_ble_eq_true rfl) (Nat.le_of_ble_eq_true rfl) (Nat.le_refl _) ⟨Nat.le_of_ble_eq_true rfl, Nat.le_of_ble_eq_true rfl⟩ ⟨rfl, zhn_X0_number⟩ rfl (Nat.le_of_ble_eq_true rfl) rfl (z_contI (fun v11 μ11 h => ?_) h)
    obtain ⟨oz12, h⟩ := h
    refine z_i2l2 A dX10_reach_149 oz12 ?_
    refine s_callV (a := 3) (k := 6) (N := 2) (sl := true) (M := mX6_append) (n := 1) (d := 0) (mc := 0) (ms := 0) (av := [zL v11]) (st := []) A dX10_reach_150 rfl (by decide) (zk_3 _) zwd790 zwd791 zwd792 zwd91 zcd_X6_append (Nat.le_of_ble_eq_true rfl) (Nat.le_of_ble_eq_true rfl) (Nat.le_refl _) ⟨Nat.le_of_ble_eq_true rfl, Nat.le_of_ble_eq_true rfl⟩ ⟨rfl, zhn_X6_append⟩ rfl (Nat.le_of_ble_eq_true rfl) rfl (z_contV (fun μ13 h => ?_) h)
    refine s_aload_n A dX10_reach_153 rfl ?_
    refine s_getf (k := 10) (j := 1) (sl := true) (v := zR (some 3)) A dX10_reach_154 rfl zuw_X10 (Nat.le_of_ble_eq_true rfl) zwd339 (by decide) (zk_0 _) rfl ?_
    refine s_iload_n A dX10_reach_157 rfl ?_
    refine s_callS (M := mX10_codeOf) (n := 1) (d := 2) (mc := 0) (ms := 0) (av := [zI x3]) (st := [zR (some 3)]) A dX10_reach_158 zwd893 zwd894 zwd89 zcd_X10_codeOf (Nat.le_of_ble_eq_true rfl) (Nat.le_of_ble_eq_true rfl) (Nat.le_refl _) ⟨Nat.le_of_ble_eq_true rfl, Nat.le_of_ble_eq_true rfl⟩ zhn_X10_codeOf rfl (Nat.le_of_ble_eq_true rfl) rfl (z_contI (fun v14 μ14 h => ?_) h)
    obtain ⟨oz15, h⟩ := h
    refine z_i2l2 A dX10_reach_161 oz15 ?_
    refine s_callV (a := 3) (k := 6) (N := 2) (sl := true) (M := mX6_append) (n := 1) (d := 0) (mc := 0) (ms := 0) (av := [zL v14]) (st := []) A dX10_reach_162 rfl (by decide) (zk_3 _) zwd790 zwd791 zwd792 zwd91 zcd_X6_append (Nat.le_of_ble_eq_true rfl) (Nat.le_of_ble_eq_true rfl) (Nat.le_refl _) ⟨Nat.le_of_ble_eq_true rfl, Nat.le_of_ble_eq_true rfl⟩ ⟨rfl, zhn_X6_append⟩ rfl (Nat.le_of_ble_eq_true rfl) rfl (z_contV (fun μ16 h => ?_) h)
    refine s_aload_n A dX10_reach_165 rfl ?_
    refine s_getf (k := 10) (j := 6) (sl := true) (v := zR (some 105)) A dX10_reach_166 rfl zuw_X10 (Nat.le_of_ble_eq_true rfl) zwd344 (by decide) (zk_0 _) rfl ?_
    refine s_iload_n A dX10_reach_169 rfl ?_
    refine s_iload_n A dX10_reach_170 rfl ?_
    refine s_callV (a := 105) (k := 0) (N := 5) (sl := true) (M := mX0_number) (n := 2) (d := 0) (mc := 0) (ms := 0) (av := [zI x3, zI x1]) (st := []) A dX10_reach_171 rfl (by decide) (zk_105 _) zwd863 zwd864 zwd865 zwd95 zcd_X0_number (Nat.le_of_ble_eq_true rfl) (Nat.le_of_ble_eq_true rfl) (Nat.le_refl _) ⟨Nat.le_of_ble_eq_true rfl, Nat.le_of_ble_eq_true rfl⟩ ⟨rfl, zhn_X0_number⟩ rfl (Nat.le_of_ble_eq_true rfl) rfl (z_contI (fun v17 μ17 h => ?_) h)
    refine s_aload_n A dX10_reach_174 rfl ?_
    refine s_getf (k := 10) (j := 6) (sl := true) (v := zR (some 105)) A dX10_reach_175 rfl zuw_X10 (Nat.le_of_ble_eq_true rfl) zwd344 (by decide) (zk_0 _) rfl ?_
    refine s_iload_n A dX10_reach_178 rfl ?_
    refine s_iload_n A dX10_reach_179 rfl ?_
    refine s_callV (a := 105) (k := 0) (N := 5) (sl := true) (M := mX0_number) (n := 2) (d := 0) (mc := 0) (ms := 0) (av := [zI x2, zI x1]) (st := [zI v17]) A dX10_reach_180 rfl (by decide) (zk_105 _) zwd863 zwd864 zwd865 zwd95 zcd_X0_number (Nat.le_of_ble_eq_true rfl) (Nat.le_of_ble_eq_true rfl) (Nat.le_refl _) ⟨Nat.le_of_ble_eq_true rfl, Nat.le_of_ble_eq_true rfl⟩ ⟨rfl, zhn_X0_number⟩ rfl (Nat.le_of_ble_eq_true rfl) rfl (z_contI (fun v18 μ18 h => ?_) h)
    refine s_isub A dX10_reach_183 ?_
    exact s_iret A dX10_reach_184 hr hlk (Nat.le_of_ble_eq_true rfl) (Nat.le_of_ble_eq_true rfl) ⟨_, rfl, h⟩
  · have h := h.2 c3
    refine s_aload_n A dX10_reach_32 rfl ?_
    refine s_getf (k := 10) (j := 9) (sl := true) (v := zR (some 125)) A dX10_reach_33 rfl zuw_X10 (Nat.le_of_ble_eq_true rfl) zwd347 (by decide) (zk_0 _) rfl ?_
    refine s_getf (k := 4) (j := 0) (sl := true) (v := zR (some 126)) A dX10_reach_36 rfl zuw_X4 (Nat.le_of_ble_eq_true rfl) zwd278 (by decide) (zk_125 _) rfl ?_
    refine s_iload A dX10_reach_39 rfl ?_
    obtain ⟨ox19, h⟩ := h
    refine z_iald A dX10_reach_41 (zk_126 _) (Nat.le_of_ble_eq_true rfl) ox19 ?_
    refine s_istore (L' := [some (zR (some 0)), some (zI x1), some (zI x2), some (zI x3), some (zI x4), some (zI (zi μ 126 x4))]) A dX10_reach_42 (Nat.le_of_ble_eq_true rfl) rfl ?_
    refine s_aload_n A dX10_reach_44 rfl ?_
    refine s_getf (k := 10) (j := 6) (sl := true) (v := zR (some 105)) A dX10_reach_45 rfl zuw_X10 (Nat.le_of_ble_eq_true rfl) zwd344 (by decide) (zk_0 _) rfl ?_
    refine s_iload A dX10_reach_48 rfl ?_
    refine s_iload_n A dX10_reach_50 rfl ?_
    refine s_callV (a := 105) (k := 0) (N := 5) (sl := true) (M := mX0_number) (n := 2) (d := 0) (mc := 0) (ms := 0) (av := [zI (zi μ 126 x4), zI x1]) (st := []) A dX10_reach_51 rfl (by decide) (zk_105 _) zwd863 zwd864 zwd865 zwd95 zcd_X0_number (Nat.le_of_ble_eq_true rfl) (Nat.le_of_ble_eq_true rfl) (Nat.le_refl _) ⟨Nat.le_of_ble_eq_true rfl, Nat.le_of_ble_eq_true rfl⟩ ⟨rfl, zhn_X0_number⟩ rfl (Nat.le_of_ble_eq_true rfl) rfl (z_contI (fun v20 μ20 h => ?_) h)
    refine s_aload_n A dX10_reach_54 rfl ?_
    refine s_getf (k := 10) (j := 6) (sl := true) (v := zR (some 105)) A dX10_reach_55 rfl zuw_X10 (Nat.le_of_ble_eq_true rfl) zwd344 (by decide) (zk_0 _) rfl ?_
    refine s_iload_n A dX10_reach_58 rfl ?_
    refine s_iload_n A dX10_reach_59 rfl ?_
    refine s_callV (a := 105) (k := 0) (N := 5) (sl := true) (M := mX0_number) (n := 2) (d := 0) (mc := 0) (ms := 0) (av := [zI x2, zI x1]) (st := [zI v20]) A dX10_reach_60 rfl (by decide) (zk_105 _) zwd863 zwd864 zwd865 zwd95 zcd_X0_number (Nat.le_of_ble_eq_true rfl) (Nat.le_of_ble_eq_true rfl) (Nat.le_refl _) ⟨Nat.le_of_ble_eq_true rfl, Nat.le_of_ble_eq_true rfl⟩ ⟨rfl, zhn_X0_number⟩ rfl (Nat.le_of_ble_eq_true rfl) rfl (z_contI (fun v21 μ21 h => ?_) h)
    obtain ⟨oz22, h⟩ := h
    obtain ⟨oz23, h⟩ := h
    refine z_icmp_ge (tgt := 69) A dX10_reach_63 (by decide) oz22 oz23 (fun c24 => ?_) (fun c24 => ?_)
    · have h := h.1 c24
      refine s_aload_n A dX10_reach_69 rfl ?_
      refine s_getf (k := 10) (j := 6) (sl := true) (v := zR (some 105)) A dX10_reach_70 rfl zuw_X10 (Nat.le_of_ble_eq_true rfl) zwd344 (by decide) (zk_0 _) rfl ?_
      refine s_iload A dX10_reach_73 rfl ?_
      refine s_iload_n A dX10_reach_75 rfl ?_
      refine s_callV (a := 105) (k := 0) (N := 5) (sl := true) (M := mX0_number) (n := 2) (d := 0) (mc := 0) (ms := 0) (av := [zI (zi μ 126 x4), zI x1]) (st := []) A dX10_reach_76 rfl (by decide) (zk_105 _) zwd863 zwd864 zwd865 zwd95 zcd_X0_number (Nat.le_of_ble_eq_true rfl) (Nat.le_of_ble_eq_true rfl) (Nat.le_refl _) ⟨Nat.le_of_ble_eq_true rfl, Nat.le_of_ble_eq_true rfl⟩ ⟨rfl, zhn_X0_number⟩ rfl (Nat.le_of_ble_eq_true rfl) rfl (z_contI (fun v25 μ25 h => ?_) h)
      refine s_aload_n A dX10_reach_79 rfl ?_
      refine s_getf (k := 10) (j := 6) (sl := true) (v := zR (some 105)) A dX10_reach_80 rfl zuw_X10 (Nat.le_of_ble_eq_true rfl) zwd344 (by decide) (zk_0 _) rfl ?_
      refine s_iload_n A dX10_reach_83 rfl ?_
      refine s_iload_n A dX10_reach_84 rfl ?_
      refine s_callV (a := 105) (k := 0) (N := 5) (sl := true) (M := mX0_number) (n := 2) (d := 0) (mc := 0) (ms := 0) (av := [zI x3, zI x1]) (st := [zI v25]) A dX10_reach_85 rfl (by decide) (zk_105 _) zwd863 zwd864 zwd865 zwd95 zcd_X0_number (Nat.le_of_ble_eq_true rfl) (Nat.le_of_ble_eq_true rfl) (Nat.le_refl _) ⟨Nat.le_of_ble_eq_true rfl, Nat.le_of_ble_eq_true rfl⟩ ⟨rfl, zhn_X0_number⟩ rfl (Nat.le_of_ble_eq_true rfl) rfl (z_contI (fun v26 μ26 h => ?_) h)
      obtain ⟨oz27, h⟩ := h
      obtain ⟨oz28, h⟩ := h
      refine z_icmp_le (tgt := 94) A dX10_reach_88 (by decide) oz27 oz28 (fun c29 => ?_) (fun c29 => ?_)
      · have h := h.1 c29
        refine s_iinc (L' := [some (zR (some 0)), some (zI x1), some (zI x2), some (zI x3), some (zI (x4 + 1)), some (zI (zi μ 126 x4))]) A dX10_reach_94 rfl rfl ?_
        refine s_goto (tgt := 20) A dX10_reach_97 (by decide) ?_
        exact z_wk (L' := [some (zR (some 0)), some (zI x1), some (zI x2), some (zI x3), some (zI (x4 + 1)), none]) ⟨rfl, rfl, rfl, rfl, rfl, trivial⟩ h
      · have h := h.2 c29
        refine s_iload A dX10_reach_91 rfl ?_
        refine s_istore_n (L' := [some (zR (some 0)), some (zI x1), some (zI x2), some (zI (zi μ 126 x4)), some (zI x4), some (zI (zi μ 126 x4))]) A dX10_reach_93 (Nat.le_of_ble_eq_true rfl) rfl ?_
        refine s_iinc (L' := [some (zR (some 0)), some (zI x1), some (zI x2), some (zI (zi μ 126 x4)), some (zI (x4 + 1)), some (zI (zi μ 126 x4))]) A dX10_reach_94 rfl rfl ?_
        refine s_goto (tgt := 20) A dX10_reach_97 (by decide) ?_
        exact z_wk (L' := [some (zR (some 0)), some (zI x1), some (zI x2), some (zI (zi μ 126 x4)), some (zI (x4 + 1)), none]) ⟨rfl, rfl, rfl, rfl, rfl, trivial⟩ h
    · have h := h.2 c24
      refine s_iload A dX10_reach_66 rfl ?_
      refine s_istore_n (L' := [some (zR (some 0)), some (zI x1), some (zI (zi μ 126 x4)), some (zI x3), some (zI x4), some (zI (zi μ 126 x4))]) A dX10_reach_68 (Nat.le_of_ble_eq_true rfl) rfl ?_
      refine s_aload_n A dX10_reach_69 rfl ?_
      refine s_getf (k := 10) (j := 6) (sl := true) (v := zR (some 105)) A dX10_reach_70 rfl zuw_X10 (Nat.le_of_ble_eq_true rfl) zwd344 (by decide) (zk_0 _) rfl ?_
      refine s_iload A dX10_reach_73 rfl ?_
      refine s_iload_n A dX10_reach_75 rfl ?_
      refine s_callV (a := 105) (k := 0) (N := 5) (sl := true) (M := mX0_number) (n := 2) (d := 0) (mc := 0) (ms := 0) (av := [zI (zi μ 126 x4), zI x1]) (st := []) A dX10_reach_76 rfl (by decide) (zk_105 _) zwd863 zwd864 zwd865 zwd95 zcd_X0_number (Nat.le_of_ble_eq_true rfl) (Nat.le_of_ble_eq_true rfl) (Nat.le_refl _) ⟨Nat.le_of_ble_eq_true rfl, Nat.le_of_ble_eq_true rfl⟩ ⟨rfl, zhn_X0_number⟩ rfl (Nat.le_of_ble_eq_true rfl) rfl (z_contI (fun v30 μ30 h => ?_) h)
      refine s_aload_n A dX10_reach_79 rfl ?_
      refine s_getf (k := 10) (j := 6) (sl := true) (v := zR (some 105)) A dX10_reach_80 rfl zuw_X10 (Nat.le_of_ble_eq_true rfl) zwd344 (by decide) (zk_0 _) rfl ?_
      refine s_iload_n A dX10_reach_83 rfl ?_
      refine s_iload_n A dX10_reach_84 rfl ?_
      refine s_callV (a := 105) (k := 0) (N := 5) (sl := true) (M := mX0_number) (n := 2) (d := 0) (mc := 0) (ms := 0) (av := [zI x3, zI x1]) (st := [zI v30]) A dX10_reach_85 rfl (by decide) (zk_105 _) zwd863 zwd864 zwd865 zwd95 zcd_X0_number (Nat.le_of_ble_eq_true rfl) (Nat.le_of_ble_eq_true rfl) (Nat.le_refl _) ⟨Nat.le_of_ble_eq_true rfl, Nat.le_of_ble_eq_true rfl⟩ ⟨rfl, zhn_X0_number⟩ rfl (Nat.le_of_ble_eq_true rfl) rfl (z_contI (fun v31 μ31 h => ?_) h)
      obtain ⟨oz32, h⟩ := h
      obtain ⟨oz33, h⟩ := h
      refine z_icmp_le (tgt := 94) A dX10_reach_88 (by decide) oz32 oz33 (fun c34 => ?_) (fun c34 => ?_)
      · have h := h.1 c34
        refine s_iinc (L' := [some (zR (some 0)), some (zI x1), some (zI (zi μ 126 x4)), some (zI x3), some (zI (x4 + 1)), some (zI (zi μ 126 x4))]) A dX10_reach_94 rfl rfl ?_
        refine s_goto (tgt := 20) A dX10_reach_97 (by decide) ?_
        exact z_wk (L' := [some (zR (some 0)), some (zI x1), some (zI (zi μ 126 x4)), some (zI x3), some (zI (x4 + 1)), none]) ⟨rfl, rfl, rfl, rfl, rfl, trivial⟩ h
      · have h := h.2 c34
        refine s_iload A dX10_reach_91 rfl ?_
        refine s_istore_n (L' := [some (zR (some 0)), some (zI x1), some (zI (zi μ 126 x4)), some (zI (zi μ 126 x4)), some (zI x4), some (zI (zi μ 126 x4))]) A dX10_reach_93 (Nat.le_of_ble_eq_true rfl) rfl ?_
        refine s_iinc (L' := [some (zR (some 0)), some (zI x1), some (zI (zi μ 126 x4)), some (zI (zi μ 126 x4)), some (zI (x4 + 1)), some (zI (zi μ 126 x4))]) A dX10_reach_94 rfl rfl ?_
        refine s_goto (tgt := 20) A dX10_reach_97 (by decide) ?_
        exact z_wk (L' := [some (zR (some 0)), some (zI x1), some (zI (zi μ 126 x4)), some (zI (zi μ 126 x4)), some (zI (x4 + 1)), none]) ⟨rfl, rfl, rfl, rfl, rfl, trivial⟩ h
theorem eX10_reach {G : zG} {F : Int → zM → Prop} {μ : zM} {x1 : Int} (h : ∀ J, zJ G true (12) 0 0 mX10_reach (zKI F) J → J 0 ([some (zR (some 0)), some (zI x1), none, none, none, none], [], μ, 0, 0)) : qX10_reach G x1 μ F :=
  z_body (by decide +kernel) (Nat.le_of_ble_eq_true rfl) h
set_option maxRecDepth 20000 in
theorem rX10_firstAlike_e {G : zG} {F : Int → zM → Prop} {J : Nat → zS → Prop} {μ : zM} (C : zJ G true (3) 0 0 mX10_firstAlike (zKI F) J) (x1 : Int)
    (h : qX0_packed G 105 x1 μ (fun v1 μ1 => (0 ≤ v1 ∧ v1 < 2147483648) ∧ (0 ≤ v1 % 6561 ∧ v1 % 6561 < 6561) ∧ J 23 ([some (zR (some 0)), some (zI x1), some (zI (v1 % 6561)), some (zI (zi μ1 134 (v1 % 6561))), some (zI 0)], [], μ1, 0, 0))) : J 0 ([some (zR (some 0)), some (zI x1), none, none, none], [], μ, 0, 0) := by
  obtain ⟨p, e, s, m, args, below, meth, c, A, hml, hr, hlk, hnm, rfl⟩ := C
  refine s_aload_n A dX10_firstAlike_0 rfl ?_
  refine s_getf (k := 10) (j := 6) (sl := true) (v := zR (some 105)) A dX10_firstAlike_1 rfl zuw_X10 (Nat.le_of_ble_eq_true rfl) zwd344 (by decide) (zk_0 _) rfl ?_
  refine s_iload_n A dX10_firstAlike_4 rfl ?_
  refine s_callV (a := 105) (k := 0) (N := 5) (sl := true) (M := mX0_packed) (n := 1) (d := 2) (mc := 0) (ms := 0) (av := [zI x1]) (st := []) A dX10_firstAlike_5 rfl (by decide) (zk_105 _) zwd1059 zwd1060 zwd1061 zwd95 zcd_X0_packed (Nat.le_of_ble_eq_true rfl) (Nat.le_of_ble_eq_true rfl) (Nat.le_refl _) ⟨Nat.le_of_ble_eq_true rfl, Nat.le_of_ble_eq_true rfl⟩ ⟨rfl, zhn_X0_packed⟩ rfl (Nat.le_of_ble_eq_true rfl) rfl (z_contI (fun v1 μ1 h => ?_) h)
  refine s_sipush A dX10_firstAlike_8 rfl ?_
  obtain ⟨o1, h⟩ := h
  refine z_irem A dX10_firstAlike_11 o1 ⟨by decide, by decide⟩ ?_
  refine s_istore_n (L' := [some (zR (some 0)), some (zI x1), some (zI (v1 % 6561)), none, none]) A dX10_firstAlike_12 (Nat.le_of_ble_eq_true rfl) rfl ?_
  refine s_aload_n A dX10_firstAlike_13 rfl ?_
  refine s_getf (k := 10) (j := 12) (sl := true) (v := zR (some 134)) A dX10_firstAlike_14 rfl zuw_X10 (Nat.le_of_ble_eq_true rfl) zwd350 (by decide) (zk_0 _) rfl ?_
  refine s_iload_n A dX10_firstAlike_17 rfl ?_
  obtain ⟨ox2, h⟩ := h
  refine z_iald A dX10_firstAlike_18 (zk_134 _) (Nat.le_of_ble_eq_true rfl) ox2 ?_
  refine s_istore_n (L' := [some (zR (some 0)), some (zI x1), some (zI (v1 % 6561)), some (zI (zi μ1 134 (v1 % 6561))), none]) A dX10_firstAlike_19 (Nat.le_of_ble_eq_true rfl) rfl ?_
  refine s_iconst A dX10_firstAlike_20 ?_
  refine s_istore (L' := [some (zR (some 0)), some (zI x1), some (zI (v1 % 6561)), some (zI (zi μ1 134 (v1 % 6561))), some (zI 0)]) A dX10_firstAlike_21 (Nat.le_of_ble_eq_true rfl) rfl ?_
  exact h
set_option maxRecDepth 20000 in
theorem rX10_firstAlike_23 {G : zG} {F : Int → zM → Prop} {J : Nat → zS → Prop} {μ : zM} (C : zJ G true (3) 0 0 mX10_firstAlike (zKI F) J) (x1 : Int) (x2 : Int) (x3 : Int) (x4 : Int)
    (h : zin x4 ∧ ((6561 ≤ x4 → (0 ≤ x2 ∧ x2 < 6561) ∧ (0 ≤ x1 ∧ x1 < 6561) ∧ F x1 (zup (zup μ 135 x1 (zi μ 134 x2)) 134 x2 x1)) ∧ (¬ (6561 ≤ x4) → zin x3 ∧ ((x3 < 0 → (0 ≤ x2 ∧ x2 < 6561) ∧ (0 ≤ x1 ∧ x1 < 6561) ∧ F x1 (zup (zup μ 135 x1 (zi μ 134 x2)) 134 x2 x1)) ∧ (¬ (x3 < 0) → qX0_packed G 105 x3 μ (fun v9 μ9 => qX0_packed G 105 x1 μ9 (fun v10 μ10 => zin v9 ∧ zin v10 ∧ ((¬ v9 = v10 → (0 ≤ x3 ∧ x3 < 6561) ∧ J 23 ([some (zR (some 0)), some (zI x1), some (zI x2), some (zI (zi μ10 135 x3)), some (zI (x4 + 1))], [], μ10, 0, 0)) ∧ (v9 = v10 → F x3 μ10))))))))) : J 23 ([some (zR (some 0)), some (zI x1), some (zI x2), some (zI x3), some (zI x4)], [], μ, 0, 0) := by
  obtain ⟨p, e, s, m, args, below, meth, c, A, hml, hr, hlk, hnm, rfl⟩ := C
  refine s_iload A dX10_firstAlike_23 rfl ?_
  refine s_sipush A dX10_firstAlike_25 rfl ?_
  obtain ⟨oz1, h⟩ := h
  refine z_icmp_ge (tgt := 69) A dX10_firstAlike_28 (by decide) oz1 ⟨by decide, by decide⟩ (fun c2 => ?_) (fun c2 => ?_)
  · have h := h.1 c2
    refine s_aload_n A dX10_firstAlike_69 rfl ?_
    refine s_getf (k := 10) (j := 13) (sl := true) (v := zR (some 135)) A dX10_firstAlike_70 rfl zuw_X10 (Nat.le_of_ble_eq_true rfl) zwd351 (by decide) (zk_0 _) rfl ?_
    refine s_iload_n A dX10_firstAlike_73 rfl ?_
    refine s_aload_n A dX10_firstAlike_74 rfl ?_
    refine s_getf (k := 10) (j := 12) (sl := true) (v := zR (some 134)) A dX10_firstAlike_75 rfl zuw_X10 (Nat.le_of_ble_eq_true rfl) zwd350 (by decide) (zk_0 _) rfl ?_
    refine s_iload_n A dX10_firstAlike_78 rfl ?_
    obtain ⟨ox3, h⟩ := h
    refine z_iald A dX10_firstAlike_79 (zk_134 _) (Nat.le_of_ble_eq_true rfl) ox3 ?_
    obtain ⟨ox4, h⟩ := h
    refine z_iast A dX10_firstAlike_80 (zk_135 _) (Nat.le_of_ble_eq_true rfl) ox4 ?_
    refine s_aload_n A dX10_firstAlike_81 rfl ?_
    refine s_getf (k := 10) (j := 12) (sl := true) (v := zR (some 134)) A dX10_firstAlike_82 rfl zuw_X10 (Nat.le_of_ble_eq_true rfl) zwd350 (by decide) (zk_0 _) rfl ?_
    refine s_iload_n A dX10_firstAlike_85 rfl ?_
    refine s_iload_n A dX10_firstAlike_86 rfl ?_
    refine z_iast A dX10_firstAlike_87 (zk_134 _) (Nat.le_of_ble_eq_true rfl) ox3 ?_
    refine s_iload_n A dX10_firstAlike_88 rfl ?_
    exact s_iret A dX10_firstAlike_89 hr hlk (Nat.le_of_ble_eq_true rfl) (Nat.le_of_ble_eq_true rfl) ⟨_, rfl, h⟩
  · have h := h.2 c2
    refine s_iload_n A dX10_firstAlike_31 rfl ?_
    obtain ⟨oz5, h⟩ := h
    refine z_if_lt (tgt := 69) A dX10_firstAlike_32 (by decide) oz5 (fun c6 => ?_) (fun c6 => ?_)
    · have h := h.1 c6
      refine s_aload_n A dX10_firstAlike_69 rfl ?_
      refine s_getf (k := 10) (j := 13) (sl := true) (v := zR (some 135)) A dX10_firstAlike_70 rfl zuw_X10 (Nat.le_of_ble_eq_true rfl) zwd351 (by decide) (zk_0 _) rfl ?_
      refine s_iload_n A dX10_firstAlike_73 rfl ?_
      refine s_aload_n A dX10_firstAlike_74 rfl ?_
      refine s_getf (k := 10) (j := 12) (sl := true) (v := zR (some 134)) A dX10_firstAlike_75 rfl zuw_X10 (Nat.le_of_ble_eq_true rfl) zwd350 (by decide) (zk_0 _) rfl ?_
      refine s_iload_n A dX10_firstAlike_78 rfl ?_
      obtain ⟨ox7, h⟩ := h
      refine z_iald A dX10_firstAlike_79 (zk_134 _) (Nat.le_of_ble_eq_true rfl) ox7 ?_
      obtain ⟨ox8, h⟩ := h
      refine z_iast A dX10_firstAlike_80 (zk_135 _) (Nat.le_of_ble_eq_true rfl) ox8 ?_
      refine s_aload_n A dX10_firstAlike_81 rfl ?_
      refine s_getf (k := 10) (j := 12) (sl := true) (v := zR (some 134)) A dX10_firstAlike_82 rfl zuw_X10 (Nat.le_of_ble_eq_true rfl) zwd350 (by decide) (zk_0 _) rfl ?_
      refine s_iload_n A dX10_firstAlike_85 rfl ?_
      refine s_iload_n A dX10_firstAlike_86 rfl ?_
      refine z_iast A dX10_firstAlike_87 (zk_134 _) (Nat.le_of_ble_eq_true rfl) ox7 ?_
      refine s_iload_n A dX10_firstAlike_88 rfl ?_
      exact s_iret A dX10_firstAlike_89 hr hlk (Nat.le_of_ble_eq_true rfl) (Nat.le_of_ble_eq_true rfl) ⟨_, rfl, h⟩
    · have h := h.2 c6
      refine s_aload_n A dX10_firstAlike_35 rfl ?_
      refine s_getf (k := 10) (j := 6) (sl := true) (v := zR (some 105)) A dX10_firstAlike_36 rfl zuw_X10 (Nat.le_of_ble_eq_true rfl) zwd344 (by decide) (zk_0 _) rfl ?_
      refine s_iload_n A dX10_firstAlike_39 rfl ?_
      refine s_callV (a := 105) (k := 0) (N := 5) (sl := true) (M := mX0_packed) (n := 1) (d := 2) (mc := 0) (ms := 0) (av := [zI x3]) (st := []) A dX10_firstAlike_40 rfl (by decide) (zk_105 _) zwd1059 zwd1060 zwd1061 zwd95 zcd_X0_packed (Nat.le_of_ble_eq_true rfl) (Nat.le_of_ble_eq_true rfl) (Nat.le_refl _) ⟨Nat.le_of_ble_eq_true rfl, Nat.le_of_ble_eq_true rfl⟩ ⟨rfl, zhn_X0_packed⟩ rfl (Nat.le_of_ble_eq_true rfl) rfl (z_contI (fun v9 μ9 h => ?_) h)
      refine s_aload_n A dX10_firstAlike_43 rfl ?_
      refine s_getf (k := 10) (j := 6) (sl := true) (v := zR (some 105)) A dX10_firstAlike_44 rfl zuw_X10 (Nat.le_of_ble_eq_true rfl) zwd344 (by decide) (zk_0 _) rfl ?_
      refine s_iload_n A dX10_firstAlike_47 rfl ?_
      refine s_callV (a := 105) (k := 0) (N := 5) (sl := true) (M := mX0_packed) (n := 1) (d := 2) (mc := 0) (ms := 0) (av := [zI x1]) (st := [zI v9]) A dX10_firstAlike_48 rfl (by decide) (zk_105 _) zwd1059 zwd1060 zwd1061 zwd95 zcd_X0_packed (Nat.le_of_ble_eq_true rfl) (Nat.le_of_ble_eq_true rfl) (Nat.le_refl _) ⟨Nat.le_of_ble_eq_true rfl, Nat.le_of_ble_eq_true rfl⟩ ⟨rfl, zhn_X0_packed⟩ rfl (Nat.le_of_ble_eq_true rfl) rfl (z_contI (fun v10 μ10 h => ?_) h)
      obtain ⟨oz11, h⟩ := h
      obtain ⟨oz12, h⟩ := h
      refine z_icmp_ne (tgt := 56) A dX10_firstAlike_51 (by decide) oz11 oz12 (fun c13 => ?_) (fun c13 => ?_)
      · have h := h.1 c13
        refine s_aload_n A dX10_firstAlike_56 rfl ?_
        refine s_getf (k := 10) (j := 13) (sl := true) (v := zR (some 135)) A dX10_firstAlike_57 rfl zuw_X10 (Nat.le_of_ble_eq_true rfl) zwd351 (by decide) (zk_0 _) rfl ?_
        refine s_iload_n A dX10_firstAlike_60 rfl ?_
        obtain ⟨ox14, h⟩ := h
        refine z_iald A dX10_firstAlike_61 (zk_135 _) (Nat.le_of_ble_eq_true rfl) ox14 ?_
        refine s_istore_n (L' := [some (zR (some 0)), some (zI x1), some (zI x2), some (zI (zi μ10 135 x3)), some (zI x4)]) A dX10_firstAlike_62 (Nat.le_of_ble_eq_true rfl) rfl ?_
        refine s_iinc (L' := [some (zR (some 0)), some (zI x1), some (zI x2), some (zI (zi μ10 135 x3)), some (zI (x4 + 1))]) A dX10_firstAlike_63 rfl rfl ?_
        refine s_goto (tgt := 23) A dX10_firstAlike_66 (by decide) ?_
        exact h
      · have h := h.2 c13
        refine s_iload_n A dX10_firstAlike_54 rfl ?_
        exact s_iret A dX10_firstAlike_55 hr hlk (Nat.le_of_ble_eq_true rfl) (Nat.le_of_ble_eq_true rfl) ⟨_, rfl, h⟩
theorem eX10_firstAlike {G : zG} {F : Int → zM → Prop} {μ : zM} {x1 : Int} (h : ∀ J, zJ G true (3) 0 0 mX10_firstAlike (zKI F) J → J 0 ([some (zR (some 0)), some (zI x1), none, none, none], [], μ, 0, 0)) : qX10_firstAlike G x1 μ F :=
  z_body (by decide +kernel) (Nat.le_of_ble_eq_true rfl) h
set_option maxRecDepth 20000 in
theorem rX10_spread_e {G : zG} {F : Int → zM → Prop} {J : Nat → zS → Prop} {μ : zM} (C : zJ G true (12) 0 0 mX10_spread (zKI F) J) 
    (h : qX10_refresh G μ (fun μ1 => qJ7_fill_53178 G true 134 (-1) μ1 (fun μ2 => qJ7_fill_53178 G true 136 0 μ2 (fun μ3 => J 24 ([some (zR (some 0)), some (zI 0), some (zI 0), none, none], [], μ3, 0, 0))))) : J 0 ([some (zR (some 0)), none, none, none, none], [], μ, 0, 0) := by
  obtain ⟨p, e, s, m, args, below, meth, c, A, hml, hr, hlk, hnm, rfl⟩ := C
  refine s_aload_n A dX10_spread_0 rfl ?_
  refine s_callV (a := 0) (k := 10) (N := 15) (sl := true) (M := mX10_refresh) (n := 0) (d := 11) (mc := 0) (ms := 0) (av := []) (st := []) A dX10_spread_1 rfl (by decide) (zk_0 _) zwd813 zwd815 zwd5 zwd89 zcd_X10_refresh (Nat.le_of_ble_eq_true rfl) (Nat.le_of_ble_eq_true rfl) (Nat.le_refl _) ⟨Nat.le_of_ble_eq_true rfl, Nat.le_of_ble_eq_true rfl⟩ ⟨rfl, zhn_X10_refresh⟩ rfl (Nat.le_of_ble_eq_true rfl) rfl (z_contV (fun μ1 h => ?_) h)
  refine s_aload_n A dX10_spread_4 rfl ?_
  refine s_getf (k := 10) (j := 12) (sl := true) (v := zR (some 134)) A dX10_spread_5 rfl zuw_X10 (Nat.le_of_ble_eq_true rfl) zwd350 (by decide) (zk_0 _) rfl ?_
  refine s_iconst A dX10_spread_8 ?_
  refine s_callS (M := mJ7_fill_53178) (n := 2) (d := 0) (mc := 0) (ms := 0) (av := [zR (some 134), zI (-1)]) (st := []) A dX10_spread_9 zwd1014 zwd251 zwd96 zcd_J7_fill_53178 (Nat.le_of_ble_eq_true rfl) (Nat.le_of_ble_eq_true rfl) (Nat.le_refl _) ⟨Nat.le_of_ble_eq_true rfl, Nat.le_of_ble_eq_true rfl⟩ zhn_J7_fill_53178 rfl (Nat.le_of_ble_eq_true rfl) rfl (z_contV (fun μ2 h => ?_) h)
  refine s_aload_n A dX10_spread_12 rfl ?_
  refine s_getf (k := 10) (j := 14) (sl := true) (v := zR (some 136)) A dX10_spread_13 rfl zuw_X10 (Nat.le_of_ble_eq_true rfl) zwd352 (by decide) (zk_0 _) rfl ?_
  refine s_iconst A dX10_spread_16 ?_
  refine s_callS (M := mJ7_fill_53178) (n := 2) (d := 0) (mc := 0) (ms := 0) (av := [zR (some 136), zI 0]) (st := []) A dX10_spread_17 zwd1014 zwd251 zwd96 zcd_J7_fill_53178 (Nat.le_of_ble_eq_true rfl) (Nat.le_of_ble_eq_true rfl) (Nat.le_refl _) ⟨Nat.le_of_ble_eq_true rfl, Nat.le_of_ble_eq_true rfl⟩ zhn_J7_fill_53178 rfl (Nat.le_of_ble_eq_true rfl) rfl (z_contV (fun μ3 h => ?_) h)
  refine s_iconst A dX10_spread_20 ?_
  refine s_istore_n (L' := [some (zR (some 0)), some (zI 0), none, none, none]) A dX10_spread_21 (Nat.le_of_ble_eq_true rfl) rfl ?_
  refine s_iconst A dX10_spread_22 ?_
  refine s_istore_n (L' := [some (zR (some 0)), some (zI 0), some (zI 0), none, none]) A dX10_spread_23 (Nat.le_of_ble_eq_true rfl) rfl ?_
  exact h
set_option maxRecDepth 20000 in
theorem rX10_spread_24 {G : zG} {F : Int → zM → Prop} {J : Nat → zS → Prop} {μ : zM} (C : zJ G true (12) 0 0 mX10_spread (zKI F) J) (x1 : Int) (x2 : Int)
    (h : zin x2 ∧ zin (zi μ 125 1) ∧ ((zi μ 125 1 ≤ x2 → J 82 ([some (zR (some 0)), some (zI x1), some (zI 0), some (zI 1), none], [], μ, 0, 0)) ∧ (¬ (zi μ 125 1 ≤ x2) → (0 ≤ x2 ∧ x2 < 6561) ∧ qX10_firstAlike G (zi μ 126 x2) μ (fun v5 μ5 => zin v5 ∧ zin (zi μ 126 x2) ∧ ((¬ v5 = zi μ 126 x2 → (0 ≤ v5 ∧ v5 < 6561) ∧ J 24 ([some (zR (some 0)), some (zI x1), some (zI (x2 + 1)), none, none], [], zup μ5 136 v5 ((zi μ5 136 v5) + 1), 0, 0)) ∧ (v5 = zi μ 126 x2 → (0 ≤ v5 ∧ v5 < 6561) ∧ J 24 ([some (zR (some 0)), some (zI (x1 + 1)), some (zI (x2 + 1)), none, none], [], zup μ5 136 v5 ((zi μ5 136 v5) + 1), 0, 0))))))) : J 24 ([some (zR (some 0)), some (zI x1), some (zI x2), none, none], [], μ, 0, 0) := by
  obtain ⟨p, e, s, m, args, below, meth, c, A, hml, hr, hlk, hnm, rfl⟩ := C
  refine s_iload_n A dX10_spread_24 rfl ?_
  refine s_aload_n A dX10_spread_25 rfl ?_
  refine s_getf (k := 10) (j := 9) (sl := true) (v := zR (some 125)) A dX10_spread_26 rfl zuw_X10 (Nat.le_of_ble_eq_true rfl) zwd347 (by decide) (zk_0 _) rfl ?_
  refine s_getf (k := 4) (j := 1) (sl := true) (v := zI (zi μ 125 1)) A dX10_spread_29 rfl zuw_X4 (Nat.le_of_ble_eq_true rfl) zwd280 (by decide) (zk_125 _) rfl ?_
  obtain ⟨oz1, h⟩ := h
  obtain ⟨oz2, h⟩ := h
  refine z_icmp_ge (tgt := 78) A dX10_spread_32 (by decide) oz1 oz2 (fun c3 => ?_) (fun c3 => ?_)
  · have h := h.1 c3
    refine s_iconst A dX10_spread_78 ?_
    refine s_istore_n (L' := [some (zR (some 0)), some (zI x1), some (zI 0), none, none]) A dX10_spread_79 (Nat.le_of_ble_eq_true rfl) rfl ?_
    refine s_iconst A dX10_spread_80 ?_
    refine s_istore_n (L' := [some (zR (some 0)), some (zI x1), some (zI 0), some (zI 1), none]) A dX10_spread_81 (Nat.le_of_ble_eq_true rfl) rfl ?_
    exact h
  · have h := h.2 c3
    refine s_aload_n A dX10_spread_35 rfl ?_
    refine s_getf (k := 10) (j := 9) (sl := true) (v := zR (some 125)) A dX10_spread_36 rfl zuw_X10 (Nat.le_of_ble_eq_true rfl) zwd347 (by decide) (zk_0 _) rfl ?_
    refine s_getf (k := 4) (j := 0) (sl := true) (v := zR (some 126)) A dX10_spread_39 rfl zuw_X4 (Nat.le_of_ble_eq_true rfl) zwd278 (by decide) (zk_125 _) rfl ?_
    refine s_iload_n A dX10_spread_42 rfl ?_
    obtain ⟨ox4, h⟩ := h
    refine z_iald A dX10_spread_43 (zk_126 _) (Nat.le_of_ble_eq_true rfl) ox4 ?_
    refine s_istore_n (L' := [some (zR (some 0)), some (zI x1), some (zI x2), some (zI (zi μ 126 x2)), none]) A dX10_spread_44 (Nat.le_of_ble_eq_true rfl) rfl ?_
    refine s_aload_n A dX10_spread_45 rfl ?_
    refine s_iload_n A dX10_spread_46 rfl ?_
    refine s_callV (a := 0) (k := 10) (N := 15) (sl := true) (M := mX10_firstAlike) (n := 1) (d := 3) (mc := 0) (ms := 0) (av := [zI (zi μ 126 x2)]) (st := []) A dX10_spread_47 rfl (by decide) (zk_0 _) zwd1055 zwd1057 zwd25 zwd89 zcd_X10_firstAlike (Nat.le_of_ble_eq_true rfl) (Nat.le_of_ble_eq_true rfl) (Nat.le_refl _) ⟨Nat.le_of_ble_eq_true rfl, Nat.le_of_ble_eq_true rfl⟩ ⟨rfl, zhn_X10_firstAlike⟩ rfl (Nat.le_of_ble_eq_true rfl) rfl (z_contI (fun v5 μ5 h => ?_) h)
    refine s_istore (L' := [some (zR (some 0)), some (zI x1), some (zI x2), some (zI (zi μ 126 x2)), some (zI v5)]) A dX10_spread_50 (Nat.le_of_ble_eq_true rfl) rfl ?_
    refine s_iload A dX10_spread_52 rfl ?_
    refine s_iload_n A dX10_spread_54 rfl ?_
    obtain ⟨oz6, h⟩ := h
    obtain ⟨oz7, h⟩ := h
    refine z_icmp_ne (tgt := 61) A dX10_spread_55 (by decide) oz6 oz7 (fun c8 => ?_) (fun c8 => ?_)
    · have h := h.1 c8
      refine s_aload_n A dX10_spread_61 rfl ?_
      refine s_getf (k := 10) (j := 14) (sl := true) (v := zR (some 136)) A dX10_spread_62 rfl zuw_X10 (Nat.le_of_ble_eq_true rfl) zwd352 (by decide) (zk_0 _) rfl ?_
      refine s_iload A dX10_spread_65 rfl ?_
      refine s_dup2 A dX10_spread_67 rfl rfl ?_
      obtain ⟨ox9, h⟩ := h
      refine z_iald A dX10_spread_68 (zk_136 _) (Nat.le_of_ble_eq_true rfl) ox9 ?_
      refine s_iconst A dX10_spread_69 ?_
      refine s_iadd A dX10_spread_70 ?_
      refine z_iast A dX10_spread_71 (zk_136 _) (Nat.le_of_ble_eq_true rfl) ox9 ?_
      refine s_iinc (L' := [some (zR (some 0)), some (zI x1), some (zI (x2 + 1)), some (zI (zi μ 126 x2)), some (zI v5)]) A dX10_spread_72 rfl rfl ?_
      refine s_goto (tgt := 24) A dX10_spread_75 (by decide) ?_
      exact z_wk (L' := [some (zR (some 0)), some (zI x1), some (zI (x2 + 1)), none, none]) ⟨rfl, rfl, rfl, trivial⟩ h
    · have h := h.2 c8
      refine s_iinc (L' := [some (zR (some 0)), some (zI (x1 + 1)), some (zI x2), some (zI (zi μ 126 x2)), some (zI v5)]) A dX10_spread_58 rfl rfl ?_
      refine s_aload_n A dX10_spread_61 rfl ?_
      refine s_getf (k := 10) (j := 14) (sl := true) (v := zR (some 136)) A dX10_spread_62 rfl zuw_X10 (Nat.le_of_ble_eq_true rfl) zwd352 (by decide) (zk_0 _) rfl ?_
      refine s_iload A dX10_spread_65 rfl ?_
      refine s_dup2 A dX10_spread_67 rfl rfl ?_
      obtain ⟨ox10, h⟩ := h
      refine z_iald A dX10_spread_68 (zk_136 _) (Nat.le_of_ble_eq_true rfl) ox10 ?_
      refine s_iconst A dX10_spread_69 ?_
      refine s_iadd A dX10_spread_70 ?_
      refine z_iast A dX10_spread_71 (zk_136 _) (Nat.le_of_ble_eq_true rfl) ox10 ?_
      refine s_iinc (L' := [some (zR (some 0)), some (zI (x1 + 1)), some (zI (x2 + 1)), some (zI (zi μ 126 x2)), some (zI v5)]) A dX10_spread_72 rfl rfl ?_
      refine s_goto (tgt := 24) A dX10_spread_75 (by decide) ?_
      exact z_wk (L' := [some (zR (some 0)), some (zI (x1 + 1)), some (zI (x2 + 1)), none, none]) ⟨rfl, rfl, rfl, trivial⟩ h
set_option maxRecDepth 20000 in
theorem rX10_spread_82 {G : zG} {F : Int → zM → Prop} {J : Nat → zS → Prop} {μ : zM} (C : zJ G true (12) 0 0 mX10_spread (zKI F) J) (x1 : Int) (x2 : Int) (x3 : Int)
    (h : zin x3 ∧ ((6561 ≤ x3 → qX6_clear G μ (fun μ3 => (0 ≤ x2 ∧ x2 < 6561) ∧ zin (zi μ3 136 x2) ∧ qX6_append G (zi μ3 136 x2) μ3 (fun μ6 => qX10_codeOf G true x2 μ6 (fun v7 μ7 => zin v7 ∧ qX6_append G v7 μ7 (fun μ9 => zin (zi μ9 125 1) ∧ qX6_append G (zi μ9 125 1) μ9 (fun μ11 => F x1 μ11)))))) ∧ (¬ (6561 ≤ x3) → (0 ≤ x3 ∧ x3 < 6561) ∧ (0 ≤ x2 ∧ x2 < 6561) ∧ zin (zi μ 136 x3) ∧ zin (zi μ 136 x2) ∧ ((zi μ 136 x3 ≤ zi μ 136 x2 → J 82 ([some (zR (some 0)), some (zI x1), some (zI x2), some (zI (x3 + 1)), none], [], μ, 0, 0)) ∧ (¬ (zi μ 136 x3 ≤ zi μ 136 x2) → J 82 ([some (zR (some 0)), some (zI x1), some (zI x3), some (zI (x3 + 1)), none], [], μ, 0, 0)))))) : J 82 ([some (zR (some 0)), some (zI x1), some (zI x2), some (zI x3), none], [], μ, 0, 0) := by
  obtain ⟨p, e, s, m, args, below, meth, c, A, hml, hr, hlk, hnm, rfl⟩ := C
  refine s_iload_n A dX10_spread_82 rfl ?_
  refine s_sipush A dX10_spread_83 rfl ?_
  obtain ⟨oz1, h⟩ := h
  refine z_icmp_ge (tgt := 112) A dX10_spread_86 (by decide) oz1 ⟨by decide, by decide⟩ (fun c2 => ?_) (fun c2 => ?_)
  · have h := h.1 c2
    refine s_aload_n A dX10_spread_112 rfl ?_
    refine s_getf (k := 10) (j := 1) (sl := true) (v := zR (some 3)) A dX10_spread_113 rfl zuw_X10 (Nat.le_of_ble_eq_true rfl) zwd339 (by decide) (zk_0 _) rfl ?_
    refine s_callV (a := 3) (k := 6) (N := 2) (sl := true) (M := mX6_clear) (n := 0) (d := 0) (mc := 0) (ms := 0) (av := []) (st := []) A dX10_spread_116 rfl (by decide) (zk_3 _) zwd786 zwd787 zwd788 zwd91 zcd_X6_clear (Nat.le_of_ble_eq_true rfl) (Nat.le_of_ble_eq_true rfl) (Nat.le_refl _) ⟨Nat.le_of_ble_eq_true rfl, Nat.le_of_ble_eq_true rfl⟩ ⟨rfl, zhn_X6_clear⟩ rfl (Nat.le_of_ble_eq_true rfl) rfl (z_contV (fun μ3 h => ?_) h)
    refine s_aload_n A dX10_spread_119 rfl ?_
    refine s_getf (k := 10) (j := 1) (sl := true) (v := zR (some 3)) A dX10_spread_120 rfl zuw_X10 (Nat.le_of_ble_eq_true rfl) zwd339 (by decide) (zk_0 _) rfl ?_
    refine s_aload_n A dX10_spread_123 rfl ?_
    refine s_getf (k := 10) (j := 14) (sl := true) (v := zR (some 136)) A dX10_spread_124 rfl zuw_X10 (Nat.le_of_ble_eq_true rfl) zwd352 (by decide) (zk_0 _) rfl ?_
    refine s_iload_n A dX10_spread_127 rfl ?_
    obtain ⟨ox4, h⟩ := h
    refine z_iald A dX10_spread_128 (zk_136 _) (Nat.le_of_ble_eq_true rfl) ox4 ?_
    obtain ⟨oz5, h⟩ := h
    refine z_i2l2 A dX10_spread_129 oz5 ?_
    refine s_callV (a := 3) (k := 6) (N := 2) (sl := true) (M := mX6_append) (n := 1) (d := 0) (mc := 0) (ms := 0) (av := [zL (zi μ3 136 x2)]) (st := []) A dX10_spread_130 rfl (by decide) (zk_3 _) zwd790 zwd791 zwd792 zwd91 zcd_X6_append (Nat.le_of_ble_eq_true rfl) (Nat.le_of_ble_eq_true rfl) (Nat.le_refl _) ⟨Nat.le_of_ble_eq_true rfl, Nat.le_of_ble_eq_true rfl⟩ ⟨rfl, zhn_X6_append⟩ rfl (Nat.le_of_ble_eq_true rfl) rfl (z_contV (fun μ6 h => ?_) h)
    refine s_aload_n A dX10_spread_133 rfl ?_
    refine s_getf (k := 10) (j := 1) (sl := true) (v := zR (some 3)) A dX10_spread_134 rfl zuw_X10 (Nat.le_of_ble_eq_true rfl) zwd339 (by decide) (zk_0 _) rfl ?_
    refine s_iload_n A dX10_spread_137 rfl ?_
    refine s_callS (M := mX10_codeOf) (n := 1) (d := 2) (mc := 0) (ms := 0) (av := [zI x2]) (st := [zR (some 3)]) A dX10_spread_138 zwd893 zwd894 zwd89 zcd_X10_codeOf (Nat.le_of_ble_eq_true rfl) (Nat.le_of_ble_eq_true rfl) (Nat.le_refl _) ⟨Nat.le_of_ble_eq_true rfl, Nat.le_of_ble_eq_true rfl⟩ zhn_X10_codeOf rfl (Nat.le_of_ble_eq_true rfl) rfl (z_contI (fun v7 μ7 h => ?_) h)
    obtain ⟨oz8, h⟩ := h
    refine z_i2l2 A dX10_spread_141 oz8 ?_
    refine s_callV (a := 3) (k := 6) (N := 2) (sl := true) (M := mX6_append) (n := 1) (d := 0) (mc := 0) (ms := 0) (av := [zL v7]) (st := []) A dX10_spread_142 rfl (by decide) (zk_3 _) zwd790 zwd791 zwd792 zwd91 zcd_X6_append (Nat.le_of_ble_eq_true rfl) (Nat.le_of_ble_eq_true rfl) (Nat.le_refl _) ⟨Nat.le_of_ble_eq_true rfl, Nat.le_of_ble_eq_true rfl⟩ ⟨rfl, zhn_X6_append⟩ rfl (Nat.le_of_ble_eq_true rfl) rfl (z_contV (fun μ9 h => ?_) h)
    refine s_aload_n A dX10_spread_145 rfl ?_
    refine s_getf (k := 10) (j := 1) (sl := true) (v := zR (some 3)) A dX10_spread_146 rfl zuw_X10 (Nat.le_of_ble_eq_true rfl) zwd339 (by decide) (zk_0 _) rfl ?_
    refine s_aload_n A dX10_spread_149 rfl ?_
    refine s_getf (k := 10) (j := 9) (sl := true) (v := zR (some 125)) A dX10_spread_150 rfl zuw_X10 (Nat.le_of_ble_eq_true rfl) zwd347 (by decide) (zk_0 _) rfl ?_
    refine s_getf (k := 4) (j := 1) (sl := true) (v := zI (zi μ9 125 1)) A dX10_spread_153 rfl zuw_X4 (Nat.le_of_ble_eq_true rfl) zwd280 (by decide) (zk_125 _) rfl ?_
    obtain ⟨oz10, h⟩ := h
    refine z_i2l2 A dX10_spread_156 oz10 ?_
    refine s_callV (a := 3) (k := 6) (N := 2) (sl := true) (M := mX6_append) (n := 1) (d := 0) (mc := 0) (ms := 0) (av := [zL (zi μ9 125 1)]) (st := []) A dX10_spread_157 rfl (by decide) (zk_3 _) zwd790 zwd791 zwd792 zwd91 zcd_X6_append (Nat.le_of_ble_eq_true rfl) (Nat.le_of_ble_eq_true rfl) (Nat.le_refl _) ⟨Nat.le_of_ble_eq_true rfl, Nat.le_of_ble_eq_true rfl⟩ ⟨rfl, zhn_X6_append⟩ rfl (Nat.le_of_ble_eq_true rfl) rfl (z_contV (fun μ11 h => ?_) h)
    refine s_iload_n A dX10_spread_160 rfl ?_
    exact s_iret A dX10_spread_161 hr hlk (Nat.le_of_ble_eq_true rfl) (Nat.le_of_ble_eq_true rfl) ⟨_, rfl, h⟩
  · have h := h.2 c2
    refine s_aload_n A dX10_spread_89 rfl ?_
    refine s_getf (k := 10) (j := 14) (sl := true) (v := zR (some 136)) A dX10_spread_90 rfl zuw_X10 (Nat.le_of_ble_eq_true rfl) zwd352 (by decide) (zk_0 _) rfl ?_
    refine s_iload_n A dX10_spread_93 rfl ?_
    obtain ⟨ox12, h⟩ := h
    refine z_iald A dX10_spread_94 (zk_136 _) (Nat.le_of_ble_eq_true rfl) ox12 ?_
    refine s_aload_n A dX10_spread_95 rfl ?_
    refine s_getf (k := 10) (j := 14) (sl := true) (v := zR (some 136)) A dX10_spread_96 rfl zuw_X10 (Nat.le_of_ble_eq_true rfl) zwd352 (by decide) (zk_0 _) rfl ?_
    refine s_iload_n A dX10_spread_99 rfl ?_
    obtain ⟨ox13, h⟩ := h
    refine z_iald A dX10_spread_100 (zk_136 _) (Nat.le_of_ble_eq_true rfl) ox13 ?_
    obtain ⟨oz14, h⟩ := h
    obtain ⟨oz15, h⟩ := h
    refine z_icmp_le (tgt := 106) A dX10_spread_101 (by decide) oz14 oz15 (fun c16 => ?_) (fun c16 => ?_)
    · have h := h.1 c16
      refine s_iinc (L' := [some (zR (some 0)), some (zI x1), some (zI x2), some (zI (x3 + 1)), none]) A dX10_spread_106 rfl rfl ?_
      refine s_goto (tgt := 82) A dX10_spread_109 (by decide) ?_
      exact h
    · have h := h.2 c16
      refine s_iload_n A dX10_spread_104 rfl ?_
      refine s_istore_n (L' := [some (zR (some 0)), some (zI x1), some (zI x3), some (zI x3), none]) A dX10_spread_105 (Nat.le_of_ble_eq_true rfl) rfl ?_
      refine s_iinc (L' := [some (zR (some 0)), some (zI x1), some (zI x3), some (zI (x3 + 1)), none]) A dX10_spread_106 rfl rfl ?_
      refine s_goto (tgt := 82) A dX10_spread_109 (by decide) ?_
      exact h
theorem eX10_spread {G : zG} {F : Int → zM → Prop} {μ : zM}  (h : ∀ J, zJ G true (12) 0 0 mX10_spread (zKI F) J → J 0 ([some (zR (some 0)), none, none, none, none], [], μ, 0, 0)) : qX10_spread G  μ F :=
  z_body (by decide +kernel) (Nat.le_of_ble_eq_true rfl) h
set_option maxRecDepth 20000 in
theorem rX10_greatestDivisor_e {G : zG} {ph : Bool} {F : Int → zM → Prop} {J : Nat → zS → Prop} {μ : zM} (C : zJ G ph (0) 0 0 mX10_greatestDivisor (zKI F) J) (x0 : Int) (x1 : Int)
    (h : J 7 ([none, none, some (zI x0), some (zI x1), some (zI 0), none], [], μ, 0, 0)) : J 0 ([some (zI x0), some (zI x1), none, none, none, none], [], μ, 0, 0) := by
  obtain ⟨p, e, s, m, args, below, meth, c, A, hml, hr, hlk, hnm, rfl⟩ := C
  refine s_iload_n A dX10_greatestDivisor_0 rfl ?_
  refine s_istore_n (L' := [some (zI x0), some (zI x1), some (zI x0), none, none, none]) A dX10_greatestDivisor_1 (Nat.le_of_ble_eq_true rfl) rfl ?_
  refine s_iload_n A dX10_greatestDivisor_2 rfl ?_
  refine s_istore_n (L' := [some (zI x0), some (zI x1), some (zI x0), some (zI x1), none, none]) A dX10_greatestDivisor_3 (Nat.le_of_ble_eq_true rfl) rfl ?_
  refine s_iconst A dX10_greatestDivisor_4 ?_
  refine s_istore (L' := [some (zI x0), some (zI x1), some (zI x0), some (zI x1), some (zI 0), none]) A dX10_greatestDivisor_5 (Nat.le_of_ble_eq_true rfl) rfl ?_
  exact z_wk (L' := [none, none, some (zI x0), some (zI x1), some (zI 0), none]) ⟨rfl, rfl, rfl, trivial⟩ h
set_option maxRecDepth 20000 in
theorem rX10_greatestDivisor_7 {G : zG} {ph : Bool} {F : Int → zM → Prop} {J : Nat → zS → Prop} {μ : zM} (C : zJ G ph (0) 0 0 mX10_greatestDivisor (zKI F) J) (x2 : Int) (x3 : Int) (x4 : Int)
    (h : zin x4 ∧ ((100 ≤ x4 → F x2 μ) ∧ (¬ (100 ≤ x4) → zin x3 ∧ ((x3 = 0 → F x2 μ) ∧ (¬ (x3 = 0) → (0 ≤ x2 ∧ x2 < 2147483648) ∧ (0 < x3 ∧ x3 < 2147483648) ∧ J 7 ([none, none, some (zI x3), some (zI (x2 % x3)), some (zI (x4 + 1)), none], [], μ, 0, 0)))))) : J 7 ([none, none, some (zI x2), some (zI x3), some (zI x4), none], [], μ, 0, 0) := by
  obtain ⟨p, e, s, m, args, below, meth, c, A, hml, hr, hlk, hnm, rfl⟩ := C
  refine s_iload A dX10_greatestDivisor_7 rfl ?_
  refine s_bipush A dX10_greatestDivisor_9 rfl ?_
  obtain ⟨oz1, h⟩ := h
  refine z_icmp_ge (tgt := 34) A dX10_greatestDivisor_11 (by decide) oz1 ⟨by decide, by decide⟩ (fun c2 => ?_) (fun c2 => ?_)
  · have h := h.1 c2
    refine s_iload_n A dX10_greatestDivisor_34 rfl ?_
    exact s_iret A dX10_greatestDivisor_35 hr hlk (Nat.le_of_ble_eq_true rfl) (Nat.le_of_ble_eq_true rfl) ⟨_, rfl, h⟩
  · have h := h.2 c2
    refine s_iload_n A dX10_greatestDivisor_14 rfl ?_
    obtain ⟨oz3, h⟩ := h
    refine z_if_eq (tgt := 34) A dX10_greatestDivisor_15 (by decide) oz3 (fun c4 => ?_) (fun c4 => ?_)
    · have h := h.1 c4
      refine s_iload_n A dX10_greatestDivisor_34 rfl ?_
      exact s_iret A dX10_greatestDivisor_35 hr hlk (Nat.le_of_ble_eq_true rfl) (Nat.le_of_ble_eq_true rfl) ⟨_, rfl, h⟩
    · have h := h.2 c4
      refine s_iload_n A dX10_greatestDivisor_18 rfl ?_
      refine s_iload_n A dX10_greatestDivisor_19 rfl ?_
      obtain ⟨o1, h⟩ := h
      obtain ⟨o2, h⟩ := h
      refine z_irem A dX10_greatestDivisor_20 o1 o2 ?_
      refine s_istore (L' := [none, none, some (zI x2), some (zI x3), some (zI x4), some (zI (x2 % x3))]) A dX10_greatestDivisor_21 (Nat.le_of_ble_eq_true rfl) rfl ?_
      refine s_iload_n A dX10_greatestDivisor_23 rfl ?_
      refine s_istore_n (L' := [none, none, some (zI x3), some (zI x3), some (zI x4), some (zI (x2 % x3))]) A dX10_greatestDivisor_24 (Nat.le_of_ble_eq_true rfl) rfl ?_
      refine s_iload A dX10_greatestDivisor_25 rfl ?_
      refine s_istore_n (L' := [none, none, some (zI x3), some (zI (x2 % x3)), some (zI x4), some (zI (x2 % x3))]) A dX10_greatestDivisor_27 (Nat.le_of_ble_eq_true rfl) rfl ?_
      refine s_iinc (L' := [none, none, some (zI x3), some (zI (x2 % x3)), some (zI (x4 + 1)), some (zI (x2 % x3))]) A dX10_greatestDivisor_28 rfl rfl ?_
      refine s_goto (tgt := 7) A dX10_greatestDivisor_31 (by decide) ?_
      exact z_wk (L' := [none, none, some (zI x3), some (zI (x2 % x3)), some (zI (x4 + 1)), none]) ⟨rfl, rfl, rfl, trivial⟩ h
theorem eX10_greatestDivisor {G : zG} {ph : Bool} {F : Int → zM → Prop} {μ : zM} {x0 : Int} {x1 : Int} (h : ∀ J, zJ G ph (0) 0 0 mX10_greatestDivisor (zKI F) J → J 0 ([some (zI x0), some (zI x1), none, none, none, none], [], μ, 0, 0)) : qX10_greatestDivisor G ph x0 x1 μ F :=
  z_body (by decide +kernel) (Nat.le_of_ble_eq_true rfl) h
set_option maxRecDepth 20000 in
theorem rX10_tellFraction_e {G : zG} {F : zM → Prop} {J : Nat → zS → Prop} {μ : zM} (C : zJ G true (2) 0 0 mX10_tellFraction (zKV F) J) (x1 : Int) (x2 : Int)
    (h : qX10_greatestDivisor G true x1 x2 μ (fun v1 μ1 => zin v1 ∧ ((¬ v1 = 0 → (0 ≤ x1 ∧ x1 < 2147483648) ∧ (0 < v1 ∧ v1 < 2147483648) ∧ zin (x1 / v1) ∧ qX6_append G (x1 / v1) μ1 (fun μ5 => (0 ≤ x2 ∧ x2 < 2147483648) ∧ (0 < v1 ∧ v1 < 2147483648) ∧ zin (x2 / v1) ∧ qX6_append G (x2 / v1) μ5 (fun μ7 => F μ7))) ∧ (v1 = 0 → F μ1)))) : J 0 ([some (zR (some 0)), some (zI x1), some (zI x2), none], [], μ, 0, 0) := by
  obtain ⟨p, e, s, m, args, below, meth, c, A, hml, hr, hlk, hnm, rfl⟩ := C
  refine s_iload_n A dX10_tellFraction_0 rfl ?_
  refine s_iload_n A dX10_tellFraction_1 rfl ?_
  refine s_callS (M := mX10_greatestDivisor) (n := 2) (d := 0) (mc := 0) (ms := 0) (av := [zI x1, zI x2]) (st := []) A dX10_tellFraction_2 zwd1071 zwd1072 zwd89 zcd_X10_greatestDivisor (Nat.le_of_ble_eq_true rfl) (Nat.le_of_ble_eq_true rfl) (Nat.le_refl _) ⟨Nat.le_of_ble_eq_true rfl, Nat.le_of_ble_eq_true rfl⟩ zhn_X10_greatestDivisor rfl (Nat.le_of_ble_eq_true rfl) rfl (z_contI (fun v1 μ1 h => ?_) h)
  refine s_istore_n (L' := [some (zR (some 0)), some (zI x1), some (zI x2), some (zI v1)]) A dX10_tellFraction_5 (Nat.le_of_ble_eq_true rfl) rfl ?_
  refine s_iload_n A dX10_tellFraction_6 rfl ?_
  obtain ⟨oz2, h⟩ := h
  refine z_if_ne (tgt := 11) A dX10_tellFraction_7 (by decide) oz2 (fun c3 => ?_) (fun c3 => ?_)
  · have h := h.1 c3
    refine s_aload_n A dX10_tellFraction_11 rfl ?_
    refine s_getf (k := 10) (j := 1) (sl := true) (v := zR (some 3)) A dX10_tellFraction_12 rfl zuw_X10 (Nat.le_of_ble_eq_true rfl) zwd339 (by decide) (zk_0 _) rfl ?_
    refine s_iload_n A dX10_tellFraction_15 rfl ?_
    refine s_iload_n A dX10_tellFraction_16 rfl ?_
    obtain ⟨o1, h⟩ := h
    obtain ⟨o2, h⟩ := h
    refine z_idiv A dX10_tellFraction_17 o1 o2 ?_
    obtain ⟨oz4, h⟩ := h
    refine z_i2l2 A dX10_tellFraction_18 oz4 ?_
    refine s_callV (a := 3) (k := 6) (N := 2) (sl := true) (M := mX6_append) (n := 1) (d := 0) (mc := 0) (ms := 0) (av := [zL (x1 / v1)]) (st := []) A dX10_tellFraction_19 rfl (by decide) (zk_3 _) zwd790 zwd791 zwd792 zwd91 zcd_X6_append (Nat.le_of_ble_eq_true rfl) (Nat.le_of_ble_eq_true rfl) (Nat.le_refl _) ⟨Nat.le_of_ble_eq_true rfl, Nat.le_of_ble_eq_true rfl⟩ ⟨rfl, zhn_X6_append⟩ rfl (Nat.le_of_ble_eq_true rfl) rfl (z_contV (fun μ5 h => ?_) h)
    refine s_aload_n A dX10_tellFraction_22 rfl ?_
    refine s_getf (k := 10) (j := 1) (sl := true) (v := zR (some 3)) A dX10_tellFraction_23 rfl zuw_X10 (Nat.le_of_ble_eq_true rfl) zwd339 (by decide) (zk_0 _) rfl ?_
    refine s_iload_n A dX10_tellFraction_26 rfl ?_
    refine s_iload_n A dX10_tellFraction_27 rfl ?_
    obtain ⟨o1, h⟩ := h
    obtain ⟨o2, h⟩ := h
    refine z_idiv A dX10_tellFraction_28 o1 o2 ?_
    obtain ⟨oz6, h⟩ := h
    refine z_i2l2 A dX10_tellFraction_29 oz6 ?_
    refine s_callV (a := 3) (k := 6) (N := 2) (sl := true) (M := mX6_append) (n := 1) (d := 0) (mc := 0) (ms := 0) (av := [zL (x2 / v1)]) (st := []) A dX10_tellFraction_30 rfl (by decide) (zk_3 _) zwd790 zwd791 zwd792 zwd91 zcd_X6_append (Nat.le_of_ble_eq_true rfl) (Nat.le_of_ble_eq_true rfl) (Nat.le_refl _) ⟨Nat.le_of_ble_eq_true rfl, Nat.le_of_ble_eq_true rfl⟩ ⟨rfl, zhn_X6_append⟩ rfl (Nat.le_of_ble_eq_true rfl) rfl (z_contV (fun μ7 h => ?_) h)
    exact s_vret A dX10_tellFraction_33 hr hlk (Nat.le_of_ble_eq_true rfl) (Nat.le_of_ble_eq_true rfl) ⟨rfl, h⟩
  · have h := h.2 c3
    exact s_vret A dX10_tellFraction_10 hr hlk (Nat.le_of_ble_eq_true rfl) (Nat.le_of_ble_eq_true rfl) ⟨rfl, h⟩
theorem eX10_tellFraction {G : zG} {F : zM → Prop} {μ : zM} {x1 : Int} {x2 : Int} (h : ∀ J, zJ G true (2) 0 0 mX10_tellFraction (zKV F) J → J 0 ([some (zR (some 0)), some (zI x1), some (zI x2), none], [], μ, 0, 0)) : qX10_tellFraction G x1 x2 μ F :=
  z_body (by decide +kernel) (Nat.le_of_ble_eq_true rfl) h
set_option maxRecDepth 20000 in
theorem rX10_odds_e {G : zG} {F : Int → zM → Prop} {J : Nat → zS → Prop} {μ : zM} (C : zJ G true (12) 0 0 mX10_odds (zKI F) J) (x1 : Int) (x2 : Int) (x3 : Int) (x4 : Int)
    (h : qX10_isColour G true x1 x2 x3 μ (fun v1 μ1 => zin v1 ∧ ((¬ v1 = 0 → qX10_refresh G μ1 (fun μ4 => J 21 ([some (zR (some 0)), some (zI x1), some (zI x2), some (zI x3), some (zI x4), some (zI 0), some (zI 0)], [], μ4, 0, 0))) ∧ (v1 = 0 → F (-1) μ1)))) : J 0 ([some (zR (some 0)), some (zI x1), some (zI x2), some (zI x3), some (zI x4), none, none], [], μ, 0, 0) := by
  obtain ⟨p, e, s, m, args, below, meth, c, A, hml, hr, hlk, hnm, rfl⟩ := C
  refine s_iload_n A dX10_odds_0 rfl ?_
  refine s_iload_n A dX10_odds_1 rfl ?_
  refine s_iload_n A dX10_odds_2 rfl ?_
  refine s_callS (M := mX10_isColour) (n := 3) (d := 2) (mc := 0) (ms := 0) (av := [zI x1, zI x2, zI x3]) (st := []) A dX10_odds_3 zwd901 zwd770 zwd89 zcd_X10_isColour (Nat.le_of_ble_eq_true rfl) (Nat.le_of_ble_eq_true rfl) (Nat.le_refl _) ⟨Nat.le_of_ble_eq_true rfl, Nat.le_of_ble_eq_true rfl⟩ zhn_X10_isColour rfl (Nat.le_of_ble_eq_true rfl) rfl (z_contI (fun v1 μ1 h => ?_) h)
  obtain ⟨oz2, h⟩ := h
  refine z_if_ne (tgt := 11) A dX10_odds_6 (by decide) oz2 (fun c3 => ?_) (fun c3 => ?_)
  · have h := h.1 c3
    refine s_aload_n A dX10_odds_11 rfl ?_
    refine s_callV (a := 0) (k := 10) (N := 15) (sl := true) (M := mX10_refresh) (n := 0) (d := 11) (mc := 0) (ms := 0) (av := []) (st := []) A dX10_odds_12 rfl (by decide) (zk_0 _) zwd813 zwd815 zwd5 zwd89 zcd_X10_refresh (Nat.le_of_ble_eq_true rfl) (Nat.le_of_ble_eq_true rfl) (Nat.le_refl _) ⟨Nat.le_of_ble_eq_true rfl, Nat.le_of_ble_eq_true rfl⟩ ⟨rfl, zhn_X10_refresh⟩ rfl (Nat.le_of_ble_eq_true rfl) rfl (z_contV (fun μ4 h => ?_) h)
    refine s_iconst A dX10_odds_15 ?_
    refine s_istore (L' := [some (zR (some 0)), some (zI x1), some (zI x2), some (zI x3), some (zI x4), some (zI 0), none]) A dX10_odds_16 (Nat.le_of_ble_eq_true rfl) rfl ?_
    refine s_iconst A dX10_odds_18 ?_
    refine s_istore (L' := [some (zR (some 0)), some (zI x1), some (zI x2), some (zI x3), some (zI x4), some (zI 0), some (zI 0)]) A dX10_odds_19 (Nat.le_of_ble_eq_true rfl) rfl ?_
    exact h
  · have h := h.2 c3
    refine s_iconst A dX10_odds_9 ?_
    exact s_iret A dX10_odds_10 hr hlk (Nat.le_of_ble_eq_true rfl) (Nat.le_of_ble_eq_true rfl) ⟨_, rfl, h⟩
set_option maxRecDepth 20000 in
theorem rX10_odds_21 {G : zG} {F : Int → zM → Prop} {J : Nat → zS → Prop} {μ : zM} (C : zJ G true (12) 0 0 mX10_odds (zKI F) J) (x1 : Int) (x2 : Int) (x3 : Int) (x4 : Int) (x5 : Int) (x6 : Int)
    (h : zin x6 ∧ zin (zi μ 125 1) ∧ ((zi μ 125 1 ≤ x6 → qX6_clear G μ (fun μ4 => qX10_tellFraction G x5 (zi μ4 125 1) μ4 (fun μ5 => F 0 μ5))) ∧ (¬ (zi μ 125 1 ≤ x6) → (0 ≤ x6 ∧ x6 < 6561) ∧ qX0_distanceTo G 105 5 (zi μ 126 x6) x1 x2 x3 μ (fun v7 μ7 => zin v7 ∧ zin x4 ∧ ((x4 < v7 → J 21 ([some (zR (some 0)), some (zI x1), some (zI x2), some (zI x3), some (zI x4), some (zI x5), some (zI (x6 + 1))], [], μ7, 0, 0)) ∧ (¬ (x4 < v7) → J 21 ([some (zR (some 0)), some (zI x1), some (zI x2), some (zI x3), some (zI x4), some (zI (x5 + 1)), some (zI (x6 + 1))], [], μ7, 0, 0))))))) : J 21 ([some (zR (some 0)), some (zI x1), some (zI x2), some (zI x3), some (zI x4), some (zI x5), some (zI x6)], [], μ, 0, 0) := by
  obtain ⟨p, e, s, m, args, below, meth, c, A, hml, hr, hlk, hnm, rfl⟩ := C
  refine s_iload A dX10_odds_21 rfl ?_
  refine s_aload_n A dX10_odds_23 rfl ?_
  refine s_getf (k := 10) (j := 9) (sl := true) (v := zR (some 125)) A dX10_odds_24 rfl zuw_X10 (Nat.le_of_ble_eq_true rfl) zwd347 (by decide) (zk_0 _) rfl ?_
  refine s_getf (k := 4) (j := 1) (sl := true) (v := zI (zi μ 125 1)) A dX10_odds_27 rfl zuw_X4 (Nat.le_of_ble_eq_true rfl) zwd280 (by decide) (zk_125 _) rfl ?_
  obtain ⟨oz1, h⟩ := h
  obtain ⟨oz2, h⟩ := h
  refine z_icmp_ge (tgt := 71) A dX10_odds_30 (by decide) oz1 oz2 (fun c3 => ?_) (fun c3 => ?_)
  · have h := h.1 c3
    refine s_aload_n A dX10_odds_71 rfl ?_
    refine s_getf (k := 10) (j := 1) (sl := true) (v := zR (some 3)) A dX10_odds_72 rfl zuw_X10 (Nat.le_of_ble_eq_true rfl) zwd339 (by decide) (zk_0 _) rfl ?_
    refine s_callV (a := 3) (k := 6) (N := 2) (sl := true) (M := mX6_clear) (n := 0) (d := 0) (mc := 0) (ms := 0) (av := []) (st := []) A dX10_odds_75 rfl (by decide) (zk_3 _) zwd786 zwd787 zwd788 zwd91 zcd_X6_clear (Nat.le_of_ble_eq_true rfl) (Nat.le_of_ble_eq_true rfl) (Nat.le_refl _) ⟨Nat.le_of_ble_eq_true rfl, Nat.le_of_ble_eq_true rfl⟩ ⟨rfl, zhn_X6_clear⟩ rfl (Nat.le_of_ble_eq_true rfl) rfl (z_contV (fun μ4 h => ?_) h)
    refine s_aload_n A dX10_odds_78 rfl ?_
    refine s_iload A dX10_odds_79 rfl ?_
    refine s_aload_n A dX10_odds_81 rfl ?_
    refine s_getf (k := 10) (j := 9) (sl := true) (v := zR (some 125)) A dX10_odds_82 rfl zuw_X10 (Nat.le_of_ble_eq_true rfl) zwd347 (by decide) (zk_0 _) rfl ?_
    refine s_getf (k := 4) (j := 1) (sl := true) (v := zI (zi μ4 125 1)) A dX10_odds_85 rfl zuw_X4 (Nat.le_of_ble_eq_true rfl) zwd280 (by decide) (zk_125 _) rfl ?_
    refine s_callV (a := 0) (k := 10) (N := 15) (sl := true) (M := mX10_tellFraction) (n := 2) (d := 2) (mc := 0) (ms := 0) (av := [zI x5, zI (zi μ4 125 1)]) (st := []) A dX10_odds_88 rfl (by decide) (zk_0 _) zwd1067 zwd1069 zwd26 zwd89 zcd_X10_tellFraction (Nat.le_of_ble_eq_true rfl) (Nat.le_of_ble_eq_true rfl) (Nat.le_refl _) ⟨Nat.le_of_ble_eq_true rfl, Nat.le_of_ble_eq_true rfl⟩ ⟨rfl, zhn_X10_tellFraction⟩ rfl (Nat.le_of_ble_eq_true rfl) rfl (z_contV (fun μ5 h => ?_) h)
    refine s_iconst A dX10_odds_91 ?_
    exact s_iret A dX10_odds_92 hr hlk (Nat.le_of_ble_eq_true rfl) (Nat.le_of_ble_eq_true rfl) ⟨_, rfl, h⟩
  · have h := h.2 c3
    refine s_aload_n A dX10_odds_33 rfl ?_
    refine s_getf (k := 10) (j := 6) (sl := true) (v := zR (some 105)) A dX10_odds_34 rfl zuw_X10 (Nat.le_of_ble_eq_true rfl) zwd344 (by decide) (zk_0 _) rfl ?_
    refine s_aload_n A dX10_odds_37 rfl ?_
    refine s_getf (k := 10) (j := 2) (sl := true) (v := zR (some 5)) A dX10_odds_38 rfl zuw_X10 (Nat.le_of_ble_eq_true rfl) zwd340 (by decide) (zk_0 _) rfl ?_
    refine s_aload_n A dX10_odds_41 rfl ?_
    refine s_getf (k := 10) (j := 9) (sl := true) (v := zR (some 125)) A dX10_odds_42 rfl zuw_X10 (Nat.le_of_ble_eq_true rfl) zwd347 (by decide) (zk_0 _) rfl ?_
    refine s_getf (k := 4) (j := 0) (sl := true) (v := zR (some 126)) A dX10_odds_45 rfl zuw_X4 (Nat.le_of_ble_eq_true rfl) zwd278 (by decide) (zk_125 _) rfl ?_
    refine s_iload A dX10_odds_48 rfl ?_
    obtain ⟨ox6, h⟩ := h
    refine z_iald A dX10_odds_50 (zk_126 _) (Nat.le_of_ble_eq_true rfl) ox6 ?_
    refine s_iload_n A dX10_odds_51 rfl ?_
    refine s_iload_n A dX10_odds_52 rfl ?_
    refine s_iload_n A dX10_odds_53 rfl ?_
    refine s_callV (a := 105) (k := 0) (N := 5) (sl := true) (M := mX0_distanceTo) (n := 5) (d := 2) (mc := 0) (ms := 0) (av := [zR (some 5), zI (zi μ 126 x6), zI x1, zI x2, zI x3]) (st := []) A dX10_odds_54 rfl (by decide) (zk_105 _) zwd992 zwd912 zwd913 zwd95 zcd_X0_distanceTo (Nat.le_of_ble_eq_true rfl) (Nat.le_of_ble_eq_true rfl) (Nat.le_refl _) ⟨Nat.le_of_ble_eq_true rfl, Nat.le_of_ble_eq_true rfl⟩ ⟨rfl, zhn_X0_distanceTo⟩ rfl (Nat.le_of_ble_eq_true rfl) rfl (z_contI (fun v7 μ7 h => ?_) h)
    refine s_iload A dX10_odds_57 rfl ?_
    obtain ⟨oz8, h⟩ := h
    obtain ⟨oz9, h⟩ := h
    refine z_icmp_gt (tgt := 65) A dX10_odds_59 (by decide) oz8 oz9 (fun c10 => ?_) (fun c10 => ?_)
    · have h := h.1 c10
      refine s_iinc (L' := [some (zR (some 0)), some (zI x1), some (zI x2), some (zI x3), some (zI x4), some (zI x5), some (zI (x6 + 1))]) A dX10_odds_65 rfl rfl ?_
      refine s_goto (tgt := 21) A dX10_odds_68 (by decide) ?_
      exact h
    · have h := h.2 c10
      refine s_iinc (L' := [some (zR (some 0)), some (zI x1), some (zI x2), some (zI x3), some (zI x4), some (zI (x5 + 1)), some (zI x6)]) A dX10_odds_62 rfl rfl ?_
      refine s_iinc (L' := [some (zR (some 0)), some (zI x1), some (zI x2), some (zI x3), some (zI x4), some (zI (x5 + 1)), some (zI (x6 + 1))]) A dX10_odds_65 rfl rfl ?_
      refine s_goto (tgt := 21) A dX10_odds_68 (by decide) ?_
      exact h
theorem eX10_odds {G : zG} {F : Int → zM → Prop} {μ : zM} {x1 : Int} {x2 : Int} {x3 : Int} {x4 : Int} (h : ∀ J, zJ G true (12) 0 0 mX10_odds (zKI F) J → J 0 ([some (zR (some 0)), some (zI x1), some (zI x2), some (zI x3), some (zI x4), none, none], [], μ, 0, 0)) : qX10_odds G x1 x2 x3 x4 μ F :=
  z_body (by decide +kernel) (Nat.le_of_ble_eq_true rfl) h
set_option maxRecDepth 20000 in
theorem rX10_through_e {G : zG} {F : Int → zM → Prop} {J : Nat → zS → Prop} {μ : zM} (C : zJ G true (73) 0 0 mX10_through (zKI F) J) (x1 : Int)
    (h : qX10_placeOf G true x1 μ (fun v1 μ1 => zin v1 ∧ ((0 ≤ v1 → qX10_linked G v1 μ1 (fun v4 μ4 => qX10_codeOf G true v4 μ4 (fun v5 μ5 => F v5 μ5))) ∧ (¬ (0 ≤ v1) → F (-1) μ1)))) : J 0 ([some (zR (some 0)), some (zI x1), none], [], μ, 0, 0) := by
  obtain ⟨p, e, s, m, args, below, meth, c, A, hml, hr, hlk, hnm, rfl⟩ := C
  refine s_iload_n A dX10_through_0 rfl ?_
  refine s_callS (M := mX10_placeOf) (n := 1) (d := 2) (mc := 0) (ms := 0) (av := [zI x1]) (st := []) A dX10_through_1 zwd806 zwd807 zwd89 zcd_X10_placeOf (Nat.le_of_ble_eq_true rfl) (Nat.le_of_ble_eq_true rfl) (Nat.le_refl _) ⟨Nat.le_of_ble_eq_true rfl, Nat.le_of_ble_eq_true rfl⟩ zhn_X10_placeOf rfl (Nat.le_of_ble_eq_true rfl) rfl (z_contI (fun v1 μ1 h => ?_) h)
  refine s_istore_n (L' := [some (zR (some 0)), some (zI x1), some (zI v1)]) A dX10_through_4 (Nat.le_of_ble_eq_true rfl) rfl ?_
  refine s_iload_n A dX10_through_5 rfl ?_
  obtain ⟨oz2, h⟩ := h
  refine z_if_ge (tgt := 13) A dX10_through_6 (by decide) oz2 (fun c3 => ?_) (fun c3 => ?_)
  · have h := h.1 c3
    refine s_aload_n A dX10_through_13 rfl ?_
    refine s_iload_n A dX10_through_14 rfl ?_
    refine s_callV (a := 0) (k := 10) (N := 15) (sl := true) (M := mX10_linked) (n := 1) (d := 72) (mc := 0) (ms := 0) (av := [zI v1]) (st := []) A dX10_through_15 rfl (by decide) (zk_0 _) zwd954 zwd956 zwd14 zwd89 zcd_X10_linked (Nat.le_of_ble_eq_true rfl) (Nat.le_of_ble_eq_true rfl) (Nat.le_refl _) ⟨Nat.le_of_ble_eq_true rfl, Nat.le_of_ble_eq_true rfl⟩ ⟨rfl, zhn_X10_linked⟩ rfl (Nat.le_of_ble_eq_true rfl) rfl (z_contI (fun v4 μ4 h => ?_) h)
    refine s_callS (M := mX10_codeOf) (n := 1) (d := 2) (mc := 0) (ms := 0) (av := [zI v4]) (st := []) A dX10_through_18 zwd893 zwd894 zwd89 zcd_X10_codeOf (Nat.le_of_ble_eq_true rfl) (Nat.le_of_ble_eq_true rfl) (Nat.le_refl _) ⟨Nat.le_of_ble_eq_true rfl, Nat.le_of_ble_eq_true rfl⟩ zhn_X10_codeOf rfl (Nat.le_of_ble_eq_true rfl) rfl (z_contI (fun v5 μ5 h => ?_) h)
    exact s_iret A dX10_through_21 hr hlk (Nat.le_of_ble_eq_true rfl) (Nat.le_of_ble_eq_true rfl) ⟨_, rfl, h⟩
  · have h := h.2 c3
    refine s_iconst A dX10_through_9 ?_
    refine s_goto (tgt := 21) A dX10_through_10 (by decide) ?_
    exact s_iret A dX10_through_21 hr hlk (Nat.le_of_ble_eq_true rfl) (Nat.le_of_ble_eq_true rfl) ⟨_, rfl, h⟩
theorem eX10_through {G : zG} {F : Int → zM → Prop} {μ : zM} {x1 : Int} (h : ∀ J, zJ G true (73) 0 0 mX10_through (zKI F) J → J 0 ([some (zR (some 0)), some (zI x1), none], [], μ, 0, 0)) : qX10_through G x1 μ F :=
  z_body (by decide +kernel) (Nat.le_of_ble_eq_true rfl) h
set_option maxRecDepth 20000 in
theorem rX10_sources_e {G : zG} {F : Int → zM → Prop} {J : Nat → zS → Prop} {μ : zM} (C : zJ G true (73) 0 0 mX10_sources (zKI F) J) (x1 : Int)
    (h : qX10_placeOf G true x1 μ (fun v1 μ1 => zin v1 ∧ ((0 ≤ v1 → J 22 ([some (zR (some 0)), none, some (zI v1), some (zI 0), some (zI (-1)), some (zI (-1)), some (zI 0)], [], μ1, 0, 0)) ∧ (¬ (0 ≤ v1) → F (-1) μ1)))) : J 0 ([some (zR (some 0)), some (zI x1), none, none, none, none, none], [], μ, 0, 0) := by
  obtain ⟨p, e, s, m, args, below, meth, c, A, hml, hr, hlk, hnm, rfl⟩ := C
  refine s_iload_n A dX10_sources_0 rfl ?_
  refine s_callS (M := mX10_placeOf) (n := 1) (d := 2) (mc := 0) (ms := 0) (av := [zI x1]) (st := []) A dX10_sources_1 zwd806 zwd807 zwd89 zcd_X10_placeOf (Nat.le_of_ble_eq_true rfl) (Nat.le_of_ble_eq_true rfl) (Nat.le_refl _) ⟨Nat.le_of_ble_eq_true rfl, Nat.le_of_ble_eq_true rfl⟩ zhn_X10_placeOf rfl (Nat.le_of_ble_eq_true rfl) rfl (z_contI (fun v1 μ1 h => ?_) h)
  refine s_istore_n (L' := [some (zR (some 0)), some (zI x1), some (zI v1), none, none, none, none]) A dX10_sources_4 (Nat.le_of_ble_eq_true rfl) rfl ?_
  refine s_iload_n A dX10_sources_5 rfl ?_
  obtain ⟨oz2, h⟩ := h
  refine z_if_ge (tgt := 11) A dX10_sources_6 (by decide) oz2 (fun c3 => ?_) (fun c3 => ?_)
  · have h := h.1 c3
    refine s_iconst A dX10_sources_11 ?_
    refine s_istore_n (L' := [some (zR (some 0)), some (zI x1), some (zI v1), some (zI 0), none, none, none]) A dX10_sources_12 (Nat.le_of_ble_eq_true rfl) rfl ?_
    refine s_iconst A dX10_sources_13 ?_
    refine s_istore (L' := [some (zR (some 0)), some (zI x1), some (zI v1), some (zI 0), some (zI (-1)), none, none]) A dX10_sources_14 (Nat.le_of_ble_eq_true rfl) rfl ?_
    refine s_iconst A dX10_sources_16 ?_
    refine s_istore (L' := [some (zR (some 0)), some (zI x1), some (zI v1), some (zI 0), some (zI (-1)), some (zI (-1)), none]) A dX10_sources_17 (Nat.le_of_ble_eq_true rfl) rfl ?_
    refine s_iconst A dX10_sources_19 ?_
    refine s_istore (L' := [some (zR (some 0)), some (zI x1), some (zI v1), some (zI 0), some (zI (-1)), some (zI (-1)), some (zI 0)]) A dX10_sources_20 (Nat.le_of_ble_eq_true rfl) rfl ?_
    exact z_wk (L' := [some (zR (some 0)), none, some (zI v1), some (zI 0), some (zI (-1)), some (zI (-1)), some (zI 0)]) ⟨rfl, rfl, rfl, rfl, rfl, rfl, trivial⟩ h
  · have h := h.2 c3
    refine s_iconst A dX10_sources_9 ?_
    exact s_iret A dX10_sources_10 hr hlk (Nat.le_of_ble_eq_true rfl) (Nat.le_of_ble_eq_true rfl) ⟨_, rfl, h⟩
set_option maxRecDepth 20000 in
theorem rX10_sources_22 {G : zG} {F : Int → zM → Prop} {J : Nat → zS → Prop} {μ : zM} (C : zJ G true (73) 0 0 mX10_sources (zKI F) J) (x2 : Int) (x3 : Int) (x4 : Int) (x5 : Int) (x6 : Int)
    (h : zin x6 ∧ ((6561 ≤ x6 → qX6_clear G μ (fun μ3 => zin x3 ∧ ((x3 ≤ 0 → F x3 μ3) ∧ (¬ (x3 ≤ 0) → qX10_codeOf G true x4 μ3 (fun v6 μ6 => zin v6 ∧ qX6_append G v6 μ6 (fun μ8 => qX10_codeOf G true x5 μ8 (fun v9 μ9 => zin v9 ∧ qX6_append G v9 μ9 (fun μ11 => F x3 μ11)))))))) ∧ (¬ (6561 ≤ x6) → qX10_linked G x6 μ (fun v12 μ12 => zin v12 ∧ zin x2 ∧ ((¬ v12 = x2 → J 22 ([some (zR (some 0)), none, some (zI x2), some (zI x3), some (zI x4), some (zI x5), some (zI (x6 + 1))], [], μ12, 0, 0)) ∧ (v12 = x2 → zin x4 ∧ ((0 ≤ x4 → J 22 ([some (zR (some 0)), none, some (zI x2), some (zI (x3 + 1)), some (zI x4), some (zI x6), some (zI (x6 + 1))], [], μ12, 0, 0)) ∧ (¬ (0 ≤ x4) → J 22 ([some (zR (some 0)), none, some (zI x2), some (zI (x3 + 1)), some (zI x6), some (zI x6), some (zI (x6 + 1))], [], μ12, 0, 0))))))))) : J 22 ([some (zR (some 0)), none, some (zI x2), some (zI x3), some (zI x4), some (zI x5), some (zI x6)], [], μ, 0, 0) := by
  obtain ⟨p, e, s, m, args, below, meth, c, A, hml, hr, hlk, hnm, rfl⟩ := C
  refine s_iload A dX10_sources_22 rfl ?_
  refine s_sipush A dX10_sources_24 rfl ?_
  obtain ⟨oz1, h⟩ := h
  refine z_icmp_ge (tgt := 67) A dX10_sources_27 (by decide) oz1 ⟨by decide, by decide⟩ (fun c2 => ?_) (fun c2 => ?_)
  · have h := h.1 c2
    refine s_aload_n A dX10_sources_67 rfl ?_
    refine s_getf (k := 10) (j := 1) (sl := true) (v := zR (some 3)) A dX10_sources_68 rfl zuw_X10 (Nat.le_of_ble_eq_true rfl) zwd339 (by decide) (zk_0 _) rfl ?_
    refine s_callV (a := 3) (k := 6) (N := 2) (sl := true) (M := mX6_clear) (n := 0) (d := 0) (mc := 0) (ms := 0) (av := []) (st := []) A dX10_sources_71 rfl (by decide) (zk_3 _) zwd786 zwd787 zwd788 zwd91 zcd_X6_clear (Nat.le_of_ble_eq_true rfl) (Nat.le_of_ble_eq_true rfl) (Nat.le_refl _) ⟨Nat.le_of_ble_eq_true rfl, Nat.le_of_ble_eq_true rfl⟩ ⟨rfl, zhn_X6_clear⟩ rfl (Nat.le_of_ble_eq_true rfl) rfl (z_contV (fun μ3 h => ?_) h)
    refine s_iload_n A dX10_sources_74 rfl ?_
    obtain ⟨oz4, h⟩ := h
    refine z_if_le (tgt := 104) A dX10_sources_75 (by decide) oz4 (fun c5 => ?_) (fun c5 => ?_)
    · have h := h.1 c5
      refine s_iload_n A dX10_sources_104 rfl ?_
      exact s_iret A dX10_sources_105 hr hlk (Nat.le_of_ble_eq_true rfl) (Nat.le_of_ble_eq_true rfl) ⟨_, rfl, h⟩
    · have h := h.2 c5
      refine s_aload_n A dX10_sources_78 rfl ?_
      refine s_getf (k := 10) (j := 1) (sl := true) (v := zR (some 3)) A dX10_sources_79 rfl zuw_X10 (Nat.le_of_ble_eq_true rfl) zwd339 (by decide) (zk_0 _) rfl ?_
      refine s_iload A dX10_sources_82 rfl ?_
      refine s_callS (M := mX10_codeOf) (n := 1) (d := 2) (mc := 0) (ms := 0) (av := [zI x4]) (st := [zR (some 3)]) A dX10_sources_84 zwd893 zwd894 zwd89 zcd_X10_codeOf (Nat.le_of_ble_eq_true rfl) (Nat.le_of_ble_eq_true rfl) (Nat.le_refl _) ⟨Nat.le_of_ble_eq_true rfl, Nat.le_of_ble_eq_true rfl⟩ zhn_X10_codeOf rfl (Nat.le_of_ble_eq_true rfl) rfl (z_contI (fun v6 μ6 h => ?_) h)
      obtain ⟨oz7, h⟩ := h
      refine z_i2l2 A dX10_sources_87 oz7 ?_
      refine s_callV (a := 3) (k := 6) (N := 2) (sl := true) (M := mX6_append) (n := 1) (d := 0) (mc := 0) (ms := 0) (av := [zL v6]) (st := []) A dX10_sources_88 rfl (by decide) (zk_3 _) zwd790 zwd791 zwd792 zwd91 zcd_X6_append (Nat.le_of_ble_eq_true rfl) (Nat.le_of_ble_eq_true rfl) (Nat.le_refl _) ⟨Nat.le_of_ble_eq_true rfl, Nat.le_of_ble_eq_true rfl⟩ ⟨rfl, zhn_X6_append⟩ rfl (Nat.le_of_ble_eq_true rfl) rfl (z_contV (fun μ8 h => ?_) h)
      refine s_aload_n A dX10_sources_91 rfl ?_
      refine s_getf (k := 10) (j := 1) (sl := true) (v := zR (some 3)) A dX10_sources_92 rfl zuw_X10 (Nat.le_of_ble_eq_true rfl) zwd339 (by decide) (zk_0 _) rfl ?_
      refine s_iload A dX10_sources_95 rfl ?_
      refine s_callS (M := mX10_codeOf) (n := 1) (d := 2) (mc := 0) (ms := 0) (av := [zI x5]) (st := [zR (some 3)]) A dX10_sources_97 zwd893 zwd894 zwd89 zcd_X10_codeOf (Nat.le_of_ble_eq_true rfl) (Nat.le_of_ble_eq_true rfl) (Nat.le_refl _) ⟨Nat.le_of_ble_eq_true rfl, Nat.le_of_ble_eq_true rfl⟩ zhn_X10_codeOf rfl (Nat.le_of_ble_eq_true rfl) rfl (z_contI (fun v9 μ9 h => ?_) h)
      obtain ⟨oz10, h⟩ := h
      refine z_i2l2 A dX10_sources_100 oz10 ?_
      refine s_callV (a := 3) (k := 6) (N := 2) (sl := true) (M := mX6_append) (n := 1) (d := 0) (mc := 0) (ms := 0) (av := [zL v9]) (st := []) A dX10_sources_101 rfl (by decide) (zk_3 _) zwd790 zwd791 zwd792 zwd91 zcd_X6_append (Nat.le_of_ble_eq_true rfl) (Nat.le_of_ble_eq_true rfl) (Nat.le_refl _) ⟨Nat.le_of_ble_eq_true rfl, Nat.le_of_ble_eq_true rfl⟩ ⟨rfl, zhn_X6_append⟩ rfl (Nat.le_of_ble_eq_true rfl) rfl (z_contV (fun μ11 h => ?_) h)
      refine s_iload_n A dX10_sources_104 rfl ?_
      exact s_iret A dX10_sources_105 hr hlk (Nat.le_of_ble_eq_true rfl) (Nat.le_of_ble_eq_true rfl) ⟨_, rfl, h⟩
  · have h := h.2 c2
    refine s_aload_n A dX10_sources_30 rfl ?_
    refine s_iload A dX10_sources_31 rfl ?_
    refine s_callV (a := 0) (k := 10) (N := 15) (sl := true) (M := mX10_linked) (n := 1) (d := 72) (mc := 0) (ms := 0) (av := [zI x6]) (st := []) A dX10_sources_33 rfl (by decide) (zk_0 _) zwd954 zwd956 zwd14 zwd89 zcd_X10_linked (Nat.le_of_ble_eq_true rfl) (Nat.le_of_ble_eq_true rfl) (Nat.le_refl _) ⟨Nat.le_of_ble_eq_true rfl, Nat.le_of_ble_eq_true rfl⟩ ⟨rfl, zhn_X10_linked⟩ rfl (Nat.le_of_ble_eq_true rfl) rfl (z_contI (fun v12 μ12 h => ?_) h)
    refine s_iload_n A dX10_sources_36 rfl ?_
    obtain ⟨oz13, h⟩ := h
    obtain ⟨oz14, h⟩ := h
    refine z_icmp_ne (tgt := 61) A dX10_sources_37 (by decide) oz13 oz14 (fun c15 => ?_) (fun c15 => ?_)
    · have h := h.1 c15
      refine s_iinc (L' := [some (zR (some 0)), none, some (zI x2), some (zI x3), some (zI x4), some (zI x5), some (zI (x6 + 1))]) A dX10_sources_61 rfl rfl ?_
      refine s_goto (tgt := 22) A dX10_sources_64 (by decide) ?_
      exact h
    · have h := h.2 c15
      refine s_iinc (L' := [some (zR (some 0)), none, some (zI x2), some (zI (x3 + 1)), some (zI x4), some (zI x5), some (zI x6)]) A dX10_sources_40 rfl rfl ?_
      refine s_iload A dX10_sources_43 rfl ?_
      obtain ⟨oz16, h⟩ := h
      refine z_if_ge (tgt := 53) A dX10_sources_45 (by decide) oz16 (fun c17 => ?_) (fun c17 => ?_)
      · have h := h.1 c17
        refine s_iload A dX10_sources_53 rfl ?_
        refine s_istore (L' := [some (zR (some 0)), none, some (zI x2), some (zI (x3 + 1)), some (zI x4), some (zI x5), some (zI x6)]) A dX10_sources_55 (Nat.le_of_ble_eq_true rfl) rfl ?_
        refine s_iload A dX10_sources_57 rfl ?_
        refine s_istore (L' := [some (zR (some 0)), none, some (zI x2), some (zI (x3 + 1)), some (zI x4), some (zI x6), some (zI x6)]) A dX10_sources_59 (Nat.le_of_ble_eq_true rfl) rfl ?_
        refine s_iinc (L' := [some (zR (some 0)), none, some (zI x2), some (zI (x3 + 1)), some (zI x4), some (zI x6), some (zI (x6 + 1))]) A dX10_sources_61 rfl rfl ?_
        refine s_goto (tgt := 22) A dX10_sources_64 (by decide) ?_
        exact h
      · have h := h.2 c17
        refine s_iload A dX10_sources_48 rfl ?_
        refine s_goto (tgt := 55) A dX10_sources_50 (by decide) ?_
        refine s_istore (L' := [some (zR (some 0)), none, some (zI x2), some (zI (x3 + 1)), some (zI x6), some (zI x5), some (zI x6)]) A dX10_sources_55 (Nat.le_of_ble_eq_true rfl) rfl ?_
        refine s_iload A dX10_sources_57 rfl ?_
        refine s_istore (L' := [some (zR (some 0)), none, some (zI x2), some (zI (x3 + 1)), some (zI x6), some (zI x6), some (zI x6)]) A dX10_sources_59 (Nat.le_of_ble_eq_true rfl) rfl ?_
        refine s_iinc (L' := [some (zR (some 0)), none, some (zI x2), some (zI (x3 + 1)), some (zI x6), some (zI x6), some (zI (x6 + 1))]) A dX10_sources_61 rfl rfl ?_
        refine s_goto (tgt := 22) A dX10_sources_64 (by decide) ?_
        exact h
theorem eX10_sources {G : zG} {F : Int → zM → Prop} {μ : zM} {x1 : Int} (h : ∀ J, zJ G true (73) 0 0 mX10_sources (zKI F) J → J 0 ([some (zR (some 0)), some (zI x1), none, none, none, none, none], [], μ, 0, 0)) : qX10_sources G x1 μ F :=
  z_body (by decide +kernel) (Nat.le_of_ble_eq_true rfl) h
set_option maxRecDepth 20000 in
theorem rX10_rounds_e {G : zG} {F : Int → zM → Prop} {J : Nat → zS → Prop} {μ : zM} (C : zJ G true (73) 0 0 mX10_rounds (zKI F) J) (x1 : Int)
    (h : qX10_placeOf G true x1 μ (fun v1 μ1 => zin v1 ∧ ((0 ≤ v1 → qJ7_fill_53178 G true 134 (-1) μ1 (fun μ4 => J 24 ([some (zR (some 0)), none, some (zI v1), some (zI 0), some (zI 0), none, none], [], μ4, 0, 0))) ∧ (¬ (0 ≤ v1) → F (-1) μ1)))) : J 0 ([some (zR (some 0)), some (zI x1), none, none, none, none, none], [], μ, 0, 0) := by
  obtain ⟨p, e, s, m, args, below, meth, c, A, hml, hr, hlk, hnm, rfl⟩ := C
  refine s_iload_n A dX10_rounds_0 rfl ?_
  refine s_callS (M := mX10_placeOf) (n := 1) (d := 2) (mc := 0) (ms := 0) (av := [zI x1]) (st := []) A dX10_rounds_1 zwd806 zwd807 zwd89 zcd_X10_placeOf (Nat.le_of_ble_eq_true rfl) (Nat.le_of_ble_eq_true rfl) (Nat.le_refl _) ⟨Nat.le_of_ble_eq_true rfl, Nat.le_of_ble_eq_true rfl⟩ zhn_X10_placeOf rfl (Nat.le_of_ble_eq_true rfl) rfl (z_contI (fun v1 μ1 h => ?_) h)
  refine s_istore_n (L' := [some (zR (some 0)), some (zI x1), some (zI v1), none, none, none, none]) A dX10_rounds_4 (Nat.le_of_ble_eq_true rfl) rfl ?_
  refine s_iload_n A dX10_rounds_5 rfl ?_
  obtain ⟨oz2, h⟩ := h
  refine z_if_ge (tgt := 11) A dX10_rounds_6 (by decide) oz2 (fun c3 => ?_) (fun c3 => ?_)
  · have h := h.1 c3
    refine s_aload_n A dX10_rounds_11 rfl ?_
    refine s_getf (k := 10) (j := 12) (sl := true) (v := zR (some 134)) A dX10_rounds_12 rfl zuw_X10 (Nat.le_of_ble_eq_true rfl) zwd350 (by decide) (zk_0 _) rfl ?_
    refine s_iconst A dX10_rounds_15 ?_
    refine s_callS (M := mJ7_fill_53178) (n := 2) (d := 0) (mc := 0) (ms := 0) (av := [zR (some 134), zI (-1)]) (st := []) A dX10_rounds_16 zwd1014 zwd251 zwd96 zcd_J7_fill_53178 (Nat.le_of_ble_eq_true rfl) (Nat.le_of_ble_eq_true rfl) (Nat.le_refl _) ⟨Nat.le_of_ble_eq_true rfl, Nat.le_of_ble_eq_true rfl⟩ zhn_J7_fill_53178 rfl (Nat.le_of_ble_eq_true rfl) rfl (z_contV (fun μ4 h => ?_) h)
    refine s_iconst A dX10_rounds_19 ?_
    refine s_istore_n (L' := [some (zR (some 0)), some (zI x1), some (zI v1), some (zI 0), none, none, none]) A dX10_rounds_20 (Nat.le_of_ble_eq_true rfl) rfl ?_
    refine s_iconst A dX10_rounds_21 ?_
    refine s_istore (L' := [some (zR (some 0)), some (zI x1), some (zI v1), some (zI 0), some (zI 0), none, none]) A dX10_rounds_22 (Nat.le_of_ble_eq_true rfl) rfl ?_
    exact z_wk (L' := [some (zR (some 0)), none, some (zI v1), some (zI 0), some (zI 0), none, none]) ⟨rfl, rfl, rfl, rfl, trivial⟩ h
  · have h := h.2 c3
    refine s_iconst A dX10_rounds_9 ?_
    exact s_iret A dX10_rounds_10 hr hlk (Nat.le_of_ble_eq_true rfl) (Nat.le_of_ble_eq_true rfl) ⟨_, rfl, h⟩
set_option maxRecDepth 20000 in
theorem rX10_rounds_24 {G : zG} {F : Int → zM → Prop} {J : Nat → zS → Prop} {μ : zM} (C : zJ G true (73) 0 0 mX10_rounds (zKI F) J) (x2 : Int) (x3 : Int) (x4 : Int)
    (h : zin x4 ∧ ((6561 < x4 → (0 ≤ x2 ∧ x2 < 6561) ∧ J 78 ([some (zR (some 0)), none, some (zI x2), some (zI x3), some (zI (zi μ 134 x2)), some (zI x2), some (zI (zi μ 134 x2))], [], μ, 0, 0)) ∧ (¬ (6561 < x4) → (0 ≤ x2 ∧ x2 < 6561) ∧ zin (zi μ 134 x2) ∧ ((0 ≤ zi μ 134 x2 → J 78 ([some (zR (some 0)), none, some (zI x2), some (zI x3), some (zI (zi μ 134 x2)), some (zI x2), some (zI (zi μ 134 x2))], [], μ, 0, 0)) ∧ (¬ (0 ≤ zi μ 134 x2) → qX10_linked G x2 (zup μ 134 x2 x3) (fun v7 μ7 => J 24 ([some (zR (some 0)), none, some (zI v7), some (zI (x3 + 1)), some (zI (x4 + 1)), none, none], [], μ7, 0, 0))))))) : J 24 ([some (zR (some 0)), none, some (zI x2), some (zI x3), some (zI x4), none, none], [], μ, 0, 0) := by
  obtain ⟨p, e, s, m, args, below, meth, c, A, hml, hr, hlk, hnm, rfl⟩ := C
  refine s_iload A dX10_rounds_24 rfl ?_
  refine s_sipush A dX10_rounds_26 rfl ?_
  obtain ⟨oz1, h⟩ := h
  refine z_icmp_gt (tgt := 63) A dX10_rounds_29 (by decide) oz1 ⟨by decide, by decide⟩ (fun c2 => ?_) (fun c2 => ?_)
  · have h := h.1 c2
    refine s_aload_n A dX10_rounds_63 rfl ?_
    refine s_getf (k := 10) (j := 12) (sl := true) (v := zR (some 134)) A dX10_rounds_64 rfl zuw_X10 (Nat.le_of_ble_eq_true rfl) zwd350 (by decide) (zk_0 _) rfl ?_
    refine s_iload_n A dX10_rounds_67 rfl ?_
    obtain ⟨ox3, h⟩ := h
    refine z_iald A dX10_rounds_68 (zk_134 _) (Nat.le_of_ble_eq_true rfl) ox3 ?_
    refine s_istore (L' := [some (zR (some 0)), none, some (zI x2), some (zI x3), some (zI (zi μ 134 x2)), none, none]) A dX10_rounds_69 (Nat.le_of_ble_eq_true rfl) rfl ?_
    refine s_iload_n A dX10_rounds_71 rfl ?_
    refine s_istore (L' := [some (zR (some 0)), none, some (zI x2), some (zI x3), some (zI (zi μ 134 x2)), some (zI x2), none]) A dX10_rounds_72 (Nat.le_of_ble_eq_true rfl) rfl ?_
    refine s_iload A dX10_rounds_74 rfl ?_
    refine s_istore (L' := [some (zR (some 0)), none, some (zI x2), some (zI x3), some (zI (zi μ 134 x2)), some (zI x2), some (zI (zi μ 134 x2))]) A dX10_rounds_76 (Nat.le_of_ble_eq_true rfl) rfl ?_
    exact h
  · have h := h.2 c2
    refine s_aload_n A dX10_rounds_32 rfl ?_
    refine s_getf (k := 10) (j := 12) (sl := true) (v := zR (some 134)) A dX10_rounds_33 rfl zuw_X10 (Nat.le_of_ble_eq_true rfl) zwd350 (by decide) (zk_0 _) rfl ?_
    refine s_iload_n A dX10_rounds_36 rfl ?_
    obtain ⟨ox4, h⟩ := h
    refine z_iald A dX10_rounds_37 (zk_134 _) (Nat.le_of_ble_eq_true rfl) ox4 ?_
    obtain ⟨oz5, h⟩ := h
    refine z_if_ge (tgt := 63) A dX10_rounds_38 (by decide) oz5 (fun c6 => ?_) (fun c6 => ?_)
    · have h := h.1 c6
      refine s_aload_n A dX10_rounds_63 rfl ?_
      refine s_getf (k := 10) (j := 12) (sl := true) (v := zR (some 134)) A dX10_rounds_64 rfl zuw_X10 (Nat.le_of_ble_eq_true rfl) zwd350 (by decide) (zk_0 _) rfl ?_
      refine s_iload_n A dX10_rounds_67 rfl ?_
      refine z_iald A dX10_rounds_68 (zk_134 _) (Nat.le_of_ble_eq_true rfl) ox4 ?_
      refine s_istore (L' := [some (zR (some 0)), none, some (zI x2), some (zI x3), some (zI (zi μ 134 x2)), none, none]) A dX10_rounds_69 (Nat.le_of_ble_eq_true rfl) rfl ?_
      refine s_iload_n A dX10_rounds_71 rfl ?_
      refine s_istore (L' := [some (zR (some 0)), none, some (zI x2), some (zI x3), some (zI (zi μ 134 x2)), some (zI x2), none]) A dX10_rounds_72 (Nat.le_of_ble_eq_true rfl) rfl ?_
      refine s_iload A dX10_rounds_74 rfl ?_
      refine s_istore (L' := [some (zR (some 0)), none, some (zI x2), some (zI x3), some (zI (zi μ 134 x2)), some (zI x2), some (zI (zi μ 134 x2))]) A dX10_rounds_76 (Nat.le_of_ble_eq_true rfl) rfl ?_
      exact h
    · have h := h.2 c6
      refine s_aload_n A dX10_rounds_41 rfl ?_
      refine s_getf (k := 10) (j := 12) (sl := true) (v := zR (some 134)) A dX10_rounds_42 rfl zuw_X10 (Nat.le_of_ble_eq_true rfl) zwd350 (by decide) (zk_0 _) rfl ?_
      refine s_iload_n A dX10_rounds_45 rfl ?_
      refine s_iload_n A dX10_rounds_46 rfl ?_
      refine z_iast A dX10_rounds_47 (zk_134 _) (Nat.le_of_ble_eq_true rfl) ox4 ?_
      refine s_aload_n A dX10_rounds_48 rfl ?_
      refine s_iload_n A dX10_rounds_49 rfl ?_
      refine s_callV (a := 0) (k := 10) (N := 15) (sl := true) (M := mX10_linked) (n := 1) (d := 72) (mc := 0) (ms := 0) (av := [zI x2]) (st := []) A dX10_rounds_50 rfl (by decide) (zk_0 _) zwd954 zwd956 zwd14 zwd89 zcd_X10_linked (Nat.le_of_ble_eq_true rfl) (Nat.le_of_ble_eq_true rfl) (Nat.le_refl _) ⟨Nat.le_of_ble_eq_true rfl, Nat.le_of_ble_eq_true rfl⟩ ⟨rfl, zhn_X10_linked⟩ rfl (Nat.le_of_ble_eq_true rfl) rfl (z_contI (fun v7 μ7 h => ?_) h)
      refine s_istore_n (L' := [some (zR (some 0)), none, some (zI v7), some (zI x3), some (zI x4), none, none]) A dX10_rounds_53 (Nat.le_of_ble_eq_true rfl) rfl ?_
      refine s_iinc (L' := [some (zR (some 0)), none, some (zI v7), some (zI (x3 + 1)), some (zI x4), none, none]) A dX10_rounds_54 rfl rfl ?_
      refine s_iinc (L' := [some (zR (some 0)), none, some (zI v7), some (zI (x3 + 1)), some (zI (x4 + 1)), none, none]) A dX10_rounds_57 rfl rfl ?_
      refine s_goto (tgt := 24) A dX10_rounds_60 (by decide) ?_
      exact h
set_option maxRecDepth 20000 in
theorem rX10_rounds_78 {G : zG} {F : Int → zM → Prop} {J : Nat → zS → Prop} {μ : zM} (C : zJ G true (73) 0 0 mX10_rounds (zKI F) J) (x2 : Int) (x3 : Int) (x4 : Int) (x5 : Int) (x6 : Int)
    (h : zin x6 ∧ zin x3 ∧ ((x3 ≤ x6 → qX6_clear G μ (fun μ4 => zin (x3 - x4) ∧ qX6_append G (x3 - x4) μ4 (fun μ6 => qX10_codeOf G true x5 μ6 (fun v7 μ7 => zin v7 ∧ qX6_append G v7 μ7 (fun μ9 => F x4 μ9))))) ∧ (¬ (x3 ≤ x6) → qX10_linked G x2 μ (fun v10 μ10 => zin x5 ∧ zin v10 ∧ J 78 ([some (zR (some 0)), none, some (zI v10), some (zI x3), some (zI x4), some (zI (min x5 v10)), some (zI (x6 + 1))], [], μ10, 0, 0))))) : J 78 ([some (zR (some 0)), none, some (zI x2), some (zI x3), some (zI x4), some (zI x5), some (zI x6)], [], μ, 0, 0) := by
  obtain ⟨p, e, s, m, args, below, meth, c, A, hml, hr, hlk, hnm, rfl⟩ := C
  refine s_iload A dX10_rounds_78 rfl ?_
  refine s_iload_n A dX10_rounds_80 rfl ?_
  obtain ⟨oz1, h⟩ := h
  obtain ⟨oz2, h⟩ := h
  refine z_icmp_ge (tgt := 104) A dX10_rounds_81 (by decide) oz1 oz2 (fun c3 => ?_) (fun c3 => ?_)
  · have h := h.1 c3
    refine s_aload_n A dX10_rounds_104 rfl ?_
    refine s_getf (k := 10) (j := 1) (sl := true) (v := zR (some 3)) A dX10_rounds_105 rfl zuw_X10 (Nat.le_of_ble_eq_true rfl) zwd339 (by decide) (zk_0 _) rfl ?_
    refine s_callV (a := 3) (k := 6) (N := 2) (sl := true) (M := mX6_clear) (n := 0) (d := 0) (mc := 0) (ms := 0) (av := []) (st := []) A dX10_rounds_108 rfl (by decide) (zk_3 _) zwd786 zwd787 zwd788 zwd91 zcd_X6_clear (Nat.le_of_ble_eq_true rfl) (Nat.le_of_ble_eq_true rfl) (Nat.le_refl _) ⟨Nat.le_of_ble_eq_true rfl, Nat.le_of_ble_eq_true rfl⟩ ⟨rfl, zhn_X6_clear⟩ rfl (Nat.le_of_ble_eq_true rfl) rfl (z_contV (fun μ4 h => ?_) h)
    refine s_aload_n A dX10_rounds_111 rfl ?_
    refine s_getf (k := 10) (j := 1) (sl := true) (v := zR (some 3)) A dX10_rounds_112 rfl zuw_X10 (Nat.le_of_ble_eq_true rfl) zwd339 (by decide) (zk_0 _) rfl ?_
    refine s_iload_n A dX10_rounds_115 rfl ?_
    refine s_iload A dX10_rounds_116 rfl ?_
    refine s_isub A dX10_rounds_118 ?_
    obtain ⟨oz5, h⟩ := h
    refine z_i2l2 A dX10_rounds_119 oz5 ?_
    refine s_callV (a := 3) (k := 6) (N := 2) (sl := true) (M := mX6_append) (n := 1) (d := 0) (mc := 0) (ms := 0) (av := [zL (x3 - x4)]) (st := []) A dX10_rounds_120 rfl (by decide) (zk_3 _) zwd790 zwd791 zwd792 zwd91 zcd_X6_append (Nat.le_of_ble_eq_true rfl) (Nat.le_of_ble_eq_true rfl) (Nat.le_refl _) ⟨Nat.le_of_ble_eq_true rfl, Nat.le_of_ble_eq_true rfl⟩ ⟨rfl, zhn_X6_append⟩ rfl (Nat.le_of_ble_eq_true rfl) rfl (z_contV (fun μ6 h => ?_) h)
    refine s_aload_n A dX10_rounds_123 rfl ?_
    refine s_getf (k := 10) (j := 1) (sl := true) (v := zR (some 3)) A dX10_rounds_124 rfl zuw_X10 (Nat.le_of_ble_eq_true rfl) zwd339 (by decide) (zk_0 _) rfl ?_
    refine s_iload A dX10_rounds_127 rfl ?_
    refine s_callS (M := mX10_codeOf) (n := 1) (d := 2) (mc := 0) (ms := 0) (av := [zI x5]) (st := [zR (some 3)]) A dX10_rounds_129 zwd893 zwd894 zwd89 zcd_X10_codeOf (Nat.le_of_ble_eq_true rfl) (Nat.le_of_ble_eq_true rfl) (Nat.le_refl _) ⟨Nat.le_of_ble_eq_true rfl, Nat.le_of_ble_eq_true rfl⟩ zhn_X10_codeOf rfl (Nat.le_of_ble_eq_true rfl) rfl (z_contI (fun v7 μ7 h => ?_) h)
    obtain ⟨oz8, h⟩ := h
    refine z_i2l2 A dX10_rounds_132 oz8 ?_
    refine s_callV (a := 3) (k := 6) (N := 2) (sl := true) (M := mX6_append) (n := 1) (d := 0) (mc := 0) (ms := 0) (av := [zL v7]) (st := []) A dX10_rounds_133 rfl (by decide) (zk_3 _) zwd790 zwd791 zwd792 zwd91 zcd_X6_append (Nat.le_of_ble_eq_true rfl) (Nat.le_of_ble_eq_true rfl) (Nat.le_refl _) ⟨Nat.le_of_ble_eq_true rfl, Nat.le_of_ble_eq_true rfl⟩ ⟨rfl, zhn_X6_append⟩ rfl (Nat.le_of_ble_eq_true rfl) rfl (z_contV (fun μ9 h => ?_) h)
    refine s_iload A dX10_rounds_136 rfl ?_
    exact s_iret A dX10_rounds_138 hr hlk (Nat.le_of_ble_eq_true rfl) (Nat.le_of_ble_eq_true rfl) ⟨_, rfl, h⟩
  · have h := h.2 c3
    refine s_aload_n A dX10_rounds_84 rfl ?_
    refine s_iload_n A dX10_rounds_85 rfl ?_
    refine s_callV (a := 0) (k := 10) (N := 15) (sl := true) (M := mX10_linked) (n := 1) (d := 72) (mc := 0) (ms := 0) (av := [zI x2]) (st := []) A dX10_rounds_86 rfl (by decide) (zk_0 _) zwd954 zwd956 zwd14 zwd89 zcd_X10_linked (Nat.le_of_ble_eq_true rfl) (Nat.le_of_ble_eq_true rfl) (Nat.le_refl _) ⟨Nat.le_of_ble_eq_true rfl, Nat.le_of_ble_eq_true rfl⟩ ⟨rfl, zhn_X10_linked⟩ rfl (Nat.le_of_ble_eq_true rfl) rfl (z_contI (fun v10 μ10 h => ?_) h)
    refine s_istore_n (L' := [some (zR (some 0)), none, some (zI v10), some (zI x3), some (zI x4), some (zI x5), some (zI x6)]) A dX10_rounds_89 (Nat.le_of_ble_eq_true rfl) rfl ?_
    refine s_iload A dX10_rounds_90 rfl ?_
    refine s_iload_n A dX10_rounds_92 rfl ?_
    obtain ⟨oz11, h⟩ := h
    obtain ⟨oz12, h⟩ := h
    refine z_mmin A dX10_rounds_93 zwd735 zwd509 zwd105 zwd510 (Nat.le_of_ble_eq_true rfl) (Nat.le_of_ble_eq_true rfl) ⟨Nat.le_of_ble_eq_true rfl, Nat.le_of_ble_eq_true rfl⟩ oz11 oz12 ?_
    refine s_istore (L' := [some (zR (some 0)), none, some (zI v10), some (zI x3), some (zI x4), some (zI (min x5 v10)), some (zI x6)]) A dX10_rounds_96 (Nat.le_of_ble_eq_true rfl) rfl ?_
    refine s_iinc (L' := [some (zR (some 0)), none, some (zI v10), some (zI x3), some (zI x4), some (zI (min x5 v10)), some (zI (x6 + 1))]) A dX10_rounds_98 rfl rfl ?_
    refine s_goto (tgt := 78) A dX10_rounds_101 (by decide) ?_
    exact h
theorem eX10_rounds {G : zG} {F : Int → zM → Prop} {μ : zM} {x1 : Int} (h : ∀ J, zJ G true (73) 0 0 mX10_rounds (zKI F) J → J 0 ([some (zR (some 0)), some (zI x1), none, none, none, none, none], [], μ, 0, 0)) : qX10_rounds G x1 μ F :=
  z_body (by decide +kernel) (Nat.le_of_ble_eq_true rfl) h
set_option maxRecDepth 20000 in
theorem rX10_isHow_e {G : zG} {ph : Bool} {F : Int → zM → Prop} {J : Nat → zS → Prop} {μ : zM} (C : zJ G ph (2) 0 0 mX10_isHow (zKI F) J) (x0 : Int)
    (h : qX10_isIn G ph x0 0 1 μ (fun v1 μ1 => (v1 = 0 ∨ v1 = 1) ∧ F v1 μ1)) : J 0 ([some (zI x0)], [], μ, 0, 0) := by
  obtain ⟨p, e, s, m, args, below, meth, c, A, hml, hr, hlk, hnm, rfl⟩ := C
  refine s_iload_n A dX10_isHow_0 rfl ?_
  refine s_iconst A dX10_isHow_1 ?_
  refine s_iconst A dX10_isHow_2 ?_
  refine s_callS (M := mX10_isIn) (n := 3) (d := 0) (mc := 0) (ms := 0) (av := [zI x0, zI 0, zI 1]) (st := []) A dX10_isHow_3 zwd597 zwd598 zwd89 zcd_X10_isIn (Nat.le_of_ble_eq_true rfl) (Nat.le_of_ble_eq_true rfl) (Nat.le_refl _) ⟨Nat.le_of_ble_eq_true rfl, Nat.le_of_ble_eq_true rfl⟩ zhn_X10_isIn rfl (Nat.le_of_ble_eq_true rfl) rfl (z_contI (fun v1 μ1 h => ?_) h)
  obtain ⟨o1, h⟩ := h
  exact s_zret A dX10_isHow_6 hr hlk (Nat.le_of_ble_eq_true rfl) (Nat.le_of_ble_eq_true rfl) o1 ⟨_, rfl, h⟩
theorem eX10_isHow {G : zG} {ph : Bool} {F : Int → zM → Prop} {μ : zM} {x0 : Int} (h : ∀ J, zJ G ph (2) 0 0 mX10_isHow (zKI F) J → J 0 ([some (zI x0)], [], μ, 0, 0)) : qX10_isHow G ph x0 μ F :=
  z_body (by decide +kernel) (Nat.le_of_ble_eq_true rfl) h
set_option maxRecDepth 20000 in
theorem rX10_press_e {G : zG} {F : Int → zM → Prop} {J : Nat → zS → Prop} {μ : zM} (C : zJ G true (12) 0 0 mX10_press (zKI F) J) (x1 : Int)
    (h : qX10_isHow G true x1 μ (fun v1 μ1 => zin v1 ∧ ((¬ v1 = 0 → qX7_cellCount G 5 μ1 (fun v4 μ4 => zin v4 ∧ ((¬ v4 = 0 → qX10_refresh G μ4 (fun μ7 => zin x1 ∧ ((¬ x1 = 1 → qX7_cellCount G 5 μ7 (fun v10 μ10 => qX5_print G 5 105 0 v10 μ10 (fun μ11 => qX6_clear G μ11 (fun μ12 => J 71 ([some (zR (some 0)), none, some (zI 0)], [], μ12, 0, 0))))) ∧ (x1 = 1 → qX7_cellCount G 5 μ7 (fun v13 μ13 => qX5_print G 5 105 1 v13 μ13 (fun μ14 => qX6_clear G μ14 (fun μ15 => J 71 ([some (zR (some 0)), none, some (zI 0)], [], μ15, 0, 0)))))))) ∧ (v4 = 0 → F (-2) μ4)))) ∧ (v1 = 0 → F (-1) μ1)))) : J 0 ([some (zR (some 0)), some (zI x1), none], [], μ, 0, 0) := by
  obtain ⟨p, e, s, m, args, below, meth, c, A, hml, hr, hlk, hnm, rfl⟩ := C
  refine s_iload_n A dX10_press_0 rfl ?_
  refine s_callS (M := mX10_isHow) (n := 1) (d := 2) (mc := 0) (ms := 0) (av := [zI x1]) (st := []) A dX10_press_1 zwd1090 zwd1091 zwd89 zcd_X10_isHow (Nat.le_of_ble_eq_true rfl) (Nat.le_of_ble_eq_true rfl) (Nat.le_refl _) ⟨Nat.le_of_ble_eq_true rfl, Nat.le_of_ble_eq_true rfl⟩ zhn_X10_isHow rfl (Nat.le_of_ble_eq_true rfl) rfl (z_contI (fun v1 μ1 h => ?_) h)
  obtain ⟨oz2, h⟩ := h
  refine z_if_ne (tgt := 9) A dX10_press_4 (by decide) oz2 (fun c3 => ?_) (fun c3 => ?_)
  · have h := h.1 c3
    refine s_aload_n A dX10_press_9 rfl ?_
    refine s_getf (k := 10) (j := 2) (sl := true) (v := zR (some 5)) A dX10_press_10 rfl zuw_X10 (Nat.le_of_ble_eq_true rfl) zwd340 (by decide) (zk_0 _) rfl ?_
    refine s_callV (a := 5) (k := 7) (N := 9) (sl := true) (M := mX7_cellCount) (n := 0) (d := 0) (mc := 0) (ms := 0) (av := []) (st := []) A dX10_press_13 rfl (by decide) (zk_5 _) zwd719 zwd720 zwd721 zwd92 zcd_X7_cellCount (Nat.le_of_ble_eq_true rfl) (Nat.le_of_ble_eq_true rfl) (Nat.le_refl _) ⟨Nat.le_of_ble_eq_true rfl, Nat.le_of_ble_eq_true rfl⟩ ⟨rfl, zhn_X7_cellCount⟩ rfl (Nat.le_of_ble_eq_true rfl) rfl (z_contI (fun v4 μ4 h => ?_) h)
    obtain ⟨oz5, h⟩ := h
    refine z_if_ne (tgt := 22) A dX10_press_16 (by decide) oz5 (fun c6 => ?_) (fun c6 => ?_)
    · have h := h.1 c6
      refine s_aload_n A dX10_press_22 rfl ?_
      refine s_callV (a := 0) (k := 10) (N := 15) (sl := true) (M := mX10_refresh) (n := 0) (d := 11) (mc := 0) (ms := 0) (av := []) (st := []) A dX10_press_23 rfl (by decide) (zk_0 _) zwd813 zwd815 zwd5 zwd89 zcd_X10_refresh (Nat.le_of_ble_eq_true rfl) (Nat.le_of_ble_eq_true rfl) (Nat.le_refl _) ⟨Nat.le_of_ble_eq_true rfl, Nat.le_of_ble_eq_true rfl⟩ ⟨rfl, zhn_X10_refresh⟩ rfl (Nat.le_of_ble_eq_true rfl) rfl (z_contV (fun μ7 h => ?_) h)
      refine s_aload_n A dX10_press_26 rfl ?_
      refine s_getf (k := 10) (j := 11) (sl := true) (v := zR (some 130)) A dX10_press_27 rfl zuw_X10 (Nat.le_of_ble_eq_true rfl) zwd349 (by decide) (zk_0 _) rfl ?_
      refine s_aload_n A dX10_press_30 rfl ?_
      refine s_getf (k := 10) (j := 2) (sl := true) (v := zR (some 5)) A dX10_press_31 rfl zuw_X10 (Nat.le_of_ble_eq_true rfl) zwd340 (by decide) (zk_0 _) rfl ?_
      refine s_aload_n A dX10_press_34 rfl ?_
      refine s_getf (k := 10) (j := 6) (sl := true) (v := zR (some 105)) A dX10_press_35 rfl zuw_X10 (Nat.le_of_ble_eq_true rfl) zwd344 (by decide) (zk_0 _) rfl ?_
      refine s_aload_n A dX10_press_38 rfl ?_
      refine s_getf (k := 10) (j := 9) (sl := true) (v := zR (some 125)) A dX10_press_39 rfl zuw_X10 (Nat.le_of_ble_eq_true rfl) zwd347 (by decide) (zk_0 _) rfl ?_
      refine s_iload_n A dX10_press_42 rfl ?_
      refine s_iconst A dX10_press_43 ?_
      obtain ⟨oz8, h⟩ := h
      refine z_icmp_ne (tgt := 51) A dX10_press_44 (by decide) oz8 ⟨by decide, by decide⟩ (fun c9 => ?_) (fun c9 => ?_)
      · have h := h.1 c9
        refine s_iconst A dX10_press_51 ?_
        refine s_aload_n A dX10_press_52 rfl ?_
        refine s_getf (k := 10) (j := 2) (sl := true) (v := zR (some 5)) A dX10_press_53 rfl zuw_X10 (Nat.le_of_ble_eq_true rfl) zwd340 (by decide) (zk_0 _) rfl ?_
        refine s_callV (a := 5) (k := 7) (N := 9) (sl := true) (M := mX7_cellCount) (n := 0) (d := 0) (mc := 0) (ms := 0) (av := []) (st := [zI 0, zR (some 125), zR (some 105), zR (some 5), zR (some 130)]) A dX10_press_56 rfl (by decide) (zk_5 _) zwd719 zwd720 zwd721 zwd92 zcd_X7_cellCount (Nat.le_of_ble_eq_true rfl) (Nat.le_of_ble_eq_true rfl) (Nat.le_refl _) ⟨Nat.le_of_ble_eq_true rfl, Nat.le_of_ble_eq_true rfl⟩ ⟨rfl, zhn_X7_cellCount⟩ rfl (Nat.le_of_ble_eq_true rfl) rfl (z_contI (fun v10 μ10 h => ?_) h)
        refine s_callV (a := 130) (k := 5) (N := 3) (sl := true) (M := mX5_print) (n := 5) (d := 10) (mc := 0) (ms := 0) (av := [zR (some 5), zR (some 105), zR (some 125), zI 0, zI v10]) (st := []) A dX10_press_59 rfl (by decide) (zk_130 _) zwd1093 zwd1094 zwd1095 zwd99 zcd_X5_print (Nat.le_of_ble_eq_true rfl) (Nat.le_of_ble_eq_true rfl) (Nat.le_refl _) ⟨Nat.le_of_ble_eq_true rfl, Nat.le_of_ble_eq_true rfl⟩ ⟨rfl, zhn_X5_print⟩ rfl (Nat.le_of_ble_eq_true rfl) rfl (z_contV (fun μ11 h => ?_) h)
        refine s_aload_n A dX10_press_62 rfl ?_
        refine s_getf (k := 10) (j := 1) (sl := true) (v := zR (some 3)) A dX10_press_63 rfl zuw_X10 (Nat.le_of_ble_eq_true rfl) zwd339 (by decide) (zk_0 _) rfl ?_
        refine s_callV (a := 3) (k := 6) (N := 2) (sl := true) (M := mX6_clear) (n := 0) (d := 0) (mc := 0) (ms := 0) (av := []) (st := []) A dX10_press_66 rfl (by decide) (zk_3 _) zwd786 zwd787 zwd788 zwd91 zcd_X6_clear (Nat.le_of_ble_eq_true rfl) (Nat.le_of_ble_eq_true rfl) (Nat.le_refl _) ⟨Nat.le_of_ble_eq_true rfl, Nat.le_of_ble_eq_true rfl⟩ ⟨rfl, zhn_X6_clear⟩ rfl (Nat.le_of_ble_eq_true rfl) rfl (z_contV (fun μ12 h => ?_) h)
        refine s_iconst A dX10_press_69 ?_
        refine s_istore_n (L' := [some (zR (some 0)), some (zI x1), some (zI 0)]) A dX10_press_70 (Nat.le_of_ble_eq_true rfl) rfl ?_
        exact z_wk (L' := [some (zR (some 0)), none, some (zI 0)]) ⟨rfl, rfl, trivial⟩ h
      · have h := h.2 c9
        refine s_iconst A dX10_press_47 ?_
        refine s_goto (tgt := 52) A dX10_press_48 (by decide) ?_
        refine s_aload_n A dX10_press_52 rfl ?_
        refine s_getf (k := 10) (j := 2) (sl := true) (v := zR (some 5)) A dX10_press_53 rfl zuw_X10 (Nat.le_of_ble_eq_true rfl) zwd340 (by decide) (zk_0 _) rfl ?_
        refine s_callV (a := 5) (k := 7) (N := 9) (sl := true) (M := mX7_cellCount) (n := 0) (d := 0) (mc := 0) (ms := 0) (av := []) (st := [zI 1, zR (some 125), zR (some 105), zR (some 5), zR (some 130)]) A dX10_press_56 rfl (by decide) (zk_5 _) zwd719 zwd720 zwd721 zwd92 zcd_X7_cellCount (Nat.le_of_ble_eq_true rfl) (Nat.le_of_ble_eq_true rfl) (Nat.le_refl _) ⟨Nat.le_of_ble_eq_true rfl, Nat.le_of_ble_eq_true rfl⟩ ⟨rfl, zhn_X7_cellCount⟩ rfl (Nat.le_of_ble_eq_true rfl) rfl (z_contI (fun v13 μ13 h => ?_) h)
        refine s_callV (a := 130) (k := 5) (N := 3) (sl := true) (M := mX5_print) (n := 5) (d := 10) (mc := 0) (ms := 0) (av := [zR (some 5), zR (some 105), zR (some 125), zI 1, zI v13]) (st := []) A dX10_press_59 rfl (by decide) (zk_130 _) zwd1093 zwd1094 zwd1095 zwd99 zcd_X5_print (Nat.le_of_ble_eq_true rfl) (Nat.le_of_ble_eq_true rfl) (Nat.le_refl _) ⟨Nat.le_of_ble_eq_true rfl, Nat.le_of_ble_eq_true rfl⟩ ⟨rfl, zhn_X5_print⟩ rfl (Nat.le_of_ble_eq_true rfl) rfl (z_contV (fun μ14 h => ?_) h)
        refine s_aload_n A dX10_press_62 rfl ?_
        refine s_getf (k := 10) (j := 1) (sl := true) (v := zR (some 3)) A dX10_press_63 rfl zuw_X10 (Nat.le_of_ble_eq_true rfl) zwd339 (by decide) (zk_0 _) rfl ?_
        refine s_callV (a := 3) (k := 6) (N := 2) (sl := true) (M := mX6_clear) (n := 0) (d := 0) (mc := 0) (ms := 0) (av := []) (st := []) A dX10_press_66 rfl (by decide) (zk_3 _) zwd786 zwd787 zwd788 zwd91 zcd_X6_clear (Nat.le_of_ble_eq_true rfl) (Nat.le_of_ble_eq_true rfl) (Nat.le_refl _) ⟨Nat.le_of_ble_eq_true rfl, Nat.le_of_ble_eq_true rfl⟩ ⟨rfl, zhn_X6_clear⟩ rfl (Nat.le_of_ble_eq_true rfl) rfl (z_contV (fun μ15 h => ?_) h)
        refine s_iconst A dX10_press_69 ?_
        refine s_istore_n (L' := [some (zR (some 0)), some (zI x1), some (zI 0)]) A dX10_press_70 (Nat.le_of_ble_eq_true rfl) rfl ?_
        exact z_wk (L' := [some (zR (some 0)), none, some (zI 0)]) ⟨rfl, rfl, trivial⟩ h
    · have h := h.2 c6
      refine s_bipush A dX10_press_19 rfl ?_
      exact s_iret A dX10_press_21 hr hlk (Nat.le_of_ble_eq_true rfl) (Nat.le_of_ble_eq_true rfl) ⟨_, rfl, h⟩
  · have h := h.2 c3
    refine s_iconst A dX10_press_7 ?_
    exact s_iret A dX10_press_8 hr hlk (Nat.le_of_ble_eq_true rfl) (Nat.le_of_ble_eq_true rfl) ⟨_, rfl, h⟩
set_option maxRecDepth 20000 in
theorem rX10_press_71 {G : zG} {F : Int → zM → Prop} {J : Nat → zS → Prop} {μ : zM} (C : zJ G true (12) 0 0 mX10_press (zKI F) J) (x2 : Int)
    (h : zin x2 ∧ ((4 ≤ x2 → qX5_farFromLetters G 5 105 μ (fun v3 μ3 => qX6_append G v3 μ3 (fun μ4 => qX5_countDifferent G 5 μ4 (fun v5 μ5 => F v5 μ5)))) ∧ (¬ (4 ≤ x2) → qX5_inkUsed G 5 x2 μ (fun v6 μ6 => zin v6 ∧ qX6_append G v6 μ6 (fun μ8 => J 71 ([some (zR (some 0)), none, some (zI (x2 + 1))], [], μ8, 0, 0)))))) : J 71 ([some (zR (some 0)), none, some (zI x2)], [], μ, 0, 0) := by
  obtain ⟨p, e, s, m, args, below, meth, c, A, hml, hr, hlk, hnm, rfl⟩ := C
  refine s_iload_n A dX10_press_71 rfl ?_
  refine s_iconst A dX10_press_72 ?_
  obtain ⟨oz1, h⟩ := h
  refine z_icmp_ge (tgt := 102) A dX10_press_73 (by decide) oz1 ⟨by decide, by decide⟩ (fun c2 => ?_) (fun c2 => ?_)
  · have h := h.1 c2
    refine s_aload_n A dX10_press_102 rfl ?_
    refine s_getf (k := 10) (j := 1) (sl := true) (v := zR (some 3)) A dX10_press_103 rfl zuw_X10 (Nat.le_of_ble_eq_true rfl) zwd339 (by decide) (zk_0 _) rfl ?_
    refine s_aload_n A dX10_press_106 rfl ?_
    refine s_getf (k := 10) (j := 11) (sl := true) (v := zR (some 130)) A dX10_press_107 rfl zuw_X10 (Nat.le_of_ble_eq_true rfl) zwd349 (by decide) (zk_0 _) rfl ?_
    refine s_aload_n A dX10_press_110 rfl ?_
    refine s_getf (k := 10) (j := 2) (sl := true) (v := zR (some 5)) A dX10_press_111 rfl zuw_X10 (Nat.le_of_ble_eq_true rfl) zwd340 (by decide) (zk_0 _) rfl ?_
    refine s_aload_n A dX10_press_114 rfl ?_
    refine s_getf (k := 10) (j := 6) (sl := true) (v := zR (some 105)) A dX10_press_115 rfl zuw_X10 (Nat.le_of_ble_eq_true rfl) zwd344 (by decide) (zk_0 _) rfl ?_
    refine s_callV (a := 130) (k := 5) (N := 3) (sl := true) (M := mX5_farFromLetters) (n := 2) (d := 3) (mc := 0) (ms := 0) (av := [zR (some 5), zR (some 105)]) (st := [zR (some 3)]) A dX10_press_118 rfl (by decide) (zk_130 _) zwd1114 zwd1115 zwd1116 zwd99 zcd_X5_farFromLetters (Nat.le_of_ble_eq_true rfl) (Nat.le_of_ble_eq_true rfl) (Nat.le_refl _) ⟨Nat.le_of_ble_eq_true rfl, Nat.le_of_ble_eq_true rfl⟩ ⟨rfl, zhn_X5_farFromLetters⟩ rfl (Nat.le_of_ble_eq_true rfl) rfl (z_contL (fun v3 μ3 h => ?_) h)
    refine s_callV (a := 3) (k := 6) (N := 2) (sl := true) (M := mX6_append) (n := 1) (d := 0) (mc := 0) (ms := 0) (av := [zL v3]) (st := []) A dX10_press_121 rfl (by decide) (zk_3 _) zwd790 zwd791 zwd792 zwd91 zcd_X6_append (Nat.le_of_ble_eq_true rfl) (Nat.le_of_ble_eq_true rfl) (Nat.le_refl _) ⟨Nat.le_of_ble_eq_true rfl, Nat.le_of_ble_eq_true rfl⟩ ⟨rfl, zhn_X6_append⟩ rfl (Nat.le_of_ble_eq_true rfl) rfl (z_contV (fun μ4 h => ?_) h)
    refine s_aload_n A dX10_press_124 rfl ?_
    refine s_getf (k := 10) (j := 11) (sl := true) (v := zR (some 130)) A dX10_press_125 rfl zuw_X10 (Nat.le_of_ble_eq_true rfl) zwd349 (by decide) (zk_0 _) rfl ?_
    refine s_aload_n A dX10_press_128 rfl ?_
    refine s_getf (k := 10) (j := 2) (sl := true) (v := zR (some 5)) A dX10_press_129 rfl zuw_X10 (Nat.le_of_ble_eq_true rfl) zwd340 (by decide) (zk_0 _) rfl ?_
    refine s_callV (a := 130) (k := 5) (N := 3) (sl := true) (M := mX5_countDifferent) (n := 1) (d := 2) (mc := 0) (ms := 0) (av := [zR (some 5)]) (st := []) A dX10_press_132 rfl (by decide) (zk_130 _) zwd1119 zwd1120 zwd1121 zwd99 zcd_X5_countDifferent (Nat.le_of_ble_eq_true rfl) (Nat.le_of_ble_eq_true rfl) (Nat.le_refl _) ⟨Nat.le_of_ble_eq_true rfl, Nat.le_of_ble_eq_true rfl⟩ ⟨rfl, zhn_X5_countDifferent⟩ rfl (Nat.le_of_ble_eq_true rfl) rfl (z_contI (fun v5 μ5 h => ?_) h)
    exact s_iret A dX10_press_135 hr hlk (Nat.le_of_ble_eq_true rfl) (Nat.le_of_ble_eq_true rfl) ⟨_, rfl, h⟩
  · have h := h.2 c2
    refine s_aload_n A dX10_press_76 rfl ?_
    refine s_getf (k := 10) (j := 1) (sl := true) (v := zR (some 3)) A dX10_press_77 rfl zuw_X10 (Nat.le_of_ble_eq_true rfl) zwd339 (by decide) (zk_0 _) rfl ?_
    refine s_aload_n A dX10_press_80 rfl ?_
    refine s_getf (k := 10) (j := 11) (sl := true) (v := zR (some 130)) A dX10_press_81 rfl zuw_X10 (Nat.le_of_ble_eq_true rfl) zwd349 (by decide) (zk_0 _) rfl ?_
    refine s_aload_n A dX10_press_84 rfl ?_
    refine s_getf (k := 10) (j := 2) (sl := true) (v := zR (some 5)) A dX10_press_85 rfl zuw_X10 (Nat.le_of_ble_eq_true rfl) zwd340 (by decide) (zk_0 _) rfl ?_
    refine s_iload_n A dX10_press_88 rfl ?_
    refine s_callV (a := 130) (k := 5) (N := 3) (sl := true) (M := mX5_inkUsed) (n := 2) (d := 2) (mc := 0) (ms := 0) (av := [zR (some 5), zI x2]) (st := [zR (some 3)]) A dX10_press_89 rfl (by decide) (zk_130 _) zwd1109 zwd1110 zwd1111 zwd99 zcd_X5_inkUsed (Nat.le_of_ble_eq_true rfl) (Nat.le_of_ble_eq_true rfl) (Nat.le_refl _) ⟨Nat.le_of_ble_eq_true rfl, Nat.le_of_ble_eq_true rfl⟩ ⟨rfl, zhn_X5_inkUsed⟩ rfl (Nat.le_of_ble_eq_true rfl) rfl (z_contI (fun v6 μ6 h => ?_) h)
    obtain ⟨oz7, h⟩ := h
    refine z_i2l2 A dX10_press_92 oz7 ?_
    refine s_callV (a := 3) (k := 6) (N := 2) (sl := true) (M := mX6_append) (n := 1) (d := 0) (mc := 0) (ms := 0) (av := [zL v6]) (st := []) A dX10_press_93 rfl (by decide) (zk_3 _) zwd790 zwd791 zwd792 zwd91 zcd_X6_append (Nat.le_of_ble_eq_true rfl) (Nat.le_of_ble_eq_true rfl) (Nat.le_refl _) ⟨Nat.le_of_ble_eq_true rfl, Nat.le_of_ble_eq_true rfl⟩ ⟨rfl, zhn_X6_append⟩ rfl (Nat.le_of_ble_eq_true rfl) rfl (z_contV (fun μ8 h => ?_) h)
    refine s_iinc (L' := [some (zR (some 0)), none, some (zI (x2 + 1))]) A dX10_press_96 rfl rfl ?_
    refine s_goto (tgt := 71) A dX10_press_99 (by decide) ?_
    exact h
theorem eX10_press {G : zG} {F : Int → zM → Prop} {μ : zM} {x1 : Int} (h : ∀ J, zJ G true (12) 0 0 mX10_press (zKI F) J → J 0 ([some (zR (some 0)), some (zI x1), none], [], μ, 0, 0)) : qX10_press G x1 μ F :=
  z_body (by decide +kernel) (Nat.le_of_ble_eq_true rfl) h
set_option maxRecDepth 20000 in
theorem rX10_cell_e {G : zG} {F : Int → zM → Prop} {J : Nat → zS → Prop} {μ : zM} (C : zJ G true (12) 0 0 mX10_cell (zKI F) J) (x1 : Int) (x2 : Int)
    (h : qX10_isHow G true x1 μ (fun v1 μ1 => zin v1 ∧ ((¬ v1 = 0 → qX7_cellCount G 5 μ1 (fun v4 μ4 => zin v4 ∧ ((¬ v4 = 0 → qX7_cellCount G 5 μ4 (fun v7 μ7 => qX10_isIn G true x2 0 (v7 - 1) μ7 (fun v8 μ8 => zin v8 ∧ ((¬ v8 = 0 → qX10_refresh G μ8 (fun μ11 => zin x1 ∧ ((¬ x1 = 1 → qX5_print G 5 105 0 (x2 + 1) μ11 (fun μ14 => (0 ≤ x2 ∧ x2 < 64) ∧ qX10_codeOf G true (zi μ14 131 x2) μ14 (fun v16 μ16 => F v16 μ16))) ∧ (x1 = 1 → qX5_print G 5 105 1 (x2 + 1) μ11 (fun μ17 => (0 ≤ x2 ∧ x2 < 64) ∧ qX10_codeOf G true (zi μ17 131 x2) μ17 (fun v19 μ19 => F v19 μ19)))))) ∧ (v8 = 0 → F (-1) μ8))))) ∧ (v4 = 0 → F (-2) μ4)))) ∧ (v1 = 0 → F (-1) μ1)))) : J 0 ([some (zR (some 0)), some (zI x1), some (zI x2)], [], μ, 0, 0) := by
  obtain ⟨p, e, s, m, args, below, meth, c, A, hml, hr, hlk, hnm, rfl⟩ := C
  refine s_iload_n A dX10_cell_0 rfl ?_
  refine s_callS (M := mX10_isHow) (n := 1) (d := 2) (mc := 0) (ms := 0) (av := [zI x1]) (st := []) A dX10_cell_1 zwd1090 zwd1091 zwd89 zcd_X10_isHow (Nat.le_of_ble_eq_true rfl) (Nat.le_of_ble_eq_true rfl) (Nat.le_refl _) ⟨Nat.le_of_ble_eq_true rfl, Nat.le_of_ble_eq_true rfl⟩ zhn_X10_isHow rfl (Nat.le_of_ble_eq_true rfl) rfl (z_contI (fun v1 μ1 h => ?_) h)
  obtain ⟨oz2, h⟩ := h
  refine z_if_ne (tgt := 9) A dX10_cell_4 (by decide) oz2 (fun c3 => ?_) (fun c3 => ?_)
  · have h := h.1 c3
    refine s_aload_n A dX10_cell_9 rfl ?_
    refine s_getf (k := 10) (j := 2) (sl := true) (v := zR (some 5)) A dX10_cell_10 rfl zuw_X10 (Nat.le_of_ble_eq_true rfl) zwd340 (by decide) (zk_0 _) rfl ?_
    refine s_callV (a := 5) (k := 7) (N := 9) (sl := true) (M := mX7_cellCount) (n := 0) (d := 0) (mc := 0) (ms := 0) (av := []) (st := []) A dX10_cell_13 rfl (by decide) (zk_5 _) zwd719 zwd720 zwd721 zwd92 zcd_X7_cellCount (Nat.le_of_ble_eq_true rfl) (Nat.le_of_ble_eq_true rfl) (Nat.le_refl _) ⟨Nat.le_of_ble_eq_true rfl, Nat.le_of_ble_eq_true rfl⟩ ⟨rfl, zhn_X7_cellCount⟩ rfl (Nat.le_of_ble_eq_true rfl) rfl (z_contI (fun v4 μ4 h => ?_) h)
    obtain ⟨oz5, h⟩ := h
    refine z_if_ne (tgt := 22) A dX10_cell_16 (by decide) oz5 (fun c6 => ?_) (fun c6 => ?_)
    · have h := h.1 c6
      refine s_iload_n A dX10_cell_22 rfl ?_
      refine s_iconst A dX10_cell_23 ?_
      refine s_aload_n A dX10_cell_24 rfl ?_
      refine s_getf (k := 10) (j := 2) (sl := true) (v := zR (some 5)) A dX10_cell_25 rfl zuw_X10 (Nat.le_of_ble_eq_true rfl) zwd340 (by decide) (zk_0 _) rfl ?_
      refine s_callV (a := 5) (k := 7) (N := 9) (sl := true) (M := mX7_cellCount) (n := 0) (d := 0) (mc := 0) (ms := 0) (av := []) (st := [zI 0, zI x2]) A dX10_cell_28 rfl (by decide) (zk_5 _) zwd719 zwd720 zwd721 zwd92 zcd_X7_cellCount (Nat.le_of_ble_eq_true rfl) (Nat.le_of_ble_eq_true rfl) (Nat.le_refl _) ⟨Nat.le_of_ble_eq_true rfl, Nat.le_of_ble_eq_true rfl⟩ ⟨rfl, zhn_X7_cellCount⟩ rfl (Nat.le_of_ble_eq_true rfl) rfl (z_contI (fun v7 μ7 h => ?_) h)
      refine s_iconst A dX10_cell_31 ?_
      refine s_isub A dX10_cell_32 ?_
      refine s_callS (M := mX10_isIn) (n := 3) (d := 0) (mc := 0) (ms := 0) (av := [zI x2, zI 0, zI (v7 - 1)]) (st := []) A dX10_cell_33 zwd597 zwd598 zwd89 zcd_X10_isIn (Nat.le_of_ble_eq_true rfl) (Nat.le_of_ble_eq_true rfl) (Nat.le_refl _) ⟨Nat.le_of_ble_eq_true rfl, Nat.le_of_ble_eq_true rfl⟩ zhn_X10_isIn rfl (Nat.le_of_ble_eq_true rfl) rfl (z_contI (fun v8 μ8 h => ?_) h)
      obtain ⟨oz9, h⟩ := h
      refine z_if_ne (tgt := 41) A dX10_cell_36 (by decide) oz9 (fun c10 => ?_) (fun c10 => ?_)
      · have h := h.1 c10
        refine s_aload_n A dX10_cell_41 rfl ?_
        refine s_callV (a := 0) (k := 10) (N := 15) (sl := true) (M := mX10_refresh) (n := 0) (d := 11) (mc := 0) (ms := 0) (av := []) (st := []) A dX10_cell_42 rfl (by decide) (zk_0 _) zwd813 zwd815 zwd5 zwd89 zcd_X10_refresh (Nat.le_of_ble_eq_true rfl) (Nat.le_of_ble_eq_true rfl) (Nat.le_refl _) ⟨Nat.le_of_ble_eq_true rfl, Nat.le_of_ble_eq_true rfl⟩ ⟨rfl, zhn_X10_refresh⟩ rfl (Nat.le_of_ble_eq_true rfl) rfl (z_contV (fun μ11 h => ?_) h)
        refine s_aload_n A dX10_cell_45 rfl ?_
        refine s_getf (k := 10) (j := 11) (sl := true) (v := zR (some 130)) A dX10_cell_46 rfl zuw_X10 (Nat.le_of_ble_eq_true rfl) zwd349 (by decide) (zk_0 _) rfl ?_
        refine s_aload_n A dX10_cell_49 rfl ?_
        refine s_getf (k := 10) (j := 2) (sl := true) (v := zR (some 5)) A dX10_cell_50 rfl zuw_X10 (Nat.le_of_ble_eq_true rfl) zwd340 (by decide) (zk_0 _) rfl ?_
        refine s_aload_n A dX10_cell_53 rfl ?_
        refine s_getf (k := 10) (j := 6) (sl := true) (v := zR (some 105)) A dX10_cell_54 rfl zuw_X10 (Nat.le_of_ble_eq_true rfl) zwd344 (by decide) (zk_0 _) rfl ?_
        refine s_aload_n A dX10_cell_57 rfl ?_
        refine s_getf (k := 10) (j := 9) (sl := true) (v := zR (some 125)) A dX10_cell_58 rfl zuw_X10 (Nat.le_of_ble_eq_true rfl) zwd347 (by decide) (zk_0 _) rfl ?_
        refine s_iload_n A dX10_cell_61 rfl ?_
        refine s_iconst A dX10_cell_62 ?_
        obtain ⟨oz12, h⟩ := h
        refine z_icmp_ne (tgt := 70) A dX10_cell_63 (by decide) oz12 ⟨by decide, by decide⟩ (fun c13 => ?_) (fun c13 => ?_)
        · have h := h.1 c13
          refine s_iconst A dX10_cell_70 ?_
          refine s_iload_n A dX10_cell_71 rfl ?_
          refine s_iconst A dX10_cell_72 ?_
          refine s_iadd A dX10_cell_73 ?_
          refine s_callV (a := 130) (k := 5) (N := 3) (sl := true) (M := mX5_print) (n := 5) (d := 10) (mc := 0) (ms := 0) (av := [zR (some 5), zR (some 105), zR (some 125), zI 0, zI (x2 + 1)]) (st := []) A dX10_cell_74 rfl (by decide) (zk_130 _) zwd1093 zwd1094 zwd1095 zwd99 zcd_X5_print (Nat.le_of_ble_eq_true rfl) (Nat.le_of_ble_eq_true rfl) (Nat.le_refl _) ⟨Nat.le_of_ble_eq_true rfl, Nat.le_of_ble_eq_true rfl⟩ ⟨rfl, zhn_X5_print⟩ rfl (Nat.le_of_ble_eq_true rfl) rfl (z_contV (fun μ14 h => ?_) h)
          refine s_aload_n A dX10_cell_77 rfl ?_
          refine s_getf (k := 10) (j := 11) (sl := true) (v := zR (some 130)) A dX10_cell_78 rfl zuw_X10 (Nat.le_of_ble_eq_true rfl) zwd349 (by decide) (zk_0 _) rfl ?_
          refine s_getf (k := 5) (j := 0) (sl := true) (v := zR (some 131)) A dX10_cell_81 rfl zuw_X5 (Nat.le_of_ble_eq_true rfl) zwd328 (by decide) (zk_130 _) rfl ?_
          refine s_iload_n A dX10_cell_84 rfl ?_
          obtain ⟨ox15, h⟩ := h
          refine z_iald A dX10_cell_85 (zk_131 _) (Nat.le_of_ble_eq_true rfl) ox15 ?_
          refine s_callS (M := mX10_codeOf) (n := 1) (d := 2) (mc := 0) (ms := 0) (av := [zI (zi μ14 131 x2)]) (st := []) A dX10_cell_86 zwd893 zwd894 zwd89 zcd_X10_codeOf (Nat.le_of_ble_eq_true rfl) (Nat.le_of_ble_eq_true rfl) (Nat.le_refl _) ⟨Nat.le_of_ble_eq_true rfl, Nat.le_of_ble_eq_true rfl⟩ zhn_X10_codeOf rfl (Nat.le_of_ble_eq_true rfl) rfl (z_contI (fun v16 μ16 h => ?_) h)
          exact s_iret A dX10_cell_89 hr hlk (Nat.le_of_ble_eq_true rfl) (Nat.le_of_ble_eq_true rfl) ⟨_, rfl, h⟩
        · have h := h.2 c13
          refine s_iconst A dX10_cell_66 ?_
          refine s_goto (tgt := 71) A dX10_cell_67 (by decide) ?_
          refine s_iload_n A dX10_cell_71 rfl ?_
          refine s_iconst A dX10_cell_72 ?_
          refine s_iadd A dX10_cell_73 ?_
          refine s_callV (a := 130) (k := 5) (N := 3) (sl := true) (M := mX5_print) (n := 5) (d := 10) (mc := 0) (ms := 0) (av := [zR (some 5), zR (some 105), zR (some 125), zI 1, zI (x2 + 1)]) (st := []) A dX10_cell_74 rfl (by decide) (zk_130 _) zwd1093 zwd1094 zwd1095 zwd99 zcd_X5_print (Nat.le_of_ble_eq_true rfl) (Nat.le_of_ble_eq_true rfl) (Nat.le_refl _) ⟨Nat.le_of_ble_eq_true rfl, Nat.le_of_ble_eq_true rfl⟩ ⟨rfl, zhn_X5_print⟩ rfl (Nat.le_of_ble_eq_true rfl) rfl (z_contV (fun μ17 h => ?_) h)
          refine s_aload_n A dX10_cell_77 rfl ?_
          refine s_getf (k := 10) (j := 11) (sl := true) (v := zR (some 130)) A dX10_cell_78 rfl zuw_X10 (Nat.le_of_ble_eq_true rfl) zwd349 (by decide) (zk_0 _) rfl ?_
          refine s_getf (k := 5) (j := 0) (sl := true) (v := zR (some 131)) A dX10_cell_81 rfl zuw_X5 (Nat.le_of_ble_eq_true rfl) zwd328 (by decide) (zk_130 _) rfl ?_
          refine s_iload_n A dX10_cell_84 rfl ?_
          obtain ⟨ox18, h⟩ := h
          refine z_iald A dX10_cell_85 (zk_131 _) (Nat.le_of_ble_eq_true rfl) ox18 ?_
          refine s_callS (M := mX10_codeOf) (n := 1) (d := 2) (mc := 0) (ms := 0) (av := [zI (zi μ17 131 x2)]) (st := []) A dX10_cell_86 zwd893 zwd894 zwd89 zcd_X10_codeOf (Nat.le_of_ble_eq_true rfl) (Nat.le_of_ble_eq_true rfl) (Nat.le_refl _) ⟨Nat.le_of_ble_eq_true rfl, Nat.le_of_ble_eq_true rfl⟩ zhn_X10_codeOf rfl (Nat.le_of_ble_eq_true rfl) rfl (z_contI (fun v19 μ19 h => ?_) h)
          exact s_iret A dX10_cell_89 hr hlk (Nat.le_of_ble_eq_true rfl) (Nat.le_of_ble_eq_true rfl) ⟨_, rfl, h⟩
      · have h := h.2 c10
        refine s_iconst A dX10_cell_39 ?_
        exact s_iret A dX10_cell_40 hr hlk (Nat.le_of_ble_eq_true rfl) (Nat.le_of_ble_eq_true rfl) ⟨_, rfl, h⟩
    · have h := h.2 c6
      refine s_bipush A dX10_cell_19 rfl ?_
      exact s_iret A dX10_cell_21 hr hlk (Nat.le_of_ble_eq_true rfl) (Nat.le_of_ble_eq_true rfl) ⟨_, rfl, h⟩
  · have h := h.2 c3
    refine s_iconst A dX10_cell_7 ?_
    exact s_iret A dX10_cell_8 hr hlk (Nat.le_of_ble_eq_true rfl) (Nat.le_of_ble_eq_true rfl) ⟨_, rfl, h⟩
theorem eX10_cell {G : zG} {F : Int → zM → Prop} {μ : zM} {x1 : Int} {x2 : Int} (h : ∀ J, zJ G true (12) 0 0 mX10_cell (zKI F) J → J 0 ([some (zR (some 0)), some (zI x1), some (zI x2)], [], μ, 0, 0)) : qX10_cell G x1 x2 μ F :=
  z_body (by decide +kernel) (Nat.le_of_ble_eq_true rfl) h
set_option maxRecDepth 20000 in
theorem rX10_slips_e {G : zG} {F : Int → zM → Prop} {J : Nat → zS → Prop} {μ : zM} (C : zJ G true (12) 0 0 mX10_slips (zKI F) J) (x1 : Int) (x2 : Int) (x3 : Int)
    (h : qX10_isInk G true x1 μ (fun v1 μ1 => zin v1 ∧ ((v1 = 0 → F (-1) μ1) ∧ (¬ (v1 = 0) → qX10_isIn G true x2 (-8) 8 μ1 (fun v4 μ4 => zin v4 ∧ ((v4 = 0 → F (-1) μ4) ∧ (¬ (v4 = 0) → qX10_isIn G true x3 (-8) 8 μ4 (fun v7 μ7 => zin v7 ∧ ((¬ v7 = 0 → qX7_cellCount G 5 μ7 (fun v10 μ10 => zin v10 ∧ ((¬ v10 = 0 → qX10_refresh G μ10 (fun μ13 => qX7_cellCount G 5 μ13 (fun v14 μ14 => qX5_print G 5 105 0 v14 μ14 (fun μ15 => J 84 ([some (zR (some 0)), some (zI x1), some (zI x2), some (zI x3), some (zI 0), some (zI 0), some (zI 0), none, none], [], μ15, 0, 0))))) ∧ (v10 = 0 → F (-2) μ10)))) ∧ (v7 = 0 → F (-1) μ7)))))))))) : J 0 ([some (zR (some 0)), some (zI x1), some (zI x2), some (zI x3), none, none, none, none, none], [], μ, 0, 0) := by
  obtain ⟨p, e, s, m, args, below, meth, c, A, hml, hr, hlk, hnm, rfl⟩ := C
  refine s_iload_n A dX10_slips_0 rfl ?_
  refine s_callS (M := mX10_isInk) (n := 1) (d := 2) (mc := 0) (ms := 0) (av := [zI x1]) (st := []) A dX10_slips_1 zwd629 zwd630 zwd89 zcd_X10_isInk (Nat.le_of_ble_eq_true rfl) (Nat.le_of_ble_eq_true rfl) (Nat.le_refl _) ⟨Nat.le_of_ble_eq_true rfl, Nat.le_of_ble_eq_true rfl⟩ zhn_X10_isInk rfl (Nat.le_of_ble_eq_true rfl) rfl (z_contI (fun v1 μ1 h => ?_) h)
  obtain ⟨oz2, h⟩ := h
  refine z_if_eq (tgt := 29) A dX10_slips_4 (by decide) oz2 (fun c3 => ?_) (fun c3 => ?_)
  · have h := h.1 c3
    refine s_iconst A dX10_slips_29 ?_
    exact s_iret A dX10_slips_30 hr hlk (Nat.le_of_ble_eq_true rfl) (Nat.le_of_ble_eq_true rfl) ⟨_, rfl, h⟩
  · have h := h.2 c3
    refine s_iload_n A dX10_slips_7 rfl ?_
    refine s_bipush A dX10_slips_8 rfl ?_
    refine s_bipush A dX10_slips_10 rfl ?_
    refine s_callS (M := mX10_isIn) (n := 3) (d := 0) (mc := 0) (ms := 0) (av := [zI x2, zI (-8), zI 8]) (st := []) A dX10_slips_12 zwd597 zwd598 zwd89 zcd_X10_isIn (Nat.le_of_ble_eq_true rfl) (Nat.le_of_ble_eq_true rfl) (Nat.le_refl _) ⟨Nat.le_of_ble_eq_true rfl, Nat.le_of_ble_eq_true rfl⟩ zhn_X10_isIn rfl (Nat.le_of_ble_eq_true rfl) rfl (z_contI (fun v4 μ4 h => ?_) h)
    obtain ⟨oz5, h⟩ := h
    refine z_if_eq (tgt := 29) A dX10_slips_15 (by decide) oz5 (fun c6 => ?_) (fun c6 => ?_)
    · have h := h.1 c6
      refine s_iconst A dX10_slips_29 ?_
      exact s_iret A dX10_slips_30 hr hlk (Nat.le_of_ble_eq_true rfl) (Nat.le_of_ble_eq_true rfl) ⟨_, rfl, h⟩
    · have h := h.2 c6
      refine s_iload_n A dX10_slips_18 rfl ?_
      refine s_bipush A dX10_slips_19 rfl ?_
      refine s_bipush A dX10_slips_21 rfl ?_
      refine s_callS (M := mX10_isIn) (n := 3) (d := 0) (mc := 0) (ms := 0) (av := [zI x3, zI (-8), zI 8]) (st := []) A dX10_slips_23 zwd597 zwd598 zwd89 zcd_X10_isIn (Nat.le_of_ble_eq_true rfl) (Nat.le_of_ble_eq_true rfl) (Nat.le_refl _) ⟨Nat.le_of_ble_eq_true rfl, Nat.le_of_ble_eq_true rfl⟩ zhn_X10_isIn rfl (Nat.le_of_ble_eq_true rfl) rfl (z_contI (fun v7 μ7 h => ?_) h)
      obtain ⟨oz8, h⟩ := h
      refine z_if_ne (tgt := 31) A dX10_slips_26 (by decide) oz8 (fun c9 => ?_) (fun c9 => ?_)
      · have h := h.1 c9
        refine s_aload_n A dX10_slips_31 rfl ?_
        refine s_getf (k := 10) (j := 2) (sl := true) (v := zR (some 5)) A dX10_slips_32 rfl zuw_X10 (Nat.le_of_ble_eq_true rfl) zwd340 (by decide) (zk_0 _) rfl ?_
        refine s_callV (a := 5) (k := 7) (N := 9) (sl := true) (M := mX7_cellCount) (n := 0) (d := 0) (mc := 0) (ms := 0) (av := []) (st := []) A dX10_slips_35 rfl (by decide) (zk_5 _) zwd719 zwd720 zwd721 zwd92 zcd_X7_cellCount (Nat.le_of_ble_eq_true rfl) (Nat.le_of_ble_eq_true rfl) (Nat.le_refl _) ⟨Nat.le_of_ble_eq_true rfl, Nat.le_of_ble_eq_true rfl⟩ ⟨rfl, zhn_X7_cellCount⟩ rfl (Nat.le_of_ble_eq_true rfl) rfl (z_contI (fun v10 μ10 h => ?_) h)
        obtain ⟨oz11, h⟩ := h
        refine z_if_ne (tgt := 44) A dX10_slips_38 (by decide) oz11 (fun c12 => ?_) (fun c12 => ?_)
        · have h := h.1 c12
          refine s_aload_n A dX10_slips_44 rfl ?_
          refine s_callV (a := 0) (k := 10) (N := 15) (sl := true) (M := mX10_refresh) (n := 0) (d := 11) (mc := 0) (ms := 0) (av := []) (st := []) A dX10_slips_45 rfl (by decide) (zk_0 _) zwd813 zwd815 zwd5 zwd89 zcd_X10_refresh (Nat.le_of_ble_eq_true rfl) (Nat.le_of_ble_eq_true rfl) (Nat.le_refl _) ⟨Nat.le_of_ble_eq_true rfl, Nat.le_of_ble_eq_true rfl⟩ ⟨rfl, zhn_X10_refresh⟩ rfl (Nat.le_of_ble_eq_true rfl) rfl (z_contV (fun μ13 h => ?_) h)
          refine s_aload_n A dX10_slips_48 rfl ?_
          refine s_getf (k := 10) (j := 11) (sl := true) (v := zR (some 130)) A dX10_slips_49 rfl zuw_X10 (Nat.le_of_ble_eq_true rfl) zwd349 (by decide) (zk_0 _) rfl ?_
          refine s_aload_n A dX10_slips_52 rfl ?_
          refine s_getf (k := 10) (j := 2) (sl := true) (v := zR (some 5)) A dX10_slips_53 rfl zuw_X10 (Nat.le_of_ble_eq_true rfl) zwd340 (by decide) (zk_0 _) rfl ?_
          refine s_aload_n A dX10_slips_56 rfl ?_
          refine s_getf (k := 10) (j := 6) (sl := true) (v := zR (some 105)) A dX10_slips_57 rfl zuw_X10 (Nat.le_of_ble_eq_true rfl) zwd344 (by decide) (zk_0 _) rfl ?_
          refine s_aload_n A dX10_slips_60 rfl ?_
          refine s_getf (k := 10) (j := 9) (sl := true) (v := zR (some 125)) A dX10_slips_61 rfl zuw_X10 (Nat.le_of_ble_eq_true rfl) zwd347 (by decide) (zk_0 _) rfl ?_
          refine s_iconst A dX10_slips_64 ?_
          refine s_aload_n A dX10_slips_65 rfl ?_
          refine s_getf (k := 10) (j := 2) (sl := true) (v := zR (some 5)) A dX10_slips_66 rfl zuw_X10 (Nat.le_of_ble_eq_true rfl) zwd340 (by decide) (zk_0 _) rfl ?_
          refine s_callV (a := 5) (k := 7) (N := 9) (sl := true) (M := mX7_cellCount) (n := 0) (d := 0) (mc := 0) (ms := 0) (av := []) (st := [zI 0, zR (some 125), zR (some 105), zR (some 5), zR (some 130)]) A dX10_slips_69 rfl (by decide) (zk_5 _) zwd719 zwd720 zwd721 zwd92 zcd_X7_cellCount (Nat.le_of_ble_eq_true rfl) (Nat.le_of_ble_eq_true rfl) (Nat.le_refl _) ⟨Nat.le_of_ble_eq_true rfl, Nat.le_of_ble_eq_true rfl⟩ ⟨rfl, zhn_X7_cellCount⟩ rfl (Nat.le_of_ble_eq_true rfl) rfl (z_contI (fun v14 μ14 h => ?_) h)
          refine s_callV (a := 130) (k := 5) (N := 3) (sl := true) (M := mX5_print) (n := 5) (d := 10) (mc := 0) (ms := 0) (av := [zR (some 5), zR (some 105), zR (some 125), zI 0, zI v14]) (st := []) A dX10_slips_72 rfl (by decide) (zk_130 _) zwd1093 zwd1094 zwd1095 zwd99 zcd_X5_print (Nat.le_of_ble_eq_true rfl) (Nat.le_of_ble_eq_true rfl) (Nat.le_refl _) ⟨Nat.le_of_ble_eq_true rfl, Nat.le_of_ble_eq_true rfl⟩ ⟨rfl, zhn_X5_print⟩ rfl (Nat.le_of_ble_eq_true rfl) rfl (z_contV (fun μ15 h => ?_) h)
          refine s_iconst A dX10_slips_75 ?_
          refine s_istore (L' := [some (zR (some 0)), some (zI x1), some (zI x2), some (zI x3), some (zI 0), none, none, none, none]) A dX10_slips_76 (Nat.le_of_ble_eq_true rfl) rfl ?_
          refine s_iconst A dX10_slips_78 ?_
          refine s_istore (L' := [some (zR (some 0)), some (zI x1), some (zI x2), some (zI x3), some (zI 0), some (zI 0), none, none, none]) A dX10_slips_79 (Nat.le_of_ble_eq_true rfl) rfl ?_
          refine s_iconst A dX10_slips_81 ?_
          refine s_istore (L' := [some (zR (some 0)), some (zI x1), some (zI x2), some (zI x3), some (zI 0), some (zI 0), some (zI 0), none, none]) A dX10_slips_82 (Nat.le_of_ble_eq_true rfl) rfl ?_
          exact h
        · have h := h.2 c12
          refine s_bipush A dX10_slips_41 rfl ?_
          exact s_iret A dX10_slips_43 hr hlk (Nat.le_of_ble_eq_true rfl) (Nat.le_of_ble_eq_true rfl) ⟨_, rfl, h⟩
      · have h := h.2 c9
        refine s_iconst A dX10_slips_29 ?_
        exact s_iret A dX10_slips_30 hr hlk (Nat.le_of_ble_eq_true rfl) (Nat.le_of_ble_eq_true rfl) ⟨_, rfl, h⟩
set_option maxRecDepth 20000 in
theorem rX10_slips_84 {G : zG} {F : Int → zM → Prop} {J : Nat → zS → Prop} {μ : zM} (C : zJ G true (12) 0 0 mX10_slips (zKI F) J) (x1 : Int) (x2 : Int) (x3 : Int) (x4 : Int) (x5 : Int) (x6 : Int)
    (h : qX7_cellCount G 5 μ (fun v1 μ1 => zin x6 ∧ zin v1 ∧ ((v1 ≤ x6 → qX6_clear G μ1 (fun μ5 => zin x5 ∧ qX6_append G x5 μ5 (fun μ7 => F x4 μ7))) ∧ (¬ (v1 ≤ x6) → (0 ≤ x6 ∧ x6 < 64) ∧ qX5_slipped G 5 x6 x1 x2 x3 μ1 (fun v9 μ9 => zin v9 ∧ zin (zi μ1 131 x6) ∧ ((v9 = zi μ1 131 x6 → J 84 ([some (zR (some 0)), some (zI x1), some (zI x2), some (zI x3), some (zI x4), some (zI x5), some (zI (x6 + 1)), none, none], [], μ9, 0, 0)) ∧ (¬ (v9 = zi μ1 131 x6) → qX0_distanceOf G 105 5 (zi μ1 131 x6) v9 μ9 (fun v13 μ13 => J 84 ([some (zR (some 0)), some (zI x1), some (zI x2), some (zI x3), some (zI (x4 + 1)), some (zI (x5 + v13)), some (zI (x6 + 1)), none, none], [], μ13, 0, 0))))))))) : J 84 ([some (zR (some 0)), some (zI x1), some (zI x2), some (zI x3), some (zI x4), some (zI x5), some (zI x6), none, none], [], μ, 0, 0) := by
  obtain ⟨p, e, s, m, args, below, meth, c, A, hml, hr, hlk, hnm, rfl⟩ := C
  refine s_iload A dX10_slips_84 rfl ?_
  refine s_aload_n A dX10_slips_86 rfl ?_
  refine s_getf (k := 10) (j := 2) (sl := true) (v := zR (some 5)) A dX10_slips_87 rfl zuw_X10 (Nat.le_of_ble_eq_true rfl) zwd340 (by decide) (zk_0 _) rfl ?_
  refine s_callV (a := 5) (k := 7) (N := 9) (sl := true) (M := mX7_cellCount) (n := 0) (d := 0) (mc := 0) (ms := 0) (av := []) (st := [zI x6]) A dX10_slips_90 rfl (by decide) (zk_5 _) zwd719 zwd720 zwd721 zwd92 zcd_X7_cellCount (Nat.le_of_ble_eq_true rfl) (Nat.le_of_ble_eq_true rfl) (Nat.le_refl _) ⟨Nat.le_of_ble_eq_true rfl, Nat.le_of_ble_eq_true rfl⟩ ⟨rfl, zhn_X7_cellCount⟩ rfl (Nat.le_of_ble_eq_true rfl) rfl (z_contI (fun v1 μ1 h => ?_) h)
  obtain ⟨oz2, h⟩ := h
  obtain ⟨oz3, h⟩ := h
  refine z_icmp_ge (tgt := 162) A dX10_slips_93 (by decide) oz2 oz3 (fun c4 => ?_) (fun c4 => ?_)
  · have h := h.1 c4
    refine s_aload_n A dX10_slips_162 rfl ?_
    refine s_getf (k := 10) (j := 1) (sl := true) (v := zR (some 3)) A dX10_slips_163 rfl zuw_X10 (Nat.le_of_ble_eq_true rfl) zwd339 (by decide) (zk_0 _) rfl ?_
    refine s_callV (a := 3) (k := 6) (N := 2) (sl := true) (M := mX6_clear) (n := 0) (d := 0) (mc := 0) (ms := 0) (av := []) (st := []) A dX10_slips_166 rfl (by decide) (zk_3 _) zwd786 zwd787 zwd788 zwd91 zcd_X6_clear (Nat.le_of_ble_eq_true rfl) (Nat.le_of_ble_eq_true rfl) (Nat.le_refl _) ⟨Nat.le_of_ble_eq_true rfl, Nat.le_of_ble_eq_true rfl⟩ ⟨rfl, zhn_X6_clear⟩ rfl (Nat.le_of_ble_eq_true rfl) rfl (z_contV (fun μ5 h => ?_) h)
    refine s_aload_n A dX10_slips_169 rfl ?_
    refine s_getf (k := 10) (j := 1) (sl := true) (v := zR (some 3)) A dX10_slips_170 rfl zuw_X10 (Nat.le_of_ble_eq_true rfl) zwd339 (by decide) (zk_0 _) rfl ?_
    refine s_iload A dX10_slips_173 rfl ?_
    obtain ⟨oz6, h⟩ := h
    refine z_i2l2 A dX10_slips_175 oz6 ?_
    refine s_callV (a := 3) (k := 6) (N := 2) (sl := true) (M := mX6_append) (n := 1) (d := 0) (mc := 0) (ms := 0) (av := [zL x5]) (st := []) A dX10_slips_176 rfl (by decide) (zk_3 _) zwd790 zwd791 zwd792 zwd91 zcd_X6_append (Nat.le_of_ble_eq_true rfl) (Nat.le_of_ble_eq_true rfl) (Nat.le_refl _) ⟨Nat.le_of_ble_eq_true rfl, Nat.le_of_ble_eq_true rfl⟩ ⟨rfl, zhn_X6_append⟩ rfl (Nat.le_of_ble_eq_true rfl) rfl (z_contV (fun μ7 h => ?_) h)
    refine s_iload A dX10_slips_179 rfl ?_
    exact s_iret A dX10_slips_181 hr hlk (Nat.le_of_ble_eq_true rfl) (Nat.le_of_ble_eq_true rfl) ⟨_, rfl, h⟩
  · have h := h.2 c4
    refine s_aload_n A dX10_slips_96 rfl ?_
    refine s_getf (k := 10) (j := 11) (sl := true) (v := zR (some 130)) A dX10_slips_97 rfl zuw_X10 (Nat.le_of_ble_eq_true rfl) zwd349 (by decide) (zk_0 _) rfl ?_
    refine s_getf (k := 5) (j := 0) (sl := true) (v := zR (some 131)) A dX10_slips_100 rfl zuw_X5 (Nat.le_of_ble_eq_true rfl) zwd328 (by decide) (zk_130 _) rfl ?_
    refine s_iload A dX10_slips_103 rfl ?_
    obtain ⟨ox8, h⟩ := h
    refine z_iald A dX10_slips_105 (zk_131 _) (Nat.le_of_ble_eq_true rfl) ox8 ?_
    refine s_istore (L' := [some (zR (some 0)), some (zI x1), some (zI x2), some (zI x3), some (zI x4), some (zI x5), some (zI x6), some (zI (zi μ1 131 x6)), none]) A dX10_slips_106 (Nat.le_of_ble_eq_true rfl) rfl ?_
    refine s_aload_n A dX10_slips_108 rfl ?_
    refine s_getf (k := 10) (j := 11) (sl := true) (v := zR (some 130)) A dX10_slips_109 rfl zuw_X10 (Nat.le_of_ble_eq_true rfl) zwd349 (by decide) (zk_0 _) rfl ?_
    refine s_aload_n A dX10_slips_112 rfl ?_
    refine s_getf (k := 10) (j := 2) (sl := true) (v := zR (some 5)) A dX10_slips_113 rfl zuw_X10 (Nat.le_of_ble_eq_true rfl) zwd340 (by decide) (zk_0 _) rfl ?_
    refine s_iload A dX10_slips_116 rfl ?_
    refine s_iload_n A dX10_slips_118 rfl ?_
    refine s_iload_n A dX10_slips_119 rfl ?_
    refine s_iload_n A dX10_slips_120 rfl ?_
    refine s_callV (a := 130) (k := 5) (N := 3) (sl := true) (M := mX5_slipped) (n := 5) (d := 2) (mc := 0) (ms := 0) (av := [zR (some 5), zI x6, zI x1, zI x2, zI x3]) (st := []) A dX10_slips_121 rfl (by decide) (zk_130 _) zwd1131 zwd1132 zwd1133 zwd99 zcd_X5_slipped (Nat.le_of_ble_eq_true rfl) (Nat.le_of_ble_eq_true rfl) (Nat.le_refl _) ⟨Nat.le_of_ble_eq_true rfl, Nat.le_of_ble_eq_true rfl⟩ ⟨rfl, zhn_X5_slipped⟩ rfl (Nat.le_of_ble_eq_true rfl) rfl (z_contI (fun v9 μ9 h => ?_) h)
    refine s_istore (L' := [some (zR (some 0)), some (zI x1), some (zI x2), some (zI x3), some (zI x4), some (zI x5), some (zI x6), some (zI (zi μ1 131 x6)), some (zI v9)]) A dX10_slips_124 (Nat.le_of_ble_eq_true rfl) rfl ?_
    refine s_iload A dX10_slips_126 rfl ?_
    refine s_iload A dX10_slips_128 rfl ?_
    obtain ⟨oz10, h⟩ := h
    obtain ⟨oz11, h⟩ := h
    refine z_icmp_eq (tgt := 156) A dX10_slips_130 (by decide) oz10 oz11 (fun c12 => ?_) (fun c12 => ?_)
    · have h := h.1 c12
      refine s_iinc (L' := [some (zR (some 0)), some (zI x1), some (zI x2), some (zI x3), some (zI x4), some (zI x5), some (zI (x6 + 1)), some (zI (zi μ1 131 x6)), some (zI v9)]) A dX10_slips_156 rfl rfl ?_
      refine s_goto (tgt := 84) A dX10_slips_159 (by decide) ?_
      exact z_wk (L' := [some (zR (some 0)), some (zI x1), some (zI x2), some (zI x3), some (zI x4), some (zI x5), some (zI (x6 + 1)), none, none]) ⟨rfl, rfl, rfl, rfl, rfl, rfl, rfl, trivial⟩ h
    · have h := h.2 c12
      refine s_iinc (L' := [some (zR (some 0)), some (zI x1), some (zI x2), some (zI x3), some (zI (x4 + 1)), some (zI x5), some (zI x6), some (zI (zi μ1 131 x6)), some (zI v9)]) A dX10_slips_133 rfl rfl ?_
      refine s_iload A dX10_slips_136 rfl ?_
      refine s_aload_n A dX10_slips_138 rfl ?_
      refine s_getf (k := 10) (j := 6) (sl := true) (v := zR (some 105)) A dX10_slips_139 rfl zuw_X10 (Nat.le_of_ble_eq_true rfl) zwd344 (by decide) (zk_0 _) rfl ?_
      refine s_aload_n A dX10_slips_142 rfl ?_
      refine s_getf (k := 10) (j := 2) (sl := true) (v := zR (some 5)) A dX10_slips_143 rfl zuw_X10 (Nat.le_of_ble_eq_true rfl) zwd340 (by decide) (zk_0 _) rfl ?_
      refine s_iload A dX10_slips_146 rfl ?_
      refine s_iload A dX10_slips_148 rfl ?_
      refine s_callV (a := 105) (k := 0) (N := 5) (sl := true) (M := mX0_distanceOf) (n := 3) (d := 3) (mc := 0) (ms := 0) (av := [zR (some 5), zI (zi μ1 131 x6), zI v9]) (st := [zI x5]) A dX10_slips_150 rfl (by decide) (zk_105 _) zwd1018 zwd1019 zwd1020 zwd95 zcd_X0_distanceOf (Nat.le_of_ble_eq_true rfl) (Nat.le_of_ble_eq_true rfl) (Nat.le_refl _) ⟨Nat.le_of_ble_eq_true rfl, Nat.le_of_ble_eq_true rfl⟩ ⟨rfl, zhn_X0_distanceOf⟩ rfl (Nat.le_of_ble_eq_true rfl) rfl (z_contI (fun v13 μ13 h => ?_) h)
      refine s_iadd A dX10_slips_153 ?_
      refine s_istore (L' := [some (zR (some 0)), some (zI x1), some (zI x2), some (zI x3), some (zI (x4 + 1)), some (zI (x5 + v13)), some (zI x6), some (zI (zi μ1 131 x6)), some (zI v9)]) A dX10_slips_154 (Nat.le_of_ble_eq_true rfl) rfl ?_
      refine s_iinc (L' := [some (zR (some 0)), some (zI x1), some (zI x2), some (zI x3), some (zI (x4 + 1)), some (zI (x5 + v13)), some (zI (x6 + 1)), some (zI (zi μ1 131 x6)), some (zI v9)]) A dX10_slips_156 rfl rfl ?_
      refine s_goto (tgt := 84) A dX10_slips_159 (by decide) ?_
      exact z_wk (L' := [some (zR (some 0)), some (zI x1), some (zI x2), some (zI x3), some (zI (x4 + 1)), some (zI (x5 + v13)), some (zI (x6 + 1)), none, none]) ⟨rfl, rfl, rfl, rfl, rfl, rfl, rfl, trivial⟩ h
theorem eX10_slips {G : zG} {F : Int → zM → Prop} {μ : zM} {x1 : Int} {x2 : Int} {x3 : Int} (h : ∀ J, zJ G true (12) 0 0 mX10_slips (zKI F) J → J 0 ([some (zR (some 0)), some (zI x1), some (zI x2), some (zI x3), none, none, none, none, none], [], μ, 0, 0)) : qX10_slips G x1 x2 x3 μ F :=
  z_body (by decide +kernel) (Nat.le_of_ble_eq_true rfl) h
set_option maxRecDepth 20000 in
theorem rX10_greys_e {G : zG} {F : Int → zM → Prop} {J : Nat → zS → Prop} {μ : zM} (C : zJ G true (12) 0 0 mX10_greys (zKI F) J) (x1 : Int) (x2 : Int)
    (h : qX10_isIn G true x1 0 8 μ (fun v1 μ1 => zin v1 ∧ ((¬ v1 = 0 → qX10_refresh G μ1 (fun μ4 => J 27 ([some (zR (some 0)), some (zI x1), some (zI x2), some (zI 0), some (zI (-1)), some (zI (-1)), some (zI 0), none], [], μ4, 0, 0))) ∧ (v1 = 0 → F (-1) μ1)))) : J 0 ([some (zR (some 0)), some (zI x1), some (zI x2), none, none, none, none, none], [], μ, 0, 0) := by
  obtain ⟨p, e, s, m, args, below, meth, c, A, hml, hr, hlk, hnm, rfl⟩ := C
  refine s_iload_n A dX10_greys_0 rfl ?_
  refine s_iconst A dX10_greys_1 ?_
  refine s_bipush A dX10_greys_2 rfl ?_
  refine s_callS (M := mX10_isIn) (n := 3) (d := 0) (mc := 0) (ms := 0) (av := [zI x1, zI 0, zI 8]) (st := []) A dX10_greys_4 zwd597 zwd598 zwd89 zcd_X10_isIn (Nat.le_of_ble_eq_true rfl) (Nat.le_of_ble_eq_true rfl) (Nat.le_refl _) ⟨Nat.le_of_ble_eq_true rfl, Nat.le_of_ble_eq_true rfl⟩ zhn_X10_isIn rfl (Nat.le_of_ble_eq_true rfl) rfl (z_contI (fun v1 μ1 h => ?_) h)
  obtain ⟨oz2, h⟩ := h
  refine z_if_ne (tgt := 12) A dX10_greys_7 (by decide) oz2 (fun c3 => ?_) (fun c3 => ?_)
  · have h := h.1 c3
    refine s_aload_n A dX10_greys_12 rfl ?_
    refine s_callV (a := 0) (k := 10) (N := 15) (sl := true) (M := mX10_refresh) (n := 0) (d := 11) (mc := 0) (ms := 0) (av := []) (st := []) A dX10_greys_13 rfl (by decide) (zk_0 _) zwd813 zwd815 zwd5 zwd89 zcd_X10_refresh (Nat.le_of_ble_eq_true rfl) (Nat.le_of_ble_eq_true rfl) (Nat.le_refl _) ⟨Nat.le_of_ble_eq_true rfl, Nat.le_of_ble_eq_true rfl⟩ ⟨rfl, zhn_X10_refresh⟩ rfl (Nat.le_of_ble_eq_true rfl) rfl (z_contV (fun μ4 h => ?_) h)
    refine s_iconst A dX10_greys_16 ?_
    refine s_istore_n (L' := [some (zR (some 0)), some (zI x1), some (zI x2), some (zI 0), none, none, none, none]) A dX10_greys_17 (Nat.le_of_ble_eq_true rfl) rfl ?_
    refine s_iconst A dX10_greys_18 ?_
    refine s_istore (L' := [some (zR (some 0)), some (zI x1), some (zI x2), some (zI 0), some (zI (-1)), none, none, none]) A dX10_greys_19 (Nat.le_of_ble_eq_true rfl) rfl ?_
    refine s_iconst A dX10_greys_21 ?_
    refine s_istore (L' := [some (zR (some 0)), some (zI x1), some (zI x2), some (zI 0), some (zI (-1)), some (zI (-1)), none, none]) A dX10_greys_22 (Nat.le_of_ble_eq_true rfl) rfl ?_
    refine s_iconst A dX10_greys_24 ?_
    refine s_istore (L' := [some (zR (some 0)), some (zI x1), some (zI x2), some (zI 0), some (zI (-1)), some (zI (-1)), some (zI 0), none]) A dX10_greys_25 (Nat.le_of_ble_eq_true rfl) rfl ?_
    exact h
  · have h := h.2 c3
    refine s_iconst A dX10_greys_10 ?_
    exact s_iret A dX10_greys_11 hr hlk (Nat.le_of_ble_eq_true rfl) (Nat.le_of_ble_eq_true rfl) ⟨_, rfl, h⟩
set_option maxRecDepth 20000 in
theorem rX10_greys_27 {G : zG} {F : Int → zM → Prop} {J : Nat → zS → Prop} {μ : zM} (C : zJ G true (12) 0 0 mX10_greys (zKI F) J) (x1 : Int) (x2 : Int) (x3 : Int) (x4 : Int) (x5 : Int) (x6 : Int)
    (h : zin x6 ∧ zin (zi μ 125 1) ∧ ((zi μ 125 1 ≤ x6 → qX6_clear G μ (fun μ4 => zin x3 ∧ ((x3 ≤ 0 → F x3 μ4) ∧ (¬ (x3 ≤ 0) → qX10_codeOf G true x4 μ4 (fun v7 μ7 => zin v7 ∧ qX6_append G v7 μ7 (fun μ9 => qX0_sum G 105 x4 μ9 (fun v10 μ10 => zin v10 ∧ qX6_append G v10 μ10 (fun μ12 => qX10_codeOf G true x5 μ12 (fun v13 μ13 => zin v13 ∧ qX6_append G v13 μ13 (fun μ15 => qX0_sum G 105 x5 μ15 (fun v16 μ16 => zin v16 ∧ qX6_append G v16 μ16 (fun μ18 => F x3 μ18)))))))))))) ∧ (¬ (zi μ 125 1 ≤ x6) → (0 ≤ x6 ∧ x6 < 6561) ∧ qX10_amountOf G true (zi μ 126 x6) 3 μ (fun v20 μ20 => zin v20 ∧ zin x1 ∧ ((¬ v20 = x1 → J 27 ([some (zR (some 0)), some (zI x1), some (zI x2), some (zI x3), some (zI x4), some (zI x5), some (zI (x6 + 1)), none], [], μ20, 0, 0)) ∧ (v20 = x1 → qX0_widest G 105 (zi μ 126 x6) μ20 (fun v24 μ24 => zin v24 ∧ zin x2 ∧ ((v24 ≤ x2 → zin x4 ∧ ((x4 < 0 → J 110 ([some (zR (some 0)), some (zI x1), some (zI x2), some (zI (x3 + 1)), some (zI (zi μ 126 x6)), some (zI x5), some (zI x6), some (zI (zi μ 126 x6))], [], μ24, 0, 0)) ∧ (¬ (x4 < 0) → qX0_sum G 105 (zi μ 126 x6) μ24 (fun v30 μ30 => qX0_sum G 105 x4 μ30 (fun v31 μ31 => zin v30 ∧ zin v31 ∧ ((v31 ≤ v30 → J 110 ([some (zR (some 0)), some (zI x1), some (zI x2), some (zI (x3 + 1)), some (zI x4), some (zI x5), some (zI x6), some (zI (zi μ 126 x6))], [], μ31, 0, 0)) ∧ (¬ (v31 ≤ v30) → J 110 ([some (zR (some 0)), some (zI x1), some (zI x2), some (zI (x3 + 1)), some (zI (zi μ 126 x6)), some (zI x5), some (zI x6), some (zI (zi μ 126 x6))], [], μ31, 0, 0)))))))) ∧ (¬ (v24 ≤ x2) → J 27 ([some (zR (some 0)), some (zI x1), some (zI x2), some (zI x3), some (zI x4), some (zI x5), some (zI (x6 + 1)), none], [], μ24, 0, 0)))))))))) : J 27 ([some (zR (some 0)), some (zI x1), some (zI x2), some (zI x3), some (zI x4), some (zI x5), some (zI x6), none], [], μ, 0, 0) := by
  obtain ⟨p, e, s, m, args, below, meth, c, A, hml, hr, hlk, hnm, rfl⟩ := C
  refine s_iload A dX10_greys_27 rfl ?_
  refine s_aload_n A dX10_greys_29 rfl ?_
  refine s_getf (k := 10) (j := 9) (sl := true) (v := zR (some 125)) A dX10_greys_30 rfl zuw_X10 (Nat.le_of_ble_eq_true rfl) zwd347 (by decide) (zk_0 _) rfl ?_
  refine s_getf (k := 4) (j := 1) (sl := true) (v := zI (zi μ 125 1)) A dX10_greys_33 rfl zuw_X4 (Nat.le_of_ble_eq_true rfl) zwd280 (by decide) (zk_125 _) rfl ?_
  obtain ⟨oz1, h⟩ := h
  obtain ⟨oz2, h⟩ := h
  refine z_icmp_ge (tgt := 146) A dX10_greys_36 (by decide) oz1 oz2 (fun c3 => ?_) (fun c3 => ?_)
  · have h := h.1 c3
    refine s_aload_n A dX10_greys_146 rfl ?_
    refine s_getf (k := 10) (j := 1) (sl := true) (v := zR (some 3)) A dX10_greys_147 rfl zuw_X10 (Nat.le_of_ble_eq_true rfl) zwd339 (by decide) (zk_0 _) rfl ?_
    refine s_callV (a := 3) (k := 6) (N := 2) (sl := true) (M := mX6_clear) (n := 0) (d := 0) (mc := 0) (ms := 0) (av := []) (st := []) A dX10_greys_150 rfl (by decide) (zk_3 _) zwd786 zwd787 zwd788 zwd91 zcd_X6_clear (Nat.le_of_ble_eq_true rfl) (Nat.le_of_ble_eq_true rfl) (Nat.le_refl _) ⟨Nat.le_of_ble_eq_true rfl, Nat.le_of_ble_eq_true rfl⟩ ⟨rfl, zhn_X6_clear⟩ rfl (Nat.le_of_ble_eq_true rfl) rfl (z_contV (fun μ4 h => ?_) h)
    refine s_iload_n A dX10_greys_153 rfl ?_
    obtain ⟨oz5, h⟩ := h
    refine z_if_le (tgt := 217) A dX10_greys_154 (by decide) oz5 (fun c6 => ?_) (fun c6 => ?_)
    · have h := h.1 c6
      refine s_iload_n A dX10_greys_217 rfl ?_
      exact s_iret A dX10_greys_218 hr hlk (Nat.le_of_ble_eq_true rfl) (Nat.le_of_ble_eq_true rfl) ⟨_, rfl, h⟩
    · have h := h.2 c6
      refine s_aload_n A dX10_greys_157 rfl ?_
      refine s_getf (k := 10) (j := 1) (sl := true) (v := zR (some 3)) A dX10_greys_158 rfl zuw_X10 (Nat.le_of_ble_eq_true rfl) zwd339 (by decide) (zk_0 _) rfl ?_
      refine s_iload A dX10_greys_161 rfl ?_
      refine s_callS (M := mX10_codeOf) (n := 1) (d := 2) (mc := 0) (ms := 0) (av := [zI x4]) (st := [zR (some 3)]) A dX10_greys_163 zwd893 zwd894 zwd89 zcd_X10_codeOf (Nat.le_of_ble_eq_true rfl) (Nat.le_of_ble_eq_true rfl) (Nat.le_refl _) ⟨Nat.le_of_ble_eq_true rfl, Nat.le_of_ble_eq_true rfl⟩ zhn_X10_codeOf rfl (Nat.le_of_ble_eq_true rfl) rfl (z_contI (fun v7 μ7 h => ?_) h)
      obtain ⟨oz8, h⟩ := h
      refine z_i2l2 A dX10_greys_166 oz8 ?_
      refine s_callV (a := 3) (k := 6) (N := 2) (sl := true) (M := mX6_append) (n := 1) (d := 0) (mc := 0) (ms := 0) (av := [zL v7]) (st := []) A dX10_greys_167 rfl (by decide) (zk_3 _) zwd790 zwd791 zwd792 zwd91 zcd_X6_append (Nat.le_of_ble_eq_true rfl) (Nat.le_of_ble_eq_true rfl) (Nat.le_refl _) ⟨Nat.le_of_ble_eq_true rfl, Nat.le_of_ble_eq_true rfl⟩ ⟨rfl, zhn_X6_append⟩ rfl (Nat.le_of_ble_eq_true rfl) rfl (z_contV (fun μ9 h => ?_) h)
      refine s_aload_n A dX10_greys_170 rfl ?_
      refine s_getf (k := 10) (j := 1) (sl := true) (v := zR (some 3)) A dX10_greys_171 rfl zuw_X10 (Nat.le_of_ble_eq_true rfl) zwd339 (by decide) (zk_0 _) rfl ?_
      refine s_aload_n A dX10_greys_174 rfl ?_
      refine s_getf (k := 10) (j := 6) (sl := true) (v := zR (some 105)) A dX10_greys_175 rfl zuw_X10 (Nat.le_of_ble_eq_true rfl) zwd344 (by decide) (zk_0 _) rfl ?_
      refine s_iload A dX10_greys_178 rfl ?_
      refine s_callV (a := 105) (k := 0) (N := 5) (sl := true) (M := mX0_sum) (n := 1) (d := 2) (mc := 0) (ms := 0) (av := [zI x4]) (st := [zR (some 3)]) A dX10_greys_180 rfl (by decide) (zk_105 _) zwd1147 zwd1148 zwd1149 zwd95 zcd_X0_sum (Nat.le_of_ble_eq_true rfl) (Nat.le_of_ble_eq_true rfl) (Nat.le_refl _) ⟨Nat.le_of_ble_eq_true rfl, Nat.le_of_ble_eq_true rfl⟩ ⟨rfl, zhn_X0_sum⟩ rfl (Nat.le_of_ble_eq_true rfl) rfl (z_contI (fun v10 μ10 h => ?_) h)
      obtain ⟨oz11, h⟩ := h
      refine z_i2l2 A dX10_greys_183 oz11 ?_
      refine s_callV (a := 3) (k := 6) (N := 2) (sl := true) (M := mX6_append) (n := 1) (d := 0) (mc := 0) (ms := 0) (av := [zL v10]) (st := []) A dX10_greys_184 rfl (by decide) (zk_3 _) zwd790 zwd791 zwd792 zwd91 zcd_X6_append (Nat.le_of_ble_eq_true rfl) (Nat.le_of_ble_eq_true rfl) (Nat.le_refl _) ⟨Nat.le_of_ble_eq_true rfl, Nat.le_of_ble_eq_true rfl⟩ ⟨rfl, zhn_X6_append⟩ rfl (Nat.le_of_ble_eq_true rfl) rfl (z_contV (fun μ12 h => ?_) h)
      refine s_aload_n A dX10_greys_187 rfl ?_
      refine s_getf (k := 10) (j := 1) (sl := true) (v := zR (some 3)) A dX10_greys_188 rfl zuw_X10 (Nat.le_of_ble_eq_true rfl) zwd339 (by decide) (zk_0 _) rfl ?_
      refine s_iload A dX10_greys_191 rfl ?_
      refine s_callS (M := mX10_codeOf) (n := 1) (d := 2) (mc := 0) (ms := 0) (av := [zI x5]) (st := [zR (some 3)]) A dX10_greys_193 zwd893 zwd894 zwd89 zcd_X10_codeOf (Nat.le_of_ble_eq_true rfl) (Nat.le_of_ble_eq_true rfl) (Nat.le_refl _) ⟨Nat.le_of_ble_eq_true rfl, Nat.le_of_ble_eq_true rfl⟩ zhn_X10_codeOf rfl (Nat.le_of_ble_eq_true rfl) rfl (z_contI (fun v13 μ13 h => ?_) h)
      obtain ⟨oz14, h⟩ := h
      refine z_i2l2 A dX10_greys_196 oz14 ?_
      refine s_callV (a := 3) (k := 6) (N := 2) (sl := true) (M := mX6_append) (n := 1) (d := 0) (mc := 0) (ms := 0) (av := [zL v13]) (st := []) A dX10_greys_197 rfl (by decide) (zk_3 _) zwd790 zwd791 zwd792 zwd91 zcd_X6_append (Nat.le_of_ble_eq_true rfl) (Nat.le_of_ble_eq_true rfl) (Nat.le_refl _) ⟨Nat.le_of_ble_eq_true rfl, Nat.le_of_ble_eq_true rfl⟩ ⟨rfl, zhn_X6_append⟩ rfl (Nat.le_of_ble_eq_true rfl) rfl (z_contV (fun μ15 h => ?_) h)
      refine s_aload_n A dX10_greys_200 rfl ?_
      refine s_getf (k := 10) (j := 1) (sl := true) (v := zR (some 3)) A dX10_greys_201 rfl zuw_X10 (Nat.le_of_ble_eq_true rfl) zwd339 (by decide) (zk_0 _) rfl ?_
      refine s_aload_n A dX10_greys_204 rfl ?_
      refine s_getf (k := 10) (j := 6) (sl := true) (v := zR (some 105)) A dX10_greys_205 rfl zuw_X10 (Nat.le_of_ble_eq_true rfl) zwd344 (by decide) (zk_0 _) rfl ?_
      refine s_iload A dX10_greys_208 rfl ?_
      refine s_callV (a := 105) (k := 0) (N := 5) (sl := true) (M := mX0_sum) (n := 1) (d := 2) (mc := 0) (ms := 0) (av := [zI x5]) (st := [zR (some 3)]) A dX10_greys_210 rfl (by decide) (zk_105 _) zwd1147 zwd1148 zwd1149 zwd95 zcd_X0_sum (Nat.le_of_ble_eq_true rfl) (Nat.le_of_ble_eq_true rfl) (Nat.le_refl _) ⟨Nat.le_of_ble_eq_true rfl, Nat.le_of_ble_eq_true rfl⟩ ⟨rfl, zhn_X0_sum⟩ rfl (Nat.le_of_ble_eq_true rfl) rfl (z_contI (fun v16 μ16 h => ?_) h)
      obtain ⟨oz17, h⟩ := h
      refine z_i2l2 A dX10_greys_213 oz17 ?_
      refine s_callV (a := 3) (k := 6) (N := 2) (sl := true) (M := mX6_append) (n := 1) (d := 0) (mc := 0) (ms := 0) (av := [zL v16]) (st := []) A dX10_greys_214 rfl (by decide) (zk_3 _) zwd790 zwd791 zwd792 zwd91 zcd_X6_append (Nat.le_of_ble_eq_true rfl) (Nat.le_of_ble_eq_true rfl) (Nat.le_refl _) ⟨Nat.le_of_ble_eq_true rfl, Nat.le_of_ble_eq_true rfl⟩ ⟨rfl, zhn_X6_append⟩ rfl (Nat.le_of_ble_eq_true rfl) rfl (z_contV (fun μ18 h => ?_) h)
      refine s_iload_n A dX10_greys_217 rfl ?_
      exact s_iret A dX10_greys_218 hr hlk (Nat.le_of_ble_eq_true rfl) (Nat.le_of_ble_eq_true rfl) ⟨_, rfl, h⟩
  · have h := h.2 c3
    refine s_aload_n A dX10_greys_39 rfl ?_
    refine s_getf (k := 10) (j := 9) (sl := true) (v := zR (some 125)) A dX10_greys_40 rfl zuw_X10 (Nat.le_of_ble_eq_true rfl) zwd347 (by decide) (zk_0 _) rfl ?_
    refine s_getf (k := 4) (j := 0) (sl := true) (v := zR (some 126)) A dX10_greys_43 rfl zuw_X4 (Nat.le_of_ble_eq_true rfl) zwd278 (by decide) (zk_125 _) rfl ?_
    refine s_iload A dX10_greys_46 rfl ?_
    obtain ⟨ox19, h⟩ := h
    refine z_iald A dX10_greys_48 (zk_126 _) (Nat.le_of_ble_eq_true rfl) ox19 ?_
    refine s_istore (L' := [some (zR (some 0)), some (zI x1), some (zI x2), some (zI x3), some (zI x4), some (zI x5), some (zI x6), some (zI (zi μ 126 x6))]) A dX10_greys_49 (Nat.le_of_ble_eq_true rfl) rfl ?_
    refine s_iload A dX10_greys_51 rfl ?_
    refine s_iconst A dX10_greys_53 ?_
    refine s_callS (M := mX10_amountOf) (n := 2) (d := 0) (mc := 0) (ms := 0) (av := [zI (zi μ 126 x6), zI 3]) (st := []) A dX10_greys_54 zwd896 zwd840 zwd89 zcd_X10_amountOf (Nat.le_of_ble_eq_true rfl) (Nat.le_of_ble_eq_true rfl) (Nat.le_refl _) ⟨Nat.le_of_ble_eq_true rfl, Nat.le_of_ble_eq_true rfl⟩ zhn_X10_amountOf rfl (Nat.le_of_ble_eq_true rfl) rfl (z_contI (fun v20 μ20 h => ?_) h)
    refine s_iload_n A dX10_greys_57 rfl ?_
    obtain ⟨oz21, h⟩ := h
    obtain ⟨oz22, h⟩ := h
    refine z_icmp_ne (tgt := 140) A dX10_greys_58 (by decide) oz21 oz22 (fun c23 => ?_) (fun c23 => ?_)
    · have h := h.1 c23
      refine s_iinc (L' := [some (zR (some 0)), some (zI x1), some (zI x2), some (zI x3), some (zI x4), some (zI x5), some (zI (x6 + 1)), some (zI (zi μ 126 x6))]) A dX10_greys_140 rfl rfl ?_
      refine s_goto (tgt := 27) A dX10_greys_143 (by decide) ?_
      exact z_wk (L' := [some (zR (some 0)), some (zI x1), some (zI x2), some (zI x3), some (zI x4), some (zI x5), some (zI (x6 + 1)), none]) ⟨rfl, rfl, rfl, rfl, rfl, rfl, rfl, trivial⟩ h
    · have h := h.2 c23
      refine s_aload_n A dX10_greys_61 rfl ?_
      refine s_getf (k := 10) (j := 6) (sl := true) (v := zR (some 105)) A dX10_greys_62 rfl zuw_X10 (Nat.le_of_ble_eq_true rfl) zwd344 (by decide) (zk_0 _) rfl ?_
      refine s_iload A dX10_greys_65 rfl ?_
      refine s_callV (a := 105) (k := 0) (N := 5) (sl := true) (M := mX0_widest) (n := 1) (d := 8) (mc := 0) (ms := 0) (av := [zI (zi μ 126 x6)]) (st := []) A dX10_greys_67 rfl (by decide) (zk_105 _) zwd1141 zwd1142 zwd1143 zwd95 zcd_X0_widest (Nat.le_of_ble_eq_true rfl) (Nat.le_of_ble_eq_true rfl) (Nat.le_refl _) ⟨Nat.le_of_ble_eq_true rfl, Nat.le_of_ble_eq_true rfl⟩ ⟨rfl, zhn_X0_widest⟩ rfl (Nat.le_of_ble_eq_true rfl) rfl (z_contI (fun v24 μ24 h => ?_) h)
      refine s_iload_n A dX10_greys_70 rfl ?_
      obtain ⟨oz25, h⟩ := h
      obtain ⟨oz26, h⟩ := h
      refine z_icmp_le (tgt := 77) A dX10_greys_71 (by decide) oz25 oz26 (fun c27 => ?_) (fun c27 => ?_)
      · have h := h.1 c27
        refine s_iinc (L' := [some (zR (some 0)), some (zI x1), some (zI x2), some (zI (x3 + 1)), some (zI x4), some (zI x5), some (zI x6), some (zI (zi μ 126 x6))]) A dX10_greys_77 rfl rfl ?_
        refine s_iload A dX10_greys_80 rfl ?_
        obtain ⟨oz28, h⟩ := h
        refine z_if_lt (tgt := 106) A dX10_greys_82 (by decide) oz28 (fun c29 => ?_) (fun c29 => ?_)
        · have h := h.1 c29
          refine s_iload A dX10_greys_106 rfl ?_
          refine s_istore (L' := [some (zR (some 0)), some (zI x1), some (zI x2), some (zI (x3 + 1)), some (zI (zi μ 126 x6)), some (zI x5), some (zI x6), some (zI (zi μ 126 x6))]) A dX10_greys_108 (Nat.le_of_ble_eq_true rfl) rfl ?_
          exact h
        · have h := h.2 c29
          refine s_aload_n A dX10_greys_85 rfl ?_
          refine s_getf (k := 10) (j := 6) (sl := true) (v := zR (some 105)) A dX10_greys_86 rfl zuw_X10 (Nat.le_of_ble_eq_true rfl) zwd344 (by decide) (zk_0 _) rfl ?_
          refine s_iload A dX10_greys_89 rfl ?_
          refine s_callV (a := 105) (k := 0) (N := 5) (sl := true) (M := mX0_sum) (n := 1) (d := 2) (mc := 0) (ms := 0) (av := [zI (zi μ 126 x6)]) (st := []) A dX10_greys_91 rfl (by decide) (zk_105 _) zwd1147 zwd1148 zwd1149 zwd95 zcd_X0_sum (Nat.le_of_ble_eq_true rfl) (Nat.le_of_ble_eq_true rfl) (Nat.le_refl _) ⟨Nat.le_of_ble_eq_true rfl, Nat.le_of_ble_eq_true rfl⟩ ⟨rfl, zhn_X0_sum⟩ rfl (Nat.le_of_ble_eq_true rfl) rfl (z_contI (fun v30 μ30 h => ?_) h)
          refine s_aload_n A dX10_greys_94 rfl ?_
          refine s_getf (k := 10) (j := 6) (sl := true) (v := zR (some 105)) A dX10_greys_95 rfl zuw_X10 (Nat.le_of_ble_eq_true rfl) zwd344 (by decide) (zk_0 _) rfl ?_
          refine s_iload A dX10_greys_98 rfl ?_
          refine s_callV (a := 105) (k := 0) (N := 5) (sl := true) (M := mX0_sum) (n := 1) (d := 2) (mc := 0) (ms := 0) (av := [zI x4]) (st := [zI v30]) A dX10_greys_100 rfl (by decide) (zk_105 _) zwd1147 zwd1148 zwd1149 zwd95 zcd_X0_sum (Nat.le_of_ble_eq_true rfl) (Nat.le_of_ble_eq_true rfl) (Nat.le_refl _) ⟨Nat.le_of_ble_eq_true rfl, Nat.le_of_ble_eq_true rfl⟩ ⟨rfl, zhn_X0_sum⟩ rfl (Nat.le_of_ble_eq_true rfl) rfl (z_contI (fun v31 μ31 h => ?_) h)
          obtain ⟨oz32, h⟩ := h
          obtain ⟨oz33, h⟩ := h
          refine z_icmp_ge (tgt := 110) A dX10_greys_103 (by decide) oz32 oz33 (fun c34 => ?_) (fun c34 => ?_)
          · have h := h.1 c34
            exact h
          · have h := h.2 c34
            refine s_iload A dX10_greys_106 rfl ?_
            refine s_istore (L' := [some (zR (some 0)), some (zI x1), some (zI x2), some (zI (x3 + 1)), some (zI (zi μ 126 x6)), some (zI x5), some (zI x6), some (zI (zi μ 126 x6))]) A dX10_greys_108 (Nat.le_of_ble_eq_true rfl) rfl ?_
            exact h
      · have h := h.2 c27
        refine s_goto (tgt := 140) A dX10_greys_74 (by decide) ?_
        refine s_iinc (L' := [some (zR (some 0)), some (zI x1), some (zI x2), some (zI x3), some (zI x4), some (zI x5), some (zI (x6 + 1)), some (zI (zi μ 126 x6))]) A dX10_greys_140 rfl rfl ?_
        refine s_goto (tgt := 27) A dX10_greys_143 (by decide) ?_
        exact z_wk (L' := [some (zR (some 0)), some (zI x1), some (zI x2), some (zI x3), some (zI x4), some (zI x5), some (zI (x6 + 1)), none]) ⟨rfl, rfl, rfl, rfl, rfl, rfl, rfl, trivial⟩ h
set_option maxRecDepth 20000 in
theorem rX10_greys_110 {G : zG} {F : Int → zM → Prop} {J : Nat → zS → Prop} {μ : zM} (C : zJ G true (12) 0 0 mX10_greys (zKI F) J) (x1 : Int) (x2 : Int) (x3 : Int) (x4 : Int) (x5 : Int) (x6 : Int) (x7 : Int)
    (h : zin x5 ∧ ((x5 < 0 → J 27 ([some (zR (some 0)), some (zI x1), some (zI x2), some (zI x3), some (zI x4), some (zI x7), some (zI (x6 + 1)), none], [], μ, 0, 0)) ∧ (¬ (x5 < 0) → qX0_sum G 105 x7 μ (fun v3 μ3 => qX0_sum G 105 x5 μ3 (fun v4 μ4 => zin v3 ∧ zin v4 ∧ ((v3 ≤ v4 → J 27 ([some (zR (some 0)), some (zI x1), some (zI x2), some (zI x3), some (zI x4), some (zI x5), some (zI (x6 + 1)), none], [], μ4, 0, 0)) ∧ (¬ (v3 ≤ v4) → J 27 ([some (zR (some 0)), some (zI x1), some (zI x2), some (zI x3), some (zI x4), some (zI x7), some (zI (x6 + 1)), none], [], μ4, 0, 0)))))))) : J 110 ([some (zR (some 0)), some (zI x1), some (zI x2), some (zI x3), some (zI x4), some (zI x5), some (zI x6), some (zI x7)], [], μ, 0, 0) := by
  obtain ⟨p, e, s, m, args, below, meth, c, A, hml, hr, hlk, hnm, rfl⟩ := C
  refine s_iload A dX10_greys_110 rfl ?_
  obtain ⟨oz1, h⟩ := h
  refine z_if_lt (tgt := 136) A dX10_greys_112 (by decide) oz1 (fun c2 => ?_) (fun c2 => ?_)
  · have h := h.1 c2
    refine s_iload A dX10_greys_136 rfl ?_
    refine s_istore (L' := [some (zR (some 0)), some (zI x1), some (zI x2), some (zI x3), some (zI x4), some (zI x7), some (zI x6), some (zI x7)]) A dX10_greys_138 (Nat.le_of_ble_eq_true rfl) rfl ?_
    refine s_iinc (L' := [some (zR (some 0)), some (zI x1), some (zI x2), some (zI x3), some (zI x4), some (zI x7), some (zI (x6 + 1)), some (zI x7)]) A dX10_greys_140 rfl rfl ?_
    refine s_goto (tgt := 27) A dX10_greys_143 (by decide) ?_
    exact z_wk (L' := [some (zR (some 0)), some (zI x1), some (zI x2), some (zI x3), some (zI x4), some (zI x7), some (zI (x6 + 1)), none]) ⟨rfl, rfl, rfl, rfl, rfl, rfl, rfl, trivial⟩ h
  · have h := h.2 c2
    refine s_aload_n A dX10_greys_115 rfl ?_
    refine s_getf (k := 10) (j := 6) (sl := true) (v := zR (some 105)) A dX10_greys_116 rfl zuw_X10 (Nat.le_of_ble_eq_true rfl) zwd344 (by decide) (zk_0 _) rfl ?_
    refine s_iload A dX10_greys_119 rfl ?_
    refine s_callV (a := 105) (k := 0) (N := 5) (sl := true) (M := mX0_sum) (n := 1) (d := 2) (mc := 0) (ms := 0) (av := [zI x7]) (st := []) A dX10_greys_121 rfl (by decide) (zk_105 _) zwd1147 zwd1148 zwd1149 zwd95 zcd_X0_sum (Nat.le_of_ble_eq_true rfl) (Nat.le_of_ble_eq_true rfl) (Nat.le_refl _) ⟨Nat.le_of_ble_eq_true rfl, Nat.le_of_ble_eq_true rfl⟩ ⟨rfl, zhn_X0_sum⟩ rfl (Nat.le_of_ble_eq_true rfl) rfl (z_contI (fun v3 μ3 h => ?_) h)
    refine s_aload_n A dX10_greys_124 rfl ?_
    refine s_getf (k := 10) (j := 6) (sl := true) (v := zR (some 105)) A dX10_greys_125 rfl zuw_X10 (Nat.le_of_ble_eq_true rfl) zwd344 (by decide) (zk_0 _) rfl ?_
    refine s_iload A dX10_greys_128 rfl ?_
    refine s_callV (a := 105) (k := 0) (N := 5) (sl := true) (M := mX0_sum) (n := 1) (d := 2) (mc := 0) (ms := 0) (av := [zI x5]) (st := [zI v3]) A dX10_greys_130 rfl (by decide) (zk_105 _) zwd1147 zwd1148 zwd1149 zwd95 zcd_X0_sum (Nat.le_of_ble_eq_true rfl) (Nat.le_of_ble_eq_true rfl) (Nat.le_refl _) ⟨Nat.le_of_ble_eq_true rfl, Nat.le_of_ble_eq_true rfl⟩ ⟨rfl, zhn_X0_sum⟩ rfl (Nat.le_of_ble_eq_true rfl) rfl (z_contI (fun v4 μ4 h => ?_) h)
    obtain ⟨oz5, h⟩ := h
    obtain ⟨oz6, h⟩ := h
    refine z_icmp_le (tgt := 140) A dX10_greys_133 (by decide) oz5 oz6 (fun c7 => ?_) (fun c7 => ?_)
    · have h := h.1 c7
      refine s_iinc (L' := [some (zR (some 0)), some (zI x1), some (zI x2), some (zI x3), some (zI x4), some (zI x5), some (zI (x6 + 1)), some (zI x7)]) A dX10_greys_140 rfl rfl ?_
      refine s_goto (tgt := 27) A dX10_greys_143 (by decide) ?_
      exact z_wk (L' := [some (zR (some 0)), some (zI x1), some (zI x2), some (zI x3), some (zI x4), some (zI x5), some (zI (x6 + 1)), none]) ⟨rfl, rfl, rfl, rfl, rfl, rfl, rfl, trivial⟩ h
    · have h := h.2 c7
      refine s_iload A dX10_greys_136 rfl ?_
      refine s_istore (L' := [some (zR (some 0)), some (zI x1), some (zI x2), some (zI x3), some (zI x4), some (zI x7), some (zI x6), some (zI x7)]) A dX10_greys_138 (Nat.le_of_ble_eq_true rfl) rfl ?_
      refine s_iinc (L' := [some (zR (some 0)), some (zI x1), some (zI x2), some (zI x3), some (zI x4), some (zI x7), some (zI (x6 + 1)), some (zI x7)]) A dX10_greys_140 rfl rfl ?_
      refine s_goto (tgt := 27) A dX10_greys_143 (by decide) ?_
      exact z_wk (L' := [some (zR (some 0)), some (zI x1), some (zI x2), some (zI x3), some (zI x4), some (zI x7), some (zI (x6 + 1)), none]) ⟨rfl, rfl, rfl, rfl, rfl, rfl, rfl, trivial⟩ h
theorem eX10_greys {G : zG} {F : Int → zM → Prop} {μ : zM} {x1 : Int} {x2 : Int} (h : ∀ J, zJ G true (12) 0 0 mX10_greys (zKI F) J → J 0 ([some (zR (some 0)), some (zI x1), some (zI x2), none, none, none, none, none], [], μ, 0, 0)) : qX10_greys G x1 x2 μ F :=
  z_body (by decide +kernel) (Nat.le_of_ble_eq_true rfl) h
set_option maxRecDepth 20000 in
theorem rX10_rank_e {G : zG} {ph : Bool} {F : Int → zM → Prop} {J : Nat → zS → Prop} {μ : zM} (C : zJ G ph (2) 0 0 mX10_rank (zKI F) J) (x0 : Int) (x1 : Int)
    (h : qX10_amountOf G ph x1 3 μ (fun v1 μ1 => qX10_totalOf G ph x1 μ1 (fun v2 μ2 => zin x0 ∧ ((¬ x0 = 0 → ((¬ x0 = 1 → F ((v1 * 100) + v2) μ2) ∧ (x0 = 1 → F (((v2 * 100) + 8) - v1) μ2))) ∧ (x0 = 0 → F (((8 - v1) * 100) + v2) μ2))))) : J 0 ([some (zI x0), some (zI x1), none, none], [], μ, 0, 0) := by
  obtain ⟨p, e, s, m, args, below, meth, c, A, hml, hr, hlk, hnm, rfl⟩ := C
  refine s_iload_n A dX10_rank_0 rfl ?_
  refine s_iconst A dX10_rank_1 ?_
  refine s_callS (M := mX10_amountOf) (n := 2) (d := 0) (mc := 0) (ms := 0) (av := [zI x1, zI 3]) (st := []) A dX10_rank_2 zwd896 zwd840 zwd89 zcd_X10_amountOf (Nat.le_of_ble_eq_true rfl) (Nat.le_of_ble_eq_true rfl) (Nat.le_refl _) ⟨Nat.le_of_ble_eq_true rfl, Nat.le_of_ble_eq_true rfl⟩ zhn_X10_amountOf rfl (Nat.le_of_ble_eq_true rfl) rfl (z_contI (fun v1 μ1 h => ?_) h)
  refine s_istore_n (L' := [some (zI x0), some (zI x1), some (zI v1), none]) A dX10_rank_5 (Nat.le_of_ble_eq_true rfl) rfl ?_
  refine s_iload_n A dX10_rank_6 rfl ?_
  refine s_callS (M := mX10_totalOf) (n := 1) (d := 0) (mc := 0) (ms := 0) (av := [zI x1]) (st := []) A dX10_rank_7 zwd867 zwd856 zwd89 zcd_X10_totalOf (Nat.le_of_ble_eq_true rfl) (Nat.le_of_ble_eq_true rfl) (Nat.le_refl _) ⟨Nat.le_of_ble_eq_true rfl, Nat.le_of_ble_eq_true rfl⟩ zhn_X10_totalOf rfl (Nat.le_of_ble_eq_true rfl) rfl (z_contI (fun v2 μ2 h => ?_) h)
  refine s_istore_n (L' := [some (zI x0), some (zI x1), some (zI v1), some (zI v2)]) A dX10_rank_10 (Nat.le_of_ble_eq_true rfl) rfl ?_
  refine s_iload_n A dX10_rank_11 rfl ?_
  obtain ⟨oz3, h⟩ := h
  refine z_if_ne (tgt := 25) A dX10_rank_12 (by decide) oz3 (fun c4 => ?_) (fun c4 => ?_)
  · have h := h.1 c4
    refine s_iload_n A dX10_rank_25 rfl ?_
    refine s_iconst A dX10_rank_26 ?_
    refine z_icmp_ne (tgt := 40) A dX10_rank_27 (by decide) oz3 ⟨by decide, by decide⟩ (fun c5 => ?_) (fun c5 => ?_)
    · have h := h.1 c5
      refine s_iload_n A dX10_rank_40 rfl ?_
      refine s_bipush A dX10_rank_41 rfl ?_
      refine s_imul A dX10_rank_43 ?_
      refine s_iload_n A dX10_rank_44 rfl ?_
      refine s_iadd A dX10_rank_45 ?_
      exact s_iret A dX10_rank_46 hr hlk (Nat.le_of_ble_eq_true rfl) (Nat.le_of_ble_eq_true rfl) ⟨_, rfl, h⟩
    · have h := h.2 c5
      refine s_iload_n A dX10_rank_30 rfl ?_
      refine s_bipush A dX10_rank_31 rfl ?_
      refine s_imul A dX10_rank_33 ?_
      refine s_bipush A dX10_rank_34 rfl ?_
      refine s_iadd A dX10_rank_36 ?_
      refine s_iload_n A dX10_rank_37 rfl ?_
      refine s_isub A dX10_rank_38 ?_
      exact s_iret A dX10_rank_39 hr hlk (Nat.le_of_ble_eq_true rfl) (Nat.le_of_ble_eq_true rfl) ⟨_, rfl, h⟩
  · have h := h.2 c4
    refine s_bipush A dX10_rank_15 rfl ?_
    refine s_iload_n A dX10_rank_17 rfl ?_
    refine s_isub A dX10_rank_18 ?_
    refine s_bipush A dX10_rank_19 rfl ?_
    refine s_imul A dX10_rank_21 ?_
    refine s_iload_n A dX10_rank_22 rfl ?_
    refine s_iadd A dX10_rank_23 ?_
    exact s_iret A dX10_rank_24 hr hlk (Nat.le_of_ble_eq_true rfl) (Nat.le_of_ble_eq_true rfl) ⟨_, rfl, h⟩
theorem eX10_rank {G : zG} {ph : Bool} {F : Int → zM → Prop} {μ : zM} {x0 : Int} {x1 : Int} (h : ∀ J, zJ G ph (2) 0 0 mX10_rank (zKI F) J → J 0 ([some (zI x0), some (zI x1), none, none], [], μ, 0, 0)) : qX10_rank G ph x0 x1 μ F :=
  z_body (by decide +kernel) (Nat.le_of_ble_eq_true rfl) h
set_option maxRecDepth 20000 in
theorem rX10_replaces_e {G : zG} {F : Int → zM → Prop} {J : Nat → zS → Prop} {μ : zM} (C : zJ G true (12) 0 0 mX10_replaces (zKI F) J) (x1 : Int) (x2 : Int) (x3 : Int)
    (h : qX10_placeOf G true x2 μ (fun v1 μ1 => qX10_isIn G true x1 0 2 μ1 (fun v2 μ2 => zin v2 ∧ ((v2 = 0 → F (-1) μ2) ∧ (¬ (v2 = 0) → zin v1 ∧ ((0 ≤ v1 → qX10_refresh G μ2 (fun μ7 => J 35 ([some (zR (some 0)), some (zI x1), none, some (zI x3), some (zI v1), some (zI 0), some (zI (-1)), some (zI 0), none], [], μ7, 0, 0))) ∧ (¬ (0 ≤ v1) → F (-1) μ2))))))) : J 0 ([some (zR (some 0)), some (zI x1), some (zI x2), some (zI x3), none, none, none, none, none], [], μ, 0, 0) := by
  obtain ⟨p, e, s, m, args, below, meth, c, A, hml, hr, hlk, hnm, rfl⟩ := C
  refine s_iload_n A dX10_replaces_0 rfl ?_
  refine s_callS (M := mX10_placeOf) (n := 1) (d := 2) (mc := 0) (ms := 0) (av := [zI x2]) (st := []) A dX10_replaces_1 zwd806 zwd807 zwd89 zcd_X10_placeOf (Nat.le_of_ble_eq_true rfl) (Nat.le_of_ble_eq_true rfl) (Nat.le_refl _) ⟨Nat.le_of_ble_eq_true rfl, Nat.le_of_ble_eq_true rfl⟩ zhn_X10_placeOf rfl (Nat.le_of_ble_eq_true rfl) rfl (z_contI (fun v1 μ1 h => ?_) h)
  refine s_istore (L' := [some (zR (some 0)), some (zI x1), some (zI x2), some (zI x3), some (zI v1), none, none, none, none]) A dX10_replaces_4 (Nat.le_of_ble_eq_true rfl) rfl ?_
  refine s_iload_n A dX10_replaces_6 rfl ?_
  refine s_iconst A dX10_replaces_7 ?_
  refine s_iconst A dX10_replaces_8 ?_
  refine s_callS (M := mX10_isIn) (n := 3) (d := 0) (mc := 0) (ms := 0) (av := [zI x1, zI 0, zI 2]) (st := []) A dX10_replaces_9 zwd597 zwd598 zwd89 zcd_X10_isIn (Nat.le_of_ble_eq_true rfl) (Nat.le_of_ble_eq_true rfl) (Nat.le_refl _) ⟨Nat.le_of_ble_eq_true rfl, Nat.le_of_ble_eq_true rfl⟩ zhn_X10_isIn rfl (Nat.le_of_ble_eq_true rfl) rfl (z_contI (fun v2 μ2 h => ?_) h)
  obtain ⟨oz3, h⟩ := h
  refine z_if_eq (tgt := 20) A dX10_replaces_12 (by decide) oz3 (fun c4 => ?_) (fun c4 => ?_)
  · have h := h.1 c4
    refine s_iconst A dX10_replaces_20 ?_
    exact s_iret A dX10_replaces_21 hr hlk (Nat.le_of_ble_eq_true rfl) (Nat.le_of_ble_eq_true rfl) ⟨_, rfl, h⟩
  · have h := h.2 c4
    refine s_iload A dX10_replaces_15 rfl ?_
    obtain ⟨oz5, h⟩ := h
    refine z_if_ge (tgt := 22) A dX10_replaces_17 (by decide) oz5 (fun c6 => ?_) (fun c6 => ?_)
    · have h := h.1 c6
      refine s_aload_n A dX10_replaces_22 rfl ?_
      refine s_callV (a := 0) (k := 10) (N := 15) (sl := true) (M := mX10_refresh) (n := 0) (d := 11) (mc := 0) (ms := 0) (av := []) (st := []) A dX10_replaces_23 rfl (by decide) (zk_0 _) zwd813 zwd815 zwd5 zwd89 zcd_X10_refresh (Nat.le_of_ble_eq_true rfl) (Nat.le_of_ble_eq_true rfl) (Nat.le_refl _) ⟨Nat.le_of_ble_eq_true rfl, Nat.le_of_ble_eq_true rfl⟩ ⟨rfl, zhn_X10_refresh⟩ rfl (Nat.le_of_ble_eq_true rfl) rfl (z_contV (fun μ7 h => ?_) h)
      refine s_iconst A dX10_replaces_26 ?_
      refine s_istore (L' := [some (zR (some 0)), some (zI x1), some (zI x2), some (zI x3), some (zI v1), some (zI 0), none, none, none]) A dX10_replaces_27 (Nat.le_of_ble_eq_true rfl) rfl ?_
      refine s_iconst A dX10_replaces_29 ?_
      refine s_istore (L' := [some (zR (some 0)), some (zI x1), some (zI x2), some (zI x3), some (zI v1), some (zI 0), some (zI (-1)), none, none]) A dX10_replaces_30 (Nat.le_of_ble_eq_true rfl) rfl ?_
      refine s_iconst A dX10_replaces_32 ?_
      refine s_istore (L' := [some (zR (some 0)), some (zI x1), some (zI x2), some (zI x3), some (zI v1), some (zI 0), some (zI (-1)), some (zI 0), none]) A dX10_replaces_33 (Nat.le_of_ble_eq_true rfl) rfl ?_
      exact z_wk (L' := [some (zR (some 0)), some (zI x1), none, some (zI x3), some (zI v1), some (zI 0), some (zI (-1)), some (zI 0), none]) ⟨rfl, rfl, rfl, rfl, rfl, rfl, rfl, trivial⟩ h
    · have h := h.2 c6
      refine s_iconst A dX10_replaces_20 ?_
      exact s_iret A dX10_replaces_21 hr hlk (Nat.le_of_ble_eq_true rfl) (Nat.le_of_ble_eq_true rfl) ⟨_, rfl, h⟩
set_option maxRecDepth 20000 in
theorem rX10_replaces_35 {G : zG} {F : Int → zM → Prop} {J : Nat → zS → Prop} {μ : zM} (C : zJ G true (12) 0 0 mX10_replaces (zKI F) J) (x1 : Int) (x3 : Int) (x4 : Int) (x5 : Int) (x6 : Int) (x7 : Int)
    (h : zin x7 ∧ zin (zi μ 125 1) ∧ ((zi μ 125 1 ≤ x7 → zin x5 ∧ ((¬ x5 = 0 → qX6_clear G μ (fun μ6 => qX6_append G x5 μ6 (fun μ7 => qX10_codeOf G true x6 μ7 (fun v8 μ8 => F v8 μ8)))) ∧ (x5 = 0 → F (-2) μ))) ∧ (¬ (zi μ 125 1 ≤ x7) → (0 ≤ x7 ∧ x7 < 6561) ∧ qX0_distanceOf G 105 5 x4 (zi μ 126 x7) μ (fun v10 μ10 => zin v10 ∧ zin x3 ∧ ((v10 ≤ x3 → zin x6 ∧ ((x6 < 0 → J 35 ([some (zR (some 0)), some (zI x1), none, some (zI x3), some (zI x4), some (zI (x5 + 1)), some (zI (zi μ 126 x7)), some (zI (x7 + 1)), none], [], μ10, 0, 0)) ∧ (¬ (x6 < 0) → qX10_rank G true x1 (zi μ 126 x7) μ10 (fun v16 μ16 => qX10_rank G true x1 x6 μ16 (fun v17 μ17 => zin v16 ∧ zin v17 ∧ ((v17 ≤ v16 → J 35 ([some (zR (some 0)), some (zI x1), none, some (zI x3), some (zI x4), some (zI (x5 + 1)), some (zI x6), some (zI (x7 + 1)), none], [], μ17, 0, 0)) ∧ (¬ (v17 ≤ v16) → J 35 ([some (zR (some 0)), some (zI x1), none, some (zI x3), some (zI x4), some (zI (x5 + 1)), some (zI (zi μ 126 x7)), some (zI (x7 + 1)), none], [], μ17, 0, 0)))))))) ∧ (¬ (v10 ≤ x3) → J 35 ([some (zR (some 0)), some (zI x1), none, some (zI x3), some (zI x4), some (zI x5), some (zI x6), some (zI (x7 + 1)), none], [], μ10, 0, 0))))))) : J 35 ([some (zR (some 0)), some (zI x1), none, some (zI x3), some (zI x4), some (zI x5), some (zI x6), some (zI x7), none], [], μ, 0, 0) := by
  obtain ⟨p, e, s, m, args, below, meth, c, A, hml, hr, hlk, hnm, rfl⟩ := C
  refine s_iload A dX10_replaces_35 rfl ?_
  refine s_aload_n A dX10_replaces_37 rfl ?_
  refine s_getf (k := 10) (j := 9) (sl := true) (v := zR (some 125)) A dX10_replaces_38 rfl zuw_X10 (Nat.le_of_ble_eq_true rfl) zwd347 (by decide) (zk_0 _) rfl ?_
  refine s_getf (k := 4) (j := 1) (sl := true) (v := zI (zi μ 125 1)) A dX10_replaces_41 rfl zuw_X4 (Nat.le_of_ble_eq_true rfl) zwd280 (by decide) (zk_125 _) rfl ?_
  obtain ⟨oz1, h⟩ := h
  obtain ⟨oz2, h⟩ := h
  refine z_icmp_ge (tgt := 114) A dX10_replaces_44 (by decide) oz1 oz2 (fun c3 => ?_) (fun c3 => ?_)
  · have h := h.1 c3
    refine s_iload A dX10_replaces_114 rfl ?_
    obtain ⟨oz4, h⟩ := h
    refine z_if_ne (tgt := 122) A dX10_replaces_116 (by decide) oz4 (fun c5 => ?_) (fun c5 => ?_)
    · have h := h.1 c5
      refine s_aload_n A dX10_replaces_122 rfl ?_
      refine s_getf (k := 10) (j := 1) (sl := true) (v := zR (some 3)) A dX10_replaces_123 rfl zuw_X10 (Nat.le_of_ble_eq_true rfl) zwd339 (by decide) (zk_0 _) rfl ?_
      refine s_callV (a := 3) (k := 6) (N := 2) (sl := true) (M := mX6_clear) (n := 0) (d := 0) (mc := 0) (ms := 0) (av := []) (st := []) A dX10_replaces_126 rfl (by decide) (zk_3 _) zwd786 zwd787 zwd788 zwd91 zcd_X6_clear (Nat.le_of_ble_eq_true rfl) (Nat.le_of_ble_eq_true rfl) (Nat.le_refl _) ⟨Nat.le_of_ble_eq_true rfl, Nat.le_of_ble_eq_true rfl⟩ ⟨rfl, zhn_X6_clear⟩ rfl (Nat.le_of_ble_eq_true rfl) rfl (z_contV (fun μ6 h => ?_) h)
      refine s_aload_n A dX10_replaces_129 rfl ?_
      refine s_getf (k := 10) (j := 1) (sl := true) (v := zR (some 3)) A dX10_replaces_130 rfl zuw_X10 (Nat.le_of_ble_eq_true rfl) zwd339 (by decide) (zk_0 _) rfl ?_
      refine s_iload A dX10_replaces_133 rfl ?_
      refine z_i2l2 A dX10_replaces_135 oz4 ?_
      refine s_callV (a := 3) (k := 6) (N := 2) (sl := true) (M := mX6_append) (n := 1) (d := 0) (mc := 0) (ms := 0) (av := [zL x5]) (st := []) A dX10_replaces_136 rfl (by decide) (zk_3 _) zwd790 zwd791 zwd792 zwd91 zcd_X6_append (Nat.le_of_ble_eq_true rfl) (Nat.le_of_ble_eq_true rfl) (Nat.le_refl _) ⟨Nat.le_of_ble_eq_true rfl, Nat.le_of_ble_eq_true rfl⟩ ⟨rfl, zhn_X6_append⟩ rfl (Nat.le_of_ble_eq_true rfl) rfl (z_contV (fun μ7 h => ?_) h)
      refine s_iload A dX10_replaces_139 rfl ?_
      refine s_callS (M := mX10_codeOf) (n := 1) (d := 2) (mc := 0) (ms := 0) (av := [zI x6]) (st := []) A dX10_replaces_141 zwd893 zwd894 zwd89 zcd_X10_codeOf (Nat.le_of_ble_eq_true rfl) (Nat.le_of_ble_eq_true rfl) (Nat.le_refl _) ⟨Nat.le_of_ble_eq_true rfl, Nat.le_of_ble_eq_true rfl⟩ zhn_X10_codeOf rfl (Nat.le_of_ble_eq_true rfl) rfl (z_contI (fun v8 μ8 h => ?_) h)
      exact s_iret A dX10_replaces_144 hr hlk (Nat.le_of_ble_eq_true rfl) (Nat.le_of_ble_eq_true rfl) ⟨_, rfl, h⟩
    · have h := h.2 c5
      refine s_bipush A dX10_replaces_119 rfl ?_
      exact s_iret A dX10_replaces_121 hr hlk (Nat.le_of_ble_eq_true rfl) (Nat.le_of_ble_eq_true rfl) ⟨_, rfl, h⟩
  · have h := h.2 c3
    refine s_aload_n A dX10_replaces_47 rfl ?_
    refine s_getf (k := 10) (j := 9) (sl := true) (v := zR (some 125)) A dX10_replaces_48 rfl zuw_X10 (Nat.le_of_ble_eq_true rfl) zwd347 (by decide) (zk_0 _) rfl ?_
    refine s_getf (k := 4) (j := 0) (sl := true) (v := zR (some 126)) A dX10_replaces_51 rfl zuw_X4 (Nat.le_of_ble_eq_true rfl) zwd278 (by decide) (zk_125 _) rfl ?_
    refine s_iload A dX10_replaces_54 rfl ?_
    obtain ⟨ox9, h⟩ := h
    refine z_iald A dX10_replaces_56 (zk_126 _) (Nat.le_of_ble_eq_true rfl) ox9 ?_
    refine s_istore (L' := [some (zR (some 0)), some (zI x1), none, some (zI x3), some (zI x4), some (zI x5), some (zI x6), some (zI x7), some (zI (zi μ 126 x7))]) A dX10_replaces_57 (Nat.le_of_ble_eq_true rfl) rfl ?_
    refine s_aload_n A dX10_replaces_59 rfl ?_
    refine s_getf (k := 10) (j := 6) (sl := true) (v := zR (some 105)) A dX10_replaces_60 rfl zuw_X10 (Nat.le_of_ble_eq_true rfl) zwd344 (by decide) (zk_0 _) rfl ?_
    refine s_aload_n A dX10_replaces_63 rfl ?_
    refine s_getf (k := 10) (j := 2) (sl := true) (v := zR (some 5)) A dX10_replaces_64 rfl zuw_X10 (Nat.le_of_ble_eq_true rfl) zwd340 (by decide) (zk_0 _) rfl ?_
    refine s_iload A dX10_replaces_67 rfl ?_
    refine s_iload A dX10_replaces_69 rfl ?_
    refine s_callV (a := 105) (k := 0) (N := 5) (sl := true) (M := mX0_distanceOf) (n := 3) (d := 3) (mc := 0) (ms := 0) (av := [zR (some 5), zI x4, zI (zi μ 126 x7)]) (st := []) A dX10_replaces_71 rfl (by decide) (zk_105 _) zwd1018 zwd1019 zwd1020 zwd95 zcd_X0_distanceOf (Nat.le_of_ble_eq_true rfl) (Nat.le_of_ble_eq_true rfl) (Nat.le_refl _) ⟨Nat.le_of_ble_eq_true rfl, Nat.le_of_ble_eq_true rfl⟩ ⟨rfl, zhn_X0_distanceOf⟩ rfl (Nat.le_of_ble_eq_true rfl) rfl (z_contI (fun v10 μ10 h => ?_) h)
    refine s_iload_n A dX10_replaces_74 rfl ?_
    obtain ⟨oz11, h⟩ := h
    obtain ⟨oz12, h⟩ := h
    refine z_icmp_le (tgt := 81) A dX10_replaces_75 (by decide) oz11 oz12 (fun c13 => ?_) (fun c13 => ?_)
    · have h := h.1 c13
      refine s_iinc (L' := [some (zR (some 0)), some (zI x1), none, some (zI x3), some (zI x4), some (zI (x5 + 1)), some (zI x6), some (zI x7), some (zI (zi μ 126 x7))]) A dX10_replaces_81 rfl rfl ?_
      refine s_iload A dX10_replaces_84 rfl ?_
      obtain ⟨oz14, h⟩ := h
      refine z_if_lt (tgt := 104) A dX10_replaces_86 (by decide) oz14 (fun c15 => ?_) (fun c15 => ?_)
      · have h := h.1 c15
        refine s_iload A dX10_replaces_104 rfl ?_
        refine s_istore (L' := [some (zR (some 0)), some (zI x1), none, some (zI x3), some (zI x4), some (zI (x5 + 1)), some (zI (zi μ 126 x7)), some (zI x7), some (zI (zi μ 126 x7))]) A dX10_replaces_106 (Nat.le_of_ble_eq_true rfl) rfl ?_
        refine s_iinc (L' := [some (zR (some 0)), some (zI x1), none, some (zI x3), some (zI x4), some (zI (x5 + 1)), some (zI (zi μ 126 x7)), some (zI (x7 + 1)), some (zI (zi μ 126 x7))]) A dX10_replaces_108 rfl rfl ?_
        refine s_goto (tgt := 35) A dX10_replaces_111 (by decide) ?_
        exact z_wk (L' := [some (zR (some 0)), some (zI x1), none, some (zI x3), some (zI x4), some (zI (x5 + 1)), some (zI (zi μ 126 x7)), some (zI (x7 + 1)), none]) ⟨rfl, rfl, rfl, rfl, rfl, rfl, rfl, trivial⟩ h
      · have h := h.2 c15
        refine s_iload_n A dX10_replaces_89 rfl ?_
        refine s_iload A dX10_replaces_90 rfl ?_
        refine s_callS (M := mX10_rank) (n := 2) (d := 2) (mc := 0) (ms := 0) (av := [zI x1, zI (zi μ 126 x7)]) (st := []) A dX10_replaces_92 zwd1155 zwd1156 zwd89 zcd_X10_rank (Nat.le_of_ble_eq_true rfl) (Nat.le_of_ble_eq_true rfl) (Nat.le_refl _) ⟨Nat.le_of_ble_eq_true rfl, Nat.le_of_ble_eq_true rfl⟩ zhn_X10_rank rfl (Nat.le_of_ble_eq_true rfl) rfl (z_contI (fun v16 μ16 h => ?_) h)
        refine s_iload_n A dX10_replaces_95 rfl ?_
        refine s_iload A dX10_replaces_96 rfl ?_
        refine s_callS (M := mX10_rank) (n := 2) (d := 2) (mc := 0) (ms := 0) (av := [zI x1, zI x6]) (st := [zI v16]) A dX10_replaces_98 zwd1155 zwd1156 zwd89 zcd_X10_rank (Nat.le_of_ble_eq_true rfl) (Nat.le_of_ble_eq_true rfl) (Nat.le_refl _) ⟨Nat.le_of_ble_eq_true rfl, Nat.le_of_ble_eq_true rfl⟩ zhn_X10_rank rfl (Nat.le_of_ble_eq_true rfl) rfl (z_contI (fun v17 μ17 h => ?_) h)
        obtain ⟨oz18, h⟩ := h
        obtain ⟨oz19, h⟩ := h
        refine z_icmp_ge (tgt := 108) A dX10_replaces_101 (by decide) oz18 oz19 (fun c20 => ?_) (fun c20 => ?_)
        · have h := h.1 c20
          refine s_iinc (L' := [some (zR (some 0)), some (zI x1), none, some (zI x3), some (zI x4), some (zI (x5 + 1)), some (zI x6), some (zI (x7 + 1)), some (zI (zi μ 126 x7))]) A dX10_replaces_108 rfl rfl ?_
          refine s_goto (tgt := 35) A dX10_replaces_111 (by decide) ?_
          exact z_wk (L' := [some (zR (some 0)), some (zI x1), none, some (zI x3), some (zI x4), some (zI (x5 + 1)), some (zI x6), some (zI (x7 + 1)), none]) ⟨rfl, rfl, rfl, rfl, rfl, rfl, rfl, trivial⟩ h
        · have h := h.2 c20
          refine s_iload A dX10_replaces_104 rfl ?_
          refine s_istore (L' := [some (zR (some 0)), some (zI x1), none, some (zI x3), some (zI x4), some (zI (x5 + 1)), some (zI (zi μ 126 x7)), some (zI x7), some (zI (zi μ 126 x7))]) A dX10_replaces_106 (Nat.le_of_ble_eq_true rfl) rfl ?_
          refine s_iinc (L' := [some (zR (some 0)), some (zI x1), none, some (zI x3), some (zI x4), some (zI (x5 + 1)), some (zI (zi μ 126 x7)), some (zI (x7 + 1)), some (zI (zi μ 126 x7))]) A dX10_replaces_108 rfl rfl ?_
          refine s_goto (tgt := 35) A dX10_replaces_111 (by decide) ?_
          exact z_wk (L' := [some (zR (some 0)), some (zI x1), none, some (zI x3), some (zI x4), some (zI (x5 + 1)), some (zI (zi μ 126 x7)), some (zI (x7 + 1)), none]) ⟨rfl, rfl, rfl, rfl, rfl, rfl, rfl, trivial⟩ h
    · have h := h.2 c13
      refine s_goto (tgt := 108) A dX10_replaces_78 (by decide) ?_
      refine s_iinc (L' := [some (zR (some 0)), some (zI x1), none, some (zI x3), some (zI x4), some (zI x5), some (zI x6), some (zI (x7 + 1)), some (zI (zi μ 126 x7))]) A dX10_replaces_108 rfl rfl ?_
      refine s_goto (tgt := 35) A dX10_replaces_111 (by decide) ?_
      exact z_wk (L' := [some (zR (some 0)), some (zI x1), none, some (zI x3), some (zI x4), some (zI x5), some (zI x6), some (zI (x7 + 1)), none]) ⟨rfl, rfl, rfl, rfl, rfl, rfl, rfl, trivial⟩ h
theorem eX10_replaces {G : zG} {F : Int → zM → Prop} {μ : zM} {x1 : Int} {x2 : Int} {x3 : Int} (h : ∀ J, zJ G true (12) 0 0 mX10_replaces (zKI F) J → J 0 ([some (zR (some 0)), some (zI x1), some (zI x2), some (zI x3), none, none, none, none, none], [], μ, 0, 0)) : qX10_replaces G x1 x2 x3 μ F :=
  z_body (by decide +kernel) (Nat.le_of_ble_eq_true rfl) h
set_option maxRecDepth 20000 in
theorem rX10_doubt_e {G : zG} {F : Int → zM → Prop} {J : Nat → zS → Prop} {μ : zM} (C : zJ G true (11) 0 0 mX10_doubt (zKI F) J) 
    (h : J 6 ([some (zR (some 0)), some (zI (-1)), some (zI (-1)), some (zI 0)], [], μ, 0, 0)) : J 0 ([some (zR (some 0)), none, none, none], [], μ, 0, 0) := by
  obtain ⟨p, e, s, m, args, below, meth, c, A, hml, hr, hlk, hnm, rfl⟩ := C
  refine s_iconst A dX10_doubt_0 ?_
  refine s_istore_n (L' := [some (zR (some 0)), some (zI (-1)), none, none]) A dX10_doubt_1 (Nat.le_of_ble_eq_true rfl) rfl ?_
  refine s_iconst A dX10_doubt_2 ?_
  refine s_istore_n (L' := [some (zR (some 0)), some (zI (-1)), some (zI (-1)), none]) A dX10_doubt_3 (Nat.le_of_ble_eq_true rfl) rfl ?_
  refine s_iconst A dX10_doubt_4 ?_
  refine s_istore_n (L' := [some (zR (some 0)), some (zI (-1)), some (zI (-1)), some (zI 0)]) A dX10_doubt_5 (Nat.le_of_ble_eq_true rfl) rfl ?_
  exact h
set_option maxRecDepth 20000 in
theorem rX10_doubt_6 {G : zG} {F : Int → zM → Prop} {J : Nat → zS → Prop} {μ : zM} (C : zJ G true (11) 0 0 mX10_doubt (zKI F) J) (x1 : Int) (x2 : Int) (x3 : Int)
    (h : zin x3 ∧ ((81 ≤ x3 → zin x2 ∧ ((0 ≤ x2 → qX6_clear G μ (fun μ5 => zin x1 ∧ qX6_append G x1 μ5 (fun μ7 => F x2 μ7))) ∧ (¬ (0 ≤ x2) → F (-2) μ))) ∧ (¬ (81 ≤ x3) → (0 ≤ x3 ∧ x3 < 81) ∧ zin (zi μ 7 x3) ∧ ((zi μ 7 x3 = 0 → J 6 ([some (zR (some 0)), some (zI x1), some (zI x2), some (zI (x3 + 1))], [], μ, 0, 0)) ∧ (¬ (zi μ 7 x3 = 0) → qX7_unlike G 5 x3 μ (fun v11 μ11 => zin v11 ∧ zin x1 ∧ ((v11 ≤ x1 → J 6 ([some (zR (some 0)), some (zI x1), some (zI x2), some (zI (x3 + 1))], [], μ11, 0, 0)) ∧ (¬ (v11 ≤ x1) → qX7_unlike G 5 x3 μ11 (fun v15 μ15 => J 6 ([some (zR (some 0)), some (zI v15), some (zI x3), some (zI (x3 + 1))], [], μ15, 0, 0)))))))))) : J 6 ([some (zR (some 0)), some (zI x1), some (zI x2), some (zI x3)], [], μ, 0, 0) := by
  obtain ⟨p, e, s, m, args, below, meth, c, A, hml, hr, hlk, hnm, rfl⟩ := C
  refine s_iload_n A dX10_doubt_6 rfl ?_
  refine s_bipush A dX10_doubt_7 rfl ?_
  obtain ⟨oz1, h⟩ := h
  refine z_icmp_ge (tgt := 53) A dX10_doubt_9 (by decide) oz1 ⟨by decide, by decide⟩ (fun c2 => ?_) (fun c2 => ?_)
  · have h := h.1 c2
    refine s_iload_n A dX10_doubt_53 rfl ?_
    obtain ⟨oz3, h⟩ := h
    refine z_if_ge (tgt := 60) A dX10_doubt_54 (by decide) oz3 (fun c4 => ?_) (fun c4 => ?_)
    · have h := h.1 c4
      refine s_aload_n A dX10_doubt_60 rfl ?_
      refine s_getf (k := 10) (j := 1) (sl := true) (v := zR (some 3)) A dX10_doubt_61 rfl zuw_X10 (Nat.le_of_ble_eq_true rfl) zwd339 (by decide) (zk_0 _) rfl ?_
      refine s_callV (a := 3) (k := 6) (N := 2) (sl := true) (M := mX6_clear) (n := 0) (d := 0) (mc := 0) (ms := 0) (av := []) (st := []) A dX10_doubt_64 rfl (by decide) (zk_3 _) zwd786 zwd787 zwd788 zwd91 zcd_X6_clear (Nat.le_of_ble_eq_true rfl) (Nat.le_of_ble_eq_true rfl) (Nat.le_refl _) ⟨Nat.le_of_ble_eq_true rfl, Nat.le_of_ble_eq_true rfl⟩ ⟨rfl, zhn_X6_clear⟩ rfl (Nat.le_of_ble_eq_true rfl) rfl (z_contV (fun μ5 h => ?_) h)
      refine s_aload_n A dX10_doubt_67 rfl ?_
      refine s_getf (k := 10) (j := 1) (sl := true) (v := zR (some 3)) A dX10_doubt_68 rfl zuw_X10 (Nat.le_of_ble_eq_true rfl) zwd339 (by decide) (zk_0 _) rfl ?_
      refine s_iload_n A dX10_doubt_71 rfl ?_
      obtain ⟨oz6, h⟩ := h
      refine z_i2l2 A dX10_doubt_72 oz6 ?_
      refine s_callV (a := 3) (k := 6) (N := 2) (sl := true) (M := mX6_append) (n := 1) (d := 0) (mc := 0) (ms := 0) (av := [zL x1]) (st := []) A dX10_doubt_73 rfl (by decide) (zk_3 _) zwd790 zwd791 zwd792 zwd91 zcd_X6_append (Nat.le_of_ble_eq_true rfl) (Nat.le_of_ble_eq_true rfl) (Nat.le_refl _) ⟨Nat.le_of_ble_eq_true rfl, Nat.le_of_ble_eq_true rfl⟩ ⟨rfl, zhn_X6_append⟩ rfl (Nat.le_of_ble_eq_true rfl) rfl (z_contV (fun μ7 h => ?_) h)
      refine s_iload_n A dX10_doubt_76 rfl ?_
      exact s_iret A dX10_doubt_77 hr hlk (Nat.le_of_ble_eq_true rfl) (Nat.le_of_ble_eq_true rfl) ⟨_, rfl, h⟩
    · have h := h.2 c4
      refine s_bipush A dX10_doubt_57 rfl ?_
      exact s_iret A dX10_doubt_59 hr hlk (Nat.le_of_ble_eq_true rfl) (Nat.le_of_ble_eq_true rfl) ⟨_, rfl, h⟩
  · have h := h.2 c2
    refine s_aload_n A dX10_doubt_12 rfl ?_
    refine s_getf (k := 10) (j := 2) (sl := true) (v := zR (some 5)) A dX10_doubt_13 rfl zuw_X10 (Nat.le_of_ble_eq_true rfl) zwd340 (by decide) (zk_0 _) rfl ?_
    refine s_getf (k := 7) (j := 1) (sl := true) (v := zR (some 7)) A dX10_doubt_16 rfl zuw_X7 (Nat.le_of_ble_eq_true rfl) zwd187 (by decide) (zk_5 _) rfl ?_
    refine s_iload_n A dX10_doubt_19 rfl ?_
    obtain ⟨ox8, h⟩ := h
    refine z_zald A dX10_doubt_20 (zk_7 _) (Nat.le_of_ble_eq_true rfl) ox8 ?_
    obtain ⟨oz9, h⟩ := h
    refine z_if_eq (tgt := 47) A dX10_doubt_21 (by decide) oz9 (fun c10 => ?_) (fun c10 => ?_)
    · have h := h.1 c10
      refine s_iinc (L' := [some (zR (some 0)), some (zI x1), some (zI x2), some (zI (x3 + 1))]) A dX10_doubt_47 rfl rfl ?_
      refine s_goto (tgt := 6) A dX10_doubt_50 (by decide) ?_
      exact h
    · have h := h.2 c10
      refine s_aload_n A dX10_doubt_24 rfl ?_
      refine s_getf (k := 10) (j := 2) (sl := true) (v := zR (some 5)) A dX10_doubt_25 rfl zuw_X10 (Nat.le_of_ble_eq_true rfl) zwd340 (by decide) (zk_0 _) rfl ?_
      refine s_iload_n A dX10_doubt_28 rfl ?_
      refine s_callV (a := 5) (k := 7) (N := 9) (sl := true) (M := mX7_unlike) (n := 1) (d := 10) (mc := 0) (ms := 0) (av := [zI x3]) (st := []) A dX10_doubt_29 rfl (by decide) (zk_5 _) zwd1162 zwd1163 zwd1164 zwd92 zcd_X7_unlike (Nat.le_of_ble_eq_true rfl) (Nat.le_of_ble_eq_true rfl) (Nat.le_refl _) ⟨Nat.le_of_ble_eq_true rfl, Nat.le_of_ble_eq_true rfl⟩ ⟨rfl, zhn_X7_unlike⟩ rfl (Nat.le_of_ble_eq_true rfl) rfl (z_contI (fun v11 μ11 h => ?_) h)
      refine s_iload_n A dX10_doubt_32 rfl ?_
      obtain ⟨oz12, h⟩ := h
      obtain ⟨oz13, h⟩ := h
      refine z_icmp_le (tgt := 47) A dX10_doubt_33 (by decide) oz12 oz13 (fun c14 => ?_) (fun c14 => ?_)
      · have h := h.1 c14
        refine s_iinc (L' := [some (zR (some 0)), some (zI x1), some (zI x2), some (zI (x3 + 1))]) A dX10_doubt_47 rfl rfl ?_
        refine s_goto (tgt := 6) A dX10_doubt_50 (by decide) ?_
        exact h
      · have h := h.2 c14
        refine s_aload_n A dX10_doubt_36 rfl ?_
        refine s_getf (k := 10) (j := 2) (sl := true) (v := zR (some 5)) A dX10_doubt_37 rfl zuw_X10 (Nat.le_of_ble_eq_true rfl) zwd340 (by decide) (zk_0 _) rfl ?_
        refine s_iload_n A dX10_doubt_40 rfl ?_
        refine s_callV (a := 5) (k := 7) (N := 9) (sl := true) (M := mX7_unlike) (n := 1) (d := 10) (mc := 0) (ms := 0) (av := [zI x3]) (st := []) A dX10_doubt_41 rfl (by decide) (zk_5 _) zwd1162 zwd1163 zwd1164 zwd92 zcd_X7_unlike (Nat.le_of_ble_eq_true rfl) (Nat.le_of_ble_eq_true rfl) (Nat.le_refl _) ⟨Nat.le_of_ble_eq_true rfl, Nat.le_of_ble_eq_true rfl⟩ ⟨rfl, zhn_X7_unlike⟩ rfl (Nat.le_of_ble_eq_true rfl) rfl (z_contI (fun v15 μ15 h => ?_) h)
        refine s_istore_n (L' := [some (zR (some 0)), some (zI v15), some (zI x2), some (zI x3)]) A dX10_doubt_44 (Nat.le_of_ble_eq_true rfl) rfl ?_
        refine s_iload_n A dX10_doubt_45 rfl ?_
        refine s_istore_n (L' := [some (zR (some 0)), some (zI v15), some (zI x3), some (zI x3)]) A dX10_doubt_46 (Nat.le_of_ble_eq_true rfl) rfl ?_
        refine s_iinc (L' := [some (zR (some 0)), some (zI v15), some (zI x3), some (zI (x3 + 1))]) A dX10_doubt_47 rfl rfl ?_
        refine s_goto (tgt := 6) A dX10_doubt_50 (by decide) ?_
        exact h
theorem eX10_doubt {G : zG} {F : Int → zM → Prop} {μ : zM}  (h : ∀ J, zJ G true (11) 0 0 mX10_doubt (zKI F) J → J 0 ([some (zR (some 0)), none, none, none], [], μ, 0, 0)) : qX10_doubt G  μ F :=
  z_body (by decide +kernel) (Nat.le_of_ble_eq_true rfl) h
set_option maxRecDepth 20000 in
theorem rX10_asks_e {G : zG} {F : Int → zM → Prop} {J : Nat → zS → Prop} {μ : zM} (C : zJ G true (12) 0 0 mX10_asks (zKI F) J) 
    (h : qX10_refresh G μ (fun μ1 => qJ7_fill_53178 G true 136 0 μ1 (fun μ2 => J 14 ([some (zR (some 0)), some (zI 0), none], [], μ2, 0, 0)))) : J 0 ([some (zR (some 0)), none, none], [], μ, 0, 0) := by
  obtain ⟨p, e, s, m, args, below, meth, c, A, hml, hr, hlk, hnm, rfl⟩ := C
  refine s_aload_n A dX10_asks_0 rfl ?_
  refine s_callV (a := 0) (k := 10) (N := 15) (sl := true) (M := mX10_refresh) (n := 0) (d := 11) (mc := 0) (ms := 0) (av := []) (st := []) A dX10_asks_1 rfl (by decide) (zk_0 _) zwd813 zwd815 zwd5 zwd89 zcd_X10_refresh (Nat.le_of_ble_eq_true rfl) (Nat.le_of_ble_eq_true rfl) (Nat.le_refl _) ⟨Nat.le_of_ble_eq_true rfl, Nat.le_of_ble_eq_true rfl⟩ ⟨rfl, zhn_X10_refresh⟩ rfl (Nat.le_of_ble_eq_true rfl) rfl (z_contV (fun μ1 h => ?_) h)
  refine s_aload_n A dX10_asks_4 rfl ?_
  refine s_getf (k := 10) (j := 14) (sl := true) (v := zR (some 136)) A dX10_asks_5 rfl zuw_X10 (Nat.le_of_ble_eq_true rfl) zwd352 (by decide) (zk_0 _) rfl ?_
  refine s_iconst A dX10_asks_8 ?_
  refine s_callS (M := mJ7_fill_53178) (n := 2) (d := 0) (mc := 0) (ms := 0) (av := [zR (some 136), zI 0]) (st := []) A dX10_asks_9 zwd1014 zwd251 zwd96 zcd_J7_fill_53178 (Nat.le_of_ble_eq_true rfl) (Nat.le_of_ble_eq_true rfl) (Nat.le_refl _) ⟨Nat.le_of_ble_eq_true rfl, Nat.le_of_ble_eq_true rfl⟩ zhn_J7_fill_53178 rfl (Nat.le_of_ble_eq_true rfl) rfl (z_contV (fun μ2 h => ?_) h)
  refine s_iconst A dX10_asks_12 ?_
  refine s_istore_n (L' := [some (zR (some 0)), some (zI 0), none]) A dX10_asks_13 (Nat.le_of_ble_eq_true rfl) rfl ?_
  exact h
set_option maxRecDepth 20000 in
theorem rX10_asks_14 {G : zG} {F : Int → zM → Prop} {J : Nat → zS → Prop} {μ : zM} (C : zJ G true (12) 0 0 mX10_asks (zKI F) J) (x1 : Int)
    (h : zin x1 ∧ zin (zi μ 125 1) ∧ ((zi μ 125 1 ≤ x1 → J 94 ([some (zR (some 0)), some (zI (-1)), some (zI 0)], [], μ, 0, 0)) ∧ (¬ (zi μ 125 1 ≤ x1) → (0 ≤ x1 ∧ x1 < 6561) ∧ qX0_goTo G 105 (zi μ 126 x1) μ (fun μ5 => J 43 ([some (zR (some 0)), some (zI x1), some (zI 0)], [], μ5, 0, 0))))) : J 14 ([some (zR (some 0)), some (zI x1), none], [], μ, 0, 0) := by
  obtain ⟨p, e, s, m, args, below, meth, c, A, hml, hr, hlk, hnm, rfl⟩ := C
  refine s_iload_n A dX10_asks_14 rfl ?_
  refine s_aload_n A dX10_asks_15 rfl ?_
  refine s_getf (k := 10) (j := 9) (sl := true) (v := zR (some 125)) A dX10_asks_16 rfl zuw_X10 (Nat.le_of_ble_eq_true rfl) zwd347 (by decide) (zk_0 _) rfl ?_
  refine s_getf (k := 4) (j := 1) (sl := true) (v := zI (zi μ 125 1)) A dX10_asks_19 rfl zuw_X4 (Nat.le_of_ble_eq_true rfl) zwd280 (by decide) (zk_125 _) rfl ?_
  obtain ⟨oz1, h⟩ := h
  obtain ⟨oz2, h⟩ := h
  refine z_icmp_ge (tgt := 90) A dX10_asks_22 (by decide) oz1 oz2 (fun c3 => ?_) (fun c3 => ?_)
  · have h := h.1 c3
    refine s_iconst A dX10_asks_90 ?_
    refine s_istore_n (L' := [some (zR (some 0)), some (zI (-1)), none]) A dX10_asks_91 (Nat.le_of_ble_eq_true rfl) rfl ?_
    refine s_iconst A dX10_asks_92 ?_
    refine s_istore_n (L' := [some (zR (some 0)), some (zI (-1)), some (zI 0)]) A dX10_asks_93 (Nat.le_of_ble_eq_true rfl) rfl ?_
    exact h
  · have h := h.2 c3
    refine s_aload_n A dX10_asks_25 rfl ?_
    refine s_getf (k := 10) (j := 6) (sl := true) (v := zR (some 105)) A dX10_asks_26 rfl zuw_X10 (Nat.le_of_ble_eq_true rfl) zwd344 (by decide) (zk_0 _) rfl ?_
    refine s_aload_n A dX10_asks_29 rfl ?_
    refine s_getf (k := 10) (j := 9) (sl := true) (v := zR (some 125)) A dX10_asks_30 rfl zuw_X10 (Nat.le_of_ble_eq_true rfl) zwd347 (by decide) (zk_0 _) rfl ?_
    refine s_getf (k := 4) (j := 0) (sl := true) (v := zR (some 126)) A dX10_asks_33 rfl zuw_X4 (Nat.le_of_ble_eq_true rfl) zwd278 (by decide) (zk_125 _) rfl ?_
    refine s_iload_n A dX10_asks_36 rfl ?_
    obtain ⟨ox4, h⟩ := h
    refine z_iald A dX10_asks_37 (zk_126 _) (Nat.le_of_ble_eq_true rfl) ox4 ?_
    refine s_callV (a := 105) (k := 0) (N := 5) (sl := true) (M := mX0_goTo) (n := 1) (d := 2) (mc := 0) (ms := 0) (av := [zI (zi μ 126 x1)]) (st := []) A dX10_asks_38 rfl (by decide) (zk_105 _) zwd1171 zwd836 zwd837 zwd95 zcd_X0_goTo (Nat.le_of_ble_eq_true rfl) (Nat.le_of_ble_eq_true rfl) (Nat.le_refl _) ⟨Nat.le_of_ble_eq_true rfl, Nat.le_of_ble_eq_true rfl⟩ ⟨rfl, zhn_X0_goTo⟩ rfl (Nat.le_of_ble_eq_true rfl) rfl (z_contV (fun μ5 h => ?_) h)
    refine s_iconst A dX10_asks_41 ?_
    refine s_istore_n (L' := [some (zR (some 0)), some (zI x1), some (zI 0)]) A dX10_asks_42 (Nat.le_of_ble_eq_true rfl) rfl ?_
    exact h
set_option maxRecDepth 20000 in
theorem rX10_asks_43 {G : zG} {F : Int → zM → Prop} {J : Nat → zS → Prop} {μ : zM} (C : zJ G true (12) 0 0 mX10_asks (zKI F) J) (x1 : Int) (x2 : Int)
    (h : zin x2 ∧ ((4 < x2 → J 14 ([some (zR (some 0)), some (zI (x1 + 1)), none], [], μ, 0, 0)) ∧ (¬ (4 < x2) → (0 ≤ x2 ∧ x2 < 5) ∧ zin (zi μ 109 x2) ∧ ((zi μ 109 x2 ≤ 0 → J 43 ([some (zR (some 0)), some (zI x1), some (zI (x2 + 1))], [], μ, 0, 0)) ∧ (¬ (zi μ 109 x2 ≤ 0) → (0 ≤ zi μ 108 x2 ∧ zi μ 108 x2 < 6561) ∧ J 43 ([some (zR (some 0)), some (zI x1), some (zI (x2 + 1))], [], zup μ 136 (zi μ 108 x2) ((zi μ 136 (zi μ 108 x2)) + 1), 0, 0)))))) : J 43 ([some (zR (some 0)), some (zI x1), some (zI x2)], [], μ, 0, 0) := by
  obtain ⟨p, e, s, m, args, below, meth, c, A, hml, hr, hlk, hnm, rfl⟩ := C
  refine s_iload_n A dX10_asks_43 rfl ?_
  refine s_iconst A dX10_asks_44 ?_
  obtain ⟨oz1, h⟩ := h
  refine z_icmp_gt (tgt := 84) A dX10_asks_45 (by decide) oz1 ⟨by decide, by decide⟩ (fun c2 => ?_) (fun c2 => ?_)
  · have h := h.1 c2
    refine s_iinc (L' := [some (zR (some 0)), some (zI (x1 + 1)), some (zI x2)]) A dX10_asks_84 rfl rfl ?_
    refine s_goto (tgt := 14) A dX10_asks_87 (by decide) ?_
    exact z_wk (L' := [some (zR (some 0)), some (zI (x1 + 1)), none]) ⟨rfl, rfl, trivial⟩ h
  · have h := h.2 c2
    refine s_aload_n A dX10_asks_48 rfl ?_
    refine s_getf (k := 10) (j := 6) (sl := true) (v := zR (some 105)) A dX10_asks_49 rfl zuw_X10 (Nat.le_of_ble_eq_true rfl) zwd344 (by decide) (zk_0 _) rfl ?_
    refine s_getf (k := 0) (j := 3) (sl := true) (v := zR (some 109)) A dX10_asks_52 rfl zuw_X0 (Nat.le_of_ble_eq_true rfl) zwd258 (by decide) (zk_105 _) rfl ?_
    refine s_iload_n A dX10_asks_55 rfl ?_
    obtain ⟨ox3, h⟩ := h
    refine z_iald A dX10_asks_56 (zk_109 _) (Nat.le_of_ble_eq_true rfl) ox3 ?_
    obtain ⟨oz4, h⟩ := h
    refine z_if_le (tgt := 78) A dX10_asks_57 (by decide) oz4 (fun c5 => ?_) (fun c5 => ?_)
    · have h := h.1 c5
      refine s_iinc (L' := [some (zR (some 0)), some (zI x1), some (zI (x2 + 1))]) A dX10_asks_78 rfl rfl ?_
      refine s_goto (tgt := 43) A dX10_asks_81 (by decide) ?_
      exact h
    · have h := h.2 c5
      refine s_aload_n A dX10_asks_60 rfl ?_
      refine s_getf (k := 10) (j := 14) (sl := true) (v := zR (some 136)) A dX10_asks_61 rfl zuw_X10 (Nat.le_of_ble_eq_true rfl) zwd352 (by decide) (zk_0 _) rfl ?_
      refine s_aload_n A dX10_asks_64 rfl ?_
      refine s_getf (k := 10) (j := 6) (sl := true) (v := zR (some 105)) A dX10_asks_65 rfl zuw_X10 (Nat.le_of_ble_eq_true rfl) zwd344 (by decide) (zk_0 _) rfl ?_
      refine s_getf (k := 0) (j := 2) (sl := true) (v := zR (some 108)) A dX10_asks_68 rfl zuw_X0 (Nat.le_of_ble_eq_true rfl) zwd256 (by decide) (zk_105 _) rfl ?_
      refine s_iload_n A dX10_asks_71 rfl ?_
      refine z_iald A dX10_asks_72 (zk_108 _) (Nat.le_of_ble_eq_true rfl) ox3 ?_
      refine s_dup2 A dX10_asks_73 rfl rfl ?_
      obtain ⟨ox6, h⟩ := h
      refine z_iald A dX10_asks_74 (zk_136 _) (Nat.le_of_ble_eq_true rfl) ox6 ?_
      refine s_iconst A dX10_asks_75 ?_
      refine s_iadd A dX10_asks_76 ?_
      refine z_iast A dX10_asks_77 (zk_136 _) (Nat.le_of_ble_eq_true rfl) ox6 ?_
      refine s_iinc (L' := [some (zR (some 0)), some (zI x1), some (zI (x2 + 1))]) A dX10_asks_78 rfl rfl ?_
      refine s_goto (tgt := 43) A dX10_asks_81 (by decide) ?_
      exact h
set_option maxRecDepth 20000 in
theorem rX10_asks_94 {G : zG} {F : Int → zM → Prop} {J : Nat → zS → Prop} {μ : zM} (C : zJ G true (12) 0 0 mX10_asks (zKI F) J) (x1 : Int) (x2 : Int)
    (h : zin x2 ∧ ((81 ≤ x2 → zin x1 ∧ ((0 ≤ x1 → qX6_clear G μ (fun μ5 => (0 ≤ x1 ∧ x1 < 6561) ∧ zin (zi μ5 136 x1) ∧ qX6_append G (zi μ5 136 x1) μ5 (fun μ8 => F x1 μ8))) ∧ (¬ (0 ≤ x1) → F (-2) μ))) ∧ (¬ (81 ≤ x2) → qX10_isPlain G true x2 μ (fun v9 μ9 => zin v9 ∧ ((¬ v9 = 0 → J 94 ([some (zR (some 0)), some (zI x1), some (zI (x2 + 1))], [], μ9, 0, 0)) ∧ (v9 = 0 → (0 ≤ x2 ∧ x2 < 81) ∧ zin (zi μ9 7 x2) ∧ ((¬ zi μ9 7 x2 = 0 → J 94 ([some (zR (some 0)), some (zI x1), some (zI (x2 + 1))], [], μ9, 0, 0)) ∧ (zi μ9 7 x2 = 0 → zin x1 ∧ ((x1 < 0 → J 94 ([some (zR (some 0)), some (zI x2), some (zI (x2 + 1))], [], μ9, 0, 0)) ∧ (¬ (x1 < 0) → (0 ≤ x2 ∧ x2 < 6561) ∧ (0 ≤ x1 ∧ x1 < 6561) ∧ zin (zi μ9 136 x2) ∧ zin (zi μ9 136 x1) ∧ ((zi μ9 136 x2 ≤ zi μ9 136 x1 → J 94 ([some (zR (some 0)), some (zI x1), some (zI (x2 + 1))], [], μ9, 0, 0)) ∧ (¬ (zi μ9 136 x2 ≤ zi μ9 136 x1) → J 94 ([some (zR (some 0)), some (zI x2), some (zI (x2 + 1))], [], μ9, 0, 0))))))))))))) : J 94 ([some (zR (some 0)), some (zI x1), some (zI x2)], [], μ, 0, 0) := by
  obtain ⟨p, e, s, m, args, below, meth, c, A, hml, hr, hlk, hnm, rfl⟩ := C
  refine s_iload_n A dX10_asks_94 rfl ?_
  refine s_bipush A dX10_asks_95 rfl ?_
  obtain ⟨oz1, h⟩ := h
  refine z_icmp_ge (tgt := 146) A dX10_asks_97 (by decide) oz1 ⟨by decide, by decide⟩ (fun c2 => ?_) (fun c2 => ?_)
  · have h := h.1 c2
    refine s_iload_n A dX10_asks_146 rfl ?_
    obtain ⟨oz3, h⟩ := h
    refine z_if_ge (tgt := 153) A dX10_asks_147 (by decide) oz3 (fun c4 => ?_) (fun c4 => ?_)
    · have h := h.1 c4
      refine s_aload_n A dX10_asks_153 rfl ?_
      refine s_getf (k := 10) (j := 1) (sl := true) (v := zR (some 3)) A dX10_asks_154 rfl zuw_X10 (Nat.le_of_ble_eq_true rfl) zwd339 (by decide) (zk_0 _) rfl ?_
      refine s_callV (a := 3) (k := 6) (N := 2) (sl := true) (M := mX6_clear) (n := 0) (d := 0) (mc := 0) (ms := 0) (av := []) (st := []) A dX10_asks_157 rfl (by decide) (zk_3 _) zwd786 zwd787 zwd788 zwd91 zcd_X6_clear (Nat.le_of_ble_eq_true rfl) (Nat.le_of_ble_eq_true rfl) (Nat.le_refl _) ⟨Nat.le_of_ble_eq_true rfl, Nat.le_of_ble_eq_true rfl⟩ ⟨rfl, zhn_X6_clear⟩ rfl (Nat.le_of_ble_eq_true rfl) rfl (z_contV (fun μ5 h => ?_) h)
      refine s_aload_n A dX10_asks_160 rfl ?_
      refine s_getf (k := 10) (j := 1) (sl := true) (v := zR (some 3)) A dX10_asks_161 rfl zuw_X10 (Nat.le_of_ble_eq_true rfl) zwd339 (by decide) (zk_0 _) rfl ?_
      refine s_aload_n A dX10_asks_164 rfl ?_
      refine s_getf (k := 10) (j := 14) (sl := true) (v := zR (some 136)) A dX10_asks_165 rfl zuw_X10 (Nat.le_of_ble_eq_true rfl) zwd352 (by decide) (zk_0 _) rfl ?_
      refine s_iload_n A dX10_asks_168 rfl ?_
      obtain ⟨ox6, h⟩ := h
      refine z_iald A dX10_asks_169 (zk_136 _) (Nat.le_of_ble_eq_true rfl) ox6 ?_
      obtain ⟨oz7, h⟩ := h
      refine z_i2l2 A dX10_asks_170 oz7 ?_
      refine s_callV (a := 3) (k := 6) (N := 2) (sl := true) (M := mX6_append) (n := 1) (d := 0) (mc := 0) (ms := 0) (av := [zL (zi μ5 136 x1)]) (st := []) A dX10_asks_171 rfl (by decide) (zk_3 _) zwd790 zwd791 zwd792 zwd91 zcd_X6_append (Nat.le_of_ble_eq_true rfl) (Nat.le_of_ble_eq_true rfl) (Nat.le_refl _) ⟨Nat.le_of_ble_eq_true rfl, Nat.le_of_ble_eq_true rfl⟩ ⟨rfl, zhn_X6_append⟩ rfl (Nat.le_of_ble_eq_true rfl) rfl (z_contV (fun μ8 h => ?_) h)
      refine s_iload_n A dX10_asks_174 rfl ?_
      exact s_iret A dX10_asks_175 hr hlk (Nat.le_of_ble_eq_true rfl) (Nat.le_of_ble_eq_true rfl) ⟨_, rfl, h⟩
    · have h := h.2 c4
      refine s_bipush A dX10_asks_150 rfl ?_
      exact s_iret A dX10_asks_152 hr hlk (Nat.le_of_ble_eq_true rfl) (Nat.le_of_ble_eq_true rfl) ⟨_, rfl, h⟩
  · have h := h.2 c2
    refine s_iload_n A dX10_asks_100 rfl ?_
    refine s_callS (M := mX10_isPlain) (n := 1) (d := 2) (mc := 0) (ms := 0) (av := [zI x2]) (st := []) A dX10_asks_101 zwd1172 zwd602 zwd89 zcd_X10_isPlain (Nat.le_of_ble_eq_true rfl) (Nat.le_of_ble_eq_true rfl) (Nat.le_refl _) ⟨Nat.le_of_ble_eq_true rfl, Nat.le_of_ble_eq_true rfl⟩ zhn_X10_isPlain rfl (Nat.le_of_ble_eq_true rfl) rfl (z_contI (fun v9 μ9 h => ?_) h)
    obtain ⟨oz10, h⟩ := h
    refine z_if_ne (tgt := 140) A dX10_asks_104 (by decide) oz10 (fun c11 => ?_) (fun c11 => ?_)
    · have h := h.1 c11
      refine s_iinc (L' := [some (zR (some 0)), some (zI x1), some (zI (x2 + 1))]) A dX10_asks_140 rfl rfl ?_
      refine s_goto (tgt := 94) A dX10_asks_143 (by decide) ?_
      exact h
    · have h := h.2 c11
      refine s_aload_n A dX10_asks_107 rfl ?_
      refine s_getf (k := 10) (j := 2) (sl := true) (v := zR (some 5)) A dX10_asks_108 rfl zuw_X10 (Nat.le_of_ble_eq_true rfl) zwd340 (by decide) (zk_0 _) rfl ?_
      refine s_getf (k := 7) (j := 1) (sl := true) (v := zR (some 7)) A dX10_asks_111 rfl zuw_X7 (Nat.le_of_ble_eq_true rfl) zwd187 (by decide) (zk_5 _) rfl ?_
      refine s_iload_n A dX10_asks_114 rfl ?_
      obtain ⟨ox12, h⟩ := h
      refine z_zald A dX10_asks_115 (zk_7 _) (Nat.le_of_ble_eq_true rfl) ox12 ?_
      obtain ⟨oz13, h⟩ := h
      refine z_if_ne (tgt := 140) A dX10_asks_116 (by decide) oz13 (fun c14 => ?_) (fun c14 => ?_)
      · have h := h.1 c14
        refine s_iinc (L' := [some (zR (some 0)), some (zI x1), some (zI (x2 + 1))]) A dX10_asks_140 rfl rfl ?_
        refine s_goto (tgt := 94) A dX10_asks_143 (by decide) ?_
        exact h
      · have h := h.2 c14
        refine s_iload_n A dX10_asks_119 rfl ?_
        obtain ⟨oz15, h⟩ := h
        refine z_if_lt (tgt := 138) A dX10_asks_120 (by decide) oz15 (fun c16 => ?_) (fun c16 => ?_)
        · have h := h.1 c16
          refine s_iload_n A dX10_asks_138 rfl ?_
          refine s_istore_n (L' := [some (zR (some 0)), some (zI x2), some (zI x2)]) A dX10_asks_139 (Nat.le_of_ble_eq_true rfl) rfl ?_
          refine s_iinc (L' := [some (zR (some 0)), some (zI x2), some (zI (x2 + 1))]) A dX10_asks_140 rfl rfl ?_
          refine s_goto (tgt := 94) A dX10_asks_143 (by decide) ?_
          exact h
        · have h := h.2 c16
          refine s_aload_n A dX10_asks_123 rfl ?_
          refine s_getf (k := 10) (j := 14) (sl := true) (v := zR (some 136)) A dX10_asks_124 rfl zuw_X10 (Nat.le_of_ble_eq_true rfl) zwd352 (by decide) (zk_0 _) rfl ?_
          refine s_iload_n A dX10_asks_127 rfl ?_
          obtain ⟨ox17, h⟩ := h
          refine z_iald A dX10_asks_128 (zk_136 _) (Nat.le_of_ble_eq_true rfl) ox17 ?_
          refine s_aload_n A dX10_asks_129 rfl ?_
          refine s_getf (k := 10) (j := 14) (sl := true) (v := zR (some 136)) A dX10_asks_130 rfl zuw_X10 (Nat.le_of_ble_eq_true rfl) zwd352 (by decide) (zk_0 _) rfl ?_
          refine s_iload_n A dX10_asks_133 rfl ?_
          obtain ⟨ox18, h⟩ := h
          refine z_iald A dX10_asks_134 (zk_136 _) (Nat.le_of_ble_eq_true rfl) ox18 ?_
          obtain ⟨oz19, h⟩ := h
          obtain ⟨oz20, h⟩ := h
          refine z_icmp_le (tgt := 140) A dX10_asks_135 (by decide) oz19 oz20 (fun c21 => ?_) (fun c21 => ?_)
          · have h := h.1 c21
            refine s_iinc (L' := [some (zR (some 0)), some (zI x1), some (zI (x2 + 1))]) A dX10_asks_140 rfl rfl ?_
            refine s_goto (tgt := 94) A dX10_asks_143 (by decide) ?_
            exact h
          · have h := h.2 c21
            refine s_iload_n A dX10_asks_138 rfl ?_
            refine s_istore_n (L' := [some (zR (some 0)), some (zI x2), some (zI x2)]) A dX10_asks_139 (Nat.le_of_ble_eq_true rfl) rfl ?_
            refine s_iinc (L' := [some (zR (some 0)), some (zI x2), some (zI (x2 + 1))]) A dX10_asks_140 rfl rfl ?_
            refine s_goto (tgt := 94) A dX10_asks_143 (by decide) ?_
            exact h
theorem eX10_asks {G : zG} {F : Int → zM → Prop} {μ : zM}  (h : ∀ J, zJ G true (12) 0 0 mX10_asks (zKI F) J → J 0 ([some (zR (some 0)), none, none], [], μ, 0, 0)) : qX10_asks G  μ F :=
  z_body (by decide +kernel) (Nat.le_of_ble_eq_true rfl) h
set_option maxRecDepth 20000 in
theorem rX10_other_e {G : zG} {F : Int → zM → Prop} {J : Nat → zS → Prop} {μ : zM} (C : zJ G true (12) 0 0 mX10_other (zKI F) J) (x1 : Int)
    (h : qX10_isIn G true x1 0 1 μ (fun v1 μ1 => zin v1 ∧ ((¬ v1 = 0 → (0 ≤ x1 ∧ x1 < 2) ∧ zin (zi μ1 104 x1) ∧ ((¬ zi μ1 104 x1 = 0 → qX10_refresh G μ1 (fun μ7 => qX0_follow G 119 (137 + 8 * x1.toNat) μ7 (fun μ8 => J 50 ([some (zR (some 0)), none, some (zI 0), some (zI 0), some (zI (-1)), some (zI 0), none, none], [], μ8, 0, 0)))) ∧ (zi μ1 104 x1 = 0 → F (-2) μ1))) ∧ (v1 = 0 → F (-1) μ1)))) : J 0 ([some (zR (some 0)), some (zI x1), none, none, none, none, none, none], [], μ, 0, 0) := by
  obtain ⟨p, e, s, m, args, below, meth, c, A, hml, hr, hlk, hnm, rfl⟩ := C
  refine s_iload_n A dX10_other_0 rfl ?_
  refine s_iconst A dX10_other_1 ?_
  refine s_iconst A dX10_other_2 ?_
  refine s_callS (M := mX10_isIn) (n := 3) (d := 0) (mc := 0) (ms := 0) (av := [zI x1, zI 0, zI 1]) (st := []) A dX10_other_3 zwd597 zwd598 zwd89 zcd_X10_isIn (Nat.le_of_ble_eq_true rfl) (Nat.le_of_ble_eq_true rfl) (Nat.le_refl _) ⟨Nat.le_of_ble_eq_true rfl, Nat.le_of_ble_eq_true rfl⟩ zhn_X10_isIn rfl (Nat.le_of_ble_eq_true rfl) rfl (z_contI (fun v1 μ1 h => ?_) h)
  obtain ⟨oz2, h⟩ := h
  refine z_if_ne (tgt := 11) A dX10_other_6 (by decide) oz2 (fun c3 => ?_) (fun c3 => ?_)
  · have h := h.1 c3
    refine s_aload_n A dX10_other_11 rfl ?_
    refine s_getf (k := 10) (j := 5) (sl := true) (v := zR (some 104)) A dX10_other_12 rfl zuw_X10 (Nat.le_of_ble_eq_true rfl) zwd343 (by decide) (zk_0 _) rfl ?_
    refine s_iload_n A dX10_other_15 rfl ?_
    obtain ⟨ox4, h⟩ := h
    refine z_zald A dX10_other_16 (zk_104 _) (Nat.le_of_ble_eq_true rfl) ox4 ?_
    obtain ⟨oz5, h⟩ := h
    refine z_if_ne (tgt := 23) A dX10_other_17 (by decide) oz5 (fun c6 => ?_) (fun c6 => ?_)
    · have h := h.1 c6
      refine s_aload_n A dX10_other_23 rfl ?_
      refine s_callV (a := 0) (k := 10) (N := 15) (sl := true) (M := mX10_refresh) (n := 0) (d := 11) (mc := 0) (ms := 0) (av := []) (st := []) A dX10_other_24 rfl (by decide) (zk_0 _) zwd813 zwd815 zwd5 zwd89 zcd_X10_refresh (Nat.le_of_ble_eq_true rfl) (Nat.le_of_ble_eq_true rfl) (Nat.le_refl _) ⟨Nat.le_of_ble_eq_true rfl, Nat.le_of_ble_eq_true rfl⟩ ⟨rfl, zhn_X10_refresh⟩ rfl (Nat.le_of_ble_eq_true rfl) rfl (z_contV (fun μ7 h => ?_) h)
      refine s_aload_n A dX10_other_27 rfl ?_
      refine s_getf (k := 10) (j := 8) (sl := true) (v := zR (some 119)) A dX10_other_28 rfl zuw_X10 (Nat.le_of_ble_eq_true rfl) zwd346 (by decide) (zk_0 _) rfl ?_
      refine s_aload_n A dX10_other_31 rfl ?_
      refine s_getf (k := 10) (j := 4) (sl := true) (v := zR (some 103)) A dX10_other_32 rfl zuw_X10 (Nat.le_of_ble_eq_true rfl) zwd342 (by decide) (zk_0 _) rfl ?_
      refine s_iload_n A dX10_other_35 rfl ?_
      refine z_aald (r := some (137 + 8 * x1.toNat)) A dX10_other_36 (by decide) (zk_103 _) (Nat.le_of_ble_eq_true rfl) ox4 rfl ?_
      refine s_callV (a := 119) (k := 0) (N := 5) (sl := true) (M := mX0_follow) (n := 1) (d := 10) (mc := 0) (ms := 0) (av := [zR (some (137 + 8 * x1.toNat))]) (st := []) A dX10_other_37 rfl (by decide) (zk_119 _) zwd817 zwd818 zwd819 zwd95 zcd_X0_follow (Nat.le_of_ble_eq_true rfl) (Nat.le_of_ble_eq_true rfl) (Nat.le_refl _) ⟨Nat.le_of_ble_eq_true rfl, Nat.le_of_ble_eq_true rfl⟩ ⟨rfl, zhn_X0_follow⟩ rfl (Nat.le_of_ble_eq_true rfl) rfl (z_contV (fun μ8 h => ?_) h)
      refine s_iconst A dX10_other_40 ?_
      refine s_istore_n (L' := [some (zR (some 0)), some (zI x1), some (zI 0), none, none, none, none, none]) A dX10_other_41 (Nat.le_of_ble_eq_true rfl) rfl ?_
      refine s_iconst A dX10_other_42 ?_
      refine s_istore_n (L' := [some (zR (some 0)), some (zI x1), some (zI 0), some (zI 0), none, none, none, none]) A dX10_other_43 (Nat.le_of_ble_eq_true rfl) rfl ?_
      refine s_iconst A dX10_other_44 ?_
      refine s_istore (L' := [some (zR (some 0)), some (zI x1), some (zI 0), some (zI 0), some (zI (-1)), none, none, none]) A dX10_other_45 (Nat.le_of_ble_eq_true rfl) rfl ?_
      refine s_iconst A dX10_other_47 ?_
      refine s_istore (L' := [some (zR (some 0)), some (zI x1), some (zI 0), some (zI 0), some (zI (-1)), some (zI 0), none, none]) A dX10_other_48 (Nat.le_of_ble_eq_true rfl) rfl ?_
      exact z_wk (L' := [some (zR (some 0)), none, some (zI 0), some (zI 0), some (zI (-1)), some (zI 0), none, none]) ⟨rfl, rfl, rfl, rfl, rfl, trivial⟩ h
    · have h := h.2 c6
      refine s_bipush A dX10_other_20 rfl ?_
      exact s_iret A dX10_other_22 hr hlk (Nat.le_of_ble_eq_true rfl) (Nat.le_of_ble_eq_true rfl) ⟨_, rfl, h⟩
  · have h := h.2 c3
    refine s_iconst A dX10_other_9 ?_
    exact s_iret A dX10_other_10 hr hlk (Nat.le_of_ble_eq_true rfl) (Nat.le_of_ble_eq_true rfl) ⟨_, rfl, h⟩
set_option maxRecDepth 20000 in
theorem rX10_other_50 {G : zG} {F : Int → zM → Prop} {J : Nat → zS → Prop} {μ : zM} (C : zJ G true (12) 0 0 mX10_other (zKI F) J) (x2 : Int) (x3 : Int) (x4 : Int) (x5 : Int)
    (h : zin x5 ∧ zin (zi μ 125 1) ∧ ((zi μ 125 1 ≤ x5 → qX6_clear G μ (fun μ4 => zin x2 ∧ ((x2 ≤ 0 → F x2 μ4) ∧ (¬ (x2 ≤ 0) → zin x3 ∧ qX6_append G x3 μ4 (fun μ8 => qX10_codeOf G true x4 μ8 (fun v9 μ9 => zin v9 ∧ qX6_append G v9 μ9 (fun μ11 => F x2 μ11))))))) ∧ (¬ (zi μ 125 1 ≤ x5) → (0 ≤ x5 ∧ x5 < 6561) ∧ qX0_number G 105 (zi μ 126 x5) 0 μ (fun v13 μ13 => qX0_number G 105 (zi μ 126 x5) 1 μ13 (fun v14 μ14 => qX0_number G 105 (zi μ 126 x5) 2 μ14 (fun v15 μ15 => qX0_distanceTo G 119 5 (zi μ 126 x5) v13 v14 v15 μ15 (fun v16 μ16 => zin v16 ∧ ((v16 ≤ 0 → zin x3 ∧ ((v16 ≤ x3 → J 50 ([some (zR (some 0)), none, some (zI x2), some (zI x3), some (zI x4), some (zI (x5 + 1)), none, none], [], μ16, 0, 0)) ∧ (¬ (v16 ≤ x3) → J 50 ([some (zR (some 0)), none, some (zI x2), some (zI v16), some (zI (zi μ 126 x5)), some (zI (x5 + 1)), none, none], [], μ16, 0, 0)))) ∧ (¬ (v16 ≤ 0) → zin x3 ∧ ((v16 ≤ x3 → J 50 ([some (zR (some 0)), none, some (zI (x2 + 1)), some (zI x3), some (zI x4), some (zI (x5 + 1)), none, none], [], μ16, 0, 0)) ∧ (¬ (v16 ≤ x3) → J 50 ([some (zR (some 0)), none, some (zI (x2 + 1)), some (zI v16), some (zI (zi μ 126 x5)), some (zI (x5 + 1)), none, none], [], μ16, 0, 0)))))))))))) : J 50 ([some (zR (some 0)), none, some (zI x2), some (zI x3), some (zI x4), some (zI x5), none, none], [], μ, 0, 0) := by
  obtain ⟨p, e, s, m, args, below, meth, c, A, hml, hr, hlk, hnm, rfl⟩ := C
  refine s_iload A dX10_other_50 rfl ?_
  refine s_aload_n A dX10_other_52 rfl ?_
  refine s_getf (k := 10) (j := 9) (sl := true) (v := zR (some 125)) A dX10_other_53 rfl zuw_X10 (Nat.le_of_ble_eq_true rfl) zwd347 (by decide) (zk_0 _) rfl ?_
  refine s_getf (k := 4) (j := 1) (sl := true) (v := zI (zi μ 125 1)) A dX10_other_56 rfl zuw_X4 (Nat.le_of_ble_eq_true rfl) zwd280 (by decide) (zk_125 _) rfl ?_
  obtain ⟨oz1, h⟩ := h
  obtain ⟨oz2, h⟩ := h
  refine z_icmp_ge (tgt := 146) A dX10_other_59 (by decide) oz1 oz2 (fun c3 => ?_) (fun c3 => ?_)
  · have h := h.1 c3
    refine s_aload_n A dX10_other_146 rfl ?_
    refine s_getf (k := 10) (j := 1) (sl := true) (v := zR (some 3)) A dX10_other_147 rfl zuw_X10 (Nat.le_of_ble_eq_true rfl) zwd339 (by decide) (zk_0 _) rfl ?_
    refine s_callV (a := 3) (k := 6) (N := 2) (sl := true) (M := mX6_clear) (n := 0) (d := 0) (mc := 0) (ms := 0) (av := []) (st := []) A dX10_other_150 rfl (by decide) (zk_3 _) zwd786 zwd787 zwd788 zwd91 zcd_X6_clear (Nat.le_of_ble_eq_true rfl) (Nat.le_of_ble_eq_true rfl) (Nat.le_refl _) ⟨Nat.le_of_ble_eq_true rfl, Nat.le_of_ble_eq_true rfl⟩ ⟨rfl, zhn_X6_clear⟩ rfl (Nat.le_of_ble_eq_true rfl) rfl (z_contV (fun μ4 h => ?_) h)
    refine s_iload_n A dX10_other_153 rfl ?_
    obtain ⟨oz5, h⟩ := h
    refine z_if_le (tgt := 179) A dX10_other_154 (by decide) oz5 (fun c6 => ?_) (fun c6 => ?_)
    · have h := h.1 c6
      refine s_iload_n A dX10_other_179 rfl ?_
      exact s_iret A dX10_other_180 hr hlk (Nat.le_of_ble_eq_true rfl) (Nat.le_of_ble_eq_true rfl) ⟨_, rfl, h⟩
    · have h := h.2 c6
      refine s_aload_n A dX10_other_157 rfl ?_
      refine s_getf (k := 10) (j := 1) (sl := true) (v := zR (some 3)) A dX10_other_158 rfl zuw_X10 (Nat.le_of_ble_eq_true rfl) zwd339 (by decide) (zk_0 _) rfl ?_
      refine s_iload_n A dX10_other_161 rfl ?_
      obtain ⟨oz7, h⟩ := h
      refine z_i2l2 A dX10_other_162 oz7 ?_
      refine s_callV (a := 3) (k := 6) (N := 2) (sl := true) (M := mX6_append) (n := 1) (d := 0) (mc := 0) (ms := 0) (av := [zL x3]) (st := []) A dX10_other_163 rfl (by decide) (zk_3 _) zwd790 zwd791 zwd792 zwd91 zcd_X6_append (Nat.le_of_ble_eq_true rfl) (Nat.le_of_ble_eq_true rfl) (Nat.le_refl _) ⟨Nat.le_of_ble_eq_true rfl, Nat.le_of_ble_eq_true rfl⟩ ⟨rfl, zhn_X6_append⟩ rfl (Nat.le_of_ble_eq_true rfl) rfl (z_contV (fun μ8 h => ?_) h)
      refine s_aload_n A dX10_other_166 rfl ?_
      refine s_getf (k := 10) (j := 1) (sl := true) (v := zR (some 3)) A dX10_other_167 rfl zuw_X10 (Nat.le_of_ble_eq_true rfl) zwd339 (by decide) (zk_0 _) rfl ?_
      refine s_iload A dX10_other_170 rfl ?_
      refine s_callS (M := mX10_codeOf) (n := 1) (d := 2) (mc := 0) (ms := 0) (av := [zI x4]) (st := [zR (some 3)]) A dX10_other_172 zwd893 zwd894 zwd89 zcd_X10_codeOf (Nat.le_of_ble_eq_true rfl) (Nat.le_of_ble_eq_true rfl) (Nat.le_refl _) ⟨Nat.le_of_ble_eq_true rfl, Nat.le_of_ble_eq_true rfl⟩ zhn_X10_codeOf rfl (Nat.le_of_ble_eq_true rfl) rfl (z_contI (fun v9 μ9 h => ?_) h)
      obtain ⟨oz10, h⟩ := h
      refine z_i2l2 A dX10_other_175 oz10 ?_
      refine s_callV (a := 3) (k := 6) (N := 2) (sl := true) (M := mX6_append) (n := 1) (d := 0) (mc := 0) (ms := 0) (av := [zL v9]) (st := []) A dX10_other_176 rfl (by decide) (zk_3 _) zwd790 zwd791 zwd792 zwd91 zcd_X6_append (Nat.le_of_ble_eq_true rfl) (Nat.le_of_ble_eq_true rfl) (Nat.le_refl _) ⟨Nat.le_of_ble_eq_true rfl, Nat.le_of_ble_eq_true rfl⟩ ⟨rfl, zhn_X6_append⟩ rfl (Nat.le_of_ble_eq_true rfl) rfl (z_contV (fun μ11 h => ?_) h)
      refine s_iload_n A dX10_other_179 rfl ?_
      exact s_iret A dX10_other_180 hr hlk (Nat.le_of_ble_eq_true rfl) (Nat.le_of_ble_eq_true rfl) ⟨_, rfl, h⟩
  · have h := h.2 c3
    refine s_aload_n A dX10_other_62 rfl ?_
    refine s_getf (k := 10) (j := 9) (sl := true) (v := zR (some 125)) A dX10_other_63 rfl zuw_X10 (Nat.le_of_ble_eq_true rfl) zwd347 (by decide) (zk_0 _) rfl ?_
    refine s_getf (k := 4) (j := 0) (sl := true) (v := zR (some 126)) A dX10_other_66 rfl zuw_X4 (Nat.le_of_ble_eq_true rfl) zwd278 (by decide) (zk_125 _) rfl ?_
    refine s_iload A dX10_other_69 rfl ?_
    obtain ⟨ox12, h⟩ := h
    refine z_iald A dX10_other_71 (zk_126 _) (Nat.le_of_ble_eq_true rfl) ox12 ?_
    refine s_istore (L' := [some (zR (some 0)), none, some (zI x2), some (zI x3), some (zI x4), some (zI x5), some (zI (zi μ 126 x5)), none]) A dX10_other_72 (Nat.le_of_ble_eq_true rfl) rfl ?_
    refine s_aload_n A dX10_other_74 rfl ?_
    refine s_getf (k := 10) (j := 8) (sl := true) (v := zR (some 119)) A dX10_other_75 rfl zuw_X10 (Nat.le_of_ble_eq_true rfl) zwd346 (by decide) (zk_0 _) rfl ?_
    refine s_aload_n A dX10_other_78 rfl ?_
    refine s_getf (k := 10) (j := 2) (sl := true) (v := zR (some 5)) A dX10_other_79 rfl zuw_X10 (Nat.le_of_ble_eq_true rfl) zwd340 (by decide) (zk_0 _) rfl ?_
    refine s_iload A dX10_other_82 rfl ?_
    refine s_aload_n A dX10_other_84 rfl ?_
    refine s_getf (k := 10) (j := 6) (sl := true) (v := zR (some 105)) A dX10_other_85 rfl zuw_X10 (Nat.le_of_ble_eq_true rfl) zwd344 (by decide) (zk_0 _) rfl ?_
    refine s_iload A dX10_other_88 rfl ?_
    refine s_iconst A dX10_other_90 ?_
    refine s_callV (a := 105) (k := 0) (N := 5) (sl := true) (M := mX0_number) (n := 2) (d := 0) (mc := 0) (ms := 0) (av := [zI (zi μ 126 x5), zI 0]) (st := [zI (zi μ 126 x5), zR (some 5), zR (some 119)]) A dX10_other_91 rfl (by decide) (zk_105 _) zwd863 zwd864 zwd865 zwd95 zcd_X0_number (Nat.le_of_ble_eq_true rfl) (Nat.le_of_ble_eq_true rfl) (Nat.le_refl _) ⟨Nat.le_of_ble_eq_true rfl, Nat.le_of_ble_eq_true rfl⟩ ⟨rfl, zhn_X0_number⟩ rfl (Nat.le_of_ble_eq_true rfl) rfl (z_contI (fun v13 μ13 h => ?_) h)
    refine s_aload_n A dX10_other_94 rfl ?_
    refine s_getf (k := 10) (j := 6) (sl := true) (v := zR (some 105)) A dX10_other_95 rfl zuw_X10 (Nat.le_of_ble_eq_true rfl) zwd344 (by decide) (zk_0 _) rfl ?_
    refine s_iload A dX10_other_98 rfl ?_
    refine s_iconst A dX10_other_100 ?_
    refine s_callV (a := 105) (k := 0) (N := 5) (sl := true) (M := mX0_number) (n := 2) (d := 0) (mc := 0) (ms := 0) (av := [zI (zi μ 126 x5), zI 1]) (st := [zI v13, zI (zi μ 126 x5), zR (some 5), zR (some 119)]) A dX10_other_101 rfl (by decide) (zk_105 _) zwd863 zwd864 zwd865 zwd95 zcd_X0_number (Nat.le_of_ble_eq_true rfl) (Nat.le_of_ble_eq_true rfl) (Nat.le_refl _) ⟨Nat.le_of_ble_eq_true rfl, Nat.le_of_ble_eq_true rfl⟩ ⟨rfl, zhn_X0_number⟩ rfl (Nat.le_of_ble_eq_true rfl) rfl (z_contI (fun v14 μ14 h => ?_) h)
    refine s_aload_n A dX10_other_104 rfl ?_
    refine s_getf (k := 10) (j := 6) (sl := true) (v := zR (some 105)) A dX10_other_105 rfl zuw_X10 (Nat.le_of_ble_eq_true rfl) zwd344 (by decide) (zk_0 _) rfl ?_
    refine s_iload A dX10_other_108 rfl ?_
    refine s_iconst A dX10_other_110 ?_
    refine s_callV (a := 105) (k := 0) (N := 5) (sl := true) (M := mX0_number) (n := 2) (d := 0) (mc := 0) (ms := 0) (av := [zI (zi μ 126 x5), zI 2]) (st := [zI v14, zI v13, zI (zi μ 126 x5), zR (some 5), zR (some 119)]) A dX10_other_111 rfl (by decide) (zk_105 _) zwd863 zwd864 zwd865 zwd95 zcd_X0_number (Nat.le_of_ble_eq_true rfl) (Nat.le_of_ble_eq_true rfl) (Nat.le_refl _) ⟨Nat.le_of_ble_eq_true rfl, Nat.le_of_ble_eq_true rfl⟩ ⟨rfl, zhn_X0_number⟩ rfl (Nat.le_of_ble_eq_true rfl) rfl (z_contI (fun v15 μ15 h => ?_) h)
    refine s_callV (a := 119) (k := 0) (N := 5) (sl := true) (M := mX0_distanceTo) (n := 5) (d := 2) (mc := 0) (ms := 0) (av := [zR (some 5), zI (zi μ 126 x5), zI v13, zI v14, zI v15]) (st := []) A dX10_other_114 rfl (by decide) (zk_119 _) zwd992 zwd912 zwd913 zwd95 zcd_X0_distanceTo (Nat.le_of_ble_eq_true rfl) (Nat.le_of_ble_eq_true rfl) (Nat.le_refl _) ⟨Nat.le_of_ble_eq_true rfl, Nat.le_of_ble_eq_true rfl⟩ ⟨rfl, zhn_X0_distanceTo⟩ rfl (Nat.le_of_ble_eq_true rfl) rfl (z_contI (fun v16 μ16 h => ?_) h)
    refine s_istore (L' := [some (zR (some 0)), none, some (zI x2), some (zI x3), some (zI x4), some (zI x5), some (zI (zi μ 126 x5)), some (zI v16)]) A dX10_other_117 (Nat.le_of_ble_eq_true rfl) rfl ?_
    refine s_iload A dX10_other_119 rfl ?_
    obtain ⟨oz17, h⟩ := h
    refine z_if_le (tgt := 127) A dX10_other_121 (by decide) oz17 (fun c18 => ?_) (fun c18 => ?_)
    · have h := h.1 c18
      refine s_iload A dX10_other_127 rfl ?_
      refine s_iload_n A dX10_other_129 rfl ?_
      obtain ⟨oz19, h⟩ := h
      refine z_icmp_le (tgt := 140) A dX10_other_130 (by decide) oz17 oz19 (fun c20 => ?_) (fun c20 => ?_)
      · have h := h.1 c20
        refine s_iinc (L' := [some (zR (some 0)), none, some (zI x2), some (zI x3), some (zI x4), some (zI (x5 + 1)), some (zI (zi μ 126 x5)), some (zI v16)]) A dX10_other_140 rfl rfl ?_
        refine s_goto (tgt := 50) A dX10_other_143 (by decide) ?_
        exact z_wk (L' := [some (zR (some 0)), none, some (zI x2), some (zI x3), some (zI x4), some (zI (x5 + 1)), none, none]) ⟨rfl, rfl, rfl, rfl, rfl, trivial⟩ h
      · have h := h.2 c20
        refine s_iload A dX10_other_133 rfl ?_
        refine s_istore_n (L' := [some (zR (some 0)), none, some (zI x2), some (zI v16), some (zI x4), some (zI x5), some (zI (zi μ 126 x5)), some (zI v16)]) A dX10_other_135 (Nat.le_of_ble_eq_true rfl) rfl ?_
        refine s_iload A dX10_other_136 rfl ?_
        refine s_istore (L' := [some (zR (some 0)), none, some (zI x2), some (zI v16), some (zI (zi μ 126 x5)), some (zI x5), some (zI (zi μ 126 x5)), some (zI v16)]) A dX10_other_138 (Nat.le_of_ble_eq_true rfl) rfl ?_
        refine s_iinc (L' := [some (zR (some 0)), none, some (zI x2), some (zI v16), some (zI (zi μ 126 x5)), some (zI (x5 + 1)), some (zI (zi μ 126 x5)), some (zI v16)]) A dX10_other_140 rfl rfl ?_
        refine s_goto (tgt := 50) A dX10_other_143 (by decide) ?_
        exact z_wk (L' := [some (zR (some 0)), none, some (zI x2), some (zI v16), some (zI (zi μ 126 x5)), some (zI (x5 + 1)), none, none]) ⟨rfl, rfl, rfl, rfl, rfl, trivial⟩ h
    · have h := h.2 c18
      refine s_iinc (L' := [some (zR (some 0)), none, some (zI (x2 + 1)), some (zI x3), some (zI x4), some (zI x5), some (zI (zi μ 126 x5)), some (zI v16)]) A dX10_other_124 rfl rfl ?_
      refine s_iload A dX10_other_127 rfl ?_
      refine s_iload_n A dX10_other_129 rfl ?_
      obtain ⟨oz21, h⟩ := h
      refine z_icmp_le (tgt := 140) A dX10_other_130 (by decide) oz17 oz21 (fun c22 => ?_) (fun c22 => ?_)
      · have h := h.1 c22
        refine s_iinc (L' := [some (zR (some 0)), none, some (zI (x2 + 1)), some (zI x3), some (zI x4), some (zI (x5 + 1)), some (zI (zi μ 126 x5)), some (zI v16)]) A dX10_other_140 rfl rfl ?_
        refine s_goto (tgt := 50) A dX10_other_143 (by decide) ?_
        exact z_wk (L' := [some (zR (some 0)), none, some (zI (x2 + 1)), some (zI x3), some (zI x4), some (zI (x5 + 1)), none, none]) ⟨rfl, rfl, rfl, rfl, rfl, trivial⟩ h
      · have h := h.2 c22
        refine s_iload A dX10_other_133 rfl ?_
        refine s_istore_n (L' := [some (zR (some 0)), none, some (zI (x2 + 1)), some (zI v16), some (zI x4), some (zI x5), some (zI (zi μ 126 x5)), some (zI v16)]) A dX10_other_135 (Nat.le_of_ble_eq_true rfl) rfl ?_
        refine s_iload A dX10_other_136 rfl ?_
        refine s_istore (L' := [some (zR (some 0)), none, some (zI (x2 + 1)), some (zI v16), some (zI (zi μ 126 x5)), some (zI x5), some (zI (zi μ 126 x5)), some (zI v16)]) A dX10_other_138 (Nat.le_of_ble_eq_true rfl) rfl ?_
        refine s_iinc (L' := [some (zR (some 0)), none, some (zI (x2 + 1)), some (zI v16), some (zI (zi μ 126 x5)), some (zI (x5 + 1)), some (zI (zi μ 126 x5)), some (zI v16)]) A dX10_other_140 rfl rfl ?_
        refine s_goto (tgt := 50) A dX10_other_143 (by decide) ?_
        exact z_wk (L' := [some (zR (some 0)), none, some (zI (x2 + 1)), some (zI v16), some (zI (zi μ 126 x5)), some (zI (x5 + 1)), none, none]) ⟨rfl, rfl, rfl, rfl, rfl, trivial⟩ h
theorem eX10_other {G : zG} {F : Int → zM → Prop} {μ : zM} {x1 : Int} (h : ∀ J, zJ G true (12) 0 0 mX10_other (zKI F) J → J 0 ([some (zR (some 0)), some (zI x1), none, none, none, none, none, none], [], μ, 0, 0)) : qX10_other G x1 μ F :=
  z_body (by decide +kernel) (Nat.le_of_ble_eq_true rfl) h
set_option maxRecDepth 20000 in
theorem rX10_carry_e {G : zG} {F : Int → zM → Prop} {J : Nat → zS → Prop} {μ : zM} (C : zJ G true (12) 0 0 mX10_carry (zKI F) J) (x1 : Int) (x2 : Int)
    (h : qX10_placeOf G true x2 μ (fun v1 μ1 => qX10_isIn G true x1 0 1 μ1 (fun v2 μ2 => zin v2 ∧ ((v2 = 0 → F (-1) μ2) ∧ (¬ (v2 = 0) → zin v1 ∧ ((0 ≤ v1 → (0 ≤ x1 ∧ x1 < 2) ∧ zin (zi μ2 104 x1) ∧ ((¬ zi μ2 104 x1 = 0 → qX10_refresh G μ2 (fun μ10 => qX0_follow G 119 (137 + 8 * x1.toNat) μ10 (fun μ11 => qX0_number G 119 v1 0 μ11 (fun v12 μ12 => qX0_number G 119 v1 1 μ12 (fun v13 μ13 => qX0_number G 119 v1 2 μ13 (fun v14 μ14 => qX4_find G 5 105 v12 v13 v14 μ14 (fun v15 μ15 => qX6_clear G μ15 (fun μ16 => zin (zi μ16 125 5) ∧ qX6_append G (zi μ16 125 5) μ16 (fun μ18 => qX10_codeOf G true v15 μ18 (fun v19 μ19 => F v19 μ19)))))))))) ∧ (zi μ2 104 x1 = 0 → F (-2) μ2))) ∧ (¬ (0 ≤ v1) → F (-1) μ2))))))) : J 0 ([some (zR (some 0)), some (zI x1), some (zI x2), none, none], [], μ, 0, 0) := by
  obtain ⟨p, e, s, m, args, below, meth, c, A, hml, hr, hlk, hnm, rfl⟩ := C
  refine s_iload_n A dX10_carry_0 rfl ?_
  refine s_callS (M := mX10_placeOf) (n := 1) (d := 2) (mc := 0) (ms := 0) (av := [zI x2]) (st := []) A dX10_carry_1 zwd806 zwd807 zwd89 zcd_X10_placeOf (Nat.le_of_ble_eq_true rfl) (Nat.le_of_ble_eq_true rfl) (Nat.le_refl _) ⟨Nat.le_of_ble_eq_true rfl, Nat.le_of_ble_eq_true rfl⟩ zhn_X10_placeOf rfl (Nat.le_of_ble_eq_true rfl) rfl (z_contI (fun v1 μ1 h => ?_) h)
  refine s_istore_n (L' := [some (zR (some 0)), some (zI x1), some (zI x2), some (zI v1), none]) A dX10_carry_4 (Nat.le_of_ble_eq_true rfl) rfl ?_
  refine s_iload_n A dX10_carry_5 rfl ?_
  refine s_iconst A dX10_carry_6 ?_
  refine s_iconst A dX10_carry_7 ?_
  refine s_callS (M := mX10_isIn) (n := 3) (d := 0) (mc := 0) (ms := 0) (av := [zI x1, zI 0, zI 1]) (st := []) A dX10_carry_8 zwd597 zwd598 zwd89 zcd_X10_isIn (Nat.le_of_ble_eq_true rfl) (Nat.le_of_ble_eq_true rfl) (Nat.le_refl _) ⟨Nat.le_of_ble_eq_true rfl, Nat.le_of_ble_eq_true rfl⟩ zhn_X10_isIn rfl (Nat.le_of_ble_eq_true rfl) rfl (z_contI (fun v2 μ2 h => ?_) h)
  obtain ⟨oz3, h⟩ := h
  refine z_if_eq (tgt := 18) A dX10_carry_11 (by decide) oz3 (fun c4 => ?_) (fun c4 => ?_)
  · have h := h.1 c4
    refine s_iconst A dX10_carry_18 ?_
    exact s_iret A dX10_carry_19 hr hlk (Nat.le_of_ble_eq_true rfl) (Nat.le_of_ble_eq_true rfl) ⟨_, rfl, h⟩
  · have h := h.2 c4
    refine s_iload_n A dX10_carry_14 rfl ?_
    obtain ⟨oz5, h⟩ := h
    refine z_if_ge (tgt := 20) A dX10_carry_15 (by decide) oz5 (fun c6 => ?_) (fun c6 => ?_)
    · have h := h.1 c6
      refine s_aload_n A dX10_carry_20 rfl ?_
      refine s_getf (k := 10) (j := 5) (sl := true) (v := zR (some 104)) A dX10_carry_21 rfl zuw_X10 (Nat.le_of_ble_eq_true rfl) zwd343 (by decide) (zk_0 _) rfl ?_
      refine s_iload_n A dX10_carry_24 rfl ?_
      obtain ⟨ox7, h⟩ := h
      refine z_zald A dX10_carry_25 (zk_104 _) (Nat.le_of_ble_eq_true rfl) ox7 ?_
      obtain ⟨oz8, h⟩ := h
      refine z_if_ne (tgt := 32) A dX10_carry_26 (by decide) oz8 (fun c9 => ?_) (fun c9 => ?_)
      · have h := h.1 c9
        refine s_aload_n A dX10_carry_32 rfl ?_
        refine s_callV (a := 0) (k := 10) (N := 15) (sl := true) (M := mX10_refresh) (n := 0) (d := 11) (mc := 0) (ms := 0) (av := []) (st := []) A dX10_carry_33 rfl (by decide) (zk_0 _) zwd813 zwd815 zwd5 zwd89 zcd_X10_refresh (Nat.le_of_ble_eq_true rfl) (Nat.le_of_ble_eq_true rfl) (Nat.le_refl _) ⟨Nat.le_of_ble_eq_true rfl, Nat.le_of_ble_eq_true rfl⟩ ⟨rfl, zhn_X10_refresh⟩ rfl (Nat.le_of_ble_eq_true rfl) rfl (z_contV (fun μ10 h => ?_) h)
        refine s_aload_n A dX10_carry_36 rfl ?_
        refine s_getf (k := 10) (j := 8) (sl := true) (v := zR (some 119)) A dX10_carry_37 rfl zuw_X10 (Nat.le_of_ble_eq_true rfl) zwd346 (by decide) (zk_0 _) rfl ?_
        refine s_aload_n A dX10_carry_40 rfl ?_
        refine s_getf (k := 10) (j := 4) (sl := true) (v := zR (some 103)) A dX10_carry_41 rfl zuw_X10 (Nat.le_of_ble_eq_true rfl) zwd342 (by decide) (zk_0 _) rfl ?_
        refine s_iload_n A dX10_carry_44 rfl ?_
        refine z_aald (r := some (137 + 8 * x1.toNat)) A dX10_carry_45 (by decide) (zk_103 _) (Nat.le_of_ble_eq_true rfl) ox7 rfl ?_
        refine s_callV (a := 119) (k := 0) (N := 5) (sl := true) (M := mX0_follow) (n := 1) (d := 10) (mc := 0) (ms := 0) (av := [zR (some (137 + 8 * x1.toNat))]) (st := []) A dX10_carry_46 rfl (by decide) (zk_119 _) zwd817 zwd818 zwd819 zwd95 zcd_X0_follow (Nat.le_of_ble_eq_true rfl) (Nat.le_of_ble_eq_true rfl) (Nat.le_refl _) ⟨Nat.le_of_ble_eq_true rfl, Nat.le_of_ble_eq_true rfl⟩ ⟨rfl, zhn_X0_follow⟩ rfl (Nat.le_of_ble_eq_true rfl) rfl (z_contV (fun μ11 h => ?_) h)
        refine s_aload_n A dX10_carry_49 rfl ?_
        refine s_getf (k := 10) (j := 9) (sl := true) (v := zR (some 125)) A dX10_carry_50 rfl zuw_X10 (Nat.le_of_ble_eq_true rfl) zwd347 (by decide) (zk_0 _) rfl ?_
        refine s_aload_n A dX10_carry_53 rfl ?_
        refine s_getf (k := 10) (j := 2) (sl := true) (v := zR (some 5)) A dX10_carry_54 rfl zuw_X10 (Nat.le_of_ble_eq_true rfl) zwd340 (by decide) (zk_0 _) rfl ?_
        refine s_aload_n A dX10_carry_57 rfl ?_
        refine s_getf (k := 10) (j := 6) (sl := true) (v := zR (some 105)) A dX10_carry_58 rfl zuw_X10 (Nat.le_of_ble_eq_true rfl) zwd344 (by decide) (zk_0 _) rfl ?_
        refine s_aload_n A dX10_carry_61 rfl ?_
        refine s_getf (k := 10) (j := 8) (sl := true) (v := zR (some 119)) A dX10_carry_62 rfl zuw_X10 (Nat.le_of_ble_eq_true rfl) zwd346 (by decide) (zk_0 _) rfl ?_
        refine s_iload_n A dX10_carry_65 rfl ?_
        refine s_iconst A dX10_carry_66 ?_
        refine s_callV (a := 119) (k := 0) (N := 5) (sl := true) (M := mX0_number) (n := 2) (d := 0) (mc := 0) (ms := 0) (av := [zI v1, zI 0]) (st := [zR (some 105), zR (some 5), zR (some 125)]) A dX10_carry_67 rfl (by decide) (zk_119 _) zwd863 zwd864 zwd865 zwd95 zcd_X0_number (Nat.le_of_ble_eq_true rfl) (Nat.le_of_ble_eq_true rfl) (Nat.le_refl _) ⟨Nat.le_of_ble_eq_true rfl, Nat.le_of_ble_eq_true rfl⟩ ⟨rfl, zhn_X0_number⟩ rfl (Nat.le_of_ble_eq_true rfl) rfl (z_contI (fun v12 μ12 h => ?_) h)
        refine s_aload_n A dX10_carry_70 rfl ?_
        refine s_getf (k := 10) (j := 8) (sl := true) (v := zR (some 119)) A dX10_carry_71 rfl zuw_X10 (Nat.le_of_ble_eq_true rfl) zwd346 (by decide) (zk_0 _) rfl ?_
        refine s_iload_n A dX10_carry_74 rfl ?_
        refine s_iconst A dX10_carry_75 ?_
        refine s_callV (a := 119) (k := 0) (N := 5) (sl := true) (M := mX0_number) (n := 2) (d := 0) (mc := 0) (ms := 0) (av := [zI v1, zI 1]) (st := [zI v12, zR (some 105), zR (some 5), zR (some 125)]) A dX10_carry_76 rfl (by decide) (zk_119 _) zwd863 zwd864 zwd865 zwd95 zcd_X0_number (Nat.le_of_ble_eq_true rfl) (Nat.le_of_ble_eq_true rfl) (Nat.le_refl _) ⟨Nat.le_of_ble_eq_true rfl, Nat.le_of_ble_eq_true rfl⟩ ⟨rfl, zhn_X0_number⟩ rfl (Nat.le_of_ble_eq_true rfl) rfl (z_contI (fun v13 μ13 h => ?_) h)
        refine s_aload_n A dX10_carry_79 rfl ?_
        refine s_getf (k := 10) (j := 8) (sl := true) (v := zR (some 119)) A dX10_carry_80 rfl zuw_X10 (Nat.le_of_ble_eq_true rfl) zwd346 (by decide) (zk_0 _) rfl ?_
        refine s_iload_n A dX10_carry_83 rfl ?_
        refine s_iconst A dX10_carry_84 ?_
        refine s_callV (a := 119) (k := 0) (N := 5) (sl := true) (M := mX0_number) (n := 2) (d := 0) (mc := 0) (ms := 0) (av := [zI v1, zI 2]) (st := [zI v13, zI v12, zR (some 105), zR (some 5), zR (some 125)]) A dX10_carry_85 rfl (by decide) (zk_119 _) zwd863 zwd864 zwd865 zwd95 zcd_X0_number (Nat.le_of_ble_eq_true rfl) (Nat.le_of_ble_eq_true rfl) (Nat.le_refl _) ⟨Nat.le_of_ble_eq_true rfl, Nat.le_of_ble_eq_true rfl⟩ ⟨rfl, zhn_X0_number⟩ rfl (Nat.le_of_ble_eq_true rfl) rfl (z_contI (fun v14 μ14 h => ?_) h)
        refine s_callV (a := 125) (k := 4) (N := 9) (sl := true) (M := mX4_find) (n := 5) (d := 9) (mc := 0) (ms := 0) (av := [zR (some 5), zR (some 105), zI v12, zI v13, zI v14]) (st := []) A dX10_carry_88 rfl (by decide) (zk_125 _) zwd902 zwd903 zwd904 zwd97 zcd_X4_find (Nat.le_of_ble_eq_true rfl) (Nat.le_of_ble_eq_true rfl) (Nat.le_refl _) ⟨Nat.le_of_ble_eq_true rfl, Nat.le_of_ble_eq_true rfl⟩ ⟨rfl, zhn_X4_find⟩ rfl (Nat.le_of_ble_eq_true rfl) rfl (z_contI (fun v15 μ15 h => ?_) h)
        refine s_istore (L' := [some (zR (some 0)), some (zI x1), some (zI x2), some (zI v1), some (zI v15)]) A dX10_carry_91 (Nat.le_of_ble_eq_true rfl) rfl ?_
        refine s_aload_n A dX10_carry_93 rfl ?_
        refine s_getf (k := 10) (j := 1) (sl := true) (v := zR (some 3)) A dX10_carry_94 rfl zuw_X10 (Nat.le_of_ble_eq_true rfl) zwd339 (by decide) (zk_0 _) rfl ?_
        refine s_callV (a := 3) (k := 6) (N := 2) (sl := true) (M := mX6_clear) (n := 0) (d := 0) (mc := 0) (ms := 0) (av := []) (st := []) A dX10_carry_97 rfl (by decide) (zk_3 _) zwd786 zwd787 zwd788 zwd91 zcd_X6_clear (Nat.le_of_ble_eq_true rfl) (Nat.le_of_ble_eq_true rfl) (Nat.le_refl _) ⟨Nat.le_of_ble_eq_true rfl, Nat.le_of_ble_eq_true rfl⟩ ⟨rfl, zhn_X6_clear⟩ rfl (Nat.le_of_ble_eq_true rfl) rfl (z_contV (fun μ16 h => ?_) h)
        refine s_aload_n A dX10_carry_100 rfl ?_
        refine s_getf (k := 10) (j := 1) (sl := true) (v := zR (some 3)) A dX10_carry_101 rfl zuw_X10 (Nat.le_of_ble_eq_true rfl) zwd339 (by decide) (zk_0 _) rfl ?_
        refine s_aload_n A dX10_carry_104 rfl ?_
        refine s_getf (k := 10) (j := 9) (sl := true) (v := zR (some 125)) A dX10_carry_105 rfl zuw_X10 (Nat.le_of_ble_eq_true rfl) zwd347 (by decide) (zk_0 _) rfl ?_
        refine s_getf (k := 4) (j := 5) (sl := true) (v := zI (zi μ16 125 5)) A dX10_carry_108 rfl zuw_X4 (Nat.le_of_ble_eq_true rfl) zwd285 (by decide) (zk_125 _) rfl ?_
        obtain ⟨oz17, h⟩ := h
        refine z_i2l2 A dX10_carry_111 oz17 ?_
        refine s_callV (a := 3) (k := 6) (N := 2) (sl := true) (M := mX6_append) (n := 1) (d := 0) (mc := 0) (ms := 0) (av := [zL (zi μ16 125 5)]) (st := []) A dX10_carry_112 rfl (by decide) (zk_3 _) zwd790 zwd791 zwd792 zwd91 zcd_X6_append (Nat.le_of_ble_eq_true rfl) (Nat.le_of_ble_eq_true rfl) (Nat.le_refl _) ⟨Nat.le_of_ble_eq_true rfl, Nat.le_of_ble_eq_true rfl⟩ ⟨rfl, zhn_X6_append⟩ rfl (Nat.le_of_ble_eq_true rfl) rfl (z_contV (fun μ18 h => ?_) h)
        refine s_iload A dX10_carry_115 rfl ?_
        refine s_callS (M := mX10_codeOf) (n := 1) (d := 2) (mc := 0) (ms := 0) (av := [zI v15]) (st := []) A dX10_carry_117 zwd893 zwd894 zwd89 zcd_X10_codeOf (Nat.le_of_ble_eq_true rfl) (Nat.le_of_ble_eq_true rfl) (Nat.le_refl _) ⟨Nat.le_of_ble_eq_true rfl, Nat.le_of_ble_eq_true rfl⟩ zhn_X10_codeOf rfl (Nat.le_of_ble_eq_true rfl) rfl (z_contI (fun v19 μ19 h => ?_) h)
        exact s_iret A dX10_carry_120 hr hlk (Nat.le_of_ble_eq_true rfl) (Nat.le_of_ble_eq_true rfl) ⟨_, rfl, h⟩
      · have h := h.2 c9
        refine s_bipush A dX10_carry_29 rfl ?_
        exact s_iret A dX10_carry_31 hr hlk (Nat.le_of_ble_eq_true rfl) (Nat.le_of_ble_eq_true rfl) ⟨_, rfl, h⟩
    · have h := h.2 c6
      refine s_iconst A dX10_carry_18 ?_
      exact s_iret A dX10_carry_19 hr hlk (Nat.le_of_ble_eq_true rfl) (Nat.le_of_ble_eq_true rfl) ⟨_, rfl, h⟩
theorem eX10_carry {G : zG} {F : Int → zM → Prop} {μ : zM} {x1 : Int} {x2 : Int} (h : ∀ J, zJ G true (12) 0 0 mX10_carry (zKI F) J → J 0 ([some (zR (some 0)), some (zI x1), some (zI x2), none, none], [], μ, 0, 0)) : qX10_carry G x1 x2 μ F :=
  z_body (by decide +kernel) (Nat.le_of_ble_eq_true rfl) h
