set_option maxRecDepth 20000 in
theorem rX10_nextDrawn_e {G : zG} {ph : Bool} {F : Int → zM → Prop} {J : Nat → zS → Prop} {μ : zM} (C : zJ G ph (0) 0 0 mX10_nextDrawn (zKI F) J) (x0 : Int)
    (h : F ((x0 * 1103515245) + 12345) μ) : J 0 ([some (zI x0)], [], μ, 0, 0) := by
  obtain ⟨p, e, s, m, args, below, meth, c, A, hml, hr, hlk, hnm, rfl⟩ := C
  refine s_iload_n A dX10_nextDrawn_0 rfl ?_
  refine s_ldcw (z := 1103515245) A dX10_nextDrawn_1 zwd1189 (by decide +kernel) ?_
  refine s_imul A dX10_nextDrawn_4 ?_
  refine s_sipush A dX10_nextDrawn_5 rfl ?_
  refine s_iadd A dX10_nextDrawn_8 ?_
  exact s_iret A dX10_nextDrawn_9 hr hlk (Nat.le_of_ble_eq_true rfl) (Nat.le_of_ble_eq_true rfl) ⟨_, rfl, h⟩
theorem eX10_nextDrawn {G : zG} {ph : Bool} {F : Int → zM → Prop} {μ : zM} {x0 : Int} (h : ∀ J, zJ G ph (0) 0 0 mX10_nextDrawn (zKI F) J → J 0 ([some (zI x0)], [], μ, 0, 0)) : qX10_nextDrawn G ph x0 μ F :=
  z_body (by decide +kernel) (Nat.le_of_ble_eq_true rfl) h
set_option maxRecDepth 20000 in
theorem rX10_draw_e {G : zG} {ph : Bool} {F : Int → zM → Prop} {J : Nat → zS → Prop} {μ : zM} (C : zJ G ph (0) 0 0 mX10_draw (zKI F) J) (x0 : Int) (x1 : Int)
    (h : zin x1 ∧ ((x1 ≤ 0 → F 0 μ) ∧ (¬ (x1 ≤ 0) → (0 ≤ zushr x0 16 ∧ zushr x0 16 < 2147483648) ∧ (0 < x1 ∧ x1 < 2147483648) ∧ F ((zushr x0 16) % x1) μ))) : J 0 ([some (zI x0), some (zI x1)], [], μ, 0, 0) := by
  obtain ⟨p, e, s, m, args, below, meth, c, A, hml, hr, hlk, hnm, rfl⟩ := C
  refine s_iload_n A dX10_draw_0 rfl ?_
  obtain ⟨oz1, h⟩ := h
  refine z_if_le (tgt := 13) A dX10_draw_1 (by decide) oz1 (fun c2 => ?_) (fun c2 => ?_)
  · have h := h.1 c2
    refine s_iconst A dX10_draw_13 ?_
    exact s_iret A dX10_draw_14 hr hlk (Nat.le_of_ble_eq_true rfl) (Nat.le_of_ble_eq_true rfl) ⟨_, rfl, h⟩
  · have h := h.2 c2
    refine s_iload_n A dX10_draw_4 rfl ?_
    refine s_bipush A dX10_draw_5 rfl ?_
    refine s_iushr A dX10_draw_7 ?_
    refine s_iload_n A dX10_draw_8 rfl ?_
    obtain ⟨o1, h⟩ := h
    obtain ⟨o2, h⟩ := h
    refine z_irem A dX10_draw_9 o1 o2 ?_
    refine s_goto (tgt := 14) A dX10_draw_10 (by decide) ?_
    exact s_iret A dX10_draw_14 hr hlk (Nat.le_of_ble_eq_true rfl) (Nat.le_of_ble_eq_true rfl) ⟨_, rfl, h⟩
theorem eX10_draw {G : zG} {ph : Bool} {F : Int → zM → Prop} {μ : zM} {x0 : Int} {x1 : Int} (h : ∀ J, zJ G ph (0) 0 0 mX10_draw (zKI F) J → J 0 ([some (zI x0), some (zI x1)], [], μ, 0, 0)) : qX10_draw G ph x0 x1 μ F :=
  z_body (by decide +kernel) (Nat.le_of_ble_eq_true rfl) h
set_option maxRecDepth 20000 in
theorem rX10_drifts_e {G : zG} {F : Int → zM → Prop} {J : Nat → zS → Prop} {μ : zM} (C : zJ G true (12) 0 0 mX10_drifts (zKI F) J) (x1 : Int) (x2 : Int)
    (h : qX10_isIn G true x2 1 40 μ (fun v1 μ1 => zin v1 ∧ ((¬ v1 = 0 → qX10_refresh G μ1 (fun μ4 => qX7_copyFrom G 111 5 μ4 (fun μ5 => J 32 ([some (zR (some 0)), none, some (zI x2), some (zI x1), some (zI 0), none, none, none, none], [], μ5, 0, 0)))) ∧ (v1 = 0 → F (-1) μ1)))) : J 0 ([some (zR (some 0)), some (zI x1), some (zI x2), none, none, none, none, none, none], [], μ, 0, 0) := by
  obtain ⟨p, e, s, m, args, below, meth, c, A, hml, hr, hlk, hnm, rfl⟩ := C
  refine s_iload_n A dX10_drifts_0 rfl ?_
  refine s_iconst A dX10_drifts_1 ?_
  refine s_bipush A dX10_drifts_2 rfl ?_
  refine s_callS (M := mX10_isIn) (n := 3) (d := 0) (mc := 0) (ms := 0) (av := [zI x2, zI 1, zI 40]) (st := []) A dX10_drifts_4 zwd597 zwd598 zwd89 zcd_X10_isIn (Nat.le_of_ble_eq_true rfl) (Nat.le_of_ble_eq_true rfl) (Nat.le_refl _) ⟨Nat.le_of_ble_eq_true rfl, Nat.le_of_ble_eq_true rfl⟩ zhn_X10_isIn rfl (Nat.le_of_ble_eq_true rfl) rfl (z_contI (fun v1 μ1 h => ?_) h)
  obtain ⟨oz2, h⟩ := h
  refine z_if_ne (tgt := 12) A dX10_drifts_7 (by decide) oz2 (fun c3 => ?_) (fun c3 => ?_)
  · have h := h.1 c3
    refine s_aload_n A dX10_drifts_12 rfl ?_
    refine s_callV (a := 0) (k := 10) (N := 15) (sl := true) (M := mX10_refresh) (n := 0) (d := 11) (mc := 0) (ms := 0) (av := []) (st := []) A dX10_drifts_13 rfl (by decide) (zk_0 _) zwd813 zwd815 zwd5 zwd89 zcd_X10_refresh (Nat.le_of_ble_eq_true rfl) (Nat.le_of_ble_eq_true rfl) (Nat.le_refl _) ⟨Nat.le_of_ble_eq_true rfl, Nat.le_of_ble_eq_true rfl⟩ ⟨rfl, zhn_X10_refresh⟩ rfl (Nat.le_of_ble_eq_true rfl) rfl (z_contV (fun μ4 h => ?_) h)
    refine s_aload_n A dX10_drifts_16 rfl ?_
    refine s_getf (k := 10) (j := 7) (sl := true) (v := zR (some 111)) A dX10_drifts_17 rfl zuw_X10 (Nat.le_of_ble_eq_true rfl) zwd345 (by decide) (zk_0 _) rfl ?_
    refine s_aload_n A dX10_drifts_20 rfl ?_
    refine s_getf (k := 10) (j := 2) (sl := true) (v := zR (some 5)) A dX10_drifts_21 rfl zuw_X10 (Nat.le_of_ble_eq_true rfl) zwd340 (by decide) (zk_0 _) rfl ?_
    refine s_callV (a := 111) (k := 7) (N := 9) (sl := true) (M := mX7_copyFrom) (n := 1) (d := 2) (mc := 0) (ms := 0) (av := [zR (some 5)]) (st := []) A dX10_drifts_24 rfl (by decide) (zk_111 _) zwd1185 zwd562 zwd563 zwd92 zcd_X7_copyFrom (Nat.le_of_ble_eq_true rfl) (Nat.le_of_ble_eq_true rfl) (Nat.le_refl _) ⟨Nat.le_of_ble_eq_true rfl, Nat.le_of_ble_eq_true rfl⟩ ⟨rfl, zhn_X7_copyFrom⟩ rfl (Nat.le_of_ble_eq_true rfl) rfl (z_contV (fun μ5 h => ?_) h)
    refine s_iload_n A dX10_drifts_27 rfl ?_
    refine s_istore_n (L' := [some (zR (some 0)), some (zI x1), some (zI x2), some (zI x1), none, none, none, none, none]) A dX10_drifts_28 (Nat.le_of_ble_eq_true rfl) rfl ?_
    refine s_iconst A dX10_drifts_29 ?_
    refine s_istore (L' := [some (zR (some 0)), some (zI x1), some (zI x2), some (zI x1), some (zI 0), none, none, none, none]) A dX10_drifts_30 (Nat.le_of_ble_eq_true rfl) rfl ?_
    exact z_wk (L' := [some (zR (some 0)), none, some (zI x2), some (zI x1), some (zI 0), none, none, none, none]) ⟨rfl, rfl, rfl, rfl, trivial⟩ h
  · have h := h.2 c3
    refine s_iconst A dX10_drifts_10 ?_
    exact s_iret A dX10_drifts_11 hr hlk (Nat.le_of_ble_eq_true rfl) (Nat.le_of_ble_eq_true rfl) ⟨_, rfl, h⟩
set_option maxRecDepth 20000 in
theorem rX10_drifts_32 {G : zG} {F : Int → zM → Prop} {J : Nat → zS → Prop} {μ : zM} (C : zJ G true (12) 0 0 mX10_drifts (zKI F) J) (x2 : Int) (x3 : Int) (x4 : Int)
    (h : zin x4 ∧ zin x2 ∧ ((x2 ≤ x4 → qX0_follow G 119 111 μ (fun μ4 => J 155 ([some (zR (some 0)), none, none, none, some (zI 0), some (zI 0), none, none, none], [], μ4, 0, 0))) ∧ (¬ (x2 ≤ x4) → qX10_nextDrawn G true x3 μ (fun v5 μ5 => qX10_draw G true v5 4 μ5 (fun v6 μ6 => qX10_nextDrawn G true v5 μ6 (fun v7 μ7 => qX10_draw G true v7 2 μ7 (fun v8 μ8 => qX10_nextDrawn G true v7 μ8 (fun v9 μ9 => qX10_draw G true v9 3 μ9 (fun v10 μ10 => qX10_nextDrawn G true v9 μ10 (fun v11 μ11 => (0 ≤ v6 ∧ v6 < 4) ∧ (0 ≤ (((v8 + 1) * (zta 2 v6)) * 3) + v10 ∧ (((v8 + 1) * (zta 2 v6)) * 3) + v10 < 243) ∧ qX10_draw G true v11 21 μ11 (fun v14 μ14 => qX10_put G true (((zi μ11 112 ((((v8 + 1) * (zta 2 v6)) * 3) + v10)) + v14) - 10) 100 μ14 (fun v15 μ15 => J 32 ([some (zR (some 0)), none, some (zI x2), some (zI v11), some (zI (x4 + 1)), none, none, none, none], [], zup μ15 112 ((((v8 + 1) * (zta 2 v6)) * 3) + v10) v15, 0, 0))))))))))))) : J 32 ([some (zR (some 0)), none, some (zI x2), some (zI x3), some (zI x4), none, none, none, none], [], μ, 0, 0) := by
  obtain ⟨p, e, s, m, args, below, meth, c, A, hml, hr, hlk, hnm, rfl⟩ := C
  refine s_iload A dX10_drifts_32 rfl ?_
  refine s_iload_n A dX10_drifts_34 rfl ?_
  obtain ⟨oz1, h⟩ := h
  obtain ⟨oz2, h⟩ := h
  refine z_icmp_ge (tgt := 138) A dX10_drifts_35 (by decide) oz1 oz2 (fun c3 => ?_) (fun c3 => ?_)
  · have h := h.1 c3
    refine s_aload_n A dX10_drifts_138 rfl ?_
    refine s_getf (k := 10) (j := 8) (sl := true) (v := zR (some 119)) A dX10_drifts_139 rfl zuw_X10 (Nat.le_of_ble_eq_true rfl) zwd346 (by decide) (zk_0 _) rfl ?_
    refine s_aload_n A dX10_drifts_142 rfl ?_
    refine s_getf (k := 10) (j := 7) (sl := true) (v := zR (some 111)) A dX10_drifts_143 rfl zuw_X10 (Nat.le_of_ble_eq_true rfl) zwd345 (by decide) (zk_0 _) rfl ?_
    refine s_callV (a := 119) (k := 0) (N := 5) (sl := true) (M := mX0_follow) (n := 1) (d := 10) (mc := 0) (ms := 0) (av := [zR (some 111)]) (st := []) A dX10_drifts_146 rfl (by decide) (zk_119 _) zwd817 zwd818 zwd819 zwd95 zcd_X0_follow (Nat.le_of_ble_eq_true rfl) (Nat.le_of_ble_eq_true rfl) (Nat.le_refl _) ⟨Nat.le_of_ble_eq_true rfl, Nat.le_of_ble_eq_true rfl⟩ ⟨rfl, zhn_X0_follow⟩ rfl (Nat.le_of_ble_eq_true rfl) rfl (z_contV (fun μ4 h => ?_) h)
    refine s_iconst A dX10_drifts_149 ?_
    refine s_istore (L' := [some (zR (some 0)), none, some (zI x2), some (zI x3), some (zI 0), none, none, none, none]) A dX10_drifts_150 (Nat.le_of_ble_eq_true rfl) rfl ?_
    refine s_iconst A dX10_drifts_152 ?_
    refine s_istore (L' := [some (zR (some 0)), none, some (zI x2), some (zI x3), some (zI 0), some (zI 0), none, none, none]) A dX10_drifts_153 (Nat.le_of_ble_eq_true rfl) rfl ?_
    exact z_wk (L' := [some (zR (some 0)), none, none, none, some (zI 0), some (zI 0), none, none, none]) ⟨rfl, rfl, rfl, trivial⟩ h
  · have h := h.2 c3
    refine s_iload_n A dX10_drifts_38 rfl ?_
    refine s_callS (M := mX10_nextDrawn) (n := 1) (d := 0) (mc := 0) (ms := 0) (av := [zI x3]) (st := []) A dX10_drifts_39 zwd1186 zwd1187 zwd89 zcd_X10_nextDrawn (Nat.le_of_ble_eq_true rfl) (Nat.le_of_ble_eq_true rfl) (Nat.le_refl _) ⟨Nat.le_of_ble_eq_true rfl, Nat.le_of_ble_eq_true rfl⟩ zhn_X10_nextDrawn rfl (Nat.le_of_ble_eq_true rfl) rfl (z_contI (fun v5 μ5 h => ?_) h)
    refine s_istore_n (L' := [some (zR (some 0)), none, some (zI x2), some (zI v5), some (zI x4), none, none, none, none]) A dX10_drifts_42 (Nat.le_of_ble_eq_true rfl) rfl ?_
    refine s_iload_n A dX10_drifts_43 rfl ?_
    refine s_iconst A dX10_drifts_44 ?_
    refine s_callS (M := mX10_draw) (n := 2) (d := 0) (mc := 0) (ms := 0) (av := [zI v5, zI 4]) (st := []) A dX10_drifts_45 zwd1190 zwd1191 zwd89 zcd_X10_draw (Nat.le_of_ble_eq_true rfl) (Nat.le_of_ble_eq_true rfl) (Nat.le_refl _) ⟨Nat.le_of_ble_eq_true rfl, Nat.le_of_ble_eq_true rfl⟩ zhn_X10_draw rfl (Nat.le_of_ble_eq_true rfl) rfl (z_contI (fun v6 μ6 h => ?_) h)
    refine s_istore (L' := [some (zR (some 0)), none, some (zI x2), some (zI v5), some (zI x4), some (zI v6), none, none, none]) A dX10_drifts_48 (Nat.le_of_ble_eq_true rfl) rfl ?_
    refine s_iload_n A dX10_drifts_50 rfl ?_
    refine s_callS (M := mX10_nextDrawn) (n := 1) (d := 0) (mc := 0) (ms := 0) (av := [zI v5]) (st := []) A dX10_drifts_51 zwd1186 zwd1187 zwd89 zcd_X10_nextDrawn (Nat.le_of_ble_eq_true rfl) (Nat.le_of_ble_eq_true rfl) (Nat.le_refl _) ⟨Nat.le_of_ble_eq_true rfl, Nat.le_of_ble_eq_true rfl⟩ zhn_X10_nextDrawn rfl (Nat.le_of_ble_eq_true rfl) rfl (z_contI (fun v7 μ7 h => ?_) h)
    refine s_istore_n (L' := [some (zR (some 0)), none, some (zI x2), some (zI v7), some (zI x4), some (zI v6), none, none, none]) A dX10_drifts_54 (Nat.le_of_ble_eq_true rfl) rfl ?_
    refine s_iload_n A dX10_drifts_55 rfl ?_
    refine s_iconst A dX10_drifts_56 ?_
    refine s_callS (M := mX10_draw) (n := 2) (d := 0) (mc := 0) (ms := 0) (av := [zI v7, zI 2]) (st := []) A dX10_drifts_57 zwd1190 zwd1191 zwd89 zcd_X10_draw (Nat.le_of_ble_eq_true rfl) (Nat.le_of_ble_eq_true rfl) (Nat.le_refl _) ⟨Nat.le_of_ble_eq_true rfl, Nat.le_of_ble_eq_true rfl⟩ zhn_X10_draw rfl (Nat.le_of_ble_eq_true rfl) rfl (z_contI (fun v8 μ8 h => ?_) h)
    refine s_iconst A dX10_drifts_60 ?_
    refine s_iadd A dX10_drifts_61 ?_
    refine s_istore (L' := [some (zR (some 0)), none, some (zI x2), some (zI v7), some (zI x4), some (zI v6), some (zI (v8 + 1)), none, none]) A dX10_drifts_62 (Nat.le_of_ble_eq_true rfl) rfl ?_
    refine s_iload_n A dX10_drifts_64 rfl ?_
    refine s_callS (M := mX10_nextDrawn) (n := 1) (d := 0) (mc := 0) (ms := 0) (av := [zI v7]) (st := []) A dX10_drifts_65 zwd1186 zwd1187 zwd89 zcd_X10_nextDrawn (Nat.le_of_ble_eq_true rfl) (Nat.le_of_ble_eq_true rfl) (Nat.le_refl _) ⟨Nat.le_of_ble_eq_true rfl, Nat.le_of_ble_eq_true rfl⟩ zhn_X10_nextDrawn rfl (Nat.le_of_ble_eq_true rfl) rfl (z_contI (fun v9 μ9 h => ?_) h)
    refine s_istore_n (L' := [some (zR (some 0)), none, some (zI x2), some (zI v9), some (zI x4), some (zI v6), some (zI (v8 + 1)), none, none]) A dX10_drifts_68 (Nat.le_of_ble_eq_true rfl) rfl ?_
    refine s_iload_n A dX10_drifts_69 rfl ?_
    refine s_iconst A dX10_drifts_70 ?_
    refine s_callS (M := mX10_draw) (n := 2) (d := 0) (mc := 0) (ms := 0) (av := [zI v9, zI 3]) (st := []) A dX10_drifts_71 zwd1190 zwd1191 zwd89 zcd_X10_draw (Nat.le_of_ble_eq_true rfl) (Nat.le_of_ble_eq_true rfl) (Nat.le_refl _) ⟨Nat.le_of_ble_eq_true rfl, Nat.le_of_ble_eq_true rfl⟩ zhn_X10_draw rfl (Nat.le_of_ble_eq_true rfl) rfl (z_contI (fun v10 μ10 h => ?_) h)
    refine s_istore (L' := [some (zR (some 0)), none, some (zI x2), some (zI v9), some (zI x4), some (zI v6), some (zI (v8 + 1)), some (zI v10), none]) A dX10_drifts_74 (Nat.le_of_ble_eq_true rfl) rfl ?_
    refine s_iload_n A dX10_drifts_76 rfl ?_
    refine s_callS (M := mX10_nextDrawn) (n := 1) (d := 0) (mc := 0) (ms := 0) (av := [zI v9]) (st := []) A dX10_drifts_77 zwd1186 zwd1187 zwd89 zcd_X10_nextDrawn (Nat.le_of_ble_eq_true rfl) (Nat.le_of_ble_eq_true rfl) (Nat.le_refl _) ⟨Nat.le_of_ble_eq_true rfl, Nat.le_of_ble_eq_true rfl⟩ zhn_X10_nextDrawn rfl (Nat.le_of_ble_eq_true rfl) rfl (z_contI (fun v11 μ11 h => ?_) h)
    refine s_istore_n (L' := [some (zR (some 0)), none, some (zI x2), some (zI v11), some (zI x4), some (zI v6), some (zI (v8 + 1)), some (zI v10), none]) A dX10_drifts_80 (Nat.le_of_ble_eq_true rfl) rfl ?_
    refine s_iload A dX10_drifts_81 rfl ?_
    refine s_getsT (t := 2) A dX10_drifts_83 (by decide) zwd607 ?_
    refine s_iload A dX10_drifts_86 rfl ?_
    obtain ⟨ox12, h⟩ := h
    refine z_tald A dX10_drifts_88 (by decide) (Nat.le_of_ble_eq_true rfl) ox12 ?_
    refine s_imul A dX10_drifts_89 ?_
    refine s_iconst A dX10_drifts_90 ?_
    refine s_imul A dX10_drifts_91 ?_
    refine s_iload A dX10_drifts_92 rfl ?_
    refine s_iadd A dX10_drifts_94 ?_
    refine s_istore (L' := [some (zR (some 0)), none, some (zI x2), some (zI v11), some (zI x4), some (zI v6), some (zI (v8 + 1)), some (zI v10), some (zI ((((v8 + 1) * (zta 2 v6)) * 3) + v10))]) A dX10_drifts_95 (Nat.le_of_ble_eq_true rfl) rfl ?_
    refine s_aload_n A dX10_drifts_97 rfl ?_
    refine s_getf (k := 10) (j := 7) (sl := true) (v := zR (some 111)) A dX10_drifts_98 rfl zuw_X10 (Nat.le_of_ble_eq_true rfl) zwd345 (by decide) (zk_0 _) rfl ?_
    refine s_getf (k := 7) (j := 0) (sl := true) (v := zR (some 112)) A dX10_drifts_101 rfl zuw_X7 (Nat.le_of_ble_eq_true rfl) zwd185 (by decide) (zk_111 _) rfl ?_
    refine s_iload A dX10_drifts_104 rfl ?_
    refine s_aload_n A dX10_drifts_106 rfl ?_
    refine s_getf (k := 10) (j := 7) (sl := true) (v := zR (some 111)) A dX10_drifts_107 rfl zuw_X10 (Nat.le_of_ble_eq_true rfl) zwd345 (by decide) (zk_0 _) rfl ?_
    refine s_getf (k := 7) (j := 0) (sl := true) (v := zR (some 112)) A dX10_drifts_110 rfl zuw_X7 (Nat.le_of_ble_eq_true rfl) zwd185 (by decide) (zk_111 _) rfl ?_
    refine s_iload A dX10_drifts_113 rfl ?_
    obtain ⟨ox13, h⟩ := h
    refine z_iald A dX10_drifts_115 (zk_112 _) (Nat.le_of_ble_eq_true rfl) ox13 ?_
    refine s_iload_n A dX10_drifts_116 rfl ?_
    refine s_bipush A dX10_drifts_117 rfl ?_
    refine s_callS (M := mX10_draw) (n := 2) (d := 0) (mc := 0) (ms := 0) (av := [zI v11, zI 21]) (st := [zI (zi μ11 112 ((((v8 + 1) * (zta 2 v6)) * 3) + v10)), zI ((((v8 + 1) * (zta 2 v6)) * 3) + v10), zR (some 112)]) A dX10_drifts_119 zwd1190 zwd1191 zwd89 zcd_X10_draw (Nat.le_of_ble_eq_true rfl) (Nat.le_of_ble_eq_true rfl) (Nat.le_refl _) ⟨Nat.le_of_ble_eq_true rfl, Nat.le_of_ble_eq_true rfl⟩ zhn_X10_draw rfl (Nat.le_of_ble_eq_true rfl) rfl (z_contI (fun v14 μ14 h => ?_) h)
    refine s_iadd A dX10_drifts_122 ?_
    refine s_bipush A dX10_drifts_123 rfl ?_
    refine s_isub A dX10_drifts_125 ?_
    refine s_bipush A dX10_drifts_126 rfl ?_
    refine s_callS (M := mX10_put) (n := 2) (d := 8) (mc := 0) (ms := 0) (av := [zI (((zi μ11 112 ((((v8 + 1) * (zta 2 v6)) * 3) + v10)) + v14) - 10), zI 100]) (st := [zI ((((v8 + 1) * (zta 2 v6)) * 3) + v10), zR (some 112)]) A dX10_drifts_128 zwd732 zwd733 zwd89 zcd_X10_put (Nat.le_of_ble_eq_true rfl) (Nat.le_of_ble_eq_true rfl) (Nat.le_refl _) ⟨Nat.le_of_ble_eq_true rfl, Nat.le_of_ble_eq_true rfl⟩ zhn_X10_put rfl (Nat.le_of_ble_eq_true rfl) rfl (z_contI (fun v15 μ15 h => ?_) h)
    refine z_iast A dX10_drifts_131 (zk_112 _) (Nat.le_of_ble_eq_true rfl) ox13 ?_
    refine s_iinc (L' := [some (zR (some 0)), none, some (zI x2), some (zI v11), some (zI (x4 + 1)), some (zI v6), some (zI (v8 + 1)), some (zI v10), some (zI ((((v8 + 1) * (zta 2 v6)) * 3) + v10))]) A dX10_drifts_132 rfl rfl ?_
    refine s_goto (tgt := 32) A dX10_drifts_135 (by decide) ?_
    exact z_wk (L' := [some (zR (some 0)), none, some (zI x2), some (zI v11), some (zI (x4 + 1)), none, none, none, none]) ⟨rfl, rfl, rfl, rfl, trivial⟩ h
set_option maxRecDepth 20000 in
theorem rX10_drifts_155 {G : zG} {F : Int → zM → Prop} {J : Nat → zS → Prop} {μ : zM} (C : zJ G true (12) 0 0 mX10_drifts (zKI F) J) (x4 : Int) (x5 : Int)
    (h : zin x5 ∧ ((4 ≤ x5 → qX4_find G 5 119 200 200 200 μ (fun v3 μ3 => qX6_clear G μ3 (fun μ4 => qX10_codeOf G true v3 μ4 (fun v5 μ5 => zin v5 ∧ qX6_append G v5 μ5 (fun μ7 => zin (zi μ7 125 5) ∧ qX6_append G (zi μ7 125 5) μ7 (fun μ9 => F x4 μ9)))))) ∧ (¬ (4 ≤ x5) → qX0_countRises G 119 x5 μ (fun v10 μ10 => J 155 ([some (zR (some 0)), none, none, none, some (zI (x4 + v10)), some (zI (x5 + 1)), none, none, none], [], μ10, 0, 0))))) : J 155 ([some (zR (some 0)), none, none, none, some (zI x4), some (zI x5), none, none, none], [], μ, 0, 0) := by
  obtain ⟨p, e, s, m, args, below, meth, c, A, hml, hr, hlk, hnm, rfl⟩ := C
  refine s_iload A dX10_drifts_155 rfl ?_
  refine s_iconst A dX10_drifts_157 ?_
  obtain ⟨oz1, h⟩ := h
  refine z_icmp_ge (tgt := 181) A dX10_drifts_158 (by decide) oz1 ⟨by decide, by decide⟩ (fun c2 => ?_) (fun c2 => ?_)
  · have h := h.1 c2
    refine s_aload_n A dX10_drifts_181 rfl ?_
    refine s_getf (k := 10) (j := 9) (sl := true) (v := zR (some 125)) A dX10_drifts_182 rfl zuw_X10 (Nat.le_of_ble_eq_true rfl) zwd347 (by decide) (zk_0 _) rfl ?_
    refine s_aload_n A dX10_drifts_185 rfl ?_
    refine s_getf (k := 10) (j := 2) (sl := true) (v := zR (some 5)) A dX10_drifts_186 rfl zuw_X10 (Nat.le_of_ble_eq_true rfl) zwd340 (by decide) (zk_0 _) rfl ?_
    refine s_aload_n A dX10_drifts_189 rfl ?_
    refine s_getf (k := 10) (j := 8) (sl := true) (v := zR (some 119)) A dX10_drifts_190 rfl zuw_X10 (Nat.le_of_ble_eq_true rfl) zwd346 (by decide) (zk_0 _) rfl ?_
    refine s_sipush A dX10_drifts_193 rfl ?_
    refine s_sipush A dX10_drifts_196 rfl ?_
    refine s_sipush A dX10_drifts_199 rfl ?_
    refine s_callV (a := 125) (k := 4) (N := 9) (sl := true) (M := mX4_find) (n := 5) (d := 9) (mc := 0) (ms := 0) (av := [zR (some 5), zR (some 119), zI 200, zI 200, zI 200]) (st := []) A dX10_drifts_202 rfl (by decide) (zk_125 _) zwd902 zwd903 zwd904 zwd97 zcd_X4_find (Nat.le_of_ble_eq_true rfl) (Nat.le_of_ble_eq_true rfl) (Nat.le_refl _) ⟨Nat.le_of_ble_eq_true rfl, Nat.le_of_ble_eq_true rfl⟩ ⟨rfl, zhn_X4_find⟩ rfl (Nat.le_of_ble_eq_true rfl) rfl (z_contI (fun v3 μ3 h => ?_) h)
    refine s_istore (L' := [some (zR (some 0)), none, none, none, some (zI x4), some (zI v3), none, none, none]) A dX10_drifts_205 (Nat.le_of_ble_eq_true rfl) rfl ?_
    refine s_aload_n A dX10_drifts_207 rfl ?_
    refine s_getf (k := 10) (j := 1) (sl := true) (v := zR (some 3)) A dX10_drifts_208 rfl zuw_X10 (Nat.le_of_ble_eq_true rfl) zwd339 (by decide) (zk_0 _) rfl ?_
    refine s_callV (a := 3) (k := 6) (N := 2) (sl := true) (M := mX6_clear) (n := 0) (d := 0) (mc := 0) (ms := 0) (av := []) (st := []) A dX10_drifts_211 rfl (by decide) (zk_3 _) zwd786 zwd787 zwd788 zwd91 zcd_X6_clear (Nat.le_of_ble_eq_true rfl) (Nat.le_of_ble_eq_true rfl) (Nat.le_refl _) ⟨Nat.le_of_ble_eq_true rfl, Nat.le_of_ble_eq_true rfl⟩ ⟨rfl, zhn_X6_clear⟩ rfl (Nat.le_of_ble_eq_true rfl) rfl (z_contV (fun μ4 h => ?_) h)
    refine s_aload_n A dX10_drifts_214 rfl ?_
    refine s_getf (k := 10) (j := 1) (sl := true) (v := zR (some 3)) A dX10_drifts_215 rfl zuw_X10 (Nat.le_of_ble_eq_true rfl) zwd339 (by decide) (zk_0 _) rfl ?_
    refine s_iload A dX10_drifts_218 rfl ?_
    refine s_callS (M := mX10_codeOf) (n := 1) (d := 2) (mc := 0) (ms := 0) (av := [zI v3]) (st := [zR (some 3)]) A dX10_drifts_220 zwd893 zwd894 zwd89 zcd_X10_codeOf (Nat.le_of_ble_eq_true rfl) (Nat.le_of_ble_eq_true rfl) (Nat.le_refl _) ⟨Nat.le_of_ble_eq_true rfl, Nat.le_of_ble_eq_true rfl⟩ zhn_X10_codeOf rfl (Nat.le_of_ble_eq_true rfl) rfl (z_contI (fun v5 μ5 h => ?_) h)
    obtain ⟨oz6, h⟩ := h
    refine z_i2l2 A dX10_drifts_223 oz6 ?_
    refine s_callV (a := 3) (k := 6) (N := 2) (sl := true) (M := mX6_append) (n := 1) (d := 0) (mc := 0) (ms := 0) (av := [zL v5]) (st := []) A dX10_drifts_224 rfl (by decide) (zk_3 _) zwd790 zwd791 zwd792 zwd91 zcd_X6_append (Nat.le_of_ble_eq_true rfl) (Nat.le_of_ble_eq_true rfl) (Nat.le_refl _) ⟨Nat.le_of_ble_eq_true rfl, Nat.le_of_ble_eq_true rfl⟩ ⟨rfl, zhn_X6_append⟩ rfl (Nat.le_of_ble_eq_true rfl) rfl (z_contV (fun μ7 h => ?_) h)
    refine s_aload_n A dX10_drifts_227 rfl ?_
    refine s_getf (k := 10) (j := 1) (sl := true) (v := zR (some 3)) A dX10_drifts_228 rfl zuw_X10 (Nat.le_of_ble_eq_true rfl) zwd339 (by decide) (zk_0 _) rfl ?_
    refine s_aload_n A dX10_drifts_231 rfl ?_
    refine s_getf (k := 10) (j := 9) (sl := true) (v := zR (some 125)) A dX10_drifts_232 rfl zuw_X10 (Nat.le_of_ble_eq_true rfl) zwd347 (by decide) (zk_0 _) rfl ?_
    refine s_getf (k := 4) (j := 5) (sl := true) (v := zI (zi μ7 125 5)) A dX10_drifts_235 rfl zuw_X4 (Nat.le_of_ble_eq_true rfl) zwd285 (by decide) (zk_125 _) rfl ?_
    obtain ⟨oz8, h⟩ := h
    refine z_i2l2 A dX10_drifts_238 oz8 ?_
    refine s_callV (a := 3) (k := 6) (N := 2) (sl := true) (M := mX6_append) (n := 1) (d := 0) (mc := 0) (ms := 0) (av := [zL (zi μ7 125 5)]) (st := []) A dX10_drifts_239 rfl (by decide) (zk_3 _) zwd790 zwd791 zwd792 zwd91 zcd_X6_append (Nat.le_of_ble_eq_true rfl) (Nat.le_of_ble_eq_true rfl) (Nat.le_refl _) ⟨Nat.le_of_ble_eq_true rfl, Nat.le_of_ble_eq_true rfl⟩ ⟨rfl, zhn_X6_append⟩ rfl (Nat.le_of_ble_eq_true rfl) rfl (z_contV (fun μ9 h => ?_) h)
    refine s_iload A dX10_drifts_242 rfl ?_
    exact s_iret A dX10_drifts_244 hr hlk (Nat.le_of_ble_eq_true rfl) (Nat.le_of_ble_eq_true rfl) ⟨_, rfl, h⟩
  · have h := h.2 c2
    refine s_iload A dX10_drifts_161 rfl ?_
    refine s_aload_n A dX10_drifts_163 rfl ?_
    refine s_getf (k := 10) (j := 8) (sl := true) (v := zR (some 119)) A dX10_drifts_164 rfl zuw_X10 (Nat.le_of_ble_eq_true rfl) zwd346 (by decide) (zk_0 _) rfl ?_
    refine s_iload A dX10_drifts_167 rfl ?_
    refine s_callV (a := 119) (k := 0) (N := 5) (sl := true) (M := mX0_countRises) (n := 1) (d := 3) (mc := 0) (ms := 0) (av := [zI x5]) (st := [zI x4]) A dX10_drifts_169 rfl (by decide) (zk_119 _) zwd1031 zwd1032 zwd1033 zwd95 zcd_X0_countRises (Nat.le_of_ble_eq_true rfl) (Nat.le_of_ble_eq_true rfl) (Nat.le_refl _) ⟨Nat.le_of_ble_eq_true rfl, Nat.le_of_ble_eq_true rfl⟩ ⟨rfl, zhn_X0_countRises⟩ rfl (Nat.le_of_ble_eq_true rfl) rfl (z_contI (fun v10 μ10 h => ?_) h)
    refine s_iadd A dX10_drifts_172 ?_
    refine s_istore (L' := [some (zR (some 0)), none, none, none, some (zI (x4 + v10)), some (zI x5), none, none, none]) A dX10_drifts_173 (Nat.le_of_ble_eq_true rfl) rfl ?_
    refine s_iinc (L' := [some (zR (some 0)), none, none, none, some (zI (x4 + v10)), some (zI (x5 + 1)), none, none, none]) A dX10_drifts_175 rfl rfl ?_
    refine s_goto (tgt := 155) A dX10_drifts_178 (by decide) ?_
    exact h
theorem eX10_drifts {G : zG} {F : Int → zM → Prop} {μ : zM} {x1 : Int} {x2 : Int} (h : ∀ J, zJ G true (12) 0 0 mX10_drifts (zKI F) J → J 0 ([some (zR (some 0)), some (zI x1), some (zI x2), none, none, none, none, none, none], [], μ, 0, 0)) : qX10_drifts G x1 x2 μ F :=
  z_body (by decide +kernel) (Nat.le_of_ble_eq_true rfl) h
set_option maxRecDepth 20000 in
theorem rX10_keep_e {G : zG} {F : Int → zM → Prop} {J : Nat → zS → Prop} {μ : zM} (C : zJ G true (3) 0 0 mX10_keep (zKI F) J) (x1 : Int)
    (h : qX10_isIn G true x1 0 1 μ (fun v1 μ1 => zin v1 ∧ ((¬ v1 = 0 → (0 ≤ x1 ∧ x1 < 2) ∧ qX7_copyFrom G (137 + 8 * x1.toNat) 5 μ1 (fun μ5 => F 1 (zup μ5 104 x1 1))) ∧ (v1 = 0 → F 0 μ1)))) : J 0 ([some (zR (some 0)), some (zI x1)], [], μ, 0, 0) := by
  obtain ⟨p, e, s, m, args, below, meth, c, A, hml, hr, hlk, hnm, rfl⟩ := C
  refine s_iload_n A dX10_keep_0 rfl ?_
  refine s_iconst A dX10_keep_1 ?_
  refine s_iconst A dX10_keep_2 ?_
  refine s_callS (M := mX10_isIn) (n := 3) (d := 0) (mc := 0) (ms := 0) (av := [zI x1, zI 0, zI 1]) (st := []) A dX10_keep_3 zwd597 zwd598 zwd89 zcd_X10_isIn (Nat.le_of_ble_eq_true rfl) (Nat.le_of_ble_eq_true rfl) (Nat.le_refl _) ⟨Nat.le_of_ble_eq_true rfl, Nat.le_of_ble_eq_true rfl⟩ zhn_X10_isIn rfl (Nat.le_of_ble_eq_true rfl) rfl (z_contI (fun v1 μ1 h => ?_) h)
  obtain ⟨oz2, h⟩ := h
  refine z_if_ne (tgt := 11) A dX10_keep_6 (by decide) oz2 (fun c3 => ?_) (fun c3 => ?_)
  · have h := h.1 c3
    refine s_aload_n A dX10_keep_11 rfl ?_
    refine s_getf (k := 10) (j := 4) (sl := true) (v := zR (some 103)) A dX10_keep_12 rfl zuw_X10 (Nat.le_of_ble_eq_true rfl) zwd342 (by decide) (zk_0 _) rfl ?_
    refine s_iload_n A dX10_keep_15 rfl ?_
    obtain ⟨ox4, h⟩ := h
    refine z_aald (r := some (137 + 8 * x1.toNat)) A dX10_keep_16 (by decide) (zk_103 _) (Nat.le_of_ble_eq_true rfl) ox4 rfl ?_
    refine s_aload_n A dX10_keep_17 rfl ?_
    refine s_getf (k := 10) (j := 2) (sl := true) (v := zR (some 5)) A dX10_keep_18 rfl zuw_X10 (Nat.le_of_ble_eq_true rfl) zwd340 (by decide) (zk_0 _) rfl ?_
    refine s_callV (a := 137 + 8 * x1.toNat) (k := 7) (N := 9) (sl := true) (M := mX7_copyFrom) (n := 1) (d := 2) (mc := 0) (ms := 0) (av := [zR (some 5)]) (st := []) A dX10_keep_21 rfl (by decide) ((zSt_kept ox4).k0 _) zwd1185 zwd562 zwd563 zwd92 zcd_X7_copyFrom (Nat.le_of_ble_eq_true rfl) (Nat.le_of_ble_eq_true rfl) (Nat.le_refl _) ⟨Nat.le_of_ble_eq_true rfl, Nat.le_of_ble_eq_true rfl⟩ ⟨rfl, zhn_X7_copyFrom⟩ rfl (Nat.le_of_ble_eq_true rfl) rfl (z_contV (fun μ5 h => ?_) h)
    refine s_aload_n A dX10_keep_24 rfl ?_
    refine s_getf (k := 10) (j := 5) (sl := true) (v := zR (some 104)) A dX10_keep_25 rfl zuw_X10 (Nat.le_of_ble_eq_true rfl) zwd343 (by decide) (zk_0 _) rfl ?_
    refine s_iload_n A dX10_keep_28 rfl ?_
    refine s_iconst A dX10_keep_29 ?_
    refine z_zast A dX10_keep_30 (zk_104 _) (Nat.le_of_ble_eq_true rfl) ox4 (Or.inr rfl) ?_
    refine s_iconst A dX10_keep_31 ?_
    exact s_zret A dX10_keep_32 hr hlk (Nat.le_of_ble_eq_true rfl) (Nat.le_of_ble_eq_true rfl) (Or.inr rfl) ⟨_, rfl, h⟩
  · have h := h.2 c3
    refine s_iconst A dX10_keep_9 ?_
    exact s_zret A dX10_keep_10 hr hlk (Nat.le_of_ble_eq_true rfl) (Nat.le_of_ble_eq_true rfl) (Or.inl rfl) ⟨_, rfl, h⟩
theorem eX10_keep {G : zG} {F : Int → zM → Prop} {μ : zM} {x1 : Int} (h : ∀ J, zJ G true (3) 0 0 mX10_keep (zKI F) J → J 0 ([some (zR (some 0)), some (zI x1)], [], μ, 0, 0)) : qX10_keep G x1 μ F :=
  z_body (by decide +kernel) (Nat.le_of_ble_eq_true rfl) h
set_option maxRecDepth 20000 in
theorem rX10_again_e {G : zG} {F : Int → zM → Prop} {J : Nat → zS → Prop} {μ : zM} (C : zJ G true (3) 0 0 mX10_again (zKI F) J) (x1 : Int)
    (h : qX10_isIn G true x1 0 1 μ (fun v1 μ1 => zin v1 ∧ ((v1 = 0 → F 0 μ1) ∧ (¬ (v1 = 0) → (0 ≤ x1 ∧ x1 < 2) ∧ zin (zi μ1 104 x1) ∧ ((¬ zi μ1 104 x1 = 0 → qX7_copyFrom G 5 (137 + 8 * x1.toNat) μ1 (fun μ7 => F 1 (zup μ7 13 2 0))) ∧ (zi μ1 104 x1 = 0 → F 0 μ1)))))) : J 0 ([some (zR (some 0)), some (zI x1)], [], μ, 0, 0) := by
  obtain ⟨p, e, s, m, args, below, meth, c, A, hml, hr, hlk, hnm, rfl⟩ := C
  refine s_iload_n A dX10_again_0 rfl ?_
  refine s_iconst A dX10_again_1 ?_
  refine s_iconst A dX10_again_2 ?_
  refine s_callS (M := mX10_isIn) (n := 3) (d := 0) (mc := 0) (ms := 0) (av := [zI x1, zI 0, zI 1]) (st := []) A dX10_again_3 zwd597 zwd598 zwd89 zcd_X10_isIn (Nat.le_of_ble_eq_true rfl) (Nat.le_of_ble_eq_true rfl) (Nat.le_refl _) ⟨Nat.le_of_ble_eq_true rfl, Nat.le_of_ble_eq_true rfl⟩ zhn_X10_isIn rfl (Nat.le_of_ble_eq_true rfl) rfl (z_contI (fun v1 μ1 h => ?_) h)
  obtain ⟨oz2, h⟩ := h
  refine z_if_eq (tgt := 18) A dX10_again_6 (by decide) oz2 (fun c3 => ?_) (fun c3 => ?_)
  · have h := h.1 c3
    refine s_iconst A dX10_again_18 ?_
    exact s_zret A dX10_again_19 hr hlk (Nat.le_of_ble_eq_true rfl) (Nat.le_of_ble_eq_true rfl) (Or.inl rfl) ⟨_, rfl, h⟩
  · have h := h.2 c3
    refine s_aload_n A dX10_again_9 rfl ?_
    refine s_getf (k := 10) (j := 5) (sl := true) (v := zR (some 104)) A dX10_again_10 rfl zuw_X10 (Nat.le_of_ble_eq_true rfl) zwd343 (by decide) (zk_0 _) rfl ?_
    refine s_iload_n A dX10_again_13 rfl ?_
    obtain ⟨ox4, h⟩ := h
    refine z_zald A dX10_again_14 (zk_104 _) (Nat.le_of_ble_eq_true rfl) ox4 ?_
    obtain ⟨oz5, h⟩ := h
    refine z_if_ne (tgt := 20) A dX10_again_15 (by decide) oz5 (fun c6 => ?_) (fun c6 => ?_)
    · have h := h.1 c6
      refine s_aload_n A dX10_again_20 rfl ?_
      refine s_getf (k := 10) (j := 2) (sl := true) (v := zR (some 5)) A dX10_again_21 rfl zuw_X10 (Nat.le_of_ble_eq_true rfl) zwd340 (by decide) (zk_0 _) rfl ?_
      refine s_aload_n A dX10_again_24 rfl ?_
      refine s_getf (k := 10) (j := 4) (sl := true) (v := zR (some 103)) A dX10_again_25 rfl zuw_X10 (Nat.le_of_ble_eq_true rfl) zwd342 (by decide) (zk_0 _) rfl ?_
      refine s_iload_n A dX10_again_28 rfl ?_
      refine z_aald (r := some (137 + 8 * x1.toNat)) A dX10_again_29 (by decide) (zk_103 _) (Nat.le_of_ble_eq_true rfl) ox4 rfl ?_
      refine s_callV (a := 5) (k := 7) (N := 9) (sl := true) (M := mX7_copyFrom) (n := 1) (d := 2) (mc := 0) (ms := 0) (av := [zR (some (137 + 8 * x1.toNat))]) (st := []) A dX10_again_30 rfl (by decide) (zk_5 _) zwd1185 zwd562 zwd563 zwd92 zcd_X7_copyFrom (Nat.le_of_ble_eq_true rfl) (Nat.le_of_ble_eq_true rfl) (Nat.le_refl _) ⟨Nat.le_of_ble_eq_true rfl, Nat.le_of_ble_eq_true rfl⟩ ⟨rfl, zhn_X7_copyFrom⟩ rfl (Nat.le_of_ble_eq_true rfl) rfl (z_contV (fun μ7 h => ?_) h)
      refine s_aload_n A dX10_again_33 rfl ?_
      refine s_getf (k := 10) (j := 3) (sl := true) (v := zR (some 13)) A dX10_again_34 rfl zuw_X10 (Nat.le_of_ble_eq_true rfl) zwd341 (by decide) (zk_0 _) rfl ?_
      refine s_iconst A dX10_again_37 ?_
      refine z_putI (k := 1) (j := 2) (sl := true) A dX10_again_38 rfl zuw_X1 (Nat.le_of_ble_eq_true rfl) zwd236 (by decide) (zk_13 _) tyX1 tyX1_ok nmX1 rfl rfl rfl ?_
      refine s_iconst A dX10_again_41 ?_
      exact s_zret A dX10_again_42 hr hlk (Nat.le_of_ble_eq_true rfl) (Nat.le_of_ble_eq_true rfl) (Or.inr rfl) ⟨_, rfl, h⟩
    · have h := h.2 c6
      refine s_iconst A dX10_again_18 ?_
      exact s_zret A dX10_again_19 hr hlk (Nat.le_of_ble_eq_true rfl) (Nat.le_of_ble_eq_true rfl) (Or.inl rfl) ⟨_, rfl, h⟩
theorem eX10_again {G : zG} {F : Int → zM → Prop} {μ : zM} {x1 : Int} (h : ∀ J, zJ G true (3) 0 0 mX10_again (zKI F) J → J 0 ([some (zR (some 0)), some (zI x1)], [], μ, 0, 0)) : qX10_again G x1 μ F :=
  z_body (by decide +kernel) (Nat.le_of_ble_eq_true rfl) h
set_option maxRecDepth 20000 in
theorem rX10_count_e {G : zG} {F : Int → zM → Prop} {J : Nat → zS → Prop} {μ : zM} (C : zJ G true (2) 0 0 mX10_count (zKI F) J) (x1 : Int)
    (h : zin x1 ∧ ((x1 = 0 → qX7_countMeasured G 5 μ (fun v2 μ2 => F v2 μ2)) ∧ (x1 = 1 ∨ x1 = 2 ∨ x1 = 3 ∨ x1 = 4 → (0 ≤ x1 - 1 ∧ x1 - 1 < 7) ∧ F (zi μ 8 (x1 - 1)) μ) ∧ (x1 = 5 → ∃ b4, zr μ 5 8 = some b4 ∧ zok true μ b4 (3, 3) ∧ F (zi μ b4 1) μ) ∧ (x1 = 6 → ∃ b6, zr μ 5 8 = some b6 ∧ zok true μ b6 (3, 3) ∧ F (zi μ b6 2) μ) ∧ (x1 = 7 → F (zi μ 5 6) μ) ∧ (x1 = 8 → F (zi μ 5 7) μ) ∧ (x1 = 9 → F (zi μ 13 2) μ) ∧ (x1 = 10 → F (zi μ 3 1) μ) ∧ (x1 = 11 → F (zi μ 1 1) μ) ∧ (x1 = 12 ∨ x1 = 13 ∨ x1 = 14 → (0 ≤ (4 + x1) - 12 ∧ (4 + x1) - 12 < 7) ∧ F (zi μ 8 ((4 + x1) - 12)) μ) ∧ (x1 ≠ 0 ∧ x1 ≠ 1 ∧ x1 ≠ 2 ∧ x1 ≠ 3 ∧ x1 ≠ 4 ∧ x1 ≠ 5 ∧ x1 ≠ 6 ∧ x1 ≠ 7 ∧ x1 ≠ 8 ∧ x1 ≠ 9 ∧ x1 ≠ 10 ∧ x1 ≠ 11 ∧ x1 ≠ 12 ∧ x1 ≠ 13 ∧ x1 ≠ 14 → F (-1) μ))) : J 0 ([some (zR (some 0)), some (zI x1)], [], μ, 0, 0) := by
  obtain ⟨p, e, s, m, args, below, meth, c, A, hml, hr, hlk, hnm, rfl⟩ := C
  refine s_iload_n A dX10_count_0 rfl ?_
  obtain ⟨oz1, h⟩ := h
  refine z_tsw A dX10_count_1 oz1 (by decide +kernel) ⟨173, by decide⟩ (fun tg9 ht9 => ?_)
  have hx9 : (x1 = 0 ∨ x1 = 1 ∨ x1 = 2 ∨ x1 = 3 ∨ x1 = 4 ∨ x1 = 5 ∨ x1 = 6 ∨ x1 = 7 ∨ x1 = 8 ∨ x1 = 9 ∨ x1 = 10 ∨ x1 = 11 ∨ x1 = 12 ∨ x1 = 13 ∨ x1 = 14) ∨ (x1 < 0 ∨ 14 < x1) := by omega
  rcases hx9 with (hq | hq | hq | hq | hq | hq | hq | hq | hq | hq | hq | hq | hq | hq | hq) | hq
  · obtain rfl := ztg_in (t := 76) ht9 0 hq (by decide) (by decide +kernel)
    have h := h.1 (by omega)
    refine s_aload_n A dX10_count_76 rfl ?_
    refine s_getf (k := 10) (j := 2) (sl := true) (v := zR (some 5)) A dX10_count_77 rfl zuw_X10 (Nat.le_of_ble_eq_true rfl) zwd340 (by decide) (zk_0 _) rfl ?_
    refine s_callV (a := 5) (k := 7) (N := 9) (sl := true) (M := mX7_countMeasured) (n := 0) (d := 0) (mc := 0) (ms := 0) (av := []) (st := []) A dX10_count_80 rfl (by decide) (zk_5 _) zwd1205 zwd609 zwd610 zwd92 zcd_X7_countMeasured (Nat.le_of_ble_eq_true rfl) (Nat.le_of_ble_eq_true rfl) (Nat.le_refl _) ⟨Nat.le_of_ble_eq_true rfl, Nat.le_of_ble_eq_true rfl⟩ ⟨rfl, zhn_X7_countMeasured⟩ rfl (Nat.le_of_ble_eq_true rfl) rfl (z_contI (fun v2 μ2 h => ?_) h)
    exact s_iret A dX10_count_83 hr hlk (Nat.le_of_ble_eq_true rfl) (Nat.le_of_ble_eq_true rfl) ⟨_, rfl, h⟩
  · obtain rfl := ztg_in (t := 84) ht9 1 hq (by decide) (by decide +kernel)
    have h := h.2.1 (by omega)
    refine s_aload_n A dX10_count_84 rfl ?_
    refine s_getf (k := 10) (j := 2) (sl := true) (v := zR (some 5)) A dX10_count_85 rfl zuw_X10 (Nat.le_of_ble_eq_true rfl) zwd340 (by decide) (zk_0 _) rfl ?_
    refine s_getf (k := 7) (j := 2) (sl := true) (v := zR (some 8)) A dX10_count_88 rfl zuw_X7 (Nat.le_of_ble_eq_true rfl) zwd190 (by decide) (zk_5 _) rfl ?_
    refine s_iload_n A dX10_count_91 rfl ?_
    refine s_iconst A dX10_count_92 ?_
    refine s_isub A dX10_count_93 ?_
    obtain ⟨ox3, h⟩ := h
    refine z_iald A dX10_count_94 (zk_8 _) (Nat.le_of_ble_eq_true rfl) ox3 ?_
    exact s_iret A dX10_count_95 hr hlk (Nat.le_of_ble_eq_true rfl) (Nat.le_of_ble_eq_true rfl) ⟨_, rfl, h⟩
  · obtain rfl := ztg_in (t := 84) ht9 2 hq (by decide) (by decide +kernel)
    have h := h.2.1 (by omega)
    refine s_aload_n A dX10_count_84 rfl ?_
    refine s_getf (k := 10) (j := 2) (sl := true) (v := zR (some 5)) A dX10_count_85 rfl zuw_X10 (Nat.le_of_ble_eq_true rfl) zwd340 (by decide) (zk_0 _) rfl ?_
    refine s_getf (k := 7) (j := 2) (sl := true) (v := zR (some 8)) A dX10_count_88 rfl zuw_X7 (Nat.le_of_ble_eq_true rfl) zwd190 (by decide) (zk_5 _) rfl ?_
    refine s_iload_n A dX10_count_91 rfl ?_
    refine s_iconst A dX10_count_92 ?_
    refine s_isub A dX10_count_93 ?_
    obtain ⟨ox3, h⟩ := h
    refine z_iald A dX10_count_94 (zk_8 _) (Nat.le_of_ble_eq_true rfl) ox3 ?_
    exact s_iret A dX10_count_95 hr hlk (Nat.le_of_ble_eq_true rfl) (Nat.le_of_ble_eq_true rfl) ⟨_, rfl, h⟩
  · obtain rfl := ztg_in (t := 84) ht9 3 hq (by decide) (by decide +kernel)
    have h := h.2.1 (by omega)
    refine s_aload_n A dX10_count_84 rfl ?_
    refine s_getf (k := 10) (j := 2) (sl := true) (v := zR (some 5)) A dX10_count_85 rfl zuw_X10 (Nat.le_of_ble_eq_true rfl) zwd340 (by decide) (zk_0 _) rfl ?_
    refine s_getf (k := 7) (j := 2) (sl := true) (v := zR (some 8)) A dX10_count_88 rfl zuw_X7 (Nat.le_of_ble_eq_true rfl) zwd190 (by decide) (zk_5 _) rfl ?_
    refine s_iload_n A dX10_count_91 rfl ?_
    refine s_iconst A dX10_count_92 ?_
    refine s_isub A dX10_count_93 ?_
    obtain ⟨ox3, h⟩ := h
    refine z_iald A dX10_count_94 (zk_8 _) (Nat.le_of_ble_eq_true rfl) ox3 ?_
    exact s_iret A dX10_count_95 hr hlk (Nat.le_of_ble_eq_true rfl) (Nat.le_of_ble_eq_true rfl) ⟨_, rfl, h⟩
  · obtain rfl := ztg_in (t := 84) ht9 4 hq (by decide) (by decide +kernel)
    have h := h.2.1 (by omega)
    refine s_aload_n A dX10_count_84 rfl ?_
    refine s_getf (k := 10) (j := 2) (sl := true) (v := zR (some 5)) A dX10_count_85 rfl zuw_X10 (Nat.le_of_ble_eq_true rfl) zwd340 (by decide) (zk_0 _) rfl ?_
    refine s_getf (k := 7) (j := 2) (sl := true) (v := zR (some 8)) A dX10_count_88 rfl zuw_X7 (Nat.le_of_ble_eq_true rfl) zwd190 (by decide) (zk_5 _) rfl ?_
    refine s_iload_n A dX10_count_91 rfl ?_
    refine s_iconst A dX10_count_92 ?_
    refine s_isub A dX10_count_93 ?_
    obtain ⟨ox3, h⟩ := h
    refine z_iald A dX10_count_94 (zk_8 _) (Nat.le_of_ble_eq_true rfl) ox3 ?_
    exact s_iret A dX10_count_95 hr hlk (Nat.le_of_ble_eq_true rfl) (Nat.le_of_ble_eq_true rfl) ⟨_, rfl, h⟩
  · obtain rfl := ztg_in (t := 96) ht9 5 hq (by decide) (by decide +kernel)
    have h := h.2.2.1 (by omega)
    refine s_aload_n A dX10_count_96 rfl ?_
    refine s_getf (k := 10) (j := 2) (sl := true) (v := zR (some 5)) A dX10_count_97 rfl zuw_X10 (Nat.le_of_ble_eq_true rfl) zwd340 (by decide) (zk_0 _) rfl ?_
    refine s_getf (k := 7) (j := 8) (sl := true) (v := zR (zr μ 5 8)) A dX10_count_100 rfl zuw_X7 (Nat.le_of_ble_eq_true rfl) zwd204 (by decide) (zk_5 _) rfl ?_
    obtain ⟨b4, c4, h⟩ := h
    refine z_eqS (st' := [zR (some b4)]) (by rw [c4] <;> rfl) ?_
    obtain ⟨o5, h⟩ := h
    refine s_getf (k := 3) (j := 1) (sl := false) (v := zI (zi μ b4 1)) A dX10_count_103 rfl zuw_X3 (Nat.le_of_ble_eq_true rfl) zwd173 (by decide) o5 rfl ?_
    exact s_iret A dX10_count_106 hr hlk (Nat.le_of_ble_eq_true rfl) (Nat.le_of_ble_eq_true rfl) ⟨_, rfl, h⟩
  · obtain rfl := ztg_in (t := 107) ht9 6 hq (by decide) (by decide +kernel)
    have h := h.2.2.2.1 (by omega)
    refine s_aload_n A dX10_count_107 rfl ?_
    refine s_getf (k := 10) (j := 2) (sl := true) (v := zR (some 5)) A dX10_count_108 rfl zuw_X10 (Nat.le_of_ble_eq_true rfl) zwd340 (by decide) (zk_0 _) rfl ?_
    refine s_getf (k := 7) (j := 8) (sl := true) (v := zR (zr μ 5 8)) A dX10_count_111 rfl zuw_X7 (Nat.le_of_ble_eq_true rfl) zwd204 (by decide) (zk_5 _) rfl ?_
    obtain ⟨b6, c6, h⟩ := h
    refine z_eqS (st' := [zR (some b6)]) (by rw [c6] <;> rfl) ?_
    obtain ⟨o7, h⟩ := h
    refine s_getf (k := 3) (j := 2) (sl := false) (v := zI (zi μ b6 2)) A dX10_count_114 rfl zuw_X3 (Nat.le_of_ble_eq_true rfl) zwd175 (by decide) o7 rfl ?_
    exact s_iret A dX10_count_117 hr hlk (Nat.le_of_ble_eq_true rfl) (Nat.le_of_ble_eq_true rfl) ⟨_, rfl, h⟩
  · obtain rfl := ztg_in (t := 118) ht9 7 hq (by decide) (by decide +kernel)
    have h := h.2.2.2.2.1 (by omega)
    refine s_aload_n A dX10_count_118 rfl ?_
    refine s_getf (k := 10) (j := 2) (sl := true) (v := zR (some 5)) A dX10_count_119 rfl zuw_X10 (Nat.le_of_ble_eq_true rfl) zwd340 (by decide) (zk_0 _) rfl ?_
    refine s_getf (k := 7) (j := 6) (sl := true) (v := zI (zi μ 5 6)) A dX10_count_122 rfl zuw_X7 (Nat.le_of_ble_eq_true rfl) zwd199 (by decide) (zk_5 _) rfl ?_
    exact s_iret A dX10_count_125 hr hlk (Nat.le_of_ble_eq_true rfl) (Nat.le_of_ble_eq_true rfl) ⟨_, rfl, h⟩
  · obtain rfl := ztg_in (t := 126) ht9 8 hq (by decide) (by decide +kernel)
    have h := h.2.2.2.2.2.1 (by omega)
    refine s_aload_n A dX10_count_126 rfl ?_
    refine s_getf (k := 10) (j := 2) (sl := true) (v := zR (some 5)) A dX10_count_127 rfl zuw_X10 (Nat.le_of_ble_eq_true rfl) zwd340 (by decide) (zk_0 _) rfl ?_
    refine s_getf (k := 7) (j := 7) (sl := true) (v := zI (zi μ 5 7)) A dX10_count_130 rfl zuw_X7 (Nat.le_of_ble_eq_true rfl) zwd202 (by decide) (zk_5 _) rfl ?_
    exact s_iret A dX10_count_133 hr hlk (Nat.le_of_ble_eq_true rfl) (Nat.le_of_ble_eq_true rfl) ⟨_, rfl, h⟩
  · obtain rfl := ztg_in (t := 134) ht9 9 hq (by decide) (by decide +kernel)
    have h := h.2.2.2.2.2.2.1 (by omega)
    refine s_aload_n A dX10_count_134 rfl ?_
    refine s_getf (k := 10) (j := 3) (sl := true) (v := zR (some 13)) A dX10_count_135 rfl zuw_X10 (Nat.le_of_ble_eq_true rfl) zwd341 (by decide) (zk_0 _) rfl ?_
    refine s_getf (k := 1) (j := 2) (sl := true) (v := zI (zi μ 13 2)) A dX10_count_138 rfl zuw_X1 (Nat.le_of_ble_eq_true rfl) zwd236 (by decide) (zk_13 _) rfl ?_
    exact s_iret A dX10_count_141 hr hlk (Nat.le_of_ble_eq_true rfl) (Nat.le_of_ble_eq_true rfl) ⟨_, rfl, h⟩
  · obtain rfl := ztg_in (t := 142) ht9 10 hq (by decide) (by decide +kernel)
    have h := h.2.2.2.2.2.2.2.1 (by omega)
    refine s_aload_n A dX10_count_142 rfl ?_
    refine s_getf (k := 10) (j := 1) (sl := true) (v := zR (some 3)) A dX10_count_143 rfl zuw_X10 (Nat.le_of_ble_eq_true rfl) zwd339 (by decide) (zk_0 _) rfl ?_
    refine s_getf (k := 6) (j := 1) (sl := true) (v := zI (zi μ 3 1)) A dX10_count_146 rfl zuw_X6 (Nat.le_of_ble_eq_true rfl) zwd147 (by decide) (zk_3 _) rfl ?_
    exact s_iret A dX10_count_149 hr hlk (Nat.le_of_ble_eq_true rfl) (Nat.le_of_ble_eq_true rfl) ⟨_, rfl, h⟩
  · obtain rfl := ztg_in (t := 150) ht9 11 hq (by decide) (by decide +kernel)
    have h := h.2.2.2.2.2.2.2.2.1 (by omega)
    refine s_aload_n A dX10_count_150 rfl ?_
    refine s_getf (k := 10) (j := 0) (sl := true) (v := zR (some 1)) A dX10_count_151 rfl zuw_X10 (Nat.le_of_ble_eq_true rfl) zwd338 (by decide) (zk_0 _) rfl ?_
    refine s_getf (k := 9) (j := 1) (sl := true) (v := zI (zi μ 1 1)) A dX10_count_154 rfl zuw_X9 (Nat.le_of_ble_eq_true rfl) zwd129 (by decide) (zk_1 _) rfl ?_
    exact s_iret A dX10_count_157 hr hlk (Nat.le_of_ble_eq_true rfl) (Nat.le_of_ble_eq_true rfl) ⟨_, rfl, h⟩
  · obtain rfl := ztg_in (t := 158) ht9 12 hq (by decide) (by decide +kernel)
    have h := h.2.2.2.2.2.2.2.2.2.1 (by omega)
    refine s_aload_n A dX10_count_158 rfl ?_
    refine s_getf (k := 10) (j := 2) (sl := true) (v := zR (some 5)) A dX10_count_159 rfl zuw_X10 (Nat.le_of_ble_eq_true rfl) zwd340 (by decide) (zk_0 _) rfl ?_
    refine s_getf (k := 7) (j := 2) (sl := true) (v := zR (some 8)) A dX10_count_162 rfl zuw_X7 (Nat.le_of_ble_eq_true rfl) zwd190 (by decide) (zk_5 _) rfl ?_
    refine s_iconst A dX10_count_165 ?_
    refine s_iload_n A dX10_count_166 rfl ?_
    refine s_iadd A dX10_count_167 ?_
    refine s_bipush A dX10_count_168 rfl ?_
    refine s_isub A dX10_count_170 ?_
    obtain ⟨ox8, h⟩ := h
    refine z_iald A dX10_count_171 (zk_8 _) (Nat.le_of_ble_eq_true rfl) ox8 ?_
    exact s_iret A dX10_count_172 hr hlk (Nat.le_of_ble_eq_true rfl) (Nat.le_of_ble_eq_true rfl) ⟨_, rfl, h⟩
  · obtain rfl := ztg_in (t := 158) ht9 13 hq (by decide) (by decide +kernel)
    have h := h.2.2.2.2.2.2.2.2.2.1 (by omega)
    refine s_aload_n A dX10_count_158 rfl ?_
    refine s_getf (k := 10) (j := 2) (sl := true) (v := zR (some 5)) A dX10_count_159 rfl zuw_X10 (Nat.le_of_ble_eq_true rfl) zwd340 (by decide) (zk_0 _) rfl ?_
    refine s_getf (k := 7) (j := 2) (sl := true) (v := zR (some 8)) A dX10_count_162 rfl zuw_X7 (Nat.le_of_ble_eq_true rfl) zwd190 (by decide) (zk_5 _) rfl ?_
    refine s_iconst A dX10_count_165 ?_
    refine s_iload_n A dX10_count_166 rfl ?_
    refine s_iadd A dX10_count_167 ?_
    refine s_bipush A dX10_count_168 rfl ?_
    refine s_isub A dX10_count_170 ?_
    obtain ⟨ox8, h⟩ := h
    refine z_iald A dX10_count_171 (zk_8 _) (Nat.le_of_ble_eq_true rfl) ox8 ?_
    exact s_iret A dX10_count_172 hr hlk (Nat.le_of_ble_eq_true rfl) (Nat.le_of_ble_eq_true rfl) ⟨_, rfl, h⟩
  · obtain rfl := ztg_in (t := 158) ht9 14 hq (by decide) (by decide +kernel)
    have h := h.2.2.2.2.2.2.2.2.2.1 (by omega)
    refine s_aload_n A dX10_count_158 rfl ?_
    refine s_getf (k := 10) (j := 2) (sl := true) (v := zR (some 5)) A dX10_count_159 rfl zuw_X10 (Nat.le_of_ble_eq_true rfl) zwd340 (by decide) (zk_0 _) rfl ?_
    refine s_getf (k := 7) (j := 2) (sl := true) (v := zR (some 8)) A dX10_count_162 rfl zuw_X7 (Nat.le_of_ble_eq_true rfl) zwd190 (by decide) (zk_5 _) rfl ?_
    refine s_iconst A dX10_count_165 ?_
    refine s_iload_n A dX10_count_166 rfl ?_
    refine s_iadd A dX10_count_167 ?_
    refine s_bipush A dX10_count_168 rfl ?_
    refine s_isub A dX10_count_170 ?_
    obtain ⟨ox8, h⟩ := h
    refine z_iald A dX10_count_171 (zk_8 _) (Nat.le_of_ble_eq_true rfl) ox8 ?_
    exact s_iret A dX10_count_172 hr hlk (Nat.le_of_ble_eq_true rfl) (Nat.le_of_ble_eq_true rfl) ⟨_, rfl, h⟩
  · obtain rfl := ztg_out (t := 173) ht9 hq (by decide)
    have h := h.2.2.2.2.2.2.2.2.2.2 (by omega)
    refine s_iconst A dX10_count_173 ?_
    exact s_iret A dX10_count_174 hr hlk (Nat.le_of_ble_eq_true rfl) (Nat.le_of_ble_eq_true rfl) ⟨_, rfl, h⟩
theorem eX10_count {G : zG} {F : Int → zM → Prop} {μ : zM} {x1 : Int} (h : ∀ J, zJ G true (2) 0 0 mX10_count (zKI F) J → J 0 ([some (zR (some 0)), some (zI x1)], [], μ, 0, 0)) : qX10_count G x1 μ F :=
  z_body (by decide +kernel) (Nat.le_of_ble_eq_true rfl) h
