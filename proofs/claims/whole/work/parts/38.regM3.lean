set_option maxRecDepth 20000 in
theorem rX11_press_e {G : zG} {F : Int → zM → Prop} {J : Nat → zS → Prop} {μ : zM} (C : zJ G true (12) 0 0 mX11_press (zKI F) J) (x1 : Int)
    (h : qX11_in G true x1 0 1 (zup μ 153 5 0) (fun v1 μ1 => zin v1 ∧ ((¬ v1 = 0 → qX11_cells G μ1 (fun v4 μ4 => zin v4 ∧ ((¬ v4 = 0 → qX11_layColours G 154 μ4 (fun μ7 => qX11_layPress G x1 μ7 (fun μ8 => J 46 ([some (zR (some 153)), none, some (zI 0), some (zL 0), none, some (zI 0), none, none], [], μ8, 0, 0)))) ∧ (v4 = 0 → F (-2) μ4)))) ∧ (v1 = 0 → F (-1) μ1)))) : J 0 ([some (zR (some 153)), some (zI x1), none, none, none, none, none, none], [], μ, 0, 0) := by
  obtain ⟨p, e, s, m, args, below, meth, c, A, hml, hr, hlk, hnm, rfl⟩ := C
  refine s_aload_n A dX11_press_0 rfl ?_
  refine s_iconst A dX11_press_1 ?_
  refine z_putI (k := 11) (j := 5) (sl := true) A dX11_press_2 rfl zuw_X11 (Nat.le_of_ble_eq_true rfl) zwd1313 (by decide) (zk_153 _) tyX11 tyX11_ok nmX11 rfl rfl rfl ?_
  refine s_iload_n A dX11_press_5 rfl ?_
  refine s_iconst A dX11_press_6 ?_
  refine s_iconst A dX11_press_7 ?_
  refine s_callS (M := mX11_in) (n := 3) (d := 0) (mc := 0) (ms := 0) (av := [zI x1, zI 0, zI 1]) (st := []) A dX11_press_8 zwd1456 zwd1457 zwd100 zcd_X11_in (Nat.le_of_ble_eq_true rfl) (Nat.le_of_ble_eq_true rfl) (Nat.le_refl _) ⟨Nat.le_of_ble_eq_true rfl, Nat.le_of_ble_eq_true rfl⟩ zhn_X11_in rfl (Nat.le_of_ble_eq_true rfl) rfl (z_contI (fun v1 μ1 h => ?_) h)
  obtain ⟨oz2, h⟩ := h
  refine z_if_ne (tgt := 16) A dX11_press_11 (by decide) oz2 (fun c3 => ?_) (fun c3 => ?_)
  · have h := h.1 c3
    refine s_aload_n A dX11_press_16 rfl ?_
    refine s_callV (a := 153) (k := 11) (N := 45) (sl := true) (M := mX11_cells) (n := 0) (d := 0) (mc := 0) (ms := 0) (av := []) (st := []) A dX11_press_17 rfl (by decide) (zk_153 _) zwd1785 zwd1787 zwd75 zwd100 zcd_X11_cells (Nat.le_of_ble_eq_true rfl) (Nat.le_of_ble_eq_true rfl) (Nat.le_refl _) ⟨Nat.le_of_ble_eq_true rfl, Nat.le_of_ble_eq_true rfl⟩ ⟨rfl, zhn_X11_cells⟩ rfl (Nat.le_of_ble_eq_true rfl) rfl (z_contI (fun v4 μ4 h => ?_) h)
    obtain ⟨oz5, h⟩ := h
    refine z_if_ne (tgt := 26) A dX11_press_20 (by decide) oz5 (fun c6 => ?_) (fun c6 => ?_)
    · have h := h.1 c6
      refine s_aload_n A dX11_press_26 rfl ?_
      refine s_aload_n A dX11_press_27 rfl ?_
      refine s_getf (k := 11) (j := 0) (sl := true) (v := zR (some 154)) A dX11_press_28 rfl zuw_X11 (Nat.le_of_ble_eq_true rfl) zwd1308 (by decide) (zk_153 _) rfl ?_
      refine s_callV (a := 153) (k := 11) (N := 45) (sl := true) (M := mX11_layColours) (n := 1) (d := 11) (mc := 0) (ms := 0) (av := [zR (some 154)]) (st := []) A dX11_press_31 rfl (by decide) (zk_153 _) zwd1643 zwd1645 zwd55 zwd100 zcd_X11_layColours (Nat.le_of_ble_eq_true rfl) (Nat.le_of_ble_eq_true rfl) (Nat.le_refl _) ⟨Nat.le_of_ble_eq_true rfl, Nat.le_of_ble_eq_true rfl⟩ ⟨rfl, zhn_X11_layColours⟩ rfl (Nat.le_of_ble_eq_true rfl) rfl (z_contV (fun μ7 h => ?_) h)
      refine s_aload_n A dX11_press_34 rfl ?_
      refine s_iload_n A dX11_press_35 rfl ?_
      refine s_callV (a := 153) (k := 11) (N := 45) (sl := true) (M := mX11_layPress) (n := 1) (d := 10) (mc := 0) (ms := 0) (av := [zI x1]) (st := []) A dX11_press_36 rfl (by decide) (zk_153 _) zwd1789 zwd1791 zwd76 zwd100 zcd_X11_layPress (Nat.le_of_ble_eq_true rfl) (Nat.le_of_ble_eq_true rfl) (Nat.le_refl _) ⟨Nat.le_of_ble_eq_true rfl, Nat.le_of_ble_eq_true rfl⟩ ⟨rfl, zhn_X11_layPress⟩ rfl (Nat.le_of_ble_eq_true rfl) rfl (z_contV (fun μ8 h => ?_) h)
      refine s_iconst A dX11_press_39 ?_
      refine s_istore_n (L' := [some (zR (some 153)), some (zI x1), some (zI 0), none, none, none, none, none]) A dX11_press_40 (Nat.le_of_ble_eq_true rfl) rfl ?_
      refine s_lconst (z := 0) A dX11_press_41 rfl ?_
      refine s_lstore_n (L' := [some (zR (some 153)), some (zI x1), some (zI 0), some (zL 0), none, none, none, none]) A dX11_press_42 (Nat.le_of_ble_eq_true rfl) rfl ?_
      refine s_iconst A dX11_press_43 ?_
      refine s_istore (L' := [some (zR (some 153)), some (zI x1), some (zI 0), some (zL 0), none, some (zI 0), none, none]) A dX11_press_44 (Nat.le_of_ble_eq_true rfl) rfl ?_
      exact z_wk (L' := [some (zR (some 153)), none, some (zI 0), some (zL 0), none, some (zI 0), none, none]) ⟨rfl, rfl, rfl, rfl, trivial⟩ h
    · have h := h.2 c6
      refine s_bipush A dX11_press_23 rfl ?_
      exact s_iret A dX11_press_25 hr hlk (Nat.le_of_ble_eq_true rfl) (Nat.le_of_ble_eq_true rfl) ⟨_, rfl, h⟩
  · have h := h.2 c3
    refine s_iconst A dX11_press_14 ?_
    exact s_iret A dX11_press_15 hr hlk (Nat.le_of_ble_eq_true rfl) (Nat.le_of_ble_eq_true rfl) ⟨_, rfl, h⟩
set_option maxRecDepth 20000 in
theorem rX11_press_46 {G : zG} {F : Int → zM → Prop} {J : Nat → zS → Prop} {μ : zM} (C : zJ G true (12) 0 0 mX11_press (zKI F) J) (x2 : Int) (y3 : Int) (x5 : Int)
    (h : qX11_cells G μ (fun v1 μ1 => zin x5 ∧ zin v1 ∧ ((v1 ≤ x5 → J 192 ([some (zR (some 153)), none, some (zI x2), some (zL y3), none, some (zI 0), none, none], [], zup μ1 153 4 0, 0, 0)) ∧ (¬ (v1 ≤ x5) → J 61 ([some (zR (some 153)), none, some (zI x2), some (zL y3), none, some (zI x5), some (zI 1), some (zI 0)], [], μ1, 0, 0))))) : J 46 ([some (zR (some 153)), none, some (zI x2), some (zL y3), none, some (zI x5), none, none], [], μ, 0, 0) := by
  obtain ⟨p, e, s, m, args, below, meth, c, A, hml, hr, hlk, hnm, rfl⟩ := C
  refine s_iload A dX11_press_46 rfl ?_
  refine s_aload_n A dX11_press_48 rfl ?_
  refine s_callV (a := 153) (k := 11) (N := 45) (sl := true) (M := mX11_cells) (n := 0) (d := 0) (mc := 0) (ms := 0) (av := []) (st := [zI x5]) A dX11_press_49 rfl (by decide) (zk_153 _) zwd1785 zwd1787 zwd75 zwd100 zcd_X11_cells (Nat.le_of_ble_eq_true rfl) (Nat.le_of_ble_eq_true rfl) (Nat.le_refl _) ⟨Nat.le_of_ble_eq_true rfl, Nat.le_of_ble_eq_true rfl⟩ ⟨rfl, zhn_X11_cells⟩ rfl (Nat.le_of_ble_eq_true rfl) rfl (z_contI (fun v1 μ1 h => ?_) h)
  obtain ⟨oz2, h⟩ := h
  obtain ⟨oz3, h⟩ := h
  refine z_icmp_ge (tgt := 184) A dX11_press_52 (by decide) oz2 oz3 (fun c4 => ?_) (fun c4 => ?_)
  · have h := h.1 c4
    refine s_aload_n A dX11_press_184 rfl ?_
    refine s_iconst A dX11_press_185 ?_
    refine z_putI (k := 11) (j := 4) (sl := true) A dX11_press_186 rfl zuw_X11 (Nat.le_of_ble_eq_true rfl) zwd1312 (by decide) (zk_153 _) tyX11 tyX11_ok nmX11 rfl rfl rfl ?_
    refine s_iconst A dX11_press_189 ?_
    refine s_istore (L' := [some (zR (some 153)), none, some (zI x2), some (zL y3), none, some (zI 0), none, none]) A dX11_press_190 (Nat.le_of_ble_eq_true rfl) rfl ?_
    exact h
  · have h := h.2 c4
    refine s_iconst A dX11_press_55 ?_
    refine s_istore (L' := [some (zR (some 153)), none, some (zI x2), some (zL y3), none, some (zI x5), some (zI 1), none]) A dX11_press_56 (Nat.le_of_ble_eq_true rfl) rfl ?_
    refine s_iconst A dX11_press_58 ?_
    refine s_istore (L' := [some (zR (some 153)), none, some (zI x2), some (zL y3), none, some (zI x5), some (zI 1), some (zI 0)]) A dX11_press_59 (Nat.le_of_ble_eq_true rfl) rfl ?_
    exact h
set_option maxRecDepth 20000 in
theorem rX11_press_61 {G : zG} {F : Int → zM → Prop} {J : Nat → zS → Prop} {μ : zM} (C : zJ G true (12) 0 0 mX11_press (zKI F) J) (x2 : Int) (y3 : Int) (x5 : Int) (x6 : Int) (x7 : Int)
    (h : zin x7 ∧ zin x5 ∧ ((x5 ≤ x7 → zin x6 ∧ ((x6 = 0 → (0 ≤ 638 + x5 ∧ 638 + x5 < 711) ∧ (0 ≤ x5 ∧ x5 < 64) ∧ qX11_numberOf G true (zi μ 171 x5) μ (fun v8 μ8 => (0 ≤ 614 + (3 * (zi μ 154 (638 + x5))) ∧ 614 + (3 * (zi μ 154 (638 + x5))) < 711) ∧ (0 ≤ (614 + (3 * (zi μ 154 (638 + x5)))) + 1 ∧ (614 + (3 * (zi μ 154 (638 + x5)))) + 1 < 711) ∧ (0 ≤ (614 + (3 * (zi μ 154 (638 + x5)))) + 2 ∧ (614 + (3 * (zi μ 154 (638 + x5)))) + 2 < 711) ∧ qX11_apartOf G v8 (zi μ8 154 (614 + (3 * (zi μ 154 (638 + x5))))) (zi μ8 154 ((614 + (3 * (zi μ 154 (638 + x5)))) + 1)) (zi μ8 154 ((614 + (3 * (zi μ 154 (638 + x5)))) + 2)) μ8 (fun v12 μ12 => zin v12 ∧ J 46 ([some (zR (some 153)), none, some (zI (x2 + 0)), some (zL (y3 + v12)), none, some (zI (x5 + 1)), none, none], [], μ12, 0, 0)))) ∧ (¬ (x6 = 0) → (0 ≤ 638 + x5 ∧ 638 + x5 < 711) ∧ (0 ≤ x5 ∧ x5 < 64) ∧ qX11_numberOf G true (zi μ 171 x5) μ (fun v16 μ16 => (0 ≤ 614 + (3 * (zi μ 154 (638 + x5))) ∧ 614 + (3 * (zi μ 154 (638 + x5))) < 711) ∧ (0 ≤ (614 + (3 * (zi μ 154 (638 + x5)))) + 1 ∧ (614 + (3 * (zi μ 154 (638 + x5)))) + 1 < 711) ∧ (0 ≤ (614 + (3 * (zi μ 154 (638 + x5)))) + 2 ∧ (614 + (3 * (zi μ 154 (638 + x5)))) + 2 < 711) ∧ qX11_apartOf G v16 (zi μ16 154 (614 + (3 * (zi μ 154 (638 + x5))))) (zi μ16 154 ((614 + (3 * (zi μ 154 (638 + x5)))) + 1)) (zi μ16 154 ((614 + (3 * (zi μ 154 (638 + x5)))) + 2)) μ16 (fun v20 μ20 => zin v20 ∧ J 46 ([some (zR (some 153)), none, some (zI (x2 + 1)), some (zL (y3 + v20)), none, some (zI (x5 + 1)), none, none], [], μ20, 0, 0)))))) ∧ (¬ (x5 ≤ x7) → zin x6 ∧ ((x6 = 0 → J 61 ([some (zR (some 153)), none, some (zI x2), some (zL y3), none, some (zI x5), some (zI 0), some (zI (x7 + 1))], [], μ, 0, 0)) ∧ (¬ (x6 = 0) → (0 ≤ x7 ∧ x7 < 64) ∧ (0 ≤ x5 ∧ x5 < 64) ∧ zin (zi μ 171 x7) ∧ zin (zi μ 171 x5) ∧ ((zi μ 171 x7 = zi μ 171 x5 → J 61 ([some (zR (some 153)), none, some (zI x2), some (zL y3), none, some (zI x5), some (zI 0), some (zI (x7 + 1))], [], μ, 0, 0)) ∧ (¬ (zi μ 171 x7 = zi μ 171 x5) → J 61 ([some (zR (some 153)), none, some (zI x2), some (zL y3), none, some (zI x5), some (zI 1), some (zI (x7 + 1))], [], μ, 0, 0)))))))) : J 61 ([some (zR (some 153)), none, some (zI x2), some (zL y3), none, some (zI x5), some (zI x6), some (zI x7)], [], μ, 0, 0) := by
  obtain ⟨p, e, s, m, args, below, meth, c, A, hml, hr, hlk, hnm, rfl⟩ := C
  refine s_iload A dX11_press_61 rfl ?_
  refine s_iload A dX11_press_63 rfl ?_
  obtain ⟨oz1, h⟩ := h
  obtain ⟨oz2, h⟩ := h
  refine z_icmp_ge (tgt := 103) A dX11_press_65 (by decide) oz1 oz2 (fun c3 => ?_) (fun c3 => ?_)
  · have h := h.1 c3
    refine s_iload_n A dX11_press_103 rfl ?_
    refine s_iload A dX11_press_104 rfl ?_
    obtain ⟨oz4, h⟩ := h
    refine z_if_eq (tgt := 113) A dX11_press_106 (by decide) oz4 (fun c5 => ?_) (fun c5 => ?_)
    · have h := h.1 c5
      refine s_iconst A dX11_press_113 ?_
      refine s_iadd A dX11_press_114 ?_
      refine s_istore_n (L' := [some (zR (some 153)), none, some (zI (x2 + 0)), some (zL y3), none, some (zI x5), some (zI x6), some (zI x7)]) A dX11_press_115 (Nat.le_of_ble_eq_true rfl) rfl ?_
      refine s_sipush A dX11_press_116 rfl ?_
      refine s_iconst A dX11_press_119 ?_
      refine s_aload_n A dX11_press_120 rfl ?_
      refine s_getf (k := 11) (j := 0) (sl := true) (v := zR (some 154)) A dX11_press_121 rfl zuw_X11 (Nat.le_of_ble_eq_true rfl) zwd1308 (by decide) (zk_153 _) rfl ?_
      refine s_sipush A dX11_press_124 rfl ?_
      refine s_iload A dX11_press_127 rfl ?_
      refine s_iadd A dX11_press_129 ?_
      obtain ⟨ox6, h⟩ := h
      refine z_iald A dX11_press_130 (zk_154 _) (Nat.le_of_ble_eq_true rfl) ox6 ?_
      refine s_imul A dX11_press_131 ?_
      refine s_iadd A dX11_press_132 ?_
      refine s_istore (L' := [some (zR (some 153)), none, some (zI (x2 + 0)), some (zL y3), none, some (zI x5), some (zI x6), some (zI (614 + (3 * (zi μ 154 (638 + x5)))))]) A dX11_press_133 (Nat.le_of_ble_eq_true rfl) rfl ?_
      refine s_lload_n A dX11_press_135 rfl ?_
      refine s_aload_n A dX11_press_136 rfl ?_
      refine s_aload_n A dX11_press_137 rfl ?_
      refine s_getf (k := 11) (j := 33) (sl := true) (v := zR (some 171)) A dX11_press_138 rfl zuw_X11 (Nat.le_of_ble_eq_true rfl) zwd1341 (by decide) (zk_153 _) rfl ?_
      refine s_iload A dX11_press_141 rfl ?_
      obtain ⟨ox7, h⟩ := h
      refine z_iald A dX11_press_143 (zk_171 _) (Nat.le_of_ble_eq_true rfl) ox7 ?_
      refine s_callS (M := mX11_numberOf) (n := 1) (d := 2) (mc := 0) (ms := 0) (av := [zI (zi μ 171 x5)]) (st := [zR (some 153), zL y3]) A dX11_press_144 zwd1671 zwd1672 zwd100 zcd_X11_numberOf (Nat.le_of_ble_eq_true rfl) (Nat.le_of_ble_eq_true rfl) (Nat.le_refl _) ⟨Nat.le_of_ble_eq_true rfl, Nat.le_of_ble_eq_true rfl⟩ zhn_X11_numberOf rfl (Nat.le_of_ble_eq_true rfl) rfl (z_contI (fun v8 μ8 h => ?_) h)
      refine s_aload_n A dX11_press_147 rfl ?_
      refine s_getf (k := 11) (j := 0) (sl := true) (v := zR (some 154)) A dX11_press_148 rfl zuw_X11 (Nat.le_of_ble_eq_true rfl) zwd1308 (by decide) (zk_153 _) rfl ?_
      refine s_iload A dX11_press_151 rfl ?_
      obtain ⟨ox9, h⟩ := h
      refine z_iald A dX11_press_153 (zk_154 _) (Nat.le_of_ble_eq_true rfl) ox9 ?_
      refine s_aload_n A dX11_press_154 rfl ?_
      refine s_getf (k := 11) (j := 0) (sl := true) (v := zR (some 154)) A dX11_press_155 rfl zuw_X11 (Nat.le_of_ble_eq_true rfl) zwd1308 (by decide) (zk_153 _) rfl ?_
      refine s_iload A dX11_press_158 rfl ?_
      refine s_iconst A dX11_press_160 ?_
      refine s_iadd A dX11_press_161 ?_
      obtain ⟨ox10, h⟩ := h
      refine z_iald A dX11_press_162 (zk_154 _) (Nat.le_of_ble_eq_true rfl) ox10 ?_
      refine s_aload_n A dX11_press_163 rfl ?_
      refine s_getf (k := 11) (j := 0) (sl := true) (v := zR (some 154)) A dX11_press_164 rfl zuw_X11 (Nat.le_of_ble_eq_true rfl) zwd1308 (by decide) (zk_153 _) rfl ?_
      refine s_iload A dX11_press_167 rfl ?_
      refine s_iconst A dX11_press_169 ?_
      refine s_iadd A dX11_press_170 ?_
      obtain ⟨ox11, h⟩ := h
      refine z_iald A dX11_press_171 (zk_154 _) (Nat.le_of_ble_eq_true rfl) ox11 ?_
      refine s_callV (a := 153) (k := 11) (N := 45) (sl := true) (M := mX11_apartOf) (n := 4) (d := 2) (mc := 0) (ms := 0) (av := [zI v8, zI (zi μ8 154 (614 + (3 * (zi μ 154 (638 + x5))))), zI (zi μ8 154 ((614 + (3 * (zi μ 154 (638 + x5)))) + 1)), zI (zi μ8 154 ((614 + (3 * (zi μ 154 (638 + x5)))) + 2))]) (st := [zL y3]) A dX11_press_172 rfl (by decide) (zk_153 _) zwd1659 zwd1661 zwd59 zwd100 zcd_X11_apartOf (Nat.le_of_ble_eq_true rfl) (Nat.le_of_ble_eq_true rfl) (Nat.le_refl _) ⟨Nat.le_of_ble_eq_true rfl, Nat.le_of_ble_eq_true rfl⟩ ⟨rfl, zhn_X11_apartOf⟩ rfl (Nat.le_of_ble_eq_true rfl) rfl (z_contI (fun v12 μ12 h => ?_) h)
      obtain ⟨oz13, h⟩ := h
      refine z_i2l2 A dX11_press_175 oz13 ?_
      refine s_ladd A dX11_press_176 ?_
      refine s_lstore_n (L' := [some (zR (some 153)), none, some (zI (x2 + 0)), some (zL (y3 + v12)), none, some (zI x5), some (zI x6), some (zI (614 + (3 * (zi μ 154 (638 + x5)))))]) A dX11_press_177 (Nat.le_of_ble_eq_true rfl) rfl ?_
      refine s_iinc (L' := [some (zR (some 153)), none, some (zI (x2 + 0)), some (zL (y3 + v12)), none, some (zI (x5 + 1)), some (zI x6), some (zI (614 + (3 * (zi μ 154 (638 + x5)))))]) A dX11_press_178 rfl rfl ?_
      refine s_goto (tgt := 46) A dX11_press_181 (by decide) ?_
      exact z_wk (L' := [some (zR (some 153)), none, some (zI (x2 + 0)), some (zL (y3 + v12)), none, some (zI (x5 + 1)), none, none]) ⟨rfl, rfl, rfl, rfl, trivial⟩ h
    · have h := h.2 c5
      refine s_iconst A dX11_press_109 ?_
      refine s_goto (tgt := 114) A dX11_press_110 (by decide) ?_
      refine s_iadd A dX11_press_114 ?_
      refine s_istore_n (L' := [some (zR (some 153)), none, some (zI (x2 + 1)), some (zL y3), none, some (zI x5), some (zI x6), some (zI x7)]) A dX11_press_115 (Nat.le_of_ble_eq_true rfl) rfl ?_
      refine s_sipush A dX11_press_116 rfl ?_
      refine s_iconst A dX11_press_119 ?_
      refine s_aload_n A dX11_press_120 rfl ?_
      refine s_getf (k := 11) (j := 0) (sl := true) (v := zR (some 154)) A dX11_press_121 rfl zuw_X11 (Nat.le_of_ble_eq_true rfl) zwd1308 (by decide) (zk_153 _) rfl ?_
      refine s_sipush A dX11_press_124 rfl ?_
      refine s_iload A dX11_press_127 rfl ?_
      refine s_iadd A dX11_press_129 ?_
      obtain ⟨ox14, h⟩ := h
      refine z_iald A dX11_press_130 (zk_154 _) (Nat.le_of_ble_eq_true rfl) ox14 ?_
      refine s_imul A dX11_press_131 ?_
      refine s_iadd A dX11_press_132 ?_
      refine s_istore (L' := [some (zR (some 153)), none, some (zI (x2 + 1)), some (zL y3), none, some (zI x5), some (zI x6), some (zI (614 + (3 * (zi μ 154 (638 + x5)))))]) A dX11_press_133 (Nat.le_of_ble_eq_true rfl) rfl ?_
      refine s_lload_n A dX11_press_135 rfl ?_
      refine s_aload_n A dX11_press_136 rfl ?_
      refine s_aload_n A dX11_press_137 rfl ?_
      refine s_getf (k := 11) (j := 33) (sl := true) (v := zR (some 171)) A dX11_press_138 rfl zuw_X11 (Nat.le_of_ble_eq_true rfl) zwd1341 (by decide) (zk_153 _) rfl ?_
      refine s_iload A dX11_press_141 rfl ?_
      obtain ⟨ox15, h⟩ := h
      refine z_iald A dX11_press_143 (zk_171 _) (Nat.le_of_ble_eq_true rfl) ox15 ?_
      refine s_callS (M := mX11_numberOf) (n := 1) (d := 2) (mc := 0) (ms := 0) (av := [zI (zi μ 171 x5)]) (st := [zR (some 153), zL y3]) A dX11_press_144 zwd1671 zwd1672 zwd100 zcd_X11_numberOf (Nat.le_of_ble_eq_true rfl) (Nat.le_of_ble_eq_true rfl) (Nat.le_refl _) ⟨Nat.le_of_ble_eq_true rfl, Nat.le_of_ble_eq_true rfl⟩ zhn_X11_numberOf rfl (Nat.le_of_ble_eq_true rfl) rfl (z_contI (fun v16 μ16 h => ?_) h)
      refine s_aload_n A dX11_press_147 rfl ?_
      refine s_getf (k := 11) (j := 0) (sl := true) (v := zR (some 154)) A dX11_press_148 rfl zuw_X11 (Nat.le_of_ble_eq_true rfl) zwd1308 (by decide) (zk_153 _) rfl ?_
      refine s_iload A dX11_press_151 rfl ?_
      obtain ⟨ox17, h⟩ := h
      refine z_iald A dX11_press_153 (zk_154 _) (Nat.le_of_ble_eq_true rfl) ox17 ?_
      refine s_aload_n A dX11_press_154 rfl ?_
      refine s_getf (k := 11) (j := 0) (sl := true) (v := zR (some 154)) A dX11_press_155 rfl zuw_X11 (Nat.le_of_ble_eq_true rfl) zwd1308 (by decide) (zk_153 _) rfl ?_
      refine s_iload A dX11_press_158 rfl ?_
      refine s_iconst A dX11_press_160 ?_
      refine s_iadd A dX11_press_161 ?_
      obtain ⟨ox18, h⟩ := h
      refine z_iald A dX11_press_162 (zk_154 _) (Nat.le_of_ble_eq_true rfl) ox18 ?_
      refine s_aload_n A dX11_press_163 rfl ?_
      refine s_getf (k := 11) (j := 0) (sl := true) (v := zR (some 154)) A dX11_press_164 rfl zuw_X11 (Nat.le_of_ble_eq_true rfl) zwd1308 (by decide) (zk_153 _) rfl ?_
      refine s_iload A dX11_press_167 rfl ?_
      refine s_iconst A dX11_press_169 ?_
      refine s_iadd A dX11_press_170 ?_
      obtain ⟨ox19, h⟩ := h
      refine z_iald A dX11_press_171 (zk_154 _) (Nat.le_of_ble_eq_true rfl) ox19 ?_
      refine s_callV (a := 153) (k := 11) (N := 45) (sl := true) (M := mX11_apartOf) (n := 4) (d := 2) (mc := 0) (ms := 0) (av := [zI v16, zI (zi μ16 154 (614 + (3 * (zi μ 154 (638 + x5))))), zI (zi μ16 154 ((614 + (3 * (zi μ 154 (638 + x5)))) + 1)), zI (zi μ16 154 ((614 + (3 * (zi μ 154 (638 + x5)))) + 2))]) (st := [zL y3]) A dX11_press_172 rfl (by decide) (zk_153 _) zwd1659 zwd1661 zwd59 zwd100 zcd_X11_apartOf (Nat.le_of_ble_eq_true rfl) (Nat.le_of_ble_eq_true rfl) (Nat.le_refl _) ⟨Nat.le_of_ble_eq_true rfl, Nat.le_of_ble_eq_true rfl⟩ ⟨rfl, zhn_X11_apartOf⟩ rfl (Nat.le_of_ble_eq_true rfl) rfl (z_contI (fun v20 μ20 h => ?_) h)
      obtain ⟨oz21, h⟩ := h
      refine z_i2l2 A dX11_press_175 oz21 ?_
      refine s_ladd A dX11_press_176 ?_
      refine s_lstore_n (L' := [some (zR (some 153)), none, some (zI (x2 + 1)), some (zL (y3 + v20)), none, some (zI x5), some (zI x6), some (zI (614 + (3 * (zi μ 154 (638 + x5)))))]) A dX11_press_177 (Nat.le_of_ble_eq_true rfl) rfl ?_
      refine s_iinc (L' := [some (zR (some 153)), none, some (zI (x2 + 1)), some (zL (y3 + v20)), none, some (zI (x5 + 1)), some (zI x6), some (zI (614 + (3 * (zi μ 154 (638 + x5)))))]) A dX11_press_178 rfl rfl ?_
      refine s_goto (tgt := 46) A dX11_press_181 (by decide) ?_
      exact z_wk (L' := [some (zR (some 153)), none, some (zI (x2 + 1)), some (zL (y3 + v20)), none, some (zI (x5 + 1)), none, none]) ⟨rfl, rfl, rfl, rfl, trivial⟩ h
  · have h := h.2 c3
    refine s_iload A dX11_press_68 rfl ?_
    obtain ⟨oz22, h⟩ := h
    refine z_if_eq (tgt := 94) A dX11_press_70 (by decide) oz22 (fun c23 => ?_) (fun c23 => ?_)
    · have h := h.1 c23
      refine s_iconst A dX11_press_94 ?_
      refine s_istore (L' := [some (zR (some 153)), none, some (zI x2), some (zL y3), none, some (zI x5), some (zI 0), some (zI x7)]) A dX11_press_95 (Nat.le_of_ble_eq_true rfl) rfl ?_
      refine s_iinc (L' := [some (zR (some 153)), none, some (zI x2), some (zL y3), none, some (zI x5), some (zI 0), some (zI (x7 + 1))]) A dX11_press_97 rfl rfl ?_
      refine s_goto (tgt := 61) A dX11_press_100 (by decide) ?_
      exact h
    · have h := h.2 c23
      refine s_aload_n A dX11_press_73 rfl ?_
      refine s_getf (k := 11) (j := 33) (sl := true) (v := zR (some 171)) A dX11_press_74 rfl zuw_X11 (Nat.le_of_ble_eq_true rfl) zwd1341 (by decide) (zk_153 _) rfl ?_
      refine s_iload A dX11_press_77 rfl ?_
      obtain ⟨ox24, h⟩ := h
      refine z_iald A dX11_press_79 (zk_171 _) (Nat.le_of_ble_eq_true rfl) ox24 ?_
      refine s_aload_n A dX11_press_80 rfl ?_
      refine s_getf (k := 11) (j := 33) (sl := true) (v := zR (some 171)) A dX11_press_81 rfl zuw_X11 (Nat.le_of_ble_eq_true rfl) zwd1341 (by decide) (zk_153 _) rfl ?_
      refine s_iload A dX11_press_84 rfl ?_
      obtain ⟨ox25, h⟩ := h
      refine z_iald A dX11_press_86 (zk_171 _) (Nat.le_of_ble_eq_true rfl) ox25 ?_
      obtain ⟨oz26, h⟩ := h
      obtain ⟨oz27, h⟩ := h
      refine z_icmp_eq (tgt := 94) A dX11_press_87 (by decide) oz26 oz27 (fun c28 => ?_) (fun c28 => ?_)
      · have h := h.1 c28
        refine s_iconst A dX11_press_94 ?_
        refine s_istore (L' := [some (zR (some 153)), none, some (zI x2), some (zL y3), none, some (zI x5), some (zI 0), some (zI x7)]) A dX11_press_95 (Nat.le_of_ble_eq_true rfl) rfl ?_
        refine s_iinc (L' := [some (zR (some 153)), none, some (zI x2), some (zL y3), none, some (zI x5), some (zI 0), some (zI (x7 + 1))]) A dX11_press_97 rfl rfl ?_
        refine s_goto (tgt := 61) A dX11_press_100 (by decide) ?_
        exact h
      · have h := h.2 c28
        refine s_iconst A dX11_press_90 ?_
        refine s_goto (tgt := 95) A dX11_press_91 (by decide) ?_
        refine s_istore (L' := [some (zR (some 153)), none, some (zI x2), some (zL y3), none, some (zI x5), some (zI 1), some (zI x7)]) A dX11_press_95 (Nat.le_of_ble_eq_true rfl) rfl ?_
        refine s_iinc (L' := [some (zR (some 153)), none, some (zI x2), some (zL y3), none, some (zI x5), some (zI 1), some (zI (x7 + 1))]) A dX11_press_97 rfl rfl ?_
        refine s_goto (tgt := 61) A dX11_press_100 (by decide) ?_
        exact h
set_option maxRecDepth 20000 in
theorem rX11_press_192 {G : zG} {F : Int → zM → Prop} {J : Nat → zS → Prop} {μ : zM} (C : zJ G true (12) 0 0 mX11_press (zKI F) J) (x2 : Int) (y3 : Int) (x5 : Int)
    (h : zin x5 ∧ ((4 ≤ x5 → qX11_tell G y3 μ (fun μ3 => F x2 μ3)) ∧ (¬ (4 ≤ x5) → J 204 ([some (zR (some 153)), none, some (zI x2), some (zL y3), none, some (zI x5), some (zI 0), some (zI 0)], [], μ, 0, 0)))) : J 192 ([some (zR (some 153)), none, some (zI x2), some (zL y3), none, some (zI x5), none, none], [], μ, 0, 0) := by
  obtain ⟨p, e, s, m, args, below, meth, c, A, hml, hr, hlk, hnm, rfl⟩ := C
  refine s_iload A dX11_press_192 rfl ?_
  refine s_iconst A dX11_press_194 ?_
  obtain ⟨oz1, h⟩ := h
  refine z_icmp_ge (tgt := 249) A dX11_press_195 (by decide) oz1 ⟨by decide, by decide⟩ (fun c2 => ?_) (fun c2 => ?_)
  · have h := h.1 c2
    refine s_aload_n A dX11_press_249 rfl ?_
    refine s_lload_n A dX11_press_250 rfl ?_
    refine s_callV (a := 153) (k := 11) (N := 45) (sl := true) (M := mX11_tell) (n := 1) (d := 0) (mc := 0) (ms := 0) (av := [zL y3]) (st := []) A dX11_press_251 rfl (by decide) (zk_153 _) zwd1613 zwd1615 zwd51 zwd100 zcd_X11_tell (Nat.le_of_ble_eq_true rfl) (Nat.le_of_ble_eq_true rfl) (Nat.le_refl _) ⟨Nat.le_of_ble_eq_true rfl, Nat.le_of_ble_eq_true rfl⟩ ⟨rfl, zhn_X11_tell⟩ rfl (Nat.le_of_ble_eq_true rfl) rfl (z_contV (fun μ3 h => ?_) h)
    refine s_iload_n A dX11_press_254 rfl ?_
    exact s_iret A dX11_press_255 hr hlk (Nat.le_of_ble_eq_true rfl) (Nat.le_of_ble_eq_true rfl) ⟨_, rfl, h⟩
  · have h := h.2 c2
    refine s_iconst A dX11_press_198 ?_
    refine s_istore (L' := [some (zR (some 153)), none, some (zI x2), some (zL y3), none, some (zI x5), some (zI 0), none]) A dX11_press_199 (Nat.le_of_ble_eq_true rfl) rfl ?_
    refine s_iconst A dX11_press_201 ?_
    refine s_istore (L' := [some (zR (some 153)), none, some (zI x2), some (zL y3), none, some (zI x5), some (zI 0), some (zI 0)]) A dX11_press_202 (Nat.le_of_ble_eq_true rfl) rfl ?_
    exact h
set_option maxRecDepth 20000 in
theorem rX11_press_204 {G : zG} {F : Int → zM → Prop} {J : Nat → zS → Prop} {μ : zM} (C : zJ G true (12) 0 0 mX11_press (zKI F) J) (x2 : Int) (y3 : Int) (x5 : Int) (x6 : Int) (x7 : Int)
    (h : qX11_cells G μ (fun v1 μ1 => zin x7 ∧ zin v1 ∧ ((v1 ≤ x7 → zin x6 ∧ qX11_tell G x6 μ1 (fun μ6 => J 192 ([some (zR (some 153)), none, some (zI x2), some (zL y3), none, some (zI (x5 + 1)), none, none], [], μ6, 0, 0))) ∧ (¬ (v1 ≤ x7) → (0 ≤ x7 ∧ x7 < 64) ∧ qX11_amountOf G true (zi μ1 171 x7) x5 μ1 (fun v8 μ8 => J 204 ([some (zR (some 153)), none, some (zI x2), some (zL y3), none, some (zI x5), some (zI (x6 + v8)), some (zI (x7 + 1))], [], μ8, 0, 0)))))) : J 204 ([some (zR (some 153)), none, some (zI x2), some (zL y3), none, some (zI x5), some (zI x6), some (zI x7)], [], μ, 0, 0) := by
  obtain ⟨p, e, s, m, args, below, meth, c, A, hml, hr, hlk, hnm, rfl⟩ := C
  refine s_iload A dX11_press_204 rfl ?_
  refine s_aload_n A dX11_press_206 rfl ?_
  refine s_callV (a := 153) (k := 11) (N := 45) (sl := true) (M := mX11_cells) (n := 0) (d := 0) (mc := 0) (ms := 0) (av := []) (st := [zI x7]) A dX11_press_207 rfl (by decide) (zk_153 _) zwd1785 zwd1787 zwd75 zwd100 zcd_X11_cells (Nat.le_of_ble_eq_true rfl) (Nat.le_of_ble_eq_true rfl) (Nat.le_refl _) ⟨Nat.le_of_ble_eq_true rfl, Nat.le_of_ble_eq_true rfl⟩ ⟨rfl, zhn_X11_cells⟩ rfl (Nat.le_of_ble_eq_true rfl) rfl (z_contI (fun v1 μ1 h => ?_) h)
  obtain ⟨oz2, h⟩ := h
  obtain ⟨oz3, h⟩ := h
  refine z_icmp_ge (tgt := 236) A dX11_press_210 (by decide) oz2 oz3 (fun c4 => ?_) (fun c4 => ?_)
  · have h := h.1 c4
    refine s_aload_n A dX11_press_236 rfl ?_
    refine s_iload A dX11_press_237 rfl ?_
    obtain ⟨oz5, h⟩ := h
    refine z_i2l2 A dX11_press_239 oz5 ?_
    refine s_callV (a := 153) (k := 11) (N := 45) (sl := true) (M := mX11_tell) (n := 1) (d := 0) (mc := 0) (ms := 0) (av := [zL x6]) (st := []) A dX11_press_240 rfl (by decide) (zk_153 _) zwd1613 zwd1615 zwd51 zwd100 zcd_X11_tell (Nat.le_of_ble_eq_true rfl) (Nat.le_of_ble_eq_true rfl) (Nat.le_refl _) ⟨Nat.le_of_ble_eq_true rfl, Nat.le_of_ble_eq_true rfl⟩ ⟨rfl, zhn_X11_tell⟩ rfl (Nat.le_of_ble_eq_true rfl) rfl (z_contV (fun μ6 h => ?_) h)
    refine s_iinc (L' := [some (zR (some 153)), none, some (zI x2), some (zL y3), none, some (zI (x5 + 1)), some (zI x6), some (zI x7)]) A dX11_press_243 rfl rfl ?_
    refine s_goto (tgt := 192) A dX11_press_246 (by decide) ?_
    exact z_wk (L' := [some (zR (some 153)), none, some (zI x2), some (zL y3), none, some (zI (x5 + 1)), none, none]) ⟨rfl, rfl, rfl, rfl, trivial⟩ h
  · have h := h.2 c4
    refine s_iload A dX11_press_213 rfl ?_
    refine s_aload_n A dX11_press_215 rfl ?_
    refine s_getf (k := 11) (j := 33) (sl := true) (v := zR (some 171)) A dX11_press_216 rfl zuw_X11 (Nat.le_of_ble_eq_true rfl) zwd1341 (by decide) (zk_153 _) rfl ?_
    refine s_iload A dX11_press_219 rfl ?_
    obtain ⟨ox7, h⟩ := h
    refine z_iald A dX11_press_221 (zk_171 _) (Nat.le_of_ble_eq_true rfl) ox7 ?_
    refine s_iload A dX11_press_222 rfl ?_
    refine s_callS (M := mX11_amountOf) (n := 2) (d := 0) (mc := 0) (ms := 0) (av := [zI (zi μ1 171 x7), zI x5]) (st := [zI x6]) A dX11_press_224 zwd1610 zwd1611 zwd100 zcd_X11_amountOf (Nat.le_of_ble_eq_true rfl) (Nat.le_of_ble_eq_true rfl) (Nat.le_refl _) ⟨Nat.le_of_ble_eq_true rfl, Nat.le_of_ble_eq_true rfl⟩ zhn_X11_amountOf rfl (Nat.le_of_ble_eq_true rfl) rfl (z_contI (fun v8 μ8 h => ?_) h)
    refine s_iadd A dX11_press_227 ?_
    refine s_istore (L' := [some (zR (some 153)), none, some (zI x2), some (zL y3), none, some (zI x5), some (zI (x6 + v8)), some (zI x7)]) A dX11_press_228 (Nat.le_of_ble_eq_true rfl) rfl ?_
    refine s_iinc (L' := [some (zR (some 153)), none, some (zI x2), some (zL y3), none, some (zI x5), some (zI (x6 + v8)), some (zI (x7 + 1))]) A dX11_press_230 rfl rfl ?_
    refine s_goto (tgt := 204) A dX11_press_233 (by decide) ?_
    exact h
theorem eX11_press {G : zG} {F : Int → zM → Prop} {μ : zM} {x1 : Int} (h : ∀ J, zJ G true (12) 0 0 mX11_press (zKI F) J → J 0 ([some (zR (some 153)), some (zI x1), none, none, none, none, none, none], [], μ, 0, 0)) : qX11_press G x1 μ F :=
  z_body (by decide +kernel) (Nat.le_of_ble_eq_true rfl) h
set_option maxRecDepth 20000 in
theorem rX11_cell_e {G : zG} {F : Int → zM → Prop} {J : Nat → zS → Prop} {μ : zM} (C : zJ G true (12) 0 0 mX11_cell (zKI F) J) (x1 : Int) (x2 : Int)
    (h : qX11_in G true x1 0 1 (zup μ 153 5 0) (fun v1 μ1 => zin v1 ∧ ((¬ v1 = 0 → qX11_cells G μ1 (fun v4 μ4 => zin v4 ∧ ((¬ v4 = 0 → qX11_cells G μ4 (fun v7 μ7 => qX11_in G true x2 0 (v7 - 1) μ7 (fun v8 μ8 => zin v8 ∧ ((¬ v8 = 0 → qX11_layColours G 154 μ8 (fun μ11 => qX11_layPress G x1 μ11 (fun μ12 => (0 ≤ x2 ∧ x2 < 64) ∧ F (zi μ12 171 x2) μ12))) ∧ (v8 = 0 → F (-1) μ8))))) ∧ (v4 = 0 → F (-2) μ4)))) ∧ (v1 = 0 → F (-1) μ1)))) : J 0 ([some (zR (some 153)), some (zI x1), some (zI x2)], [], μ, 0, 0) := by
  obtain ⟨p, e, s, m, args, below, meth, c, A, hml, hr, hlk, hnm, rfl⟩ := C
  refine s_aload_n A dX11_cell_0 rfl ?_
  refine s_iconst A dX11_cell_1 ?_
  refine z_putI (k := 11) (j := 5) (sl := true) A dX11_cell_2 rfl zuw_X11 (Nat.le_of_ble_eq_true rfl) zwd1313 (by decide) (zk_153 _) tyX11 tyX11_ok nmX11 rfl rfl rfl ?_
  refine s_iload_n A dX11_cell_5 rfl ?_
  refine s_iconst A dX11_cell_6 ?_
  refine s_iconst A dX11_cell_7 ?_
  refine s_callS (M := mX11_in) (n := 3) (d := 0) (mc := 0) (ms := 0) (av := [zI x1, zI 0, zI 1]) (st := []) A dX11_cell_8 zwd1456 zwd1457 zwd100 zcd_X11_in (Nat.le_of_ble_eq_true rfl) (Nat.le_of_ble_eq_true rfl) (Nat.le_refl _) ⟨Nat.le_of_ble_eq_true rfl, Nat.le_of_ble_eq_true rfl⟩ zhn_X11_in rfl (Nat.le_of_ble_eq_true rfl) rfl (z_contI (fun v1 μ1 h => ?_) h)
  obtain ⟨oz2, h⟩ := h
  refine z_if_ne (tgt := 16) A dX11_cell_11 (by decide) oz2 (fun c3 => ?_) (fun c3 => ?_)
  · have h := h.1 c3
    refine s_aload_n A dX11_cell_16 rfl ?_
    refine s_callV (a := 153) (k := 11) (N := 45) (sl := true) (M := mX11_cells) (n := 0) (d := 0) (mc := 0) (ms := 0) (av := []) (st := []) A dX11_cell_17 rfl (by decide) (zk_153 _) zwd1785 zwd1787 zwd75 zwd100 zcd_X11_cells (Nat.le_of_ble_eq_true rfl) (Nat.le_of_ble_eq_true rfl) (Nat.le_refl _) ⟨Nat.le_of_ble_eq_true rfl, Nat.le_of_ble_eq_true rfl⟩ ⟨rfl, zhn_X11_cells⟩ rfl (Nat.le_of_ble_eq_true rfl) rfl (z_contI (fun v4 μ4 h => ?_) h)
    obtain ⟨oz5, h⟩ := h
    refine z_if_ne (tgt := 26) A dX11_cell_20 (by decide) oz5 (fun c6 => ?_) (fun c6 => ?_)
    · have h := h.1 c6
      refine s_iload_n A dX11_cell_26 rfl ?_
      refine s_iconst A dX11_cell_27 ?_
      refine s_aload_n A dX11_cell_28 rfl ?_
      refine s_callV (a := 153) (k := 11) (N := 45) (sl := true) (M := mX11_cells) (n := 0) (d := 0) (mc := 0) (ms := 0) (av := []) (st := [zI 0, zI x2]) A dX11_cell_29 rfl (by decide) (zk_153 _) zwd1785 zwd1787 zwd75 zwd100 zcd_X11_cells (Nat.le_of_ble_eq_true rfl) (Nat.le_of_ble_eq_true rfl) (Nat.le_refl _) ⟨Nat.le_of_ble_eq_true rfl, Nat.le_of_ble_eq_true rfl⟩ ⟨rfl, zhn_X11_cells⟩ rfl (Nat.le_of_ble_eq_true rfl) rfl (z_contI (fun v7 μ7 h => ?_) h)
      refine s_iconst A dX11_cell_32 ?_
      refine s_isub A dX11_cell_33 ?_
      refine s_callS (M := mX11_in) (n := 3) (d := 0) (mc := 0) (ms := 0) (av := [zI x2, zI 0, zI (v7 - 1)]) (st := []) A dX11_cell_34 zwd1456 zwd1457 zwd100 zcd_X11_in (Nat.le_of_ble_eq_true rfl) (Nat.le_of_ble_eq_true rfl) (Nat.le_refl _) ⟨Nat.le_of_ble_eq_true rfl, Nat.le_of_ble_eq_true rfl⟩ zhn_X11_in rfl (Nat.le_of_ble_eq_true rfl) rfl (z_contI (fun v8 μ8 h => ?_) h)
      obtain ⟨oz9, h⟩ := h
      refine z_if_ne (tgt := 42) A dX11_cell_37 (by decide) oz9 (fun c10 => ?_) (fun c10 => ?_)
      · have h := h.1 c10
        refine s_aload_n A dX11_cell_42 rfl ?_
        refine s_aload_n A dX11_cell_43 rfl ?_
        refine s_getf (k := 11) (j := 0) (sl := true) (v := zR (some 154)) A dX11_cell_44 rfl zuw_X11 (Nat.le_of_ble_eq_true rfl) zwd1308 (by decide) (zk_153 _) rfl ?_
        refine s_callV (a := 153) (k := 11) (N := 45) (sl := true) (M := mX11_layColours) (n := 1) (d := 11) (mc := 0) (ms := 0) (av := [zR (some 154)]) (st := []) A dX11_cell_47 rfl (by decide) (zk_153 _) zwd1643 zwd1645 zwd55 zwd100 zcd_X11_layColours (Nat.le_of_ble_eq_true rfl) (Nat.le_of_ble_eq_true rfl) (Nat.le_refl _) ⟨Nat.le_of_ble_eq_true rfl, Nat.le_of_ble_eq_true rfl⟩ ⟨rfl, zhn_X11_layColours⟩ rfl (Nat.le_of_ble_eq_true rfl) rfl (z_contV (fun μ11 h => ?_) h)
        refine s_aload_n A dX11_cell_50 rfl ?_
        refine s_iload_n A dX11_cell_51 rfl ?_
        refine s_callV (a := 153) (k := 11) (N := 45) (sl := true) (M := mX11_layPress) (n := 1) (d := 10) (mc := 0) (ms := 0) (av := [zI x1]) (st := []) A dX11_cell_52 rfl (by decide) (zk_153 _) zwd1789 zwd1791 zwd76 zwd100 zcd_X11_layPress (Nat.le_of_ble_eq_true rfl) (Nat.le_of_ble_eq_true rfl) (Nat.le_refl _) ⟨Nat.le_of_ble_eq_true rfl, Nat.le_of_ble_eq_true rfl⟩ ⟨rfl, zhn_X11_layPress⟩ rfl (Nat.le_of_ble_eq_true rfl) rfl (z_contV (fun μ12 h => ?_) h)
        refine s_aload_n A dX11_cell_55 rfl ?_
        refine s_getf (k := 11) (j := 33) (sl := true) (v := zR (some 171)) A dX11_cell_56 rfl zuw_X11 (Nat.le_of_ble_eq_true rfl) zwd1341 (by decide) (zk_153 _) rfl ?_
        refine s_iload_n A dX11_cell_59 rfl ?_
        obtain ⟨ox13, h⟩ := h
        refine z_iald A dX11_cell_60 (zk_171 _) (Nat.le_of_ble_eq_true rfl) ox13 ?_
        exact s_iret A dX11_cell_61 hr hlk (Nat.le_of_ble_eq_true rfl) (Nat.le_of_ble_eq_true rfl) ⟨_, rfl, h⟩
      · have h := h.2 c10
        refine s_iconst A dX11_cell_40 ?_
        exact s_iret A dX11_cell_41 hr hlk (Nat.le_of_ble_eq_true rfl) (Nat.le_of_ble_eq_true rfl) ⟨_, rfl, h⟩
    · have h := h.2 c6
      refine s_bipush A dX11_cell_23 rfl ?_
      exact s_iret A dX11_cell_25 hr hlk (Nat.le_of_ble_eq_true rfl) (Nat.le_of_ble_eq_true rfl) ⟨_, rfl, h⟩
  · have h := h.2 c3
    refine s_iconst A dX11_cell_14 ?_
    exact s_iret A dX11_cell_15 hr hlk (Nat.le_of_ble_eq_true rfl) (Nat.le_of_ble_eq_true rfl) ⟨_, rfl, h⟩
theorem eX11_cell {G : zG} {F : Int → zM → Prop} {μ : zM} {x1 : Int} {x2 : Int} (h : ∀ J, zJ G true (12) 0 0 mX11_cell (zKI F) J → J 0 ([some (zR (some 153)), some (zI x1), some (zI x2)], [], μ, 0, 0)) : qX11_cell G x1 x2 μ F :=
  z_body (by decide +kernel) (Nat.le_of_ble_eq_true rfl) h
set_option maxRecDepth 20000 in
theorem rX11_slips_e {G : zG} {F : Int → zM → Prop} {J : Nat → zS → Prop} {μ : zM} (C : zJ G true (12) 0 0 mX11_slips (zKI F) J) (x1 : Int) (x2 : Int) (x3 : Int)
    (h : qX11_isInk G true x1 (zup μ 153 5 0) (fun v1 μ1 => zin v1 ∧ ((v1 = 0 → F (-1) μ1) ∧ (¬ (v1 = 0) → qX11_in G true x2 (-8) 8 μ1 (fun v4 μ4 => zin v4 ∧ ((v4 = 0 → F (-1) μ4) ∧ (¬ (v4 = 0) → qX11_in G true x3 (-8) 8 μ4 (fun v7 μ7 => zin v7 ∧ ((¬ v7 = 0 → qX11_cells G μ7 (fun v10 μ10 => zin v10 ∧ ((¬ v10 = 0 → qX11_layColours G 154 μ10 (fun μ13 => qX11_layPress G 0 μ13 (fun μ14 => J 68 ([some (zR (some 153)), some (zI x1), some (zI x2), some (zI x3), some (zI 0), some (zL 0), none, some (zI 0), none, none, none, none, none], [], μ14, 0, 0)))) ∧ (v10 = 0 → F (-2) μ10)))) ∧ (v7 = 0 → F (-1) μ7)))))))))) : J 0 ([some (zR (some 153)), some (zI x1), some (zI x2), some (zI x3), none, none, none, none, none, none, none, none, none], [], μ, 0, 0) := by
  obtain ⟨p, e, s, m, args, below, meth, c, A, hml, hr, hlk, hnm, rfl⟩ := C
  refine s_aload_n A dX11_slips_0 rfl ?_
  refine s_iconst A dX11_slips_1 ?_
  refine z_putI (k := 11) (j := 5) (sl := true) A dX11_slips_2 rfl zuw_X11 (Nat.le_of_ble_eq_true rfl) zwd1313 (by decide) (zk_153 _) tyX11 tyX11_ok nmX11 rfl rfl rfl ?_
  refine s_iload_n A dX11_slips_5 rfl ?_
  refine s_callS (M := mX11_isInk) (n := 1) (d := 2) (mc := 0) (ms := 0) (av := [zI x1]) (st := []) A dX11_slips_6 zwd1521 zwd1522 zwd100 zcd_X11_isInk (Nat.le_of_ble_eq_true rfl) (Nat.le_of_ble_eq_true rfl) (Nat.le_refl _) ⟨Nat.le_of_ble_eq_true rfl, Nat.le_of_ble_eq_true rfl⟩ zhn_X11_isInk rfl (Nat.le_of_ble_eq_true rfl) rfl (z_contI (fun v1 μ1 h => ?_) h)
  obtain ⟨oz2, h⟩ := h
  refine z_if_eq (tgt := 34) A dX11_slips_9 (by decide) oz2 (fun c3 => ?_) (fun c3 => ?_)
  · have h := h.1 c3
    refine s_iconst A dX11_slips_34 ?_
    exact s_iret A dX11_slips_35 hr hlk (Nat.le_of_ble_eq_true rfl) (Nat.le_of_ble_eq_true rfl) ⟨_, rfl, h⟩
  · have h := h.2 c3
    refine s_iload_n A dX11_slips_12 rfl ?_
    refine s_bipush A dX11_slips_13 rfl ?_
    refine s_bipush A dX11_slips_15 rfl ?_
    refine s_callS (M := mX11_in) (n := 3) (d := 0) (mc := 0) (ms := 0) (av := [zI x2, zI (-8), zI 8]) (st := []) A dX11_slips_17 zwd1456 zwd1457 zwd100 zcd_X11_in (Nat.le_of_ble_eq_true rfl) (Nat.le_of_ble_eq_true rfl) (Nat.le_refl _) ⟨Nat.le_of_ble_eq_true rfl, Nat.le_of_ble_eq_true rfl⟩ zhn_X11_in rfl (Nat.le_of_ble_eq_true rfl) rfl (z_contI (fun v4 μ4 h => ?_) h)
    obtain ⟨oz5, h⟩ := h
    refine z_if_eq (tgt := 34) A dX11_slips_20 (by decide) oz5 (fun c6 => ?_) (fun c6 => ?_)
    · have h := h.1 c6
      refine s_iconst A dX11_slips_34 ?_
      exact s_iret A dX11_slips_35 hr hlk (Nat.le_of_ble_eq_true rfl) (Nat.le_of_ble_eq_true rfl) ⟨_, rfl, h⟩
    · have h := h.2 c6
      refine s_iload_n A dX11_slips_23 rfl ?_
      refine s_bipush A dX11_slips_24 rfl ?_
      refine s_bipush A dX11_slips_26 rfl ?_
      refine s_callS (M := mX11_in) (n := 3) (d := 0) (mc := 0) (ms := 0) (av := [zI x3, zI (-8), zI 8]) (st := []) A dX11_slips_28 zwd1456 zwd1457 zwd100 zcd_X11_in (Nat.le_of_ble_eq_true rfl) (Nat.le_of_ble_eq_true rfl) (Nat.le_refl _) ⟨Nat.le_of_ble_eq_true rfl, Nat.le_of_ble_eq_true rfl⟩ zhn_X11_in rfl (Nat.le_of_ble_eq_true rfl) rfl (z_contI (fun v7 μ7 h => ?_) h)
      obtain ⟨oz8, h⟩ := h
      refine z_if_ne (tgt := 36) A dX11_slips_31 (by decide) oz8 (fun c9 => ?_) (fun c9 => ?_)
      · have h := h.1 c9
        refine s_aload_n A dX11_slips_36 rfl ?_
        refine s_callV (a := 153) (k := 11) (N := 45) (sl := true) (M := mX11_cells) (n := 0) (d := 0) (mc := 0) (ms := 0) (av := []) (st := []) A dX11_slips_37 rfl (by decide) (zk_153 _) zwd1785 zwd1787 zwd75 zwd100 zcd_X11_cells (Nat.le_of_ble_eq_true rfl) (Nat.le_of_ble_eq_true rfl) (Nat.le_refl _) ⟨Nat.le_of_ble_eq_true rfl, Nat.le_of_ble_eq_true rfl⟩ ⟨rfl, zhn_X11_cells⟩ rfl (Nat.le_of_ble_eq_true rfl) rfl (z_contI (fun v10 μ10 h => ?_) h)
        obtain ⟨oz11, h⟩ := h
        refine z_if_ne (tgt := 46) A dX11_slips_40 (by decide) oz11 (fun c12 => ?_) (fun c12 => ?_)
        · have h := h.1 c12
          refine s_aload_n A dX11_slips_46 rfl ?_
          refine s_aload_n A dX11_slips_47 rfl ?_
          refine s_getf (k := 11) (j := 0) (sl := true) (v := zR (some 154)) A dX11_slips_48 rfl zuw_X11 (Nat.le_of_ble_eq_true rfl) zwd1308 (by decide) (zk_153 _) rfl ?_
          refine s_callV (a := 153) (k := 11) (N := 45) (sl := true) (M := mX11_layColours) (n := 1) (d := 11) (mc := 0) (ms := 0) (av := [zR (some 154)]) (st := []) A dX11_slips_51 rfl (by decide) (zk_153 _) zwd1643 zwd1645 zwd55 zwd100 zcd_X11_layColours (Nat.le_of_ble_eq_true rfl) (Nat.le_of_ble_eq_true rfl) (Nat.le_refl _) ⟨Nat.le_of_ble_eq_true rfl, Nat.le_of_ble_eq_true rfl⟩ ⟨rfl, zhn_X11_layColours⟩ rfl (Nat.le_of_ble_eq_true rfl) rfl (z_contV (fun μ13 h => ?_) h)
          refine s_aload_n A dX11_slips_54 rfl ?_
          refine s_iconst A dX11_slips_55 ?_
          refine s_callV (a := 153) (k := 11) (N := 45) (sl := true) (M := mX11_layPress) (n := 1) (d := 10) (mc := 0) (ms := 0) (av := [zI 0]) (st := []) A dX11_slips_56 rfl (by decide) (zk_153 _) zwd1789 zwd1791 zwd76 zwd100 zcd_X11_layPress (Nat.le_of_ble_eq_true rfl) (Nat.le_of_ble_eq_true rfl) (Nat.le_refl _) ⟨Nat.le_of_ble_eq_true rfl, Nat.le_of_ble_eq_true rfl⟩ ⟨rfl, zhn_X11_layPress⟩ rfl (Nat.le_of_ble_eq_true rfl) rfl (z_contV (fun μ14 h => ?_) h)
          refine s_iconst A dX11_slips_59 ?_
          refine s_istore (L' := [some (zR (some 153)), some (zI x1), some (zI x2), some (zI x3), some (zI 0), none, none, none, none, none, none, none, none]) A dX11_slips_60 (Nat.le_of_ble_eq_true rfl) rfl ?_
          refine s_lconst (z := 0) A dX11_slips_62 rfl ?_
          refine s_lstore (L' := [some (zR (some 153)), some (zI x1), some (zI x2), some (zI x3), some (zI 0), some (zL 0), none, none, none, none, none, none, none]) A dX11_slips_63 (Nat.le_of_ble_eq_true rfl) rfl ?_
          refine s_iconst A dX11_slips_65 ?_
          refine s_istore (L' := [some (zR (some 153)), some (zI x1), some (zI x2), some (zI x3), some (zI 0), some (zL 0), none, some (zI 0), none, none, none, none, none]) A dX11_slips_66 (Nat.le_of_ble_eq_true rfl) rfl ?_
          exact h
        · have h := h.2 c12
          refine s_bipush A dX11_slips_43 rfl ?_
          exact s_iret A dX11_slips_45 hr hlk (Nat.le_of_ble_eq_true rfl) (Nat.le_of_ble_eq_true rfl) ⟨_, rfl, h⟩
      · have h := h.2 c9
        refine s_iconst A dX11_slips_34 ?_
        exact s_iret A dX11_slips_35 hr hlk (Nat.le_of_ble_eq_true rfl) (Nat.le_of_ble_eq_true rfl) ⟨_, rfl, h⟩
set_option maxRecDepth 20000 in
theorem rX11_slips_68 {G : zG} {F : Int → zM → Prop} {J : Nat → zS → Prop} {μ : zM} (C : zJ G true (12) 0 0 mX11_slips (zKI F) J) (x1 : Int) (x2 : Int) (x3 : Int) (x4 : Int) (y5 : Int) (x7 : Int)
    (h : qX11_cells G μ (fun v1 μ1 => zin x7 ∧ zin v1 ∧ ((v1 ≤ x7 → qX11_tell G y5 (zup μ1 153 4 0) (fun μ5 => F x4 μ5)) ∧ (¬ (v1 ≤ x7) → (0 ≤ x7 ∧ x7 < 2147483648) ∧ (0 < zi μ1 154 702 ∧ zi μ1 154 702 < 2147483648) ∧ (0 ≤ x7 ∧ x7 < 2147483648) ∧ (0 < zi μ1 154 702 ∧ zi μ1 154 702 < 2147483648) ∧ qX11_in G true ((x7 % (zi μ1 154 702)) - x2) 0 ((zi μ1 154 702) - 1) μ1 (fun v6 μ6 => zin v6 ∧ ((v6 = 0 → J 150 ([some (zR (some 153)), some (zI x1), some (zI x2), some (zI x3), some (zI x4), some (zL y5), none, some (zI x7), some (zI ((x7 % (zi μ1 154 702)) - x2)), some (zI ((x7 / (zi μ1 154 702)) - x3)), none, none, none], [zI 0], μ6, 0, 0)) ∧ (¬ (v6 = 0) → qX11_in G true ((x7 / (zi μ1 154 702)) - x3) 0 ((zi μ6 154 703) - 1) μ6 (fun v9 μ9 => zin v9 ∧ ((v9 = 0 → J 150 ([some (zR (some 153)), some (zI x1), some (zI x2), some (zI x3), some (zI x4), some (zL y5), none, some (zI x7), some (zI ((x7 % (zi μ1 154 702)) - x2)), some (zI ((x7 / (zi μ1 154 702)) - x3)), none, none, none], [zI 0], μ9, 0, 0)) ∧ (¬ (v9 = 0) → J 150 ([some (zR (some 153)), some (zI x1), some (zI x2), some (zI x3), some (zI x4), some (zL y5), none, some (zI x7), some (zI ((x7 % (zi μ1 154 702)) - x2)), some (zI ((x7 / (zi μ1 154 702)) - x3)), none, none, none], [zI 1], μ9, 0, 0))))))))))) : J 68 ([some (zR (some 153)), some (zI x1), some (zI x2), some (zI x3), some (zI x4), some (zL y5), none, some (zI x7), none, none, none, none, none], [], μ, 0, 0) := by
  obtain ⟨p, e, s, m, args, below, meth, c, A, hml, hr, hlk, hnm, rfl⟩ := C
  refine s_iload A dX11_slips_68 rfl ?_
  refine s_aload_n A dX11_slips_70 rfl ?_
  refine s_callV (a := 153) (k := 11) (N := 45) (sl := true) (M := mX11_cells) (n := 0) (d := 0) (mc := 0) (ms := 0) (av := []) (st := [zI x7]) A dX11_slips_71 rfl (by decide) (zk_153 _) zwd1785 zwd1787 zwd75 zwd100 zcd_X11_cells (Nat.le_of_ble_eq_true rfl) (Nat.le_of_ble_eq_true rfl) (Nat.le_refl _) ⟨Nat.le_of_ble_eq_true rfl, Nat.le_of_ble_eq_true rfl⟩ ⟨rfl, zhn_X11_cells⟩ rfl (Nat.le_of_ble_eq_true rfl) rfl (z_contI (fun v1 μ1 h => ?_) h)
  obtain ⟨oz2, h⟩ := h
  obtain ⟨oz3, h⟩ := h
  refine z_icmp_ge (tgt := 269) A dX11_slips_74 (by decide) oz2 oz3 (fun c4 => ?_) (fun c4 => ?_)
  · have h := h.1 c4
    refine s_aload_n A dX11_slips_269 rfl ?_
    refine s_iconst A dX11_slips_270 ?_
    refine z_putI (k := 11) (j := 4) (sl := true) A dX11_slips_271 rfl zuw_X11 (Nat.le_of_ble_eq_true rfl) zwd1312 (by decide) (zk_153 _) tyX11 tyX11_ok nmX11 rfl rfl rfl ?_
    refine s_aload_n A dX11_slips_274 rfl ?_
    refine s_lload A dX11_slips_275 rfl ?_
    refine s_callV (a := 153) (k := 11) (N := 45) (sl := true) (M := mX11_tell) (n := 1) (d := 0) (mc := 0) (ms := 0) (av := [zL y5]) (st := []) A dX11_slips_277 rfl (by decide) (zk_153 _) zwd1613 zwd1615 zwd51 zwd100 zcd_X11_tell (Nat.le_of_ble_eq_true rfl) (Nat.le_of_ble_eq_true rfl) (Nat.le_refl _) ⟨Nat.le_of_ble_eq_true rfl, Nat.le_of_ble_eq_true rfl⟩ ⟨rfl, zhn_X11_tell⟩ rfl (Nat.le_of_ble_eq_true rfl) rfl (z_contV (fun μ5 h => ?_) h)
    refine s_iload A dX11_slips_280 rfl ?_
    exact s_iret A dX11_slips_282 hr hlk (Nat.le_of_ble_eq_true rfl) (Nat.le_of_ble_eq_true rfl) ⟨_, rfl, h⟩
  · have h := h.2 c4
    refine s_iload A dX11_slips_77 rfl ?_
    refine s_aload_n A dX11_slips_79 rfl ?_
    refine s_getf (k := 11) (j := 0) (sl := true) (v := zR (some 154)) A dX11_slips_80 rfl zuw_X11 (Nat.le_of_ble_eq_true rfl) zwd1308 (by decide) (zk_153 _) rfl ?_
    refine s_sipush A dX11_slips_83 rfl ?_
    refine z_iald A dX11_slips_86 (zk_154 _) (Nat.le_of_ble_eq_true rfl) ⟨by decide, by decide⟩ ?_
    obtain ⟨o1, h⟩ := h
    obtain ⟨o2, h⟩ := h
    refine z_irem A dX11_slips_87 o1 o2 ?_
    refine s_iload_n A dX11_slips_88 rfl ?_
    refine s_isub A dX11_slips_89 ?_
    refine s_istore (L' := [some (zR (some 153)), some (zI x1), some (zI x2), some (zI x3), some (zI x4), some (zL y5), none, some (zI x7), some (zI ((x7 % (zi μ1 154 702)) - x2)), none, none, none, none]) A dX11_slips_90 (Nat.le_of_ble_eq_true rfl) rfl ?_
    refine s_iload A dX11_slips_92 rfl ?_
    refine s_aload_n A dX11_slips_94 rfl ?_
    refine s_getf (k := 11) (j := 0) (sl := true) (v := zR (some 154)) A dX11_slips_95 rfl zuw_X11 (Nat.le_of_ble_eq_true rfl) zwd1308 (by decide) (zk_153 _) rfl ?_
    refine s_sipush A dX11_slips_98 rfl ?_
    refine z_iald A dX11_slips_101 (zk_154 _) (Nat.le_of_ble_eq_true rfl) ⟨by decide, by decide⟩ ?_
    obtain ⟨o1, h⟩ := h
    obtain ⟨o2, h⟩ := h
    refine z_idiv A dX11_slips_102 o1 o2 ?_
    refine s_iload_n A dX11_slips_103 rfl ?_
    refine s_isub A dX11_slips_104 ?_
    refine s_istore (L' := [some (zR (some 153)), some (zI x1), some (zI x2), some (zI x3), some (zI x4), some (zL y5), none, some (zI x7), some (zI ((x7 % (zi μ1 154 702)) - x2)), some (zI ((x7 / (zi μ1 154 702)) - x3)), none, none, none]) A dX11_slips_105 (Nat.le_of_ble_eq_true rfl) rfl ?_
    refine s_iload A dX11_slips_107 rfl ?_
    refine s_iconst A dX11_slips_109 ?_
    refine s_aload_n A dX11_slips_110 rfl ?_
    refine s_getf (k := 11) (j := 0) (sl := true) (v := zR (some 154)) A dX11_slips_111 rfl zuw_X11 (Nat.le_of_ble_eq_true rfl) zwd1308 (by decide) (zk_153 _) rfl ?_
    refine s_sipush A dX11_slips_114 rfl ?_
    refine z_iald A dX11_slips_117 (zk_154 _) (Nat.le_of_ble_eq_true rfl) ⟨by decide, by decide⟩ ?_
    refine s_iconst A dX11_slips_118 ?_
    refine s_isub A dX11_slips_119 ?_
    refine s_callS (M := mX11_in) (n := 3) (d := 0) (mc := 0) (ms := 0) (av := [zI ((x7 % (zi μ1 154 702)) - x2), zI 0, zI ((zi μ1 154 702) - 1)]) (st := []) A dX11_slips_120 zwd1456 zwd1457 zwd100 zcd_X11_in (Nat.le_of_ble_eq_true rfl) (Nat.le_of_ble_eq_true rfl) (Nat.le_refl _) ⟨Nat.le_of_ble_eq_true rfl, Nat.le_of_ble_eq_true rfl⟩ zhn_X11_in rfl (Nat.le_of_ble_eq_true rfl) rfl (z_contI (fun v6 μ6 h => ?_) h)
    obtain ⟨oz7, h⟩ := h
    refine z_if_eq (tgt := 149) A dX11_slips_123 (by decide) oz7 (fun c8 => ?_) (fun c8 => ?_)
    · have h := h.1 c8
      refine s_iconst A dX11_slips_149 ?_
      exact h
    · have h := h.2 c8
      refine s_iload A dX11_slips_126 rfl ?_
      refine s_iconst A dX11_slips_128 ?_
      refine s_aload_n A dX11_slips_129 rfl ?_
      refine s_getf (k := 11) (j := 0) (sl := true) (v := zR (some 154)) A dX11_slips_130 rfl zuw_X11 (Nat.le_of_ble_eq_true rfl) zwd1308 (by decide) (zk_153 _) rfl ?_
      refine s_sipush A dX11_slips_133 rfl ?_
      refine z_iald A dX11_slips_136 (zk_154 _) (Nat.le_of_ble_eq_true rfl) ⟨by decide, by decide⟩ ?_
      refine s_iconst A dX11_slips_137 ?_
      refine s_isub A dX11_slips_138 ?_
      refine s_callS (M := mX11_in) (n := 3) (d := 0) (mc := 0) (ms := 0) (av := [zI ((x7 / (zi μ1 154 702)) - x3), zI 0, zI ((zi μ6 154 703) - 1)]) (st := []) A dX11_slips_139 zwd1456 zwd1457 zwd100 zcd_X11_in (Nat.le_of_ble_eq_true rfl) (Nat.le_of_ble_eq_true rfl) (Nat.le_refl _) ⟨Nat.le_of_ble_eq_true rfl, Nat.le_of_ble_eq_true rfl⟩ zhn_X11_in rfl (Nat.le_of_ble_eq_true rfl) rfl (z_contI (fun v9 μ9 h => ?_) h)
      obtain ⟨oz10, h⟩ := h
      refine z_if_eq (tgt := 149) A dX11_slips_142 (by decide) oz10 (fun c11 => ?_) (fun c11 => ?_)
      · have h := h.1 c11
        refine s_iconst A dX11_slips_149 ?_
        exact h
      · have h := h.2 c11
        refine s_iconst A dX11_slips_145 ?_
        refine s_goto (tgt := 150) A dX11_slips_146 (by decide) ?_
        exact h
set_option maxRecDepth 20000 in
theorem rX11_slips_150 {G : zG} {F : Int → zM → Prop} {J : Nat → zS → Prop} {μ : zM} (C : zJ G true (12) 0 0 mX11_slips (zKI F) J) (x1 : Int) (x2 : Int) (x3 : Int) (x4 : Int) (y5 : Int) (x7 : Int) (x8 : Int) (x9 : Int) (xs0 : Int)
    (h : zin xs0 ∧ ((xs0 = 0 → (0 ≤ x7 ∧ x7 < 64) ∧ qX11_amountOf G true (zi μ 171 x7) x1 μ (fun v4 μ4 => (0 ≤ x1 ∧ x1 < 4) ∧ zin ((zi μ 171 x7) + ((0 - v4) * (zta 8 x1))) ∧ zin (zi μ4 171 x7) ∧ (((zi μ 171 x7) + ((0 - v4) * (zta 8 x1)) = zi μ4 171 x7 → qX11_numberOf G true ((zi μ 171 x7) + ((0 - v4) * (zta 8 x1))) μ4 (fun v9 μ9 => qX11_numberOf G true (zi μ9 171 x7) μ9 (fun v10 μ10 => qX11_between G v9 v10 μ10 (fun v11 μ11 => zin v11 ∧ J 68 ([some (zR (some 153)), some (zI x1), some (zI x2), some (zI x3), some (zI (x4 + 0)), some (zL (y5 + v11)), none, some (zI (x7 + 1)), none, none, none, none, none], [], μ11, 0, 0))))) ∧ (¬ ((zi μ 171 x7) + ((0 - v4) * (zta 8 x1)) = zi μ4 171 x7) → qX11_numberOf G true ((zi μ 171 x7) + ((0 - v4) * (zta 8 x1))) μ4 (fun v13 μ13 => qX11_numberOf G true (zi μ13 171 x7) μ13 (fun v14 μ14 => qX11_between G v13 v14 μ14 (fun v15 μ15 => zin v15 ∧ J 68 ([some (zR (some 153)), some (zI x1), some (zI x2), some (zI x3), some (zI (x4 + 1)), some (zL (y5 + v15)), none, some (zI (x7 + 1)), none, none, none, none, none], [], μ15, 0, 0)))))))) ∧ (¬ (xs0 = 0) → (0 ≤ ((zi μ 154 702) * x9) + x8 ∧ ((zi μ 154 702) * x9) + x8 < 64) ∧ qX11_amountOf G true (zi μ 171 (((zi μ 154 702) * x9) + x8)) x1 μ (fun v18 μ18 => (0 ≤ x7 ∧ x7 < 64) ∧ qX11_amountOf G true (zi μ18 171 x7) x1 μ18 (fun v20 μ20 => (0 ≤ x1 ∧ x1 < 4) ∧ zin ((zi μ18 171 x7) + ((v18 - v20) * (zta 8 x1))) ∧ zin (zi μ20 171 x7) ∧ (((zi μ18 171 x7) + ((v18 - v20) * (zta 8 x1)) = zi μ20 171 x7 → qX11_numberOf G true ((zi μ18 171 x7) + ((v18 - v20) * (zta 8 x1))) μ20 (fun v25 μ25 => qX11_numberOf G true (zi μ25 171 x7) μ25 (fun v26 μ26 => qX11_between G v25 v26 μ26 (fun v27 μ27 => zin v27 ∧ J 68 ([some (zR (some 153)), some (zI x1), some (zI x2), some (zI x3), some (zI (x4 + 0)), some (zL (y5 + v27)), none, some (zI (x7 + 1)), none, none, none, none, none], [], μ27, 0, 0))))) ∧ (¬ ((zi μ18 171 x7) + ((v18 - v20) * (zta 8 x1)) = zi μ20 171 x7) → qX11_numberOf G true ((zi μ18 171 x7) + ((v18 - v20) * (zta 8 x1))) μ20 (fun v29 μ29 => qX11_numberOf G true (zi μ29 171 x7) μ29 (fun v30 μ30 => qX11_between G v29 v30 μ30 (fun v31 μ31 => zin v31 ∧ J 68 ([some (zR (some 153)), some (zI x1), some (zI x2), some (zI x3), some (zI (x4 + 1)), some (zL (y5 + v31)), none, some (zI (x7 + 1)), none, none, none, none, none], [], μ31, 0, 0))))))))))) : J 150 ([some (zR (some 153)), some (zI x1), some (zI x2), some (zI x3), some (zI x4), some (zL y5), none, some (zI x7), some (zI x8), some (zI x9), none, none, none], [zI xs0], μ, 0, 0) := by
  obtain ⟨p, e, s, m, args, below, meth, c, A, hml, hr, hlk, hnm, rfl⟩ := C
  refine s_istore (L' := [some (zR (some 153)), some (zI x1), some (zI x2), some (zI x3), some (zI x4), some (zL y5), none, some (zI x7), some (zI x8), some (zI x9), some (zI xs0), none, none]) A dX11_slips_150 (Nat.le_of_ble_eq_true rfl) rfl ?_
  refine s_iload A dX11_slips_152 rfl ?_
  obtain ⟨oz1, h⟩ := h
  refine z_if_eq (tgt := 183) A dX11_slips_154 (by decide) oz1 (fun c2 => ?_) (fun c2 => ?_)
  · have h := h.1 c2
    refine s_iconst A dX11_slips_183 ?_
    refine s_istore (L' := [some (zR (some 153)), some (zI x1), some (zI x2), some (zI x3), some (zI x4), some (zL y5), none, some (zI x7), some (zI x8), some (zI x9), some (zI xs0), some (zI 0), none]) A dX11_slips_184 (Nat.le_of_ble_eq_true rfl) rfl ?_
    refine s_aload_n A dX11_slips_186 rfl ?_
    refine s_getf (k := 11) (j := 33) (sl := true) (v := zR (some 171)) A dX11_slips_187 rfl zuw_X11 (Nat.le_of_ble_eq_true rfl) zwd1341 (by decide) (zk_153 _) rfl ?_
    refine s_iload A dX11_slips_190 rfl ?_
    obtain ⟨ox3, h⟩ := h
    refine z_iald A dX11_slips_192 (zk_171 _) (Nat.le_of_ble_eq_true rfl) ox3 ?_
    refine s_iload A dX11_slips_193 rfl ?_
    refine s_aload_n A dX11_slips_195 rfl ?_
    refine s_getf (k := 11) (j := 33) (sl := true) (v := zR (some 171)) A dX11_slips_196 rfl zuw_X11 (Nat.le_of_ble_eq_true rfl) zwd1341 (by decide) (zk_153 _) rfl ?_
    refine s_iload A dX11_slips_199 rfl ?_
    refine z_iald A dX11_slips_201 (zk_171 _) (Nat.le_of_ble_eq_true rfl) ox3 ?_
    refine s_iload_n A dX11_slips_202 rfl ?_
    refine s_callS (M := mX11_amountOf) (n := 2) (d := 0) (mc := 0) (ms := 0) (av := [zI (zi μ 171 x7), zI x1]) (st := [zI 0, zI (zi μ 171 x7)]) A dX11_slips_203 zwd1610 zwd1611 zwd100 zcd_X11_amountOf (Nat.le_of_ble_eq_true rfl) (Nat.le_of_ble_eq_true rfl) (Nat.le_refl _) ⟨Nat.le_of_ble_eq_true rfl, Nat.le_of_ble_eq_true rfl⟩ zhn_X11_amountOf rfl (Nat.le_of_ble_eq_true rfl) rfl (z_contI (fun v4 μ4 h => ?_) h)
    refine s_isub A dX11_slips_206 ?_
    refine s_getsT (t := 8) A dX11_slips_207 (by decide) zwd1306 ?_
    refine s_iload_n A dX11_slips_210 rfl ?_
    obtain ⟨ox5, h⟩ := h
    refine z_tald A dX11_slips_211 (by decide) (Nat.le_of_ble_eq_true rfl) ox5 ?_
    refine s_imul A dX11_slips_212 ?_
    refine s_iadd A dX11_slips_213 ?_
    refine s_istore (L' := [some (zR (some 153)), some (zI x1), some (zI x2), some (zI x3), some (zI x4), some (zL y5), none, some (zI x7), some (zI x8), some (zI x9), some (zI xs0), some (zI 0), some (zI ((zi μ 171 x7) + ((0 - v4) * (zta 8 x1))))]) A dX11_slips_214 (Nat.le_of_ble_eq_true rfl) rfl ?_
    refine s_iload A dX11_slips_216 rfl ?_
    refine s_iload A dX11_slips_218 rfl ?_
    refine s_aload_n A dX11_slips_220 rfl ?_
    refine s_getf (k := 11) (j := 33) (sl := true) (v := zR (some 171)) A dX11_slips_221 rfl zuw_X11 (Nat.le_of_ble_eq_true rfl) zwd1341 (by decide) (zk_153 _) rfl ?_
    refine s_iload A dX11_slips_224 rfl ?_
    refine z_iald A dX11_slips_226 (zk_171 _) (Nat.le_of_ble_eq_true rfl) ox3 ?_
    obtain ⟨oz6, h⟩ := h
    obtain ⟨oz7, h⟩ := h
    refine z_icmp_eq (tgt := 234) A dX11_slips_227 (by decide) oz6 oz7 (fun c8 => ?_) (fun c8 => ?_)
    · have h := h.1 c8
      refine s_iconst A dX11_slips_234 ?_
      refine s_iadd A dX11_slips_235 ?_
      refine s_istore (L' := [some (zR (some 153)), some (zI x1), some (zI x2), some (zI x3), some (zI (x4 + 0)), some (zL y5), none, some (zI x7), some (zI x8), some (zI x9), some (zI xs0), some (zI 0), some (zI ((zi μ 171 x7) + ((0 - v4) * (zta 8 x1))))]) A dX11_slips_236 (Nat.le_of_ble_eq_true rfl) rfl ?_
      refine s_lload A dX11_slips_238 rfl ?_
      refine s_aload_n A dX11_slips_240 rfl ?_
      refine s_iload A dX11_slips_241 rfl ?_
      refine s_callS (M := mX11_numberOf) (n := 1) (d := 2) (mc := 0) (ms := 0) (av := [zI ((zi μ 171 x7) + ((0 - v4) * (zta 8 x1)))]) (st := [zR (some 153), zL y5]) A dX11_slips_243 zwd1671 zwd1672 zwd100 zcd_X11_numberOf (Nat.le_of_ble_eq_true rfl) (Nat.le_of_ble_eq_true rfl) (Nat.le_refl _) ⟨Nat.le_of_ble_eq_true rfl, Nat.le_of_ble_eq_true rfl⟩ zhn_X11_numberOf rfl (Nat.le_of_ble_eq_true rfl) rfl (z_contI (fun v9 μ9 h => ?_) h)
      refine s_aload_n A dX11_slips_246 rfl ?_
      refine s_getf (k := 11) (j := 33) (sl := true) (v := zR (some 171)) A dX11_slips_247 rfl zuw_X11 (Nat.le_of_ble_eq_true rfl) zwd1341 (by decide) (zk_153 _) rfl ?_
      refine s_iload A dX11_slips_250 rfl ?_
      refine z_iald A dX11_slips_252 (zk_171 _) (Nat.le_of_ble_eq_true rfl) ox3 ?_
      refine s_callS (M := mX11_numberOf) (n := 1) (d := 2) (mc := 0) (ms := 0) (av := [zI (zi μ9 171 x7)]) (st := [zI v9, zR (some 153), zL y5]) A dX11_slips_253 zwd1671 zwd1672 zwd100 zcd_X11_numberOf (Nat.le_of_ble_eq_true rfl) (Nat.le_of_ble_eq_true rfl) (Nat.le_refl _) ⟨Nat.le_of_ble_eq_true rfl, Nat.le_of_ble_eq_true rfl⟩ zhn_X11_numberOf rfl (Nat.le_of_ble_eq_true rfl) rfl (z_contI (fun v10 μ10 h => ?_) h)
      refine s_callV (a := 153) (k := 11) (N := 45) (sl := true) (M := mX11_between) (n := 2) (d := 3) (mc := 0) (ms := 0) (av := [zI v9, zI v10]) (st := [zL y5]) A dX11_slips_256 rfl (by decide) (zk_153 _) zwd1748 zwd1750 zwd72 zwd100 zcd_X11_between (Nat.le_of_ble_eq_true rfl) (Nat.le_of_ble_eq_true rfl) (Nat.le_refl _) ⟨Nat.le_of_ble_eq_true rfl, Nat.le_of_ble_eq_true rfl⟩ ⟨rfl, zhn_X11_between⟩ rfl (Nat.le_of_ble_eq_true rfl) rfl (z_contI (fun v11 μ11 h => ?_) h)
      obtain ⟨oz12, h⟩ := h
      refine z_i2l2 A dX11_slips_259 oz12 ?_
      refine s_ladd A dX11_slips_260 ?_
      refine s_lstore (L' := [some (zR (some 153)), some (zI x1), some (zI x2), some (zI x3), some (zI (x4 + 0)), some (zL (y5 + v11)), none, some (zI x7), some (zI x8), some (zI x9), some (zI xs0), some (zI 0), some (zI ((zi μ 171 x7) + ((0 - v4) * (zta 8 x1))))]) A dX11_slips_261 (Nat.le_of_ble_eq_true rfl) rfl ?_
      refine s_iinc (L' := [some (zR (some 153)), some (zI x1), some (zI x2), some (zI x3), some (zI (x4 + 0)), some (zL (y5 + v11)), none, some (zI (x7 + 1)), some (zI x8), some (zI x9), some (zI xs0), some (zI 0), some (zI ((zi μ 171 x7) + ((0 - v4) * (zta 8 x1))))]) A dX11_slips_263 rfl rfl ?_
      refine s_goto (tgt := 68) A dX11_slips_266 (by decide) ?_
      exact z_wk (L' := [some (zR (some 153)), some (zI x1), some (zI x2), some (zI x3), some (zI (x4 + 0)), some (zL (y5 + v11)), none, some (zI (x7 + 1)), none, none, none, none, none]) ⟨rfl, rfl, rfl, rfl, rfl, rfl, rfl, trivial⟩ h
    · have h := h.2 c8
      refine s_iconst A dX11_slips_230 ?_
      refine s_goto (tgt := 235) A dX11_slips_231 (by decide) ?_
      refine s_iadd A dX11_slips_235 ?_
      refine s_istore (L' := [some (zR (some 153)), some (zI x1), some (zI x2), some (zI x3), some (zI (x4 + 1)), some (zL y5), none, some (zI x7), some (zI x8), some (zI x9), some (zI xs0), some (zI 0), some (zI ((zi μ 171 x7) + ((0 - v4) * (zta 8 x1))))]) A dX11_slips_236 (Nat.le_of_ble_eq_true rfl) rfl ?_
      refine s_lload A dX11_slips_238 rfl ?_
      refine s_aload_n A dX11_slips_240 rfl ?_
      refine s_iload A dX11_slips_241 rfl ?_
      refine s_callS (M := mX11_numberOf) (n := 1) (d := 2) (mc := 0) (ms := 0) (av := [zI ((zi μ 171 x7) + ((0 - v4) * (zta 8 x1)))]) (st := [zR (some 153), zL y5]) A dX11_slips_243 zwd1671 zwd1672 zwd100 zcd_X11_numberOf (Nat.le_of_ble_eq_true rfl) (Nat.le_of_ble_eq_true rfl) (Nat.le_refl _) ⟨Nat.le_of_ble_eq_true rfl, Nat.le_of_ble_eq_true rfl⟩ zhn_X11_numberOf rfl (Nat.le_of_ble_eq_true rfl) rfl (z_contI (fun v13 μ13 h => ?_) h)
      refine s_aload_n A dX11_slips_246 rfl ?_
      refine s_getf (k := 11) (j := 33) (sl := true) (v := zR (some 171)) A dX11_slips_247 rfl zuw_X11 (Nat.le_of_ble_eq_true rfl) zwd1341 (by decide) (zk_153 _) rfl ?_
      refine s_iload A dX11_slips_250 rfl ?_
      refine z_iald A dX11_slips_252 (zk_171 _) (Nat.le_of_ble_eq_true rfl) ox3 ?_
      refine s_callS (M := mX11_numberOf) (n := 1) (d := 2) (mc := 0) (ms := 0) (av := [zI (zi μ13 171 x7)]) (st := [zI v13, zR (some 153), zL y5]) A dX11_slips_253 zwd1671 zwd1672 zwd100 zcd_X11_numberOf (Nat.le_of_ble_eq_true rfl) (Nat.le_of_ble_eq_true rfl) (Nat.le_refl _) ⟨Nat.le_of_ble_eq_true rfl, Nat.le_of_ble_eq_true rfl⟩ zhn_X11_numberOf rfl (Nat.le_of_ble_eq_true rfl) rfl (z_contI (fun v14 μ14 h => ?_) h)
      refine s_callV (a := 153) (k := 11) (N := 45) (sl := true) (M := mX11_between) (n := 2) (d := 3) (mc := 0) (ms := 0) (av := [zI v13, zI v14]) (st := [zL y5]) A dX11_slips_256 rfl (by decide) (zk_153 _) zwd1748 zwd1750 zwd72 zwd100 zcd_X11_between (Nat.le_of_ble_eq_true rfl) (Nat.le_of_ble_eq_true rfl) (Nat.le_refl _) ⟨Nat.le_of_ble_eq_true rfl, Nat.le_of_ble_eq_true rfl⟩ ⟨rfl, zhn_X11_between⟩ rfl (Nat.le_of_ble_eq_true rfl) rfl (z_contI (fun v15 μ15 h => ?_) h)
      obtain ⟨oz16, h⟩ := h
      refine z_i2l2 A dX11_slips_259 oz16 ?_
      refine s_ladd A dX11_slips_260 ?_
      refine s_lstore (L' := [some (zR (some 153)), some (zI x1), some (zI x2), some (zI x3), some (zI (x4 + 1)), some (zL (y5 + v15)), none, some (zI x7), some (zI x8), some (zI x9), some (zI xs0), some (zI 0), some (zI ((zi μ 171 x7) + ((0 - v4) * (zta 8 x1))))]) A dX11_slips_261 (Nat.le_of_ble_eq_true rfl) rfl ?_
      refine s_iinc (L' := [some (zR (some 153)), some (zI x1), some (zI x2), some (zI x3), some (zI (x4 + 1)), some (zL (y5 + v15)), none, some (zI (x7 + 1)), some (zI x8), some (zI x9), some (zI xs0), some (zI 0), some (zI ((zi μ 171 x7) + ((0 - v4) * (zta 8 x1))))]) A dX11_slips_263 rfl rfl ?_
      refine s_goto (tgt := 68) A dX11_slips_266 (by decide) ?_
      exact z_wk (L' := [some (zR (some 153)), some (zI x1), some (zI x2), some (zI x3), some (zI (x4 + 1)), some (zL (y5 + v15)), none, some (zI (x7 + 1)), none, none, none, none, none]) ⟨rfl, rfl, rfl, rfl, rfl, rfl, rfl, trivial⟩ h
  · have h := h.2 c2
    refine s_aload_n A dX11_slips_157 rfl ?_
    refine s_getf (k := 11) (j := 33) (sl := true) (v := zR (some 171)) A dX11_slips_158 rfl zuw_X11 (Nat.le_of_ble_eq_true rfl) zwd1341 (by decide) (zk_153 _) rfl ?_
    refine s_aload_n A dX11_slips_161 rfl ?_
    refine s_getf (k := 11) (j := 0) (sl := true) (v := zR (some 154)) A dX11_slips_162 rfl zuw_X11 (Nat.le_of_ble_eq_true rfl) zwd1308 (by decide) (zk_153 _) rfl ?_
    refine s_sipush A dX11_slips_165 rfl ?_
    refine z_iald A dX11_slips_168 (zk_154 _) (Nat.le_of_ble_eq_true rfl) ⟨by decide, by decide⟩ ?_
    refine s_iload A dX11_slips_169 rfl ?_
    refine s_imul A dX11_slips_171 ?_
    refine s_iload A dX11_slips_172 rfl ?_
    refine s_iadd A dX11_slips_174 ?_
    obtain ⟨ox17, h⟩ := h
    refine z_iald A dX11_slips_175 (zk_171 _) (Nat.le_of_ble_eq_true rfl) ox17 ?_
    refine s_iload_n A dX11_slips_176 rfl ?_
    refine s_callS (M := mX11_amountOf) (n := 2) (d := 0) (mc := 0) (ms := 0) (av := [zI (zi μ 171 (((zi μ 154 702) * x9) + x8)), zI x1]) (st := []) A dX11_slips_177 zwd1610 zwd1611 zwd100 zcd_X11_amountOf (Nat.le_of_ble_eq_true rfl) (Nat.le_of_ble_eq_true rfl) (Nat.le_refl _) ⟨Nat.le_of_ble_eq_true rfl, Nat.le_of_ble_eq_true rfl⟩ zhn_X11_amountOf rfl (Nat.le_of_ble_eq_true rfl) rfl (z_contI (fun v18 μ18 h => ?_) h)
    refine s_goto (tgt := 184) A dX11_slips_180 (by decide) ?_
    refine s_istore (L' := [some (zR (some 153)), some (zI x1), some (zI x2), some (zI x3), some (zI x4), some (zL y5), none, some (zI x7), some (zI x8), some (zI x9), some (zI xs0), some (zI v18), none]) A dX11_slips_184 (Nat.le_of_ble_eq_true rfl) rfl ?_
    refine s_aload_n A dX11_slips_186 rfl ?_
    refine s_getf (k := 11) (j := 33) (sl := true) (v := zR (some 171)) A dX11_slips_187 rfl zuw_X11 (Nat.le_of_ble_eq_true rfl) zwd1341 (by decide) (zk_153 _) rfl ?_
    refine s_iload A dX11_slips_190 rfl ?_
    obtain ⟨ox19, h⟩ := h
    refine z_iald A dX11_slips_192 (zk_171 _) (Nat.le_of_ble_eq_true rfl) ox19 ?_
    refine s_iload A dX11_slips_193 rfl ?_
    refine s_aload_n A dX11_slips_195 rfl ?_
    refine s_getf (k := 11) (j := 33) (sl := true) (v := zR (some 171)) A dX11_slips_196 rfl zuw_X11 (Nat.le_of_ble_eq_true rfl) zwd1341 (by decide) (zk_153 _) rfl ?_
    refine s_iload A dX11_slips_199 rfl ?_
    refine z_iald A dX11_slips_201 (zk_171 _) (Nat.le_of_ble_eq_true rfl) ox19 ?_
    refine s_iload_n A dX11_slips_202 rfl ?_
    refine s_callS (M := mX11_amountOf) (n := 2) (d := 0) (mc := 0) (ms := 0) (av := [zI (zi μ18 171 x7), zI x1]) (st := [zI v18, zI (zi μ18 171 x7)]) A dX11_slips_203 zwd1610 zwd1611 zwd100 zcd_X11_amountOf (Nat.le_of_ble_eq_true rfl) (Nat.le_of_ble_eq_true rfl) (Nat.le_refl _) ⟨Nat.le_of_ble_eq_true rfl, Nat.le_of_ble_eq_true rfl⟩ zhn_X11_amountOf rfl (Nat.le_of_ble_eq_true rfl) rfl (z_contI (fun v20 μ20 h => ?_) h)
    refine s_isub A dX11_slips_206 ?_
    refine s_getsT (t := 8) A dX11_slips_207 (by decide) zwd1306 ?_
    refine s_iload_n A dX11_slips_210 rfl ?_
    obtain ⟨ox21, h⟩ := h
    refine z_tald A dX11_slips_211 (by decide) (Nat.le_of_ble_eq_true rfl) ox21 ?_
    refine s_imul A dX11_slips_212 ?_
    refine s_iadd A dX11_slips_213 ?_
    refine s_istore (L' := [some (zR (some 153)), some (zI x1), some (zI x2), some (zI x3), some (zI x4), some (zL y5), none, some (zI x7), some (zI x8), some (zI x9), some (zI xs0), some (zI v18), some (zI ((zi μ18 171 x7) + ((v18 - v20) * (zta 8 x1))))]) A dX11_slips_214 (Nat.le_of_ble_eq_true rfl) rfl ?_
    refine s_iload A dX11_slips_216 rfl ?_
    refine s_iload A dX11_slips_218 rfl ?_
    refine s_aload_n A dX11_slips_220 rfl ?_
    refine s_getf (k := 11) (j := 33) (sl := true) (v := zR (some 171)) A dX11_slips_221 rfl zuw_X11 (Nat.le_of_ble_eq_true rfl) zwd1341 (by decide) (zk_153 _) rfl ?_
    refine s_iload A dX11_slips_224 rfl ?_
    refine z_iald A dX11_slips_226 (zk_171 _) (Nat.le_of_ble_eq_true rfl) ox19 ?_
    obtain ⟨oz22, h⟩ := h
    obtain ⟨oz23, h⟩ := h
    refine z_icmp_eq (tgt := 234) A dX11_slips_227 (by decide) oz22 oz23 (fun c24 => ?_) (fun c24 => ?_)
    · have h := h.1 c24
      refine s_iconst A dX11_slips_234 ?_
      refine s_iadd A dX11_slips_235 ?_
      refine s_istore (L' := [some (zR (some 153)), some (zI x1), some (zI x2), some (zI x3), some (zI (x4 + 0)), some (zL y5), none, some (zI x7), some (zI x8), some (zI x9), some (zI xs0), some (zI v18), some (zI ((zi μ18 171 x7) + ((v18 - v20) * (zta 8 x1))))]) A dX11_slips_236 (Nat.le_of_ble_eq_true rfl) rfl ?_
      refine s_lload A dX11_slips_238 rfl ?_
      refine s_aload_n A dX11_slips_240 rfl ?_
      refine s_iload A dX11_slips_241 rfl ?_
      refine s_callS (M := mX11_numberOf) (n := 1) (d := 2) (mc := 0) (ms := 0) (av := [zI ((zi μ18 171 x7) + ((v18 - v20) * (zta 8 x1)))]) (st := [zR (some 153), zL y5]) A dX11_slips_243 zwd1671 zwd1672 zwd100 zcd_X11_numberOf (Nat.le_of_ble_eq_true rfl) (Nat.le_of_ble_eq_true rfl) (Nat.le_refl _) ⟨Nat.le_of_ble_eq_true rfl, Nat.le_of_ble_eq_true rfl⟩ zhn_X11_numberOf rfl (Nat.le_of_ble_eq_true rfl) rfl (z_contI (fun v25 μ25 h => ?_) h)
      refine s_aload_n A dX11_slips_246 rfl ?_
      refine s_getf (k := 11) (j := 33) (sl := true) (v := zR (some 171)) A dX11_slips_247 rfl zuw_X11 (Nat.le_of_ble_eq_true rfl) zwd1341 (by decide) (zk_153 _) rfl ?_
      refine s_iload A dX11_slips_250 rfl ?_
      refine z_iald A dX11_slips_252 (zk_171 _) (Nat.le_of_ble_eq_true rfl) ox19 ?_
      refine s_callS (M := mX11_numberOf) (n := 1) (d := 2) (mc := 0) (ms := 0) (av := [zI (zi μ25 171 x7)]) (st := [zI v25, zR (some 153), zL y5]) A dX11_slips_253 zwd1671 zwd1672 zwd100 zcd_X11_numberOf (Nat.le_of_ble_eq_true rfl) (Nat.le_of_ble_eq_true rfl) (Nat.le_refl _) ⟨Nat.le_of_ble_eq_true rfl, Nat.le_of_ble_eq_true rfl⟩ zhn_X11_numberOf rfl (Nat.le_of_ble_eq_true rfl) rfl (z_contI (fun v26 μ26 h => ?_) h)
      refine s_callV (a := 153) (k := 11) (N := 45) (sl := true) (M := mX11_between) (n := 2) (d := 3) (mc := 0) (ms := 0) (av := [zI v25, zI v26]) (st := [zL y5]) A dX11_slips_256 rfl (by decide) (zk_153 _) zwd1748 zwd1750 zwd72 zwd100 zcd_X11_between (Nat.le_of_ble_eq_true rfl) (Nat.le_of_ble_eq_true rfl) (Nat.le_refl _) ⟨Nat.le_of_ble_eq_true rfl, Nat.le_of_ble_eq_true rfl⟩ ⟨rfl, zhn_X11_between⟩ rfl (Nat.le_of_ble_eq_true rfl) rfl (z_contI (fun v27 μ27 h => ?_) h)
      obtain ⟨oz28, h⟩ := h
      refine z_i2l2 A dX11_slips_259 oz28 ?_
      refine s_ladd A dX11_slips_260 ?_
      refine s_lstore (L' := [some (zR (some 153)), some (zI x1), some (zI x2), some (zI x3), some (zI (x4 + 0)), some (zL (y5 + v27)), none, some (zI x7), some (zI x8), some (zI x9), some (zI xs0), some (zI v18), some (zI ((zi μ18 171 x7) + ((v18 - v20) * (zta 8 x1))))]) A dX11_slips_261 (Nat.le_of_ble_eq_true rfl) rfl ?_
      refine s_iinc (L' := [some (zR (some 153)), some (zI x1), some (zI x2), some (zI x3), some (zI (x4 + 0)), some (zL (y5 + v27)), none, some (zI (x7 + 1)), some (zI x8), some (zI x9), some (zI xs0), some (zI v18), some (zI ((zi μ18 171 x7) + ((v18 - v20) * (zta 8 x1))))]) A dX11_slips_263 rfl rfl ?_
      refine s_goto (tgt := 68) A dX11_slips_266 (by decide) ?_
      exact z_wk (L' := [some (zR (some 153)), some (zI x1), some (zI x2), some (zI x3), some (zI (x4 + 0)), some (zL (y5 + v27)), none, some (zI (x7 + 1)), none, none, none, none, none]) ⟨rfl, rfl, rfl, rfl, rfl, rfl, rfl, trivial⟩ h
    · have h := h.2 c24
      refine s_iconst A dX11_slips_230 ?_
      refine s_goto (tgt := 235) A dX11_slips_231 (by decide) ?_
      refine s_iadd A dX11_slips_235 ?_
      refine s_istore (L' := [some (zR (some 153)), some (zI x1), some (zI x2), some (zI x3), some (zI (x4 + 1)), some (zL y5), none, some (zI x7), some (zI x8), some (zI x9), some (zI xs0), some (zI v18), some (zI ((zi μ18 171 x7) + ((v18 - v20) * (zta 8 x1))))]) A dX11_slips_236 (Nat.le_of_ble_eq_true rfl) rfl ?_
      refine s_lload A dX11_slips_238 rfl ?_
      refine s_aload_n A dX11_slips_240 rfl ?_
      refine s_iload A dX11_slips_241 rfl ?_
      refine s_callS (M := mX11_numberOf) (n := 1) (d := 2) (mc := 0) (ms := 0) (av := [zI ((zi μ18 171 x7) + ((v18 - v20) * (zta 8 x1)))]) (st := [zR (some 153), zL y5]) A dX11_slips_243 zwd1671 zwd1672 zwd100 zcd_X11_numberOf (Nat.le_of_ble_eq_true rfl) (Nat.le_of_ble_eq_true rfl) (Nat.le_refl _) ⟨Nat.le_of_ble_eq_true rfl, Nat.le_of_ble_eq_true rfl⟩ zhn_X11_numberOf rfl (Nat.le_of_ble_eq_true rfl) rfl (z_contI (fun v29 μ29 h => ?_) h)
      refine s_aload_n A dX11_slips_246 rfl ?_
      refine s_getf (k := 11) (j := 33) (sl := true) (v := zR (some 171)) A dX11_slips_247 rfl zuw_X11 (Nat.le_of_ble_eq_true rfl) zwd1341 (by decide) (zk_153 _) rfl ?_
      refine s_iload A dX11_slips_250 rfl ?_
      refine z_iald A dX11_slips_252 (zk_171 _) (Nat.le_of_ble_eq_true rfl) ox19 ?_
      refine s_callS (M := mX11_numberOf) (n := 1) (d := 2) (mc := 0) (ms := 0) (av := [zI (zi μ29 171 x7)]) (st := [zI v29, zR (some 153), zL y5]) A dX11_slips_253 zwd1671 zwd1672 zwd100 zcd_X11_numberOf (Nat.le_of_ble_eq_true rfl) (Nat.le_of_ble_eq_true rfl) (Nat.le_refl _) ⟨Nat.le_of_ble_eq_true rfl, Nat.le_of_ble_eq_true rfl⟩ zhn_X11_numberOf rfl (Nat.le_of_ble_eq_true rfl) rfl (z_contI (fun v30 μ30 h => ?_) h)
      refine s_callV (a := 153) (k := 11) (N := 45) (sl := true) (M := mX11_between) (n := 2) (d := 3) (mc := 0) (ms := 0) (av := [zI v29, zI v30]) (st := [zL y5]) A dX11_slips_256 rfl (by decide) (zk_153 _) zwd1748 zwd1750 zwd72 zwd100 zcd_X11_between (Nat.le_of_ble_eq_true rfl) (Nat.le_of_ble_eq_true rfl) (Nat.le_refl _) ⟨Nat.le_of_ble_eq_true rfl, Nat.le_of_ble_eq_true rfl⟩ ⟨rfl, zhn_X11_between⟩ rfl (Nat.le_of_ble_eq_true rfl) rfl (z_contI (fun v31 μ31 h => ?_) h)
      obtain ⟨oz32, h⟩ := h
      refine z_i2l2 A dX11_slips_259 oz32 ?_
      refine s_ladd A dX11_slips_260 ?_
      refine s_lstore (L' := [some (zR (some 153)), some (zI x1), some (zI x2), some (zI x3), some (zI (x4 + 1)), some (zL (y5 + v31)), none, some (zI x7), some (zI x8), some (zI x9), some (zI xs0), some (zI v18), some (zI ((zi μ18 171 x7) + ((v18 - v20) * (zta 8 x1))))]) A dX11_slips_261 (Nat.le_of_ble_eq_true rfl) rfl ?_
      refine s_iinc (L' := [some (zR (some 153)), some (zI x1), some (zI x2), some (zI x3), some (zI (x4 + 1)), some (zL (y5 + v31)), none, some (zI (x7 + 1)), some (zI x8), some (zI x9), some (zI xs0), some (zI v18), some (zI ((zi μ18 171 x7) + ((v18 - v20) * (zta 8 x1))))]) A dX11_slips_263 rfl rfl ?_
      refine s_goto (tgt := 68) A dX11_slips_266 (by decide) ?_
      exact z_wk (L' := [some (zR (some 153)), some (zI x1), some (zI x2), some (zI x3), some (zI (x4 + 1)), some (zL (y5 + v31)), none, some (zI (x7 + 1)), none, none, none, none, none]) ⟨rfl, rfl, rfl, rfl, rfl, rfl, rfl, trivial⟩ h
theorem eX11_slips {G : zG} {F : Int → zM → Prop} {μ : zM} {x1 : Int} {x2 : Int} {x3 : Int} (h : ∀ J, zJ G true (12) 0 0 mX11_slips (zKI F) J → J 0 ([some (zR (some 153)), some (zI x1), some (zI x2), some (zI x3), none, none, none, none, none, none, none, none, none], [], μ, 0, 0)) : qX11_slips G x1 x2 x3 μ F :=
  z_body (by decide +kernel) (Nat.le_of_ble_eq_true rfl) h
set_option maxRecDepth 20000 in
theorem rX11_spanOf_e {G : zG} {F : Int → zM → Prop} {J : Nat → zS → Prop} {μ : zM} (C : zJ G true (8) 0 0 mX11_spanOf (zKI F) J) (x1 : Int)
    (h : (0 ≤ 3 * x1 ∧ 3 * x1 < 19683) ∧ (0 ≤ (3 * x1) + 1 ∧ (3 * x1) + 1 < 19683) ∧ (0 ≤ (3 * x1) + 2 ∧ (3 * x1) + 2 < 19683) ∧ zin (zi μ 159 ((3 * x1) + 1)) ∧ zin (zi μ 159 ((3 * x1) + 2)) ∧ zin (zi μ 159 (3 * x1)) ∧ zin (max (zi μ 159 ((3 * x1) + 1)) (zi μ 159 ((3 * x1) + 2))) ∧ zin (min (zi μ 159 ((3 * x1) + 1)) (zi μ 159 ((3 * x1) + 2))) ∧ F ((max (zi μ 159 (3 * x1)) (max (zi μ 159 ((3 * x1) + 1)) (zi μ 159 ((3 * x1) + 2)))) - (min (zi μ 159 (3 * x1)) (min (zi μ 159 ((3 * x1) + 1)) (zi μ 159 ((3 * x1) + 2))))) μ) : J 0 ([some (zR (some 153)), some (zI x1), none, none, none], [], μ, 0, 0) := by
  obtain ⟨p, e, s, m, args, below, meth, c, A, hml, hr, hlk, hnm, rfl⟩ := C
  refine s_aload_n A dX11_spanOf_0 rfl ?_
  refine s_getf (k := 11) (j := 13) (sl := true) (v := zR (some 159)) A dX11_spanOf_1 rfl zuw_X11 (Nat.le_of_ble_eq_true rfl) zwd1321 (by decide) (zk_153 _) rfl ?_
  refine s_iconst A dX11_spanOf_4 ?_
  refine s_iload_n A dX11_spanOf_5 rfl ?_
  refine s_imul A dX11_spanOf_6 ?_
  obtain ⟨ox1, h⟩ := h
  refine z_iald A dX11_spanOf_7 (zk_159 _) (Nat.le_of_ble_eq_true rfl) ox1 ?_
  refine s_istore_n (L' := [some (zR (some 153)), some (zI x1), some (zI (zi μ 159 (3 * x1))), none, none]) A dX11_spanOf_8 (Nat.le_of_ble_eq_true rfl) rfl ?_
  refine s_aload_n A dX11_spanOf_9 rfl ?_
  refine s_getf (k := 11) (j := 13) (sl := true) (v := zR (some 159)) A dX11_spanOf_10 rfl zuw_X11 (Nat.le_of_ble_eq_true rfl) zwd1321 (by decide) (zk_153 _) rfl ?_
  refine s_iconst A dX11_spanOf_13 ?_
  refine s_iload_n A dX11_spanOf_14 rfl ?_
  refine s_imul A dX11_spanOf_15 ?_
  refine s_iconst A dX11_spanOf_16 ?_
  refine s_iadd A dX11_spanOf_17 ?_
  obtain ⟨ox2, h⟩ := h
  refine z_iald A dX11_spanOf_18 (zk_159 _) (Nat.le_of_ble_eq_true rfl) ox2 ?_
  refine s_istore_n (L' := [some (zR (some 153)), some (zI x1), some (zI (zi μ 159 (3 * x1))), some (zI (zi μ 159 ((3 * x1) + 1))), none]) A dX11_spanOf_19 (Nat.le_of_ble_eq_true rfl) rfl ?_
  refine s_aload_n A dX11_spanOf_20 rfl ?_
  refine s_getf (k := 11) (j := 13) (sl := true) (v := zR (some 159)) A dX11_spanOf_21 rfl zuw_X11 (Nat.le_of_ble_eq_true rfl) zwd1321 (by decide) (zk_153 _) rfl ?_
  refine s_iconst A dX11_spanOf_24 ?_
  refine s_iload_n A dX11_spanOf_25 rfl ?_
  refine s_imul A dX11_spanOf_26 ?_
  refine s_iconst A dX11_spanOf_27 ?_
  refine s_iadd A dX11_spanOf_28 ?_
  obtain ⟨ox3, h⟩ := h
  refine z_iald A dX11_spanOf_29 (zk_159 _) (Nat.le_of_ble_eq_true rfl) ox3 ?_
  refine s_istore (L' := [some (zR (some 153)), some (zI x1), some (zI (zi μ 159 (3 * x1))), some (zI (zi μ 159 ((3 * x1) + 1))), some (zI (zi μ 159 ((3 * x1) + 2)))]) A dX11_spanOf_30 (Nat.le_of_ble_eq_true rfl) rfl ?_
  refine s_iload_n A dX11_spanOf_32 rfl ?_
  refine s_iload_n A dX11_spanOf_33 rfl ?_
  refine s_iload A dX11_spanOf_34 rfl ?_
  obtain ⟨oz4, h⟩ := h
  obtain ⟨oz5, h⟩ := h
  refine z_mmax A dX11_spanOf_36 zwd1590 zwd506 zwd105 zwd507 (Nat.le_of_ble_eq_true rfl) (Nat.le_of_ble_eq_true rfl) ⟨Nat.le_of_ble_eq_true rfl, Nat.le_of_ble_eq_true rfl⟩ oz4 oz5 ?_
  obtain ⟨oz6, h⟩ := h
  obtain ⟨oz7, h⟩ := h
  refine z_mmax A dX11_spanOf_39 zwd1590 zwd506 zwd105 zwd507 (Nat.le_of_ble_eq_true rfl) (Nat.le_of_ble_eq_true rfl) ⟨Nat.le_of_ble_eq_true rfl, Nat.le_of_ble_eq_true rfl⟩ oz6 oz7 ?_
  refine s_iload_n A dX11_spanOf_42 rfl ?_
  refine s_iload_n A dX11_spanOf_43 rfl ?_
  refine s_iload A dX11_spanOf_44 rfl ?_
  refine z_mmin A dX11_spanOf_46 zwd1575 zwd509 zwd105 zwd510 (Nat.le_of_ble_eq_true rfl) (Nat.le_of_ble_eq_true rfl) ⟨Nat.le_of_ble_eq_true rfl, Nat.le_of_ble_eq_true rfl⟩ oz4 oz5 ?_
  obtain ⟨oz8, h⟩ := h
  refine z_mmin A dX11_spanOf_49 zwd1575 zwd509 zwd105 zwd510 (Nat.le_of_ble_eq_true rfl) (Nat.le_of_ble_eq_true rfl) ⟨Nat.le_of_ble_eq_true rfl, Nat.le_of_ble_eq_true rfl⟩ oz6 oz8 ?_
  refine s_isub A dX11_spanOf_52 ?_
  exact s_iret A dX11_spanOf_53 hr hlk (Nat.le_of_ble_eq_true rfl) (Nat.le_of_ble_eq_true rfl) ⟨_, rfl, h⟩
theorem eX11_spanOf {G : zG} {F : Int → zM → Prop} {μ : zM} {x1 : Int} (h : ∀ J, zJ G true (8) 0 0 mX11_spanOf (zKI F) J → J 0 ([some (zR (some 153)), some (zI x1), none, none, none], [], μ, 0, 0)) : qX11_spanOf G x1 μ F :=
  z_body (by decide +kernel) (Nat.le_of_ble_eq_true rfl) h
set_option maxRecDepth 20000 in
theorem rX11_sumOf_e {G : zG} {F : Int → zM → Prop} {J : Nat → zS → Prop} {μ : zM} (C : zJ G true (0) 0 0 mX11_sumOf (zKI F) J) (x1 : Int)
    (h : (0 ≤ 3 * x1 ∧ 3 * x1 < 19683) ∧ (0 ≤ (3 * x1) + 1 ∧ (3 * x1) + 1 < 19683) ∧ (0 ≤ (3 * x1) + 2 ∧ (3 * x1) + 2 < 19683) ∧ F (((zi μ 159 (3 * x1)) + (zi μ 159 ((3 * x1) + 1))) + (zi μ 159 ((3 * x1) + 2))) μ) : J 0 ([some (zR (some 153)), some (zI x1)], [], μ, 0, 0) := by
  obtain ⟨p, e, s, m, args, below, meth, c, A, hml, hr, hlk, hnm, rfl⟩ := C
  refine s_aload_n A dX11_sumOf_0 rfl ?_
  refine s_getf (k := 11) (j := 13) (sl := true) (v := zR (some 159)) A dX11_sumOf_1 rfl zuw_X11 (Nat.le_of_ble_eq_true rfl) zwd1321 (by decide) (zk_153 _) rfl ?_
  refine s_iconst A dX11_sumOf_4 ?_
  refine s_iload_n A dX11_sumOf_5 rfl ?_
  refine s_imul A dX11_sumOf_6 ?_
  obtain ⟨ox1, h⟩ := h
  refine z_iald A dX11_sumOf_7 (zk_159 _) (Nat.le_of_ble_eq_true rfl) ox1 ?_
  refine s_aload_n A dX11_sumOf_8 rfl ?_
  refine s_getf (k := 11) (j := 13) (sl := true) (v := zR (some 159)) A dX11_sumOf_9 rfl zuw_X11 (Nat.le_of_ble_eq_true rfl) zwd1321 (by decide) (zk_153 _) rfl ?_
  refine s_iconst A dX11_sumOf_12 ?_
  refine s_iload_n A dX11_sumOf_13 rfl ?_
  refine s_imul A dX11_sumOf_14 ?_
  refine s_iconst A dX11_sumOf_15 ?_
  refine s_iadd A dX11_sumOf_16 ?_
  obtain ⟨ox2, h⟩ := h
  refine z_iald A dX11_sumOf_17 (zk_159 _) (Nat.le_of_ble_eq_true rfl) ox2 ?_
  refine s_iadd A dX11_sumOf_18 ?_
  refine s_aload_n A dX11_sumOf_19 rfl ?_
  refine s_getf (k := 11) (j := 13) (sl := true) (v := zR (some 159)) A dX11_sumOf_20 rfl zuw_X11 (Nat.le_of_ble_eq_true rfl) zwd1321 (by decide) (zk_153 _) rfl ?_
  refine s_iconst A dX11_sumOf_23 ?_
  refine s_iload_n A dX11_sumOf_24 rfl ?_
  refine s_imul A dX11_sumOf_25 ?_
  refine s_iconst A dX11_sumOf_26 ?_
  refine s_iadd A dX11_sumOf_27 ?_
  obtain ⟨ox3, h⟩ := h
  refine z_iald A dX11_sumOf_28 (zk_159 _) (Nat.le_of_ble_eq_true rfl) ox3 ?_
  refine s_iadd A dX11_sumOf_29 ?_
  exact s_iret A dX11_sumOf_30 hr hlk (Nat.le_of_ble_eq_true rfl) (Nat.le_of_ble_eq_true rfl) ⟨_, rfl, h⟩
theorem eX11_sumOf {G : zG} {F : Int → zM → Prop} {μ : zM} {x1 : Int} (h : ∀ J, zJ G true (0) 0 0 mX11_sumOf (zKI F) J → J 0 ([some (zR (some 153)), some (zI x1)], [], μ, 0, 0)) : qX11_sumOf G x1 μ F :=
  z_body (by decide +kernel) (Nat.le_of_ble_eq_true rfl) h
set_option maxRecDepth 20000 in
theorem rX11_greys_e {G : zG} {F : Int → zM → Prop} {J : Nat → zS → Prop} {μ : zM} (C : zJ G true (12) 0 0 mX11_greys (zKI F) J) (x1 : Int) (x2 : Int)
    (h : qX11_in G true x1 0 8 (zup μ 153 5 0) (fun v1 μ1 => zin v1 ∧ ((¬ v1 = 0 → qX11_layColours G 154 μ1 (fun μ4 => J 36 ([some (zR (some 153)), some (zI x1), some (zI x2), some (zI 0), some (zI (-1)), some (zI (-1)), some (zI 0), none], [], μ4, 0, 0))) ∧ (v1 = 0 → F (-1) μ1)))) : J 0 ([some (zR (some 153)), some (zI x1), some (zI x2), none, none, none, none, none], [], μ, 0, 0) := by
  obtain ⟨p, e, s, m, args, below, meth, c, A, hml, hr, hlk, hnm, rfl⟩ := C
  refine s_aload_n A dX11_greys_0 rfl ?_
  refine s_iconst A dX11_greys_1 ?_
  refine z_putI (k := 11) (j := 5) (sl := true) A dX11_greys_2 rfl zuw_X11 (Nat.le_of_ble_eq_true rfl) zwd1313 (by decide) (zk_153 _) tyX11 tyX11_ok nmX11 rfl rfl rfl ?_
  refine s_iload_n A dX11_greys_5 rfl ?_
  refine s_iconst A dX11_greys_6 ?_
  refine s_bipush A dX11_greys_7 rfl ?_
  refine s_callS (M := mX11_in) (n := 3) (d := 0) (mc := 0) (ms := 0) (av := [zI x1, zI 0, zI 8]) (st := []) A dX11_greys_9 zwd1456 zwd1457 zwd100 zcd_X11_in (Nat.le_of_ble_eq_true rfl) (Nat.le_of_ble_eq_true rfl) (Nat.le_refl _) ⟨Nat.le_of_ble_eq_true rfl, Nat.le_of_ble_eq_true rfl⟩ zhn_X11_in rfl (Nat.le_of_ble_eq_true rfl) rfl (z_contI (fun v1 μ1 h => ?_) h)
  obtain ⟨oz2, h⟩ := h
  refine z_if_ne (tgt := 17) A dX11_greys_12 (by decide) oz2 (fun c3 => ?_) (fun c3 => ?_)
  · have h := h.1 c3
    refine s_aload_n A dX11_greys_17 rfl ?_
    refine s_aload_n A dX11_greys_18 rfl ?_
    refine s_getf (k := 11) (j := 0) (sl := true) (v := zR (some 154)) A dX11_greys_19 rfl zuw_X11 (Nat.le_of_ble_eq_true rfl) zwd1308 (by decide) (zk_153 _) rfl ?_
    refine s_callV (a := 153) (k := 11) (N := 45) (sl := true) (M := mX11_layColours) (n := 1) (d := 11) (mc := 0) (ms := 0) (av := [zR (some 154)]) (st := []) A dX11_greys_22 rfl (by decide) (zk_153 _) zwd1643 zwd1645 zwd55 zwd100 zcd_X11_layColours (Nat.le_of_ble_eq_true rfl) (Nat.le_of_ble_eq_true rfl) (Nat.le_refl _) ⟨Nat.le_of_ble_eq_true rfl, Nat.le_of_ble_eq_true rfl⟩ ⟨rfl, zhn_X11_layColours⟩ rfl (Nat.le_of_ble_eq_true rfl) rfl (z_contV (fun μ4 h => ?_) h)
    refine s_iconst A dX11_greys_25 ?_
    refine s_istore_n (L' := [some (zR (some 153)), some (zI x1), some (zI x2), some (zI 0), none, none, none, none]) A dX11_greys_26 (Nat.le_of_ble_eq_true rfl) rfl ?_
    refine s_iconst A dX11_greys_27 ?_
    refine s_istore (L' := [some (zR (some 153)), some (zI x1), some (zI x2), some (zI 0), some (zI (-1)), none, none, none]) A dX11_greys_28 (Nat.le_of_ble_eq_true rfl) rfl ?_
    refine s_iconst A dX11_greys_30 ?_
    refine s_istore (L' := [some (zR (some 153)), some (zI x1), some (zI x2), some (zI 0), some (zI (-1)), some (zI (-1)), none, none]) A dX11_greys_31 (Nat.le_of_ble_eq_true rfl) rfl ?_
    refine s_iconst A dX11_greys_33 ?_
    refine s_istore (L' := [some (zR (some 153)), some (zI x1), some (zI x2), some (zI 0), some (zI (-1)), some (zI (-1)), some (zI 0), none]) A dX11_greys_34 (Nat.le_of_ble_eq_true rfl) rfl ?_
    exact h
  · have h := h.2 c3
    refine s_iconst A dX11_greys_15 ?_
    exact s_iret A dX11_greys_16 hr hlk (Nat.le_of_ble_eq_true rfl) (Nat.le_of_ble_eq_true rfl) ⟨_, rfl, h⟩
set_option maxRecDepth 20000 in
theorem rX11_greys_36 {G : zG} {F : Int → zM → Prop} {J : Nat → zS → Prop} {μ : zM} (C : zJ G true (12) 0 0 mX11_greys (zKI F) J) (x1 : Int) (x2 : Int) (x3 : Int) (x4 : Int) (x5 : Int) (x6 : Int)
    (h : zin x6 ∧ ((6561 ≤ x6 → zin x3 ∧ ((x3 ≤ 0 → F x3 (zup μ 153 4 0)) ∧ (¬ (x3 ≤ 0) → qX11_codeOf G true x4 (zup μ 153 4 0) (fun v5 μ5 => zin v5 ∧ qX11_tell G v5 μ5 (fun μ7 => qX11_sumOf G x4 μ7 (fun v8 μ8 => zin v8 ∧ qX11_tell G v8 μ8 (fun μ10 => qX11_codeOf G true x5 μ10 (fun v11 μ11 => zin v11 ∧ qX11_tell G v11 μ11 (fun μ13 => qX11_sumOf G x5 μ13 (fun v14 μ14 => zin v14 ∧ qX11_tell G v14 μ14 (fun μ16 => F x3 μ16))))))))))) ∧ (¬ (6561 ≤ x6) → qX11_codeOf G true x6 μ (fun v17 μ17 => qX11_open G v17 μ17 (fun v18 μ18 => zin v18 ∧ ((v18 = 0 → J 36 ([some (zR (some 153)), some (zI x1), some (zI x2), some (zI x3), some (zI x4), some (zI x5), some (zI (x6 + 1)), none], [], μ18, 0, 0)) ∧ (¬ (v18 = 0) → qX11_amountOf G true v17 3 μ18 (fun v21 μ21 => zin v21 ∧ zin x1 ∧ ((¬ v21 = x1 → J 36 ([some (zR (some 153)), some (zI x1), some (zI x2), some (zI x3), some (zI x4), some (zI x5), some (zI (x6 + 1)), none], [], μ21, 0, 0)) ∧ (v21 = x1 → qX11_spanOf G x6 μ21 (fun v25 μ25 => zin v25 ∧ zin x2 ∧ ((v25 ≤ x2 → zin x3 ∧ ((x3 = 0 → J 106 ([some (zR (some 153)), some (zI x1), some (zI x2), some (zI x3), some (zI x6), some (zI x5), some (zI x6), none], [], μ25, 0, 0)) ∧ (¬ (x3 = 0) → qX11_sumOf G x6 μ25 (fun v31 μ31 => qX11_sumOf G x4 μ31 (fun v32 μ32 => zin v31 ∧ zin v32 ∧ ((v32 ≤ v31 → J 106 ([some (zR (some 153)), some (zI x1), some (zI x2), some (zI x3), some (zI x4), some (zI x5), some (zI x6), none], [], μ32, 0, 0)) ∧ (¬ (v32 ≤ v31) → J 106 ([some (zR (some 153)), some (zI x1), some (zI x2), some (zI x3), some (zI x6), some (zI x5), some (zI x6), none], [], μ32, 0, 0)))))))) ∧ (¬ (v25 ≤ x2) → J 36 ([some (zR (some 153)), some (zI x1), some (zI x2), some (zI x3), some (zI x4), some (zI x5), some (zI (x6 + 1)), none], [], μ25, 0, 0)))))))))))))) : J 36 ([some (zR (some 153)), some (zI x1), some (zI x2), some (zI x3), some (zI x4), some (zI x5), some (zI x6), none], [], μ, 0, 0) := by
  obtain ⟨p, e, s, m, args, below, meth, c, A, hml, hr, hlk, hnm, rfl⟩ := C
  refine s_iload A dX11_greys_36 rfl ?_
  refine s_sipush A dX11_greys_38 rfl ?_
  obtain ⟨oz1, h⟩ := h
  refine z_icmp_ge (tgt := 138) A dX11_greys_41 (by decide) oz1 ⟨by decide, by decide⟩ (fun c2 => ?_) (fun c2 => ?_)
  · have h := h.1 c2
    refine s_aload_n A dX11_greys_138 rfl ?_
    refine s_iconst A dX11_greys_139 ?_
    refine z_putI (k := 11) (j := 4) (sl := true) A dX11_greys_140 rfl zuw_X11 (Nat.le_of_ble_eq_true rfl) zwd1312 (by decide) (zk_153 _) tyX11 tyX11_ok nmX11 rfl rfl rfl ?_
    refine s_iload_n A dX11_greys_143 rfl ?_
    obtain ⟨oz3, h⟩ := h
    refine z_if_le (tgt := 189) A dX11_greys_144 (by decide) oz3 (fun c4 => ?_) (fun c4 => ?_)
    · have h := h.1 c4
      refine s_iload_n A dX11_greys_189 rfl ?_
      exact s_iret A dX11_greys_190 hr hlk (Nat.le_of_ble_eq_true rfl) (Nat.le_of_ble_eq_true rfl) ⟨_, rfl, h⟩
    · have h := h.2 c4
      refine s_aload_n A dX11_greys_147 rfl ?_
      refine s_iload A dX11_greys_148 rfl ?_
      refine s_callS (M := mX11_codeOf) (n := 1) (d := 0) (mc := 0) (ms := 0) (av := [zI x4]) (st := [zR (some 153)]) A dX11_greys_150 zwd1303 zwd1304 zwd100 zcd_X11_codeOf (Nat.le_of_ble_eq_true rfl) (Nat.le_of_ble_eq_true rfl) (Nat.le_refl _) ⟨Nat.le_of_ble_eq_true rfl, Nat.le_of_ble_eq_true rfl⟩ zhn_X11_codeOf rfl (Nat.le_of_ble_eq_true rfl) rfl (z_contI (fun v5 μ5 h => ?_) h)
      obtain ⟨oz6, h⟩ := h
      refine z_i2l2 A dX11_greys_153 oz6 ?_
      refine s_callV (a := 153) (k := 11) (N := 45) (sl := true) (M := mX11_tell) (n := 1) (d := 0) (mc := 0) (ms := 0) (av := [zL v5]) (st := []) A dX11_greys_154 rfl (by decide) (zk_153 _) zwd1613 zwd1615 zwd51 zwd100 zcd_X11_tell (Nat.le_of_ble_eq_true rfl) (Nat.le_of_ble_eq_true rfl) (Nat.le_refl _) ⟨Nat.le_of_ble_eq_true rfl, Nat.le_of_ble_eq_true rfl⟩ ⟨rfl, zhn_X11_tell⟩ rfl (Nat.le_of_ble_eq_true rfl) rfl (z_contV (fun μ7 h => ?_) h)
      refine s_aload_n A dX11_greys_157 rfl ?_
      refine s_aload_n A dX11_greys_158 rfl ?_
      refine s_iload A dX11_greys_159 rfl ?_
      refine s_callV (a := 153) (k := 11) (N := 45) (sl := true) (M := mX11_sumOf) (n := 1) (d := 0) (mc := 0) (ms := 0) (av := [zI x4]) (st := [zR (some 153)]) A dX11_greys_161 rfl (by decide) (zk_153 _) zwd1816 zwd1818 zwd79 zwd100 zcd_X11_sumOf (Nat.le_of_ble_eq_true rfl) (Nat.le_of_ble_eq_true rfl) (Nat.le_refl _) ⟨Nat.le_of_ble_eq_true rfl, Nat.le_of_ble_eq_true rfl⟩ ⟨rfl, zhn_X11_sumOf⟩ rfl (Nat.le_of_ble_eq_true rfl) rfl (z_contI (fun v8 μ8 h => ?_) h)
      obtain ⟨oz9, h⟩ := h
      refine z_i2l2 A dX11_greys_164 oz9 ?_
      refine s_callV (a := 153) (k := 11) (N := 45) (sl := true) (M := mX11_tell) (n := 1) (d := 0) (mc := 0) (ms := 0) (av := [zL v8]) (st := []) A dX11_greys_165 rfl (by decide) (zk_153 _) zwd1613 zwd1615 zwd51 zwd100 zcd_X11_tell (Nat.le_of_ble_eq_true rfl) (Nat.le_of_ble_eq_true rfl) (Nat.le_refl _) ⟨Nat.le_of_ble_eq_true rfl, Nat.le_of_ble_eq_true rfl⟩ ⟨rfl, zhn_X11_tell⟩ rfl (Nat.le_of_ble_eq_true rfl) rfl (z_contV (fun μ10 h => ?_) h)
      refine s_aload_n A dX11_greys_168 rfl ?_
      refine s_iload A dX11_greys_169 rfl ?_
      refine s_callS (M := mX11_codeOf) (n := 1) (d := 0) (mc := 0) (ms := 0) (av := [zI x5]) (st := [zR (some 153)]) A dX11_greys_171 zwd1303 zwd1304 zwd100 zcd_X11_codeOf (Nat.le_of_ble_eq_true rfl) (Nat.le_of_ble_eq_true rfl) (Nat.le_refl _) ⟨Nat.le_of_ble_eq_true rfl, Nat.le_of_ble_eq_true rfl⟩ zhn_X11_codeOf rfl (Nat.le_of_ble_eq_true rfl) rfl (z_contI (fun v11 μ11 h => ?_) h)
      obtain ⟨oz12, h⟩ := h
      refine z_i2l2 A dX11_greys_174 oz12 ?_
      refine s_callV (a := 153) (k := 11) (N := 45) (sl := true) (M := mX11_tell) (n := 1) (d := 0) (mc := 0) (ms := 0) (av := [zL v11]) (st := []) A dX11_greys_175 rfl (by decide) (zk_153 _) zwd1613 zwd1615 zwd51 zwd100 zcd_X11_tell (Nat.le_of_ble_eq_true rfl) (Nat.le_of_ble_eq_true rfl) (Nat.le_refl _) ⟨Nat.le_of_ble_eq_true rfl, Nat.le_of_ble_eq_true rfl⟩ ⟨rfl, zhn_X11_tell⟩ rfl (Nat.le_of_ble_eq_true rfl) rfl (z_contV (fun μ13 h => ?_) h)
      refine s_aload_n A dX11_greys_178 rfl ?_
      refine s_aload_n A dX11_greys_179 rfl ?_
      refine s_iload A dX11_greys_180 rfl ?_
      refine s_callV (a := 153) (k := 11) (N := 45) (sl := true) (M := mX11_sumOf) (n := 1) (d := 0) (mc := 0) (ms := 0) (av := [zI x5]) (st := [zR (some 153)]) A dX11_greys_182 rfl (by decide) (zk_153 _) zwd1816 zwd1818 zwd79 zwd100 zcd_X11_sumOf (Nat.le_of_ble_eq_true rfl) (Nat.le_of_ble_eq_true rfl) (Nat.le_refl _) ⟨Nat.le_of_ble_eq_true rfl, Nat.le_of_ble_eq_true rfl⟩ ⟨rfl, zhn_X11_sumOf⟩ rfl (Nat.le_of_ble_eq_true rfl) rfl (z_contI (fun v14 μ14 h => ?_) h)
      obtain ⟨oz15, h⟩ := h
      refine z_i2l2 A dX11_greys_185 oz15 ?_
      refine s_callV (a := 153) (k := 11) (N := 45) (sl := true) (M := mX11_tell) (n := 1) (d := 0) (mc := 0) (ms := 0) (av := [zL v14]) (st := []) A dX11_greys_186 rfl (by decide) (zk_153 _) zwd1613 zwd1615 zwd51 zwd100 zcd_X11_tell (Nat.le_of_ble_eq_true rfl) (Nat.le_of_ble_eq_true rfl) (Nat.le_refl _) ⟨Nat.le_of_ble_eq_true rfl, Nat.le_of_ble_eq_true rfl⟩ ⟨rfl, zhn_X11_tell⟩ rfl (Nat.le_of_ble_eq_true rfl) rfl (z_contV (fun μ16 h => ?_) h)
      refine s_iload_n A dX11_greys_189 rfl ?_
      exact s_iret A dX11_greys_190 hr hlk (Nat.le_of_ble_eq_true rfl) (Nat.le_of_ble_eq_true rfl) ⟨_, rfl, h⟩
  · have h := h.2 c2
    refine s_iload A dX11_greys_44 rfl ?_
    refine s_callS (M := mX11_codeOf) (n := 1) (d := 0) (mc := 0) (ms := 0) (av := [zI x6]) (st := []) A dX11_greys_46 zwd1303 zwd1304 zwd100 zcd_X11_codeOf (Nat.le_of_ble_eq_true rfl) (Nat.le_of_ble_eq_true rfl) (Nat.le_refl _) ⟨Nat.le_of_ble_eq_true rfl, Nat.le_of_ble_eq_true rfl⟩ zhn_X11_codeOf rfl (Nat.le_of_ble_eq_true rfl) rfl (z_contI (fun v17 μ17 h => ?_) h)
    refine s_istore (L' := [some (zR (some 153)), some (zI x1), some (zI x2), some (zI x3), some (zI x4), some (zI x5), some (zI x6), some (zI v17)]) A dX11_greys_49 (Nat.le_of_ble_eq_true rfl) rfl ?_
    refine s_aload_n A dX11_greys_51 rfl ?_
    refine s_iload A dX11_greys_52 rfl ?_
    refine s_callV (a := 153) (k := 11) (N := 45) (sl := true) (M := mX11_open) (n := 1) (d := 3) (mc := 0) (ms := 0) (av := [zI v17]) (st := []) A dX11_greys_54 rfl (by decide) (zk_153 _) zwd1647 zwd1649 zwd56 zwd100 zcd_X11_open (Nat.le_of_ble_eq_true rfl) (Nat.le_of_ble_eq_true rfl) (Nat.le_refl _) ⟨Nat.le_of_ble_eq_true rfl, Nat.le_of_ble_eq_true rfl⟩ ⟨rfl, zhn_X11_open⟩ rfl (Nat.le_of_ble_eq_true rfl) rfl (z_contI (fun v18 μ18 h => ?_) h)
    obtain ⟨oz19, h⟩ := h
    refine z_if_eq (tgt := 132) A dX11_greys_57 (by decide) oz19 (fun c20 => ?_) (fun c20 => ?_)
    · have h := h.1 c20
      refine s_iinc (L' := [some (zR (some 153)), some (zI x1), some (zI x2), some (zI x3), some (zI x4), some (zI x5), some (zI (x6 + 1)), some (zI v17)]) A dX11_greys_132 rfl rfl ?_
      refine s_goto (tgt := 36) A dX11_greys_135 (by decide) ?_
      exact z_wk (L' := [some (zR (some 153)), some (zI x1), some (zI x2), some (zI x3), some (zI x4), some (zI x5), some (zI (x6 + 1)), none]) ⟨rfl, rfl, rfl, rfl, rfl, rfl, rfl, trivial⟩ h
    · have h := h.2 c20
      refine s_iload A dX11_greys_60 rfl ?_
      refine s_iconst A dX11_greys_62 ?_
      refine s_callS (M := mX11_amountOf) (n := 2) (d := 0) (mc := 0) (ms := 0) (av := [zI v17, zI 3]) (st := []) A dX11_greys_63 zwd1610 zwd1611 zwd100 zcd_X11_amountOf (Nat.le_of_ble_eq_true rfl) (Nat.le_of_ble_eq_true rfl) (Nat.le_refl _) ⟨Nat.le_of_ble_eq_true rfl, Nat.le_of_ble_eq_true rfl⟩ zhn_X11_amountOf rfl (Nat.le_of_ble_eq_true rfl) rfl (z_contI (fun v21 μ21 h => ?_) h)
      refine s_iload_n A dX11_greys_66 rfl ?_
      obtain ⟨oz22, h⟩ := h
      obtain ⟨oz23, h⟩ := h
      refine z_icmp_ne (tgt := 132) A dX11_greys_67 (by decide) oz22 oz23 (fun c24 => ?_) (fun c24 => ?_)
      · have h := h.1 c24
        refine s_iinc (L' := [some (zR (some 153)), some (zI x1), some (zI x2), some (zI x3), some (zI x4), some (zI x5), some (zI (x6 + 1)), some (zI v17)]) A dX11_greys_132 rfl rfl ?_
        refine s_goto (tgt := 36) A dX11_greys_135 (by decide) ?_
        exact z_wk (L' := [some (zR (some 153)), some (zI x1), some (zI x2), some (zI x3), some (zI x4), some (zI x5), some (zI (x6 + 1)), none]) ⟨rfl, rfl, rfl, rfl, rfl, rfl, rfl, trivial⟩ h
      · have h := h.2 c24
        refine s_aload_n A dX11_greys_70 rfl ?_
        refine s_iload A dX11_greys_71 rfl ?_
        refine s_callV (a := 153) (k := 11) (N := 45) (sl := true) (M := mX11_spanOf) (n := 1) (d := 8) (mc := 0) (ms := 0) (av := [zI x6]) (st := []) A dX11_greys_73 rfl (by decide) (zk_153 _) zwd1812 zwd1814 zwd78 zwd100 zcd_X11_spanOf (Nat.le_of_ble_eq_true rfl) (Nat.le_of_ble_eq_true rfl) (Nat.le_refl _) ⟨Nat.le_of_ble_eq_true rfl, Nat.le_of_ble_eq_true rfl⟩ ⟨rfl, zhn_X11_spanOf⟩ rfl (Nat.le_of_ble_eq_true rfl) rfl (z_contI (fun v25 μ25 h => ?_) h)
        refine s_iload_n A dX11_greys_76 rfl ?_
        obtain ⟨oz26, h⟩ := h
        obtain ⟨oz27, h⟩ := h
        refine z_icmp_le (tgt := 83) A dX11_greys_77 (by decide) oz26 oz27 (fun c28 => ?_) (fun c28 => ?_)
        · have h := h.1 c28
          refine s_iload_n A dX11_greys_83 rfl ?_
          obtain ⟨oz29, h⟩ := h
          refine z_if_eq (tgt := 102) A dX11_greys_84 (by decide) oz29 (fun c30 => ?_) (fun c30 => ?_)
          · have h := h.1 c30
            refine s_iload A dX11_greys_102 rfl ?_
            refine s_istore (L' := [some (zR (some 153)), some (zI x1), some (zI x2), some (zI x3), some (zI x6), some (zI x5), some (zI x6), some (zI v17)]) A dX11_greys_104 (Nat.le_of_ble_eq_true rfl) rfl ?_
            exact z_wk (L' := [some (zR (some 153)), some (zI x1), some (zI x2), some (zI x3), some (zI x6), some (zI x5), some (zI x6), none]) ⟨rfl, rfl, rfl, rfl, rfl, rfl, rfl, trivial⟩ h
          · have h := h.2 c30
            refine s_aload_n A dX11_greys_87 rfl ?_
            refine s_iload A dX11_greys_88 rfl ?_
            refine s_callV (a := 153) (k := 11) (N := 45) (sl := true) (M := mX11_sumOf) (n := 1) (d := 0) (mc := 0) (ms := 0) (av := [zI x6]) (st := []) A dX11_greys_90 rfl (by decide) (zk_153 _) zwd1816 zwd1818 zwd79 zwd100 zcd_X11_sumOf (Nat.le_of_ble_eq_true rfl) (Nat.le_of_ble_eq_true rfl) (Nat.le_refl _) ⟨Nat.le_of_ble_eq_true rfl, Nat.le_of_ble_eq_true rfl⟩ ⟨rfl, zhn_X11_sumOf⟩ rfl (Nat.le_of_ble_eq_true rfl) rfl (z_contI (fun v31 μ31 h => ?_) h)
            refine s_aload_n A dX11_greys_93 rfl ?_
            refine s_iload A dX11_greys_94 rfl ?_
            refine s_callV (a := 153) (k := 11) (N := 45) (sl := true) (M := mX11_sumOf) (n := 1) (d := 0) (mc := 0) (ms := 0) (av := [zI x4]) (st := [zI v31]) A dX11_greys_96 rfl (by decide) (zk_153 _) zwd1816 zwd1818 zwd79 zwd100 zcd_X11_sumOf (Nat.le_of_ble_eq_true rfl) (Nat.le_of_ble_eq_true rfl) (Nat.le_refl _) ⟨Nat.le_of_ble_eq_true rfl, Nat.le_of_ble_eq_true rfl⟩ ⟨rfl, zhn_X11_sumOf⟩ rfl (Nat.le_of_ble_eq_true rfl) rfl (z_contI (fun v32 μ32 h => ?_) h)
            obtain ⟨oz33, h⟩ := h
            obtain ⟨oz34, h⟩ := h
            refine z_icmp_ge (tgt := 106) A dX11_greys_99 (by decide) oz33 oz34 (fun c35 => ?_) (fun c35 => ?_)
            · have h := h.1 c35
              exact z_wk (L' := [some (zR (some 153)), some (zI x1), some (zI x2), some (zI x3), some (zI x4), some (zI x5), some (zI x6), none]) ⟨rfl, rfl, rfl, rfl, rfl, rfl, rfl, trivial⟩ h
            · have h := h.2 c35
              refine s_iload A dX11_greys_102 rfl ?_
              refine s_istore (L' := [some (zR (some 153)), some (zI x1), some (zI x2), some (zI x3), some (zI x6), some (zI x5), some (zI x6), some (zI v17)]) A dX11_greys_104 (Nat.le_of_ble_eq_true rfl) rfl ?_
              exact z_wk (L' := [some (zR (some 153)), some (zI x1), some (zI x2), some (zI x3), some (zI x6), some (zI x5), some (zI x6), none]) ⟨rfl, rfl, rfl, rfl, rfl, rfl, rfl, trivial⟩ h
        · have h := h.2 c28
          refine s_goto (tgt := 132) A dX11_greys_80 (by decide) ?_
          refine s_iinc (L' := [some (zR (some 153)), some (zI x1), some (zI x2), some (zI x3), some (zI x4), some (zI x5), some (zI (x6 + 1)), some (zI v17)]) A dX11_greys_132 rfl rfl ?_
          refine s_goto (tgt := 36) A dX11_greys_135 (by decide) ?_
          exact z_wk (L' := [some (zR (some 153)), some (zI x1), some (zI x2), some (zI x3), some (zI x4), some (zI x5), some (zI (x6 + 1)), none]) ⟨rfl, rfl, rfl, rfl, rfl, rfl, rfl, trivial⟩ h
set_option maxRecDepth 20000 in
theorem rX11_greys_106 {G : zG} {F : Int → zM → Prop} {J : Nat → zS → Prop} {μ : zM} (C : zJ G true (12) 0 0 mX11_greys (zKI F) J) (x1 : Int) (x2 : Int) (x3 : Int) (x4 : Int) (x5 : Int) (x6 : Int)
    (h : zin x3 ∧ ((x3 = 0 → J 36 ([some (zR (some 153)), some (zI x1), some (zI x2), some (zI (x3 + 1)), some (zI x4), some (zI x6), some (zI (x6 + 1)), none], [], μ, 0, 0)) ∧ (¬ (x3 = 0) → qX11_sumOf G x6 μ (fun v3 μ3 => qX11_sumOf G x5 μ3 (fun v4 μ4 => zin v3 ∧ zin v4 ∧ ((v3 ≤ v4 → J 36 ([some (zR (some 153)), some (zI x1), some (zI x2), some (zI (x3 + 1)), some (zI x4), some (zI x5), some (zI (x6 + 1)), none], [], μ4, 0, 0)) ∧ (¬ (v3 ≤ v4) → J 36 ([some (zR (some 153)), some (zI x1), some (zI x2), some (zI (x3 + 1)), some (zI x4), some (zI x6), some (zI (x6 + 1)), none], [], μ4, 0, 0)))))))) : J 106 ([some (zR (some 153)), some (zI x1), some (zI x2), some (zI x3), some (zI x4), some (zI x5), some (zI x6), none], [], μ, 0, 0) := by
  obtain ⟨p, e, s, m, args, below, meth, c, A, hml, hr, hlk, hnm, rfl⟩ := C
  refine s_iload_n A dX11_greys_106 rfl ?_
  obtain ⟨oz1, h⟩ := h
  refine z_if_eq (tgt := 125) A dX11_greys_107 (by decide) oz1 (fun c2 => ?_) (fun c2 => ?_)
  · have h := h.1 c2
    refine s_iload A dX11_greys_125 rfl ?_
    refine s_istore (L' := [some (zR (some 153)), some (zI x1), some (zI x2), some (zI x3), some (zI x4), some (zI x6), some (zI x6), none]) A dX11_greys_127 (Nat.le_of_ble_eq_true rfl) rfl ?_
    refine s_iinc (L' := [some (zR (some 153)), some (zI x1), some (zI x2), some (zI (x3 + 1)), some (zI x4), some (zI x6), some (zI x6), none]) A dX11_greys_129 rfl rfl ?_
    refine s_iinc (L' := [some (zR (some 153)), some (zI x1), some (zI x2), some (zI (x3 + 1)), some (zI x4), some (zI x6), some (zI (x6 + 1)), none]) A dX11_greys_132 rfl rfl ?_
    refine s_goto (tgt := 36) A dX11_greys_135 (by decide) ?_
    exact h
  · have h := h.2 c2
    refine s_aload_n A dX11_greys_110 rfl ?_
    refine s_iload A dX11_greys_111 rfl ?_
    refine s_callV (a := 153) (k := 11) (N := 45) (sl := true) (M := mX11_sumOf) (n := 1) (d := 0) (mc := 0) (ms := 0) (av := [zI x6]) (st := []) A dX11_greys_113 rfl (by decide) (zk_153 _) zwd1816 zwd1818 zwd79 zwd100 zcd_X11_sumOf (Nat.le_of_ble_eq_true rfl) (Nat.le_of_ble_eq_true rfl) (Nat.le_refl _) ⟨Nat.le_of_ble_eq_true rfl, Nat.le_of_ble_eq_true rfl⟩ ⟨rfl, zhn_X11_sumOf⟩ rfl (Nat.le_of_ble_eq_true rfl) rfl (z_contI (fun v3 μ3 h => ?_) h)
    refine s_aload_n A dX11_greys_116 rfl ?_
    refine s_iload A dX11_greys_117 rfl ?_
    refine s_callV (a := 153) (k := 11) (N := 45) (sl := true) (M := mX11_sumOf) (n := 1) (d := 0) (mc := 0) (ms := 0) (av := [zI x5]) (st := [zI v3]) A dX11_greys_119 rfl (by decide) (zk_153 _) zwd1816 zwd1818 zwd79 zwd100 zcd_X11_sumOf (Nat.le_of_ble_eq_true rfl) (Nat.le_of_ble_eq_true rfl) (Nat.le_refl _) ⟨Nat.le_of_ble_eq_true rfl, Nat.le_of_ble_eq_true rfl⟩ ⟨rfl, zhn_X11_sumOf⟩ rfl (Nat.le_of_ble_eq_true rfl) rfl (z_contI (fun v4 μ4 h => ?_) h)
    obtain ⟨oz5, h⟩ := h
    obtain ⟨oz6, h⟩ := h
    refine z_icmp_le (tgt := 129) A dX11_greys_122 (by decide) oz5 oz6 (fun c7 => ?_) (fun c7 => ?_)
    · have h := h.1 c7
      refine s_iinc (L' := [some (zR (some 153)), some (zI x1), some (zI x2), some (zI (x3 + 1)), some (zI x4), some (zI x5), some (zI x6), none]) A dX11_greys_129 rfl rfl ?_
      refine s_iinc (L' := [some (zR (some 153)), some (zI x1), some (zI x2), some (zI (x3 + 1)), some (zI x4), some (zI x5), some (zI (x6 + 1)), none]) A dX11_greys_132 rfl rfl ?_
      refine s_goto (tgt := 36) A dX11_greys_135 (by decide) ?_
      exact h
    · have h := h.2 c7
      refine s_iload A dX11_greys_125 rfl ?_
      refine s_istore (L' := [some (zR (some 153)), some (zI x1), some (zI x2), some (zI x3), some (zI x4), some (zI x6), some (zI x6), none]) A dX11_greys_127 (Nat.le_of_ble_eq_true rfl) rfl ?_
      refine s_iinc (L' := [some (zR (some 153)), some (zI x1), some (zI x2), some (zI (x3 + 1)), some (zI x4), some (zI x6), some (zI x6), none]) A dX11_greys_129 rfl rfl ?_
      refine s_iinc (L' := [some (zR (some 153)), some (zI x1), some (zI x2), some (zI (x3 + 1)), some (zI x4), some (zI x6), some (zI (x6 + 1)), none]) A dX11_greys_132 rfl rfl ?_
      refine s_goto (tgt := 36) A dX11_greys_135 (by decide) ?_
      exact h
theorem eX11_greys {G : zG} {F : Int → zM → Prop} {μ : zM} {x1 : Int} {x2 : Int} (h : ∀ J, zJ G true (12) 0 0 mX11_greys (zKI F) J → J 0 ([some (zR (some 153)), some (zI x1), some (zI x2), none, none, none, none, none], [], μ, 0, 0)) : qX11_greys G x1 x2 μ F :=
  z_body (by decide +kernel) (Nat.le_of_ble_eq_true rfl) h
set_option maxRecDepth 20000 in
theorem rX11_rankOf_e {G : zG} {ph : Bool} {F : Int → zM → Prop} {J : Nat → zS → Prop} {μ : zM} (C : zJ G ph (3) 0 0 mX11_rankOf (zKI F) J) (x0 : Int) (x1 : Int)
    (h : qX11_amountOf G ph x1 3 μ (fun v1 μ1 => qX11_totalOf G ph x1 μ1 (fun v2 μ2 => zin x0 ∧ ((¬ x0 = 0 → ((¬ x0 = 1 → F ((100 * v1) + v2) μ2) ∧ (x0 = 1 → F (((100 * v2) + 8) - v1) μ2))) ∧ (x0 = 0 → F ((100 * (8 - v1)) + v2) μ2))))) : J 0 ([some (zI x0), some (zI x1), none, none], [], μ, 0, 0) := by
  obtain ⟨p, e, s, m, args, below, meth, c, A, hml, hr, hlk, hnm, rfl⟩ := C
  refine s_iload_n A dX11_rankOf_0 rfl ?_
  refine s_iconst A dX11_rankOf_1 ?_
  refine s_callS (M := mX11_amountOf) (n := 2) (d := 0) (mc := 0) (ms := 0) (av := [zI x1, zI 3]) (st := []) A dX11_rankOf_2 zwd1610 zwd1611 zwd100 zcd_X11_amountOf (Nat.le_of_ble_eq_true rfl) (Nat.le_of_ble_eq_true rfl) (Nat.le_refl _) ⟨Nat.le_of_ble_eq_true rfl, Nat.le_of_ble_eq_true rfl⟩ zhn_X11_amountOf rfl (Nat.le_of_ble_eq_true rfl) rfl (z_contI (fun v1 μ1 h => ?_) h)
  refine s_istore_n (L' := [some (zI x0), some (zI x1), some (zI v1), none]) A dX11_rankOf_5 (Nat.le_of_ble_eq_true rfl) rfl ?_
  refine s_iload_n A dX11_rankOf_6 rfl ?_
  refine s_callS (M := mX11_totalOf) (n := 1) (d := 2) (mc := 0) (ms := 0) (av := [zI x1]) (st := []) A dX11_rankOf_7 zwd1617 zwd1618 zwd100 zcd_X11_totalOf (Nat.le_of_ble_eq_true rfl) (Nat.le_of_ble_eq_true rfl) (Nat.le_refl _) ⟨Nat.le_of_ble_eq_true rfl, Nat.le_of_ble_eq_true rfl⟩ zhn_X11_totalOf rfl (Nat.le_of_ble_eq_true rfl) rfl (z_contI (fun v2 μ2 h => ?_) h)
  refine s_istore_n (L' := [some (zI x0), some (zI x1), some (zI v1), some (zI v2)]) A dX11_rankOf_10 (Nat.le_of_ble_eq_true rfl) rfl ?_
  refine s_iload_n A dX11_rankOf_11 rfl ?_
  obtain ⟨oz3, h⟩ := h
  refine z_if_ne (tgt := 27) A dX11_rankOf_12 (by decide) oz3 (fun c4 => ?_) (fun c4 => ?_)
  · have h := h.1 c4
    refine s_iload_n A dX11_rankOf_27 rfl ?_
    refine s_iconst A dX11_rankOf_28 ?_
    refine z_icmp_ne (tgt := 44) A dX11_rankOf_29 (by decide) oz3 ⟨by decide, by decide⟩ (fun c5 => ?_) (fun c5 => ?_)
    · have h := h.1 c5
      refine s_bipush A dX11_rankOf_44 rfl ?_
      refine s_iload_n A dX11_rankOf_46 rfl ?_
      refine s_imul A dX11_rankOf_47 ?_
      refine s_iload_n A dX11_rankOf_48 rfl ?_
      refine s_iadd A dX11_rankOf_49 ?_
      exact s_iret A dX11_rankOf_50 hr hlk (Nat.le_of_ble_eq_true rfl) (Nat.le_of_ble_eq_true rfl) ⟨_, rfl, h⟩
    · have h := h.2 c5
      refine s_bipush A dX11_rankOf_32 rfl ?_
      refine s_iload_n A dX11_rankOf_34 rfl ?_
      refine s_imul A dX11_rankOf_35 ?_
      refine s_bipush A dX11_rankOf_36 rfl ?_
      refine s_iadd A dX11_rankOf_38 ?_
      refine s_iload_n A dX11_rankOf_39 rfl ?_
      refine s_isub A dX11_rankOf_40 ?_
      refine s_goto (tgt := 50) A dX11_rankOf_41 (by decide) ?_
      exact s_iret A dX11_rankOf_50 hr hlk (Nat.le_of_ble_eq_true rfl) (Nat.le_of_ble_eq_true rfl) ⟨_, rfl, h⟩
  · have h := h.2 c4
    refine s_bipush A dX11_rankOf_15 rfl ?_
    refine s_bipush A dX11_rankOf_17 rfl ?_
    refine s_iload_n A dX11_rankOf_19 rfl ?_
    refine s_isub A dX11_rankOf_20 ?_
    refine s_imul A dX11_rankOf_21 ?_
    refine s_iload_n A dX11_rankOf_22 rfl ?_
    refine s_iadd A dX11_rankOf_23 ?_
    refine s_goto (tgt := 50) A dX11_rankOf_24 (by decide) ?_
    exact s_iret A dX11_rankOf_50 hr hlk (Nat.le_of_ble_eq_true rfl) (Nat.le_of_ble_eq_true rfl) ⟨_, rfl, h⟩
theorem eX11_rankOf {G : zG} {ph : Bool} {F : Int → zM → Prop} {μ : zM} {x0 : Int} {x1 : Int} (h : ∀ J, zJ G ph (3) 0 0 mX11_rankOf (zKI F) J → J 0 ([some (zI x0), some (zI x1), none, none], [], μ, 0, 0)) : qX11_rankOf G ph x0 x1 μ F :=
  z_body (by decide +kernel) (Nat.le_of_ble_eq_true rfl) h
set_option maxRecDepth 20000 in
theorem rX11_replaces_e {G : zG} {F : Int → zM → Prop} {J : Nat → zS → Prop} {μ : zM} (C : zJ G true (12) 0 0 mX11_replaces (zKI F) J) (x1 : Int) (x2 : Int) (x3 : Int)
    (h : qX11_in G true x1 0 2 (zup μ 153 5 0) (fun v1 μ1 => zin v1 ∧ ((v1 = 0 → F (-1) μ1) ∧ (¬ (v1 = 0) → qX11_isCode G true x2 μ1 (fun v4 μ4 => zin v4 ∧ ((¬ v4 = 0 → qX11_layColours G 154 μ4 (fun μ7 => J 40 ([some (zR (some 153)), some (zI x1), some (zI x2), some (zI x3), some (zI 0), some (zI (-1)), some (zI 0)], [], μ7, 0, 0))) ∧ (v4 = 0 → F (-1) μ4))))))) : J 0 ([some (zR (some 153)), some (zI x1), some (zI x2), some (zI x3), none, none, none], [], μ, 0, 0) := by
  obtain ⟨p, e, s, m, args, below, meth, c, A, hml, hr, hlk, hnm, rfl⟩ := C
  refine s_aload_n A dX11_replaces_0 rfl ?_
  refine s_iconst A dX11_replaces_1 ?_
  refine z_putI (k := 11) (j := 5) (sl := true) A dX11_replaces_2 rfl zuw_X11 (Nat.le_of_ble_eq_true rfl) zwd1313 (by decide) (zk_153 _) tyX11 tyX11_ok nmX11 rfl rfl rfl ?_
  refine s_iload_n A dX11_replaces_5 rfl ?_
  refine s_iconst A dX11_replaces_6 ?_
  refine s_iconst A dX11_replaces_7 ?_
  refine s_callS (M := mX11_in) (n := 3) (d := 0) (mc := 0) (ms := 0) (av := [zI x1, zI 0, zI 2]) (st := []) A dX11_replaces_8 zwd1456 zwd1457 zwd100 zcd_X11_in (Nat.le_of_ble_eq_true rfl) (Nat.le_of_ble_eq_true rfl) (Nat.le_refl _) ⟨Nat.le_of_ble_eq_true rfl, Nat.le_of_ble_eq_true rfl⟩ zhn_X11_in rfl (Nat.le_of_ble_eq_true rfl) rfl (z_contI (fun v1 μ1 h => ?_) h)
  obtain ⟨oz2, h⟩ := h
  refine z_if_eq (tgt := 21) A dX11_replaces_11 (by decide) oz2 (fun c3 => ?_) (fun c3 => ?_)
  · have h := h.1 c3
    refine s_iconst A dX11_replaces_21 ?_
    exact s_iret A dX11_replaces_22 hr hlk (Nat.le_of_ble_eq_true rfl) (Nat.le_of_ble_eq_true rfl) ⟨_, rfl, h⟩
  · have h := h.2 c3
    refine s_iload_n A dX11_replaces_14 rfl ?_
    refine s_callS (M := mX11_isCode) (n := 1) (d := 2) (mc := 0) (ms := 0) (av := [zI x2]) (st := []) A dX11_replaces_15 zwd1595 zwd1596 zwd100 zcd_X11_isCode (Nat.le_of_ble_eq_true rfl) (Nat.le_of_ble_eq_true rfl) (Nat.le_refl _) ⟨Nat.le_of_ble_eq_true rfl, Nat.le_of_ble_eq_true rfl⟩ zhn_X11_isCode rfl (Nat.le_of_ble_eq_true rfl) rfl (z_contI (fun v4 μ4 h => ?_) h)
    obtain ⟨oz5, h⟩ := h
    refine z_if_ne (tgt := 23) A dX11_replaces_18 (by decide) oz5 (fun c6 => ?_) (fun c6 => ?_)
    · have h := h.1 c6
      refine s_aload_n A dX11_replaces_23 rfl ?_
      refine s_aload_n A dX11_replaces_24 rfl ?_
      refine s_getf (k := 11) (j := 0) (sl := true) (v := zR (some 154)) A dX11_replaces_25 rfl zuw_X11 (Nat.le_of_ble_eq_true rfl) zwd1308 (by decide) (zk_153 _) rfl ?_
      refine s_callV (a := 153) (k := 11) (N := 45) (sl := true) (M := mX11_layColours) (n := 1) (d := 11) (mc := 0) (ms := 0) (av := [zR (some 154)]) (st := []) A dX11_replaces_28 rfl (by decide) (zk_153 _) zwd1643 zwd1645 zwd55 zwd100 zcd_X11_layColours (Nat.le_of_ble_eq_true rfl) (Nat.le_of_ble_eq_true rfl) (Nat.le_refl _) ⟨Nat.le_of_ble_eq_true rfl, Nat.le_of_ble_eq_true rfl⟩ ⟨rfl, zhn_X11_layColours⟩ rfl (Nat.le_of_ble_eq_true rfl) rfl (z_contV (fun μ7 h => ?_) h)
      refine s_iconst A dX11_replaces_31 ?_
      refine s_istore (L' := [some (zR (some 153)), some (zI x1), some (zI x2), some (zI x3), some (zI 0), none, none]) A dX11_replaces_32 (Nat.le_of_ble_eq_true rfl) rfl ?_
      refine s_iconst A dX11_replaces_34 ?_
      refine s_istore (L' := [some (zR (some 153)), some (zI x1), some (zI x2), some (zI x3), some (zI 0), some (zI (-1)), none]) A dX11_replaces_35 (Nat.le_of_ble_eq_true rfl) rfl ?_
      refine s_iconst A dX11_replaces_37 ?_
      refine s_istore (L' := [some (zR (some 153)), some (zI x1), some (zI x2), some (zI x3), some (zI 0), some (zI (-1)), some (zI 0)]) A dX11_replaces_38 (Nat.le_of_ble_eq_true rfl) rfl ?_
      exact h
    · have h := h.2 c6
      refine s_iconst A dX11_replaces_21 ?_
      exact s_iret A dX11_replaces_22 hr hlk (Nat.le_of_ble_eq_true rfl) (Nat.le_of_ble_eq_true rfl) ⟨_, rfl, h⟩
set_option maxRecDepth 20000 in
theorem rX11_replaces_40 {G : zG} {F : Int → zM → Prop} {J : Nat → zS → Prop} {μ : zM} (C : zJ G true (12) 0 0 mX11_replaces (zKI F) J) (x1 : Int) (x2 : Int) (x3 : Int) (x4 : Int) (x5 : Int) (x6 : Int)
    (h : zin x6 ∧ ((6561 ≤ x6 → zin x4 ∧ ((¬ x4 = 0 → qX11_tell G x4 (zup μ 153 4 0) (fun μ5 => F x5 μ5)) ∧ (x4 = 0 → F (-2) μ))) ∧ (¬ (6561 ≤ x6) → qX11_codeOf G true x6 μ (fun v6 μ6 => qX11_open G v6 μ6 (fun v7 μ7 => zin v7 ∧ ((v7 = 0 → J 40 ([some (zR (some 153)), some (zI x1), some (zI x2), some (zI x3), some (zI x4), some (zI x5), some (zI (x6 + 1))], [], μ7, 0, 0)) ∧ (¬ (v7 = 0) → qX11_numberOf G true x2 μ7 (fun v10 μ10 => qX11_between G x6 v10 μ10 (fun v11 μ11 => zin v11 ∧ zin x3 ∧ ((v11 ≤ x3 → zin x5 ∧ ((x5 = -1 → qX11_codeOf G true x6 μ11 (fun v17 μ17 => J 40 ([some (zR (some 153)), some (zI x1), some (zI x2), some (zI x3), some (zI (x4 + 1)), some (zI v17), some (zI (x6 + 1))], [], μ17, 0, 0))) ∧ (¬ (x5 = -1) → qX11_codeOf G true x6 μ11 (fun v18 μ18 => qX11_rankOf G true x1 v18 μ18 (fun v19 μ19 => qX11_rankOf G true x1 x5 μ19 (fun v20 μ20 => zin v19 ∧ zin v20 ∧ ((v20 ≤ v19 → J 40 ([some (zR (some 153)), some (zI x1), some (zI x2), some (zI x3), some (zI (x4 + 1)), some (zI x5), some (zI (x6 + 1))], [], μ20, 0, 0)) ∧ (¬ (v20 ≤ v19) → qX11_codeOf G true x6 μ20 (fun v24 μ24 => J 40 ([some (zR (some 153)), some (zI x1), some (zI x2), some (zI x3), some (zI (x4 + 1)), some (zI v24), some (zI (x6 + 1))], [], μ24, 0, 0)))))))))) ∧ (¬ (v11 ≤ x3) → J 40 ([some (zR (some 153)), some (zI x1), some (zI x2), some (zI x3), some (zI x4), some (zI x5), some (zI (x6 + 1))], [], μ11, 0, 0)))))))))))) : J 40 ([some (zR (some 153)), some (zI x1), some (zI x2), some (zI x3), some (zI x4), some (zI x5), some (zI x6)], [], μ, 0, 0) := by
  obtain ⟨p, e, s, m, args, below, meth, c, A, hml, hr, hlk, hnm, rfl⟩ := C
  refine s_iload A dX11_replaces_40 rfl ?_
  refine s_sipush A dX11_replaces_42 rfl ?_
  obtain ⟨oz1, h⟩ := h
  refine z_icmp_ge (tgt := 117) A dX11_replaces_45 (by decide) oz1 ⟨by decide, by decide⟩ (fun c2 => ?_) (fun c2 => ?_)
  · have h := h.1 c2
    refine s_iload A dX11_replaces_117 rfl ?_
    obtain ⟨oz3, h⟩ := h
    refine z_if_ne (tgt := 125) A dX11_replaces_119 (by decide) oz3 (fun c4 => ?_) (fun c4 => ?_)
    · have h := h.1 c4
      refine s_aload_n A dX11_replaces_125 rfl ?_
      refine s_iconst A dX11_replaces_126 ?_
      refine z_putI (k := 11) (j := 4) (sl := true) A dX11_replaces_127 rfl zuw_X11 (Nat.le_of_ble_eq_true rfl) zwd1312 (by decide) (zk_153 _) tyX11 tyX11_ok nmX11 rfl rfl rfl ?_
      refine s_aload_n A dX11_replaces_130 rfl ?_
      refine s_iload A dX11_replaces_131 rfl ?_
      refine z_i2l2 A dX11_replaces_133 oz3 ?_
      refine s_callV (a := 153) (k := 11) (N := 45) (sl := true) (M := mX11_tell) (n := 1) (d := 0) (mc := 0) (ms := 0) (av := [zL x4]) (st := []) A dX11_replaces_134 rfl (by decide) (zk_153 _) zwd1613 zwd1615 zwd51 zwd100 zcd_X11_tell (Nat.le_of_ble_eq_true rfl) (Nat.le_of_ble_eq_true rfl) (Nat.le_refl _) ⟨Nat.le_of_ble_eq_true rfl, Nat.le_of_ble_eq_true rfl⟩ ⟨rfl, zhn_X11_tell⟩ rfl (Nat.le_of_ble_eq_true rfl) rfl (z_contV (fun μ5 h => ?_) h)
      refine s_iload A dX11_replaces_137 rfl ?_
      exact s_iret A dX11_replaces_139 hr hlk (Nat.le_of_ble_eq_true rfl) (Nat.le_of_ble_eq_true rfl) ⟨_, rfl, h⟩
    · have h := h.2 c4
      refine s_bipush A dX11_replaces_122 rfl ?_
      exact s_iret A dX11_replaces_124 hr hlk (Nat.le_of_ble_eq_true rfl) (Nat.le_of_ble_eq_true rfl) ⟨_, rfl, h⟩
  · have h := h.2 c2
    refine s_aload_n A dX11_replaces_48 rfl ?_
    refine s_iload A dX11_replaces_49 rfl ?_
    refine s_callS (M := mX11_codeOf) (n := 1) (d := 0) (mc := 0) (ms := 0) (av := [zI x6]) (st := [zR (some 153)]) A dX11_replaces_51 zwd1303 zwd1304 zwd100 zcd_X11_codeOf (Nat.le_of_ble_eq_true rfl) (Nat.le_of_ble_eq_true rfl) (Nat.le_refl _) ⟨Nat.le_of_ble_eq_true rfl, Nat.le_of_ble_eq_true rfl⟩ zhn_X11_codeOf rfl (Nat.le_of_ble_eq_true rfl) rfl (z_contI (fun v6 μ6 h => ?_) h)
    refine s_callV (a := 153) (k := 11) (N := 45) (sl := true) (M := mX11_open) (n := 1) (d := 3) (mc := 0) (ms := 0) (av := [zI v6]) (st := []) A dX11_replaces_54 rfl (by decide) (zk_153 _) zwd1647 zwd1649 zwd56 zwd100 zcd_X11_open (Nat.le_of_ble_eq_true rfl) (Nat.le_of_ble_eq_true rfl) (Nat.le_refl _) ⟨Nat.le_of_ble_eq_true rfl, Nat.le_of_ble_eq_true rfl⟩ ⟨rfl, zhn_X11_open⟩ rfl (Nat.le_of_ble_eq_true rfl) rfl (z_contI (fun v7 μ7 h => ?_) h)
    obtain ⟨oz8, h⟩ := h
    refine z_if_eq (tgt := 111) A dX11_replaces_57 (by decide) oz8 (fun c9 => ?_) (fun c9 => ?_)
    · have h := h.1 c9
      refine s_iinc (L' := [some (zR (some 153)), some (zI x1), some (zI x2), some (zI x3), some (zI x4), some (zI x5), some (zI (x6 + 1))]) A dX11_replaces_111 rfl rfl ?_
      refine s_goto (tgt := 40) A dX11_replaces_114 (by decide) ?_
      exact h
    · have h := h.2 c9
      refine s_aload_n A dX11_replaces_60 rfl ?_
      refine s_iload A dX11_replaces_61 rfl ?_
      refine s_iload_n A dX11_replaces_63 rfl ?_
      refine s_callS (M := mX11_numberOf) (n := 1) (d := 2) (mc := 0) (ms := 0) (av := [zI x2]) (st := [zI x6, zR (some 153)]) A dX11_replaces_64 zwd1671 zwd1672 zwd100 zcd_X11_numberOf (Nat.le_of_ble_eq_true rfl) (Nat.le_of_ble_eq_true rfl) (Nat.le_refl _) ⟨Nat.le_of_ble_eq_true rfl, Nat.le_of_ble_eq_true rfl⟩ zhn_X11_numberOf rfl (Nat.le_of_ble_eq_true rfl) rfl (z_contI (fun v10 μ10 h => ?_) h)
      refine s_callV (a := 153) (k := 11) (N := 45) (sl := true) (M := mX11_between) (n := 2) (d := 3) (mc := 0) (ms := 0) (av := [zI x6, zI v10]) (st := []) A dX11_replaces_67 rfl (by decide) (zk_153 _) zwd1748 zwd1750 zwd72 zwd100 zcd_X11_between (Nat.le_of_ble_eq_true rfl) (Nat.le_of_ble_eq_true rfl) (Nat.le_refl _) ⟨Nat.le_of_ble_eq_true rfl, Nat.le_of_ble_eq_true rfl⟩ ⟨rfl, zhn_X11_between⟩ rfl (Nat.le_of_ble_eq_true rfl) rfl (z_contI (fun v11 μ11 h => ?_) h)
      refine s_iload_n A dX11_replaces_70 rfl ?_
      obtain ⟨oz12, h⟩ := h
      obtain ⟨oz13, h⟩ := h
      refine z_icmp_le (tgt := 77) A dX11_replaces_71 (by decide) oz12 oz13 (fun c14 => ?_) (fun c14 => ?_)
      · have h := h.1 c14
        refine s_iinc (L' := [some (zR (some 153)), some (zI x1), some (zI x2), some (zI x3), some (zI (x4 + 1)), some (zI x5), some (zI x6)]) A dX11_replaces_77 rfl rfl ?_
        refine s_iload A dX11_replaces_80 rfl ?_
        refine s_iconst A dX11_replaces_82 ?_
        obtain ⟨oz15, h⟩ := h
        refine z_icmp_eq (tgt := 104) A dX11_replaces_83 (by decide) oz15 ⟨by decide, by decide⟩ (fun c16 => ?_) (fun c16 => ?_)
        · have h := h.1 c16
          refine s_iload A dX11_replaces_104 rfl ?_
          refine s_callS (M := mX11_codeOf) (n := 1) (d := 0) (mc := 0) (ms := 0) (av := [zI x6]) (st := []) A dX11_replaces_106 zwd1303 zwd1304 zwd100 zcd_X11_codeOf (Nat.le_of_ble_eq_true rfl) (Nat.le_of_ble_eq_true rfl) (Nat.le_refl _) ⟨Nat.le_of_ble_eq_true rfl, Nat.le_of_ble_eq_true rfl⟩ zhn_X11_codeOf rfl (Nat.le_of_ble_eq_true rfl) rfl (z_contI (fun v17 μ17 h => ?_) h)
          refine s_istore (L' := [some (zR (some 153)), some (zI x1), some (zI x2), some (zI x3), some (zI (x4 + 1)), some (zI v17), some (zI x6)]) A dX11_replaces_109 (Nat.le_of_ble_eq_true rfl) rfl ?_
          refine s_iinc (L' := [some (zR (some 153)), some (zI x1), some (zI x2), some (zI x3), some (zI (x4 + 1)), some (zI v17), some (zI (x6 + 1))]) A dX11_replaces_111 rfl rfl ?_
          refine s_goto (tgt := 40) A dX11_replaces_114 (by decide) ?_
          exact h
        · have h := h.2 c16
          refine s_iload_n A dX11_replaces_86 rfl ?_
          refine s_iload A dX11_replaces_87 rfl ?_
          refine s_callS (M := mX11_codeOf) (n := 1) (d := 0) (mc := 0) (ms := 0) (av := [zI x6]) (st := [zI x1]) A dX11_replaces_89 zwd1303 zwd1304 zwd100 zcd_X11_codeOf (Nat.le_of_ble_eq_true rfl) (Nat.le_of_ble_eq_true rfl) (Nat.le_refl _) ⟨Nat.le_of_ble_eq_true rfl, Nat.le_of_ble_eq_true rfl⟩ zhn_X11_codeOf rfl (Nat.le_of_ble_eq_true rfl) rfl (z_contI (fun v18 μ18 h => ?_) h)
          refine s_callS (M := mX11_rankOf) (n := 2) (d := 3) (mc := 0) (ms := 0) (av := [zI x1, zI v18]) (st := []) A dX11_replaces_92 zwd1824 zwd1825 zwd100 zcd_X11_rankOf (Nat.le_of_ble_eq_true rfl) (Nat.le_of_ble_eq_true rfl) (Nat.le_refl _) ⟨Nat.le_of_ble_eq_true rfl, Nat.le_of_ble_eq_true rfl⟩ zhn_X11_rankOf rfl (Nat.le_of_ble_eq_true rfl) rfl (z_contI (fun v19 μ19 h => ?_) h)
          refine s_iload_n A dX11_replaces_95 rfl ?_
          refine s_iload A dX11_replaces_96 rfl ?_
          refine s_callS (M := mX11_rankOf) (n := 2) (d := 3) (mc := 0) (ms := 0) (av := [zI x1, zI x5]) (st := [zI v19]) A dX11_replaces_98 zwd1824 zwd1825 zwd100 zcd_X11_rankOf (Nat.le_of_ble_eq_true rfl) (Nat.le_of_ble_eq_true rfl) (Nat.le_refl _) ⟨Nat.le_of_ble_eq_true rfl, Nat.le_of_ble_eq_true rfl⟩ zhn_X11_rankOf rfl (Nat.le_of_ble_eq_true rfl) rfl (z_contI (fun v20 μ20 h => ?_) h)
          obtain ⟨oz21, h⟩ := h
          obtain ⟨oz22, h⟩ := h
          refine z_icmp_ge (tgt := 111) A dX11_replaces_101 (by decide) oz21 oz22 (fun c23 => ?_) (fun c23 => ?_)
          · have h := h.1 c23
            refine s_iinc (L' := [some (zR (some 153)), some (zI x1), some (zI x2), some (zI x3), some (zI (x4 + 1)), some (zI x5), some (zI (x6 + 1))]) A dX11_replaces_111 rfl rfl ?_
            refine s_goto (tgt := 40) A dX11_replaces_114 (by decide) ?_
            exact h
          · have h := h.2 c23
            refine s_iload A dX11_replaces_104 rfl ?_
            refine s_callS (M := mX11_codeOf) (n := 1) (d := 0) (mc := 0) (ms := 0) (av := [zI x6]) (st := []) A dX11_replaces_106 zwd1303 zwd1304 zwd100 zcd_X11_codeOf (Nat.le_of_ble_eq_true rfl) (Nat.le_of_ble_eq_true rfl) (Nat.le_refl _) ⟨Nat.le_of_ble_eq_true rfl, Nat.le_of_ble_eq_true rfl⟩ zhn_X11_codeOf rfl (Nat.le_of_ble_eq_true rfl) rfl (z_contI (fun v24 μ24 h => ?_) h)
            refine s_istore (L' := [some (zR (some 153)), some (zI x1), some (zI x2), some (zI x3), some (zI (x4 + 1)), some (zI v24), some (zI x6)]) A dX11_replaces_109 (Nat.le_of_ble_eq_true rfl) rfl ?_
            refine s_iinc (L' := [some (zR (some 153)), some (zI x1), some (zI x2), some (zI x3), some (zI (x4 + 1)), some (zI v24), some (zI (x6 + 1))]) A dX11_replaces_111 rfl rfl ?_
            refine s_goto (tgt := 40) A dX11_replaces_114 (by decide) ?_
            exact h
      · have h := h.2 c14
        refine s_goto (tgt := 111) A dX11_replaces_74 (by decide) ?_
        refine s_iinc (L' := [some (zR (some 153)), some (zI x1), some (zI x2), some (zI x3), some (zI x4), some (zI x5), some (zI (x6 + 1))]) A dX11_replaces_111 rfl rfl ?_
        refine s_goto (tgt := 40) A dX11_replaces_114 (by decide) ?_
        exact h
theorem eX11_replaces {G : zG} {F : Int → zM → Prop} {μ : zM} {x1 : Int} {x2 : Int} {x3 : Int} (h : ∀ J, zJ G true (12) 0 0 mX11_replaces (zKI F) J → J 0 ([some (zR (some 153)), some (zI x1), some (zI x2), some (zI x3), none, none, none], [], μ, 0, 0)) : qX11_replaces G x1 x2 x3 μ F :=
  z_body (by decide +kernel) (Nat.le_of_ble_eq_true rfl) h
set_option maxRecDepth 20000 in
theorem rX11_doubt_e {G : zG} {F : Int → zM → Prop} {J : Nat → zS → Prop} {μ : zM} (C : zJ G true (9) 0 0 mX11_doubt (zKI F) J) 
    (h : J 11 ([some (zR (some 153)), some (zI (-1)), some (zI 0), some (zI 0), none, none, none], [], zup μ 153 5 0, 0, 0)) : J 0 ([some (zR (some 153)), none, none, none, none, none, none], [], μ, 0, 0) := by
  obtain ⟨p, e, s, m, args, below, meth, c, A, hml, hr, hlk, hnm, rfl⟩ := C
  refine s_aload_n A dX11_doubt_0 rfl ?_
  refine s_iconst A dX11_doubt_1 ?_
  refine z_putI (k := 11) (j := 5) (sl := true) A dX11_doubt_2 rfl zuw_X11 (Nat.le_of_ble_eq_true rfl) zwd1313 (by decide) (zk_153 _) tyX11 tyX11_ok nmX11 rfl rfl rfl ?_
  refine s_iconst A dX11_doubt_5 ?_
  refine s_istore_n (L' := [some (zR (some 153)), some (zI (-1)), none, none, none, none, none]) A dX11_doubt_6 (Nat.le_of_ble_eq_true rfl) rfl ?_
  refine s_iconst A dX11_doubt_7 ?_
  refine s_istore_n (L' := [some (zR (some 153)), some (zI (-1)), some (zI 0), none, none, none, none]) A dX11_doubt_8 (Nat.le_of_ble_eq_true rfl) rfl ?_
  refine s_iconst A dX11_doubt_9 ?_
  refine s_istore_n (L' := [some (zR (some 153)), some (zI (-1)), some (zI 0), some (zI 0), none, none, none]) A dX11_doubt_10 (Nat.le_of_ble_eq_true rfl) rfl ?_
  exact h
set_option maxRecDepth 20000 in
theorem rX11_doubt_11 {G : zG} {F : Int → zM → Prop} {J : Nat → zS → Prop} {μ : zM} (C : zJ G true (9) 0 0 mX11_doubt (zKI F) J) (x1 : Int) (x2 : Int) (x3 : Int)
    (h : zin x3 ∧ ((81 ≤ x3 → zin x1 ∧ ((¬ x1 = -1 → zin x2 ∧ qX11_tell G x2 (zup μ 153 4 0) (fun μ6 => F x1 μ6)) ∧ (x1 = -1 → F (-2) μ))) ∧ (¬ (81 ≤ x3) → (0 ≤ 243 + x3 ∧ 243 + x3 < 711) ∧ zin (zi μ 154 (243 + x3)) ∧ ((¬ zi μ 154 (243 + x3) = 0 → J 39 ([some (zR (some 153)), some (zI x1), some (zI x2), some (zI x3), some (zI 0), some (zI 0), none], [], μ, 0, 0)) ∧ (zi μ 154 (243 + x3) = 0 → J 11 ([some (zR (some 153)), some (zI x1), some (zI x2), some (zI (x3 + 1)), none, none, none], [], μ, 0, 0)))))) : J 11 ([some (zR (some 153)), some (zI x1), some (zI x2), some (zI x3), none, none, none], [], μ, 0, 0) := by
  obtain ⟨p, e, s, m, args, below, meth, c, A, hml, hr, hlk, hnm, rfl⟩ := C
  refine s_iload_n A dX11_doubt_11 rfl ?_
  refine s_bipush A dX11_doubt_12 rfl ?_
  obtain ⟨oz1, h⟩ := h
  refine z_icmp_ge (tgt := 122) A dX11_doubt_14 (by decide) oz1 ⟨by decide, by decide⟩ (fun c2 => ?_) (fun c2 => ?_)
  · have h := h.1 c2
    refine s_iload_n A dX11_doubt_122 rfl ?_
    refine s_iconst A dX11_doubt_123 ?_
    obtain ⟨oz3, h⟩ := h
    refine z_icmp_ne (tgt := 130) A dX11_doubt_124 (by decide) oz3 ⟨by decide, by decide⟩ (fun c4 => ?_) (fun c4 => ?_)
    · have h := h.1 c4
      refine s_aload_n A dX11_doubt_130 rfl ?_
      refine s_iconst A dX11_doubt_131 ?_
      refine z_putI (k := 11) (j := 4) (sl := true) A dX11_doubt_132 rfl zuw_X11 (Nat.le_of_ble_eq_true rfl) zwd1312 (by decide) (zk_153 _) tyX11 tyX11_ok nmX11 rfl rfl rfl ?_
      refine s_aload_n A dX11_doubt_135 rfl ?_
      refine s_iload_n A dX11_doubt_136 rfl ?_
      obtain ⟨oz5, h⟩ := h
      refine z_i2l2 A dX11_doubt_137 oz5 ?_
      refine s_callV (a := 153) (k := 11) (N := 45) (sl := true) (M := mX11_tell) (n := 1) (d := 0) (mc := 0) (ms := 0) (av := [zL x2]) (st := []) A dX11_doubt_138 rfl (by decide) (zk_153 _) zwd1613 zwd1615 zwd51 zwd100 zcd_X11_tell (Nat.le_of_ble_eq_true rfl) (Nat.le_of_ble_eq_true rfl) (Nat.le_refl _) ⟨Nat.le_of_ble_eq_true rfl, Nat.le_of_ble_eq_true rfl⟩ ⟨rfl, zhn_X11_tell⟩ rfl (Nat.le_of_ble_eq_true rfl) rfl (z_contV (fun μ6 h => ?_) h)
      refine s_iload_n A dX11_doubt_141 rfl ?_
      exact s_iret A dX11_doubt_142 hr hlk (Nat.le_of_ble_eq_true rfl) (Nat.le_of_ble_eq_true rfl) ⟨_, rfl, h⟩
    · have h := h.2 c4
      refine s_bipush A dX11_doubt_127 rfl ?_
      exact s_iret A dX11_doubt_129 hr hlk (Nat.le_of_ble_eq_true rfl) (Nat.le_of_ble_eq_true rfl) ⟨_, rfl, h⟩
  · have h := h.2 c2
    refine s_aload_n A dX11_doubt_17 rfl ?_
    refine s_getf (k := 11) (j := 0) (sl := true) (v := zR (some 154)) A dX11_doubt_18 rfl zuw_X11 (Nat.le_of_ble_eq_true rfl) zwd1308 (by decide) (zk_153 _) rfl ?_
    refine s_sipush A dX11_doubt_21 rfl ?_
    refine s_iload_n A dX11_doubt_24 rfl ?_
    refine s_iadd A dX11_doubt_25 ?_
    obtain ⟨ox7, h⟩ := h
    refine z_iald A dX11_doubt_26 (zk_154 _) (Nat.le_of_ble_eq_true rfl) ox7 ?_
    obtain ⟨oz8, h⟩ := h
    refine z_if_ne (tgt := 33) A dX11_doubt_27 (by decide) oz8 (fun c9 => ?_) (fun c9 => ?_)
    · have h := h.1 c9
      refine s_iconst A dX11_doubt_33 ?_
      refine s_istore (L' := [some (zR (some 153)), some (zI x1), some (zI x2), some (zI x3), some (zI 0), none, none]) A dX11_doubt_34 (Nat.le_of_ble_eq_true rfl) rfl ?_
      refine s_iconst A dX11_doubt_36 ?_
      refine s_istore (L' := [some (zR (some 153)), some (zI x1), some (zI x2), some (zI x3), some (zI 0), some (zI 0), none]) A dX11_doubt_37 (Nat.le_of_ble_eq_true rfl) rfl ?_
      exact h
    · have h := h.2 c9
      refine s_goto (tgt := 116) A dX11_doubt_30 (by decide) ?_
      refine s_iinc (L' := [some (zR (some 153)), some (zI x1), some (zI x2), some (zI (x3 + 1)), none, none, none]) A dX11_doubt_116 rfl rfl ?_
      refine s_goto (tgt := 11) A dX11_doubt_119 (by decide) ?_
      exact h
set_option maxRecDepth 20000 in
theorem rX11_doubt_39 {G : zG} {F : Int → zM → Prop} {J : Nat → zS → Prop} {μ : zM} (C : zJ G true (9) 0 0 mX11_doubt (zKI F) J) (x1 : Int) (x2 : Int) (x3 : Int) (x4 : Int) (x5 : Int)
    (h : zin x5 ∧ ((3 ≤ x5 → zin x1 ∧ ((x1 = -1 → J 11 ([some (zR (some 153)), some (zI x3), some (zI x4), some (zI (x3 + 1)), none, none, none], [], μ, 0, 0)) ∧ (¬ (x1 = -1) → zin x4 ∧ zin x2 ∧ ((x2 < x4 → J 11 ([some (zR (some 153)), some (zI x3), some (zI x4), some (zI (x3 + 1)), none, none, none], [], μ, 0, 0)) ∧ (¬ (x2 < x4) → J 11 ([some (zR (some 153)), some (zI x1), some (zI x2), some (zI (x3 + 1)), none, none, none], [], μ, 0, 0)))))) ∧ (¬ (3 ≤ x5) → (0 ≤ (3 * x3) + x5 ∧ (3 * x3) + x5 < 711) ∧ qX11_reckoned G 154 x3 x5 μ (fun v9 μ9 => (0 ≤ 708 + x5 ∧ 708 + x5 < 711) ∧ J 39 ([some (zR (some 153)), some (zI x1), some (zI x2), some (zI x3), some (zI (x4 + (((zi μ9 154 (708 + x5)) * ((zi μ 154 ((3 * x3) + x5)) - v9)) * ((zi μ 154 ((3 * x3) + x5)) - v9)))), some (zI (x5 + 1)), none], [], μ9, 0, 0))))) : J 39 ([some (zR (some 153)), some (zI x1), some (zI x2), some (zI x3), some (zI x4), some (zI x5), none], [], μ, 0, 0) := by
  obtain ⟨p, e, s, m, args, below, meth, c, A, hml, hr, hlk, hnm, rfl⟩ := C
  refine s_iload A dX11_doubt_39 rfl ?_
  refine s_iconst A dX11_doubt_41 ?_
  obtain ⟨oz1, h⟩ := h
  refine z_icmp_ge (tgt := 97) A dX11_doubt_42 (by decide) oz1 ⟨by decide, by decide⟩ (fun c2 => ?_) (fun c2 => ?_)
  · have h := h.1 c2
    refine s_iload_n A dX11_doubt_97 rfl ?_
    refine s_iconst A dX11_doubt_98 ?_
    obtain ⟨oz3, h⟩ := h
    refine z_icmp_eq (tgt := 111) A dX11_doubt_99 (by decide) oz3 ⟨by decide, by decide⟩ (fun c4 => ?_) (fun c4 => ?_)
    · have h := h.1 c4
      refine s_iload_n A dX11_doubt_111 rfl ?_
      refine s_istore_n (L' := [some (zR (some 153)), some (zI x3), some (zI x2), some (zI x3), some (zI x4), some (zI x5), none]) A dX11_doubt_112 (Nat.le_of_ble_eq_true rfl) rfl ?_
      refine s_iload A dX11_doubt_113 rfl ?_
      refine s_istore_n (L' := [some (zR (some 153)), some (zI x3), some (zI x4), some (zI x3), some (zI x4), some (zI x5), none]) A dX11_doubt_115 (Nat.le_of_ble_eq_true rfl) rfl ?_
      refine s_iinc (L' := [some (zR (some 153)), some (zI x3), some (zI x4), some (zI (x3 + 1)), some (zI x4), some (zI x5), none]) A dX11_doubt_116 rfl rfl ?_
      refine s_goto (tgt := 11) A dX11_doubt_119 (by decide) ?_
      exact z_wk (L' := [some (zR (some 153)), some (zI x3), some (zI x4), some (zI (x3 + 1)), none, none, none]) ⟨rfl, rfl, rfl, rfl, trivial⟩ h
    · have h := h.2 c4
      refine s_iload A dX11_doubt_102 rfl ?_
      refine s_iload_n A dX11_doubt_104 rfl ?_
      obtain ⟨oz5, h⟩ := h
      obtain ⟨oz6, h⟩ := h
      refine z_icmp_gt (tgt := 111) A dX11_doubt_105 (by decide) oz5 oz6 (fun c7 => ?_) (fun c7 => ?_)
      · have h := h.1 c7
        refine s_iload_n A dX11_doubt_111 rfl ?_
        refine s_istore_n (L' := [some (zR (some 153)), some (zI x3), some (zI x2), some (zI x3), some (zI x4), some (zI x5), none]) A dX11_doubt_112 (Nat.le_of_ble_eq_true rfl) rfl ?_
        refine s_iload A dX11_doubt_113 rfl ?_
        refine s_istore_n (L' := [some (zR (some 153)), some (zI x3), some (zI x4), some (zI x3), some (zI x4), some (zI x5), none]) A dX11_doubt_115 (Nat.le_of_ble_eq_true rfl) rfl ?_
        refine s_iinc (L' := [some (zR (some 153)), some (zI x3), some (zI x4), some (zI (x3 + 1)), some (zI x4), some (zI x5), none]) A dX11_doubt_116 rfl rfl ?_
        refine s_goto (tgt := 11) A dX11_doubt_119 (by decide) ?_
        exact z_wk (L' := [some (zR (some 153)), some (zI x3), some (zI x4), some (zI (x3 + 1)), none, none, none]) ⟨rfl, rfl, rfl, rfl, trivial⟩ h
      · have h := h.2 c7
        refine s_goto (tgt := 116) A dX11_doubt_108 (by decide) ?_
        refine s_iinc (L' := [some (zR (some 153)), some (zI x1), some (zI x2), some (zI (x3 + 1)), some (zI x4), some (zI x5), none]) A dX11_doubt_116 rfl rfl ?_
        refine s_goto (tgt := 11) A dX11_doubt_119 (by decide) ?_
        exact z_wk (L' := [some (zR (some 153)), some (zI x1), some (zI x2), some (zI (x3 + 1)), none, none, none]) ⟨rfl, rfl, rfl, rfl, trivial⟩ h
  · have h := h.2 c2
    refine s_aload_n A dX11_doubt_45 rfl ?_
    refine s_getf (k := 11) (j := 0) (sl := true) (v := zR (some 154)) A dX11_doubt_46 rfl zuw_X11 (Nat.le_of_ble_eq_true rfl) zwd1308 (by decide) (zk_153 _) rfl ?_
    refine s_iconst A dX11_doubt_49 ?_
    refine s_iload_n A dX11_doubt_50 rfl ?_
    refine s_imul A dX11_doubt_51 ?_
    refine s_iload A dX11_doubt_52 rfl ?_
    refine s_iadd A dX11_doubt_54 ?_
    obtain ⟨ox8, h⟩ := h
    refine z_iald A dX11_doubt_55 (zk_154 _) (Nat.le_of_ble_eq_true rfl) ox8 ?_
    refine s_aload_n A dX11_doubt_56 rfl ?_
    refine s_getf (k := 11) (j := 0) (sl := true) (v := zR (some 154)) A dX11_doubt_57 rfl zuw_X11 (Nat.le_of_ble_eq_true rfl) zwd1308 (by decide) (zk_153 _) rfl ?_
    refine s_iload_n A dX11_doubt_60 rfl ?_
    refine s_iload A dX11_doubt_61 rfl ?_
    refine s_callS (M := mX11_reckoned) (n := 3) (d := 8) (mc := 0) (ms := 0) (av := [zR (some 154), zI x3, zI x5]) (st := [zI (zi μ 154 ((3 * x3) + x5))]) A dX11_doubt_63 zwd1569 zwd1570 zwd100 zcd_X11_reckoned (Nat.le_of_ble_eq_true rfl) (Nat.le_of_ble_eq_true rfl) (Nat.le_refl _) ⟨Nat.le_of_ble_eq_true rfl, Nat.le_of_ble_eq_true rfl⟩ zhn_X11_reckoned rfl (Nat.le_of_ble_eq_true rfl) rfl (z_contI (fun v9 μ9 h => ?_) h)
    refine s_isub A dX11_doubt_66 ?_
    refine s_istore (L' := [some (zR (some 153)), some (zI x1), some (zI x2), some (zI x3), some (zI x4), some (zI x5), some (zI ((zi μ 154 ((3 * x3) + x5)) - v9))]) A dX11_doubt_67 (Nat.le_of_ble_eq_true rfl) rfl ?_
    refine s_iload A dX11_doubt_69 rfl ?_
    refine s_aload_n A dX11_doubt_71 rfl ?_
    refine s_getf (k := 11) (j := 0) (sl := true) (v := zR (some 154)) A dX11_doubt_72 rfl zuw_X11 (Nat.le_of_ble_eq_true rfl) zwd1308 (by decide) (zk_153 _) rfl ?_
    refine s_sipush A dX11_doubt_75 rfl ?_
    refine s_iload A dX11_doubt_78 rfl ?_
    refine s_iadd A dX11_doubt_80 ?_
    obtain ⟨ox10, h⟩ := h
    refine z_iald A dX11_doubt_81 (zk_154 _) (Nat.le_of_ble_eq_true rfl) ox10 ?_
    refine s_iload A dX11_doubt_82 rfl ?_
    refine s_imul A dX11_doubt_84 ?_
    refine s_iload A dX11_doubt_85 rfl ?_
    refine s_imul A dX11_doubt_87 ?_
    refine s_iadd A dX11_doubt_88 ?_
    refine s_istore (L' := [some (zR (some 153)), some (zI x1), some (zI x2), some (zI x3), some (zI (x4 + (((zi μ9 154 (708 + x5)) * ((zi μ 154 ((3 * x3) + x5)) - v9)) * ((zi μ 154 ((3 * x3) + x5)) - v9)))), some (zI x5), some (zI ((zi μ 154 ((3 * x3) + x5)) - v9))]) A dX11_doubt_89 (Nat.le_of_ble_eq_true rfl) rfl ?_
    refine s_iinc (L' := [some (zR (some 153)), some (zI x1), some (zI x2), some (zI x3), some (zI (x4 + (((zi μ9 154 (708 + x5)) * ((zi μ 154 ((3 * x3) + x5)) - v9)) * ((zi μ 154 ((3 * x3) + x5)) - v9)))), some (zI (x5 + 1)), some (zI ((zi μ 154 ((3 * x3) + x5)) - v9))]) A dX11_doubt_91 rfl rfl ?_
    refine s_goto (tgt := 39) A dX11_doubt_94 (by decide) ?_
    exact z_wk (L' := [some (zR (some 153)), some (zI x1), some (zI x2), some (zI x3), some (zI (x4 + (((zi μ9 154 (708 + x5)) * ((zi μ 154 ((3 * x3) + x5)) - v9)) * ((zi μ 154 ((3 * x3) + x5)) - v9)))), some (zI (x5 + 1)), none]) ⟨rfl, rfl, rfl, rfl, rfl, rfl, trivial⟩ h
theorem eX11_doubt {G : zG} {F : Int → zM → Prop} {μ : zM}  (h : ∀ J, zJ G true (9) 0 0 mX11_doubt (zKI F) J → J 0 ([some (zR (some 153)), none, none, none, none, none, none], [], μ, 0, 0)) : qX11_doubt G  μ F :=
  z_body (by decide +kernel) (Nat.le_of_ble_eq_true rfl) h
set_option maxRecDepth 20000 in
theorem rX11_asks_e {G : zG} {F : Int → zM → Prop} {J : Nat → zS → Prop} {μ : zM} (C : zJ G true (4) 0 0 mX11_asks (zKI F) J) 
    (h : J 7 ([some (zR (some 153)), some (zI 0), none], [], zup μ 153 5 0, 0, 0)) : J 0 ([some (zR (some 153)), none, none], [], μ, 0, 0) := by
  obtain ⟨p, e, s, m, args, below, meth, c, A, hml, hr, hlk, hnm, rfl⟩ := C
  refine s_aload_n A dX11_asks_0 rfl ?_
  refine s_iconst A dX11_asks_1 ?_
  refine z_putI (k := 11) (j := 5) (sl := true) A dX11_asks_2 rfl zuw_X11 (Nat.le_of_ble_eq_true rfl) zwd1313 (by decide) (zk_153 _) tyX11 tyX11_ok nmX11 rfl rfl rfl ?_
  refine s_iconst A dX11_asks_5 ?_
  refine s_istore_n (L' := [some (zR (some 153)), some (zI 0), none]) A dX11_asks_6 (Nat.le_of_ble_eq_true rfl) rfl ?_
  exact h
set_option maxRecDepth 20000 in
theorem rX11_asks_7 {G : zG} {F : Int → zM → Prop} {J : Nat → zS → Prop} {μ : zM} (C : zJ G true (4) 0 0 mX11_asks (zKI F) J) (x1 : Int)
    (h : zin x1 ∧ ((81 ≤ x1 → J 28 ([some (zR (some 153)), some (zI 0), none], [], μ, 0, 0)) ∧ (¬ (81 ≤ x1) → (0 ≤ x1 ∧ x1 < 81) ∧ J 7 ([some (zR (some 153)), some (zI (x1 + 1)), none], [], zup μ 173 x1 0, 0, 0)))) : J 7 ([some (zR (some 153)), some (zI x1), none], [], μ, 0, 0) := by
  obtain ⟨p, e, s, m, args, below, meth, c, A, hml, hr, hlk, hnm, rfl⟩ := C
  refine s_iload_n A dX11_asks_7 rfl ?_
  refine s_bipush A dX11_asks_8 rfl ?_
  obtain ⟨oz1, h⟩ := h
  refine z_icmp_ge (tgt := 26) A dX11_asks_10 (by decide) oz1 ⟨by decide, by decide⟩ (fun c2 => ?_) (fun c2 => ?_)
  · have h := h.1 c2
    refine s_iconst A dX11_asks_26 ?_
    refine s_istore_n (L' := [some (zR (some 153)), some (zI 0), none]) A dX11_asks_27 (Nat.le_of_ble_eq_true rfl) rfl ?_
    exact h
  · have h := h.2 c2
    refine s_aload_n A dX11_asks_13 rfl ?_
    refine s_getf (k := 11) (j := 35) (sl := true) (v := zR (some 173)) A dX11_asks_14 rfl zuw_X11 (Nat.le_of_ble_eq_true rfl) zwd1343 (by decide) (zk_153 _) rfl ?_
    refine s_iload_n A dX11_asks_17 rfl ?_
    refine s_iconst A dX11_asks_18 ?_
    obtain ⟨ox3, h⟩ := h
    refine z_iast A dX11_asks_19 (zk_173 _) (Nat.le_of_ble_eq_true rfl) ox3 ?_
    refine s_iinc (L' := [some (zR (some 153)), some (zI (x1 + 1)), none]) A dX11_asks_20 rfl rfl ?_
    refine s_goto (tgt := 7) A dX11_asks_23 (by decide) ?_
    exact h
set_option maxRecDepth 20000 in
theorem rX11_asks_28 {G : zG} {F : Int → zM → Prop} {J : Nat → zS → Prop} {μ : zM} (C : zJ G true (4) 0 0 mX11_asks (zKI F) J) (x1 : Int)
    (h : zin x1 ∧ ((6561 ≤ x1 → J 104 ([some (zR (some 153)), some (zI (-1)), some (zI 0)], [], μ, 0, 0)) ∧ (¬ (6561 ≤ x1) → qX11_codeOf G true x1 μ (fun v3 μ3 => qX11_open G v3 μ3 (fun v4 μ4 => zin v4 ∧ ((¬ v4 = 0 → qX11_codeOf G true x1 μ4 (fun v7 μ7 => qX11_layWay G v7 μ7 (fun μ8 => J 59 ([some (zR (some 153)), some (zI x1), some (zI 0)], [], μ8, 0, 0)))) ∧ (v4 = 0 → J 28 ([some (zR (some 153)), some (zI (x1 + 1)), none], [], μ4, 0, 0)))))))) : J 28 ([some (zR (some 153)), some (zI x1), none], [], μ, 0, 0) := by
  obtain ⟨p, e, s, m, args, below, meth, c, A, hml, hr, hlk, hnm, rfl⟩ := C
  refine s_iload_n A dX11_asks_28 rfl ?_
  refine s_sipush A dX11_asks_29 rfl ?_
  obtain ⟨oz1, h⟩ := h
  refine z_icmp_ge (tgt := 100) A dX11_asks_32 (by decide) oz1 ⟨by decide, by decide⟩ (fun c2 => ?_) (fun c2 => ?_)
  · have h := h.1 c2
    refine s_iconst A dX11_asks_100 ?_
    refine s_istore_n (L' := [some (zR (some 153)), some (zI (-1)), none]) A dX11_asks_101 (Nat.le_of_ble_eq_true rfl) rfl ?_
    refine s_iconst A dX11_asks_102 ?_
    refine s_istore_n (L' := [some (zR (some 153)), some (zI (-1)), some (zI 0)]) A dX11_asks_103 (Nat.le_of_ble_eq_true rfl) rfl ?_
    exact h
  · have h := h.2 c2
    refine s_aload_n A dX11_asks_35 rfl ?_
    refine s_iload_n A dX11_asks_36 rfl ?_
    refine s_callS (M := mX11_codeOf) (n := 1) (d := 0) (mc := 0) (ms := 0) (av := [zI x1]) (st := [zR (some 153)]) A dX11_asks_37 zwd1303 zwd1304 zwd100 zcd_X11_codeOf (Nat.le_of_ble_eq_true rfl) (Nat.le_of_ble_eq_true rfl) (Nat.le_refl _) ⟨Nat.le_of_ble_eq_true rfl, Nat.le_of_ble_eq_true rfl⟩ zhn_X11_codeOf rfl (Nat.le_of_ble_eq_true rfl) rfl (z_contI (fun v3 μ3 h => ?_) h)
    refine s_callV (a := 153) (k := 11) (N := 45) (sl := true) (M := mX11_open) (n := 1) (d := 3) (mc := 0) (ms := 0) (av := [zI v3]) (st := []) A dX11_asks_40 rfl (by decide) (zk_153 _) zwd1647 zwd1649 zwd56 zwd100 zcd_X11_open (Nat.le_of_ble_eq_true rfl) (Nat.le_of_ble_eq_true rfl) (Nat.le_refl _) ⟨Nat.le_of_ble_eq_true rfl, Nat.le_of_ble_eq_true rfl⟩ ⟨rfl, zhn_X11_open⟩ rfl (Nat.le_of_ble_eq_true rfl) rfl (z_contI (fun v4 μ4 h => ?_) h)
    obtain ⟨oz5, h⟩ := h
    refine z_if_ne (tgt := 49) A dX11_asks_43 (by decide) oz5 (fun c6 => ?_) (fun c6 => ?_)
    · have h := h.1 c6
      refine s_aload_n A dX11_asks_49 rfl ?_
      refine s_iload_n A dX11_asks_50 rfl ?_
      refine s_callS (M := mX11_codeOf) (n := 1) (d := 0) (mc := 0) (ms := 0) (av := [zI x1]) (st := [zR (some 153)]) A dX11_asks_51 zwd1303 zwd1304 zwd100 zcd_X11_codeOf (Nat.le_of_ble_eq_true rfl) (Nat.le_of_ble_eq_true rfl) (Nat.le_refl _) ⟨Nat.le_of_ble_eq_true rfl, Nat.le_of_ble_eq_true rfl⟩ zhn_X11_codeOf rfl (Nat.le_of_ble_eq_true rfl) rfl (z_contI (fun v7 μ7 h => ?_) h)
      refine s_callV (a := 153) (k := 11) (N := 45) (sl := true) (M := mX11_layWay) (n := 1) (d := 2) (mc := 0) (ms := 0) (av := [zI v7]) (st := []) A dX11_asks_54 rfl (by decide) (zk_153 _) zwd1606 zwd1608 zwd50 zwd100 zcd_X11_layWay (Nat.le_of_ble_eq_true rfl) (Nat.le_of_ble_eq_true rfl) (Nat.le_refl _) ⟨Nat.le_of_ble_eq_true rfl, Nat.le_of_ble_eq_true rfl⟩ ⟨rfl, zhn_X11_layWay⟩ rfl (Nat.le_of_ble_eq_true rfl) rfl (z_contV (fun μ8 h => ?_) h)
      refine s_iconst A dX11_asks_57 ?_
      refine s_istore_n (L' := [some (zR (some 153)), some (zI x1), some (zI 0)]) A dX11_asks_58 (Nat.le_of_ble_eq_true rfl) rfl ?_
      exact h
    · have h := h.2 c6
      refine s_goto (tgt := 94) A dX11_asks_46 (by decide) ?_
      refine s_iinc (L' := [some (zR (some 153)), some (zI (x1 + 1)), none]) A dX11_asks_94 rfl rfl ?_
      refine s_goto (tgt := 28) A dX11_asks_97 (by decide) ?_
      exact h
set_option maxRecDepth 20000 in
theorem rX11_asks_59 {G : zG} {F : Int → zM → Prop} {J : Nat → zS → Prop} {μ : zM} (C : zJ G true (4) 0 0 mX11_asks (zKI F) J) (x1 : Int) (x2 : Int)
    (h : zin x2 ∧ ((4 < x2 → J 28 ([some (zR (some 153)), some (zI (x1 + 1)), none], [], μ, 0, 0)) ∧ (¬ (4 < x2) → (0 ≤ x2 ∧ x2 < 5) ∧ zin (zi μ 161 x2) ∧ ((zi μ 161 x2 ≤ 0 → J 59 ([some (zR (some 153)), some (zI x1), some (zI (x2 + 1))], [], μ, 0, 0)) ∧ (¬ (zi μ 161 x2 ≤ 0) → (0 ≤ zi μ 160 x2 ∧ zi μ 160 x2 < 81) ∧ J 59 ([some (zR (some 153)), some (zI x1), some (zI (x2 + 1))], [], zup μ 173 (zi μ 160 x2) ((zi μ 173 (zi μ 160 x2)) + 1), 0, 0)))))) : J 59 ([some (zR (some 153)), some (zI x1), some (zI x2)], [], μ, 0, 0) := by
  obtain ⟨p, e, s, m, args, below, meth, c, A, hml, hr, hlk, hnm, rfl⟩ := C
  refine s_iload_n A dX11_asks_59 rfl ?_
  refine s_iconst A dX11_asks_60 ?_
  obtain ⟨oz1, h⟩ := h
  refine z_icmp_gt (tgt := 94) A dX11_asks_61 (by decide) oz1 ⟨by decide, by decide⟩ (fun c2 => ?_) (fun c2 => ?_)
  · have h := h.1 c2
    refine s_iinc (L' := [some (zR (some 153)), some (zI (x1 + 1)), some (zI x2)]) A dX11_asks_94 rfl rfl ?_
    refine s_goto (tgt := 28) A dX11_asks_97 (by decide) ?_
    exact z_wk (L' := [some (zR (some 153)), some (zI (x1 + 1)), none]) ⟨rfl, rfl, trivial⟩ h
  · have h := h.2 c2
    refine s_aload_n A dX11_asks_64 rfl ?_
    refine s_getf (k := 11) (j := 15) (sl := true) (v := zR (some 161)) A dX11_asks_65 rfl zuw_X11 (Nat.le_of_ble_eq_true rfl) zwd1323 (by decide) (zk_153 _) rfl ?_
    refine s_iload_n A dX11_asks_68 rfl ?_
    obtain ⟨ox3, h⟩ := h
    refine z_iald A dX11_asks_69 (zk_161 _) (Nat.le_of_ble_eq_true rfl) ox3 ?_
    obtain ⟨oz4, h⟩ := h
    refine z_if_le (tgt := 88) A dX11_asks_70 (by decide) oz4 (fun c5 => ?_) (fun c5 => ?_)
    · have h := h.1 c5
      refine s_iinc (L' := [some (zR (some 153)), some (zI x1), some (zI (x2 + 1))]) A dX11_asks_88 rfl rfl ?_
      refine s_goto (tgt := 59) A dX11_asks_91 (by decide) ?_
      exact h
    · have h := h.2 c5
      refine s_aload_n A dX11_asks_73 rfl ?_
      refine s_getf (k := 11) (j := 35) (sl := true) (v := zR (some 173)) A dX11_asks_74 rfl zuw_X11 (Nat.le_of_ble_eq_true rfl) zwd1343 (by decide) (zk_153 _) rfl ?_
      refine s_aload_n A dX11_asks_77 rfl ?_
      refine s_getf (k := 11) (j := 14) (sl := true) (v := zR (some 160)) A dX11_asks_78 rfl zuw_X11 (Nat.le_of_ble_eq_true rfl) zwd1322 (by decide) (zk_153 _) rfl ?_
      refine s_iload_n A dX11_asks_81 rfl ?_
      refine z_iald A dX11_asks_82 (zk_160 _) (Nat.le_of_ble_eq_true rfl) ox3 ?_
      refine s_dup2 A dX11_asks_83 rfl rfl ?_
      obtain ⟨ox6, h⟩ := h
      refine z_iald A dX11_asks_84 (zk_173 _) (Nat.le_of_ble_eq_true rfl) ox6 ?_
      refine s_iconst A dX11_asks_85 ?_
      refine s_iadd A dX11_asks_86 ?_
      refine z_iast A dX11_asks_87 (zk_173 _) (Nat.le_of_ble_eq_true rfl) ox6 ?_
      refine s_iinc (L' := [some (zR (some 153)), some (zI x1), some (zI (x2 + 1))]) A dX11_asks_88 rfl rfl ?_
      refine s_goto (tgt := 59) A dX11_asks_91 (by decide) ?_
      exact h
set_option maxRecDepth 20000 in
theorem rX11_asks_104 {G : zG} {F : Int → zM → Prop} {J : Nat → zS → Prop} {μ : zM} (C : zJ G true (4) 0 0 mX11_asks (zKI F) J) (x1 : Int) (x2 : Int)
    (h : zin x2 ∧ ((81 ≤ x2 → zin x1 ∧ ((¬ x1 = -1 → (0 ≤ x1 ∧ x1 < 81) ∧ zin (zi (zup μ 153 4 0) 173 x1) ∧ qX11_tell G (zi (zup μ 153 4 0) 173 x1) (zup μ 153 4 0) (fun μ7 => F x1 μ7)) ∧ (x1 = -1 → F (-2) μ))) ∧ (¬ (81 ≤ x2) → qX11_isPlain G true x2 μ (fun v8 μ8 => zin v8 ∧ ((¬ v8 = 0 → J 104 ([some (zR (some 153)), some (zI x1), some (zI (x2 + 1))], [], μ8, 0, 0)) ∧ (v8 = 0 → (0 ≤ 243 + x2 ∧ 243 + x2 < 711) ∧ zin (zi μ8 154 (243 + x2)) ∧ ((¬ zi μ8 154 (243 + x2) = 1 → zin x1 ∧ ((x1 = -1 → J 104 ([some (zR (some 153)), some (zI x2), some (zI (x2 + 1))], [], μ8, 0, 0)) ∧ (¬ (x1 = -1) → (0 ≤ x2 ∧ x2 < 81) ∧ (0 ≤ x1 ∧ x1 < 81) ∧ zin (zi μ8 173 x2) ∧ zin (zi μ8 173 x1) ∧ ((zi μ8 173 x2 ≤ zi μ8 173 x1 → J 104 ([some (zR (some 153)), some (zI x1), some (zI (x2 + 1))], [], μ8, 0, 0)) ∧ (¬ (zi μ8 173 x2 ≤ zi μ8 173 x1) → J 104 ([some (zR (some 153)), some (zI x2), some (zI (x2 + 1))], [], μ8, 0, 0)))))) ∧ (zi μ8 154 (243 + x2) = 1 → J 104 ([some (zR (some 153)), some (zI x1), some (zI (x2 + 1))], [], μ8, 0, 0))))))))) : J 104 ([some (zR (some 153)), some (zI x1), some (zI x2)], [], μ, 0, 0) := by
  obtain ⟨p, e, s, m, args, below, meth, c, A, hml, hr, hlk, hnm, rfl⟩ := C
  refine s_iload_n A dX11_asks_104 rfl ?_
  refine s_bipush A dX11_asks_105 rfl ?_
  obtain ⟨oz1, h⟩ := h
  refine z_icmp_ge (tgt := 162) A dX11_asks_107 (by decide) oz1 ⟨by decide, by decide⟩ (fun c2 => ?_) (fun c2 => ?_)
  · have h := h.1 c2
    refine s_iload_n A dX11_asks_162 rfl ?_
    refine s_iconst A dX11_asks_163 ?_
    obtain ⟨oz3, h⟩ := h
    refine z_icmp_ne (tgt := 170) A dX11_asks_164 (by decide) oz3 ⟨by decide, by decide⟩ (fun c4 => ?_) (fun c4 => ?_)
    · have h := h.1 c4
      refine s_aload_n A dX11_asks_170 rfl ?_
      refine s_iconst A dX11_asks_171 ?_
      refine z_putI (k := 11) (j := 4) (sl := true) A dX11_asks_172 rfl zuw_X11 (Nat.le_of_ble_eq_true rfl) zwd1312 (by decide) (zk_153 _) tyX11 tyX11_ok nmX11 rfl rfl rfl ?_
      refine s_aload_n A dX11_asks_175 rfl ?_
      refine s_aload_n A dX11_asks_176 rfl ?_
      refine s_getf (k := 11) (j := 35) (sl := true) (v := zR (some 173)) A dX11_asks_177 rfl zuw_X11 (Nat.le_of_ble_eq_true rfl) zwd1343 (by decide) (zk_153 _) rfl ?_
      refine s_iload_n A dX11_asks_180 rfl ?_
      obtain ⟨ox5, h⟩ := h
      refine z_iald A dX11_asks_181 (zk_173 _) (Nat.le_of_ble_eq_true rfl) ox5 ?_
      obtain ⟨oz6, h⟩ := h
      refine z_i2l2 A dX11_asks_182 oz6 ?_
      refine s_callV (a := 153) (k := 11) (N := 45) (sl := true) (M := mX11_tell) (n := 1) (d := 0) (mc := 0) (ms := 0) (av := [zL (zi (zup μ 153 4 0) 173 x1)]) (st := []) A dX11_asks_183 rfl (by decide) (zk_153 _) zwd1613 zwd1615 zwd51 zwd100 zcd_X11_tell (Nat.le_of_ble_eq_true rfl) (Nat.le_of_ble_eq_true rfl) (Nat.le_refl _) ⟨Nat.le_of_ble_eq_true rfl, Nat.le_of_ble_eq_true rfl⟩ ⟨rfl, zhn_X11_tell⟩ rfl (Nat.le_of_ble_eq_true rfl) rfl (z_contV (fun μ7 h => ?_) h)
      refine s_iload_n A dX11_asks_186 rfl ?_
      exact s_iret A dX11_asks_187 hr hlk (Nat.le_of_ble_eq_true rfl) (Nat.le_of_ble_eq_true rfl) ⟨_, rfl, h⟩
    · have h := h.2 c4
      refine s_bipush A dX11_asks_167 rfl ?_
      exact s_iret A dX11_asks_169 hr hlk (Nat.le_of_ble_eq_true rfl) (Nat.le_of_ble_eq_true rfl) ⟨_, rfl, h⟩
  · have h := h.2 c2
    refine s_iload_n A dX11_asks_110 rfl ?_
    refine s_callS (M := mX11_isPlain) (n := 1) (d := 2) (mc := 0) (ms := 0) (av := [zI x2]) (st := []) A dX11_asks_111 zwd1511 zwd1512 zwd100 zcd_X11_isPlain (Nat.le_of_ble_eq_true rfl) (Nat.le_of_ble_eq_true rfl) (Nat.le_refl _) ⟨Nat.le_of_ble_eq_true rfl, Nat.le_of_ble_eq_true rfl⟩ zhn_X11_isPlain rfl (Nat.le_of_ble_eq_true rfl) rfl (z_contI (fun v8 μ8 h => ?_) h)
    obtain ⟨oz9, h⟩ := h
    refine z_if_ne (tgt := 156) A dX11_asks_114 (by decide) oz9 (fun c10 => ?_) (fun c10 => ?_)
    · have h := h.1 c10
      refine s_iinc (L' := [some (zR (some 153)), some (zI x1), some (zI (x2 + 1))]) A dX11_asks_156 rfl rfl ?_
      refine s_goto (tgt := 104) A dX11_asks_159 (by decide) ?_
      exact h
    · have h := h.2 c10
      refine s_aload_n A dX11_asks_117 rfl ?_
      refine s_getf (k := 11) (j := 0) (sl := true) (v := zR (some 154)) A dX11_asks_118 rfl zuw_X11 (Nat.le_of_ble_eq_true rfl) zwd1308 (by decide) (zk_153 _) rfl ?_
      refine s_sipush A dX11_asks_121 rfl ?_
      refine s_iload_n A dX11_asks_124 rfl ?_
      refine s_iadd A dX11_asks_125 ?_
      obtain ⟨ox11, h⟩ := h
      refine z_iald A dX11_asks_126 (zk_154 _) (Nat.le_of_ble_eq_true rfl) ox11 ?_
      refine s_iconst A dX11_asks_127 ?_
      obtain ⟨oz12, h⟩ := h
      refine z_icmp_ne (tgt := 134) A dX11_asks_128 (by decide) oz12 ⟨by decide, by decide⟩ (fun c13 => ?_) (fun c13 => ?_)
      · have h := h.1 c13
        refine s_iload_n A dX11_asks_134 rfl ?_
        refine s_iconst A dX11_asks_135 ?_
        obtain ⟨oz14, h⟩ := h
        refine z_icmp_eq (tgt := 154) A dX11_asks_136 (by decide) oz14 ⟨by decide, by decide⟩ (fun c15 => ?_) (fun c15 => ?_)
        · have h := h.1 c15
          refine s_iload_n A dX11_asks_154 rfl ?_
          refine s_istore_n (L' := [some (zR (some 153)), some (zI x2), some (zI x2)]) A dX11_asks_155 (Nat.le_of_ble_eq_true rfl) rfl ?_
          refine s_iinc (L' := [some (zR (some 153)), some (zI x2), some (zI (x2 + 1))]) A dX11_asks_156 rfl rfl ?_
          refine s_goto (tgt := 104) A dX11_asks_159 (by decide) ?_
          exact h
        · have h := h.2 c15
          refine s_aload_n A dX11_asks_139 rfl ?_
          refine s_getf (k := 11) (j := 35) (sl := true) (v := zR (some 173)) A dX11_asks_140 rfl zuw_X11 (Nat.le_of_ble_eq_true rfl) zwd1343 (by decide) (zk_153 _) rfl ?_
          refine s_iload_n A dX11_asks_143 rfl ?_
          obtain ⟨ox16, h⟩ := h
          refine z_iald A dX11_asks_144 (zk_173 _) (Nat.le_of_ble_eq_true rfl) ox16 ?_
          refine s_aload_n A dX11_asks_145 rfl ?_
          refine s_getf (k := 11) (j := 35) (sl := true) (v := zR (some 173)) A dX11_asks_146 rfl zuw_X11 (Nat.le_of_ble_eq_true rfl) zwd1343 (by decide) (zk_153 _) rfl ?_
          refine s_iload_n A dX11_asks_149 rfl ?_
          obtain ⟨ox17, h⟩ := h
          refine z_iald A dX11_asks_150 (zk_173 _) (Nat.le_of_ble_eq_true rfl) ox17 ?_
          obtain ⟨oz18, h⟩ := h
          obtain ⟨oz19, h⟩ := h
          refine z_icmp_le (tgt := 156) A dX11_asks_151 (by decide) oz18 oz19 (fun c20 => ?_) (fun c20 => ?_)
          · have h := h.1 c20
            refine s_iinc (L' := [some (zR (some 153)), some (zI x1), some (zI (x2 + 1))]) A dX11_asks_156 rfl rfl ?_
            refine s_goto (tgt := 104) A dX11_asks_159 (by decide) ?_
            exact h
          · have h := h.2 c20
            refine s_iload_n A dX11_asks_154 rfl ?_
            refine s_istore_n (L' := [some (zR (some 153)), some (zI x2), some (zI x2)]) A dX11_asks_155 (Nat.le_of_ble_eq_true rfl) rfl ?_
            refine s_iinc (L' := [some (zR (some 153)), some (zI x2), some (zI (x2 + 1))]) A dX11_asks_156 rfl rfl ?_
            refine s_goto (tgt := 104) A dX11_asks_159 (by decide) ?_
            exact h
      · have h := h.2 c13
        refine s_goto (tgt := 156) A dX11_asks_131 (by decide) ?_
        refine s_iinc (L' := [some (zR (some 153)), some (zI x1), some (zI (x2 + 1))]) A dX11_asks_156 rfl rfl ?_
        refine s_goto (tgt := 104) A dX11_asks_159 (by decide) ?_
        exact h
theorem eX11_asks {G : zG} {F : Int → zM → Prop} {μ : zM}  (h : ∀ J, zJ G true (4) 0 0 mX11_asks (zKI F) J → J 0 ([some (zR (some 153)), none, none], [], μ, 0, 0)) : qX11_asks G  μ F :=
  z_body (by decide +kernel) (Nat.le_of_ble_eq_true rfl) h
set_option maxRecDepth 20000 in
theorem rX11_layTheirs_e {G : zG} {F : zM → Prop} {J : Nat → zS → Prop} {μ : zM} (C : zJ G true (12) 0 0 mX11_layTheirs (zKV F) J) (x1 : Int)
    (h : J 2 ([some (zR (some 153)), some (zI x1), some (zI 0)], [], μ, 0, 0)) : J 0 ([some (zR (some 153)), some (zI x1), none], [], μ, 0, 0) := by
  obtain ⟨p, e, s, m, args, below, meth, c, A, hml, hr, hlk, hnm, rfl⟩ := C
  refine s_iconst A dX11_layTheirs_0 ?_
  refine s_istore_n (L' := [some (zR (some 153)), some (zI x1), some (zI 0)]) A dX11_layTheirs_1 (Nat.le_of_ble_eq_true rfl) rfl ?_
  exact h
set_option maxRecDepth 20000 in
theorem rX11_layTheirs_2 {G : zG} {F : zM → Prop} {J : Nat → zS → Prop} {μ : zM} (C : zJ G true (12) 0 0 mX11_layTheirs (zKV F) J) (x1 : Int) (x2 : Int)
    (h : zin x2 ∧ ((711 ≤ x2 → qX11_layColours G 176 μ (fun μ3 => J 43 ([some (zR (some 153)), none, some (zI 0)], [], μ3, 0, 0))) ∧ (¬ (711 ≤ x2) → (0 ≤ (711 * x1) + x2 ∧ (711 * x1) + x2 < 1422) ∧ (0 ≤ x2 ∧ x2 < 711) ∧ J 2 ([some (zR (some 153)), some (zI x1), some (zI (x2 + 1))], [], zup μ 176 x2 (zi μ 179 ((711 * x1) + x2)), 0, 0)))) : J 2 ([some (zR (some 153)), some (zI x1), some (zI x2)], [], μ, 0, 0) := by
  obtain ⟨p, e, s, m, args, below, meth, c, A, hml, hr, hlk, hnm, rfl⟩ := C
  refine s_iload_n A dX11_layTheirs_2 rfl ?_
  refine s_sipush A dX11_layTheirs_3 rfl ?_
  obtain ⟨oz1, h⟩ := h
  refine z_icmp_ge (tgt := 33) A dX11_layTheirs_6 (by decide) oz1 ⟨by decide, by decide⟩ (fun c2 => ?_) (fun c2 => ?_)
  · have h := h.1 c2
    refine s_aload_n A dX11_layTheirs_33 rfl ?_
    refine s_aload_n A dX11_layTheirs_34 rfl ?_
    refine s_getf (k := 11) (j := 40) (sl := true) (v := zR (some 176)) A dX11_layTheirs_35 rfl zuw_X11 (Nat.le_of_ble_eq_true rfl) zwd1348 (by decide) (zk_153 _) rfl ?_
    refine s_callV (a := 153) (k := 11) (N := 45) (sl := true) (M := mX11_layColours) (n := 1) (d := 11) (mc := 0) (ms := 0) (av := [zR (some 176)]) (st := []) A dX11_layTheirs_38 rfl (by decide) (zk_153 _) zwd1643 zwd1645 zwd55 zwd100 zcd_X11_layColours (Nat.le_of_ble_eq_true rfl) (Nat.le_of_ble_eq_true rfl) (Nat.le_refl _) ⟨Nat.le_of_ble_eq_true rfl, Nat.le_of_ble_eq_true rfl⟩ ⟨rfl, zhn_X11_layColours⟩ rfl (Nat.le_of_ble_eq_true rfl) rfl (z_contV (fun μ3 h => ?_) h)
    refine s_iconst A dX11_layTheirs_41 ?_
    refine s_istore_n (L' := [some (zR (some 153)), some (zI x1), some (zI 0)]) A dX11_layTheirs_42 (Nat.le_of_ble_eq_true rfl) rfl ?_
    exact z_wk (L' := [some (zR (some 153)), none, some (zI 0)]) ⟨rfl, rfl, trivial⟩ h
  · have h := h.2 c2
    refine s_aload_n A dX11_layTheirs_9 rfl ?_
    refine s_getf (k := 11) (j := 40) (sl := true) (v := zR (some 176)) A dX11_layTheirs_10 rfl zuw_X11 (Nat.le_of_ble_eq_true rfl) zwd1348 (by decide) (zk_153 _) rfl ?_
    refine s_iload_n A dX11_layTheirs_13 rfl ?_
    refine s_aload_n A dX11_layTheirs_14 rfl ?_
    refine s_getf (k := 11) (j := 43) (sl := true) (v := zR (some 179)) A dX11_layTheirs_15 rfl zuw_X11 (Nat.le_of_ble_eq_true rfl) zwd1351 (by decide) (zk_153 _) rfl ?_
    refine s_sipush A dX11_layTheirs_18 rfl ?_
    refine s_iload_n A dX11_layTheirs_21 rfl ?_
    refine s_imul A dX11_layTheirs_22 ?_
    refine s_iload_n A dX11_layTheirs_23 rfl ?_
    refine s_iadd A dX11_layTheirs_24 ?_
    obtain ⟨ox4, h⟩ := h
    refine z_iald A dX11_layTheirs_25 (zk_179 _) (Nat.le_of_ble_eq_true rfl) ox4 ?_
    obtain ⟨ox5, h⟩ := h
    refine z_iast A dX11_layTheirs_26 (zk_176 _) (Nat.le_of_ble_eq_true rfl) ox5 ?_
    refine s_iinc (L' := [some (zR (some 153)), some (zI x1), some (zI (x2 + 1))]) A dX11_layTheirs_27 rfl rfl ?_
    refine s_goto (tgt := 2) A dX11_layTheirs_30 (by decide) ?_
    exact h
set_option maxRecDepth 20000 in
theorem rX11_layTheirs_43 {G : zG} {F : zM → Prop} {J : Nat → zS → Prop} {μ : zM} (C : zJ G true (12) 0 0 mX11_layTheirs (zKV F) J) (x2 : Int)
    (h : zin x2 ∧ ((19683 ≤ x2 → F μ) ∧ (¬ (19683 ≤ x2) → (0 ≤ x2 ∧ x2 < 19683) ∧ J 43 ([some (zR (some 153)), none, some (zI (x2 + 1))], [], zup μ 174 x2 (zi μ 159 x2), 0, 0)))) : J 43 ([some (zR (some 153)), none, some (zI x2)], [], μ, 0, 0) := by
  obtain ⟨p, e, s, m, args, below, meth, c, A, hml, hr, hlk, hnm, rfl⟩ := C
  refine s_iload_n A dX11_layTheirs_43 rfl ?_
  refine s_aload_n A dX11_layTheirs_44 rfl ?_
  refine s_getf (k := 11) (j := 36) (sl := true) (v := zR (some 174)) A dX11_layTheirs_45 rfl zuw_X11 (Nat.le_of_ble_eq_true rfl) zwd1344 (by decide) (zk_153 _) rfl ?_
  refine s_alen A dX11_layTheirs_48 (by decide) (zk_174 _) ?_
  obtain ⟨oz1, h⟩ := h
  refine z_icmp_ge (tgt := 70) A dX11_layTheirs_49 (by decide) oz1 ⟨by decide, by decide⟩ (fun c2 => ?_) (fun c2 => ?_)
  · have h := h.1 c2
    exact s_vret A dX11_layTheirs_70 hr hlk (Nat.le_of_ble_eq_true rfl) (Nat.le_of_ble_eq_true rfl) ⟨rfl, h⟩
  · have h := h.2 c2
    refine s_aload_n A dX11_layTheirs_52 rfl ?_
    refine s_getf (k := 11) (j := 36) (sl := true) (v := zR (some 174)) A dX11_layTheirs_53 rfl zuw_X11 (Nat.le_of_ble_eq_true rfl) zwd1344 (by decide) (zk_153 _) rfl ?_
    refine s_iload_n A dX11_layTheirs_56 rfl ?_
    refine s_aload_n A dX11_layTheirs_57 rfl ?_
    refine s_getf (k := 11) (j := 13) (sl := true) (v := zR (some 159)) A dX11_layTheirs_58 rfl zuw_X11 (Nat.le_of_ble_eq_true rfl) zwd1321 (by decide) (zk_153 _) rfl ?_
    refine s_iload_n A dX11_layTheirs_61 rfl ?_
    obtain ⟨ox3, h⟩ := h
    refine z_iald A dX11_layTheirs_62 (zk_159 _) (Nat.le_of_ble_eq_true rfl) ox3 ?_
    refine z_iast A dX11_layTheirs_63 (zk_174 _) (Nat.le_of_ble_eq_true rfl) ox3 ?_
    refine s_iinc (L' := [some (zR (some 153)), none, some (zI (x2 + 1))]) A dX11_layTheirs_64 rfl rfl ?_
    refine s_goto (tgt := 43) A dX11_layTheirs_67 (by decide) ?_
    exact h
theorem eX11_layTheirs {G : zG} {F : zM → Prop} {μ : zM} {x1 : Int} (h : ∀ J, zJ G true (12) 0 0 mX11_layTheirs (zKV F) J → J 0 ([some (zR (some 153)), some (zI x1), none], [], μ, 0, 0)) : qX11_layTheirs G x1 μ F :=
  z_body (by decide +kernel) (Nat.le_of_ble_eq_true rfl) h
set_option maxRecDepth 20000 in
theorem rX11_other_e {G : zG} {F : Int → zM → Prop} {J : Nat → zS → Prop} {μ : zM} (C : zJ G true (13) 0 0 mX11_other (zKI F) J) (x1 : Int)
    (h : qX11_in G true x1 0 1 (zup μ 153 5 0) (fun v1 μ1 => zin v1 ∧ ((¬ v1 = 0 → (0 ≤ x1 ∧ x1 < 2) ∧ zin (zi μ1 180 x1) ∧ ((¬ zi μ1 180 x1 = 0 → qX11_layTheirs G x1 μ1 (fun μ7 => qX11_layColours G 154 μ7 (fun μ8 => J 51 ([some (zR (some 153)), none, some (zI 0), some (zI 0), some (zI 0), some (zI 0), none], [], μ8, 0, 0)))) ∧ (zi μ1 180 x1 = 0 → F (-2) μ1))) ∧ (v1 = 0 → F (-1) μ1)))) : J 0 ([some (zR (some 153)), some (zI x1), none, none, none, none, none], [], μ, 0, 0) := by
  obtain ⟨p, e, s, m, args, below, meth, c, A, hml, hr, hlk, hnm, rfl⟩ := C
  refine s_aload_n A dX11_other_0 rfl ?_
  refine s_iconst A dX11_other_1 ?_
  refine z_putI (k := 11) (j := 5) (sl := true) A dX11_other_2 rfl zuw_X11 (Nat.le_of_ble_eq_true rfl) zwd1313 (by decide) (zk_153 _) tyX11 tyX11_ok nmX11 rfl rfl rfl ?_
  refine s_iload_n A dX11_other_5 rfl ?_
  refine s_iconst A dX11_other_6 ?_
  refine s_iconst A dX11_other_7 ?_
  refine s_callS (M := mX11_in) (n := 3) (d := 0) (mc := 0) (ms := 0) (av := [zI x1, zI 0, zI 1]) (st := []) A dX11_other_8 zwd1456 zwd1457 zwd100 zcd_X11_in (Nat.le_of_ble_eq_true rfl) (Nat.le_of_ble_eq_true rfl) (Nat.le_refl _) ⟨Nat.le_of_ble_eq_true rfl, Nat.le_of_ble_eq_true rfl⟩ zhn_X11_in rfl (Nat.le_of_ble_eq_true rfl) rfl (z_contI (fun v1 μ1 h => ?_) h)
  obtain ⟨oz2, h⟩ := h
  refine z_if_ne (tgt := 16) A dX11_other_11 (by decide) oz2 (fun c3 => ?_) (fun c3 => ?_)
  · have h := h.1 c3
    refine s_aload_n A dX11_other_16 rfl ?_
    refine s_getf (k := 11) (j := 44) (sl := true) (v := zR (some 180)) A dX11_other_17 rfl zuw_X11 (Nat.le_of_ble_eq_true rfl) zwd1352 (by decide) (zk_153 _) rfl ?_
    refine s_iload_n A dX11_other_20 rfl ?_
    obtain ⟨ox4, h⟩ := h
    refine z_zald A dX11_other_21 (zk_180 _) (Nat.le_of_ble_eq_true rfl) ox4 ?_
    obtain ⟨oz5, h⟩ := h
    refine z_if_ne (tgt := 28) A dX11_other_22 (by decide) oz5 (fun c6 => ?_) (fun c6 => ?_)
    · have h := h.1 c6
      refine s_aload_n A dX11_other_28 rfl ?_
      refine s_iload_n A dX11_other_29 rfl ?_
      refine s_callV (a := 153) (k := 11) (N := 45) (sl := true) (M := mX11_layTheirs) (n := 1) (d := 12) (mc := 0) (ms := 0) (av := [zI x1]) (st := []) A dX11_other_30 rfl (by decide) (zk_153 _) zwd1839 zwd1841 zwd80 zwd100 zcd_X11_layTheirs (Nat.le_of_ble_eq_true rfl) (Nat.le_of_ble_eq_true rfl) (Nat.le_refl _) ⟨Nat.le_of_ble_eq_true rfl, Nat.le_of_ble_eq_true rfl⟩ ⟨rfl, zhn_X11_layTheirs⟩ rfl (Nat.le_of_ble_eq_true rfl) rfl (z_contV (fun μ7 h => ?_) h)
      refine s_aload_n A dX11_other_33 rfl ?_
      refine s_aload_n A dX11_other_34 rfl ?_
      refine s_getf (k := 11) (j := 0) (sl := true) (v := zR (some 154)) A dX11_other_35 rfl zuw_X11 (Nat.le_of_ble_eq_true rfl) zwd1308 (by decide) (zk_153 _) rfl ?_
      refine s_callV (a := 153) (k := 11) (N := 45) (sl := true) (M := mX11_layColours) (n := 1) (d := 11) (mc := 0) (ms := 0) (av := [zR (some 154)]) (st := []) A dX11_other_38 rfl (by decide) (zk_153 _) zwd1643 zwd1645 zwd55 zwd100 zcd_X11_layColours (Nat.le_of_ble_eq_true rfl) (Nat.le_of_ble_eq_true rfl) (Nat.le_refl _) ⟨Nat.le_of_ble_eq_true rfl, Nat.le_of_ble_eq_true rfl⟩ ⟨rfl, zhn_X11_layColours⟩ rfl (Nat.le_of_ble_eq_true rfl) rfl (z_contV (fun μ8 h => ?_) h)
      refine s_iconst A dX11_other_41 ?_
      refine s_istore_n (L' := [some (zR (some 153)), some (zI x1), some (zI 0), none, none, none, none]) A dX11_other_42 (Nat.le_of_ble_eq_true rfl) rfl ?_
      refine s_iconst A dX11_other_43 ?_
      refine s_istore_n (L' := [some (zR (some 153)), some (zI x1), some (zI 0), some (zI 0), none, none, none]) A dX11_other_44 (Nat.le_of_ble_eq_true rfl) rfl ?_
      refine s_iconst A dX11_other_45 ?_
      refine s_istore (L' := [some (zR (some 153)), some (zI x1), some (zI 0), some (zI 0), some (zI 0), none, none]) A dX11_other_46 (Nat.le_of_ble_eq_true rfl) rfl ?_
      refine s_iconst A dX11_other_48 ?_
      refine s_istore (L' := [some (zR (some 153)), some (zI x1), some (zI 0), some (zI 0), some (zI 0), some (zI 0), none]) A dX11_other_49 (Nat.le_of_ble_eq_true rfl) rfl ?_
      exact z_wk (L' := [some (zR (some 153)), none, some (zI 0), some (zI 0), some (zI 0), some (zI 0), none]) ⟨rfl, rfl, rfl, rfl, rfl, trivial⟩ h
    · have h := h.2 c6
      refine s_bipush A dX11_other_25 rfl ?_
      exact s_iret A dX11_other_27 hr hlk (Nat.le_of_ble_eq_true rfl) (Nat.le_of_ble_eq_true rfl) ⟨_, rfl, h⟩
  · have h := h.2 c3
    refine s_iconst A dX11_other_14 ?_
    exact s_iret A dX11_other_15 hr hlk (Nat.le_of_ble_eq_true rfl) (Nat.le_of_ble_eq_true rfl) ⟨_, rfl, h⟩
set_option maxRecDepth 20000 in
theorem rX11_other_51 {G : zG} {F : Int → zM → Prop} {J : Nat → zS → Prop} {μ : zM} (C : zJ G true (13) 0 0 mX11_other (zKI F) J) (x2 : Int) (x3 : Int) (x4 : Int) (x5 : Int)
    (h : zin x5 ∧ ((6561 ≤ x5 → zin x2 ∧ ((x2 ≤ 0 → F x2 (zup μ 153 4 0)) ∧ (¬ (x2 ≤ 0) → zin x3 ∧ qX11_tell G x3 (zup μ 153 4 0) (fun μ6 => zin x4 ∧ qX11_tell G x4 μ6 (fun μ8 => F x2 μ8))))) ∧ (¬ (6561 ≤ x5) → qX11_codeOf G true x5 μ (fun v9 μ9 => qX11_open G v9 μ9 (fun v10 μ10 => zin v10 ∧ ((¬ v10 = 0 → (0 ≤ 3 * x5 ∧ 3 * x5 < 19683) ∧ (0 ≤ (3 * x5) + 1 ∧ (3 * x5) + 1 < 19683) ∧ (0 ≤ (3 * x5) + 2 ∧ (3 * x5) + 2 < 19683) ∧ qX11_apartOf G x5 (zi μ10 174 (3 * x5)) (zi μ10 174 ((3 * x5) + 1)) (zi μ10 174 ((3 * x5) + 2)) μ10 (fun v16 μ16 => zin v16 ∧ ((v16 ≤ 0 → zin x3 ∧ ((v16 ≤ x3 → J 51 ([some (zR (some 153)), none, some (zI x2), some (zI x3), some (zI x4), some (zI (x5 + 1)), none], [], μ16, 0, 0)) ∧ (¬ (v16 ≤ x3) → qX11_codeOf G true x5 μ16 (fun v21 μ21 => J 51 ([some (zR (some 153)), none, some (zI x2), some (zI v16), some (zI v21), some (zI (x5 + 1)), none], [], μ21, 0, 0))))) ∧ (¬ (v16 ≤ 0) → zin x3 ∧ ((v16 ≤ x3 → J 51 ([some (zR (some 153)), none, some (zI (x2 + 1)), some (zI x3), some (zI x4), some (zI (x5 + 1)), none], [], μ16, 0, 0)) ∧ (¬ (v16 ≤ x3) → qX11_codeOf G true x5 μ16 (fun v24 μ24 => J 51 ([some (zR (some 153)), none, some (zI (x2 + 1)), some (zI v16), some (zI v24), some (zI (x5 + 1)), none], [], μ24, 0, 0)))))))) ∧ (v10 = 0 → J 51 ([some (zR (some 153)), none, some (zI x2), some (zI x3), some (zI x4), some (zI (x5 + 1)), none], [], μ10, 0, 0)))))))) : J 51 ([some (zR (some 153)), none, some (zI x2), some (zI x3), some (zI x4), some (zI x5), none], [], μ, 0, 0) := by
  obtain ⟨p, e, s, m, args, below, meth, c, A, hml, hr, hlk, hnm, rfl⟩ := C
  refine s_iload A dX11_other_51 rfl ?_
  refine s_sipush A dX11_other_53 rfl ?_
  obtain ⟨oz1, h⟩ := h
  refine z_icmp_ge (tgt := 143) A dX11_other_56 (by decide) oz1 ⟨by decide, by decide⟩ (fun c2 => ?_) (fun c2 => ?_)
  · have h := h.1 c2
    refine s_aload_n A dX11_other_143 rfl ?_
    refine s_iconst A dX11_other_144 ?_
    refine z_putI (k := 11) (j := 4) (sl := true) A dX11_other_145 rfl zuw_X11 (Nat.le_of_ble_eq_true rfl) zwd1312 (by decide) (zk_153 _) tyX11 tyX11_ok nmX11 rfl rfl rfl ?_
    refine s_iload_n A dX11_other_148 rfl ?_
    obtain ⟨oz3, h⟩ := h
    refine z_if_le (tgt := 165) A dX11_other_149 (by decide) oz3 (fun c4 => ?_) (fun c4 => ?_)
    · have h := h.1 c4
      refine s_iload_n A dX11_other_165 rfl ?_
      exact s_iret A dX11_other_166 hr hlk (Nat.le_of_ble_eq_true rfl) (Nat.le_of_ble_eq_true rfl) ⟨_, rfl, h⟩
    · have h := h.2 c4
      refine s_aload_n A dX11_other_152 rfl ?_
      refine s_iload_n A dX11_other_153 rfl ?_
      obtain ⟨oz5, h⟩ := h
      refine z_i2l2 A dX11_other_154 oz5 ?_
      refine s_callV (a := 153) (k := 11) (N := 45) (sl := true) (M := mX11_tell) (n := 1) (d := 0) (mc := 0) (ms := 0) (av := [zL x3]) (st := []) A dX11_other_155 rfl (by decide) (zk_153 _) zwd1613 zwd1615 zwd51 zwd100 zcd_X11_tell (Nat.le_of_ble_eq_true rfl) (Nat.le_of_ble_eq_true rfl) (Nat.le_refl _) ⟨Nat.le_of_ble_eq_true rfl, Nat.le_of_ble_eq_true rfl⟩ ⟨rfl, zhn_X11_tell⟩ rfl (Nat.le_of_ble_eq_true rfl) rfl (z_contV (fun μ6 h => ?_) h)
      refine s_aload_n A dX11_other_158 rfl ?_
      refine s_iload A dX11_other_159 rfl ?_
      obtain ⟨oz7, h⟩ := h
      refine z_i2l2 A dX11_other_161 oz7 ?_
      refine s_callV (a := 153) (k := 11) (N := 45) (sl := true) (M := mX11_tell) (n := 1) (d := 0) (mc := 0) (ms := 0) (av := [zL x4]) (st := []) A dX11_other_162 rfl (by decide) (zk_153 _) zwd1613 zwd1615 zwd51 zwd100 zcd_X11_tell (Nat.le_of_ble_eq_true rfl) (Nat.le_of_ble_eq_true rfl) (Nat.le_refl _) ⟨Nat.le_of_ble_eq_true rfl, Nat.le_of_ble_eq_true rfl⟩ ⟨rfl, zhn_X11_tell⟩ rfl (Nat.le_of_ble_eq_true rfl) rfl (z_contV (fun μ8 h => ?_) h)
      refine s_iload_n A dX11_other_165 rfl ?_
      exact s_iret A dX11_other_166 hr hlk (Nat.le_of_ble_eq_true rfl) (Nat.le_of_ble_eq_true rfl) ⟨_, rfl, h⟩
  · have h := h.2 c2
    refine s_aload_n A dX11_other_59 rfl ?_
    refine s_iload A dX11_other_60 rfl ?_
    refine s_callS (M := mX11_codeOf) (n := 1) (d := 0) (mc := 0) (ms := 0) (av := [zI x5]) (st := [zR (some 153)]) A dX11_other_62 zwd1303 zwd1304 zwd100 zcd_X11_codeOf (Nat.le_of_ble_eq_true rfl) (Nat.le_of_ble_eq_true rfl) (Nat.le_refl _) ⟨Nat.le_of_ble_eq_true rfl, Nat.le_of_ble_eq_true rfl⟩ zhn_X11_codeOf rfl (Nat.le_of_ble_eq_true rfl) rfl (z_contI (fun v9 μ9 h => ?_) h)
    refine s_callV (a := 153) (k := 11) (N := 45) (sl := true) (M := mX11_open) (n := 1) (d := 3) (mc := 0) (ms := 0) (av := [zI v9]) (st := []) A dX11_other_65 rfl (by decide) (zk_153 _) zwd1647 zwd1649 zwd56 zwd100 zcd_X11_open (Nat.le_of_ble_eq_true rfl) (Nat.le_of_ble_eq_true rfl) (Nat.le_refl _) ⟨Nat.le_of_ble_eq_true rfl, Nat.le_of_ble_eq_true rfl⟩ ⟨rfl, zhn_X11_open⟩ rfl (Nat.le_of_ble_eq_true rfl) rfl (z_contI (fun v10 μ10 h => ?_) h)
    obtain ⟨oz11, h⟩ := h
    refine z_if_ne (tgt := 74) A dX11_other_68 (by decide) oz11 (fun c12 => ?_) (fun c12 => ?_)
    · have h := h.1 c12
      refine s_aload_n A dX11_other_74 rfl ?_
      refine s_iload A dX11_other_75 rfl ?_
      refine s_aload_n A dX11_other_77 rfl ?_
      refine s_getf (k := 11) (j := 36) (sl := true) (v := zR (some 174)) A dX11_other_78 rfl zuw_X11 (Nat.le_of_ble_eq_true rfl) zwd1344 (by decide) (zk_153 _) rfl ?_
      refine s_iconst A dX11_other_81 ?_
      refine s_iload A dX11_other_82 rfl ?_
      refine s_imul A dX11_other_84 ?_
      obtain ⟨ox13, h⟩ := h
      refine z_iald A dX11_other_85 (zk_174 _) (Nat.le_of_ble_eq_true rfl) ox13 ?_
      refine s_aload_n A dX11_other_86 rfl ?_
      refine s_getf (k := 11) (j := 36) (sl := true) (v := zR (some 174)) A dX11_other_87 rfl zuw_X11 (Nat.le_of_ble_eq_true rfl) zwd1344 (by decide) (zk_153 _) rfl ?_
      refine s_iconst A dX11_other_90 ?_
      refine s_iload A dX11_other_91 rfl ?_
      refine s_imul A dX11_other_93 ?_
      refine s_iconst A dX11_other_94 ?_
      refine s_iadd A dX11_other_95 ?_
      obtain ⟨ox14, h⟩ := h
      refine z_iald A dX11_other_96 (zk_174 _) (Nat.le_of_ble_eq_true rfl) ox14 ?_
      refine s_aload_n A dX11_other_97 rfl ?_
      refine s_getf (k := 11) (j := 36) (sl := true) (v := zR (some 174)) A dX11_other_98 rfl zuw_X11 (Nat.le_of_ble_eq_true rfl) zwd1344 (by decide) (zk_153 _) rfl ?_
      refine s_iconst A dX11_other_101 ?_
      refine s_iload A dX11_other_102 rfl ?_
      refine s_imul A dX11_other_104 ?_
      refine s_iconst A dX11_other_105 ?_
      refine s_iadd A dX11_other_106 ?_
      obtain ⟨ox15, h⟩ := h
      refine z_iald A dX11_other_107 (zk_174 _) (Nat.le_of_ble_eq_true rfl) ox15 ?_
      refine s_callV (a := 153) (k := 11) (N := 45) (sl := true) (M := mX11_apartOf) (n := 4) (d := 2) (mc := 0) (ms := 0) (av := [zI x5, zI (zi μ10 174 (3 * x5)), zI (zi μ10 174 ((3 * x5) + 1)), zI (zi μ10 174 ((3 * x5) + 2))]) (st := []) A dX11_other_108 rfl (by decide) (zk_153 _) zwd1659 zwd1661 zwd59 zwd100 zcd_X11_apartOf (Nat.le_of_ble_eq_true rfl) (Nat.le_of_ble_eq_true rfl) (Nat.le_refl _) ⟨Nat.le_of_ble_eq_true rfl, Nat.le_of_ble_eq_true rfl⟩ ⟨rfl, zhn_X11_apartOf⟩ rfl (Nat.le_of_ble_eq_true rfl) rfl (z_contI (fun v16 μ16 h => ?_) h)
      refine s_istore (L' := [some (zR (some 153)), none, some (zI x2), some (zI x3), some (zI x4), some (zI x5), some (zI v16)]) A dX11_other_111 (Nat.le_of_ble_eq_true rfl) rfl ?_
      refine s_iload A dX11_other_113 rfl ?_
      obtain ⟨oz17, h⟩ := h
      refine z_if_le (tgt := 121) A dX11_other_115 (by decide) oz17 (fun c18 => ?_) (fun c18 => ?_)
      · have h := h.1 c18
        refine s_iload A dX11_other_121 rfl ?_
        refine s_iload_n A dX11_other_123 rfl ?_
        obtain ⟨oz19, h⟩ := h
        refine z_icmp_le (tgt := 137) A dX11_other_124 (by decide) oz17 oz19 (fun c20 => ?_) (fun c20 => ?_)
        · have h := h.1 c20
          refine s_iinc (L' := [some (zR (some 153)), none, some (zI x2), some (zI x3), some (zI x4), some (zI (x5 + 1)), some (zI v16)]) A dX11_other_137 rfl rfl ?_
          refine s_goto (tgt := 51) A dX11_other_140 (by decide) ?_
          exact z_wk (L' := [some (zR (some 153)), none, some (zI x2), some (zI x3), some (zI x4), some (zI (x5 + 1)), none]) ⟨rfl, rfl, rfl, rfl, rfl, trivial⟩ h
        · have h := h.2 c20
          refine s_iload A dX11_other_127 rfl ?_
          refine s_istore_n (L' := [some (zR (some 153)), none, some (zI x2), some (zI v16), some (zI x4), some (zI x5), some (zI v16)]) A dX11_other_129 (Nat.le_of_ble_eq_true rfl) rfl ?_
          refine s_iload A dX11_other_130 rfl ?_
          refine s_callS (M := mX11_codeOf) (n := 1) (d := 0) (mc := 0) (ms := 0) (av := [zI x5]) (st := []) A dX11_other_132 zwd1303 zwd1304 zwd100 zcd_X11_codeOf (Nat.le_of_ble_eq_true rfl) (Nat.le_of_ble_eq_true rfl) (Nat.le_refl _) ⟨Nat.le_of_ble_eq_true rfl, Nat.le_of_ble_eq_true rfl⟩ zhn_X11_codeOf rfl (Nat.le_of_ble_eq_true rfl) rfl (z_contI (fun v21 μ21 h => ?_) h)
          refine s_istore (L' := [some (zR (some 153)), none, some (zI x2), some (zI v16), some (zI v21), some (zI x5), some (zI v16)]) A dX11_other_135 (Nat.le_of_ble_eq_true rfl) rfl ?_
          refine s_iinc (L' := [some (zR (some 153)), none, some (zI x2), some (zI v16), some (zI v21), some (zI (x5 + 1)), some (zI v16)]) A dX11_other_137 rfl rfl ?_
          refine s_goto (tgt := 51) A dX11_other_140 (by decide) ?_
          exact z_wk (L' := [some (zR (some 153)), none, some (zI x2), some (zI v16), some (zI v21), some (zI (x5 + 1)), none]) ⟨rfl, rfl, rfl, rfl, rfl, trivial⟩ h
      · have h := h.2 c18
        refine s_iinc (L' := [some (zR (some 153)), none, some (zI (x2 + 1)), some (zI x3), some (zI x4), some (zI x5), some (zI v16)]) A dX11_other_118 rfl rfl ?_
        refine s_iload A dX11_other_121 rfl ?_
        refine s_iload_n A dX11_other_123 rfl ?_
        obtain ⟨oz22, h⟩ := h
        refine z_icmp_le (tgt := 137) A dX11_other_124 (by decide) oz17 oz22 (fun c23 => ?_) (fun c23 => ?_)
        · have h := h.1 c23
          refine s_iinc (L' := [some (zR (some 153)), none, some (zI (x2 + 1)), some (zI x3), some (zI x4), some (zI (x5 + 1)), some (zI v16)]) A dX11_other_137 rfl rfl ?_
          refine s_goto (tgt := 51) A dX11_other_140 (by decide) ?_
          exact z_wk (L' := [some (zR (some 153)), none, some (zI (x2 + 1)), some (zI x3), some (zI x4), some (zI (x5 + 1)), none]) ⟨rfl, rfl, rfl, rfl, rfl, trivial⟩ h
        · have h := h.2 c23
          refine s_iload A dX11_other_127 rfl ?_
          refine s_istore_n (L' := [some (zR (some 153)), none, some (zI (x2 + 1)), some (zI v16), some (zI x4), some (zI x5), some (zI v16)]) A dX11_other_129 (Nat.le_of_ble_eq_true rfl) rfl ?_
          refine s_iload A dX11_other_130 rfl ?_
          refine s_callS (M := mX11_codeOf) (n := 1) (d := 0) (mc := 0) (ms := 0) (av := [zI x5]) (st := []) A dX11_other_132 zwd1303 zwd1304 zwd100 zcd_X11_codeOf (Nat.le_of_ble_eq_true rfl) (Nat.le_of_ble_eq_true rfl) (Nat.le_refl _) ⟨Nat.le_of_ble_eq_true rfl, Nat.le_of_ble_eq_true rfl⟩ zhn_X11_codeOf rfl (Nat.le_of_ble_eq_true rfl) rfl (z_contI (fun v24 μ24 h => ?_) h)
          refine s_istore (L' := [some (zR (some 153)), none, some (zI (x2 + 1)), some (zI v16), some (zI v24), some (zI x5), some (zI v16)]) A dX11_other_135 (Nat.le_of_ble_eq_true rfl) rfl ?_
          refine s_iinc (L' := [some (zR (some 153)), none, some (zI (x2 + 1)), some (zI v16), some (zI v24), some (zI (x5 + 1)), some (zI v16)]) A dX11_other_137 rfl rfl ?_
          refine s_goto (tgt := 51) A dX11_other_140 (by decide) ?_
          exact z_wk (L' := [some (zR (some 153)), none, some (zI (x2 + 1)), some (zI v16), some (zI v24), some (zI (x5 + 1)), none]) ⟨rfl, rfl, rfl, rfl, rfl, trivial⟩ h
    · have h := h.2 c12
      refine s_goto (tgt := 137) A dX11_other_71 (by decide) ?_
      refine s_iinc (L' := [some (zR (some 153)), none, some (zI x2), some (zI x3), some (zI x4), some (zI (x5 + 1)), none]) A dX11_other_137 rfl rfl ?_
      refine s_goto (tgt := 51) A dX11_other_140 (by decide) ?_
      exact h
theorem eX11_other {G : zG} {F : Int → zM → Prop} {μ : zM} {x1 : Int} (h : ∀ J, zJ G true (13) 0 0 mX11_other (zKI F) J → J 0 ([some (zR (some 153)), some (zI x1), none, none, none, none, none], [], μ, 0, 0)) : qX11_other G x1 μ F :=
  z_body (by decide +kernel) (Nat.le_of_ble_eq_true rfl) h
set_option maxRecDepth 20000 in
theorem rX11_carry_e {G : zG} {F : Int → zM → Prop} {J : Nat → zS → Prop} {μ : zM} (C : zJ G true (13) 0 0 mX11_carry (zKI F) J) (x1 : Int) (x2 : Int)
    (h : qX11_in G true x1 0 1 (zup μ 153 5 0) (fun v1 μ1 => zin v1 ∧ ((v1 = 0 → F (-1) μ1) ∧ (¬ (v1 = 0) → qX11_isCode G true x2 μ1 (fun v4 μ4 => zin v4 ∧ ((¬ v4 = 0 → (0 ≤ x1 ∧ x1 < 2) ∧ zin (zi μ4 180 x1) ∧ ((¬ zi μ4 180 x1 = 0 → qX11_layTheirs G x1 μ4 (fun μ10 => qX11_layColours G 154 μ10 (fun μ11 => qX11_numberOf G true x2 μ11 (fun v12 μ12 => (0 ≤ 3 * v12 ∧ 3 * v12 < 19683) ∧ (0 ≤ (3 * v12) + 1 ∧ (3 * v12) + 1 < 19683) ∧ (0 ≤ (3 * v12) + 2 ∧ (3 * v12) + 2 < 19683) ∧ qX11_matchOf G (zi μ12 174 (3 * v12)) (zi μ12 174 ((3 * v12) + 1)) (zi μ12 174 ((3 * v12) + 2)) μ12 (fun v16 μ16 => qX11_numberOf G true v16 (zup μ16 153 4 0) (fun v17 μ17 => qX11_apartOf G v17 (zi μ17 174 (3 * v12)) (zi μ17 174 ((3 * v12) + 1)) (zi μ17 174 ((3 * v12) + 2)) μ17 (fun v18 μ18 => zin v18 ∧ qX11_tell G v18 μ18 (fun μ20 => F v16 μ20)))))))) ∧ (zi μ4 180 x1 = 0 → F (-2) μ4))) ∧ (v4 = 0 → F (-1) μ4))))))) : J 0 ([some (zR (some 153)), some (zI x1), some (zI x2), none, none], [], μ, 0, 0) := by
  obtain ⟨p, e, s, m, args, below, meth, c, A, hml, hr, hlk, hnm, rfl⟩ := C
  refine s_aload_n A dX11_carry_0 rfl ?_
  refine s_iconst A dX11_carry_1 ?_
  refine z_putI (k := 11) (j := 5) (sl := true) A dX11_carry_2 rfl zuw_X11 (Nat.le_of_ble_eq_true rfl) zwd1313 (by decide) (zk_153 _) tyX11 tyX11_ok nmX11 rfl rfl rfl ?_
  refine s_iload_n A dX11_carry_5 rfl ?_
  refine s_iconst A dX11_carry_6 ?_
  refine s_iconst A dX11_carry_7 ?_
  refine s_callS (M := mX11_in) (n := 3) (d := 0) (mc := 0) (ms := 0) (av := [zI x1, zI 0, zI 1]) (st := []) A dX11_carry_8 zwd1456 zwd1457 zwd100 zcd_X11_in (Nat.le_of_ble_eq_true rfl) (Nat.le_of_ble_eq_true rfl) (Nat.le_refl _) ⟨Nat.le_of_ble_eq_true rfl, Nat.le_of_ble_eq_true rfl⟩ zhn_X11_in rfl (Nat.le_of_ble_eq_true rfl) rfl (z_contI (fun v1 μ1 h => ?_) h)
  obtain ⟨oz2, h⟩ := h
  refine z_if_eq (tgt := 21) A dX11_carry_11 (by decide) oz2 (fun c3 => ?_) (fun c3 => ?_)
  · have h := h.1 c3
    refine s_iconst A dX11_carry_21 ?_
    exact s_iret A dX11_carry_22 hr hlk (Nat.le_of_ble_eq_true rfl) (Nat.le_of_ble_eq_true rfl) ⟨_, rfl, h⟩
  · have h := h.2 c3
    refine s_iload_n A dX11_carry_14 rfl ?_
    refine s_callS (M := mX11_isCode) (n := 1) (d := 2) (mc := 0) (ms := 0) (av := [zI x2]) (st := []) A dX11_carry_15 zwd1595 zwd1596 zwd100 zcd_X11_isCode (Nat.le_of_ble_eq_true rfl) (Nat.le_of_ble_eq_true rfl) (Nat.le_refl _) ⟨Nat.le_of_ble_eq_true rfl, Nat.le_of_ble_eq_true rfl⟩ zhn_X11_isCode rfl (Nat.le_of_ble_eq_true rfl) rfl (z_contI (fun v4 μ4 h => ?_) h)
    obtain ⟨oz5, h⟩ := h
    refine z_if_ne (tgt := 23) A dX11_carry_18 (by decide) oz5 (fun c6 => ?_) (fun c6 => ?_)
    · have h := h.1 c6
      refine s_aload_n A dX11_carry_23 rfl ?_
      refine s_getf (k := 11) (j := 44) (sl := true) (v := zR (some 180)) A dX11_carry_24 rfl zuw_X11 (Nat.le_of_ble_eq_true rfl) zwd1352 (by decide) (zk_153 _) rfl ?_
      refine s_iload_n A dX11_carry_27 rfl ?_
      obtain ⟨ox7, h⟩ := h
      refine z_zald A dX11_carry_28 (zk_180 _) (Nat.le_of_ble_eq_true rfl) ox7 ?_
      obtain ⟨oz8, h⟩ := h
      refine z_if_ne (tgt := 35) A dX11_carry_29 (by decide) oz8 (fun c9 => ?_) (fun c9 => ?_)
      · have h := h.1 c9
        refine s_aload_n A dX11_carry_35 rfl ?_
        refine s_iload_n A dX11_carry_36 rfl ?_
        refine s_callV (a := 153) (k := 11) (N := 45) (sl := true) (M := mX11_layTheirs) (n := 1) (d := 12) (mc := 0) (ms := 0) (av := [zI x1]) (st := []) A dX11_carry_37 rfl (by decide) (zk_153 _) zwd1839 zwd1841 zwd80 zwd100 zcd_X11_layTheirs (Nat.le_of_ble_eq_true rfl) (Nat.le_of_ble_eq_true rfl) (Nat.le_refl _) ⟨Nat.le_of_ble_eq_true rfl, Nat.le_of_ble_eq_true rfl⟩ ⟨rfl, zhn_X11_layTheirs⟩ rfl (Nat.le_of_ble_eq_true rfl) rfl (z_contV (fun μ10 h => ?_) h)
        refine s_aload_n A dX11_carry_40 rfl ?_
        refine s_aload_n A dX11_carry_41 rfl ?_
        refine s_getf (k := 11) (j := 0) (sl := true) (v := zR (some 154)) A dX11_carry_42 rfl zuw_X11 (Nat.le_of_ble_eq_true rfl) zwd1308 (by decide) (zk_153 _) rfl ?_
        refine s_callV (a := 153) (k := 11) (N := 45) (sl := true) (M := mX11_layColours) (n := 1) (d := 11) (mc := 0) (ms := 0) (av := [zR (some 154)]) (st := []) A dX11_carry_45 rfl (by decide) (zk_153 _) zwd1643 zwd1645 zwd55 zwd100 zcd_X11_layColours (Nat.le_of_ble_eq_true rfl) (Nat.le_of_ble_eq_true rfl) (Nat.le_refl _) ⟨Nat.le_of_ble_eq_true rfl, Nat.le_of_ble_eq_true rfl⟩ ⟨rfl, zhn_X11_layColours⟩ rfl (Nat.le_of_ble_eq_true rfl) rfl (z_contV (fun μ11 h => ?_) h)
        refine s_iconst A dX11_carry_48 ?_
        refine s_iload_n A dX11_carry_49 rfl ?_
        refine s_callS (M := mX11_numberOf) (n := 1) (d := 2) (mc := 0) (ms := 0) (av := [zI x2]) (st := [zI 3]) A dX11_carry_50 zwd1671 zwd1672 zwd100 zcd_X11_numberOf (Nat.le_of_ble_eq_true rfl) (Nat.le_of_ble_eq_true rfl) (Nat.le_refl _) ⟨Nat.le_of_ble_eq_true rfl, Nat.le_of_ble_eq_true rfl⟩ zhn_X11_numberOf rfl (Nat.le_of_ble_eq_true rfl) rfl (z_contI (fun v12 μ12 h => ?_) h)
        refine s_imul A dX11_carry_53 ?_
        refine s_istore_n (L' := [some (zR (some 153)), some (zI x1), some (zI x2), some (zI (3 * v12)), none]) A dX11_carry_54 (Nat.le_of_ble_eq_true rfl) rfl ?_
        refine s_aload_n A dX11_carry_55 rfl ?_
        refine s_aload_n A dX11_carry_56 rfl ?_
        refine s_getf (k := 11) (j := 36) (sl := true) (v := zR (some 174)) A dX11_carry_57 rfl zuw_X11 (Nat.le_of_ble_eq_true rfl) zwd1344 (by decide) (zk_153 _) rfl ?_
        refine s_iload_n A dX11_carry_60 rfl ?_
        obtain ⟨ox13, h⟩ := h
        refine z_iald A dX11_carry_61 (zk_174 _) (Nat.le_of_ble_eq_true rfl) ox13 ?_
        refine s_aload_n A dX11_carry_62 rfl ?_
        refine s_getf (k := 11) (j := 36) (sl := true) (v := zR (some 174)) A dX11_carry_63 rfl zuw_X11 (Nat.le_of_ble_eq_true rfl) zwd1344 (by decide) (zk_153 _) rfl ?_
        refine s_iload_n A dX11_carry_66 rfl ?_
        refine s_iconst A dX11_carry_67 ?_
        refine s_iadd A dX11_carry_68 ?_
        obtain ⟨ox14, h⟩ := h
        refine z_iald A dX11_carry_69 (zk_174 _) (Nat.le_of_ble_eq_true rfl) ox14 ?_
        refine s_aload_n A dX11_carry_70 rfl ?_
        refine s_getf (k := 11) (j := 36) (sl := true) (v := zR (some 174)) A dX11_carry_71 rfl zuw_X11 (Nat.le_of_ble_eq_true rfl) zwd1344 (by decide) (zk_153 _) rfl ?_
        refine s_iload_n A dX11_carry_74 rfl ?_
        refine s_iconst A dX11_carry_75 ?_
        refine s_iadd A dX11_carry_76 ?_
        obtain ⟨ox15, h⟩ := h
        refine z_iald A dX11_carry_77 (zk_174 _) (Nat.le_of_ble_eq_true rfl) ox15 ?_
        refine s_callV (a := 153) (k := 11) (N := 45) (sl := true) (M := mX11_matchOf) (n := 3) (d := 9) (mc := 0) (ms := 0) (av := [zI (zi μ12 174 (3 * v12)), zI (zi μ12 174 ((3 * v12) + 1)), zI (zi μ12 174 ((3 * v12) + 2))]) (st := []) A dX11_carry_78 rfl (by decide) (zk_153 _) zwd1651 zwd1653 zwd57 zwd100 zcd_X11_matchOf (Nat.le_of_ble_eq_true rfl) (Nat.le_of_ble_eq_true rfl) (Nat.le_refl _) ⟨Nat.le_of_ble_eq_true rfl, Nat.le_of_ble_eq_true rfl⟩ ⟨rfl, zhn_X11_matchOf⟩ rfl (Nat.le_of_ble_eq_true rfl) rfl (z_contI (fun v16 μ16 h => ?_) h)
        refine s_istore (L' := [some (zR (some 153)), some (zI x1), some (zI x2), some (zI (3 * v12)), some (zI v16)]) A dX11_carry_81 (Nat.le_of_ble_eq_true rfl) rfl ?_
        refine s_aload_n A dX11_carry_83 rfl ?_
        refine s_iconst A dX11_carry_84 ?_
        refine z_putI (k := 11) (j := 4) (sl := true) A dX11_carry_85 rfl zuw_X11 (Nat.le_of_ble_eq_true rfl) zwd1312 (by decide) (zk_153 _) tyX11 tyX11_ok nmX11 rfl rfl rfl ?_
        refine s_aload_n A dX11_carry_88 rfl ?_
        refine s_aload_n A dX11_carry_89 rfl ?_
        refine s_iload A dX11_carry_90 rfl ?_
        refine s_callS (M := mX11_numberOf) (n := 1) (d := 2) (mc := 0) (ms := 0) (av := [zI v16]) (st := [zR (some 153), zR (some 153)]) A dX11_carry_92 zwd1671 zwd1672 zwd100 zcd_X11_numberOf (Nat.le_of_ble_eq_true rfl) (Nat.le_of_ble_eq_true rfl) (Nat.le_refl _) ⟨Nat.le_of_ble_eq_true rfl, Nat.le_of_ble_eq_true rfl⟩ zhn_X11_numberOf rfl (Nat.le_of_ble_eq_true rfl) rfl (z_contI (fun v17 μ17 h => ?_) h)
        refine s_aload_n A dX11_carry_95 rfl ?_
        refine s_getf (k := 11) (j := 36) (sl := true) (v := zR (some 174)) A dX11_carry_96 rfl zuw_X11 (Nat.le_of_ble_eq_true rfl) zwd1344 (by decide) (zk_153 _) rfl ?_
        refine s_iload_n A dX11_carry_99 rfl ?_
        refine z_iald A dX11_carry_100 (zk_174 _) (Nat.le_of_ble_eq_true rfl) ox13 ?_
        refine s_aload_n A dX11_carry_101 rfl ?_
        refine s_getf (k := 11) (j := 36) (sl := true) (v := zR (some 174)) A dX11_carry_102 rfl zuw_X11 (Nat.le_of_ble_eq_true rfl) zwd1344 (by decide) (zk_153 _) rfl ?_
        refine s_iload_n A dX11_carry_105 rfl ?_
        refine s_iconst A dX11_carry_106 ?_
        refine s_iadd A dX11_carry_107 ?_
        refine z_iald A dX11_carry_108 (zk_174 _) (Nat.le_of_ble_eq_true rfl) ox14 ?_
        refine s_aload_n A dX11_carry_109 rfl ?_
        refine s_getf (k := 11) (j := 36) (sl := true) (v := zR (some 174)) A dX11_carry_110 rfl zuw_X11 (Nat.le_of_ble_eq_true rfl) zwd1344 (by decide) (zk_153 _) rfl ?_
        refine s_iload_n A dX11_carry_113 rfl ?_
        refine s_iconst A dX11_carry_114 ?_
        refine s_iadd A dX11_carry_115 ?_
        refine z_iald A dX11_carry_116 (zk_174 _) (Nat.le_of_ble_eq_true rfl) ox15 ?_
        refine s_callV (a := 153) (k := 11) (N := 45) (sl := true) (M := mX11_apartOf) (n := 4) (d := 2) (mc := 0) (ms := 0) (av := [zI v17, zI (zi μ17 174 (3 * v12)), zI (zi μ17 174 ((3 * v12) + 1)), zI (zi μ17 174 ((3 * v12) + 2))]) (st := [zR (some 153)]) A dX11_carry_117 rfl (by decide) (zk_153 _) zwd1659 zwd1661 zwd59 zwd100 zcd_X11_apartOf (Nat.le_of_ble_eq_true rfl) (Nat.le_of_ble_eq_true rfl) (Nat.le_refl _) ⟨Nat.le_of_ble_eq_true rfl, Nat.le_of_ble_eq_true rfl⟩ ⟨rfl, zhn_X11_apartOf⟩ rfl (Nat.le_of_ble_eq_true rfl) rfl (z_contI (fun v18 μ18 h => ?_) h)
        obtain ⟨oz19, h⟩ := h
        refine z_i2l2 A dX11_carry_120 oz19 ?_
        refine s_callV (a := 153) (k := 11) (N := 45) (sl := true) (M := mX11_tell) (n := 1) (d := 0) (mc := 0) (ms := 0) (av := [zL v18]) (st := []) A dX11_carry_121 rfl (by decide) (zk_153 _) zwd1613 zwd1615 zwd51 zwd100 zcd_X11_tell (Nat.le_of_ble_eq_true rfl) (Nat.le_of_ble_eq_true rfl) (Nat.le_refl _) ⟨Nat.le_of_ble_eq_true rfl, Nat.le_of_ble_eq_true rfl⟩ ⟨rfl, zhn_X11_tell⟩ rfl (Nat.le_of_ble_eq_true rfl) rfl (z_contV (fun μ20 h => ?_) h)
        refine s_iload A dX11_carry_124 rfl ?_
        exact s_iret A dX11_carry_126 hr hlk (Nat.le_of_ble_eq_true rfl) (Nat.le_of_ble_eq_true rfl) ⟨_, rfl, h⟩
      · have h := h.2 c9
        refine s_bipush A dX11_carry_32 rfl ?_
        exact s_iret A dX11_carry_34 hr hlk (Nat.le_of_ble_eq_true rfl) (Nat.le_of_ble_eq_true rfl) ⟨_, rfl, h⟩
    · have h := h.2 c6
      refine s_iconst A dX11_carry_21 ?_
      exact s_iret A dX11_carry_22 hr hlk (Nat.le_of_ble_eq_true rfl) (Nat.le_of_ble_eq_true rfl) ⟨_, rfl, h⟩
theorem eX11_carry {G : zG} {F : Int → zM → Prop} {μ : zM} {x1 : Int} {x2 : Int} (h : ∀ J, zJ G true (13) 0 0 mX11_carry (zKI F) J → J 0 ([some (zR (some 153)), some (zI x1), some (zI x2), none, none], [], μ, 0, 0)) : qX11_carry G x1 x2 μ F :=
  z_body (by decide +kernel) (Nat.le_of_ble_eq_true rfl) h
set_option maxRecDepth 20000 in
theorem rX11_draw_e {G : zG} {F : Int → zM → Prop} {J : Nat → zS → Prop} {μ : zM} (C : zJ G true (0) 0 0 mX11_draw (zKI F) J) (x1 : Int)
    (h : (0 ≤ zushr (zi (zup μ 153 37 (((zi μ 153 37) * 1103515245) + 12345)) 153 37) 16 ∧ zushr (zi (zup μ 153 37 (((zi μ 153 37) * 1103515245) + 12345)) 153 37) 16 < 2147483648) ∧ (0 < x1 ∧ x1 < 2147483648) ∧ F ((zushr (zi (zup μ 153 37 (((zi μ 153 37) * 1103515245) + 12345)) 153 37) 16) % x1) (zup μ 153 37 (((zi μ 153 37) * 1103515245) + 12345))) : J 0 ([some (zR (some 153)), some (zI x1)], [], μ, 0, 0) := by
  obtain ⟨p, e, s, m, args, below, meth, c, A, hml, hr, hlk, hnm, rfl⟩ := C
  refine s_aload_n A dX11_draw_0 rfl ?_
  refine s_aload_n A dX11_draw_1 rfl ?_
  refine s_getf (k := 11) (j := 37) (sl := true) (v := zI (zi μ 153 37)) A dX11_draw_2 rfl zuw_X11 (Nat.le_of_ble_eq_true rfl) zwd1345 (by decide) (zk_153 _) rfl ?_
  refine s_ldcw (z := 1103515245) A dX11_draw_5 zwd1855 (by decide +kernel) ?_
  refine s_imul A dX11_draw_8 ?_
  refine s_sipush A dX11_draw_9 rfl ?_
  refine s_iadd A dX11_draw_12 ?_
  refine z_putI (k := 11) (j := 37) (sl := true) A dX11_draw_13 rfl zuw_X11 (Nat.le_of_ble_eq_true rfl) zwd1345 (by decide) (zk_153 _) tyX11 tyX11_ok nmX11 rfl rfl rfl ?_
  refine s_aload_n A dX11_draw_16 rfl ?_
  refine s_getf (k := 11) (j := 37) (sl := true) (v := zI (zi (zup μ 153 37 (((zi μ 153 37) * 1103515245) + 12345)) 153 37)) A dX11_draw_17 rfl zuw_X11 (Nat.le_of_ble_eq_true rfl) zwd1345 (by decide) (zk_153 _) rfl ?_
  refine s_bipush A dX11_draw_20 rfl ?_
  refine s_iushr A dX11_draw_22 ?_
  refine s_iload_n A dX11_draw_23 rfl ?_
  obtain ⟨o1, h⟩ := h
  obtain ⟨o2, h⟩ := h
  refine z_irem A dX11_draw_24 o1 o2 ?_
  exact s_iret A dX11_draw_25 hr hlk (Nat.le_of_ble_eq_true rfl) (Nat.le_of_ble_eq_true rfl) ⟨_, rfl, h⟩
theorem eX11_draw {G : zG} {F : Int → zM → Prop} {μ : zM} {x1 : Int} (h : ∀ J, zJ G true (0) 0 0 mX11_draw (zKI F) J → J 0 ([some (zR (some 153)), some (zI x1)], [], μ, 0, 0)) : qX11_draw G x1 μ F :=
  z_body (by decide +kernel) (Nat.le_of_ble_eq_true rfl) h
set_option maxRecDepth 20000 in
theorem rX11_drifts_e {G : zG} {F : Int → zM → Prop} {J : Nat → zS → Prop} {μ : zM} (C : zJ G true (12) 0 0 mX11_drifts (zKI F) J) (x1 : Int) (x2 : Int)
    (h : qX11_in G true x2 1 40 (zup μ 153 5 0) (fun v1 μ1 => zin v1 ∧ ((¬ v1 = 0 → J 24 ([some (zR (some 153)), none, some (zI x2), some (zI 0), none, none, none, none], [], zup μ1 153 37 x1, 0, 0)) ∧ (v1 = 0 → F (-1) μ1)))) : J 0 ([some (zR (some 153)), some (zI x1), some (zI x2), none, none, none, none, none], [], μ, 0, 0) := by
  obtain ⟨p, e, s, m, args, below, meth, c, A, hml, hr, hlk, hnm, rfl⟩ := C
  refine s_aload_n A dX11_drifts_0 rfl ?_
  refine s_iconst A dX11_drifts_1 ?_
  refine z_putI (k := 11) (j := 5) (sl := true) A dX11_drifts_2 rfl zuw_X11 (Nat.le_of_ble_eq_true rfl) zwd1313 (by decide) (zk_153 _) tyX11 tyX11_ok nmX11 rfl rfl rfl ?_
  refine s_iload_n A dX11_drifts_5 rfl ?_
  refine s_iconst A dX11_drifts_6 ?_
  refine s_bipush A dX11_drifts_7 rfl ?_
  refine s_callS (M := mX11_in) (n := 3) (d := 0) (mc := 0) (ms := 0) (av := [zI x2, zI 1, zI 40]) (st := []) A dX11_drifts_9 zwd1456 zwd1457 zwd100 zcd_X11_in (Nat.le_of_ble_eq_true rfl) (Nat.le_of_ble_eq_true rfl) (Nat.le_refl _) ⟨Nat.le_of_ble_eq_true rfl, Nat.le_of_ble_eq_true rfl⟩ zhn_X11_in rfl (Nat.le_of_ble_eq_true rfl) rfl (z_contI (fun v1 μ1 h => ?_) h)
  obtain ⟨oz2, h⟩ := h
  refine z_if_ne (tgt := 17) A dX11_drifts_12 (by decide) oz2 (fun c3 => ?_) (fun c3 => ?_)
  · have h := h.1 c3
    refine s_aload_n A dX11_drifts_17 rfl ?_
    refine s_iload_n A dX11_drifts_18 rfl ?_
    refine z_putI (k := 11) (j := 37) (sl := true) A dX11_drifts_19 rfl zuw_X11 (Nat.le_of_ble_eq_true rfl) zwd1345 (by decide) (zk_153 _) tyX11 tyX11_ok nmX11 rfl rfl rfl ?_
    refine s_iconst A dX11_drifts_22 ?_
    refine s_istore_n (L' := [some (zR (some 153)), some (zI x1), some (zI x2), some (zI 0), none, none, none, none]) A dX11_drifts_23 (Nat.le_of_ble_eq_true rfl) rfl ?_
    exact z_wk (L' := [some (zR (some 153)), none, some (zI x2), some (zI 0), none, none, none, none]) ⟨rfl, rfl, rfl, trivial⟩ h
  · have h := h.2 c3
    refine s_iconst A dX11_drifts_15 ?_
    exact s_iret A dX11_drifts_16 hr hlk (Nat.le_of_ble_eq_true rfl) (Nat.le_of_ble_eq_true rfl) ⟨_, rfl, h⟩
set_option maxRecDepth 20000 in
theorem rX11_drifts_24 {G : zG} {F : Int → zM → Prop} {J : Nat → zS → Prop} {μ : zM} (C : zJ G true (12) 0 0 mX11_drifts (zKI F) J) (x2 : Int) (x3 : Int)
    (h : zin x3 ∧ ((711 ≤ x3 → J 51 ([some (zR (some 153)), none, some (zI x2), some (zI 0), none, none, none, none], [], μ, 0, 0)) ∧ (¬ (711 ≤ x3) → (0 ≤ x3 ∧ x3 < 711) ∧ J 24 ([some (zR (some 153)), none, some (zI x2), some (zI (x3 + 1)), none, none, none, none], [], zup μ 176 x3 (zi μ 154 x3), 0, 0)))) : J 24 ([some (zR (some 153)), none, some (zI x2), some (zI x3), none, none, none, none], [], μ, 0, 0) := by
  obtain ⟨p, e, s, m, args, below, meth, c, A, hml, hr, hlk, hnm, rfl⟩ := C
  refine s_iload_n A dX11_drifts_24 rfl ?_
  refine s_sipush A dX11_drifts_25 rfl ?_
  obtain ⟨oz1, h⟩ := h
  refine z_icmp_ge (tgt := 49) A dX11_drifts_28 (by decide) oz1 ⟨by decide, by decide⟩ (fun c2 => ?_) (fun c2 => ?_)
  · have h := h.1 c2
    refine s_iconst A dX11_drifts_49 ?_
    refine s_istore_n (L' := [some (zR (some 153)), none, some (zI x2), some (zI 0), none, none, none, none]) A dX11_drifts_50 (Nat.le_of_ble_eq_true rfl) rfl ?_
    exact h
  · have h := h.2 c2
    refine s_aload_n A dX11_drifts_31 rfl ?_
    refine s_getf (k := 11) (j := 40) (sl := true) (v := zR (some 176)) A dX11_drifts_32 rfl zuw_X11 (Nat.le_of_ble_eq_true rfl) zwd1348 (by decide) (zk_153 _) rfl ?_
    refine s_iload_n A dX11_drifts_35 rfl ?_
    refine s_aload_n A dX11_drifts_36 rfl ?_
    refine s_getf (k := 11) (j := 0) (sl := true) (v := zR (some 154)) A dX11_drifts_37 rfl zuw_X11 (Nat.le_of_ble_eq_true rfl) zwd1308 (by decide) (zk_153 _) rfl ?_
    refine s_iload_n A dX11_drifts_40 rfl ?_
    obtain ⟨ox3, h⟩ := h
    refine z_iald A dX11_drifts_41 (zk_154 _) (Nat.le_of_ble_eq_true rfl) ox3 ?_
    refine z_iast A dX11_drifts_42 (zk_176 _) (Nat.le_of_ble_eq_true rfl) ox3 ?_
    refine s_iinc (L' := [some (zR (some 153)), none, some (zI x2), some (zI (x3 + 1)), none, none, none, none]) A dX11_drifts_43 rfl rfl ?_
    refine s_goto (tgt := 24) A dX11_drifts_46 (by decide) ?_
    exact h
set_option maxRecDepth 20000 in
theorem rX11_drifts_51 {G : zG} {F : Int → zM → Prop} {J : Nat → zS → Prop} {μ : zM} (C : zJ G true (12) 0 0 mX11_drifts (zKI F) J) (x2 : Int) (x3 : Int)
    (h : zin x3 ∧ zin x2 ∧ ((x2 ≤ x3 → J 139 ([some (zR (some 153)), none, none, some (zI 0), some (zI 0), none, none, none], [], μ, 0, 0)) ∧ (¬ (x2 ≤ x3) → qX11_draw G 4 μ (fun v4 μ4 => qX11_draw G 2 μ4 (fun v5 μ5 => qX11_draw G 3 μ5 (fun v6 μ6 => (0 ≤ v4 ∧ v4 < 4) ∧ (0 ≤ ((3 * (v5 + 1)) * (zta 7 v4)) + v6 ∧ ((3 * (v5 + 1)) * (zta 7 v4)) + v6 < 711) ∧ qX11_draw G 21 μ6 (fun v9 μ9 => zin (((zi μ6 176 (((3 * (v5 + 1)) * (zta 7 v4)) + v6)) + v9) - 10) ∧ zin (min 100 (((zi μ6 176 (((3 * (v5 + 1)) * (zta 7 v4)) + v6)) + v9) - 10)) ∧ J 51 ([some (zR (some 153)), none, some (zI x2), some (zI (x3 + 1)), none, none, none, none], [], zup μ9 176 (((3 * (v5 + 1)) * (zta 7 v4)) + v6) (max 0 (min 100 (((zi μ6 176 (((3 * (v5 + 1)) * (zta 7 v4)) + v6)) + v9) - 10))), 0, 0)))))))) : J 51 ([some (zR (some 153)), none, some (zI x2), some (zI x3), none, none, none, none], [], μ, 0, 0) := by
  obtain ⟨p, e, s, m, args, below, meth, c, A, hml, hr, hlk, hnm, rfl⟩ := C
  refine s_iload_n A dX11_drifts_51 rfl ?_
  refine s_iload_n A dX11_drifts_52 rfl ?_
  obtain ⟨oz1, h⟩ := h
  obtain ⟨oz2, h⟩ := h
  refine z_icmp_ge (tgt := 134) A dX11_drifts_53 (by decide) oz1 oz2 (fun c3 => ?_) (fun c3 => ?_)
  · have h := h.1 c3
    refine s_iconst A dX11_drifts_134 ?_
    refine s_istore_n (L' := [some (zR (some 153)), none, some (zI x2), some (zI 0), none, none, none, none]) A dX11_drifts_135 (Nat.le_of_ble_eq_true rfl) rfl ?_
    refine s_iconst A dX11_drifts_136 ?_
    refine s_istore (L' := [some (zR (some 153)), none, some (zI x2), some (zI 0), some (zI 0), none, none, none]) A dX11_drifts_137 (Nat.le_of_ble_eq_true rfl) rfl ?_
    exact z_wk (L' := [some (zR (some 153)), none, none, some (zI 0), some (zI 0), none, none, none]) ⟨rfl, rfl, rfl, trivial⟩ h
  · have h := h.2 c3
    refine s_aload_n A dX11_drifts_56 rfl ?_
    refine s_iconst A dX11_drifts_57 ?_
    refine s_callV (a := 153) (k := 11) (N := 45) (sl := true) (M := mX11_draw) (n := 1) (d := 0) (mc := 0) (ms := 0) (av := [zI 4]) (st := []) A dX11_drifts_58 rfl (by decide) (zk_153 _) zwd1851 zwd1853 zwd81 zwd100 zcd_X11_draw (Nat.le_of_ble_eq_true rfl) (Nat.le_of_ble_eq_true rfl) (Nat.le_refl _) ⟨Nat.le_of_ble_eq_true rfl, Nat.le_of_ble_eq_true rfl⟩ ⟨rfl, zhn_X11_draw⟩ rfl (Nat.le_of_ble_eq_true rfl) rfl (z_contI (fun v4 μ4 h => ?_) h)
    refine s_istore (L' := [some (zR (some 153)), none, some (zI x2), some (zI x3), some (zI v4), none, none, none]) A dX11_drifts_61 (Nat.le_of_ble_eq_true rfl) rfl ?_
    refine s_aload_n A dX11_drifts_63 rfl ?_
    refine s_iconst A dX11_drifts_64 ?_
    refine s_callV (a := 153) (k := 11) (N := 45) (sl := true) (M := mX11_draw) (n := 1) (d := 0) (mc := 0) (ms := 0) (av := [zI 2]) (st := []) A dX11_drifts_65 rfl (by decide) (zk_153 _) zwd1851 zwd1853 zwd81 zwd100 zcd_X11_draw (Nat.le_of_ble_eq_true rfl) (Nat.le_of_ble_eq_true rfl) (Nat.le_refl _) ⟨Nat.le_of_ble_eq_true rfl, Nat.le_of_ble_eq_true rfl⟩ ⟨rfl, zhn_X11_draw⟩ rfl (Nat.le_of_ble_eq_true rfl) rfl (z_contI (fun v5 μ5 h => ?_) h)
    refine s_iconst A dX11_drifts_68 ?_
    refine s_iadd A dX11_drifts_69 ?_
    refine s_istore (L' := [some (zR (some 153)), none, some (zI x2), some (zI x3), some (zI v4), some (zI (v5 + 1)), none, none]) A dX11_drifts_70 (Nat.le_of_ble_eq_true rfl) rfl ?_
    refine s_aload_n A dX11_drifts_72 rfl ?_
    refine s_iconst A dX11_drifts_73 ?_
    refine s_callV (a := 153) (k := 11) (N := 45) (sl := true) (M := mX11_draw) (n := 1) (d := 0) (mc := 0) (ms := 0) (av := [zI 3]) (st := []) A dX11_drifts_74 rfl (by decide) (zk_153 _) zwd1851 zwd1853 zwd81 zwd100 zcd_X11_draw (Nat.le_of_ble_eq_true rfl) (Nat.le_of_ble_eq_true rfl) (Nat.le_refl _) ⟨Nat.le_of_ble_eq_true rfl, Nat.le_of_ble_eq_true rfl⟩ ⟨rfl, zhn_X11_draw⟩ rfl (Nat.le_of_ble_eq_true rfl) rfl (z_contI (fun v6 μ6 h => ?_) h)
    refine s_istore (L' := [some (zR (some 153)), none, some (zI x2), some (zI x3), some (zI v4), some (zI (v5 + 1)), some (zI v6), none]) A dX11_drifts_77 (Nat.le_of_ble_eq_true rfl) rfl ?_
    refine s_iconst A dX11_drifts_79 ?_
    refine s_iload A dX11_drifts_80 rfl ?_
    refine s_imul A dX11_drifts_82 ?_
    refine s_getsT (t := 7) A dX11_drifts_83 (by decide) zwd1297 ?_
    refine s_iload A dX11_drifts_86 rfl ?_
    obtain ⟨ox7, h⟩ := h
    refine z_tald A dX11_drifts_88 (by decide) (Nat.le_of_ble_eq_true rfl) ox7 ?_
    refine s_imul A dX11_drifts_89 ?_
    refine s_iload A dX11_drifts_90 rfl ?_
    refine s_iadd A dX11_drifts_92 ?_
    refine s_istore (L' := [some (zR (some 153)), none, some (zI x2), some (zI x3), some (zI v4), some (zI (v5 + 1)), some (zI v6), some (zI (((3 * (v5 + 1)) * (zta 7 v4)) + v6))]) A dX11_drifts_93 (Nat.le_of_ble_eq_true rfl) rfl ?_
    refine s_aload_n A dX11_drifts_95 rfl ?_
    refine s_getf (k := 11) (j := 40) (sl := true) (v := zR (some 176)) A dX11_drifts_96 rfl zuw_X11 (Nat.le_of_ble_eq_true rfl) zwd1348 (by decide) (zk_153 _) rfl ?_
    refine s_iload A dX11_drifts_99 rfl ?_
    refine s_iconst A dX11_drifts_101 ?_
    refine s_bipush A dX11_drifts_102 rfl ?_
    refine s_aload_n A dX11_drifts_104 rfl ?_
    refine s_getf (k := 11) (j := 40) (sl := true) (v := zR (some 176)) A dX11_drifts_105 rfl zuw_X11 (Nat.le_of_ble_eq_true rfl) zwd1348 (by decide) (zk_153 _) rfl ?_
    refine s_iload A dX11_drifts_108 rfl ?_
    obtain ⟨ox8, h⟩ := h
    refine z_iald A dX11_drifts_110 (zk_176 _) (Nat.le_of_ble_eq_true rfl) ox8 ?_
    refine s_aload_n A dX11_drifts_111 rfl ?_
    refine s_bipush A dX11_drifts_112 rfl ?_
    refine s_callV (a := 153) (k := 11) (N := 45) (sl := true) (M := mX11_draw) (n := 1) (d := 0) (mc := 0) (ms := 0) (av := [zI 21]) (st := [zI (zi μ6 176 (((3 * (v5 + 1)) * (zta 7 v4)) + v6)), zI 100, zI 0, zI (((3 * (v5 + 1)) * (zta 7 v4)) + v6), zR (some 176)]) A dX11_drifts_114 rfl (by decide) (zk_153 _) zwd1851 zwd1853 zwd81 zwd100 zcd_X11_draw (Nat.le_of_ble_eq_true rfl) (Nat.le_of_ble_eq_true rfl) (Nat.le_refl _) ⟨Nat.le_of_ble_eq_true rfl, Nat.le_of_ble_eq_true rfl⟩ ⟨rfl, zhn_X11_draw⟩ rfl (Nat.le_of_ble_eq_true rfl) rfl (z_contI (fun v9 μ9 h => ?_) h)
    refine s_iadd A dX11_drifts_117 ?_
    refine s_bipush A dX11_drifts_118 rfl ?_
    refine s_isub A dX11_drifts_120 ?_
    obtain ⟨oz10, h⟩ := h
    refine z_mmin A dX11_drifts_121 zwd1575 zwd509 zwd105 zwd510 (Nat.le_of_ble_eq_true rfl) (Nat.le_of_ble_eq_true rfl) ⟨Nat.le_of_ble_eq_true rfl, Nat.le_of_ble_eq_true rfl⟩ ⟨by decide, by decide⟩ oz10 ?_
    obtain ⟨oz11, h⟩ := h
    refine z_mmax A dX11_drifts_124 zwd1590 zwd506 zwd105 zwd507 (Nat.le_of_ble_eq_true rfl) (Nat.le_of_ble_eq_true rfl) ⟨Nat.le_of_ble_eq_true rfl, Nat.le_of_ble_eq_true rfl⟩ ⟨by decide, by decide⟩ oz11 ?_
    refine z_iast A dX11_drifts_127 (zk_176 _) (Nat.le_of_ble_eq_true rfl) ox8 ?_
    refine s_iinc (L' := [some (zR (some 153)), none, some (zI x2), some (zI (x3 + 1)), some (zI v4), some (zI (v5 + 1)), some (zI v6), some (zI (((3 * (v5 + 1)) * (zta 7 v4)) + v6))]) A dX11_drifts_128 rfl rfl ?_
    refine s_goto (tgt := 51) A dX11_drifts_131 (by decide) ?_
    exact z_wk (L' := [some (zR (some 153)), none, some (zI x2), some (zI (x3 + 1)), none, none, none, none]) ⟨rfl, rfl, rfl, trivial⟩ h
set_option maxRecDepth 20000 in
theorem rX11_drifts_139 {G : zG} {F : Int → zM → Prop} {J : Nat → zS → Prop} {μ : zM} (C : zJ G true (12) 0 0 mX11_drifts (zKI F) J) (x3 : Int) (x4 : Int)
    (h : zin x4 ∧ ((4 ≤ x4 → qX11_layColours G 176 μ (fun μ3 => qX11_matchOf G 200 200 200 μ3 (fun v4 μ4 => zin v4 ∧ qX11_tell G v4 (zup μ4 153 4 0) (fun μ6 => qX11_numberOf G true v4 μ6 (fun v7 μ7 => qX11_apartOf G v7 200 200 200 μ7 (fun v8 μ8 => zin v8 ∧ qX11_tell G v8 μ8 (fun μ10 => F x3 μ10))))))) ∧ (¬ (4 ≤ x4) → qX11_risesOf G 176 x4 μ (fun v11 μ11 => J 139 ([some (zR (some 153)), none, none, some (zI (x3 + v11)), some (zI (x4 + 1)), none, none, none], [], μ11, 0, 0))))) : J 139 ([some (zR (some 153)), none, none, some (zI x3), some (zI x4), none, none, none], [], μ, 0, 0) := by
  obtain ⟨p, e, s, m, args, below, meth, c, A, hml, hr, hlk, hnm, rfl⟩ := C
  refine s_iload A dX11_drifts_139 rfl ?_
  refine s_iconst A dX11_drifts_141 ?_
  obtain ⟨oz1, h⟩ := h
  refine z_icmp_ge (tgt := 164) A dX11_drifts_142 (by decide) oz1 ⟨by decide, by decide⟩ (fun c2 => ?_) (fun c2 => ?_)
  · have h := h.1 c2
    refine s_aload_n A dX11_drifts_164 rfl ?_
    refine s_aload_n A dX11_drifts_165 rfl ?_
    refine s_getf (k := 11) (j := 40) (sl := true) (v := zR (some 176)) A dX11_drifts_166 rfl zuw_X11 (Nat.le_of_ble_eq_true rfl) zwd1348 (by decide) (zk_153 _) rfl ?_
    refine s_callV (a := 153) (k := 11) (N := 45) (sl := true) (M := mX11_layColours) (n := 1) (d := 11) (mc := 0) (ms := 0) (av := [zR (some 176)]) (st := []) A dX11_drifts_169 rfl (by decide) (zk_153 _) zwd1643 zwd1645 zwd55 zwd100 zcd_X11_layColours (Nat.le_of_ble_eq_true rfl) (Nat.le_of_ble_eq_true rfl) (Nat.le_refl _) ⟨Nat.le_of_ble_eq_true rfl, Nat.le_of_ble_eq_true rfl⟩ ⟨rfl, zhn_X11_layColours⟩ rfl (Nat.le_of_ble_eq_true rfl) rfl (z_contV (fun μ3 h => ?_) h)
    refine s_aload_n A dX11_drifts_172 rfl ?_
    refine s_sipush A dX11_drifts_173 rfl ?_
    refine s_sipush A dX11_drifts_176 rfl ?_
    refine s_sipush A dX11_drifts_179 rfl ?_
    refine s_callV (a := 153) (k := 11) (N := 45) (sl := true) (M := mX11_matchOf) (n := 3) (d := 9) (mc := 0) (ms := 0) (av := [zI 200, zI 200, zI 200]) (st := []) A dX11_drifts_182 rfl (by decide) (zk_153 _) zwd1651 zwd1653 zwd57 zwd100 zcd_X11_matchOf (Nat.le_of_ble_eq_true rfl) (Nat.le_of_ble_eq_true rfl) (Nat.le_refl _) ⟨Nat.le_of_ble_eq_true rfl, Nat.le_of_ble_eq_true rfl⟩ ⟨rfl, zhn_X11_matchOf⟩ rfl (Nat.le_of_ble_eq_true rfl) rfl (z_contI (fun v4 μ4 h => ?_) h)
    refine s_istore (L' := [some (zR (some 153)), none, none, some (zI x3), some (zI v4), none, none, none]) A dX11_drifts_185 (Nat.le_of_ble_eq_true rfl) rfl ?_
    refine s_aload_n A dX11_drifts_187 rfl ?_
    refine s_iconst A dX11_drifts_188 ?_
    refine z_putI (k := 11) (j := 4) (sl := true) A dX11_drifts_189 rfl zuw_X11 (Nat.le_of_ble_eq_true rfl) zwd1312 (by decide) (zk_153 _) tyX11 tyX11_ok nmX11 rfl rfl rfl ?_
    refine s_aload_n A dX11_drifts_192 rfl ?_
    refine s_iload A dX11_drifts_193 rfl ?_
    obtain ⟨oz5, h⟩ := h
    refine z_i2l2 A dX11_drifts_195 oz5 ?_
    refine s_callV (a := 153) (k := 11) (N := 45) (sl := true) (M := mX11_tell) (n := 1) (d := 0) (mc := 0) (ms := 0) (av := [zL v4]) (st := []) A dX11_drifts_196 rfl (by decide) (zk_153 _) zwd1613 zwd1615 zwd51 zwd100 zcd_X11_tell (Nat.le_of_ble_eq_true rfl) (Nat.le_of_ble_eq_true rfl) (Nat.le_refl _) ⟨Nat.le_of_ble_eq_true rfl, Nat.le_of_ble_eq_true rfl⟩ ⟨rfl, zhn_X11_tell⟩ rfl (Nat.le_of_ble_eq_true rfl) rfl (z_contV (fun μ6 h => ?_) h)
    refine s_aload_n A dX11_drifts_199 rfl ?_
    refine s_aload_n A dX11_drifts_200 rfl ?_
    refine s_iload A dX11_drifts_201 rfl ?_
    refine s_callS (M := mX11_numberOf) (n := 1) (d := 2) (mc := 0) (ms := 0) (av := [zI v4]) (st := [zR (some 153), zR (some 153)]) A dX11_drifts_203 zwd1671 zwd1672 zwd100 zcd_X11_numberOf (Nat.le_of_ble_eq_true rfl) (Nat.le_of_ble_eq_true rfl) (Nat.le_refl _) ⟨Nat.le_of_ble_eq_true rfl, Nat.le_of_ble_eq_true rfl⟩ zhn_X11_numberOf rfl (Nat.le_of_ble_eq_true rfl) rfl (z_contI (fun v7 μ7 h => ?_) h)
    refine s_sipush A dX11_drifts_206 rfl ?_
    refine s_sipush A dX11_drifts_209 rfl ?_
    refine s_sipush A dX11_drifts_212 rfl ?_
    refine s_callV (a := 153) (k := 11) (N := 45) (sl := true) (M := mX11_apartOf) (n := 4) (d := 2) (mc := 0) (ms := 0) (av := [zI v7, zI 200, zI 200, zI 200]) (st := [zR (some 153)]) A dX11_drifts_215 rfl (by decide) (zk_153 _) zwd1659 zwd1661 zwd59 zwd100 zcd_X11_apartOf (Nat.le_of_ble_eq_true rfl) (Nat.le_of_ble_eq_true rfl) (Nat.le_refl _) ⟨Nat.le_of_ble_eq_true rfl, Nat.le_of_ble_eq_true rfl⟩ ⟨rfl, zhn_X11_apartOf⟩ rfl (Nat.le_of_ble_eq_true rfl) rfl (z_contI (fun v8 μ8 h => ?_) h)
    obtain ⟨oz9, h⟩ := h
    refine z_i2l2 A dX11_drifts_218 oz9 ?_
    refine s_callV (a := 153) (k := 11) (N := 45) (sl := true) (M := mX11_tell) (n := 1) (d := 0) (mc := 0) (ms := 0) (av := [zL v8]) (st := []) A dX11_drifts_219 rfl (by decide) (zk_153 _) zwd1613 zwd1615 zwd51 zwd100 zcd_X11_tell (Nat.le_of_ble_eq_true rfl) (Nat.le_of_ble_eq_true rfl) (Nat.le_refl _) ⟨Nat.le_of_ble_eq_true rfl, Nat.le_of_ble_eq_true rfl⟩ ⟨rfl, zhn_X11_tell⟩ rfl (Nat.le_of_ble_eq_true rfl) rfl (z_contV (fun μ10 h => ?_) h)
    refine s_iload_n A dX11_drifts_222 rfl ?_
    exact s_iret A dX11_drifts_223 hr hlk (Nat.le_of_ble_eq_true rfl) (Nat.le_of_ble_eq_true rfl) ⟨_, rfl, h⟩
  · have h := h.2 c2
    refine s_iload_n A dX11_drifts_145 rfl ?_
    refine s_aload_n A dX11_drifts_146 rfl ?_
    refine s_aload_n A dX11_drifts_147 rfl ?_
    refine s_getf (k := 11) (j := 40) (sl := true) (v := zR (some 176)) A dX11_drifts_148 rfl zuw_X11 (Nat.le_of_ble_eq_true rfl) zwd1348 (by decide) (zk_153 _) rfl ?_
    refine s_iload A dX11_drifts_151 rfl ?_
    refine s_callV (a := 153) (k := 11) (N := 45) (sl := true) (M := mX11_risesOf) (n := 2) (d := 10) (mc := 0) (ms := 0) (av := [zR (some 176), zI x4]) (st := [zI x3]) A dX11_drifts_153 rfl (by decide) (zk_153 _) zwd1756 zwd1758 zwd73 zwd100 zcd_X11_risesOf (Nat.le_of_ble_eq_true rfl) (Nat.le_of_ble_eq_true rfl) (Nat.le_refl _) ⟨Nat.le_of_ble_eq_true rfl, Nat.le_of_ble_eq_true rfl⟩ ⟨rfl, zhn_X11_risesOf⟩ rfl (Nat.le_of_ble_eq_true rfl) rfl (z_contI (fun v11 μ11 h => ?_) h)
    refine s_iadd A dX11_drifts_156 ?_
    refine s_istore_n (L' := [some (zR (some 153)), none, none, some (zI (x3 + v11)), some (zI x4), none, none, none]) A dX11_drifts_157 (Nat.le_of_ble_eq_true rfl) rfl ?_
    refine s_iinc (L' := [some (zR (some 153)), none, none, some (zI (x3 + v11)), some (zI (x4 + 1)), none, none, none]) A dX11_drifts_158 rfl rfl ?_
    refine s_goto (tgt := 139) A dX11_drifts_161 (by decide) ?_
    exact h
theorem eX11_drifts {G : zG} {F : Int → zM → Prop} {μ : zM} {x1 : Int} {x2 : Int} (h : ∀ J, zJ G true (12) 0 0 mX11_drifts (zKI F) J → J 0 ([some (zR (some 153)), some (zI x1), some (zI x2), none, none, none, none, none], [], μ, 0, 0)) : qX11_drifts G x1 x2 μ F :=
  z_body (by decide +kernel) (Nat.le_of_ble_eq_true rfl) h
set_option maxRecDepth 20000 in
theorem rX11_measured_e {G : zG} {F : Int → zM → Prop} {J : Nat → zS → Prop} {μ : zM} (C : zJ G true (0) 0 0 mX11_measured (zKI F) J) 
    (h : J 4 ([some (zR (some 153)), some (zI 0), some (zI 0)], [], μ, 0, 0)) : J 0 ([some (zR (some 153)), none, none], [], μ, 0, 0) := by
  obtain ⟨p, e, s, m, args, below, meth, c, A, hml, hr, hlk, hnm, rfl⟩ := C
  refine s_iconst A dX11_measured_0 ?_
  refine s_istore_n (L' := [some (zR (some 153)), some (zI 0), none]) A dX11_measured_1 (Nat.le_of_ble_eq_true rfl) rfl ?_
  refine s_iconst A dX11_measured_2 ?_
  refine s_istore_n (L' := [some (zR (some 153)), some (zI 0), some (zI 0)]) A dX11_measured_3 (Nat.le_of_ble_eq_true rfl) rfl ?_
  exact h
set_option maxRecDepth 20000 in
theorem rX11_measured_4 {G : zG} {F : Int → zM → Prop} {J : Nat → zS → Prop} {μ : zM} (C : zJ G true (0) 0 0 mX11_measured (zKI F) J) (x1 : Int) (x2 : Int)
    (h : zin x2 ∧ ((81 ≤ x2 → F x1 μ) ∧ (¬ (81 ≤ x2) → (0 ≤ 243 + x2 ∧ 243 + x2 < 711) ∧ J 4 ([some (zR (some 153)), some (zI (x1 + (zi μ 154 (243 + x2)))), some (zI (x2 + 1))], [], μ, 0, 0)))) : J 4 ([some (zR (some 153)), some (zI x1), some (zI x2)], [], μ, 0, 0) := by
  obtain ⟨p, e, s, m, args, below, meth, c, A, hml, hr, hlk, hnm, rfl⟩ := C
  refine s_iload_n A dX11_measured_4 rfl ?_
  refine s_bipush A dX11_measured_5 rfl ?_
  obtain ⟨oz1, h⟩ := h
  refine z_icmp_ge (tgt := 29) A dX11_measured_7 (by decide) oz1 ⟨by decide, by decide⟩ (fun c2 => ?_) (fun c2 => ?_)
  · have h := h.1 c2
    refine s_iload_n A dX11_measured_29 rfl ?_
    exact s_iret A dX11_measured_30 hr hlk (Nat.le_of_ble_eq_true rfl) (Nat.le_of_ble_eq_true rfl) ⟨_, rfl, h⟩
  · have h := h.2 c2
    refine s_iload_n A dX11_measured_10 rfl ?_
    refine s_aload_n A dX11_measured_11 rfl ?_
    refine s_getf (k := 11) (j := 0) (sl := true) (v := zR (some 154)) A dX11_measured_12 rfl zuw_X11 (Nat.le_of_ble_eq_true rfl) zwd1308 (by decide) (zk_153 _) rfl ?_
    refine s_sipush A dX11_measured_15 rfl ?_
    refine s_iload_n A dX11_measured_18 rfl ?_
    refine s_iadd A dX11_measured_19 ?_
    obtain ⟨ox3, h⟩ := h
    refine z_iald A dX11_measured_20 (zk_154 _) (Nat.le_of_ble_eq_true rfl) ox3 ?_
    refine s_iadd A dX11_measured_21 ?_
    refine s_istore_n (L' := [some (zR (some 153)), some (zI (x1 + (zi μ 154 (243 + x2)))), some (zI x2)]) A dX11_measured_22 (Nat.le_of_ble_eq_true rfl) rfl ?_
    refine s_iinc (L' := [some (zR (some 153)), some (zI (x1 + (zi μ 154 (243 + x2)))), some (zI (x2 + 1))]) A dX11_measured_23 rfl rfl ?_
    refine s_goto (tgt := 4) A dX11_measured_26 (by decide) ?_
    exact h
theorem eX11_measured {G : zG} {F : Int → zM → Prop} {μ : zM}  (h : ∀ J, zJ G true (0) 0 0 mX11_measured (zKI F) J → J 0 ([some (zR (some 153)), none, none], [], μ, 0, 0)) : qX11_measured G  μ F :=
  z_body (by decide +kernel) (Nat.le_of_ble_eq_true rfl) h
set_option maxRecDepth 20000 in
theorem rX11_measure_e {G : zG} {F : Int → zM → Prop} {J : Nat → zS → Prop} {μ : zM} (C : zJ G true (4) 0 0 mX11_measure (zKI F) J) (x1 : Int) (x2 : Int) (x3 : Int) (x4 : Int)
    (h : qX11_in G true x1 0 80 (zup μ 153 5 0) (fun v1 μ1 => zin v1 ∧ ((v1 = 0 → F (-1) μ1) ∧ (¬ (v1 = 0) → qX11_in G true x2 0 100 μ1 (fun v4 μ4 => zin v4 ∧ ((v4 = 0 → F (-1) μ4) ∧ (¬ (v4 = 0) → qX11_in G true x3 0 100 μ4 (fun v7 μ7 => zin v7 ∧ ((v7 = 0 → F (-1) μ7) ∧ (¬ (v7 = 0) → qX11_in G true x4 0 100 μ7 (fun v10 μ10 => zin v10 ∧ ((¬ v10 = 0 → qX11_change G μ10 (fun μ13 => qX11_putLight G x1 x2 x3 x4 μ13 (fun μ14 => qX11_measured G μ14 (fun v15 μ15 => F v15 μ15)))) ∧ (v10 = 0 → F (-1) μ10))))))))))))) : J 0 ([some (zR (some 153)), some (zI x1), some (zI x2), some (zI x3), some (zI x4)], [], μ, 0, 0) := by
  obtain ⟨p, e, s, m, args, below, meth, c, A, hml, hr, hlk, hnm, rfl⟩ := C
  refine s_aload_n A dX11_measure_0 rfl ?_
  refine s_iconst A dX11_measure_1 ?_
  refine z_putI (k := 11) (j := 5) (sl := true) A dX11_measure_2 rfl zuw_X11 (Nat.le_of_ble_eq_true rfl) zwd1313 (by decide) (zk_153 _) tyX11 tyX11_ok nmX11 rfl rfl rfl ?_
  refine s_iload_n A dX11_measure_5 rfl ?_
  refine s_iconst A dX11_measure_6 ?_
  refine s_bipush A dX11_measure_7 rfl ?_
  refine s_callS (M := mX11_in) (n := 3) (d := 0) (mc := 0) (ms := 0) (av := [zI x1, zI 0, zI 80]) (st := []) A dX11_measure_9 zwd1456 zwd1457 zwd100 zcd_X11_in (Nat.le_of_ble_eq_true rfl) (Nat.le_of_ble_eq_true rfl) (Nat.le_refl _) ⟨Nat.le_of_ble_eq_true rfl, Nat.le_of_ble_eq_true rfl⟩ zhn_X11_in rfl (Nat.le_of_ble_eq_true rfl) rfl (z_contI (fun v1 μ1 h => ?_) h)
  obtain ⟨oz2, h⟩ := h
  refine z_if_eq (tgt := 46) A dX11_measure_12 (by decide) oz2 (fun c3 => ?_) (fun c3 => ?_)
  · have h := h.1 c3
    refine s_iconst A dX11_measure_46 ?_
    exact s_iret A dX11_measure_47 hr hlk (Nat.le_of_ble_eq_true rfl) (Nat.le_of_ble_eq_true rfl) ⟨_, rfl, h⟩
  · have h := h.2 c3
    refine s_iload_n A dX11_measure_15 rfl ?_
    refine s_iconst A dX11_measure_16 ?_
    refine s_bipush A dX11_measure_17 rfl ?_
    refine s_callS (M := mX11_in) (n := 3) (d := 0) (mc := 0) (ms := 0) (av := [zI x2, zI 0, zI 100]) (st := []) A dX11_measure_19 zwd1456 zwd1457 zwd100 zcd_X11_in (Nat.le_of_ble_eq_true rfl) (Nat.le_of_ble_eq_true rfl) (Nat.le_refl _) ⟨Nat.le_of_ble_eq_true rfl, Nat.le_of_ble_eq_true rfl⟩ zhn_X11_in rfl (Nat.le_of_ble_eq_true rfl) rfl (z_contI (fun v4 μ4 h => ?_) h)
    obtain ⟨oz5, h⟩ := h
    refine z_if_eq (tgt := 46) A dX11_measure_22 (by decide) oz5 (fun c6 => ?_) (fun c6 => ?_)
    · have h := h.1 c6
      refine s_iconst A dX11_measure_46 ?_
      exact s_iret A dX11_measure_47 hr hlk (Nat.le_of_ble_eq_true rfl) (Nat.le_of_ble_eq_true rfl) ⟨_, rfl, h⟩
    · have h := h.2 c6
      refine s_iload_n A dX11_measure_25 rfl ?_
      refine s_iconst A dX11_measure_26 ?_
      refine s_bipush A dX11_measure_27 rfl ?_
      refine s_callS (M := mX11_in) (n := 3) (d := 0) (mc := 0) (ms := 0) (av := [zI x3, zI 0, zI 100]) (st := []) A dX11_measure_29 zwd1456 zwd1457 zwd100 zcd_X11_in (Nat.le_of_ble_eq_true rfl) (Nat.le_of_ble_eq_true rfl) (Nat.le_refl _) ⟨Nat.le_of_ble_eq_true rfl, Nat.le_of_ble_eq_true rfl⟩ zhn_X11_in rfl (Nat.le_of_ble_eq_true rfl) rfl (z_contI (fun v7 μ7 h => ?_) h)
      obtain ⟨oz8, h⟩ := h
      refine z_if_eq (tgt := 46) A dX11_measure_32 (by decide) oz8 (fun c9 => ?_) (fun c9 => ?_)
      · have h := h.1 c9
        refine s_iconst A dX11_measure_46 ?_
        exact s_iret A dX11_measure_47 hr hlk (Nat.le_of_ble_eq_true rfl) (Nat.le_of_ble_eq_true rfl) ⟨_, rfl, h⟩
      · have h := h.2 c9
        refine s_iload A dX11_measure_35 rfl ?_
        refine s_iconst A dX11_measure_37 ?_
        refine s_bipush A dX11_measure_38 rfl ?_
        refine s_callS (M := mX11_in) (n := 3) (d := 0) (mc := 0) (ms := 0) (av := [zI x4, zI 0, zI 100]) (st := []) A dX11_measure_40 zwd1456 zwd1457 zwd100 zcd_X11_in (Nat.le_of_ble_eq_true rfl) (Nat.le_of_ble_eq_true rfl) (Nat.le_refl _) ⟨Nat.le_of_ble_eq_true rfl, Nat.le_of_ble_eq_true rfl⟩ zhn_X11_in rfl (Nat.le_of_ble_eq_true rfl) rfl (z_contI (fun v10 μ10 h => ?_) h)
        obtain ⟨oz11, h⟩ := h
        refine z_if_ne (tgt := 48) A dX11_measure_43 (by decide) oz11 (fun c12 => ?_) (fun c12 => ?_)
        · have h := h.1 c12
          refine s_aload_n A dX11_measure_48 rfl ?_
          refine s_callV (a := 153) (k := 11) (N := 45) (sl := true) (M := mX11_change) (n := 0) (d := 2) (mc := 0) (ms := 0) (av := []) (st := []) A dX11_measure_49 rfl (by decide) (zk_153 _) zwd1499 zwd1501 zwd39 zwd100 zcd_X11_change (Nat.le_of_ble_eq_true rfl) (Nat.le_of_ble_eq_true rfl) (Nat.le_refl _) ⟨Nat.le_of_ble_eq_true rfl, Nat.le_of_ble_eq_true rfl⟩ ⟨rfl, zhn_X11_change⟩ rfl (Nat.le_of_ble_eq_true rfl) rfl (z_contV (fun μ13 h => ?_) h)
          refine s_aload_n A dX11_measure_52 rfl ?_
          refine s_iload_n A dX11_measure_53 rfl ?_
          refine s_iload_n A dX11_measure_54 rfl ?_
          refine s_iload_n A dX11_measure_55 rfl ?_
          refine s_iload A dX11_measure_56 rfl ?_
          refine s_callV (a := 153) (k := 11) (N := 45) (sl := true) (M := mX11_putLight) (n := 4) (d := 3) (mc := 0) (ms := 0) (av := [zI x1, zI x2, zI x3, zI x4]) (st := []) A dX11_measure_58 rfl (by decide) (zk_153 _) zwd1507 zwd1509 zwd41 zwd100 zcd_X11_putLight (Nat.le_of_ble_eq_true rfl) (Nat.le_of_ble_eq_true rfl) (Nat.le_refl _) ⟨Nat.le_of_ble_eq_true rfl, Nat.le_of_ble_eq_true rfl⟩ ⟨rfl, zhn_X11_putLight⟩ rfl (Nat.le_of_ble_eq_true rfl) rfl (z_contV (fun μ14 h => ?_) h)
          refine s_aload_n A dX11_measure_61 rfl ?_
          refine s_callV (a := 153) (k := 11) (N := 45) (sl := true) (M := mX11_measured) (n := 0) (d := 0) (mc := 0) (ms := 0) (av := []) (st := []) A dX11_measure_62 rfl (by decide) (zk_153 _) zwd1860 zwd1862 zwd82 zwd100 zcd_X11_measured (Nat.le_of_ble_eq_true rfl) (Nat.le_of_ble_eq_true rfl) (Nat.le_refl _) ⟨Nat.le_of_ble_eq_true rfl, Nat.le_of_ble_eq_true rfl⟩ ⟨rfl, zhn_X11_measured⟩ rfl (Nat.le_of_ble_eq_true rfl) rfl (z_contI (fun v15 μ15 h => ?_) h)
          exact s_iret A dX11_measure_65 hr hlk (Nat.le_of_ble_eq_true rfl) (Nat.le_of_ble_eq_true rfl) ⟨_, rfl, h⟩
        · have h := h.2 c12
          refine s_iconst A dX11_measure_46 ?_
          exact s_iret A dX11_measure_47 hr hlk (Nat.le_of_ble_eq_true rfl) (Nat.le_of_ble_eq_true rfl) ⟨_, rfl, h⟩
theorem eX11_measure {G : zG} {F : Int → zM → Prop} {μ : zM} {x1 : Int} {x2 : Int} {x3 : Int} {x4 : Int} (h : ∀ J, zJ G true (4) 0 0 mX11_measure (zKI F) J → J 0 ([some (zR (some 153)), some (zI x1), some (zI x2), some (zI x3), some (zI x4)], [], μ, 0, 0)) : qX11_measure G x1 x2 x3 x4 μ F :=
  z_body (by decide +kernel) (Nat.le_of_ble_eq_true rfl) h
set_option maxRecDepth 20000 in
theorem rX11_forgets_e {G : zG} {F : Int → zM → Prop} {J : Nat → zS → Prop} {μ : zM} (C : zJ G true (3) 0 0 mX11_forgets (zKI F) J) (x1 : Int)
    (h : qX11_in G true x1 0 80 (zup μ 153 5 0) (fun v1 μ1 => zin v1 ∧ ((¬ v1 = 0 → (0 ≤ 243 + x1 ∧ 243 + x1 < 711) ∧ zin (zi μ1 154 (243 + x1)) ∧ ((¬ zi μ1 154 (243 + x1) = 0 → qX11_change G μ1 (fun μ7 => qX11_measured G (zup μ7 154 (243 + x1) 0) (fun v8 μ8 => F v8 μ8))) ∧ (zi μ1 154 (243 + x1) = 0 → F (-2) μ1))) ∧ (v1 = 0 → F (-1) μ1)))) : J 0 ([some (zR (some 153)), some (zI x1)], [], μ, 0, 0) := by
  obtain ⟨p, e, s, m, args, below, meth, c, A, hml, hr, hlk, hnm, rfl⟩ := C
  refine s_aload_n A dX11_forgets_0 rfl ?_
  refine s_iconst A dX11_forgets_1 ?_
  refine z_putI (k := 11) (j := 5) (sl := true) A dX11_forgets_2 rfl zuw_X11 (Nat.le_of_ble_eq_true rfl) zwd1313 (by decide) (zk_153 _) tyX11 tyX11_ok nmX11 rfl rfl rfl ?_
  refine s_iload_n A dX11_forgets_5 rfl ?_
  refine s_iconst A dX11_forgets_6 ?_
  refine s_bipush A dX11_forgets_7 rfl ?_
  refine s_callS (M := mX11_in) (n := 3) (d := 0) (mc := 0) (ms := 0) (av := [zI x1, zI 0, zI 80]) (st := []) A dX11_forgets_9 zwd1456 zwd1457 zwd100 zcd_X11_in (Nat.le_of_ble_eq_true rfl) (Nat.le_of_ble_eq_true rfl) (Nat.le_refl _) ⟨Nat.le_of_ble_eq_true rfl, Nat.le_of_ble_eq_true rfl⟩ zhn_X11_in rfl (Nat.le_of_ble_eq_true rfl) rfl (z_contI (fun v1 μ1 h => ?_) h)
  obtain ⟨oz2, h⟩ := h
  refine z_if_ne (tgt := 17) A dX11_forgets_12 (by decide) oz2 (fun c3 => ?_) (fun c3 => ?_)
  · have h := h.1 c3
    refine s_aload_n A dX11_forgets_17 rfl ?_
    refine s_getf (k := 11) (j := 0) (sl := true) (v := zR (some 154)) A dX11_forgets_18 rfl zuw_X11 (Nat.le_of_ble_eq_true rfl) zwd1308 (by decide) (zk_153 _) rfl ?_
    refine s_sipush A dX11_forgets_21 rfl ?_
    refine s_iload_n A dX11_forgets_24 rfl ?_
    refine s_iadd A dX11_forgets_25 ?_
    obtain ⟨ox4, h⟩ := h
    refine z_iald A dX11_forgets_26 (zk_154 _) (Nat.le_of_ble_eq_true rfl) ox4 ?_
    obtain ⟨oz5, h⟩ := h
    refine z_if_ne (tgt := 33) A dX11_forgets_27 (by decide) oz5 (fun c6 => ?_) (fun c6 => ?_)
    · have h := h.1 c6
      refine s_aload_n A dX11_forgets_33 rfl ?_
      refine s_callV (a := 153) (k := 11) (N := 45) (sl := true) (M := mX11_change) (n := 0) (d := 2) (mc := 0) (ms := 0) (av := []) (st := []) A dX11_forgets_34 rfl (by decide) (zk_153 _) zwd1499 zwd1501 zwd39 zwd100 zcd_X11_change (Nat.le_of_ble_eq_true rfl) (Nat.le_of_ble_eq_true rfl) (Nat.le_refl _) ⟨Nat.le_of_ble_eq_true rfl, Nat.le_of_ble_eq_true rfl⟩ ⟨rfl, zhn_X11_change⟩ rfl (Nat.le_of_ble_eq_true rfl) rfl (z_contV (fun μ7 h => ?_) h)
      refine s_aload_n A dX11_forgets_37 rfl ?_
      refine s_getf (k := 11) (j := 0) (sl := true) (v := zR (some 154)) A dX11_forgets_38 rfl zuw_X11 (Nat.le_of_ble_eq_true rfl) zwd1308 (by decide) (zk_153 _) rfl ?_
      refine s_sipush A dX11_forgets_41 rfl ?_
      refine s_iload_n A dX11_forgets_44 rfl ?_
      refine s_iadd A dX11_forgets_45 ?_
      refine s_iconst A dX11_forgets_46 ?_
      refine z_iast A dX11_forgets_47 (zk_154 _) (Nat.le_of_ble_eq_true rfl) ox4 ?_
      refine s_aload_n A dX11_forgets_48 rfl ?_
      refine s_callV (a := 153) (k := 11) (N := 45) (sl := true) (M := mX11_measured) (n := 0) (d := 0) (mc := 0) (ms := 0) (av := []) (st := []) A dX11_forgets_49 rfl (by decide) (zk_153 _) zwd1860 zwd1862 zwd82 zwd100 zcd_X11_measured (Nat.le_of_ble_eq_true rfl) (Nat.le_of_ble_eq_true rfl) (Nat.le_refl _) ⟨Nat.le_of_ble_eq_true rfl, Nat.le_of_ble_eq_true rfl⟩ ⟨rfl, zhn_X11_measured⟩ rfl (Nat.le_of_ble_eq_true rfl) rfl (z_contI (fun v8 μ8 h => ?_) h)
      exact s_iret A dX11_forgets_52 hr hlk (Nat.le_of_ble_eq_true rfl) (Nat.le_of_ble_eq_true rfl) ⟨_, rfl, h⟩
    · have h := h.2 c6
      refine s_bipush A dX11_forgets_30 rfl ?_
      exact s_iret A dX11_forgets_32 hr hlk (Nat.le_of_ble_eq_true rfl) (Nat.le_of_ble_eq_true rfl) ⟨_, rfl, h⟩
  · have h := h.2 c3
    refine s_iconst A dX11_forgets_15 ?_
    exact s_iret A dX11_forgets_16 hr hlk (Nat.le_of_ble_eq_true rfl) (Nat.le_of_ble_eq_true rfl) ⟨_, rfl, h⟩
theorem eX11_forgets {G : zG} {F : Int → zM → Prop} {μ : zM} {x1 : Int} (h : ∀ J, zJ G true (3) 0 0 mX11_forgets (zKI F) J → J 0 ([some (zR (some 153)), some (zI x1)], [], μ, 0, 0)) : qX11_forgets G x1 μ F :=
  z_body (by decide +kernel) (Nat.le_of_ble_eq_true rfl) h
set_option maxRecDepth 20000 in
theorem rX11_refusesSet_e {G : zG} {F : Int → zM → Prop} {J : Nat → zS → Prop} {μ : zM} (C : zJ G true (2) 0 0 mX11_refusesSet (zKI F) J) (x1 : Int) (x2 : Int)
    (h : qX11_in G true x1 0 6 μ (fun v1 μ1 => zin v1 ∧ ((v1 = 0 → F (-1) μ1) ∧ (¬ (v1 = 0) → (0 ≤ x1 ∧ x1 < 7) ∧ qX11_in G true x2 (zta 10 x1) (zta 11 x1) μ1 (fun v5 μ5 => zin v5 ∧ ((¬ v5 = 0 → (0 ≤ 704 + x1 ∧ 704 + x1 < 711) ∧ zin (zi μ5 154 (704 + x1)) ∧ zin x2 ∧ ((¬ zi μ5 154 (704 + x1) = x2 → F 0 μ5) ∧ (zi μ5 154 (704 + x1) = x2 → F (-2) μ5))) ∧ (v5 = 0 → F (-1) μ5))))))) : J 0 ([some (zR (some 153)), some (zI x1), some (zI x2)], [], μ, 0, 0) := by
  obtain ⟨p, e, s, m, args, below, meth, c, A, hml, hr, hlk, hnm, rfl⟩ := C
  refine s_iload_n A dX11_refusesSet_0 rfl ?_
  refine s_iconst A dX11_refusesSet_1 ?_
  refine s_bipush A dX11_refusesSet_2 rfl ?_
  refine s_callS (M := mX11_in) (n := 3) (d := 0) (mc := 0) (ms := 0) (av := [zI x1, zI 0, zI 6]) (st := []) A dX11_refusesSet_4 zwd1456 zwd1457 zwd100 zcd_X11_in (Nat.le_of_ble_eq_true rfl) (Nat.le_of_ble_eq_true rfl) (Nat.le_refl _) ⟨Nat.le_of_ble_eq_true rfl, Nat.le_of_ble_eq_true rfl⟩ zhn_X11_in rfl (Nat.le_of_ble_eq_true rfl) rfl (z_contI (fun v1 μ1 h => ?_) h)
  obtain ⟨oz2, h⟩ := h
  refine z_if_eq (tgt := 27) A dX11_refusesSet_7 (by decide) oz2 (fun c3 => ?_) (fun c3 => ?_)
  · have h := h.1 c3
    refine s_iconst A dX11_refusesSet_27 ?_
    exact s_iret A dX11_refusesSet_28 hr hlk (Nat.le_of_ble_eq_true rfl) (Nat.le_of_ble_eq_true rfl) ⟨_, rfl, h⟩
  · have h := h.2 c3
    refine s_iload_n A dX11_refusesSet_10 rfl ?_
    refine s_getsT (t := 10) A dX11_refusesSet_11 (by decide) zwd1876 ?_
    refine s_iload_n A dX11_refusesSet_14 rfl ?_
    obtain ⟨ox4, h⟩ := h
    refine z_tald A dX11_refusesSet_15 (by decide) (Nat.le_of_ble_eq_true rfl) ox4 ?_
    refine s_getsT (t := 11) A dX11_refusesSet_16 (by decide) zwd1878 ?_
    refine s_iload_n A dX11_refusesSet_19 rfl ?_
    refine z_tald A dX11_refusesSet_20 (by decide) (Nat.le_of_ble_eq_true rfl) ox4 ?_
    refine s_callS (M := mX11_in) (n := 3) (d := 0) (mc := 0) (ms := 0) (av := [zI x2, zI (zta 10 x1), zI (zta 11 x1)]) (st := []) A dX11_refusesSet_21 zwd1456 zwd1457 zwd100 zcd_X11_in (Nat.le_of_ble_eq_true rfl) (Nat.le_of_ble_eq_true rfl) (Nat.le_refl _) ⟨Nat.le_of_ble_eq_true rfl, Nat.le_of_ble_eq_true rfl⟩ zhn_X11_in rfl (Nat.le_of_ble_eq_true rfl) rfl (z_contI (fun v5 μ5 h => ?_) h)
    obtain ⟨oz6, h⟩ := h
    refine z_if_ne (tgt := 29) A dX11_refusesSet_24 (by decide) oz6 (fun c7 => ?_) (fun c7 => ?_)
    · have h := h.1 c7
      refine s_aload_n A dX11_refusesSet_29 rfl ?_
      refine s_getf (k := 11) (j := 0) (sl := true) (v := zR (some 154)) A dX11_refusesSet_30 rfl zuw_X11 (Nat.le_of_ble_eq_true rfl) zwd1308 (by decide) (zk_153 _) rfl ?_
      refine s_sipush A dX11_refusesSet_33 rfl ?_
      refine s_iload_n A dX11_refusesSet_36 rfl ?_
      refine s_iadd A dX11_refusesSet_37 ?_
      obtain ⟨ox8, h⟩ := h
      refine z_iald A dX11_refusesSet_38 (zk_154 _) (Nat.le_of_ble_eq_true rfl) ox8 ?_
      refine s_iload_n A dX11_refusesSet_39 rfl ?_
      obtain ⟨oz9, h⟩ := h
      obtain ⟨oz10, h⟩ := h
      refine z_icmp_ne (tgt := 48) A dX11_refusesSet_40 (by decide) oz9 oz10 (fun c11 => ?_) (fun c11 => ?_)
      · have h := h.1 c11
        refine s_iconst A dX11_refusesSet_48 ?_
        exact s_iret A dX11_refusesSet_49 hr hlk (Nat.le_of_ble_eq_true rfl) (Nat.le_of_ble_eq_true rfl) ⟨_, rfl, h⟩
      · have h := h.2 c11
        refine s_bipush A dX11_refusesSet_43 rfl ?_
        refine s_goto (tgt := 49) A dX11_refusesSet_45 (by decide) ?_
        exact s_iret A dX11_refusesSet_49 hr hlk (Nat.le_of_ble_eq_true rfl) (Nat.le_of_ble_eq_true rfl) ⟨_, rfl, h⟩
    · have h := h.2 c7
      refine s_iconst A dX11_refusesSet_27 ?_
      exact s_iret A dX11_refusesSet_28 hr hlk (Nat.le_of_ble_eq_true rfl) (Nat.le_of_ble_eq_true rfl) ⟨_, rfl, h⟩
theorem eX11_refusesSet {G : zG} {F : Int → zM → Prop} {μ : zM} {x1 : Int} {x2 : Int} (h : ∀ J, zJ G true (2) 0 0 mX11_refusesSet (zKI F) J → J 0 ([some (zR (some 153)), some (zI x1), some (zI x2)], [], μ, 0, 0)) : qX11_refusesSet G x1 x2 μ F :=
  z_body (by decide +kernel) (Nat.le_of_ble_eq_true rfl) h
set_option maxRecDepth 20000 in
theorem rX11_sets_e {G : zG} {F : Int → zM → Prop} {J : Nat → zS → Prop} {μ : zM} (C : zJ G true (3) 0 0 mX11_sets (zKI F) J) (x1 : Int) (x2 : Int)
    (h : qX11_refusesSet G x1 x2 (zup μ 153 5 0) (fun v1 μ1 => zin v1 ∧ ((0 ≤ v1 → qX11_change G μ1 (fun μ4 => (0 ≤ 704 + x1 ∧ 704 + x1 < 711) ∧ F (zi μ4 154 (704 + x1)) (zup μ4 154 (704 + x1) x2))) ∧ (¬ (0 ≤ v1) → F v1 μ1)))) : J 0 ([some (zR (some 153)), some (zI x1), some (zI x2), none, none], [], μ, 0, 0) := by
  obtain ⟨p, e, s, m, args, below, meth, c, A, hml, hr, hlk, hnm, rfl⟩ := C
  refine s_aload_n A dX11_sets_0 rfl ?_
  refine s_iconst A dX11_sets_1 ?_
  refine z_putI (k := 11) (j := 5) (sl := true) A dX11_sets_2 rfl zuw_X11 (Nat.le_of_ble_eq_true rfl) zwd1313 (by decide) (zk_153 _) tyX11 tyX11_ok nmX11 rfl rfl rfl ?_
  refine s_aload_n A dX11_sets_5 rfl ?_
  refine s_iload_n A dX11_sets_6 rfl ?_
  refine s_iload_n A dX11_sets_7 rfl ?_
  refine s_callV (a := 153) (k := 11) (N := 45) (sl := true) (M := mX11_refusesSet) (n := 2) (d := 2) (mc := 0) (ms := 0) (av := [zI x1, zI x2]) (st := []) A dX11_sets_8 rfl (by decide) (zk_153 _) zwd1872 zwd1874 zwd83 zwd100 zcd_X11_refusesSet (Nat.le_of_ble_eq_true rfl) (Nat.le_of_ble_eq_true rfl) (Nat.le_refl _) ⟨Nat.le_of_ble_eq_true rfl, Nat.le_of_ble_eq_true rfl⟩ ⟨rfl, zhn_X11_refusesSet⟩ rfl (Nat.le_of_ble_eq_true rfl) rfl (z_contI (fun v1 μ1 h => ?_) h)
  refine s_istore_n (L' := [some (zR (some 153)), some (zI x1), some (zI x2), some (zI v1), none]) A dX11_sets_11 (Nat.le_of_ble_eq_true rfl) rfl ?_
  refine s_iload_n A dX11_sets_12 rfl ?_
  obtain ⟨oz2, h⟩ := h
  refine z_if_ge (tgt := 18) A dX11_sets_13 (by decide) oz2 (fun c3 => ?_) (fun c3 => ?_)
  · have h := h.1 c3
    refine s_aload_n A dX11_sets_18 rfl ?_
    refine s_callV (a := 153) (k := 11) (N := 45) (sl := true) (M := mX11_change) (n := 0) (d := 2) (mc := 0) (ms := 0) (av := []) (st := []) A dX11_sets_19 rfl (by decide) (zk_153 _) zwd1499 zwd1501 zwd39 zwd100 zcd_X11_change (Nat.le_of_ble_eq_true rfl) (Nat.le_of_ble_eq_true rfl) (Nat.le_refl _) ⟨Nat.le_of_ble_eq_true rfl, Nat.le_of_ble_eq_true rfl⟩ ⟨rfl, zhn_X11_change⟩ rfl (Nat.le_of_ble_eq_true rfl) rfl (z_contV (fun μ4 h => ?_) h)
    refine s_aload_n A dX11_sets_22 rfl ?_
    refine s_getf (k := 11) (j := 0) (sl := true) (v := zR (some 154)) A dX11_sets_23 rfl zuw_X11 (Nat.le_of_ble_eq_true rfl) zwd1308 (by decide) (zk_153 _) rfl ?_
    refine s_sipush A dX11_sets_26 rfl ?_
    refine s_iload_n A dX11_sets_29 rfl ?_
    refine s_iadd A dX11_sets_30 ?_
    obtain ⟨ox5, h⟩ := h
    refine z_iald A dX11_sets_31 (zk_154 _) (Nat.le_of_ble_eq_true rfl) ox5 ?_
    refine s_istore (L' := [some (zR (some 153)), some (zI x1), some (zI x2), some (zI v1), some (zI (zi μ4 154 (704 + x1)))]) A dX11_sets_32 (Nat.le_of_ble_eq_true rfl) rfl ?_
    refine s_aload_n A dX11_sets_34 rfl ?_
    refine s_getf (k := 11) (j := 0) (sl := true) (v := zR (some 154)) A dX11_sets_35 rfl zuw_X11 (Nat.le_of_ble_eq_true rfl) zwd1308 (by decide) (zk_153 _) rfl ?_
    refine s_sipush A dX11_sets_38 rfl ?_
    refine s_iload_n A dX11_sets_41 rfl ?_
    refine s_iadd A dX11_sets_42 ?_
    refine s_iload_n A dX11_sets_43 rfl ?_
    refine z_iast A dX11_sets_44 (zk_154 _) (Nat.le_of_ble_eq_true rfl) ox5 ?_
    refine s_iload A dX11_sets_45 rfl ?_
    exact s_iret A dX11_sets_47 hr hlk (Nat.le_of_ble_eq_true rfl) (Nat.le_of_ble_eq_true rfl) ⟨_, rfl, h⟩
  · have h := h.2 c3
    refine s_iload_n A dX11_sets_16 rfl ?_
    exact s_iret A dX11_sets_17 hr hlk (Nat.le_of_ble_eq_true rfl) (Nat.le_of_ble_eq_true rfl) ⟨_, rfl, h⟩
theorem eX11_sets {G : zG} {F : Int → zM → Prop} {μ : zM} {x1 : Int} {x2 : Int} (h : ∀ J, zJ G true (3) 0 0 mX11_sets (zKI F) J → J 0 ([some (zR (some 153)), some (zI x1), some (zI x2), none, none], [], μ, 0, 0)) : qX11_sets G x1 x2 μ F :=
  z_body (by decide +kernel) (Nat.le_of_ble_eq_true rfl) h
set_option maxRecDepth 20000 in
theorem rX11_paint_e {G : zG} {F : zM → Prop} {J : Nat → zS → Prop} {μ : zM} (C : zJ G true (0) 0 0 mX11_paint (zKV F) J) (x1 : Int) (x2 : Int) (x3 : Int) (x4 : Int)
    (h : (0 ≤ 614 + (3 * x1) ∧ 614 + (3 * x1) < 711) ∧ (0 ≤ (614 + (3 * x1)) + 1 ∧ (614 + (3 * x1)) + 1 < 711) ∧ (0 ≤ (614 + (3 * x1)) + 2 ∧ (614 + (3 * x1)) + 2 < 711) ∧ F (zup (zup (zup μ 154 (614 + (3 * x1)) x2) 154 ((614 + (3 * x1)) + 1) x3) 154 ((614 + (3 * x1)) + 2) x4)) : J 0 ([some (zR (some 153)), some (zI x1), some (zI x2), some (zI x3), some (zI x4)], [], μ, 0, 0) := by
  obtain ⟨p, e, s, m, args, below, meth, c, A, hml, hr, hlk, hnm, rfl⟩ := C
  refine s_aload_n A dX11_paint_0 rfl ?_
  refine s_getf (k := 11) (j := 0) (sl := true) (v := zR (some 154)) A dX11_paint_1 rfl zuw_X11 (Nat.le_of_ble_eq_true rfl) zwd1308 (by decide) (zk_153 _) rfl ?_
  refine s_sipush A dX11_paint_4 rfl ?_
  refine s_iconst A dX11_paint_7 ?_
  refine s_iload_n A dX11_paint_8 rfl ?_
  refine s_imul A dX11_paint_9 ?_
  refine s_iadd A dX11_paint_10 ?_
  refine s_iload_n A dX11_paint_11 rfl ?_
  obtain ⟨ox1, h⟩ := h
  refine z_iast A dX11_paint_12 (zk_154 _) (Nat.le_of_ble_eq_true rfl) ox1 ?_
  refine s_aload_n A dX11_paint_13 rfl ?_
  refine s_getf (k := 11) (j := 0) (sl := true) (v := zR (some 154)) A dX11_paint_14 rfl zuw_X11 (Nat.le_of_ble_eq_true rfl) zwd1308 (by decide) (zk_153 _) rfl ?_
  refine s_sipush A dX11_paint_17 rfl ?_
  refine s_iconst A dX11_paint_20 ?_
  refine s_iload_n A dX11_paint_21 rfl ?_
  refine s_imul A dX11_paint_22 ?_
  refine s_iadd A dX11_paint_23 ?_
  refine s_iconst A dX11_paint_24 ?_
  refine s_iadd A dX11_paint_25 ?_
  refine s_iload_n A dX11_paint_26 rfl ?_
  obtain ⟨ox2, h⟩ := h
  refine z_iast A dX11_paint_27 (zk_154 _) (Nat.le_of_ble_eq_true rfl) ox2 ?_
  refine s_aload_n A dX11_paint_28 rfl ?_
  refine s_getf (k := 11) (j := 0) (sl := true) (v := zR (some 154)) A dX11_paint_29 rfl zuw_X11 (Nat.le_of_ble_eq_true rfl) zwd1308 (by decide) (zk_153 _) rfl ?_
  refine s_sipush A dX11_paint_32 rfl ?_
  refine s_iconst A dX11_paint_35 ?_
  refine s_iload_n A dX11_paint_36 rfl ?_
  refine s_imul A dX11_paint_37 ?_
  refine s_iadd A dX11_paint_38 ?_
  refine s_iconst A dX11_paint_39 ?_
  refine s_iadd A dX11_paint_40 ?_
  refine s_iload A dX11_paint_41 rfl ?_
  obtain ⟨ox3, h⟩ := h
  refine z_iast A dX11_paint_43 (zk_154 _) (Nat.le_of_ble_eq_true rfl) ox3 ?_
  exact s_vret A dX11_paint_44 hr hlk (Nat.le_of_ble_eq_true rfl) (Nat.le_of_ble_eq_true rfl) ⟨rfl, h⟩
theorem eX11_paint {G : zG} {F : zM → Prop} {μ : zM} {x1 : Int} {x2 : Int} {x3 : Int} {x4 : Int} (h : ∀ J, zJ G true (0) 0 0 mX11_paint (zKV F) J → J 0 ([some (zR (some 153)), some (zI x1), some (zI x2), some (zI x3), some (zI x4)], [], μ, 0, 0)) : qX11_paint G x1 x2 x3 x4 μ F :=
  z_body (by decide +kernel) (Nat.le_of_ble_eq_true rfl) h
set_option maxRecDepth 20000 in
theorem rX11_paints_e {G : zG} {F : Int → zM → Prop} {J : Nat → zS → Prop} {μ : zM} (C : zJ G true (3) 0 0 mX11_paints (zKI F) J) (x1 : Int) (x2 : Int) (x3 : Int) (x4 : Int)
    (h : qX11_in G true x1 0 7 (zup μ 153 5 0) (fun v1 μ1 => zin v1 ∧ ((v1 = 0 → F (-1) μ1) ∧ (¬ (v1 = 0) → qX11_isWanted G true x2 x3 x4 μ1 (fun v4 μ4 => zin v4 ∧ ((¬ v4 = 0 → qX11_change G μ4 (fun μ7 => qX11_apart G x2 x3 x4 154 (614 + (3 * x1)) μ7 (fun v8 μ8 => qX11_paint G x1 x2 x3 x4 μ8 (fun μ9 => F v8 μ9)))) ∧ (v4 = 0 → F (-1) μ4))))))) : J 0 ([some (zR (some 153)), some (zI x1), some (zI x2), some (zI x3), some (zI x4), none], [], μ, 0, 0) := by
  obtain ⟨p, e, s, m, args, below, meth, c, A, hml, hr, hlk, hnm, rfl⟩ := C
  refine s_aload_n A dX11_paints_0 rfl ?_
  refine s_iconst A dX11_paints_1 ?_
  refine z_putI (k := 11) (j := 5) (sl := true) A dX11_paints_2 rfl zuw_X11 (Nat.le_of_ble_eq_true rfl) zwd1313 (by decide) (zk_153 _) tyX11 tyX11_ok nmX11 rfl rfl rfl ?_
  refine s_iload_n A dX11_paints_5 rfl ?_
  refine s_iconst A dX11_paints_6 ?_
  refine s_bipush A dX11_paints_7 rfl ?_
  refine s_callS (M := mX11_in) (n := 3) (d := 0) (mc := 0) (ms := 0) (av := [zI x1, zI 0, zI 7]) (st := []) A dX11_paints_9 zwd1456 zwd1457 zwd100 zcd_X11_in (Nat.le_of_ble_eq_true rfl) (Nat.le_of_ble_eq_true rfl) (Nat.le_refl _) ⟨Nat.le_of_ble_eq_true rfl, Nat.le_of_ble_eq_true rfl⟩ zhn_X11_in rfl (Nat.le_of_ble_eq_true rfl) rfl (z_contI (fun v1 μ1 h => ?_) h)
  obtain ⟨oz2, h⟩ := h
  refine z_if_eq (tgt := 25) A dX11_paints_12 (by decide) oz2 (fun c3 => ?_) (fun c3 => ?_)
  · have h := h.1 c3
    refine s_iconst A dX11_paints_25 ?_
    exact s_iret A dX11_paints_26 hr hlk (Nat.le_of_ble_eq_true rfl) (Nat.le_of_ble_eq_true rfl) ⟨_, rfl, h⟩
  · have h := h.2 c3
    refine s_iload_n A dX11_paints_15 rfl ?_
    refine s_iload_n A dX11_paints_16 rfl ?_
    refine s_iload A dX11_paints_17 rfl ?_
    refine s_callS (M := mX11_isWanted) (n := 3) (d := 2) (mc := 0) (ms := 0) (av := [zI x2, zI x3, zI x4]) (st := []) A dX11_paints_19 zwd1640 zwd1641 zwd100 zcd_X11_isWanted (Nat.le_of_ble_eq_true rfl) (Nat.le_of_ble_eq_true rfl) (Nat.le_refl _) ⟨Nat.le_of_ble_eq_true rfl, Nat.le_of_ble_eq_true rfl⟩ zhn_X11_isWanted rfl (Nat.le_of_ble_eq_true rfl) rfl (z_contI (fun v4 μ4 h => ?_) h)
    obtain ⟨oz5, h⟩ := h
    refine z_if_ne (tgt := 27) A dX11_paints_22 (by decide) oz5 (fun c6 => ?_) (fun c6 => ?_)
    · have h := h.1 c6
      refine s_aload_n A dX11_paints_27 rfl ?_
      refine s_callV (a := 153) (k := 11) (N := 45) (sl := true) (M := mX11_change) (n := 0) (d := 2) (mc := 0) (ms := 0) (av := []) (st := []) A dX11_paints_28 rfl (by decide) (zk_153 _) zwd1499 zwd1501 zwd39 zwd100 zcd_X11_change (Nat.le_of_ble_eq_true rfl) (Nat.le_of_ble_eq_true rfl) (Nat.le_refl _) ⟨Nat.le_of_ble_eq_true rfl, Nat.le_of_ble_eq_true rfl⟩ ⟨rfl, zhn_X11_change⟩ rfl (Nat.le_of_ble_eq_true rfl) rfl (z_contV (fun μ7 h => ?_) h)
      refine s_aload_n A dX11_paints_31 rfl ?_
      refine s_iload_n A dX11_paints_32 rfl ?_
      refine s_iload_n A dX11_paints_33 rfl ?_
      refine s_iload A dX11_paints_34 rfl ?_
      refine s_aload_n A dX11_paints_36 rfl ?_
      refine s_getf (k := 11) (j := 0) (sl := true) (v := zR (some 154)) A dX11_paints_37 rfl zuw_X11 (Nat.le_of_ble_eq_true rfl) zwd1308 (by decide) (zk_153 _) rfl ?_
      refine s_sipush A dX11_paints_40 rfl ?_
      refine s_iconst A dX11_paints_43 ?_
      refine s_iload_n A dX11_paints_44 rfl ?_
      refine s_imul A dX11_paints_45 ?_
      refine s_iadd A dX11_paints_46 ?_
      refine s_callV (a := 153) (k := 11) (N := 45) (sl := true) (M := mX11_apart) (n := 5) (d := 0) (mc := 0) (ms := 0) (av := [zI x2, zI x3, zI x4, zR (some 154), zI (614 + (3 * x1))]) (st := []) A dX11_paints_47 rfl (by decide) (zk_153 _) zwd1663 zwd1665 zwd60 zwd100 zcd_X11_apart (Nat.le_of_ble_eq_true rfl) (Nat.le_of_ble_eq_true rfl) (Nat.le_refl _) ⟨Nat.le_of_ble_eq_true rfl, Nat.le_of_ble_eq_true rfl⟩ ⟨rfl, zhn_X11_apart⟩ rfl (Nat.le_of_ble_eq_true rfl) rfl (z_contI (fun v8 μ8 h => ?_) h)
      refine s_istore (L' := [some (zR (some 153)), some (zI x1), some (zI x2), some (zI x3), some (zI x4), some (zI v8)]) A dX11_paints_50 (Nat.le_of_ble_eq_true rfl) rfl ?_
      refine s_aload_n A dX11_paints_52 rfl ?_
      refine s_iload_n A dX11_paints_53 rfl ?_
      refine s_iload_n A dX11_paints_54 rfl ?_
      refine s_iload_n A dX11_paints_55 rfl ?_
      refine s_iload A dX11_paints_56 rfl ?_
      refine s_callV (a := 153) (k := 11) (N := 45) (sl := true) (M := mX11_paint) (n := 4) (d := 0) (mc := 0) (ms := 0) (av := [zI x1, zI x2, zI x3, zI x4]) (st := []) A dX11_paints_58 rfl (by decide) (zk_153 _) zwd1884 zwd1886 zwd84 zwd100 zcd_X11_paint (Nat.le_of_ble_eq_true rfl) (Nat.le_of_ble_eq_true rfl) (Nat.le_refl _) ⟨Nat.le_of_ble_eq_true rfl, Nat.le_of_ble_eq_true rfl⟩ ⟨rfl, zhn_X11_paint⟩ rfl (Nat.le_of_ble_eq_true rfl) rfl (z_contV (fun μ9 h => ?_) h)
      refine s_iload A dX11_paints_61 rfl ?_
      exact s_iret A dX11_paints_63 hr hlk (Nat.le_of_ble_eq_true rfl) (Nat.le_of_ble_eq_true rfl) ⟨_, rfl, h⟩
    · have h := h.2 c6
      refine s_iconst A dX11_paints_25 ?_
      exact s_iret A dX11_paints_26 hr hlk (Nat.le_of_ble_eq_true rfl) (Nat.le_of_ble_eq_true rfl) ⟨_, rfl, h⟩
theorem eX11_paints {G : zG} {F : Int → zM → Prop} {μ : zM} {x1 : Int} {x2 : Int} {x3 : Int} {x4 : Int} (h : ∀ J, zJ G true (3) 0 0 mX11_paints (zKI F) J → J 0 ([some (zR (some 153)), some (zI x1), some (zI x2), some (zI x3), some (zI x4), none], [], μ, 0, 0)) : qX11_paints G x1 x2 x3 x4 μ F :=
  z_body (by decide +kernel) (Nat.le_of_ble_eq_true rfl) h
set_option maxRecDepth 20000 in
theorem rX11_readAct_e {G : zG} {F : zM → Prop} {J : Nat → zS → Prop} {μ : zM} (C : zJ G true (5) 0 0 mX11_readAct (zKV F) J) (x1 : Int)
    (h : qX11_here G μ (fun v1 μ1 => zin v1 ∧ ((v1 = 109 → J 56 ([some (zR (some 153)), some (zI x1), some (zI v1), none], [], μ1, 0, 0)) ∧ (¬ (v1 = 109) → ((v1 = 102 → J 56 ([some (zR (some 153)), some (zI x1), some (zI v1), none], [], μ1, 0, 0)) ∧ (¬ (v1 = 102) → ((v1 = 108 → J 56 ([some (zR (some 153)), some (zI x1), some (zI v1), none], [], μ1, 0, 0)) ∧ (¬ (v1 = 108) → ((v1 = 103 → J 56 ([some (zR (some 153)), some (zI x1), some (zI v1), none], [], μ1, 0, 0)) ∧ (¬ (v1 = 103) → ((v1 = 116 → J 56 ([some (zR (some 153)), some (zI x1), some (zI v1), none], [], μ1, 0, 0)) ∧ (¬ (v1 = 116) → ((v1 = 119 → J 56 ([some (zR (some 153)), some (zI x1), some (zI v1), none], [], μ1, 0, 0)) ∧ (¬ (v1 = 119) → ((v1 = 101 → J 56 ([some (zR (some 153)), some (zI x1), some (zI v1), none], [], μ1, 0, 0)) ∧ (¬ (v1 = 101) → qX11_fault G (zi μ1 153 8) μ1 (fun μ10 => F μ10))))))))))))))))) : J 0 ([some (zR (some 153)), some (zI x1), none, none], [], μ, 0, 0) := by
  obtain ⟨p, e, s, m, args, below, meth, c, A, hml, hr, hlk, hnm, rfl⟩ := C
  refine s_aload_n A dX11_readAct_0 rfl ?_
  refine s_callV (a := 153) (k := 11) (N := 45) (sl := true) (M := mX11_here) (n := 0) (d := 0) (mc := 0) (ms := 0) (av := []) (st := []) A dX11_readAct_1 rfl (by decide) (zk_153 _) zwd1483 zwd1485 zwd35 zwd100 zcd_X11_here (Nat.le_of_ble_eq_true rfl) (Nat.le_of_ble_eq_true rfl) (Nat.le_refl _) ⟨Nat.le_of_ble_eq_true rfl, Nat.le_of_ble_eq_true rfl⟩ ⟨rfl, zhn_X11_here⟩ rfl (Nat.le_of_ble_eq_true rfl) rfl (z_contI (fun v1 μ1 h => ?_) h)
  refine s_istore_n (L' := [some (zR (some 153)), some (zI x1), some (zI v1), none]) A dX11_readAct_4 (Nat.le_of_ble_eq_true rfl) rfl ?_
  refine s_iload_n A dX11_readAct_5 rfl ?_
  refine s_bipush A dX11_readAct_6 rfl ?_
  obtain ⟨oz2, h⟩ := h
  refine z_icmp_eq (tgt := 56) A dX11_readAct_8 (by decide) oz2 ⟨by decide, by decide⟩ (fun c3 => ?_) (fun c3 => ?_)
  · have h := h.1 c3
    exact h
  · have h := h.2 c3
    refine s_iload_n A dX11_readAct_11 rfl ?_
    refine s_bipush A dX11_readAct_12 rfl ?_
    refine z_icmp_eq (tgt := 56) A dX11_readAct_14 (by decide) oz2 ⟨by decide, by decide⟩ (fun c4 => ?_) (fun c4 => ?_)
    · have h := h.1 c4
      exact h
    · have h := h.2 c4
      refine s_iload_n A dX11_readAct_17 rfl ?_
      refine s_bipush A dX11_readAct_18 rfl ?_
      refine z_icmp_eq (tgt := 56) A dX11_readAct_20 (by decide) oz2 ⟨by decide, by decide⟩ (fun c5 => ?_) (fun c5 => ?_)
      · have h := h.1 c5
        exact h
      · have h := h.2 c5
        refine s_iload_n A dX11_readAct_23 rfl ?_
        refine s_bipush A dX11_readAct_24 rfl ?_
        refine z_icmp_eq (tgt := 56) A dX11_readAct_26 (by decide) oz2 ⟨by decide, by decide⟩ (fun c6 => ?_) (fun c6 => ?_)
        · have h := h.1 c6
          exact h
        · have h := h.2 c6
          refine s_iload_n A dX11_readAct_29 rfl ?_
          refine s_bipush A dX11_readAct_30 rfl ?_
          refine z_icmp_eq (tgt := 56) A dX11_readAct_32 (by decide) oz2 ⟨by decide, by decide⟩ (fun c7 => ?_) (fun c7 => ?_)
          · have h := h.1 c7
            exact h
          · have h := h.2 c7
            refine s_iload_n A dX11_readAct_35 rfl ?_
            refine s_bipush A dX11_readAct_36 rfl ?_
            refine z_icmp_eq (tgt := 56) A dX11_readAct_38 (by decide) oz2 ⟨by decide, by decide⟩ (fun c8 => ?_) (fun c8 => ?_)
            · have h := h.1 c8
              exact h
            · have h := h.2 c8
              refine s_iload_n A dX11_readAct_41 rfl ?_
              refine s_bipush A dX11_readAct_42 rfl ?_
              refine z_icmp_eq (tgt := 56) A dX11_readAct_44 (by decide) oz2 ⟨by decide, by decide⟩ (fun c9 => ?_) (fun c9 => ?_)
              · have h := h.1 c9
                exact h
              · have h := h.2 c9
                refine s_aload_n A dX11_readAct_47 rfl ?_
                refine s_aload_n A dX11_readAct_48 rfl ?_
                refine s_getf (k := 11) (j := 8) (sl := true) (v := zI (zi μ1 153 8)) A dX11_readAct_49 rfl zuw_X11 (Nat.le_of_ble_eq_true rfl) zwd1316 (by decide) (zk_153 _) rfl ?_
                refine s_callV (a := 153) (k := 11) (N := 45) (sl := true) (M := mX11_fault) (n := 1) (d := 2) (mc := 0) (ms := 0) (av := [zI (zi μ1 153 8)]) (st := []) A dX11_readAct_52 rfl (by decide) (zk_153 _) zwd1487 zwd1489 zwd36 zwd100 zcd_X11_fault (Nat.le_of_ble_eq_true rfl) (Nat.le_of_ble_eq_true rfl) (Nat.le_refl _) ⟨Nat.le_of_ble_eq_true rfl, Nat.le_of_ble_eq_true rfl⟩ ⟨rfl, zhn_X11_fault⟩ rfl (Nat.le_of_ble_eq_true rfl) rfl (z_contV (fun μ10 h => ?_) h)
                exact s_vret A dX11_readAct_55 hr hlk (Nat.le_of_ble_eq_true rfl) (Nat.le_of_ble_eq_true rfl) ⟨rfl, h⟩
set_option maxRecDepth 20000 in
theorem rX11_readAct_56 {G : zG} {F : zM → Prop} {J : Nat → zS → Prop} {μ : zM} (C : zJ G true (5) 0 0 mX11_readAct (zKV F) J) (x1 : Int) (x2 : Int)
    (h : (0 ≤ x1 ∧ x1 < 400) ∧ zin x2 ∧ ((x2 = 102 → qX11_readPatch G (zup (zup μ 153 8 ((zi μ 153 8) + 1)) 178 x1 x2) (fun v3 μ3 => (0 ≤ x1 + 1 ∧ x1 + 1 < 400) ∧ F (zup μ3 178 (x1 + 1) v3))) ∧ (x2 = 103 ∨ x2 = 116 → qX11_oneOf G 48 10 (zup (zup μ 153 8 ((zi μ 153 8) + 1)) 178 x1 x2) (fun v5 μ5 => (0 ≤ x1 + 1 ∧ x1 + 1 < 400) ∧ F (zup μ5 178 (x1 + 1) v5))) ∧ (x2 = 108 → qX11_twoDigits G (zup (zup μ 153 8 ((zi μ 153 8) + 1)) 178 x1 x2) (fun v7 μ7 => (0 ≤ x1 + 1 ∧ x1 + 1 < 400) ∧ F (zup μ7 178 (x1 + 1) v7))) ∧ (x2 = 109 → qX11_readPatch G (zup (zup μ 153 8 ((zi μ 153 8) + 1)) 178 x1 x2) (fun v9 μ9 => (0 ≤ x1 + 1 ∧ x1 + 1 < 400) ∧ J 174 ([some (zR (some 153)), some (zI x1), none, some (zI 0)], [], zup μ9 178 (x1 + 1) v9, 0, 0))) ∧ (x2 = 119 → qX11_oneOf G 48 3 (zup (zup μ 153 8 ((zi μ 153 8) + 1)) 178 x1 x2) (fun v11 μ11 => (0 ≤ x1 + 1 ∧ x1 + 1 < 400) ∧ qX11_oneOf G 48 10 (zup μ11 178 (x1 + 1) v11) (fun v13 μ13 => (0 ≤ x1 + 2 ∧ x1 + 2 < 400) ∧ F (zup μ13 178 (x1 + 2) v13)))) ∧ (x2 ≠ 102 ∧ x2 ≠ 103 ∧ x2 ≠ 108 ∧ x2 ≠ 109 ∧ x2 ≠ 116 ∧ x2 ≠ 119 → qX11_oneOf G 97 8 (zup (zup μ 153 8 ((zi μ 153 8) + 1)) 178 x1 x2) (fun v15 μ15 => (0 ≤ x1 + 1 ∧ x1 + 1 < 400) ∧ J 303 ([some (zR (some 153)), some (zI x1), none, some (zI 0)], [], zup μ15 178 (x1 + 1) v15, 0, 0))))) : J 56 ([some (zR (some 153)), some (zI x1), some (zI x2), none], [], μ, 0, 0) := by
  obtain ⟨p, e, s, m, args, below, meth, c, A, hml, hr, hlk, hnm, rfl⟩ := C
  refine s_aload_n A dX11_readAct_56 rfl ?_
  refine s_dup A dX11_readAct_57 rfl ?_
  refine s_getf (k := 11) (j := 8) (sl := true) (v := zI (zi μ 153 8)) A dX11_readAct_58 rfl zuw_X11 (Nat.le_of_ble_eq_true rfl) zwd1316 (by decide) (zk_153 _) rfl ?_
  refine s_iconst A dX11_readAct_61 ?_
  refine s_iadd A dX11_readAct_62 ?_
  refine z_putI (k := 11) (j := 8) (sl := true) A dX11_readAct_63 rfl zuw_X11 (Nat.le_of_ble_eq_true rfl) zwd1316 (by decide) (zk_153 _) tyX11 tyX11_ok nmX11 rfl rfl rfl ?_
  refine s_aload_n A dX11_readAct_66 rfl ?_
  refine s_getf (k := 11) (j := 42) (sl := true) (v := zR (some 178)) A dX11_readAct_67 rfl zuw_X11 (Nat.le_of_ble_eq_true rfl) zwd1350 (by decide) (zk_153 _) rfl ?_
  refine s_iload_n A dX11_readAct_70 rfl ?_
  refine s_iload_n A dX11_readAct_71 rfl ?_
  obtain ⟨ox1, h⟩ := h
  refine z_iast A dX11_readAct_72 (zk_178 _) (Nat.le_of_ble_eq_true rfl) ox1 ?_
  refine s_iload_n A dX11_readAct_73 rfl ?_
  obtain ⟨oz2, h⟩ := h
  refine z_tsw A dX11_readAct_74 oz2 (by decide +kernel) ⟨285, by decide⟩ (fun tg17 ht17 => ?_)
  have hx17 : (x2 = 102 ∨ x2 = 103 ∨ x2 = 104 ∨ x2 = 105 ∨ x2 = 106 ∨ x2 = 107 ∨ x2 = 108 ∨ x2 = 109 ∨ x2 = 110 ∨ x2 = 111 ∨ x2 = 112 ∨ x2 = 113 ∨ x2 = 114 ∨ x2 = 115 ∨ x2 = 116 ∨ x2 = 117 ∨ x2 = 118 ∨ x2 = 119) ∨ (x2 < 102 ∨ 119 < x2) := by omega
  rcases hx17 with (hq | hq | hq | hq | hq | hq | hq | hq | hq | hq | hq | hq | hq | hq | hq | hq | hq | hq) | hq
  · obtain rfl := ztg_in (t := 202) ht17 102 hq (by decide) (by decide +kernel)
    have h := h.1 (by omega)
    refine s_aload_n A dX11_readAct_202 rfl ?_
    refine s_getf (k := 11) (j := 42) (sl := true) (v := zR (some 178)) A dX11_readAct_203 rfl zuw_X11 (Nat.le_of_ble_eq_true rfl) zwd1350 (by decide) (zk_153 _) rfl ?_
    refine s_iload_n A dX11_readAct_206 rfl ?_
    refine s_iconst A dX11_readAct_207 ?_
    refine s_iadd A dX11_readAct_208 ?_
    refine s_aload_n A dX11_readAct_209 rfl ?_
    refine s_callV (a := 153) (k := 11) (N := 45) (sl := true) (M := mX11_readPatch) (n := 0) (d := 4) (mc := 0) (ms := 0) (av := []) (st := [zI (x1 + 1), zR (some 178)]) A dX11_readAct_210 rfl (by decide) (zk_153 _) zwd1475 zwd1477 zwd33 zwd100 zcd_X11_readPatch (Nat.le_of_ble_eq_true rfl) (Nat.le_of_ble_eq_true rfl) (Nat.le_refl _) ⟨Nat.le_of_ble_eq_true rfl, Nat.le_of_ble_eq_true rfl⟩ ⟨rfl, zhn_X11_readPatch⟩ rfl (Nat.le_of_ble_eq_true rfl) rfl (z_contI (fun v3 μ3 h => ?_) h)
    obtain ⟨ox4, h⟩ := h
    refine z_iast A dX11_readAct_213 (zk_178 _) (Nat.le_of_ble_eq_true rfl) ox4 ?_
    refine s_goto (tgt := 330) A dX11_readAct_214 (by decide) ?_
    exact s_vret A dX11_readAct_330 hr hlk (Nat.le_of_ble_eq_true rfl) (Nat.le_of_ble_eq_true rfl) ⟨rfl, h⟩
  · obtain rfl := ztg_in (t := 232) ht17 103 hq (by decide) (by decide +kernel)
    have h := h.2.1 (by omega)
    refine s_aload_n A dX11_readAct_232 rfl ?_
    refine s_getf (k := 11) (j := 42) (sl := true) (v := zR (some 178)) A dX11_readAct_233 rfl zuw_X11 (Nat.le_of_ble_eq_true rfl) zwd1350 (by decide) (zk_153 _) rfl ?_
    refine s_iload_n A dX11_readAct_236 rfl ?_
    refine s_iconst A dX11_readAct_237 ?_
    refine s_iadd A dX11_readAct_238 ?_
    refine s_aload_n A dX11_readAct_239 rfl ?_
    refine s_bipush A dX11_readAct_240 rfl ?_
    refine s_bipush A dX11_readAct_242 rfl ?_
    refine s_callV (a := 153) (k := 11) (N := 45) (sl := true) (M := mX11_oneOf) (n := 2) (d := 3) (mc := 0) (ms := 0) (av := [zI 48, zI 10]) (st := [zI (x1 + 1), zR (some 178)]) A dX11_readAct_244 rfl (by decide) (zk_153 _) zwd1479 zwd1481 zwd34 zwd100 zcd_X11_oneOf (Nat.le_of_ble_eq_true rfl) (Nat.le_of_ble_eq_true rfl) (Nat.le_refl _) ⟨Nat.le_of_ble_eq_true rfl, Nat.le_of_ble_eq_true rfl⟩ ⟨rfl, zhn_X11_oneOf⟩ rfl (Nat.le_of_ble_eq_true rfl) rfl (z_contI (fun v5 μ5 h => ?_) h)
    obtain ⟨ox6, h⟩ := h
    refine z_iast A dX11_readAct_247 (zk_178 _) (Nat.le_of_ble_eq_true rfl) ox6 ?_
    refine s_goto (tgt := 330) A dX11_readAct_248 (by decide) ?_
    exact s_vret A dX11_readAct_330 hr hlk (Nat.le_of_ble_eq_true rfl) (Nat.le_of_ble_eq_true rfl) ⟨rfl, h⟩
  · obtain rfl := ztg_in (t := 285) ht17 104 hq (by decide) (by decide +kernel)
    have h := h.2.2.2.2.2 (by omega)
    refine s_aload_n A dX11_readAct_285 rfl ?_
    refine s_getf (k := 11) (j := 42) (sl := true) (v := zR (some 178)) A dX11_readAct_286 rfl zuw_X11 (Nat.le_of_ble_eq_true rfl) zwd1350 (by decide) (zk_153 _) rfl ?_
    refine s_iload_n A dX11_readAct_289 rfl ?_
    refine s_iconst A dX11_readAct_290 ?_
    refine s_iadd A dX11_readAct_291 ?_
    refine s_aload_n A dX11_readAct_292 rfl ?_
    refine s_bipush A dX11_readAct_293 rfl ?_
    refine s_bipush A dX11_readAct_295 rfl ?_
    refine s_callV (a := 153) (k := 11) (N := 45) (sl := true) (M := mX11_oneOf) (n := 2) (d := 3) (mc := 0) (ms := 0) (av := [zI 97, zI 8]) (st := [zI (x1 + 1), zR (some 178)]) A dX11_readAct_297 rfl (by decide) (zk_153 _) zwd1479 zwd1481 zwd34 zwd100 zcd_X11_oneOf (Nat.le_of_ble_eq_true rfl) (Nat.le_of_ble_eq_true rfl) (Nat.le_refl _) ⟨Nat.le_of_ble_eq_true rfl, Nat.le_of_ble_eq_true rfl⟩ ⟨rfl, zhn_X11_oneOf⟩ rfl (Nat.le_of_ble_eq_true rfl) rfl (z_contI (fun v15 μ15 h => ?_) h)
    obtain ⟨ox16, h⟩ := h
    refine z_iast A dX11_readAct_300 (zk_178 _) (Nat.le_of_ble_eq_true rfl) ox16 ?_
    refine s_iconst A dX11_readAct_301 ?_
    refine s_istore_n (L' := [some (zR (some 153)), some (zI x1), some (zI x2), some (zI 0)]) A dX11_readAct_302 (Nat.le_of_ble_eq_true rfl) rfl ?_
    exact z_wk (L' := [some (zR (some 153)), some (zI x1), none, some (zI 0)]) ⟨rfl, rfl, rfl, trivial⟩ h
  · obtain rfl := ztg_in (t := 285) ht17 105 hq (by decide) (by decide +kernel)
    have h := h.2.2.2.2.2 (by omega)
    refine s_aload_n A dX11_readAct_285 rfl ?_
    refine s_getf (k := 11) (j := 42) (sl := true) (v := zR (some 178)) A dX11_readAct_286 rfl zuw_X11 (Nat.le_of_ble_eq_true rfl) zwd1350 (by decide) (zk_153 _) rfl ?_
    refine s_iload_n A dX11_readAct_289 rfl ?_
    refine s_iconst A dX11_readAct_290 ?_
    refine s_iadd A dX11_readAct_291 ?_
    refine s_aload_n A dX11_readAct_292 rfl ?_
    refine s_bipush A dX11_readAct_293 rfl ?_
    refine s_bipush A dX11_readAct_295 rfl ?_
    refine s_callV (a := 153) (k := 11) (N := 45) (sl := true) (M := mX11_oneOf) (n := 2) (d := 3) (mc := 0) (ms := 0) (av := [zI 97, zI 8]) (st := [zI (x1 + 1), zR (some 178)]) A dX11_readAct_297 rfl (by decide) (zk_153 _) zwd1479 zwd1481 zwd34 zwd100 zcd_X11_oneOf (Nat.le_of_ble_eq_true rfl) (Nat.le_of_ble_eq_true rfl) (Nat.le_refl _) ⟨Nat.le_of_ble_eq_true rfl, Nat.le_of_ble_eq_true rfl⟩ ⟨rfl, zhn_X11_oneOf⟩ rfl (Nat.le_of_ble_eq_true rfl) rfl (z_contI (fun v15 μ15 h => ?_) h)
    obtain ⟨ox16, h⟩ := h
    refine z_iast A dX11_readAct_300 (zk_178 _) (Nat.le_of_ble_eq_true rfl) ox16 ?_
    refine s_iconst A dX11_readAct_301 ?_
    refine s_istore_n (L' := [some (zR (some 153)), some (zI x1), some (zI x2), some (zI 0)]) A dX11_readAct_302 (Nat.le_of_ble_eq_true rfl) rfl ?_
    exact z_wk (L' := [some (zR (some 153)), some (zI x1), none, some (zI 0)]) ⟨rfl, rfl, rfl, trivial⟩ h
  · obtain rfl := ztg_in (t := 285) ht17 106 hq (by decide) (by decide +kernel)
    have h := h.2.2.2.2.2 (by omega)
    refine s_aload_n A dX11_readAct_285 rfl ?_
    refine s_getf (k := 11) (j := 42) (sl := true) (v := zR (some 178)) A dX11_readAct_286 rfl zuw_X11 (Nat.le_of_ble_eq_true rfl) zwd1350 (by decide) (zk_153 _) rfl ?_
    refine s_iload_n A dX11_readAct_289 rfl ?_
    refine s_iconst A dX11_readAct_290 ?_
    refine s_iadd A dX11_readAct_291 ?_
    refine s_aload_n A dX11_readAct_292 rfl ?_
    refine s_bipush A dX11_readAct_293 rfl ?_
    refine s_bipush A dX11_readAct_295 rfl ?_
    refine s_callV (a := 153) (k := 11) (N := 45) (sl := true) (M := mX11_oneOf) (n := 2) (d := 3) (mc := 0) (ms := 0) (av := [zI 97, zI 8]) (st := [zI (x1 + 1), zR (some 178)]) A dX11_readAct_297 rfl (by decide) (zk_153 _) zwd1479 zwd1481 zwd34 zwd100 zcd_X11_oneOf (Nat.le_of_ble_eq_true rfl) (Nat.le_of_ble_eq_true rfl) (Nat.le_refl _) ⟨Nat.le_of_ble_eq_true rfl, Nat.le_of_ble_eq_true rfl⟩ ⟨rfl, zhn_X11_oneOf⟩ rfl (Nat.le_of_ble_eq_true rfl) rfl (z_contI (fun v15 μ15 h => ?_) h)
    obtain ⟨ox16, h⟩ := h
    refine z_iast A dX11_readAct_300 (zk_178 _) (Nat.le_of_ble_eq_true rfl) ox16 ?_
    refine s_iconst A dX11_readAct_301 ?_
    refine s_istore_n (L' := [some (zR (some 153)), some (zI x1), some (zI x2), some (zI 0)]) A dX11_readAct_302 (Nat.le_of_ble_eq_true rfl) rfl ?_
    exact z_wk (L' := [some (zR (some 153)), some (zI x1), none, some (zI 0)]) ⟨rfl, rfl, rfl, trivial⟩ h
  · obtain rfl := ztg_in (t := 285) ht17 107 hq (by decide) (by decide +kernel)
    have h := h.2.2.2.2.2 (by omega)
    refine s_aload_n A dX11_readAct_285 rfl ?_
    refine s_getf (k := 11) (j := 42) (sl := true) (v := zR (some 178)) A dX11_readAct_286 rfl zuw_X11 (Nat.le_of_ble_eq_true rfl) zwd1350 (by decide) (zk_153 _) rfl ?_
    refine s_iload_n A dX11_readAct_289 rfl ?_
    refine s_iconst A dX11_readAct_290 ?_
    refine s_iadd A dX11_readAct_291 ?_
    refine s_aload_n A dX11_readAct_292 rfl ?_
    refine s_bipush A dX11_readAct_293 rfl ?_
    refine s_bipush A dX11_readAct_295 rfl ?_
    refine s_callV (a := 153) (k := 11) (N := 45) (sl := true) (M := mX11_oneOf) (n := 2) (d := 3) (mc := 0) (ms := 0) (av := [zI 97, zI 8]) (st := [zI (x1 + 1), zR (some 178)]) A dX11_readAct_297 rfl (by decide) (zk_153 _) zwd1479 zwd1481 zwd34 zwd100 zcd_X11_oneOf (Nat.le_of_ble_eq_true rfl) (Nat.le_of_ble_eq_true rfl) (Nat.le_refl _) ⟨Nat.le_of_ble_eq_true rfl, Nat.le_of_ble_eq_true rfl⟩ ⟨rfl, zhn_X11_oneOf⟩ rfl (Nat.le_of_ble_eq_true rfl) rfl (z_contI (fun v15 μ15 h => ?_) h)
    obtain ⟨ox16, h⟩ := h
    refine z_iast A dX11_readAct_300 (zk_178 _) (Nat.le_of_ble_eq_true rfl) ox16 ?_
    refine s_iconst A dX11_readAct_301 ?_
    refine s_istore_n (L' := [some (zR (some 153)), some (zI x1), some (zI x2), some (zI 0)]) A dX11_readAct_302 (Nat.le_of_ble_eq_true rfl) rfl ?_
    exact z_wk (L' := [some (zR (some 153)), some (zI x1), none, some (zI 0)]) ⟨rfl, rfl, rfl, trivial⟩ h
  · obtain rfl := ztg_in (t := 217) ht17 108 hq (by decide) (by decide +kernel)
    have h := h.2.2.1 (by omega)
    refine s_aload_n A dX11_readAct_217 rfl ?_
    refine s_getf (k := 11) (j := 42) (sl := true) (v := zR (some 178)) A dX11_readAct_218 rfl zuw_X11 (Nat.le_of_ble_eq_true rfl) zwd1350 (by decide) (zk_153 _) rfl ?_
    refine s_iload_n A dX11_readAct_221 rfl ?_
    refine s_iconst A dX11_readAct_222 ?_
    refine s_iadd A dX11_readAct_223 ?_
    refine s_aload_n A dX11_readAct_224 rfl ?_
    refine s_callV (a := 153) (k := 11) (N := 45) (sl := true) (M := mX11_twoDigits) (n := 0) (d := 4) (mc := 0) (ms := 0) (av := []) (st := [zI (x1 + 1), zR (some 178)]) A dX11_readAct_225 rfl (by decide) (zk_153 _) zwd1491 zwd1493 zwd37 zwd100 zcd_X11_twoDigits (Nat.le_of_ble_eq_true rfl) (Nat.le_of_ble_eq_true rfl) (Nat.le_refl _) ⟨Nat.le_of_ble_eq_true rfl, Nat.le_of_ble_eq_true rfl⟩ ⟨rfl, zhn_X11_twoDigits⟩ rfl (Nat.le_of_ble_eq_true rfl) rfl (z_contI (fun v7 μ7 h => ?_) h)
    obtain ⟨ox8, h⟩ := h
    refine z_iast A dX11_readAct_228 (zk_178 _) (Nat.le_of_ble_eq_true rfl) ox8 ?_
    refine s_goto (tgt := 330) A dX11_readAct_229 (by decide) ?_
    exact s_vret A dX11_readAct_330 hr hlk (Nat.le_of_ble_eq_true rfl) (Nat.le_of_ble_eq_true rfl) ⟨rfl, h⟩
  · obtain rfl := ztg_in (t := 160) ht17 109 hq (by decide) (by decide +kernel)
    have h := h.2.2.2.1 (by omega)
    refine s_aload_n A dX11_readAct_160 rfl ?_
    refine s_getf (k := 11) (j := 42) (sl := true) (v := zR (some 178)) A dX11_readAct_161 rfl zuw_X11 (Nat.le_of_ble_eq_true rfl) zwd1350 (by decide) (zk_153 _) rfl ?_
    refine s_iload_n A dX11_readAct_164 rfl ?_
    refine s_iconst A dX11_readAct_165 ?_
    refine s_iadd A dX11_readAct_166 ?_
    refine s_aload_n A dX11_readAct_167 rfl ?_
    refine s_callV (a := 153) (k := 11) (N := 45) (sl := true) (M := mX11_readPatch) (n := 0) (d := 4) (mc := 0) (ms := 0) (av := []) (st := [zI (x1 + 1), zR (some 178)]) A dX11_readAct_168 rfl (by decide) (zk_153 _) zwd1475 zwd1477 zwd33 zwd100 zcd_X11_readPatch (Nat.le_of_ble_eq_true rfl) (Nat.le_of_ble_eq_true rfl) (Nat.le_refl _) ⟨Nat.le_of_ble_eq_true rfl, Nat.le_of_ble_eq_true rfl⟩ ⟨rfl, zhn_X11_readPatch⟩ rfl (Nat.le_of_ble_eq_true rfl) rfl (z_contI (fun v9 μ9 h => ?_) h)
    obtain ⟨ox10, h⟩ := h
    refine z_iast A dX11_readAct_171 (zk_178 _) (Nat.le_of_ble_eq_true rfl) ox10 ?_
    refine s_iconst A dX11_readAct_172 ?_
    refine s_istore_n (L' := [some (zR (some 153)), some (zI x1), some (zI x2), some (zI 0)]) A dX11_readAct_173 (Nat.le_of_ble_eq_true rfl) rfl ?_
    exact z_wk (L' := [some (zR (some 153)), some (zI x1), none, some (zI 0)]) ⟨rfl, rfl, rfl, trivial⟩ h
  · obtain rfl := ztg_in (t := 285) ht17 110 hq (by decide) (by decide +kernel)
    have h := h.2.2.2.2.2 (by omega)
    refine s_aload_n A dX11_readAct_285 rfl ?_
    refine s_getf (k := 11) (j := 42) (sl := true) (v := zR (some 178)) A dX11_readAct_286 rfl zuw_X11 (Nat.le_of_ble_eq_true rfl) zwd1350 (by decide) (zk_153 _) rfl ?_
    refine s_iload_n A dX11_readAct_289 rfl ?_
    refine s_iconst A dX11_readAct_290 ?_
    refine s_iadd A dX11_readAct_291 ?_
    refine s_aload_n A dX11_readAct_292 rfl ?_
    refine s_bipush A dX11_readAct_293 rfl ?_
    refine s_bipush A dX11_readAct_295 rfl ?_
    refine s_callV (a := 153) (k := 11) (N := 45) (sl := true) (M := mX11_oneOf) (n := 2) (d := 3) (mc := 0) (ms := 0) (av := [zI 97, zI 8]) (st := [zI (x1 + 1), zR (some 178)]) A dX11_readAct_297 rfl (by decide) (zk_153 _) zwd1479 zwd1481 zwd34 zwd100 zcd_X11_oneOf (Nat.le_of_ble_eq_true rfl) (Nat.le_of_ble_eq_true rfl) (Nat.le_refl _) ⟨Nat.le_of_ble_eq_true rfl, Nat.le_of_ble_eq_true rfl⟩ ⟨rfl, zhn_X11_oneOf⟩ rfl (Nat.le_of_ble_eq_true rfl) rfl (z_contI (fun v15 μ15 h => ?_) h)
    obtain ⟨ox16, h⟩ := h
    refine z_iast A dX11_readAct_300 (zk_178 _) (Nat.le_of_ble_eq_true rfl) ox16 ?_
    refine s_iconst A dX11_readAct_301 ?_
    refine s_istore_n (L' := [some (zR (some 153)), some (zI x1), some (zI x2), some (zI 0)]) A dX11_readAct_302 (Nat.le_of_ble_eq_true rfl) rfl ?_
    exact z_wk (L' := [some (zR (some 153)), some (zI x1), none, some (zI 0)]) ⟨rfl, rfl, rfl, trivial⟩ h
  · obtain rfl := ztg_in (t := 285) ht17 111 hq (by decide) (by decide +kernel)
    have h := h.2.2.2.2.2 (by omega)
    refine s_aload_n A dX11_readAct_285 rfl ?_
    refine s_getf (k := 11) (j := 42) (sl := true) (v := zR (some 178)) A dX11_readAct_286 rfl zuw_X11 (Nat.le_of_ble_eq_true rfl) zwd1350 (by decide) (zk_153 _) rfl ?_
    refine s_iload_n A dX11_readAct_289 rfl ?_
    refine s_iconst A dX11_readAct_290 ?_
    refine s_iadd A dX11_readAct_291 ?_
    refine s_aload_n A dX11_readAct_292 rfl ?_
    refine s_bipush A dX11_readAct_293 rfl ?_
    refine s_bipush A dX11_readAct_295 rfl ?_
    refine s_callV (a := 153) (k := 11) (N := 45) (sl := true) (M := mX11_oneOf) (n := 2) (d := 3) (mc := 0) (ms := 0) (av := [zI 97, zI 8]) (st := [zI (x1 + 1), zR (some 178)]) A dX11_readAct_297 rfl (by decide) (zk_153 _) zwd1479 zwd1481 zwd34 zwd100 zcd_X11_oneOf (Nat.le_of_ble_eq_true rfl) (Nat.le_of_ble_eq_true rfl) (Nat.le_refl _) ⟨Nat.le_of_ble_eq_true rfl, Nat.le_of_ble_eq_true rfl⟩ ⟨rfl, zhn_X11_oneOf⟩ rfl (Nat.le_of_ble_eq_true rfl) rfl (z_contI (fun v15 μ15 h => ?_) h)
    obtain ⟨ox16, h⟩ := h
    refine z_iast A dX11_readAct_300 (zk_178 _) (Nat.le_of_ble_eq_true rfl) ox16 ?_
    refine s_iconst A dX11_readAct_301 ?_
    refine s_istore_n (L' := [some (zR (some 153)), some (zI x1), some (zI x2), some (zI 0)]) A dX11_readAct_302 (Nat.le_of_ble_eq_true rfl) rfl ?_
    exact z_wk (L' := [some (zR (some 153)), some (zI x1), none, some (zI 0)]) ⟨rfl, rfl, rfl, trivial⟩ h
  · obtain rfl := ztg_in (t := 285) ht17 112 hq (by decide) (by decide +kernel)
    have h := h.2.2.2.2.2 (by omega)
    refine s_aload_n A dX11_readAct_285 rfl ?_
    refine s_getf (k := 11) (j := 42) (sl := true) (v := zR (some 178)) A dX11_readAct_286 rfl zuw_X11 (Nat.le_of_ble_eq_true rfl) zwd1350 (by decide) (zk_153 _) rfl ?_
    refine s_iload_n A dX11_readAct_289 rfl ?_
    refine s_iconst A dX11_readAct_290 ?_
    refine s_iadd A dX11_readAct_291 ?_
    refine s_aload_n A dX11_readAct_292 rfl ?_
    refine s_bipush A dX11_readAct_293 rfl ?_
    refine s_bipush A dX11_readAct_295 rfl ?_
    refine s_callV (a := 153) (k := 11) (N := 45) (sl := true) (M := mX11_oneOf) (n := 2) (d := 3) (mc := 0) (ms := 0) (av := [zI 97, zI 8]) (st := [zI (x1 + 1), zR (some 178)]) A dX11_readAct_297 rfl (by decide) (zk_153 _) zwd1479 zwd1481 zwd34 zwd100 zcd_X11_oneOf (Nat.le_of_ble_eq_true rfl) (Nat.le_of_ble_eq_true rfl) (Nat.le_refl _) ⟨Nat.le_of_ble_eq_true rfl, Nat.le_of_ble_eq_true rfl⟩ ⟨rfl, zhn_X11_oneOf⟩ rfl (Nat.le_of_ble_eq_true rfl) rfl (z_contI (fun v15 μ15 h => ?_) h)
    obtain ⟨ox16, h⟩ := h
    refine z_iast A dX11_readAct_300 (zk_178 _) (Nat.le_of_ble_eq_true rfl) ox16 ?_
    refine s_iconst A dX11_readAct_301 ?_
    refine s_istore_n (L' := [some (zR (some 153)), some (zI x1), some (zI x2), some (zI 0)]) A dX11_readAct_302 (Nat.le_of_ble_eq_true rfl) rfl ?_
    exact z_wk (L' := [some (zR (some 153)), some (zI x1), none, some (zI 0)]) ⟨rfl, rfl, rfl, trivial⟩ h
  · obtain rfl := ztg_in (t := 285) ht17 113 hq (by decide) (by decide +kernel)
    have h := h.2.2.2.2.2 (by omega)
    refine s_aload_n A dX11_readAct_285 rfl ?_
    refine s_getf (k := 11) (j := 42) (sl := true) (v := zR (some 178)) A dX11_readAct_286 rfl zuw_X11 (Nat.le_of_ble_eq_true rfl) zwd1350 (by decide) (zk_153 _) rfl ?_
    refine s_iload_n A dX11_readAct_289 rfl ?_
    refine s_iconst A dX11_readAct_290 ?_
    refine s_iadd A dX11_readAct_291 ?_
    refine s_aload_n A dX11_readAct_292 rfl ?_
    refine s_bipush A dX11_readAct_293 rfl ?_
    refine s_bipush A dX11_readAct_295 rfl ?_
    refine s_callV (a := 153) (k := 11) (N := 45) (sl := true) (M := mX11_oneOf) (n := 2) (d := 3) (mc := 0) (ms := 0) (av := [zI 97, zI 8]) (st := [zI (x1 + 1), zR (some 178)]) A dX11_readAct_297 rfl (by decide) (zk_153 _) zwd1479 zwd1481 zwd34 zwd100 zcd_X11_oneOf (Nat.le_of_ble_eq_true rfl) (Nat.le_of_ble_eq_true rfl) (Nat.le_refl _) ⟨Nat.le_of_ble_eq_true rfl, Nat.le_of_ble_eq_true rfl⟩ ⟨rfl, zhn_X11_oneOf⟩ rfl (Nat.le_of_ble_eq_true rfl) rfl (z_contI (fun v15 μ15 h => ?_) h)
    obtain ⟨ox16, h⟩ := h
    refine z_iast A dX11_readAct_300 (zk_178 _) (Nat.le_of_ble_eq_true rfl) ox16 ?_
    refine s_iconst A dX11_readAct_301 ?_
    refine s_istore_n (L' := [some (zR (some 153)), some (zI x1), some (zI x2), some (zI 0)]) A dX11_readAct_302 (Nat.le_of_ble_eq_true rfl) rfl ?_
    exact z_wk (L' := [some (zR (some 153)), some (zI x1), none, some (zI 0)]) ⟨rfl, rfl, rfl, trivial⟩ h
  · obtain rfl := ztg_in (t := 285) ht17 114 hq (by decide) (by decide +kernel)
    have h := h.2.2.2.2.2 (by omega)
    refine s_aload_n A dX11_readAct_285 rfl ?_
    refine s_getf (k := 11) (j := 42) (sl := true) (v := zR (some 178)) A dX11_readAct_286 rfl zuw_X11 (Nat.le_of_ble_eq_true rfl) zwd1350 (by decide) (zk_153 _) rfl ?_
    refine s_iload_n A dX11_readAct_289 rfl ?_
    refine s_iconst A dX11_readAct_290 ?_
    refine s_iadd A dX11_readAct_291 ?_
    refine s_aload_n A dX11_readAct_292 rfl ?_
    refine s_bipush A dX11_readAct_293 rfl ?_
    refine s_bipush A dX11_readAct_295 rfl ?_
    refine s_callV (a := 153) (k := 11) (N := 45) (sl := true) (M := mX11_oneOf) (n := 2) (d := 3) (mc := 0) (ms := 0) (av := [zI 97, zI 8]) (st := [zI (x1 + 1), zR (some 178)]) A dX11_readAct_297 rfl (by decide) (zk_153 _) zwd1479 zwd1481 zwd34 zwd100 zcd_X11_oneOf (Nat.le_of_ble_eq_true rfl) (Nat.le_of_ble_eq_true rfl) (Nat.le_refl _) ⟨Nat.le_of_ble_eq_true rfl, Nat.le_of_ble_eq_true rfl⟩ ⟨rfl, zhn_X11_oneOf⟩ rfl (Nat.le_of_ble_eq_true rfl) rfl (z_contI (fun v15 μ15 h => ?_) h)
    obtain ⟨ox16, h⟩ := h
    refine z_iast A dX11_readAct_300 (zk_178 _) (Nat.le_of_ble_eq_true rfl) ox16 ?_
    refine s_iconst A dX11_readAct_301 ?_
    refine s_istore_n (L' := [some (zR (some 153)), some (zI x1), some (zI x2), some (zI 0)]) A dX11_readAct_302 (Nat.le_of_ble_eq_true rfl) rfl ?_
    exact z_wk (L' := [some (zR (some 153)), some (zI x1), none, some (zI 0)]) ⟨rfl, rfl, rfl, trivial⟩ h
  · obtain rfl := ztg_in (t := 285) ht17 115 hq (by decide) (by decide +kernel)
    have h := h.2.2.2.2.2 (by omega)
    refine s_aload_n A dX11_readAct_285 rfl ?_
    refine s_getf (k := 11) (j := 42) (sl := true) (v := zR (some 178)) A dX11_readAct_286 rfl zuw_X11 (Nat.le_of_ble_eq_true rfl) zwd1350 (by decide) (zk_153 _) rfl ?_
    refine s_iload_n A dX11_readAct_289 rfl ?_
    refine s_iconst A dX11_readAct_290 ?_
    refine s_iadd A dX11_readAct_291 ?_
    refine s_aload_n A dX11_readAct_292 rfl ?_
    refine s_bipush A dX11_readAct_293 rfl ?_
    refine s_bipush A dX11_readAct_295 rfl ?_
    refine s_callV (a := 153) (k := 11) (N := 45) (sl := true) (M := mX11_oneOf) (n := 2) (d := 3) (mc := 0) (ms := 0) (av := [zI 97, zI 8]) (st := [zI (x1 + 1), zR (some 178)]) A dX11_readAct_297 rfl (by decide) (zk_153 _) zwd1479 zwd1481 zwd34 zwd100 zcd_X11_oneOf (Nat.le_of_ble_eq_true rfl) (Nat.le_of_ble_eq_true rfl) (Nat.le_refl _) ⟨Nat.le_of_ble_eq_true rfl, Nat.le_of_ble_eq_true rfl⟩ ⟨rfl, zhn_X11_oneOf⟩ rfl (Nat.le_of_ble_eq_true rfl) rfl (z_contI (fun v15 μ15 h => ?_) h)
    obtain ⟨ox16, h⟩ := h
    refine z_iast A dX11_readAct_300 (zk_178 _) (Nat.le_of_ble_eq_true rfl) ox16 ?_
    refine s_iconst A dX11_readAct_301 ?_
    refine s_istore_n (L' := [some (zR (some 153)), some (zI x1), some (zI x2), some (zI 0)]) A dX11_readAct_302 (Nat.le_of_ble_eq_true rfl) rfl ?_
    exact z_wk (L' := [some (zR (some 153)), some (zI x1), none, some (zI 0)]) ⟨rfl, rfl, rfl, trivial⟩ h
  · obtain rfl := ztg_in (t := 232) ht17 116 hq (by decide) (by decide +kernel)
    have h := h.2.1 (by omega)
    refine s_aload_n A dX11_readAct_232 rfl ?_
    refine s_getf (k := 11) (j := 42) (sl := true) (v := zR (some 178)) A dX11_readAct_233 rfl zuw_X11 (Nat.le_of_ble_eq_true rfl) zwd1350 (by decide) (zk_153 _) rfl ?_
    refine s_iload_n A dX11_readAct_236 rfl ?_
    refine s_iconst A dX11_readAct_237 ?_
    refine s_iadd A dX11_readAct_238 ?_
    refine s_aload_n A dX11_readAct_239 rfl ?_
    refine s_bipush A dX11_readAct_240 rfl ?_
    refine s_bipush A dX11_readAct_242 rfl ?_
    refine s_callV (a := 153) (k := 11) (N := 45) (sl := true) (M := mX11_oneOf) (n := 2) (d := 3) (mc := 0) (ms := 0) (av := [zI 48, zI 10]) (st := [zI (x1 + 1), zR (some 178)]) A dX11_readAct_244 rfl (by decide) (zk_153 _) zwd1479 zwd1481 zwd34 zwd100 zcd_X11_oneOf (Nat.le_of_ble_eq_true rfl) (Nat.le_of_ble_eq_true rfl) (Nat.le_refl _) ⟨Nat.le_of_ble_eq_true rfl, Nat.le_of_ble_eq_true rfl⟩ ⟨rfl, zhn_X11_oneOf⟩ rfl (Nat.le_of_ble_eq_true rfl) rfl (z_contI (fun v5 μ5 h => ?_) h)
    obtain ⟨ox6, h⟩ := h
    refine z_iast A dX11_readAct_247 (zk_178 _) (Nat.le_of_ble_eq_true rfl) ox6 ?_
    refine s_goto (tgt := 330) A dX11_readAct_248 (by decide) ?_
    exact s_vret A dX11_readAct_330 hr hlk (Nat.le_of_ble_eq_true rfl) (Nat.le_of_ble_eq_true rfl) ⟨rfl, h⟩
  · obtain rfl := ztg_in (t := 285) ht17 117 hq (by decide) (by decide +kernel)
    have h := h.2.2.2.2.2 (by omega)
    refine s_aload_n A dX11_readAct_285 rfl ?_
    refine s_getf (k := 11) (j := 42) (sl := true) (v := zR (some 178)) A dX11_readAct_286 rfl zuw_X11 (Nat.le_of_ble_eq_true rfl) zwd1350 (by decide) (zk_153 _) rfl ?_
    refine s_iload_n A dX11_readAct_289 rfl ?_
    refine s_iconst A dX11_readAct_290 ?_
    refine s_iadd A dX11_readAct_291 ?_
    refine s_aload_n A dX11_readAct_292 rfl ?_
    refine s_bipush A dX11_readAct_293 rfl ?_
    refine s_bipush A dX11_readAct_295 rfl ?_
    refine s_callV (a := 153) (k := 11) (N := 45) (sl := true) (M := mX11_oneOf) (n := 2) (d := 3) (mc := 0) (ms := 0) (av := [zI 97, zI 8]) (st := [zI (x1 + 1), zR (some 178)]) A dX11_readAct_297 rfl (by decide) (zk_153 _) zwd1479 zwd1481 zwd34 zwd100 zcd_X11_oneOf (Nat.le_of_ble_eq_true rfl) (Nat.le_of_ble_eq_true rfl) (Nat.le_refl _) ⟨Nat.le_of_ble_eq_true rfl, Nat.le_of_ble_eq_true rfl⟩ ⟨rfl, zhn_X11_oneOf⟩ rfl (Nat.le_of_ble_eq_true rfl) rfl (z_contI (fun v15 μ15 h => ?_) h)
    obtain ⟨ox16, h⟩ := h
    refine z_iast A dX11_readAct_300 (zk_178 _) (Nat.le_of_ble_eq_true rfl) ox16 ?_
    refine s_iconst A dX11_readAct_301 ?_
    refine s_istore_n (L' := [some (zR (some 153)), some (zI x1), some (zI x2), some (zI 0)]) A dX11_readAct_302 (Nat.le_of_ble_eq_true rfl) rfl ?_
    exact z_wk (L' := [some (zR (some 153)), some (zI x1), none, some (zI 0)]) ⟨rfl, rfl, rfl, trivial⟩ h
  · obtain rfl := ztg_in (t := 285) ht17 118 hq (by decide) (by decide +kernel)
    have h := h.2.2.2.2.2 (by omega)
    refine s_aload_n A dX11_readAct_285 rfl ?_
    refine s_getf (k := 11) (j := 42) (sl := true) (v := zR (some 178)) A dX11_readAct_286 rfl zuw_X11 (Nat.le_of_ble_eq_true rfl) zwd1350 (by decide) (zk_153 _) rfl ?_
    refine s_iload_n A dX11_readAct_289 rfl ?_
    refine s_iconst A dX11_readAct_290 ?_
    refine s_iadd A dX11_readAct_291 ?_
    refine s_aload_n A dX11_readAct_292 rfl ?_
    refine s_bipush A dX11_readAct_293 rfl ?_
    refine s_bipush A dX11_readAct_295 rfl ?_
    refine s_callV (a := 153) (k := 11) (N := 45) (sl := true) (M := mX11_oneOf) (n := 2) (d := 3) (mc := 0) (ms := 0) (av := [zI 97, zI 8]) (st := [zI (x1 + 1), zR (some 178)]) A dX11_readAct_297 rfl (by decide) (zk_153 _) zwd1479 zwd1481 zwd34 zwd100 zcd_X11_oneOf (Nat.le_of_ble_eq_true rfl) (Nat.le_of_ble_eq_true rfl) (Nat.le_refl _) ⟨Nat.le_of_ble_eq_true rfl, Nat.le_of_ble_eq_true rfl⟩ ⟨rfl, zhn_X11_oneOf⟩ rfl (Nat.le_of_ble_eq_true rfl) rfl (z_contI (fun v15 μ15 h => ?_) h)
    obtain ⟨ox16, h⟩ := h
    refine z_iast A dX11_readAct_300 (zk_178 _) (Nat.le_of_ble_eq_true rfl) ox16 ?_
    refine s_iconst A dX11_readAct_301 ?_
    refine s_istore_n (L' := [some (zR (some 153)), some (zI x1), some (zI x2), some (zI 0)]) A dX11_readAct_302 (Nat.le_of_ble_eq_true rfl) rfl ?_
    exact z_wk (L' := [some (zR (some 153)), some (zI x1), none, some (zI 0)]) ⟨rfl, rfl, rfl, trivial⟩ h
  · obtain rfl := ztg_in (t := 251) ht17 119 hq (by decide) (by decide +kernel)
    have h := h.2.2.2.2.1 (by omega)
    refine s_aload_n A dX11_readAct_251 rfl ?_
    refine s_getf (k := 11) (j := 42) (sl := true) (v := zR (some 178)) A dX11_readAct_252 rfl zuw_X11 (Nat.le_of_ble_eq_true rfl) zwd1350 (by decide) (zk_153 _) rfl ?_
    refine s_iload_n A dX11_readAct_255 rfl ?_
    refine s_iconst A dX11_readAct_256 ?_
    refine s_iadd A dX11_readAct_257 ?_
    refine s_aload_n A dX11_readAct_258 rfl ?_
    refine s_bipush A dX11_readAct_259 rfl ?_
    refine s_iconst A dX11_readAct_261 ?_
    refine s_callV (a := 153) (k := 11) (N := 45) (sl := true) (M := mX11_oneOf) (n := 2) (d := 3) (mc := 0) (ms := 0) (av := [zI 48, zI 3]) (st := [zI (x1 + 1), zR (some 178)]) A dX11_readAct_262 rfl (by decide) (zk_153 _) zwd1479 zwd1481 zwd34 zwd100 zcd_X11_oneOf (Nat.le_of_ble_eq_true rfl) (Nat.le_of_ble_eq_true rfl) (Nat.le_refl _) ⟨Nat.le_of_ble_eq_true rfl, Nat.le_of_ble_eq_true rfl⟩ ⟨rfl, zhn_X11_oneOf⟩ rfl (Nat.le_of_ble_eq_true rfl) rfl (z_contI (fun v11 μ11 h => ?_) h)
    obtain ⟨ox12, h⟩ := h
    refine z_iast A dX11_readAct_265 (zk_178 _) (Nat.le_of_ble_eq_true rfl) ox12 ?_
    refine s_aload_n A dX11_readAct_266 rfl ?_
    refine s_getf (k := 11) (j := 42) (sl := true) (v := zR (some 178)) A dX11_readAct_267 rfl zuw_X11 (Nat.le_of_ble_eq_true rfl) zwd1350 (by decide) (zk_153 _) rfl ?_
    refine s_iload_n A dX11_readAct_270 rfl ?_
    refine s_iconst A dX11_readAct_271 ?_
    refine s_iadd A dX11_readAct_272 ?_
    refine s_aload_n A dX11_readAct_273 rfl ?_
    refine s_bipush A dX11_readAct_274 rfl ?_
    refine s_bipush A dX11_readAct_276 rfl ?_
    refine s_callV (a := 153) (k := 11) (N := 45) (sl := true) (M := mX11_oneOf) (n := 2) (d := 3) (mc := 0) (ms := 0) (av := [zI 48, zI 10]) (st := [zI (x1 + 2), zR (some 178)]) A dX11_readAct_278 rfl (by decide) (zk_153 _) zwd1479 zwd1481 zwd34 zwd100 zcd_X11_oneOf (Nat.le_of_ble_eq_true rfl) (Nat.le_of_ble_eq_true rfl) (Nat.le_refl _) ⟨Nat.le_of_ble_eq_true rfl, Nat.le_of_ble_eq_true rfl⟩ ⟨rfl, zhn_X11_oneOf⟩ rfl (Nat.le_of_ble_eq_true rfl) rfl (z_contI (fun v13 μ13 h => ?_) h)
    obtain ⟨ox14, h⟩ := h
    refine z_iast A dX11_readAct_281 (zk_178 _) (Nat.le_of_ble_eq_true rfl) ox14 ?_
    refine s_goto (tgt := 330) A dX11_readAct_282 (by decide) ?_
    exact s_vret A dX11_readAct_330 hr hlk (Nat.le_of_ble_eq_true rfl) (Nat.le_of_ble_eq_true rfl) ⟨rfl, h⟩
  · obtain rfl := ztg_out (t := 285) ht17 hq (by decide)
    have h := h.2.2.2.2.2 (by omega)
    refine s_aload_n A dX11_readAct_285 rfl ?_
    refine s_getf (k := 11) (j := 42) (sl := true) (v := zR (some 178)) A dX11_readAct_286 rfl zuw_X11 (Nat.le_of_ble_eq_true rfl) zwd1350 (by decide) (zk_153 _) rfl ?_
    refine s_iload_n A dX11_readAct_289 rfl ?_
    refine s_iconst A dX11_readAct_290 ?_
    refine s_iadd A dX11_readAct_291 ?_
    refine s_aload_n A dX11_readAct_292 rfl ?_
    refine s_bipush A dX11_readAct_293 rfl ?_
    refine s_bipush A dX11_readAct_295 rfl ?_
    refine s_callV (a := 153) (k := 11) (N := 45) (sl := true) (M := mX11_oneOf) (n := 2) (d := 3) (mc := 0) (ms := 0) (av := [zI 97, zI 8]) (st := [zI (x1 + 1), zR (some 178)]) A dX11_readAct_297 rfl (by decide) (zk_153 _) zwd1479 zwd1481 zwd34 zwd100 zcd_X11_oneOf (Nat.le_of_ble_eq_true rfl) (Nat.le_of_ble_eq_true rfl) (Nat.le_refl _) ⟨Nat.le_of_ble_eq_true rfl, Nat.le_of_ble_eq_true rfl⟩ ⟨rfl, zhn_X11_oneOf⟩ rfl (Nat.le_of_ble_eq_true rfl) rfl (z_contI (fun v15 μ15 h => ?_) h)
    obtain ⟨ox16, h⟩ := h
    refine z_iast A dX11_readAct_300 (zk_178 _) (Nat.le_of_ble_eq_true rfl) ox16 ?_
    refine s_iconst A dX11_readAct_301 ?_
    refine s_istore_n (L' := [some (zR (some 153)), some (zI x1), some (zI x2), some (zI 0)]) A dX11_readAct_302 (Nat.le_of_ble_eq_true rfl) rfl ?_
    exact z_wk (L' := [some (zR (some 153)), some (zI x1), none, some (zI 0)]) ⟨rfl, rfl, rfl, trivial⟩ h
set_option maxRecDepth 20000 in
theorem rX11_readAct_174 {G : zG} {F : zM → Prop} {J : Nat → zS → Prop} {μ : zM} (C : zJ G true (5) 0 0 mX11_readAct (zKV F) J) (x1 : Int) (x3 : Int)
    (h : zin x3 ∧ ((3 ≤ x3 → F μ) ∧ (¬ (3 ≤ x3) → qX11_twoDigits G μ (fun v3 μ3 => (0 ≤ (x1 + 2) + x3 ∧ (x1 + 2) + x3 < 400) ∧ J 174 ([some (zR (some 153)), some (zI x1), none, some (zI (x3 + 1))], [], zup μ3 178 ((x1 + 2) + x3) v3, 0, 0))))) : J 174 ([some (zR (some 153)), some (zI x1), none, some (zI x3)], [], μ, 0, 0) := by
  obtain ⟨p, e, s, m, args, below, meth, c, A, hml, hr, hlk, hnm, rfl⟩ := C
  refine s_iload_n A dX11_readAct_174 rfl ?_
  refine s_iconst A dX11_readAct_175 ?_
  obtain ⟨oz1, h⟩ := h
  refine z_icmp_ge (tgt := 199) A dX11_readAct_176 (by decide) oz1 ⟨by decide, by decide⟩ (fun c2 => ?_) (fun c2 => ?_)
  · have h := h.1 c2
    refine s_goto (tgt := 330) A dX11_readAct_199 (by decide) ?_
    exact s_vret A dX11_readAct_330 hr hlk (Nat.le_of_ble_eq_true rfl) (Nat.le_of_ble_eq_true rfl) ⟨rfl, h⟩
  · have h := h.2 c2
    refine s_aload_n A dX11_readAct_179 rfl ?_
    refine s_getf (k := 11) (j := 42) (sl := true) (v := zR (some 178)) A dX11_readAct_180 rfl zuw_X11 (Nat.le_of_ble_eq_true rfl) zwd1350 (by decide) (zk_153 _) rfl ?_
    refine s_iload_n A dX11_readAct_183 rfl ?_
    refine s_iconst A dX11_readAct_184 ?_
    refine s_iadd A dX11_readAct_185 ?_
    refine s_iload_n A dX11_readAct_186 rfl ?_
    refine s_iadd A dX11_readAct_187 ?_
    refine s_aload_n A dX11_readAct_188 rfl ?_
    refine s_callV (a := 153) (k := 11) (N := 45) (sl := true) (M := mX11_twoDigits) (n := 0) (d := 4) (mc := 0) (ms := 0) (av := []) (st := [zI ((x1 + 2) + x3), zR (some 178)]) A dX11_readAct_189 rfl (by decide) (zk_153 _) zwd1491 zwd1493 zwd37 zwd100 zcd_X11_twoDigits (Nat.le_of_ble_eq_true rfl) (Nat.le_of_ble_eq_true rfl) (Nat.le_refl _) ⟨Nat.le_of_ble_eq_true rfl, Nat.le_of_ble_eq_true rfl⟩ ⟨rfl, zhn_X11_twoDigits⟩ rfl (Nat.le_of_ble_eq_true rfl) rfl (z_contI (fun v3 μ3 h => ?_) h)
    obtain ⟨ox4, h⟩ := h
    refine z_iast A dX11_readAct_192 (zk_178 _) (Nat.le_of_ble_eq_true rfl) ox4 ?_
    refine s_iinc (L' := [some (zR (some 153)), some (zI x1), none, some (zI (x3 + 1))]) A dX11_readAct_193 rfl rfl ?_
    refine s_goto (tgt := 174) A dX11_readAct_196 (by decide) ?_
    exact h
set_option maxRecDepth 20000 in
theorem rX11_readAct_303 {G : zG} {F : zM → Prop} {J : Nat → zS → Prop} {μ : zM} (C : zJ G true (5) 0 0 mX11_readAct (zKV F) J) (x1 : Int) (x3 : Int)
    (h : zin x3 ∧ ((3 ≤ x3 → F μ) ∧ (¬ (3 ≤ x3) → qX11_twoDigits G μ (fun v3 μ3 => (0 ≤ (x1 + 2) + x3 ∧ (x1 + 2) + x3 < 400) ∧ J 303 ([some (zR (some 153)), some (zI x1), none, some (zI (x3 + 1))], [], zup μ3 178 ((x1 + 2) + x3) (4 * v3), 0, 0))))) : J 303 ([some (zR (some 153)), some (zI x1), none, some (zI x3)], [], μ, 0, 0) := by
  obtain ⟨p, e, s, m, args, below, meth, c, A, hml, hr, hlk, hnm, rfl⟩ := C
  refine s_iload_n A dX11_readAct_303 rfl ?_
  refine s_iconst A dX11_readAct_304 ?_
  obtain ⟨oz1, h⟩ := h
  refine z_icmp_ge (tgt := 330) A dX11_readAct_305 (by decide) oz1 ⟨by decide, by decide⟩ (fun c2 => ?_) (fun c2 => ?_)
  · have h := h.1 c2
    exact s_vret A dX11_readAct_330 hr hlk (Nat.le_of_ble_eq_true rfl) (Nat.le_of_ble_eq_true rfl) ⟨rfl, h⟩
  · have h := h.2 c2
    refine s_aload_n A dX11_readAct_308 rfl ?_
    refine s_getf (k := 11) (j := 42) (sl := true) (v := zR (some 178)) A dX11_readAct_309 rfl zuw_X11 (Nat.le_of_ble_eq_true rfl) zwd1350 (by decide) (zk_153 _) rfl ?_
    refine s_iload_n A dX11_readAct_312 rfl ?_
    refine s_iconst A dX11_readAct_313 ?_
    refine s_iadd A dX11_readAct_314 ?_
    refine s_iload_n A dX11_readAct_315 rfl ?_
    refine s_iadd A dX11_readAct_316 ?_
    refine s_iconst A dX11_readAct_317 ?_
    refine s_aload_n A dX11_readAct_318 rfl ?_
    refine s_callV (a := 153) (k := 11) (N := 45) (sl := true) (M := mX11_twoDigits) (n := 0) (d := 4) (mc := 0) (ms := 0) (av := []) (st := [zI 4, zI ((x1 + 2) + x3), zR (some 178)]) A dX11_readAct_319 rfl (by decide) (zk_153 _) zwd1491 zwd1493 zwd37 zwd100 zcd_X11_twoDigits (Nat.le_of_ble_eq_true rfl) (Nat.le_of_ble_eq_true rfl) (Nat.le_refl _) ⟨Nat.le_of_ble_eq_true rfl, Nat.le_of_ble_eq_true rfl⟩ ⟨rfl, zhn_X11_twoDigits⟩ rfl (Nat.le_of_ble_eq_true rfl) rfl (z_contI (fun v3 μ3 h => ?_) h)
    refine s_imul A dX11_readAct_322 ?_
    obtain ⟨ox4, h⟩ := h
    refine z_iast A dX11_readAct_323 (zk_178 _) (Nat.le_of_ble_eq_true rfl) ox4 ?_
    refine s_iinc (L' := [some (zR (some 153)), some (zI x1), none, some (zI (x3 + 1))]) A dX11_readAct_324 rfl rfl ?_
    refine s_goto (tgt := 303) A dX11_readAct_327 (by decide) ?_
    exact h
theorem eX11_readAct {G : zG} {F : zM → Prop} {μ : zM} {x1 : Int} (h : ∀ J, zJ G true (5) 0 0 mX11_readAct (zKV F) J → J 0 ([some (zR (some 153)), some (zI x1), none, none], [], μ, 0, 0)) : qX11_readAct G x1 μ F :=
  z_body (by decide +kernel) (Nat.le_of_ble_eq_true rfl) h
