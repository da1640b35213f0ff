set_option maxRecDepth 20000 in
theorem rX11_set_e {G : zG} {F : Int → zM → Prop} {J : Nat → zS → Prop} {μ : zM} (C : zJ G true (3) 0 0 mX11_set (zKI F) J) (x1 : Int) (x2 : Int)
    (h : qX11_refusesSet G x1 x2 μ (fun v1 μ1 => zin v1 ∧ ((0 ≤ v1 → (0 ≤ 704 + x1 ∧ 704 + x1 < 711) ∧ F 1 (zup μ1 154 (704 + x1) x2)) ∧ (¬ (0 ≤ v1) → F 0 μ1)))) : J 0 ([some (zR (some 153)), some (zI x1), some (zI x2)], [], μ, 0, 0) := by
  obtain ⟨p, e, s, m, args, below, meth, c, A, hml, hr, hlk, hnm, rfl⟩ := C
  refine s_aload_n A dX11_set_0 rfl ?_
  refine s_iload_n A dX11_set_1 rfl ?_
  refine s_iload_n A dX11_set_2 rfl ?_
  refine s_callV (a := 153) (k := 11) (N := 45) (sl := true) (M := mX11_refusesSet) (n := 2) (d := 2) (mc := 0) (ms := 0) (av := [zI x1, zI x2]) (st := []) A dX11_set_3 rfl (by decide) (zk_153 _) zwd1872 zwd1874 zwd83 zwd100 zcd_X11_refusesSet (Nat.le_of_ble_eq_true rfl) (Nat.le_of_ble_eq_true rfl) (Nat.le_refl _) ⟨Nat.le_of_ble_eq_true rfl, Nat.le_of_ble_eq_true rfl⟩ ⟨rfl, zhn_X11_refusesSet⟩ rfl (Nat.le_of_ble_eq_true rfl) rfl (z_contI (fun v1 μ1 h => ?_) h)
  obtain ⟨oz2, h⟩ := h
  refine z_if_ge (tgt := 11) A dX11_set_6 (by decide) oz2 (fun c3 => ?_) (fun c3 => ?_)
  · have h := h.1 c3
    refine s_aload_n A dX11_set_11 rfl ?_
    refine s_getf (k := 11) (j := 0) (sl := true) (v := zR (some 154)) A dX11_set_12 rfl zuw_X11 (Nat.le_of_ble_eq_true rfl) zwd1308 (by decide) (zk_153 _) rfl ?_
    refine s_sipush A dX11_set_15 rfl ?_
    refine s_iload_n A dX11_set_18 rfl ?_
    refine s_iadd A dX11_set_19 ?_
    refine s_iload_n A dX11_set_20 rfl ?_
    obtain ⟨ox4, h⟩ := h
    refine z_iast A dX11_set_21 (zk_154 _) (Nat.le_of_ble_eq_true rfl) ox4 ?_
    refine s_iconst A dX11_set_22 ?_
    exact s_zret A dX11_set_23 hr hlk (Nat.le_of_ble_eq_true rfl) (Nat.le_of_ble_eq_true rfl) (Or.inr rfl) ⟨_, rfl, h⟩
  · have h := h.2 c3
    refine s_iconst A dX11_set_9 ?_
    exact s_zret A dX11_set_10 hr hlk (Nat.le_of_ble_eq_true rfl) (Nat.le_of_ble_eq_true rfl) (Or.inl rfl) ⟨_, rfl, h⟩
theorem eX11_set {G : zG} {F : Int → zM → Prop} {μ : zM} {x1 : Int} {x2 : Int} (h : ∀ J, zJ G true (3) 0 0 mX11_set (zKI F) J → J 0 ([some (zR (some 153)), some (zI x1), some (zI x2)], [], μ, 0, 0)) : qX11_set G x1 x2 μ F :=
  z_body (by decide +kernel) (Nat.le_of_ble_eq_true rfl) h
set_option maxRecDepth 20000 in
theorem rX11_act_e {G : zG} {F : Int → zM → Prop} {J : Nat → zS → Prop} {μ : zM} (C : zJ G true (4) 0 0 mX11_act (zKI F) J) (x1 : Int)
    (h : (0 ≤ x1 + 1 ∧ x1 + 1 < 400) ∧ (0 ≤ x1 + 2 ∧ x1 + 2 < 400) ∧ (0 ≤ x1 ∧ x1 < 400) ∧ zin (zi μ 178 x1) ∧ ((zi μ 178 x1 = 102 → (0 ≤ 243 + (zi μ 178 (x1 + 1)) ∧ 243 + (zi μ 178 (x1 + 1)) < 711) ∧ zin (zi μ 154 (243 + (zi μ 178 (x1 + 1)))) ∧ ((¬ zi μ 154 (243 + (zi μ 178 (x1 + 1))) = 0 → F 1 (zup μ 154 (243 + (zi μ 178 (x1 + 1))) 0)) ∧ (zi μ 154 (243 + (zi μ 178 (x1 + 1))) = 0 → F 0 μ))) ∧ (zi μ 178 x1 = 103 → qX11_set G 1 (zi μ 178 (x1 + 1)) μ (fun v8 μ8 => (v8 = 0 ∨ v8 = 1) ∧ F v8 μ8)) ∧ (zi μ 178 x1 = 108 → qX11_set G 0 (zi μ 178 (x1 + 1)) μ (fun v9 μ9 => (v9 = 0 ∨ v9 = 1) ∧ F v9 μ9)) ∧ (zi μ 178 x1 = 109 → (0 ≤ x1 + 3 ∧ x1 + 3 < 400) ∧ (0 ≤ x1 + 4 ∧ x1 + 4 < 400) ∧ qX11_putLight G (zi μ 178 (x1 + 1)) (zi μ 178 (x1 + 2)) (zi μ 178 (x1 + 3)) (zi μ 178 (x1 + 4)) μ (fun μ12 => F 1 μ12)) ∧ (zi μ 178 x1 = 116 → qX11_set G 3 (zi μ 178 (x1 + 1)) μ (fun v13 μ13 => (v13 = 0 ∨ v13 = 1) ∧ F v13 μ13)) ∧ (zi μ 178 x1 = 119 → qX11_set G (4 + (zi μ 178 (x1 + 1))) (zi μ 178 (x1 + 2)) μ (fun v14 μ14 => (v14 = 0 ∨ v14 = 1) ∧ F v14 μ14)) ∧ (zi μ 178 x1 ≠ 102 ∧ zi μ 178 x1 ≠ 103 ∧ zi μ 178 x1 ≠ 108 ∧ zi μ 178 x1 ≠ 109 ∧ zi μ 178 x1 ≠ 116 ∧ zi μ 178 x1 ≠ 119 → (0 ≤ x1 + 3 ∧ x1 + 3 < 400) ∧ (0 ≤ x1 + 4 ∧ x1 + 4 < 400) ∧ qX11_paint G (zi μ 178 (x1 + 1)) (zi μ 178 (x1 + 2)) (zi μ 178 (x1 + 3)) (zi μ 178 (x1 + 4)) μ (fun μ17 => F 1 μ17)))) : J 0 ([some (zR (some 153)), some (zI x1), none, none], [], μ, 0, 0) := by
  obtain ⟨p, e, s, m, args, below, meth, c, A, hml, hr, hlk, hnm, rfl⟩ := C
  refine s_aload_n A dX11_act_0 rfl ?_
  refine s_getf (k := 11) (j := 42) (sl := true) (v := zR (some 178)) A dX11_act_1 rfl zuw_X11 (Nat.le_of_ble_eq_true rfl) zwd1350 (by decide) (zk_153 _) rfl ?_
  refine s_iload_n A dX11_act_4 rfl ?_
  refine s_iconst A dX11_act_5 ?_
  refine s_iadd A dX11_act_6 ?_
  obtain ⟨ox1, h⟩ := h
  refine z_iald A dX11_act_7 (zk_178 _) (Nat.le_of_ble_eq_true rfl) ox1 ?_
  refine s_istore_n (L' := [some (zR (some 153)), some (zI x1), some (zI (zi μ 178 (x1 + 1))), none]) A dX11_act_8 (Nat.le_of_ble_eq_true rfl) rfl ?_
  refine s_aload_n A dX11_act_9 rfl ?_
  refine s_getf (k := 11) (j := 42) (sl := true) (v := zR (some 178)) A dX11_act_10 rfl zuw_X11 (Nat.le_of_ble_eq_true rfl) zwd1350 (by decide) (zk_153 _) rfl ?_
  refine s_iload_n A dX11_act_13 rfl ?_
  refine s_iconst A dX11_act_14 ?_
  refine s_iadd A dX11_act_15 ?_
  obtain ⟨ox2, h⟩ := h
  refine z_iald A dX11_act_16 (zk_178 _) (Nat.le_of_ble_eq_true rfl) ox2 ?_
  refine s_istore_n (L' := [some (zR (some 153)), some (zI x1), some (zI (zi μ 178 (x1 + 1))), some (zI (zi μ 178 (x1 + 2)))]) A dX11_act_17 (Nat.le_of_ble_eq_true rfl) rfl ?_
  refine s_aload_n A dX11_act_18 rfl ?_
  refine s_getf (k := 11) (j := 42) (sl := true) (v := zR (some 178)) A dX11_act_19 rfl zuw_X11 (Nat.le_of_ble_eq_true rfl) zwd1350 (by decide) (zk_153 _) rfl ?_
  refine s_iload_n A dX11_act_22 rfl ?_
  obtain ⟨ox3, h⟩ := h
  refine z_iald A dX11_act_23 (zk_178 _) (Nat.le_of_ble_eq_true rfl) ox3 ?_
  obtain ⟨oz4, h⟩ := h
  refine z_tsw A dX11_act_24 oz4 (by decide +kernel) ⟨194, by decide⟩ (fun tg18 ht18 => ?_)
  have hx18 : (zi μ 178 x1 = 102 ∨ zi μ 178 x1 = 103 ∨ zi μ 178 x1 = 104 ∨ zi μ 178 x1 = 105 ∨ zi μ 178 x1 = 106 ∨ zi μ 178 x1 = 107 ∨ zi μ 178 x1 = 108 ∨ zi μ 178 x1 = 109 ∨ zi μ 178 x1 = 110 ∨ zi μ 178 x1 = 111 ∨ zi μ 178 x1 = 112 ∨ zi μ 178 x1 = 113 ∨ zi μ 178 x1 = 114 ∨ zi μ 178 x1 = 115 ∨ zi μ 178 x1 = 116 ∨ zi μ 178 x1 = 117 ∨ zi μ 178 x1 = 118 ∨ zi μ 178 x1 = 119) ∨ (zi μ 178 x1 < 102 ∨ 119 < zi μ 178 x1) := by omega
  rcases hx18 with (hq | hq | hq | hq | hq | hq | hq | hq | hq | hq | hq | hq | hq | hq | hq | hq | hq | hq) | hq
  · obtain rfl := ztg_in (t := 136) ht18 102 hq (by decide) (by decide +kernel)
    have h := h.1 (by omega)
    refine s_aload_n A dX11_act_136 rfl ?_
    refine s_getf (k := 11) (j := 0) (sl := true) (v := zR (some 154)) A dX11_act_137 rfl zuw_X11 (Nat.le_of_ble_eq_true rfl) zwd1308 (by decide) (zk_153 _) rfl ?_
    refine s_sipush A dX11_act_140 rfl ?_
    refine s_iload_n A dX11_act_143 rfl ?_
    refine s_iadd A dX11_act_144 ?_
    obtain ⟨ox5, h⟩ := h
    refine z_iald A dX11_act_145 (zk_154 _) (Nat.le_of_ble_eq_true rfl) ox5 ?_
    obtain ⟨oz6, h⟩ := h
    refine z_if_ne (tgt := 151) A dX11_act_146 (by decide) oz6 (fun c7 => ?_) (fun c7 => ?_)
    · have h := h.1 c7
      refine s_aload_n A dX11_act_151 rfl ?_
      refine s_getf (k := 11) (j := 0) (sl := true) (v := zR (some 154)) A dX11_act_152 rfl zuw_X11 (Nat.le_of_ble_eq_true rfl) zwd1308 (by decide) (zk_153 _) rfl ?_
      refine s_sipush A dX11_act_155 rfl ?_
      refine s_iload_n A dX11_act_158 rfl ?_
      refine s_iadd A dX11_act_159 ?_
      refine s_iconst A dX11_act_160 ?_
      refine z_iast A dX11_act_161 (zk_154 _) (Nat.le_of_ble_eq_true rfl) ox5 ?_
      refine s_iconst A dX11_act_162 ?_
      exact s_zret A dX11_act_163 hr hlk (Nat.le_of_ble_eq_true rfl) (Nat.le_of_ble_eq_true rfl) (Or.inr rfl) ⟨_, rfl, h⟩
    · have h := h.2 c7
      refine s_iconst A dX11_act_149 ?_
      exact s_zret A dX11_act_150 hr hlk (Nat.le_of_ble_eq_true rfl) (Nat.le_of_ble_eq_true rfl) (Or.inl rfl) ⟨_, rfl, h⟩
  · obtain rfl := ztg_in (t := 171) ht18 103 hq (by decide) (by decide +kernel)
    have h := h.2.1 (by omega)
    refine s_aload_n A dX11_act_171 rfl ?_
    refine s_iconst A dX11_act_172 ?_
    refine s_iload_n A dX11_act_173 rfl ?_
    refine s_callV (a := 153) (k := 11) (N := 45) (sl := true) (M := mX11_set) (n := 2) (d := 3) (mc := 0) (ms := 0) (av := [zI 1, zI (zi μ 178 (x1 + 1))]) (st := []) A dX11_act_174 rfl (by decide) (zk_153 _) zwd1900 zwd1902 zwd87 zwd100 zcd_X11_set (Nat.le_of_ble_eq_true rfl) (Nat.le_of_ble_eq_true rfl) (Nat.le_refl _) ⟨Nat.le_of_ble_eq_true rfl, Nat.le_of_ble_eq_true rfl⟩ ⟨rfl, zhn_X11_set⟩ rfl (Nat.le_of_ble_eq_true rfl) rfl (z_contI (fun v8 μ8 h => ?_) h)
    obtain ⟨o1, h⟩ := h
    exact s_zret A dX11_act_177 hr hlk (Nat.le_of_ble_eq_true rfl) (Nat.le_of_ble_eq_true rfl) o1 ⟨_, rfl, h⟩
  · obtain rfl := ztg_in (t := 194) ht18 104 hq (by decide) (by decide +kernel)
    have h := h.2.2.2.2.2.2 (by omega)
    refine s_aload_n A dX11_act_194 rfl ?_
    refine s_iload_n A dX11_act_195 rfl ?_
    refine s_iload_n A dX11_act_196 rfl ?_
    refine s_aload_n A dX11_act_197 rfl ?_
    refine s_getf (k := 11) (j := 42) (sl := true) (v := zR (some 178)) A dX11_act_198 rfl zuw_X11 (Nat.le_of_ble_eq_true rfl) zwd1350 (by decide) (zk_153 _) rfl ?_
    refine s_iload_n A dX11_act_201 rfl ?_
    refine s_iconst A dX11_act_202 ?_
    refine s_iadd A dX11_act_203 ?_
    obtain ⟨ox15, h⟩ := h
    refine z_iald A dX11_act_204 (zk_178 _) (Nat.le_of_ble_eq_true rfl) ox15 ?_
    refine s_aload_n A dX11_act_205 rfl ?_
    refine s_getf (k := 11) (j := 42) (sl := true) (v := zR (some 178)) A dX11_act_206 rfl zuw_X11 (Nat.le_of_ble_eq_true rfl) zwd1350 (by decide) (zk_153 _) rfl ?_
    refine s_iload_n A dX11_act_209 rfl ?_
    refine s_iconst A dX11_act_210 ?_
    refine s_iadd A dX11_act_211 ?_
    obtain ⟨ox16, h⟩ := h
    refine z_iald A dX11_act_212 (zk_178 _) (Nat.le_of_ble_eq_true rfl) ox16 ?_
    refine s_callV (a := 153) (k := 11) (N := 45) (sl := true) (M := mX11_paint) (n := 4) (d := 0) (mc := 0) (ms := 0) (av := [zI (zi μ 178 (x1 + 1)), zI (zi μ 178 (x1 + 2)), zI (zi μ 178 (x1 + 3)), zI (zi μ 178 (x1 + 4))]) (st := []) A dX11_act_213 rfl (by decide) (zk_153 _) zwd1884 zwd1886 zwd84 zwd100 zcd_X11_paint (Nat.le_of_ble_eq_true rfl) (Nat.le_of_ble_eq_true rfl) (Nat.le_refl _) ⟨Nat.le_of_ble_eq_true rfl, Nat.le_of_ble_eq_true rfl⟩ ⟨rfl, zhn_X11_paint⟩ rfl (Nat.le_of_ble_eq_true rfl) rfl (z_contV (fun μ17 h => ?_) h)
    refine s_iconst A dX11_act_216 ?_
    exact s_zret A dX11_act_217 hr hlk (Nat.le_of_ble_eq_true rfl) (Nat.le_of_ble_eq_true rfl) (Or.inr rfl) ⟨_, rfl, h⟩
  · obtain rfl := ztg_in (t := 194) ht18 105 hq (by decide) (by decide +kernel)
    have h := h.2.2.2.2.2.2 (by omega)
    refine s_aload_n A dX11_act_194 rfl ?_
    refine s_iload_n A dX11_act_195 rfl ?_
    refine s_iload_n A dX11_act_196 rfl ?_
    refine s_aload_n A dX11_act_197 rfl ?_
    refine s_getf (k := 11) (j := 42) (sl := true) (v := zR (some 178)) A dX11_act_198 rfl zuw_X11 (Nat.le_of_ble_eq_true rfl) zwd1350 (by decide) (zk_153 _) rfl ?_
    refine s_iload_n A dX11_act_201 rfl ?_
    refine s_iconst A dX11_act_202 ?_
    refine s_iadd A dX11_act_203 ?_
    obtain ⟨ox15, h⟩ := h
    refine z_iald A dX11_act_204 (zk_178 _) (Nat.le_of_ble_eq_true rfl) ox15 ?_
    refine s_aload_n A dX11_act_205 rfl ?_
    refine s_getf (k := 11) (j := 42) (sl := true) (v := zR (some 178)) A dX11_act_206 rfl zuw_X11 (Nat.le_of_ble_eq_true rfl) zwd1350 (by decide) (zk_153 _) rfl ?_
    refine s_iload_n A dX11_act_209 rfl ?_
    refine s_iconst A dX11_act_210 ?_
    refine s_iadd A dX11_act_211 ?_
    obtain ⟨ox16, h⟩ := h
    refine z_iald A dX11_act_212 (zk_178 _) (Nat.le_of_ble_eq_true rfl) ox16 ?_
    refine s_callV (a := 153) (k := 11) (N := 45) (sl := true) (M := mX11_paint) (n := 4) (d := 0) (mc := 0) (ms := 0) (av := [zI (zi μ 178 (x1 + 1)), zI (zi μ 178 (x1 + 2)), zI (zi μ 178 (x1 + 3)), zI (zi μ 178 (x1 + 4))]) (st := []) A dX11_act_213 rfl (by decide) (zk_153 _) zwd1884 zwd1886 zwd84 zwd100 zcd_X11_paint (Nat.le_of_ble_eq_true rfl) (Nat.le_of_ble_eq_true rfl) (Nat.le_refl _) ⟨Nat.le_of_ble_eq_true rfl, Nat.le_of_ble_eq_true rfl⟩ ⟨rfl, zhn_X11_paint⟩ rfl (Nat.le_of_ble_eq_true rfl) rfl (z_contV (fun μ17 h => ?_) h)
    refine s_iconst A dX11_act_216 ?_
    exact s_zret A dX11_act_217 hr hlk (Nat.le_of_ble_eq_true rfl) (Nat.le_of_ble_eq_true rfl) (Or.inr rfl) ⟨_, rfl, h⟩
  · obtain rfl := ztg_in (t := 194) ht18 106 hq (by decide) (by decide +kernel)
    have h := h.2.2.2.2.2.2 (by omega)
    refine s_aload_n A dX11_act_194 rfl ?_
    refine s_iload_n A dX11_act_195 rfl ?_
    refine s_iload_n A dX11_act_196 rfl ?_
    refine s_aload_n A dX11_act_197 rfl ?_
    refine s_getf (k := 11) (j := 42) (sl := true) (v := zR (some 178)) A dX11_act_198 rfl zuw_X11 (Nat.le_of_ble_eq_true rfl) zwd1350 (by decide) (zk_153 _) rfl ?_
    refine s_iload_n A dX11_act_201 rfl ?_
    refine s_iconst A dX11_act_202 ?_
    refine s_iadd A dX11_act_203 ?_
    obtain ⟨ox15, h⟩ := h
    refine z_iald A dX11_act_204 (zk_178 _) (Nat.le_of_ble_eq_true rfl) ox15 ?_
    refine s_aload_n A dX11_act_205 rfl ?_
    refine s_getf (k := 11) (j := 42) (sl := true) (v := zR (some 178)) A dX11_act_206 rfl zuw_X11 (Nat.le_of_ble_eq_true rfl) zwd1350 (by decide) (zk_153 _) rfl ?_
    refine s_iload_n A dX11_act_209 rfl ?_
    refine s_iconst A dX11_act_210 ?_
    refine s_iadd A dX11_act_211 ?_
    obtain ⟨ox16, h⟩ := h
    refine z_iald A dX11_act_212 (zk_178 _) (Nat.le_of_ble_eq_true rfl) ox16 ?_
    refine s_callV (a := 153) (k := 11) (N := 45) (sl := true) (M := mX11_paint) (n := 4) (d := 0) (mc := 0) (ms := 0) (av := [zI (zi μ 178 (x1 + 1)), zI (zi μ 178 (x1 + 2)), zI (zi μ 178 (x1 + 3)), zI (zi μ 178 (x1 + 4))]) (st := []) A dX11_act_213 rfl (by decide) (zk_153 _) zwd1884 zwd1886 zwd84 zwd100 zcd_X11_paint (Nat.le_of_ble_eq_true rfl) (Nat.le_of_ble_eq_true rfl) (Nat.le_refl _) ⟨Nat.le_of_ble_eq_true rfl, Nat.le_of_ble_eq_true rfl⟩ ⟨rfl, zhn_X11_paint⟩ rfl (Nat.le_of_ble_eq_true rfl) rfl (z_contV (fun μ17 h => ?_) h)
    refine s_iconst A dX11_act_216 ?_
    exact s_zret A dX11_act_217 hr hlk (Nat.le_of_ble_eq_true rfl) (Nat.le_of_ble_eq_true rfl) (Or.inr rfl) ⟨_, rfl, h⟩
  · obtain rfl := ztg_in (t := 194) ht18 107 hq (by decide) (by decide +kernel)
    have h := h.2.2.2.2.2.2 (by omega)
    refine s_aload_n A dX11_act_194 rfl ?_
    refine s_iload_n A dX11_act_195 rfl ?_
    refine s_iload_n A dX11_act_196 rfl ?_
    refine s_aload_n A dX11_act_197 rfl ?_
    refine s_getf (k := 11) (j := 42) (sl := true) (v := zR (some 178)) A dX11_act_198 rfl zuw_X11 (Nat.le_of_ble_eq_true rfl) zwd1350 (by decide) (zk_153 _) rfl ?_
    refine s_iload_n A dX11_act_201 rfl ?_
    refine s_iconst A dX11_act_202 ?_
    refine s_iadd A dX11_act_203 ?_
    obtain ⟨ox15, h⟩ := h
    refine z_iald A dX11_act_204 (zk_178 _) (Nat.le_of_ble_eq_true rfl) ox15 ?_
    refine s_aload_n A dX11_act_205 rfl ?_
    refine s_getf (k := 11) (j := 42) (sl := true) (v := zR (some 178)) A dX11_act_206 rfl zuw_X11 (Nat.le_of_ble_eq_true rfl) zwd1350 (by decide) (zk_153 _) rfl ?_
    refine s_iload_n A dX11_act_209 rfl ?_
    refine s_iconst A dX11_act_210 ?_
    refine s_iadd A dX11_act_211 ?_
    obtain ⟨ox16, h⟩ := h
    refine z_iald A dX11_act_212 (zk_178 _) (Nat.le_of_ble_eq_true rfl) ox16 ?_
    refine s_callV (a := 153) (k := 11) (N := 45) (sl := true) (M := mX11_paint) (n := 4) (d := 0) (mc := 0) (ms := 0) (av := [zI (zi μ 178 (x1 + 1)), zI (zi μ 178 (x1 + 2)), zI (zi μ 178 (x1 + 3)), zI (zi μ 178 (x1 + 4))]) (st := []) A dX11_act_213 rfl (by decide) (zk_153 _) zwd1884 zwd1886 zwd84 zwd100 zcd_X11_paint (Nat.le_of_ble_eq_true rfl) (Nat.le_of_ble_eq_true rfl) (Nat.le_refl _) ⟨Nat.le_of_ble_eq_true rfl, Nat.le_of_ble_eq_true rfl⟩ ⟨rfl, zhn_X11_paint⟩ rfl (Nat.le_of_ble_eq_true rfl) rfl (z_contV (fun μ17 h => ?_) h)
    refine s_iconst A dX11_act_216 ?_
    exact s_zret A dX11_act_217 hr hlk (Nat.le_of_ble_eq_true rfl) (Nat.le_of_ble_eq_true rfl) (Or.inr rfl) ⟨_, rfl, h⟩
  · obtain rfl := ztg_in (t := 164) ht18 108 hq (by decide) (by decide +kernel)
    have h := h.2.2.1 (by omega)
    refine s_aload_n A dX11_act_164 rfl ?_
    refine s_iconst A dX11_act_165 ?_
    refine s_iload_n A dX11_act_166 rfl ?_
    refine s_callV (a := 153) (k := 11) (N := 45) (sl := true) (M := mX11_set) (n := 2) (d := 3) (mc := 0) (ms := 0) (av := [zI 0, zI (zi μ 178 (x1 + 1))]) (st := []) A dX11_act_167 rfl (by decide) (zk_153 _) zwd1900 zwd1902 zwd87 zwd100 zcd_X11_set (Nat.le_of_ble_eq_true rfl) (Nat.le_of_ble_eq_true rfl) (Nat.le_refl _) ⟨Nat.le_of_ble_eq_true rfl, Nat.le_of_ble_eq_true rfl⟩ ⟨rfl, zhn_X11_set⟩ rfl (Nat.le_of_ble_eq_true rfl) rfl (z_contI (fun v9 μ9 h => ?_) h)
    obtain ⟨o1, h⟩ := h
    exact s_zret A dX11_act_170 hr hlk (Nat.le_of_ble_eq_true rfl) (Nat.le_of_ble_eq_true rfl) o1 ⟨_, rfl, h⟩
  · obtain rfl := ztg_in (t := 112) ht18 109 hq (by decide) (by decide +kernel)
    have h := h.2.2.2.1 (by omega)
    refine s_aload_n A dX11_act_112 rfl ?_
    refine s_iload_n A dX11_act_113 rfl ?_
    refine s_iload_n A dX11_act_114 rfl ?_
    refine s_aload_n A dX11_act_115 rfl ?_
    refine s_getf (k := 11) (j := 42) (sl := true) (v := zR (some 178)) A dX11_act_116 rfl zuw_X11 (Nat.le_of_ble_eq_true rfl) zwd1350 (by decide) (zk_153 _) rfl ?_
    refine s_iload_n A dX11_act_119 rfl ?_
    refine s_iconst A dX11_act_120 ?_
    refine s_iadd A dX11_act_121 ?_
    obtain ⟨ox10, h⟩ := h
    refine z_iald A dX11_act_122 (zk_178 _) (Nat.le_of_ble_eq_true rfl) ox10 ?_
    refine s_aload_n A dX11_act_123 rfl ?_
    refine s_getf (k := 11) (j := 42) (sl := true) (v := zR (some 178)) A dX11_act_124 rfl zuw_X11 (Nat.le_of_ble_eq_true rfl) zwd1350 (by decide) (zk_153 _) rfl ?_
    refine s_iload_n A dX11_act_127 rfl ?_
    refine s_iconst A dX11_act_128 ?_
    refine s_iadd A dX11_act_129 ?_
    obtain ⟨ox11, h⟩ := h
    refine z_iald A dX11_act_130 (zk_178 _) (Nat.le_of_ble_eq_true rfl) ox11 ?_
    refine s_callV (a := 153) (k := 11) (N := 45) (sl := true) (M := mX11_putLight) (n := 4) (d := 3) (mc := 0) (ms := 0) (av := [zI (zi μ 178 (x1 + 1)), zI (zi μ 178 (x1 + 2)), zI (zi μ 178 (x1 + 3)), zI (zi μ 178 (x1 + 4))]) (st := []) A dX11_act_131 rfl (by decide) (zk_153 _) zwd1507 zwd1509 zwd41 zwd100 zcd_X11_putLight (Nat.le_of_ble_eq_true rfl) (Nat.le_of_ble_eq_true rfl) (Nat.le_refl _) ⟨Nat.le_of_ble_eq_true rfl, Nat.le_of_ble_eq_true rfl⟩ ⟨rfl, zhn_X11_putLight⟩ rfl (Nat.le_of_ble_eq_true rfl) rfl (z_contV (fun μ12 h => ?_) h)
    refine s_iconst A dX11_act_134 ?_
    exact s_zret A dX11_act_135 hr hlk (Nat.le_of_ble_eq_true rfl) (Nat.le_of_ble_eq_true rfl) (Or.inr rfl) ⟨_, rfl, h⟩
  · obtain rfl := ztg_in (t := 194) ht18 110 hq (by decide) (by decide +kernel)
    have h := h.2.2.2.2.2.2 (by omega)
    refine s_aload_n A dX11_act_194 rfl ?_
    refine s_iload_n A dX11_act_195 rfl ?_
    refine s_iload_n A dX11_act_196 rfl ?_
    refine s_aload_n A dX11_act_197 rfl ?_
    refine s_getf (k := 11) (j := 42) (sl := true) (v := zR (some 178)) A dX11_act_198 rfl zuw_X11 (Nat.le_of_ble_eq_true rfl) zwd1350 (by decide) (zk_153 _) rfl ?_
    refine s_iload_n A dX11_act_201 rfl ?_
    refine s_iconst A dX11_act_202 ?_
    refine s_iadd A dX11_act_203 ?_
    obtain ⟨ox15, h⟩ := h
    refine z_iald A dX11_act_204 (zk_178 _) (Nat.le_of_ble_eq_true rfl) ox15 ?_
    refine s_aload_n A dX11_act_205 rfl ?_
    refine s_getf (k := 11) (j := 42) (sl := true) (v := zR (some 178)) A dX11_act_206 rfl zuw_X11 (Nat.le_of_ble_eq_true rfl) zwd1350 (by decide) (zk_153 _) rfl ?_
    refine s_iload_n A dX11_act_209 rfl ?_
    refine s_iconst A dX11_act_210 ?_
    refine s_iadd A dX11_act_211 ?_
    obtain ⟨ox16, h⟩ := h
    refine z_iald A dX11_act_212 (zk_178 _) (Nat.le_of_ble_eq_true rfl) ox16 ?_
    refine s_callV (a := 153) (k := 11) (N := 45) (sl := true) (M := mX11_paint) (n := 4) (d := 0) (mc := 0) (ms := 0) (av := [zI (zi μ 178 (x1 + 1)), zI (zi μ 178 (x1 + 2)), zI (zi μ 178 (x1 + 3)), zI (zi μ 178 (x1 + 4))]) (st := []) A dX11_act_213 rfl (by decide) (zk_153 _) zwd1884 zwd1886 zwd84 zwd100 zcd_X11_paint (Nat.le_of_ble_eq_true rfl) (Nat.le_of_ble_eq_true rfl) (Nat.le_refl _) ⟨Nat.le_of_ble_eq_true rfl, Nat.le_of_ble_eq_true rfl⟩ ⟨rfl, zhn_X11_paint⟩ rfl (Nat.le_of_ble_eq_true rfl) rfl (z_contV (fun μ17 h => ?_) h)
    refine s_iconst A dX11_act_216 ?_
    exact s_zret A dX11_act_217 hr hlk (Nat.le_of_ble_eq_true rfl) (Nat.le_of_ble_eq_true rfl) (Or.inr rfl) ⟨_, rfl, h⟩
  · obtain rfl := ztg_in (t := 194) ht18 111 hq (by decide) (by decide +kernel)
    have h := h.2.2.2.2.2.2 (by omega)
    refine s_aload_n A dX11_act_194 rfl ?_
    refine s_iload_n A dX11_act_195 rfl ?_
    refine s_iload_n A dX11_act_196 rfl ?_
    refine s_aload_n A dX11_act_197 rfl ?_
    refine s_getf (k := 11) (j := 42) (sl := true) (v := zR (some 178)) A dX11_act_198 rfl zuw_X11 (Nat.le_of_ble_eq_true rfl) zwd1350 (by decide) (zk_153 _) rfl ?_
    refine s_iload_n A dX11_act_201 rfl ?_
    refine s_iconst A dX11_act_202 ?_
    refine s_iadd A dX11_act_203 ?_
    obtain ⟨ox15, h⟩ := h
    refine z_iald A dX11_act_204 (zk_178 _) (Nat.le_of_ble_eq_true rfl) ox15 ?_
    refine s_aload_n A dX11_act_205 rfl ?_
    refine s_getf (k := 11) (j := 42) (sl := true) (v := zR (some 178)) A dX11_act_206 rfl zuw_X11 (Nat.le_of_ble_eq_true rfl) zwd1350 (by decide) (zk_153 _) rfl ?_
    refine s_iload_n A dX11_act_209 rfl ?_
    refine s_iconst A dX11_act_210 ?_
    refine s_iadd A dX11_act_211 ?_
    obtain ⟨ox16, h⟩ := h
    refine z_iald A dX11_act_212 (zk_178 _) (Nat.le_of_ble_eq_true rfl) ox16 ?_
    refine s_callV (a := 153) (k := 11) (N := 45) (sl := true) (M := mX11_paint) (n := 4) (d := 0) (mc := 0) (ms := 0) (av := [zI (zi μ 178 (x1 + 1)), zI (zi μ 178 (x1 + 2)), zI (zi μ 178 (x1 + 3)), zI (zi μ 178 (x1 + 4))]) (st := []) A dX11_act_213 rfl (by decide) (zk_153 _) zwd1884 zwd1886 zwd84 zwd100 zcd_X11_paint (Nat.le_of_ble_eq_true rfl) (Nat.le_of_ble_eq_true rfl) (Nat.le_refl _) ⟨Nat.le_of_ble_eq_true rfl, Nat.le_of_ble_eq_true rfl⟩ ⟨rfl, zhn_X11_paint⟩ rfl (Nat.le_of_ble_eq_true rfl) rfl (z_contV (fun μ17 h => ?_) h)
    refine s_iconst A dX11_act_216 ?_
    exact s_zret A dX11_act_217 hr hlk (Nat.le_of_ble_eq_true rfl) (Nat.le_of_ble_eq_true rfl) (Or.inr rfl) ⟨_, rfl, h⟩
  · obtain rfl := ztg_in (t := 194) ht18 112 hq (by decide) (by decide +kernel)
    have h := h.2.2.2.2.2.2 (by omega)
    refine s_aload_n A dX11_act_194 rfl ?_
    refine s_iload_n A dX11_act_195 rfl ?_
    refine s_iload_n A dX11_act_196 rfl ?_
    refine s_aload_n A dX11_act_197 rfl ?_
    refine s_getf (k := 11) (j := 42) (sl := true) (v := zR (some 178)) A dX11_act_198 rfl zuw_X11 (Nat.le_of_ble_eq_true rfl) zwd1350 (by decide) (zk_153 _) rfl ?_
    refine s_iload_n A dX11_act_201 rfl ?_
    refine s_iconst A dX11_act_202 ?_
    refine s_iadd A dX11_act_203 ?_
    obtain ⟨ox15, h⟩ := h
    refine z_iald A dX11_act_204 (zk_178 _) (Nat.le_of_ble_eq_true rfl) ox15 ?_
    refine s_aload_n A dX11_act_205 rfl ?_
    refine s_getf (k := 11) (j := 42) (sl := true) (v := zR (some 178)) A dX11_act_206 rfl zuw_X11 (Nat.le_of_ble_eq_true rfl) zwd1350 (by decide) (zk_153 _) rfl ?_
    refine s_iload_n A dX11_act_209 rfl ?_
    refine s_iconst A dX11_act_210 ?_
    refine s_iadd A dX11_act_211 ?_
    obtain ⟨ox16, h⟩ := h
    refine z_iald A dX11_act_212 (zk_178 _) (Nat.le_of_ble_eq_true rfl) ox16 ?_
    refine s_callV (a := 153) (k := 11) (N := 45) (sl := true) (M := mX11_paint) (n := 4) (d := 0) (mc := 0) (ms := 0) (av := [zI (zi μ 178 (x1 + 1)), zI (zi μ 178 (x1 + 2)), zI (zi μ 178 (x1 + 3)), zI (zi μ 178 (x1 + 4))]) (st := []) A dX11_act_213 rfl (by decide) (zk_153 _) zwd1884 zwd1886 zwd84 zwd100 zcd_X11_paint (Nat.le_of_ble_eq_true rfl) (Nat.le_of_ble_eq_true rfl) (Nat.le_refl _) ⟨Nat.le_of_ble_eq_true rfl, Nat.le_of_ble_eq_true rfl⟩ ⟨rfl, zhn_X11_paint⟩ rfl (Nat.le_of_ble_eq_true rfl) rfl (z_contV (fun μ17 h => ?_) h)
    refine s_iconst A dX11_act_216 ?_
    exact s_zret A dX11_act_217 hr hlk (Nat.le_of_ble_eq_true rfl) (Nat.le_of_ble_eq_true rfl) (Or.inr rfl) ⟨_, rfl, h⟩
  · obtain rfl := ztg_in (t := 194) ht18 113 hq (by decide) (by decide +kernel)
    have h := h.2.2.2.2.2.2 (by omega)
    refine s_aload_n A dX11_act_194 rfl ?_
    refine s_iload_n A dX11_act_195 rfl ?_
    refine s_iload_n A dX11_act_196 rfl ?_
    refine s_aload_n A dX11_act_197 rfl ?_
    refine s_getf (k := 11) (j := 42) (sl := true) (v := zR (some 178)) A dX11_act_198 rfl zuw_X11 (Nat.le_of_ble_eq_true rfl) zwd1350 (by decide) (zk_153 _) rfl ?_
    refine s_iload_n A dX11_act_201 rfl ?_
    refine s_iconst A dX11_act_202 ?_
    refine s_iadd A dX11_act_203 ?_
    obtain ⟨ox15, h⟩ := h
    refine z_iald A dX11_act_204 (zk_178 _) (Nat.le_of_ble_eq_true rfl) ox15 ?_
    refine s_aload_n A dX11_act_205 rfl ?_
    refine s_getf (k := 11) (j := 42) (sl := true) (v := zR (some 178)) A dX11_act_206 rfl zuw_X11 (Nat.le_of_ble_eq_true rfl) zwd1350 (by decide) (zk_153 _) rfl ?_
    refine s_iload_n A dX11_act_209 rfl ?_
    refine s_iconst A dX11_act_210 ?_
    refine s_iadd A dX11_act_211 ?_
    obtain ⟨ox16, h⟩ := h
    refine z_iald A dX11_act_212 (zk_178 _) (Nat.le_of_ble_eq_true rfl) ox16 ?_
    refine s_callV (a := 153) (k := 11) (N := 45) (sl := true) (M := mX11_paint) (n := 4) (d := 0) (mc := 0) (ms := 0) (av := [zI (zi μ 178 (x1 + 1)), zI (zi μ 178 (x1 + 2)), zI (zi μ 178 (x1 + 3)), zI (zi μ 178 (x1 + 4))]) (st := []) A dX11_act_213 rfl (by decide) (zk_153 _) zwd1884 zwd1886 zwd84 zwd100 zcd_X11_paint (Nat.le_of_ble_eq_true rfl) (Nat.le_of_ble_eq_true rfl) (Nat.le_refl _) ⟨Nat.le_of_ble_eq_true rfl, Nat.le_of_ble_eq_true rfl⟩ ⟨rfl, zhn_X11_paint⟩ rfl (Nat.le_of_ble_eq_true rfl) rfl (z_contV (fun μ17 h => ?_) h)
    refine s_iconst A dX11_act_216 ?_
    exact s_zret A dX11_act_217 hr hlk (Nat.le_of_ble_eq_true rfl) (Nat.le_of_ble_eq_true rfl) (Or.inr rfl) ⟨_, rfl, h⟩
  · obtain rfl := ztg_in (t := 194) ht18 114 hq (by decide) (by decide +kernel)
    have h := h.2.2.2.2.2.2 (by omega)
    refine s_aload_n A dX11_act_194 rfl ?_
    refine s_iload_n A dX11_act_195 rfl ?_
    refine s_iload_n A dX11_act_196 rfl ?_
    refine s_aload_n A dX11_act_197 rfl ?_
    refine s_getf (k := 11) (j := 42) (sl := true) (v := zR (some 178)) A dX11_act_198 rfl zuw_X11 (Nat.le_of_ble_eq_true rfl) zwd1350 (by decide) (zk_153 _) rfl ?_
    refine s_iload_n A dX11_act_201 rfl ?_
    refine s_iconst A dX11_act_202 ?_
    refine s_iadd A dX11_act_203 ?_
    obtain ⟨ox15, h⟩ := h
    refine z_iald A dX11_act_204 (zk_178 _) (Nat.le_of_ble_eq_true rfl) ox15 ?_
    refine s_aload_n A dX11_act_205 rfl ?_
    refine s_getf (k := 11) (j := 42) (sl := true) (v := zR (some 178)) A dX11_act_206 rfl zuw_X11 (Nat.le_of_ble_eq_true rfl) zwd1350 (by decide) (zk_153 _) rfl ?_
    refine s_iload_n A dX11_act_209 rfl ?_
    refine s_iconst A dX11_act_210 ?_
    refine s_iadd A dX11_act_211 ?_
    obtain ⟨ox16, h⟩ := h
    refine z_iald A dX11_act_212 (zk_178 _) (Nat.le_of_ble_eq_true rfl) ox16 ?_
    refine s_callV (a := 153) (k := 11) (N := 45) (sl := true) (M := mX11_paint) (n := 4) (d := 0) (mc := 0) (ms := 0) (av := [zI (zi μ 178 (x1 + 1)), zI (zi μ 178 (x1 + 2)), zI (zi μ 178 (x1 + 3)), zI (zi μ 178 (x1 + 4))]) (st := []) A dX11_act_213 rfl (by decide) (zk_153 _) zwd1884 zwd1886 zwd84 zwd100 zcd_X11_paint (Nat.le_of_ble_eq_true rfl) (Nat.le_of_ble_eq_true rfl) (Nat.le_refl _) ⟨Nat.le_of_ble_eq_true rfl, Nat.le_of_ble_eq_true rfl⟩ ⟨rfl, zhn_X11_paint⟩ rfl (Nat.le_of_ble_eq_true rfl) rfl (z_contV (fun μ17 h => ?_) h)
    refine s_iconst A dX11_act_216 ?_
    exact s_zret A dX11_act_217 hr hlk (Nat.le_of_ble_eq_true rfl) (Nat.le_of_ble_eq_true rfl) (Or.inr rfl) ⟨_, rfl, h⟩
  · obtain rfl := ztg_in (t := 194) ht18 115 hq (by decide) (by decide +kernel)
    have h := h.2.2.2.2.2.2 (by omega)
    refine s_aload_n A dX11_act_194 rfl ?_
    refine s_iload_n A dX11_act_195 rfl ?_
    refine s_iload_n A dX11_act_196 rfl ?_
    refine s_aload_n A dX11_act_197 rfl ?_
    refine s_getf (k := 11) (j := 42) (sl := true) (v := zR (some 178)) A dX11_act_198 rfl zuw_X11 (Nat.le_of_ble_eq_true rfl) zwd1350 (by decide) (zk_153 _) rfl ?_
    refine s_iload_n A dX11_act_201 rfl ?_
    refine s_iconst A dX11_act_202 ?_
    refine s_iadd A dX11_act_203 ?_
    obtain ⟨ox15, h⟩ := h
    refine z_iald A dX11_act_204 (zk_178 _) (Nat.le_of_ble_eq_true rfl) ox15 ?_
    refine s_aload_n A dX11_act_205 rfl ?_
    refine s_getf (k := 11) (j := 42) (sl := true) (v := zR (some 178)) A dX11_act_206 rfl zuw_X11 (Nat.le_of_ble_eq_true rfl) zwd1350 (by decide) (zk_153 _) rfl ?_
    refine s_iload_n A dX11_act_209 rfl ?_
    refine s_iconst A dX11_act_210 ?_
    refine s_iadd A dX11_act_211 ?_
    obtain ⟨ox16, h⟩ := h
    refine z_iald A dX11_act_212 (zk_178 _) (Nat.le_of_ble_eq_true rfl) ox16 ?_
    refine s_callV (a := 153) (k := 11) (N := 45) (sl := true) (M := mX11_paint) (n := 4) (d := 0) (mc := 0) (ms := 0) (av := [zI (zi μ 178 (x1 + 1)), zI (zi μ 178 (x1 + 2)), zI (zi μ 178 (x1 + 3)), zI (zi μ 178 (x1 + 4))]) (st := []) A dX11_act_213 rfl (by decide) (zk_153 _) zwd1884 zwd1886 zwd84 zwd100 zcd_X11_paint (Nat.le_of_ble_eq_true rfl) (Nat.le_of_ble_eq_true rfl) (Nat.le_refl _) ⟨Nat.le_of_ble_eq_true rfl, Nat.le_of_ble_eq_true rfl⟩ ⟨rfl, zhn_X11_paint⟩ rfl (Nat.le_of_ble_eq_true rfl) rfl (z_contV (fun μ17 h => ?_) h)
    refine s_iconst A dX11_act_216 ?_
    exact s_zret A dX11_act_217 hr hlk (Nat.le_of_ble_eq_true rfl) (Nat.le_of_ble_eq_true rfl) (Or.inr rfl) ⟨_, rfl, h⟩
  · obtain rfl := ztg_in (t := 178) ht18 116 hq (by decide) (by decide +kernel)
    have h := h.2.2.2.2.1 (by omega)
    refine s_aload_n A dX11_act_178 rfl ?_
    refine s_iconst A dX11_act_179 ?_
    refine s_iload_n A dX11_act_180 rfl ?_
    refine s_callV (a := 153) (k := 11) (N := 45) (sl := true) (M := mX11_set) (n := 2) (d := 3) (mc := 0) (ms := 0) (av := [zI 3, zI (zi μ 178 (x1 + 1))]) (st := []) A dX11_act_181 rfl (by decide) (zk_153 _) zwd1900 zwd1902 zwd87 zwd100 zcd_X11_set (Nat.le_of_ble_eq_true rfl) (Nat.le_of_ble_eq_true rfl) (Nat.le_refl _) ⟨Nat.le_of_ble_eq_true rfl, Nat.le_of_ble_eq_true rfl⟩ ⟨rfl, zhn_X11_set⟩ rfl (Nat.le_of_ble_eq_true rfl) rfl (z_contI (fun v13 μ13 h => ?_) h)
    obtain ⟨o1, h⟩ := h
    exact s_zret A dX11_act_184 hr hlk (Nat.le_of_ble_eq_true rfl) (Nat.le_of_ble_eq_true rfl) o1 ⟨_, rfl, h⟩
  · obtain rfl := ztg_in (t := 194) ht18 117 hq (by decide) (by decide +kernel)
    have h := h.2.2.2.2.2.2 (by omega)
    refine s_aload_n A dX11_act_194 rfl ?_
    refine s_iload_n A dX11_act_195 rfl ?_
    refine s_iload_n A dX11_act_196 rfl ?_
    refine s_aload_n A dX11_act_197 rfl ?_
    refine s_getf (k := 11) (j := 42) (sl := true) (v := zR (some 178)) A dX11_act_198 rfl zuw_X11 (Nat.le_of_ble_eq_true rfl) zwd1350 (by decide) (zk_153 _) rfl ?_
    refine s_iload_n A dX11_act_201 rfl ?_
    refine s_iconst A dX11_act_202 ?_
    refine s_iadd A dX11_act_203 ?_
    obtain ⟨ox15, h⟩ := h
    refine z_iald A dX11_act_204 (zk_178 _) (Nat.le_of_ble_eq_true rfl) ox15 ?_
    refine s_aload_n A dX11_act_205 rfl ?_
    refine s_getf (k := 11) (j := 42) (sl := true) (v := zR (some 178)) A dX11_act_206 rfl zuw_X11 (Nat.le_of_ble_eq_true rfl) zwd1350 (by decide) (zk_153 _) rfl ?_
    refine s_iload_n A dX11_act_209 rfl ?_
    refine s_iconst A dX11_act_210 ?_
    refine s_iadd A dX11_act_211 ?_
    obtain ⟨ox16, h⟩ := h
    refine z_iald A dX11_act_212 (zk_178 _) (Nat.le_of_ble_eq_true rfl) ox16 ?_
    refine s_callV (a := 153) (k := 11) (N := 45) (sl := true) (M := mX11_paint) (n := 4) (d := 0) (mc := 0) (ms := 0) (av := [zI (zi μ 178 (x1 + 1)), zI (zi μ 178 (x1 + 2)), zI (zi μ 178 (x1 + 3)), zI (zi μ 178 (x1 + 4))]) (st := []) A dX11_act_213 rfl (by decide) (zk_153 _) zwd1884 zwd1886 zwd84 zwd100 zcd_X11_paint (Nat.le_of_ble_eq_true rfl) (Nat.le_of_ble_eq_true rfl) (Nat.le_refl _) ⟨Nat.le_of_ble_eq_true rfl, Nat.le_of_ble_eq_true rfl⟩ ⟨rfl, zhn_X11_paint⟩ rfl (Nat.le_of_ble_eq_true rfl) rfl (z_contV (fun μ17 h => ?_) h)
    refine s_iconst A dX11_act_216 ?_
    exact s_zret A dX11_act_217 hr hlk (Nat.le_of_ble_eq_true rfl) (Nat.le_of_ble_eq_true rfl) (Or.inr rfl) ⟨_, rfl, h⟩
  · obtain rfl := ztg_in (t := 194) ht18 118 hq (by decide) (by decide +kernel)
    have h := h.2.2.2.2.2.2 (by omega)
    refine s_aload_n A dX11_act_194 rfl ?_
    refine s_iload_n A dX11_act_195 rfl ?_
    refine s_iload_n A dX11_act_196 rfl ?_
    refine s_aload_n A dX11_act_197 rfl ?_
    refine s_getf (k := 11) (j := 42) (sl := true) (v := zR (some 178)) A dX11_act_198 rfl zuw_X11 (Nat.le_of_ble_eq_true rfl) zwd1350 (by decide) (zk_153 _) rfl ?_
    refine s_iload_n A dX11_act_201 rfl ?_
    refine s_iconst A dX11_act_202 ?_
    refine s_iadd A dX11_act_203 ?_
    obtain ⟨ox15, h⟩ := h
    refine z_iald A dX11_act_204 (zk_178 _) (Nat.le_of_ble_eq_true rfl) ox15 ?_
    refine s_aload_n A dX11_act_205 rfl ?_
    refine s_getf (k := 11) (j := 42) (sl := true) (v := zR (some 178)) A dX11_act_206 rfl zuw_X11 (Nat.le_of_ble_eq_true rfl) zwd1350 (by decide) (zk_153 _) rfl ?_
    refine s_iload_n A dX11_act_209 rfl ?_
    refine s_iconst A dX11_act_210 ?_
    refine s_iadd A dX11_act_211 ?_
    obtain ⟨ox16, h⟩ := h
    refine z_iald A dX11_act_212 (zk_178 _) (Nat.le_of_ble_eq_true rfl) ox16 ?_
    refine s_callV (a := 153) (k := 11) (N := 45) (sl := true) (M := mX11_paint) (n := 4) (d := 0) (mc := 0) (ms := 0) (av := [zI (zi μ 178 (x1 + 1)), zI (zi μ 178 (x1 + 2)), zI (zi μ 178 (x1 + 3)), zI (zi μ 178 (x1 + 4))]) (st := []) A dX11_act_213 rfl (by decide) (zk_153 _) zwd1884 zwd1886 zwd84 zwd100 zcd_X11_paint (Nat.le_of_ble_eq_true rfl) (Nat.le_of_ble_eq_true rfl) (Nat.le_refl _) ⟨Nat.le_of_ble_eq_true rfl, Nat.le_of_ble_eq_true rfl⟩ ⟨rfl, zhn_X11_paint⟩ rfl (Nat.le_of_ble_eq_true rfl) rfl (z_contV (fun μ17 h => ?_) h)
    refine s_iconst A dX11_act_216 ?_
    exact s_zret A dX11_act_217 hr hlk (Nat.le_of_ble_eq_true rfl) (Nat.le_of_ble_eq_true rfl) (Or.inr rfl) ⟨_, rfl, h⟩
  · obtain rfl := ztg_in (t := 185) ht18 119 hq (by decide) (by decide +kernel)
    have h := h.2.2.2.2.2.1 (by omega)
    refine s_aload_n A dX11_act_185 rfl ?_
    refine s_iconst A dX11_act_186 ?_
    refine s_iload_n A dX11_act_187 rfl ?_
    refine s_iadd A dX11_act_188 ?_
    refine s_iload_n A dX11_act_189 rfl ?_
    refine s_callV (a := 153) (k := 11) (N := 45) (sl := true) (M := mX11_set) (n := 2) (d := 3) (mc := 0) (ms := 0) (av := [zI (4 + (zi μ 178 (x1 + 1))), zI (zi μ 178 (x1 + 2))]) (st := []) A dX11_act_190 rfl (by decide) (zk_153 _) zwd1900 zwd1902 zwd87 zwd100 zcd_X11_set (Nat.le_of_ble_eq_true rfl) (Nat.le_of_ble_eq_true rfl) (Nat.le_refl _) ⟨Nat.le_of_ble_eq_true rfl, Nat.le_of_ble_eq_true rfl⟩ ⟨rfl, zhn_X11_set⟩ rfl (Nat.le_of_ble_eq_true rfl) rfl (z_contI (fun v14 μ14 h => ?_) h)
    obtain ⟨o1, h⟩ := h
    exact s_zret A dX11_act_193 hr hlk (Nat.le_of_ble_eq_true rfl) (Nat.le_of_ble_eq_true rfl) o1 ⟨_, rfl, h⟩
  · obtain rfl := ztg_out (t := 194) ht18 hq (by decide)
    have h := h.2.2.2.2.2.2 (by omega)
    refine s_aload_n A dX11_act_194 rfl ?_
    refine s_iload_n A dX11_act_195 rfl ?_
    refine s_iload_n A dX11_act_196 rfl ?_
    refine s_aload_n A dX11_act_197 rfl ?_
    refine s_getf (k := 11) (j := 42) (sl := true) (v := zR (some 178)) A dX11_act_198 rfl zuw_X11 (Nat.le_of_ble_eq_true rfl) zwd1350 (by decide) (zk_153 _) rfl ?_
    refine s_iload_n A dX11_act_201 rfl ?_
    refine s_iconst A dX11_act_202 ?_
    refine s_iadd A dX11_act_203 ?_
    obtain ⟨ox15, h⟩ := h
    refine z_iald A dX11_act_204 (zk_178 _) (Nat.le_of_ble_eq_true rfl) ox15 ?_
    refine s_aload_n A dX11_act_205 rfl ?_
    refine s_getf (k := 11) (j := 42) (sl := true) (v := zR (some 178)) A dX11_act_206 rfl zuw_X11 (Nat.le_of_ble_eq_true rfl) zwd1350 (by decide) (zk_153 _) rfl ?_
    refine s_iload_n A dX11_act_209 rfl ?_
    refine s_iconst A dX11_act_210 ?_
    refine s_iadd A dX11_act_211 ?_
    obtain ⟨ox16, h⟩ := h
    refine z_iald A dX11_act_212 (zk_178 _) (Nat.le_of_ble_eq_true rfl) ox16 ?_
    refine s_callV (a := 153) (k := 11) (N := 45) (sl := true) (M := mX11_paint) (n := 4) (d := 0) (mc := 0) (ms := 0) (av := [zI (zi μ 178 (x1 + 1)), zI (zi μ 178 (x1 + 2)), zI (zi μ 178 (x1 + 3)), zI (zi μ 178 (x1 + 4))]) (st := []) A dX11_act_213 rfl (by decide) (zk_153 _) zwd1884 zwd1886 zwd84 zwd100 zcd_X11_paint (Nat.le_of_ble_eq_true rfl) (Nat.le_of_ble_eq_true rfl) (Nat.le_refl _) ⟨Nat.le_of_ble_eq_true rfl, Nat.le_of_ble_eq_true rfl⟩ ⟨rfl, zhn_X11_paint⟩ rfl (Nat.le_of_ble_eq_true rfl) rfl (z_contV (fun μ17 h => ?_) h)
    refine s_iconst A dX11_act_216 ?_
    exact s_zret A dX11_act_217 hr hlk (Nat.le_of_ble_eq_true rfl) (Nat.le_of_ble_eq_true rfl) (Or.inr rfl) ⟨_, rfl, h⟩
theorem eX11_act {G : zG} {F : Int → zM → Prop} {μ : zM} {x1 : Int} (h : ∀ J, zJ G true (4) 0 0 mX11_act (zKI F) J → J 0 ([some (zR (some 153)), some (zI x1), none, none], [], μ, 0, 0)) : qX11_act G x1 μ F :=
  z_body (by decide +kernel) (Nat.le_of_ble_eq_true rfl) h
set_option maxRecDepth 20000 in
theorem rX11_day_e {G : zG} {F : Int → zM → Prop} {J : Nat → zS → Prop} {μ : zM} (C : zJ G true (6) 0 0 mX11_day (zKI F) J) 
    (h : qX11_begin G 60 (zup μ 153 5 0) (fun μ1 => J 13 ([some (zR (some 153)), some (zI 0), none], [], μ1, 0, 0))) : J 0 ([some (zR (some 153)), none, none], [], μ, 0, 0) := by
  obtain ⟨p, e, s, m, args, below, meth, c, A, hml, hr, hlk, hnm, rfl⟩ := C
  refine s_aload_n A dX11_day_0 rfl ?_
  refine s_iconst A dX11_day_1 ?_
  refine z_putI (k := 11) (j := 5) (sl := true) A dX11_day_2 rfl zuw_X11 (Nat.le_of_ble_eq_true rfl) zwd1313 (by decide) (zk_153 _) tyX11 tyX11_ok nmX11 rfl rfl rfl ?_
  refine s_aload_n A dX11_day_5 rfl ?_
  refine s_bipush A dX11_day_6 rfl ?_
  refine s_callV (a := 153) (k := 11) (N := 45) (sl := true) (M := mX11_begin) (n := 1) (d := 0) (mc := 0) (ms := 0) (av := [zI 60]) (st := []) A dX11_day_8 rfl (by decide) (zk_153 _) zwd1463 zwd1465 zwd30 zwd100 zcd_X11_begin (Nat.le_of_ble_eq_true rfl) (Nat.le_of_ble_eq_true rfl) (Nat.le_refl _) ⟨Nat.le_of_ble_eq_true rfl, Nat.le_of_ble_eq_true rfl⟩ ⟨rfl, zhn_X11_begin⟩ rfl (Nat.le_of_ble_eq_true rfl) rfl (z_contV (fun μ1 h => ?_) h)
  refine s_iconst A dX11_day_11 ?_
  refine s_istore_n (L' := [some (zR (some 153)), some (zI 0), none]) A dX11_day_12 (Nat.le_of_ble_eq_true rfl) rfl ?_
  exact h
set_option maxRecDepth 20000 in
theorem rX11_day_13 {G : zG} {F : Int → zM → Prop} {J : Nat → zS → Prop} {μ : zM} (C : zJ G true (6) 0 0 mX11_day (zKI F) J) (x1 : Int)
    (h : qX11_fine G μ (fun v1 μ1 => zin v1 ∧ ((v1 = 0 → qX11_wasRight G μ1 (fun v4 μ4 => zin v4 ∧ ((¬ v4 = 0 → J 60 ([some (zR (some 153)), some (zI x1), some (zI 0)], [], μ4, 0, 0)) ∧ (v4 = 0 → F ((-1) - (zi μ4 153 9)) μ4)))) ∧ (¬ (v1 = 0) → zin (zi μ1 153 8) ∧ zin (zi μ1 153 6) ∧ ((zi μ1 153 6 ≤ zi μ1 153 8 → qX11_wasRight G μ1 (fun v10 μ10 => zin v10 ∧ ((¬ v10 = 0 → J 60 ([some (zR (some 153)), some (zI x1), some (zI 0)], [], μ10, 0, 0)) ∧ (v10 = 0 → F ((-1) - (zi μ10 153 9)) μ10)))) ∧ (¬ (zi μ1 153 6 ≤ zi μ1 153 8) → qX11_readAct G (5 * x1) μ1 (fun μ13 => J 13 ([some (zR (some 153)), some (zI (x1 + 1)), none], [], μ13, 0, 0)))))))) : J 13 ([some (zR (some 153)), some (zI x1), none], [], μ, 0, 0) := by
  obtain ⟨p, e, s, m, args, below, meth, c, A, hml, hr, hlk, hnm, rfl⟩ := C
  refine s_aload_n A dX11_day_13 rfl ?_
  refine s_callV (a := 153) (k := 11) (N := 45) (sl := true) (M := mX11_fine) (n := 0) (d := 0) (mc := 0) (ms := 0) (av := []) (st := []) A dX11_day_14 rfl (by decide) (zk_153 _) zwd1467 zwd1469 zwd31 zwd100 zcd_X11_fine (Nat.le_of_ble_eq_true rfl) (Nat.le_of_ble_eq_true rfl) (Nat.le_refl _) ⟨Nat.le_of_ble_eq_true rfl, Nat.le_of_ble_eq_true rfl⟩ ⟨rfl, zhn_X11_fine⟩ rfl (Nat.le_of_ble_eq_true rfl) rfl (z_contI (fun v1 μ1 h => ?_) h)
  obtain ⟨oz2, h⟩ := h
  refine z_if_eq (tgt := 44) A dX11_day_17 (by decide) oz2 (fun c3 => ?_) (fun c3 => ?_)
  · have h := h.1 c3
    refine s_aload_n A dX11_day_44 rfl ?_
    refine s_callV (a := 153) (k := 11) (N := 45) (sl := true) (M := mX11_wasRight) (n := 0) (d := 3) (mc := 0) (ms := 0) (av := []) (st := []) A dX11_day_45 rfl (by decide) (zk_153 _) zwd1495 zwd1497 zwd38 zwd100 zcd_X11_wasRight (Nat.le_of_ble_eq_true rfl) (Nat.le_of_ble_eq_true rfl) (Nat.le_refl _) ⟨Nat.le_of_ble_eq_true rfl, Nat.le_of_ble_eq_true rfl⟩ ⟨rfl, zhn_X11_wasRight⟩ rfl (Nat.le_of_ble_eq_true rfl) rfl (z_contI (fun v4 μ4 h => ?_) h)
    obtain ⟨oz5, h⟩ := h
    refine z_if_ne (tgt := 58) A dX11_day_48 (by decide) oz5 (fun c6 => ?_) (fun c6 => ?_)
    · have h := h.1 c6
      refine s_iconst A dX11_day_58 ?_
      refine s_istore_n (L' := [some (zR (some 153)), some (zI x1), some (zI 0)]) A dX11_day_59 (Nat.le_of_ble_eq_true rfl) rfl ?_
      exact h
    · have h := h.2 c6
      refine s_iconst A dX11_day_51 ?_
      refine s_aload_n A dX11_day_52 rfl ?_
      refine s_getf (k := 11) (j := 9) (sl := true) (v := zI (zi μ4 153 9)) A dX11_day_53 rfl zuw_X11 (Nat.le_of_ble_eq_true rfl) zwd1317 (by decide) (zk_153 _) rfl ?_
      refine s_isub A dX11_day_56 ?_
      exact s_iret A dX11_day_57 hr hlk (Nat.le_of_ble_eq_true rfl) (Nat.le_of_ble_eq_true rfl) ⟨_, rfl, h⟩
  · have h := h.2 c3
    refine s_aload_n A dX11_day_20 rfl ?_
    refine s_getf (k := 11) (j := 8) (sl := true) (v := zI (zi μ1 153 8)) A dX11_day_21 rfl zuw_X11 (Nat.le_of_ble_eq_true rfl) zwd1316 (by decide) (zk_153 _) rfl ?_
    refine s_aload_n A dX11_day_24 rfl ?_
    refine s_getf (k := 11) (j := 6) (sl := true) (v := zI (zi μ1 153 6)) A dX11_day_25 rfl zuw_X11 (Nat.le_of_ble_eq_true rfl) zwd1314 (by decide) (zk_153 _) rfl ?_
    obtain ⟨oz7, h⟩ := h
    obtain ⟨oz8, h⟩ := h
    refine z_icmp_ge (tgt := 44) A dX11_day_28 (by decide) oz7 oz8 (fun c9 => ?_) (fun c9 => ?_)
    · have h := h.1 c9
      refine s_aload_n A dX11_day_44 rfl ?_
      refine s_callV (a := 153) (k := 11) (N := 45) (sl := true) (M := mX11_wasRight) (n := 0) (d := 3) (mc := 0) (ms := 0) (av := []) (st := []) A dX11_day_45 rfl (by decide) (zk_153 _) zwd1495 zwd1497 zwd38 zwd100 zcd_X11_wasRight (Nat.le_of_ble_eq_true rfl) (Nat.le_of_ble_eq_true rfl) (Nat.le_refl _) ⟨Nat.le_of_ble_eq_true rfl, Nat.le_of_ble_eq_true rfl⟩ ⟨rfl, zhn_X11_wasRight⟩ rfl (Nat.le_of_ble_eq_true rfl) rfl (z_contI (fun v10 μ10 h => ?_) h)
      obtain ⟨oz11, h⟩ := h
      refine z_if_ne (tgt := 58) A dX11_day_48 (by decide) oz11 (fun c12 => ?_) (fun c12 => ?_)
      · have h := h.1 c12
        refine s_iconst A dX11_day_58 ?_
        refine s_istore_n (L' := [some (zR (some 153)), some (zI x1), some (zI 0)]) A dX11_day_59 (Nat.le_of_ble_eq_true rfl) rfl ?_
        exact h
      · have h := h.2 c12
        refine s_iconst A dX11_day_51 ?_
        refine s_aload_n A dX11_day_52 rfl ?_
        refine s_getf (k := 11) (j := 9) (sl := true) (v := zI (zi μ10 153 9)) A dX11_day_53 rfl zuw_X11 (Nat.le_of_ble_eq_true rfl) zwd1317 (by decide) (zk_153 _) rfl ?_
        refine s_isub A dX11_day_56 ?_
        exact s_iret A dX11_day_57 hr hlk (Nat.le_of_ble_eq_true rfl) (Nat.le_of_ble_eq_true rfl) ⟨_, rfl, h⟩
    · have h := h.2 c9
      refine s_aload_n A dX11_day_31 rfl ?_
      refine s_iconst A dX11_day_32 ?_
      refine s_iload_n A dX11_day_33 rfl ?_
      refine s_imul A dX11_day_34 ?_
      refine s_callV (a := 153) (k := 11) (N := 45) (sl := true) (M := mX11_readAct) (n := 1) (d := 5) (mc := 0) (ms := 0) (av := [zI (5 * x1)]) (st := []) A dX11_day_35 rfl (by decide) (zk_153 _) zwd1892 zwd1894 zwd85 zwd100 zcd_X11_readAct (Nat.le_of_ble_eq_true rfl) (Nat.le_of_ble_eq_true rfl) (Nat.le_refl _) ⟨Nat.le_of_ble_eq_true rfl, Nat.le_of_ble_eq_true rfl⟩ ⟨rfl, zhn_X11_readAct⟩ rfl (Nat.le_of_ble_eq_true rfl) rfl (z_contV (fun μ13 h => ?_) h)
      refine s_iinc (L' := [some (zR (some 153)), some (zI (x1 + 1)), none]) A dX11_day_38 rfl rfl ?_
      refine s_goto (tgt := 13) A dX11_day_41 (by decide) ?_
      exact h
set_option maxRecDepth 20000 in
theorem rX11_day_60 {G : zG} {F : Int → zM → Prop} {J : Nat → zS → Prop} {μ : zM} (C : zJ G true (6) 0 0 mX11_day (zKI F) J) (x1 : Int) (x2 : Int)
    (h : zin x2 ∧ ((711 ≤ x2 → J 87 ([some (zR (some 153)), some (zI x1), some (zI 0)], [], μ, 0, 0)) ∧ (¬ (711 ≤ x2) → (0 ≤ x2 ∧ x2 < 711) ∧ J 60 ([some (zR (some 153)), some (zI x1), some (zI (x2 + 1))], [], zup μ 177 x2 (zi μ 154 x2), 0, 0)))) : J 60 ([some (zR (some 153)), some (zI x1), some (zI x2)], [], μ, 0, 0) := by
  obtain ⟨p, e, s, m, args, below, meth, c, A, hml, hr, hlk, hnm, rfl⟩ := C
  refine s_iload_n A dX11_day_60 rfl ?_
  refine s_sipush A dX11_day_61 rfl ?_
  obtain ⟨oz1, h⟩ := h
  refine z_icmp_ge (tgt := 85) A dX11_day_64 (by decide) oz1 ⟨by decide, by decide⟩ (fun c2 => ?_) (fun c2 => ?_)
  · have h := h.1 c2
    refine s_iconst A dX11_day_85 ?_
    refine s_istore_n (L' := [some (zR (some 153)), some (zI x1), some (zI 0)]) A dX11_day_86 (Nat.le_of_ble_eq_true rfl) rfl ?_
    exact h
  · have h := h.2 c2
    refine s_aload_n A dX11_day_67 rfl ?_
    refine s_getf (k := 11) (j := 41) (sl := true) (v := zR (some 177)) A dX11_day_68 rfl zuw_X11 (Nat.le_of_ble_eq_true rfl) zwd1349 (by decide) (zk_153 _) rfl ?_
    refine s_iload_n A dX11_day_71 rfl ?_
    refine s_aload_n A dX11_day_72 rfl ?_
    refine s_getf (k := 11) (j := 0) (sl := true) (v := zR (some 154)) A dX11_day_73 rfl zuw_X11 (Nat.le_of_ble_eq_true rfl) zwd1308 (by decide) (zk_153 _) rfl ?_
    refine s_iload_n A dX11_day_76 rfl ?_
    obtain ⟨ox3, h⟩ := h
    refine z_iald A dX11_day_77 (zk_154 _) (Nat.le_of_ble_eq_true rfl) ox3 ?_
    refine z_iast A dX11_day_78 (zk_177 _) (Nat.le_of_ble_eq_true rfl) ox3 ?_
    refine s_iinc (L' := [some (zR (some 153)), some (zI x1), some (zI (x2 + 1))]) A dX11_day_79 rfl rfl ?_
    refine s_goto (tgt := 60) A dX11_day_82 (by decide) ?_
    exact h
set_option maxRecDepth 20000 in
theorem rX11_day_87 {G : zG} {F : Int → zM → Prop} {J : Nat → zS → Prop} {μ : zM} (C : zJ G true (6) 0 0 mX11_day (zKI F) J) (x1 : Int) (x2 : Int)
    (h : zin x2 ∧ zin x1 ∧ ((x1 ≤ x2 → J 108 ([some (zR (some 153)), some (zI x1), some (zI x2)], [], μ, 0, 0)) ∧ (¬ (x1 ≤ x2) → qX11_act G (5 * x2) μ (fun v4 μ4 => zin v4 ∧ ((v4 = 0 → J 108 ([some (zR (some 153)), some (zI x1), some (zI x2)], [], μ4, 0, 0)) ∧ (¬ (v4 = 0) → J 87 ([some (zR (some 153)), some (zI x1), some (zI (x2 + 1))], [], μ4, 0, 0))))))) : J 87 ([some (zR (some 153)), some (zI x1), some (zI x2)], [], μ, 0, 0) := by
  obtain ⟨p, e, s, m, args, below, meth, c, A, hml, hr, hlk, hnm, rfl⟩ := C
  refine s_iload_n A dX11_day_87 rfl ?_
  refine s_iload_n A dX11_day_88 rfl ?_
  obtain ⟨oz1, h⟩ := h
  obtain ⟨oz2, h⟩ := h
  refine z_icmp_ge (tgt := 108) A dX11_day_89 (by decide) oz1 oz2 (fun c3 => ?_) (fun c3 => ?_)
  · have h := h.1 c3
    exact h
  · have h := h.2 c3
    refine s_aload_n A dX11_day_92 rfl ?_
    refine s_iconst A dX11_day_93 ?_
    refine s_iload_n A dX11_day_94 rfl ?_
    refine s_imul A dX11_day_95 ?_
    refine s_callV (a := 153) (k := 11) (N := 45) (sl := true) (M := mX11_act) (n := 1) (d := 4) (mc := 0) (ms := 0) (av := [zI (5 * x2)]) (st := []) A dX11_day_96 rfl (by decide) (zk_153 _) zwd1896 zwd1898 zwd86 zwd100 zcd_X11_act (Nat.le_of_ble_eq_true rfl) (Nat.le_of_ble_eq_true rfl) (Nat.le_refl _) ⟨Nat.le_of_ble_eq_true rfl, Nat.le_of_ble_eq_true rfl⟩ ⟨rfl, zhn_X11_act⟩ rfl (Nat.le_of_ble_eq_true rfl) rfl (z_contI (fun v4 μ4 h => ?_) h)
    obtain ⟨oz5, h⟩ := h
    refine z_if_eq (tgt := 108) A dX11_day_99 (by decide) oz5 (fun c6 => ?_) (fun c6 => ?_)
    · have h := h.1 c6
      exact h
    · have h := h.2 c6
      refine s_iinc (L' := [some (zR (some 153)), some (zI x1), some (zI (x2 + 1))]) A dX11_day_102 rfl rfl ?_
      refine s_goto (tgt := 87) A dX11_day_105 (by decide) ?_
      exact h
set_option maxRecDepth 20000 in
theorem rX11_day_108 {G : zG} {F : Int → zM → Prop} {J : Nat → zS → Prop} {μ : zM} (C : zJ G true (6) 0 0 mX11_day (zKI F) J) (x1 : Int) (x2 : Int)
    (h : zin x2 ∧ ((x2 ≤ 0 → zin x1 ∧ ((x1 ≤ x2 → qX11_tell G 0 (zup μ 153 4 0) (fun μ5 => F x2 μ5)) ∧ (¬ (x1 ≤ x2) → qX11_tell G 1 (zup μ 153 4 0) (fun μ6 => F x2 μ6)))) ∧ (¬ (x2 ≤ 0) → qX11_note G μ (fun μ7 => zin x1 ∧ ((x1 ≤ x2 → qX11_tell G 0 (zup μ7 153 4 0) (fun μ10 => F x2 μ10)) ∧ (¬ (x1 ≤ x2) → qX11_tell G 1 (zup μ7 153 4 0) (fun μ11 => F x2 μ11))))))) : J 108 ([some (zR (some 153)), some (zI x1), some (zI x2)], [], μ, 0, 0) := by
  obtain ⟨p, e, s, m, args, below, meth, c, A, hml, hr, hlk, hnm, rfl⟩ := C
  refine s_iload_n A dX11_day_108 rfl ?_
  obtain ⟨oz1, h⟩ := h
  refine z_if_le (tgt := 116) A dX11_day_109 (by decide) oz1 (fun c2 => ?_) (fun c2 => ?_)
  · have h := h.1 c2
    refine s_aload_n A dX11_day_116 rfl ?_
    refine s_iconst A dX11_day_117 ?_
    refine z_putI (k := 11) (j := 4) (sl := true) A dX11_day_118 rfl zuw_X11 (Nat.le_of_ble_eq_true rfl) zwd1312 (by decide) (zk_153 _) tyX11 tyX11_ok nmX11 rfl rfl rfl ?_
    refine s_aload_n A dX11_day_121 rfl ?_
    refine s_iload_n A dX11_day_122 rfl ?_
    refine s_iload_n A dX11_day_123 rfl ?_
    obtain ⟨oz3, h⟩ := h
    refine z_icmp_ge (tgt := 131) A dX11_day_124 (by decide) oz1 oz3 (fun c4 => ?_) (fun c4 => ?_)
    · have h := h.1 c4
      refine s_lconst (z := 0) A dX11_day_131 rfl ?_
      refine s_callV (a := 153) (k := 11) (N := 45) (sl := true) (M := mX11_tell) (n := 1) (d := 0) (mc := 0) (ms := 0) (av := [zL 0]) (st := []) A dX11_day_132 rfl (by decide) (zk_153 _) zwd1613 zwd1615 zwd51 zwd100 zcd_X11_tell (Nat.le_of_ble_eq_true rfl) (Nat.le_of_ble_eq_true rfl) (Nat.le_refl _) ⟨Nat.le_of_ble_eq_true rfl, Nat.le_of_ble_eq_true rfl⟩ ⟨rfl, zhn_X11_tell⟩ rfl (Nat.le_of_ble_eq_true rfl) rfl (z_contV (fun μ5 h => ?_) h)
      refine s_iload_n A dX11_day_135 rfl ?_
      exact s_iret A dX11_day_136 hr hlk (Nat.le_of_ble_eq_true rfl) (Nat.le_of_ble_eq_true rfl) ⟨_, rfl, h⟩
    · have h := h.2 c4
      refine s_lconst (z := 1) A dX11_day_127 rfl ?_
      refine s_goto (tgt := 132) A dX11_day_128 (by decide) ?_
      refine s_callV (a := 153) (k := 11) (N := 45) (sl := true) (M := mX11_tell) (n := 1) (d := 0) (mc := 0) (ms := 0) (av := [zL 1]) (st := []) A dX11_day_132 rfl (by decide) (zk_153 _) zwd1613 zwd1615 zwd51 zwd100 zcd_X11_tell (Nat.le_of_ble_eq_true rfl) (Nat.le_of_ble_eq_true rfl) (Nat.le_refl _) ⟨Nat.le_of_ble_eq_true rfl, Nat.le_of_ble_eq_true rfl⟩ ⟨rfl, zhn_X11_tell⟩ rfl (Nat.le_of_ble_eq_true rfl) rfl (z_contV (fun μ6 h => ?_) h)
      refine s_iload_n A dX11_day_135 rfl ?_
      exact s_iret A dX11_day_136 hr hlk (Nat.le_of_ble_eq_true rfl) (Nat.le_of_ble_eq_true rfl) ⟨_, rfl, h⟩
  · have h := h.2 c2
    refine s_aload_n A dX11_day_112 rfl ?_
    refine s_callV (a := 153) (k := 11) (N := 45) (sl := true) (M := mX11_note) (n := 0) (d := 0) (mc := 0) (ms := 0) (av := []) (st := []) A dX11_day_113 rfl (by decide) (zk_153 _) zwd1503 zwd1505 zwd40 zwd100 zcd_X11_note (Nat.le_of_ble_eq_true rfl) (Nat.le_of_ble_eq_true rfl) (Nat.le_refl _) ⟨Nat.le_of_ble_eq_true rfl, Nat.le_of_ble_eq_true rfl⟩ ⟨rfl, zhn_X11_note⟩ rfl (Nat.le_of_ble_eq_true rfl) rfl (z_contV (fun μ7 h => ?_) h)
    refine s_aload_n A dX11_day_116 rfl ?_
    refine s_iconst A dX11_day_117 ?_
    refine z_putI (k := 11) (j := 4) (sl := true) A dX11_day_118 rfl zuw_X11 (Nat.le_of_ble_eq_true rfl) zwd1312 (by decide) (zk_153 _) tyX11 tyX11_ok nmX11 rfl rfl rfl ?_
    refine s_aload_n A dX11_day_121 rfl ?_
    refine s_iload_n A dX11_day_122 rfl ?_
    refine s_iload_n A dX11_day_123 rfl ?_
    obtain ⟨oz8, h⟩ := h
    refine z_icmp_ge (tgt := 131) A dX11_day_124 (by decide) oz1 oz8 (fun c9 => ?_) (fun c9 => ?_)
    · have h := h.1 c9
      refine s_lconst (z := 0) A dX11_day_131 rfl ?_
      refine s_callV (a := 153) (k := 11) (N := 45) (sl := true) (M := mX11_tell) (n := 1) (d := 0) (mc := 0) (ms := 0) (av := [zL 0]) (st := []) A dX11_day_132 rfl (by decide) (zk_153 _) zwd1613 zwd1615 zwd51 zwd100 zcd_X11_tell (Nat.le_of_ble_eq_true rfl) (Nat.le_of_ble_eq_true rfl) (Nat.le_refl _) ⟨Nat.le_of_ble_eq_true rfl, Nat.le_of_ble_eq_true rfl⟩ ⟨rfl, zhn_X11_tell⟩ rfl (Nat.le_of_ble_eq_true rfl) rfl (z_contV (fun μ10 h => ?_) h)
      refine s_iload_n A dX11_day_135 rfl ?_
      exact s_iret A dX11_day_136 hr hlk (Nat.le_of_ble_eq_true rfl) (Nat.le_of_ble_eq_true rfl) ⟨_, rfl, h⟩
    · have h := h.2 c9
      refine s_lconst (z := 1) A dX11_day_127 rfl ?_
      refine s_goto (tgt := 132) A dX11_day_128 (by decide) ?_
      refine s_callV (a := 153) (k := 11) (N := 45) (sl := true) (M := mX11_tell) (n := 1) (d := 0) (mc := 0) (ms := 0) (av := [zL 1]) (st := []) A dX11_day_132 rfl (by decide) (zk_153 _) zwd1613 zwd1615 zwd51 zwd100 zcd_X11_tell (Nat.le_of_ble_eq_true rfl) (Nat.le_of_ble_eq_true rfl) (Nat.le_refl _) ⟨Nat.le_of_ble_eq_true rfl, Nat.le_of_ble_eq_true rfl⟩ ⟨rfl, zhn_X11_tell⟩ rfl (Nat.le_of_ble_eq_true rfl) rfl (z_contV (fun μ11 h => ?_) h)
      refine s_iload_n A dX11_day_135 rfl ?_
      exact s_iret A dX11_day_136 hr hlk (Nat.le_of_ble_eq_true rfl) (Nat.le_of_ble_eq_true rfl) ⟨_, rfl, h⟩
theorem eX11_day {G : zG} {F : Int → zM → Prop} {μ : zM}  (h : ∀ J, zJ G true (6) 0 0 mX11_day (zKI F) J → J 0 ([some (zR (some 153)), none, none], [], μ, 0, 0)) : qX11_day G  μ F :=
  z_body (by decide +kernel) (Nat.le_of_ble_eq_true rfl) h
set_option maxRecDepth 20000 in
theorem rX11_undo_e {G : zG} {F : Int → zM → Prop} {J : Nat → zS → Prop} {μ : zM} (C : zJ G true (0) 0 0 mX11_undo (zKI F) J) 
    (h : zin (zi (zup μ 153 5 0) 153 39) ∧ ((¬ zi (zup μ 153 5 0) 153 39 = 0 → J 26 ([some (zR (some 153)), some (zI 0)], [], zup (zup μ 153 5 0) 153 39 ((zi (zup μ 153 5 0) 153 39) - 1), 0, 0)) ∧ (zi (zup μ 153 5 0) 153 39 = 0 → F (-1) (zup μ 153 5 0)))) : J 0 ([some (zR (some 153)), none], [], μ, 0, 0) := by
  obtain ⟨p, e, s, m, args, below, meth, c, A, hml, hr, hlk, hnm, rfl⟩ := C
  refine s_aload_n A dX11_undo_0 rfl ?_
  refine s_iconst A dX11_undo_1 ?_
  refine z_putI (k := 11) (j := 5) (sl := true) A dX11_undo_2 rfl zuw_X11 (Nat.le_of_ble_eq_true rfl) zwd1313 (by decide) (zk_153 _) tyX11 tyX11_ok nmX11 rfl rfl rfl ?_
  refine s_aload_n A dX11_undo_5 rfl ?_
  refine s_getf (k := 11) (j := 39) (sl := true) (v := zI (zi (zup μ 153 5 0) 153 39)) A dX11_undo_6 rfl zuw_X11 (Nat.le_of_ble_eq_true rfl) zwd1347 (by decide) (zk_153 _) rfl ?_
  obtain ⟨oz1, h⟩ := h
  refine z_if_ne (tgt := 14) A dX11_undo_9 (by decide) oz1 (fun c2 => ?_) (fun c2 => ?_)
  · have h := h.1 c2
    refine s_aload_n A dX11_undo_14 rfl ?_
    refine s_dup A dX11_undo_15 rfl ?_
    refine s_getf (k := 11) (j := 39) (sl := true) (v := zI (zi (zup μ 153 5 0) 153 39)) A dX11_undo_16 rfl zuw_X11 (Nat.le_of_ble_eq_true rfl) zwd1347 (by decide) (zk_153 _) rfl ?_
    refine s_iconst A dX11_undo_19 ?_
    refine s_isub A dX11_undo_20 ?_
    refine z_putI (k := 11) (j := 39) (sl := true) A dX11_undo_21 rfl zuw_X11 (Nat.le_of_ble_eq_true rfl) zwd1347 (by decide) (zk_153 _) tyX11 tyX11_ok nmX11 rfl rfl rfl ?_
    refine s_iconst A dX11_undo_24 ?_
    refine s_istore_n (L' := [some (zR (some 153)), some (zI 0)]) A dX11_undo_25 (Nat.le_of_ble_eq_true rfl) rfl ?_
    exact h
  · have h := h.2 c2
    refine s_iconst A dX11_undo_12 ?_
    exact s_iret A dX11_undo_13 hr hlk (Nat.le_of_ble_eq_true rfl) (Nat.le_of_ble_eq_true rfl) ⟨_, rfl, h⟩
set_option maxRecDepth 20000 in
theorem rX11_undo_26 {G : zG} {F : Int → zM → Prop} {J : Nat → zS → Prop} {μ : zM} (C : zJ G true (0) 0 0 mX11_undo (zKI F) J) (x1 : Int)
    (h : zin x1 ∧ ((711 ≤ x1 → F (zi μ 153 39) μ) ∧ (¬ (711 ≤ x1) → (0 ≤ (711 * (zi μ 153 39)) + x1 ∧ (711 * (zi μ 153 39)) + x1 < 7110) ∧ (0 ≤ x1 ∧ x1 < 711) ∧ J 26 ([some (zR (some 153)), some (zI (x1 + 1))], [], zup μ 154 x1 (zi μ 175 ((711 * (zi μ 153 39)) + x1)), 0, 0)))) : J 26 ([some (zR (some 153)), some (zI x1)], [], μ, 0, 0) := by
  obtain ⟨p, e, s, m, args, below, meth, c, A, hml, hr, hlk, hnm, rfl⟩ := C
  refine s_iload_n A dX11_undo_26 rfl ?_
  refine s_sipush A dX11_undo_27 rfl ?_
  obtain ⟨oz1, h⟩ := h
  refine z_icmp_ge (tgt := 60) A dX11_undo_30 (by decide) oz1 ⟨by decide, by decide⟩ (fun c2 => ?_) (fun c2 => ?_)
  · have h := h.1 c2
    refine s_aload_n A dX11_undo_60 rfl ?_
    refine s_getf (k := 11) (j := 39) (sl := true) (v := zI (zi μ 153 39)) A dX11_undo_61 rfl zuw_X11 (Nat.le_of_ble_eq_true rfl) zwd1347 (by decide) (zk_153 _) rfl ?_
    exact s_iret A dX11_undo_64 hr hlk (Nat.le_of_ble_eq_true rfl) (Nat.le_of_ble_eq_true rfl) ⟨_, rfl, h⟩
  · have h := h.2 c2
    refine s_aload_n A dX11_undo_33 rfl ?_
    refine s_getf (k := 11) (j := 0) (sl := true) (v := zR (some 154)) A dX11_undo_34 rfl zuw_X11 (Nat.le_of_ble_eq_true rfl) zwd1308 (by decide) (zk_153 _) rfl ?_
    refine s_iload_n A dX11_undo_37 rfl ?_
    refine s_aload_n A dX11_undo_38 rfl ?_
    refine s_getf (k := 11) (j := 38) (sl := true) (v := zR (some 175)) A dX11_undo_39 rfl zuw_X11 (Nat.le_of_ble_eq_true rfl) zwd1346 (by decide) (zk_153 _) rfl ?_
    refine s_sipush A dX11_undo_42 rfl ?_
    refine s_aload_n A dX11_undo_45 rfl ?_
    refine s_getf (k := 11) (j := 39) (sl := true) (v := zI (zi μ 153 39)) A dX11_undo_46 rfl zuw_X11 (Nat.le_of_ble_eq_true rfl) zwd1347 (by decide) (zk_153 _) rfl ?_
    refine s_imul A dX11_undo_49 ?_
    refine s_iload_n A dX11_undo_50 rfl ?_
    refine s_iadd A dX11_undo_51 ?_
    obtain ⟨ox3, h⟩ := h
    refine z_iald A dX11_undo_52 (zk_175 _) (Nat.le_of_ble_eq_true rfl) ox3 ?_
    obtain ⟨ox4, h⟩ := h
    refine z_iast A dX11_undo_53 (zk_154 _) (Nat.le_of_ble_eq_true rfl) ox4 ?_
    refine s_iinc (L' := [some (zR (some 153)), some (zI (x1 + 1))]) A dX11_undo_54 rfl rfl ?_
    refine s_goto (tgt := 26) A dX11_undo_57 (by decide) ?_
    exact h
theorem eX11_undo {G : zG} {F : Int → zM → Prop} {μ : zM}  (h : ∀ J, zJ G true (0) 0 0 mX11_undo (zKI F) J → J 0 ([some (zR (some 153)), none], [], μ, 0, 0)) : qX11_undo G  μ F :=
  z_body (by decide +kernel) (Nat.le_of_ble_eq_true rfl) h
set_option maxRecDepth 20000 in
theorem rX11_keep_e {G : zG} {F : Int → zM → Prop} {J : Nat → zS → Prop} {μ : zM} (C : zJ G true (2) 0 0 mX11_keep (zKI F) J) (x1 : Int)
    (h : qX11_in G true x1 0 1 (zup μ 153 5 0) (fun v1 μ1 => zin v1 ∧ ((¬ v1 = 0 → (0 ≤ x1 ∧ x1 < 2) ∧ J 25 ([some (zR (some 153)), some (zI x1), some (zI 0)], [], zup μ1 180 x1 1, 0, 0)) ∧ (v1 = 0 → F 0 μ1)))) : J 0 ([some (zR (some 153)), some (zI x1), none], [], μ, 0, 0) := by
  obtain ⟨p, e, s, m, args, below, meth, c, A, hml, hr, hlk, hnm, rfl⟩ := C
  refine s_aload_n A dX11_keep_0 rfl ?_
  refine s_iconst A dX11_keep_1 ?_
  refine z_putI (k := 11) (j := 5) (sl := true) A dX11_keep_2 rfl zuw_X11 (Nat.le_of_ble_eq_true rfl) zwd1313 (by decide) (zk_153 _) tyX11 tyX11_ok nmX11 rfl rfl rfl ?_
  refine s_iload_n A dX11_keep_5 rfl ?_
  refine s_iconst A dX11_keep_6 ?_
  refine s_iconst A dX11_keep_7 ?_
  refine s_callS (M := mX11_in) (n := 3) (d := 0) (mc := 0) (ms := 0) (av := [zI x1, zI 0, zI 1]) (st := []) A dX11_keep_8 zwd1456 zwd1457 zwd100 zcd_X11_in (Nat.le_of_ble_eq_true rfl) (Nat.le_of_ble_eq_true rfl) (Nat.le_refl _) ⟨Nat.le_of_ble_eq_true rfl, Nat.le_of_ble_eq_true rfl⟩ zhn_X11_in rfl (Nat.le_of_ble_eq_true rfl) rfl (z_contI (fun v1 μ1 h => ?_) h)
  obtain ⟨oz2, h⟩ := h
  refine z_if_ne (tgt := 16) A dX11_keep_11 (by decide) oz2 (fun c3 => ?_) (fun c3 => ?_)
  · have h := h.1 c3
    refine s_aload_n A dX11_keep_16 rfl ?_
    refine s_getf (k := 11) (j := 44) (sl := true) (v := zR (some 180)) A dX11_keep_17 rfl zuw_X11 (Nat.le_of_ble_eq_true rfl) zwd1352 (by decide) (zk_153 _) rfl ?_
    refine s_iload_n A dX11_keep_20 rfl ?_
    refine s_iconst A dX11_keep_21 ?_
    obtain ⟨ox4, h⟩ := h
    refine z_zast A dX11_keep_22 (zk_180 _) (Nat.le_of_ble_eq_true rfl) ox4 (Or.inr rfl) ?_
    refine s_iconst A dX11_keep_23 ?_
    refine s_istore_n (L' := [some (zR (some 153)), some (zI x1), some (zI 0)]) A dX11_keep_24 (Nat.le_of_ble_eq_true rfl) rfl ?_
    exact h
  · have h := h.2 c3
    refine s_iconst A dX11_keep_14 ?_
    exact s_zret A dX11_keep_15 hr hlk (Nat.le_of_ble_eq_true rfl) (Nat.le_of_ble_eq_true rfl) (Or.inl rfl) ⟨_, rfl, h⟩
set_option maxRecDepth 20000 in
theorem rX11_keep_25 {G : zG} {F : Int → zM → Prop} {J : Nat → zS → Prop} {μ : zM} (C : zJ G true (2) 0 0 mX11_keep (zKI F) J) (x1 : Int) (x2 : Int)
    (h : zin x2 ∧ ((711 ≤ x2 → F 1 μ) ∧ (¬ (711 ≤ x2) → (0 ≤ x2 ∧ x2 < 711) ∧ (0 ≤ (711 * x1) + x2 ∧ (711 * x1) + x2 < 1422) ∧ J 25 ([some (zR (some 153)), some (zI x1), some (zI (x2 + 1))], [], zup μ 179 ((711 * x1) + x2) (zi μ 154 x2), 0, 0)))) : J 25 ([some (zR (some 153)), some (zI x1), some (zI x2)], [], μ, 0, 0) := by
  obtain ⟨p, e, s, m, args, below, meth, c, A, hml, hr, hlk, hnm, rfl⟩ := C
  refine s_iload_n A dX11_keep_25 rfl ?_
  refine s_sipush A dX11_keep_26 rfl ?_
  obtain ⟨oz1, h⟩ := h
  refine z_icmp_ge (tgt := 56) A dX11_keep_29 (by decide) oz1 ⟨by decide, by decide⟩ (fun c2 => ?_) (fun c2 => ?_)
  · have h := h.1 c2
    refine s_iconst A dX11_keep_56 ?_
    exact s_zret A dX11_keep_57 hr hlk (Nat.le_of_ble_eq_true rfl) (Nat.le_of_ble_eq_true rfl) (Or.inr rfl) ⟨_, rfl, h⟩
  · have h := h.2 c2
    refine s_aload_n A dX11_keep_32 rfl ?_
    refine s_getf (k := 11) (j := 43) (sl := true) (v := zR (some 179)) A dX11_keep_33 rfl zuw_X11 (Nat.le_of_ble_eq_true rfl) zwd1351 (by decide) (zk_153 _) rfl ?_
    refine s_sipush A dX11_keep_36 rfl ?_
    refine s_iload_n A dX11_keep_39 rfl ?_
    refine s_imul A dX11_keep_40 ?_
    refine s_iload_n A dX11_keep_41 rfl ?_
    refine s_iadd A dX11_keep_42 ?_
    refine s_aload_n A dX11_keep_43 rfl ?_
    refine s_getf (k := 11) (j := 0) (sl := true) (v := zR (some 154)) A dX11_keep_44 rfl zuw_X11 (Nat.le_of_ble_eq_true rfl) zwd1308 (by decide) (zk_153 _) rfl ?_
    refine s_iload_n A dX11_keep_47 rfl ?_
    obtain ⟨ox3, h⟩ := h
    refine z_iald A dX11_keep_48 (zk_154 _) (Nat.le_of_ble_eq_true rfl) ox3 ?_
    obtain ⟨ox4, h⟩ := h
    refine z_iast A dX11_keep_49 (zk_179 _) (Nat.le_of_ble_eq_true rfl) ox4 ?_
    refine s_iinc (L' := [some (zR (some 153)), some (zI x1), some (zI (x2 + 1))]) A dX11_keep_50 rfl rfl ?_
    refine s_goto (tgt := 25) A dX11_keep_53 (by decide) ?_
    exact h
theorem eX11_keep {G : zG} {F : Int → zM → Prop} {μ : zM} {x1 : Int} (h : ∀ J, zJ G true (2) 0 0 mX11_keep (zKI F) J → J 0 ([some (zR (some 153)), some (zI x1), none], [], μ, 0, 0)) : qX11_keep G x1 μ F :=
  z_body (by decide +kernel) (Nat.le_of_ble_eq_true rfl) h
set_option maxRecDepth 20000 in
theorem rX11_again_e {G : zG} {F : Int → zM → Prop} {J : Nat → zS → Prop} {μ : zM} (C : zJ G true (2) 0 0 mX11_again (zKI F) J) (x1 : Int)
    (h : qX11_in G true x1 0 1 (zup μ 153 5 0) (fun v1 μ1 => zin v1 ∧ ((v1 = 0 → F 0 μ1) ∧ (¬ (v1 = 0) → (0 ≤ x1 ∧ x1 < 2) ∧ zin (zi μ1 180 x1) ∧ ((¬ zi μ1 180 x1 = 0 → J 27 ([some (zR (some 153)), some (zI x1), some (zI 0)], [], μ1, 0, 0)) ∧ (zi μ1 180 x1 = 0 → F 0 μ1)))))) : J 0 ([some (zR (some 153)), some (zI x1), none], [], μ, 0, 0) := by
  obtain ⟨p, e, s, m, args, below, meth, c, A, hml, hr, hlk, hnm, rfl⟩ := C
  refine s_aload_n A dX11_again_0 rfl ?_
  refine s_iconst A dX11_again_1 ?_
  refine z_putI (k := 11) (j := 5) (sl := true) A dX11_again_2 rfl zuw_X11 (Nat.le_of_ble_eq_true rfl) zwd1313 (by decide) (zk_153 _) tyX11 tyX11_ok nmX11 rfl rfl rfl ?_
  refine s_iload_n A dX11_again_5 rfl ?_
  refine s_iconst A dX11_again_6 ?_
  refine s_iconst A dX11_again_7 ?_
  refine s_callS (M := mX11_in) (n := 3) (d := 0) (mc := 0) (ms := 0) (av := [zI x1, zI 0, zI 1]) (st := []) A dX11_again_8 zwd1456 zwd1457 zwd100 zcd_X11_in (Nat.le_of_ble_eq_true rfl) (Nat.le_of_ble_eq_true rfl) (Nat.le_refl _) ⟨Nat.le_of_ble_eq_true rfl, Nat.le_of_ble_eq_true rfl⟩ zhn_X11_in rfl (Nat.le_of_ble_eq_true rfl) rfl (z_contI (fun v1 μ1 h => ?_) h)
  obtain ⟨oz2, h⟩ := h
  refine z_if_eq (tgt := 23) A dX11_again_11 (by decide) oz2 (fun c3 => ?_) (fun c3 => ?_)
  · have h := h.1 c3
    refine s_iconst A dX11_again_23 ?_
    exact s_zret A dX11_again_24 hr hlk (Nat.le_of_ble_eq_true rfl) (Nat.le_of_ble_eq_true rfl) (Or.inl rfl) ⟨_, rfl, h⟩
  · have h := h.2 c3
    refine s_aload_n A dX11_again_14 rfl ?_
    refine s_getf (k := 11) (j := 44) (sl := true) (v := zR (some 180)) A dX11_again_15 rfl zuw_X11 (Nat.le_of_ble_eq_true rfl) zwd1352 (by decide) (zk_153 _) rfl ?_
    refine s_iload_n A dX11_again_18 rfl ?_
    obtain ⟨ox4, h⟩ := h
    refine z_zald A dX11_again_19 (zk_180 _) (Nat.le_of_ble_eq_true rfl) ox4 ?_
    obtain ⟨oz5, h⟩ := h
    refine z_if_ne (tgt := 25) A dX11_again_20 (by decide) oz5 (fun c6 => ?_) (fun c6 => ?_)
    · have h := h.1 c6
      refine s_iconst A dX11_again_25 ?_
      refine s_istore_n (L' := [some (zR (some 153)), some (zI x1), some (zI 0)]) A dX11_again_26 (Nat.le_of_ble_eq_true rfl) rfl ?_
      exact h
    · have h := h.2 c6
      refine s_iconst A dX11_again_23 ?_
      exact s_zret A dX11_again_24 hr hlk (Nat.le_of_ble_eq_true rfl) (Nat.le_of_ble_eq_true rfl) (Or.inl rfl) ⟨_, rfl, h⟩
set_option maxRecDepth 20000 in
theorem rX11_again_27 {G : zG} {F : Int → zM → Prop} {J : Nat → zS → Prop} {μ : zM} (C : zJ G true (2) 0 0 mX11_again (zKI F) J) (x1 : Int) (x2 : Int)
    (h : zin x2 ∧ ((711 ≤ x2 → F 1 (zup μ 153 39 0)) ∧ (¬ (711 ≤ x2) → (0 ≤ (711 * x1) + x2 ∧ (711 * x1) + x2 < 1422) ∧ (0 ≤ x2 ∧ x2 < 711) ∧ J 27 ([some (zR (some 153)), some (zI x1), some (zI (x2 + 1))], [], zup μ 154 x2 (zi μ 179 ((711 * x1) + x2)), 0, 0)))) : J 27 ([some (zR (some 153)), some (zI x1), some (zI x2)], [], μ, 0, 0) := by
  obtain ⟨p, e, s, m, args, below, meth, c, A, hml, hr, hlk, hnm, rfl⟩ := C
  refine s_iload_n A dX11_again_27 rfl ?_
  refine s_sipush A dX11_again_28 rfl ?_
  obtain ⟨oz1, h⟩ := h
  refine z_icmp_ge (tgt := 58) A dX11_again_31 (by decide) oz1 ⟨by decide, by decide⟩ (fun c2 => ?_) (fun c2 => ?_)
  · have h := h.1 c2
    refine s_aload_n A dX11_again_58 rfl ?_
    refine s_iconst A dX11_again_59 ?_
    refine z_putI (k := 11) (j := 39) (sl := true) A dX11_again_60 rfl zuw_X11 (Nat.le_of_ble_eq_true rfl) zwd1347 (by decide) (zk_153 _) tyX11 tyX11_ok nmX11 rfl rfl rfl ?_
    refine s_iconst A dX11_again_63 ?_
    exact s_zret A dX11_again_64 hr hlk (Nat.le_of_ble_eq_true rfl) (Nat.le_of_ble_eq_true rfl) (Or.inr rfl) ⟨_, rfl, h⟩
  · have h := h.2 c2
    refine s_aload_n A dX11_again_34 rfl ?_
    refine s_getf (k := 11) (j := 0) (sl := true) (v := zR (some 154)) A dX11_again_35 rfl zuw_X11 (Nat.le_of_ble_eq_true rfl) zwd1308 (by decide) (zk_153 _) rfl ?_
    refine s_iload_n A dX11_again_38 rfl ?_
    refine s_aload_n A dX11_again_39 rfl ?_
    refine s_getf (k := 11) (j := 43) (sl := true) (v := zR (some 179)) A dX11_again_40 rfl zuw_X11 (Nat.le_of_ble_eq_true rfl) zwd1351 (by decide) (zk_153 _) rfl ?_
    refine s_sipush A dX11_again_43 rfl ?_
    refine s_iload_n A dX11_again_46 rfl ?_
    refine s_imul A dX11_again_47 ?_
    refine s_iload_n A dX11_again_48 rfl ?_
    refine s_iadd A dX11_again_49 ?_
    obtain ⟨ox3, h⟩ := h
    refine z_iald A dX11_again_50 (zk_179 _) (Nat.le_of_ble_eq_true rfl) ox3 ?_
    obtain ⟨ox4, h⟩ := h
    refine z_iast A dX11_again_51 (zk_154 _) (Nat.le_of_ble_eq_true rfl) ox4 ?_
    refine s_iinc (L' := [some (zR (some 153)), some (zI x1), some (zI (x2 + 1))]) A dX11_again_52 rfl rfl ?_
    refine s_goto (tgt := 27) A dX11_again_55 (by decide) ?_
    exact h
theorem eX11_again {G : zG} {F : Int → zM → Prop} {μ : zM} {x1 : Int} (h : ∀ J, zJ G true (2) 0 0 mX11_again (zKI F) J → J 0 ([some (zR (some 153)), some (zI x1), none], [], μ, 0, 0)) : qX11_again G x1 μ F :=
  z_body (by decide +kernel) (Nat.le_of_ble_eq_true rfl) h
set_option maxRecDepth 20000 in
theorem rX11_count_e {G : zG} {F : Int → zM → Prop} {J : Nat → zS → Prop} {μ : zM} (C : zJ G true (2) 0 0 mX11_count (zKI F) J) (x1 : Int)
    (h : zin x1 ∧ ((x1 = 0 → qX11_measured G (zup μ 153 5 0) (fun v2 μ2 => F v2 μ2)) ∧ (x1 = 1 → F (zi (zup μ 153 5 0) 154 704) (zup μ 153 5 0)) ∧ (x1 = 2 → F (zi (zup μ 153 5 0) 154 705) (zup μ 153 5 0)) ∧ (x1 = 3 → F (zi (zup μ 153 5 0) 154 706) (zup μ 153 5 0)) ∧ (x1 = 4 → F (zi (zup μ 153 5 0) 154 707) (zup μ 153 5 0)) ∧ (x1 = 5 → F (zi (zup μ 153 5 0) 154 613) (zup μ 153 5 0)) ∧ (x1 = 6 → F (zi (zup μ 153 5 0) 154 612) (zup μ 153 5 0)) ∧ (x1 = 7 → F (zi (zup μ 153 5 0) 154 702) (zup μ 153 5 0)) ∧ (x1 = 8 → F (zi (zup μ 153 5 0) 154 703) (zup μ 153 5 0)) ∧ (x1 = 9 → F (zi (zup μ 153 5 0) 153 39) (zup μ 153 5 0)) ∧ (x1 = 10 → F (zi (zup μ 153 5 0) 153 4) (zup μ 153 5 0)) ∧ (x1 = 11 → F (zi (zup μ 153 5 0) 153 2) (zup μ 153 5 0)) ∧ (x1 = 12 ∨ x1 = 13 ∨ x1 = 14 → (0 ≤ (708 + x1) - 12 ∧ (708 + x1) - 12 < 711) ∧ F (zi (zup μ 153 5 0) 154 ((708 + x1) - 12)) (zup μ 153 5 0)) ∧ (x1 ≠ 0 ∧ x1 ≠ 1 ∧ x1 ≠ 2 ∧ x1 ≠ 3 ∧ x1 ≠ 4 ∧ x1 ≠ 5 ∧ x1 ≠ 6 ∧ x1 ≠ 7 ∧ x1 ≠ 8 ∧ x1 ≠ 9 ∧ x1 ≠ 10 ∧ x1 ≠ 11 ∧ x1 ≠ 12 ∧ x1 ≠ 13 ∧ x1 ≠ 14 → F (-1) (zup μ 153 5 0)))) : J 0 ([some (zR (some 153)), some (zI x1)], [], μ, 0, 0) := by
  obtain ⟨p, e, s, m, args, below, meth, c, A, hml, hr, hlk, hnm, rfl⟩ := C
  refine s_aload_n A dX11_count_0 rfl ?_
  refine s_iconst A dX11_count_1 ?_
  refine z_putI (k := 11) (j := 5) (sl := true) A dX11_count_2 rfl zuw_X11 (Nat.le_of_ble_eq_true rfl) zwd1313 (by decide) (zk_153 _) tyX11 tyX11_ok nmX11 rfl rfl rfl ?_
  refine s_iload_n A dX11_count_5 rfl ?_
  obtain ⟨oz1, h⟩ := h
  refine z_tsw A dX11_count_6 oz1 (by decide +kernel) ⟨186, by decide⟩ (fun tg4 ht4 => ?_)
  have hx4 : (x1 = 0 ∨ x1 = 1 ∨ x1 = 2 ∨ x1 = 3 ∨ x1 = 4 ∨ x1 = 5 ∨ x1 = 6 ∨ x1 = 7 ∨ x1 = 8 ∨ x1 = 9 ∨ x1 = 10 ∨ x1 = 11 ∨ x1 = 12 ∨ x1 = 13 ∨ x1 = 14) ∨ (x1 < 0 ∨ 14 < x1) := by omega
  rcases hx4 with (hq | hq | hq | hq | hq | hq | hq | hq | hq | hq | hq | hq | hq | hq | hq) | hq
  · obtain rfl := ztg_in (t := 80) ht4 0 hq (by decide) (by decide +kernel)
    have h := h.1 (by omega)
    refine s_aload_n A dX11_count_80 rfl ?_
    refine s_callV (a := 153) (k := 11) (N := 45) (sl := true) (M := mX11_measured) (n := 0) (d := 0) (mc := 0) (ms := 0) (av := []) (st := []) A dX11_count_81 rfl (by decide) (zk_153 _) zwd1860 zwd1862 zwd82 zwd100 zcd_X11_measured (Nat.le_of_ble_eq_true rfl) (Nat.le_of_ble_eq_true rfl) (Nat.le_refl _) ⟨Nat.le_of_ble_eq_true rfl, Nat.le_of_ble_eq_true rfl⟩ ⟨rfl, zhn_X11_measured⟩ rfl (Nat.le_of_ble_eq_true rfl) rfl (z_contI (fun v2 μ2 h => ?_) h)
    exact s_iret A dX11_count_84 hr hlk (Nat.le_of_ble_eq_true rfl) (Nat.le_of_ble_eq_true rfl) ⟨_, rfl, h⟩
  · obtain rfl := ztg_in (t := 85) ht4 1 hq (by decide) (by decide +kernel)
    have h := h.2.1 (by omega)
    refine s_aload_n A dX11_count_85 rfl ?_
    refine s_getf (k := 11) (j := 0) (sl := true) (v := zR (some 154)) A dX11_count_86 rfl zuw_X11 (Nat.le_of_ble_eq_true rfl) zwd1308 (by decide) (zk_153 _) rfl ?_
    refine s_sipush A dX11_count_89 rfl ?_
    refine z_iald A dX11_count_92 (zk_154 _) (Nat.le_of_ble_eq_true rfl) ⟨by decide, by decide⟩ ?_
    exact s_iret A dX11_count_93 hr hlk (Nat.le_of_ble_eq_true rfl) (Nat.le_of_ble_eq_true rfl) ⟨_, rfl, h⟩
  · obtain rfl := ztg_in (t := 94) ht4 2 hq (by decide) (by decide +kernel)
    have h := h.2.2.1 (by omega)
    refine s_aload_n A dX11_count_94 rfl ?_
    refine s_getf (k := 11) (j := 0) (sl := true) (v := zR (some 154)) A dX11_count_95 rfl zuw_X11 (Nat.le_of_ble_eq_true rfl) zwd1308 (by decide) (zk_153 _) rfl ?_
    refine s_sipush A dX11_count_98 rfl ?_
    refine z_iald A dX11_count_101 (zk_154 _) (Nat.le_of_ble_eq_true rfl) ⟨by decide, by decide⟩ ?_
    exact s_iret A dX11_count_102 hr hlk (Nat.le_of_ble_eq_true rfl) (Nat.le_of_ble_eq_true rfl) ⟨_, rfl, h⟩
  · obtain rfl := ztg_in (t := 103) ht4 3 hq (by decide) (by decide +kernel)
    have h := h.2.2.2.1 (by omega)
    refine s_aload_n A dX11_count_103 rfl ?_
    refine s_getf (k := 11) (j := 0) (sl := true) (v := zR (some 154)) A dX11_count_104 rfl zuw_X11 (Nat.le_of_ble_eq_true rfl) zwd1308 (by decide) (zk_153 _) rfl ?_
    refine s_sipush A dX11_count_107 rfl ?_
    refine z_iald A dX11_count_110 (zk_154 _) (Nat.le_of_ble_eq_true rfl) ⟨by decide, by decide⟩ ?_
    exact s_iret A dX11_count_111 hr hlk (Nat.le_of_ble_eq_true rfl) (Nat.le_of_ble_eq_true rfl) ⟨_, rfl, h⟩
  · obtain rfl := ztg_in (t := 112) ht4 4 hq (by decide) (by decide +kernel)
    have h := h.2.2.2.2.1 (by omega)
    refine s_aload_n A dX11_count_112 rfl ?_
    refine s_getf (k := 11) (j := 0) (sl := true) (v := zR (some 154)) A dX11_count_113 rfl zuw_X11 (Nat.le_of_ble_eq_true rfl) zwd1308 (by decide) (zk_153 _) rfl ?_
    refine s_sipush A dX11_count_116 rfl ?_
    refine z_iald A dX11_count_119 (zk_154 _) (Nat.le_of_ble_eq_true rfl) ⟨by decide, by decide⟩ ?_
    exact s_iret A dX11_count_120 hr hlk (Nat.le_of_ble_eq_true rfl) (Nat.le_of_ble_eq_true rfl) ⟨_, rfl, h⟩
  · obtain rfl := ztg_in (t := 121) ht4 5 hq (by decide) (by decide +kernel)
    have h := h.2.2.2.2.2.1 (by omega)
    refine s_aload_n A dX11_count_121 rfl ?_
    refine s_getf (k := 11) (j := 0) (sl := true) (v := zR (some 154)) A dX11_count_122 rfl zuw_X11 (Nat.le_of_ble_eq_true rfl) zwd1308 (by decide) (zk_153 _) rfl ?_
    refine s_sipush A dX11_count_125 rfl ?_
    refine z_iald A dX11_count_128 (zk_154 _) (Nat.le_of_ble_eq_true rfl) ⟨by decide, by decide⟩ ?_
    exact s_iret A dX11_count_129 hr hlk (Nat.le_of_ble_eq_true rfl) (Nat.le_of_ble_eq_true rfl) ⟨_, rfl, h⟩
  · obtain rfl := ztg_in (t := 130) ht4 6 hq (by decide) (by decide +kernel)
    have h := h.2.2.2.2.2.2.1 (by omega)
    refine s_aload_n A dX11_count_130 rfl ?_
    refine s_getf (k := 11) (j := 0) (sl := true) (v := zR (some 154)) A dX11_count_131 rfl zuw_X11 (Nat.le_of_ble_eq_true rfl) zwd1308 (by decide) (zk_153 _) rfl ?_
    refine s_sipush A dX11_count_134 rfl ?_
    refine z_iald A dX11_count_137 (zk_154 _) (Nat.le_of_ble_eq_true rfl) ⟨by decide, by decide⟩ ?_
    exact s_iret A dX11_count_138 hr hlk (Nat.le_of_ble_eq_true rfl) (Nat.le_of_ble_eq_true rfl) ⟨_, rfl, h⟩
  · obtain rfl := ztg_in (t := 139) ht4 7 hq (by decide) (by decide +kernel)
    have h := h.2.2.2.2.2.2.2.1 (by omega)
    refine s_aload_n A dX11_count_139 rfl ?_
    refine s_getf (k := 11) (j := 0) (sl := true) (v := zR (some 154)) A dX11_count_140 rfl zuw_X11 (Nat.le_of_ble_eq_true rfl) zwd1308 (by decide) (zk_153 _) rfl ?_
    refine s_sipush A dX11_count_143 rfl ?_
    refine z_iald A dX11_count_146 (zk_154 _) (Nat.le_of_ble_eq_true rfl) ⟨by decide, by decide⟩ ?_
    exact s_iret A dX11_count_147 hr hlk (Nat.le_of_ble_eq_true rfl) (Nat.le_of_ble_eq_true rfl) ⟨_, rfl, h⟩
  · obtain rfl := ztg_in (t := 148) ht4 8 hq (by decide) (by decide +kernel)
    have h := h.2.2.2.2.2.2.2.2.1 (by omega)
    refine s_aload_n A dX11_count_148 rfl ?_
    refine s_getf (k := 11) (j := 0) (sl := true) (v := zR (some 154)) A dX11_count_149 rfl zuw_X11 (Nat.le_of_ble_eq_true rfl) zwd1308 (by decide) (zk_153 _) rfl ?_
    refine s_sipush A dX11_count_152 rfl ?_
    refine z_iald A dX11_count_155 (zk_154 _) (Nat.le_of_ble_eq_true rfl) ⟨by decide, by decide⟩ ?_
    exact s_iret A dX11_count_156 hr hlk (Nat.le_of_ble_eq_true rfl) (Nat.le_of_ble_eq_true rfl) ⟨_, rfl, h⟩
  · obtain rfl := ztg_in (t := 157) ht4 9 hq (by decide) (by decide +kernel)
    have h := h.2.2.2.2.2.2.2.2.2.1 (by omega)
    refine s_aload_n A dX11_count_157 rfl ?_
    refine s_getf (k := 11) (j := 39) (sl := true) (v := zI (zi (zup μ 153 5 0) 153 39)) A dX11_count_158 rfl zuw_X11 (Nat.le_of_ble_eq_true rfl) zwd1347 (by decide) (zk_153 _) rfl ?_
    exact s_iret A dX11_count_161 hr hlk (Nat.le_of_ble_eq_true rfl) (Nat.le_of_ble_eq_true rfl) ⟨_, rfl, h⟩
  · obtain rfl := ztg_in (t := 162) ht4 10 hq (by decide) (by decide +kernel)
    have h := h.2.2.2.2.2.2.2.2.2.2.1 (by omega)
    refine s_aload_n A dX11_count_162 rfl ?_
    refine s_getf (k := 11) (j := 4) (sl := true) (v := zI (zi (zup μ 153 5 0) 153 4)) A dX11_count_163 rfl zuw_X11 (Nat.le_of_ble_eq_true rfl) zwd1312 (by decide) (zk_153 _) rfl ?_
    exact s_iret A dX11_count_166 hr hlk (Nat.le_of_ble_eq_true rfl) (Nat.le_of_ble_eq_true rfl) ⟨_, rfl, h⟩
  · obtain rfl := ztg_in (t := 167) ht4 11 hq (by decide) (by decide +kernel)
    have h := h.2.2.2.2.2.2.2.2.2.2.2.1 (by omega)
    refine s_aload_n A dX11_count_167 rfl ?_
    refine s_getf (k := 11) (j := 2) (sl := true) (v := zI (zi (zup μ 153 5 0) 153 2)) A dX11_count_168 rfl zuw_X11 (Nat.le_of_ble_eq_true rfl) zwd1310 (by decide) (zk_153 _) rfl ?_
    exact s_iret A dX11_count_171 hr hlk (Nat.le_of_ble_eq_true rfl) (Nat.le_of_ble_eq_true rfl) ⟨_, rfl, h⟩
  · obtain rfl := ztg_in (t := 172) ht4 12 hq (by decide) (by decide +kernel)
    have h := h.2.2.2.2.2.2.2.2.2.2.2.2.1 (by omega)
    refine s_aload_n A dX11_count_172 rfl ?_
    refine s_getf (k := 11) (j := 0) (sl := true) (v := zR (some 154)) A dX11_count_173 rfl zuw_X11 (Nat.le_of_ble_eq_true rfl) zwd1308 (by decide) (zk_153 _) rfl ?_
    refine s_sipush A dX11_count_176 rfl ?_
    refine s_iload_n A dX11_count_179 rfl ?_
    refine s_iadd A dX11_count_180 ?_
    refine s_bipush A dX11_count_181 rfl ?_
    refine s_isub A dX11_count_183 ?_
    obtain ⟨ox3, h⟩ := h
    refine z_iald A dX11_count_184 (zk_154 _) (Nat.le_of_ble_eq_true rfl) ox3 ?_
    exact s_iret A dX11_count_185 hr hlk (Nat.le_of_ble_eq_true rfl) (Nat.le_of_ble_eq_true rfl) ⟨_, rfl, h⟩
  · obtain rfl := ztg_in (t := 172) ht4 13 hq (by decide) (by decide +kernel)
    have h := h.2.2.2.2.2.2.2.2.2.2.2.2.1 (by omega)
    refine s_aload_n A dX11_count_172 rfl ?_
    refine s_getf (k := 11) (j := 0) (sl := true) (v := zR (some 154)) A dX11_count_173 rfl zuw_X11 (Nat.le_of_ble_eq_true rfl) zwd1308 (by decide) (zk_153 _) rfl ?_
    refine s_sipush A dX11_count_176 rfl ?_
    refine s_iload_n A dX11_count_179 rfl ?_
    refine s_iadd A dX11_count_180 ?_
    refine s_bipush A dX11_count_181 rfl ?_
    refine s_isub A dX11_count_183 ?_
    obtain ⟨ox3, h⟩ := h
    refine z_iald A dX11_count_184 (zk_154 _) (Nat.le_of_ble_eq_true rfl) ox3 ?_
    exact s_iret A dX11_count_185 hr hlk (Nat.le_of_ble_eq_true rfl) (Nat.le_of_ble_eq_true rfl) ⟨_, rfl, h⟩
  · obtain rfl := ztg_in (t := 172) ht4 14 hq (by decide) (by decide +kernel)
    have h := h.2.2.2.2.2.2.2.2.2.2.2.2.1 (by omega)
    refine s_aload_n A dX11_count_172 rfl ?_
    refine s_getf (k := 11) (j := 0) (sl := true) (v := zR (some 154)) A dX11_count_173 rfl zuw_X11 (Nat.le_of_ble_eq_true rfl) zwd1308 (by decide) (zk_153 _) rfl ?_
    refine s_sipush A dX11_count_176 rfl ?_
    refine s_iload_n A dX11_count_179 rfl ?_
    refine s_iadd A dX11_count_180 ?_
    refine s_bipush A dX11_count_181 rfl ?_
    refine s_isub A dX11_count_183 ?_
    obtain ⟨ox3, h⟩ := h
    refine z_iald A dX11_count_184 (zk_154 _) (Nat.le_of_ble_eq_true rfl) ox3 ?_
    exact s_iret A dX11_count_185 hr hlk (Nat.le_of_ble_eq_true rfl) (Nat.le_of_ble_eq_true rfl) ⟨_, rfl, h⟩
  · obtain rfl := ztg_out (t := 186) ht4 hq (by decide)
    have h := h.2.2.2.2.2.2.2.2.2.2.2.2.2 (by omega)
    refine s_iconst A dX11_count_186 ?_
    exact s_iret A dX11_count_187 hr hlk (Nat.le_of_ble_eq_true rfl) (Nat.le_of_ble_eq_true rfl) ⟨_, rfl, h⟩
theorem eX11_count {G : zG} {F : Int → zM → Prop} {μ : zM} {x1 : Int} (h : ∀ J, zJ G true (2) 0 0 mX11_count (zKI F) J → J 0 ([some (zR (some 153)), some (zI x1)], [], μ, 0, 0)) : qX11_count G x1 μ F :=
  z_body (by decide +kernel) (Nat.le_of_ble_eq_true rfl) h
set_option maxRecDepth 20000 in
theorem rX11_row_e {G : zG} {F : Int → zM → Prop} {J : Nat → zS → Prop} {μ : zM} (C : zJ G true (2) 0 0 mX11_row (zKL F) J) (x1 : Int)
    (h : qX11_in G true x1 0 ((zi (zup μ 153 5 0) 153 4) - 1) (zup μ 153 5 0) (fun v1 μ1 => zin v1 ∧ ((v1 = 0 → qX11_lost G μ1 (fun v4 μ4 => zin v4 ∧ F v4 μ4)) ∧ (¬ (v1 = 0) → (0 ≤ x1 ∧ x1 < 16) ∧ F (zi μ1 156 x1) μ1)))) : J 0 ([some (zR (some 153)), some (zI x1)], [], μ, 0, 0) := by
  obtain ⟨p, e, s, m, args, below, meth, c, A, hml, hr, hlk, hnm, rfl⟩ := C
  refine s_aload_n A dX11_row_0 rfl ?_
  refine s_iconst A dX11_row_1 ?_
  refine z_putI (k := 11) (j := 5) (sl := true) A dX11_row_2 rfl zuw_X11 (Nat.le_of_ble_eq_true rfl) zwd1313 (by decide) (zk_153 _) tyX11 tyX11_ok nmX11 rfl rfl rfl ?_
  refine s_iload_n A dX11_row_5 rfl ?_
  refine s_iconst A dX11_row_6 ?_
  refine s_aload_n A dX11_row_7 rfl ?_
  refine s_getf (k := 11) (j := 4) (sl := true) (v := zI (zi (zup μ 153 5 0) 153 4)) A dX11_row_8 rfl zuw_X11 (Nat.le_of_ble_eq_true rfl) zwd1312 (by decide) (zk_153 _) rfl ?_
  refine s_iconst A dX11_row_11 ?_
  refine s_isub A dX11_row_12 ?_
  refine s_callS (M := mX11_in) (n := 3) (d := 0) (mc := 0) (ms := 0) (av := [zI x1, zI 0, zI ((zi (zup μ 153 5 0) 153 4) - 1)]) (st := []) A dX11_row_13 zwd1456 zwd1457 zwd100 zcd_X11_in (Nat.le_of_ble_eq_true rfl) (Nat.le_of_ble_eq_true rfl) (Nat.le_refl _) ⟨Nat.le_of_ble_eq_true rfl, Nat.le_of_ble_eq_true rfl⟩ zhn_X11_in rfl (Nat.le_of_ble_eq_true rfl) rfl (z_contI (fun v1 μ1 h => ?_) h)
  obtain ⟨oz2, h⟩ := h
  refine z_if_eq (tgt := 28) A dX11_row_16 (by decide) oz2 (fun c3 => ?_) (fun c3 => ?_)
  · have h := h.1 c3
    refine s_aload_n A dX11_row_28 rfl ?_
    refine s_callV (a := 153) (k := 11) (N := 45) (sl := true) (M := mX11_lost) (n := 0) (d := 0) (mc := 0) (ms := 0) (av := []) (st := []) A dX11_row_29 rfl (by decide) (zk_153 _) zwd1576 zwd1578 zwd47 zwd100 zcd_X11_lost (Nat.le_of_ble_eq_true rfl) (Nat.le_of_ble_eq_true rfl) (Nat.le_refl _) ⟨Nat.le_of_ble_eq_true rfl, Nat.le_of_ble_eq_true rfl⟩ ⟨rfl, zhn_X11_lost⟩ rfl (Nat.le_of_ble_eq_true rfl) rfl (z_contI (fun v4 μ4 h => ?_) h)
    obtain ⟨oz5, h⟩ := h
    refine z_i2l2 A dX11_row_32 oz5 ?_
    exact s_lret A dX11_row_33 hr hlk (Nat.le_of_ble_eq_true rfl) (Nat.le_of_ble_eq_true rfl) ⟨_, rfl, h⟩
  · have h := h.2 c3
    refine s_aload_n A dX11_row_19 rfl ?_
    refine s_getf (k := 11) (j := 3) (sl := true) (v := zR (some 156)) A dX11_row_20 rfl zuw_X11 (Nat.le_of_ble_eq_true rfl) zwd1311 (by decide) (zk_153 _) rfl ?_
    refine s_iload_n A dX11_row_23 rfl ?_
    obtain ⟨ox6, h⟩ := h
    refine z_lald A dX11_row_24 (zk_156 _) (Nat.le_of_ble_eq_true rfl) ox6 ?_
    refine s_goto (tgt := 33) A dX11_row_25 (by decide) ?_
    exact s_lret A dX11_row_33 hr hlk (Nat.le_of_ble_eq_true rfl) (Nat.le_of_ble_eq_true rfl) ⟨_, rfl, h⟩
theorem eX11_row {G : zG} {F : Int → zM → Prop} {μ : zM} {x1 : Int} (h : ∀ J, zJ G true (2) 0 0 mX11_row (zKL F) J → J 0 ([some (zR (some 153)), some (zI x1)], [], μ, 0, 0)) : qX11_row G x1 μ F :=
  z_body (by decide +kernel) (Nat.le_of_ble_eq_true rfl) h
