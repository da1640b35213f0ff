/-! regions of the methods that may throw -/
theorem zwd145 : (Jvm.Cond.fieldLink "InkFolds" (467 : Nat) "InkFolds$Row" "numbers" "[J") ∈ zTw := zTw_mem (List.mem_of_getElem? (i := 145) (by decide +kernel)) rfl
theorem zwd1214 : (Jvm.Cond.methodLink "InkFolds" (167 : Nat) ({ cls := "InkFolds", name := "isPatch", desc := "(I)Z" } : Jvm.MethodName)) ∈ zTw := zTw_mem (List.mem_of_getElem? (i := 1214) (by decide +kernel)) rfl
theorem zwd1276 : (Jvm.Cond.methodLink "InkFolds" (176 : Nat) ({ cls := "InkFolds$State", name := "lightOf", desc := "(II)I" } : Jvm.MethodName)) ∈ zTw := zTw_mem (List.mem_of_getElem? (i := 1276) (by decide +kernel)) rfl
set_option maxRecDepth 20000 in
theorem rX10_light_e {G : zG} {F : Int → zM → Prop} {J : Nat → zS → Prop} {μ : zM} {KX : zM → Prop} (hfl : (zl G).stackTraces = false) (C : zJX G mX10_light (zKI F) KX J) (x1 : Int) (x2 : Int)
    (h : qX10_isPatch G true x1 μ (fun v1 μ1 => zin v1 ∧ ((v1 = 0 → KX μ1) ∧ (¬ (v1 = 0) → qX10_isBand G true x2 μ1 (fun v4 μ4 => zin v4 ∧ ((¬ v4 = 0 → qX7_lightOf G 5 x1 x2 μ4 (fun v7 μ7 => F v7 μ7)) ∧ (v4 = 0 → KX μ4))))))) : J 0 ([some (zR (some 0)), some (zI x1), some (zI x2)], [], μ, 0, 0) := by
  obtain ⟨p, e, s, m, args, below, meth, c, A, hml, hr, hlk, hnm, rfl⟩ := C
  refine s_iload_n A dX10_light_0 rfl ?_
  refine s_callS (M := mX10_isPatch) (n := 1) (d := 2) (mc := 0) (ms := 0) (av := [zI x1]) (st := []) A dX10_light_1 zwd1214 zwd595 zwd89 zcd_X10_isPatch (Nat.le_of_ble_eq_true rfl) (Nat.le_of_ble_eq_true rfl) (Nat.le_refl _) ⟨Nat.le_of_ble_eq_true rfl, Nat.le_of_ble_eq_true rfl⟩ zhn_X10_isPatch rfl (Nat.le_of_ble_eq_true rfl) rfl (z_contI (fun v1 μ1 h => ?_) h)
  obtain ⟨oz2, h⟩ := h
  refine z_if_eq (tgt := 14) A dX10_light_4 (by decide) oz2 (fun c3 => ?_) (fun c3 => ?_)
  · have h := h.1 c3
    exact zx_throw hfl A hnm hlk dX10_light_14 dX10_light_17 dX10_light_18 dX10_light_21 h
  · have h := h.2 c3
    refine s_iload_n A dX10_light_7 rfl ?_
    refine s_callS (M := mX10_isBand) (n := 1) (d := 2) (mc := 0) (ms := 0) (av := [zI x2]) (st := []) A dX10_light_8 zwd1048 zwd1049 zwd89 zcd_X10_isBand (Nat.le_of_ble_eq_true rfl) (Nat.le_of_ble_eq_true rfl) (Nat.le_refl _) ⟨Nat.le_of_ble_eq_true rfl, Nat.le_of_ble_eq_true rfl⟩ zhn_X10_isBand rfl (Nat.le_of_ble_eq_true rfl) rfl (z_contI (fun v4 μ4 h => ?_) h)
    obtain ⟨oz5, h⟩ := h
    refine z_if_ne (tgt := 22) A dX10_light_11 (by decide) oz5 (fun c6 => ?_) (fun c6 => ?_)
    · have h := h.1 c6
      refine s_aload_n A dX10_light_22 rfl ?_
      refine s_getf (k := 10) (j := 2) (sl := true) (v := zR (some 5)) A dX10_light_23 rfl zuw_X10 (Nat.le_of_ble_eq_true rfl) zwd340 (by decide) (zk_0 _) rfl ?_
      refine s_iload_n A dX10_light_26 rfl ?_
      refine s_iload_n A dX10_light_27 rfl ?_
      refine s_callV (a := 5) (k := 7) (N := 9) (sl := true) (M := mX7_lightOf) (n := 2) (d := 9) (mc := 0) (ms := 0) (av := [zI x1, zI x2]) (st := []) A dX10_light_28 rfl (by decide) (zk_5 _) zwd1276 zwd822 zwd823 zwd92 zcd_X7_lightOf (Nat.le_of_ble_eq_true rfl) (Nat.le_of_ble_eq_true rfl) (Nat.le_refl _) ⟨Nat.le_of_ble_eq_true rfl, Nat.le_of_ble_eq_true rfl⟩ ⟨rfl, zhn_X7_lightOf⟩ rfl (Nat.le_of_ble_eq_true rfl) rfl (z_contI (fun v7 μ7 h => ?_) h)
      exact zx_iret A dX10_light_31 hr hlk (Nat.le_of_ble_eq_true rfl) (Nat.le_of_ble_eq_true rfl) ⟨_, rfl, h⟩
    · have h := h.2 c6
      exact zx_throw hfl A hnm hlk dX10_light_14 dX10_light_17 dX10_light_18 dX10_light_21 h
/-- what it comes to -/
theorem eX10_lightX {G : zG} {F : Int → zM → Prop} {KX : zM → Prop} {μ : zM} {x1 : Int} {x2 : Int} (h : ∀ J, zJX G mX10_light (zKI F) KX J → J 0 ([some (zR (some 0)), some (zI x1), some (zI x2)], [], μ, 0, 0)) : zRunX G mX10_light [zR (some 0), zI x1, zI x2] μ (zKI F) KX :=
  zx_body (by decide +kernel) (Nat.le_of_ble_eq_true rfl) h
set_option maxRecDepth 20000 in
theorem rX10_bent_e {G : zG} {F : Int → zM → Prop} {J : Nat → zS → Prop} {μ : zM} {KX : zM → Prop} (hfl : (zl G).stackTraces = false) (C : zJX G mX10_bent (zKI F) KX J) (x1 : Int) (x2 : Int)
    (h : qX10_isInk G true x1 μ (fun v1 μ1 => zin v1 ∧ ((v1 = 0 → KX μ1) ∧ (¬ (v1 = 0) → qX10_isIn G true x2 0 8 μ1 (fun v4 μ4 => zin v4 ∧ ((¬ v4 = 0 → (0 ≤ (x1 * 9) + x2 ∧ (x1 * 9) + x2 < 36) ∧ F (zi μ4 9 ((x1 * 9) + x2)) μ4) ∧ (v4 = 0 → KX μ4))))))) : J 0 ([some (zR (some 0)), some (zI x1), some (zI x2)], [], μ, 0, 0) := by
  obtain ⟨p, e, s, m, args, below, meth, c, A, hml, hr, hlk, hnm, rfl⟩ := C
  refine s_iload_n A dX10_bent_0 rfl ?_
  refine s_callS (M := mX10_isInk) (n := 1) (d := 2) (mc := 0) (ms := 0) (av := [zI x1]) (st := []) A dX10_bent_1 zwd629 zwd630 zwd89 zcd_X10_isInk (Nat.le_of_ble_eq_true rfl) (Nat.le_of_ble_eq_true rfl) (Nat.le_refl _) ⟨Nat.le_of_ble_eq_true rfl, Nat.le_of_ble_eq_true rfl⟩ zhn_X10_isInk rfl (Nat.le_of_ble_eq_true rfl) rfl (z_contI (fun v1 μ1 h => ?_) h)
  obtain ⟨oz2, h⟩ := h
  refine z_if_eq (tgt := 17) A dX10_bent_4 (by decide) oz2 (fun c3 => ?_) (fun c3 => ?_)
  · have h := h.1 c3
    exact zx_throw hfl A hnm hlk dX10_bent_17 dX10_bent_20 dX10_bent_21 dX10_bent_24 h
  · have h := h.2 c3
    refine s_iload_n A dX10_bent_7 rfl ?_
    refine s_iconst A dX10_bent_8 ?_
    refine s_bipush A dX10_bent_9 rfl ?_
    refine s_callS (M := mX10_isIn) (n := 3) (d := 0) (mc := 0) (ms := 0) (av := [zI x2, zI 0, zI 8]) (st := []) A dX10_bent_11 zwd597 zwd598 zwd89 zcd_X10_isIn (Nat.le_of_ble_eq_true rfl) (Nat.le_of_ble_eq_true rfl) (Nat.le_refl _) ⟨Nat.le_of_ble_eq_true rfl, Nat.le_of_ble_eq_true rfl⟩ zhn_X10_isIn rfl (Nat.le_of_ble_eq_true rfl) rfl (z_contI (fun v4 μ4 h => ?_) h)
    obtain ⟨oz5, h⟩ := h
    refine z_if_ne (tgt := 25) A dX10_bent_14 (by decide) oz5 (fun c6 => ?_) (fun c6 => ?_)
    · have h := h.1 c6
      refine s_aload_n A dX10_bent_25 rfl ?_
      refine s_getf (k := 10) (j := 2) (sl := true) (v := zR (some 5)) A dX10_bent_26 rfl zuw_X10 (Nat.le_of_ble_eq_true rfl) zwd340 (by decide) (zk_0 _) rfl ?_
      refine s_getf (k := 7) (j := 3) (sl := true) (v := zR (some 9)) A dX10_bent_29 rfl zuw_X7 (Nat.le_of_ble_eq_true rfl) zwd192 (by decide) (zk_5 _) rfl ?_
      refine s_iload_n A dX10_bent_32 rfl ?_
      refine s_bipush A dX10_bent_33 rfl ?_
      refine s_imul A dX10_bent_35 ?_
      refine s_iload_n A dX10_bent_36 rfl ?_
      refine s_iadd A dX10_bent_37 ?_
      obtain ⟨ox7, h⟩ := h
      refine z_iald A dX10_bent_38 (zk_9 _) (Nat.le_of_ble_eq_true rfl) ox7 ?_
      exact zx_iret A dX10_bent_39 hr hlk (Nat.le_of_ble_eq_true rfl) (Nat.le_of_ble_eq_true rfl) ⟨_, rfl, h⟩
    · have h := h.2 c6
      exact zx_throw hfl A hnm hlk dX10_bent_17 dX10_bent_20 dX10_bent_21 dX10_bent_24 h
/-- what it comes to -/
theorem eX10_bentX {G : zG} {F : Int → zM → Prop} {KX : zM → Prop} {μ : zM} {x1 : Int} {x2 : Int} (h : ∀ J, zJX G mX10_bent (zKI F) KX J → J 0 ([some (zR (some 0)), some (zI x1), some (zI x2)], [], μ, 0, 0)) : zRunX G mX10_bent [zR (some 0), zI x1, zI x2] μ (zKI F) KX :=
  zx_body (by decide +kernel) (Nat.le_of_ble_eq_true rfl) h
set_option maxRecDepth 20000 in
theorem rX10_row_e {G : zG} {F : Int → zM → Prop} {J : Nat → zS → Prop} {μ : zM} {KX : zM → Prop} (hfl : (zl G).stackTraces = false) (C : zJX G mX10_row (zKL F) KX J) (x1 : Int)
    (h : zin x1 ∧ ((x1 < 0 → KX μ) ∧ (¬ (x1 < 0) → zin (zi μ 3 1) ∧ ((x1 < zi μ 3 1 → (0 ≤ x1 ∧ x1 < 9) ∧ F (zi μ 4 x1) μ) ∧ (¬ (x1 < zi μ 3 1) → KX μ))))) : J 0 ([some (zR (some 0)), some (zI x1)], [], μ, 0, 0) := by
  obtain ⟨p, e, s, m, args, below, meth, c, A, hml, hr, hlk, hnm, rfl⟩ := C
  refine s_iload_n A dX10_row_0 rfl ?_
  obtain ⟨oz1, h⟩ := h
  refine z_if_lt (tgt := 15) A dX10_row_1 (by decide) oz1 (fun c2 => ?_) (fun c2 => ?_)
  · have h := h.1 c2
    exact zx_throw hfl A hnm hlk dX10_row_15 dX10_row_18 dX10_row_19 dX10_row_22 h
  · have h := h.2 c2
    refine s_iload_n A dX10_row_4 rfl ?_
    refine s_aload_n A dX10_row_5 rfl ?_
    refine s_getf (k := 10) (j := 1) (sl := true) (v := zR (some 3)) A dX10_row_6 rfl zuw_X10 (Nat.le_of_ble_eq_true rfl) zwd339 (by decide) (zk_0 _) rfl ?_
    refine s_getf (k := 6) (j := 1) (sl := true) (v := zI (zi μ 3 1)) A dX10_row_9 rfl zuw_X6 (Nat.le_of_ble_eq_true rfl) zwd147 (by decide) (zk_3 _) rfl ?_
    obtain ⟨oz3, h⟩ := h
    refine z_icmp_lt (tgt := 23) A dX10_row_12 (by decide) oz1 oz3 (fun c4 => ?_) (fun c4 => ?_)
    · have h := h.1 c4
      refine s_aload_n A dX10_row_23 rfl ?_
      refine s_getf (k := 10) (j := 1) (sl := true) (v := zR (some 3)) A dX10_row_24 rfl zuw_X10 (Nat.le_of_ble_eq_true rfl) zwd339 (by decide) (zk_0 _) rfl ?_
      refine s_getf (k := 6) (j := 0) (sl := true) (v := zR (some 4)) A dX10_row_27 rfl zuw_X6 (Nat.le_of_ble_eq_true rfl) zwd145 (by decide) (zk_3 _) rfl ?_
      refine s_iload_n A dX10_row_30 rfl ?_
      obtain ⟨ox5, h⟩ := h
      refine z_lald A dX10_row_31 (zk_4 _) (Nat.le_of_ble_eq_true rfl) ox5 ?_
      exact zx_lret A dX10_row_32 hr hlk (Nat.le_of_ble_eq_true rfl) (Nat.le_of_ble_eq_true rfl) ⟨_, rfl, h⟩
    · have h := h.2 c4
      exact zx_throw hfl A hnm hlk dX10_row_15 dX10_row_18 dX10_row_19 dX10_row_22 h
/-- what it comes to -/
theorem eX10_rowX {G : zG} {F : Int → zM → Prop} {KX : zM → Prop} {μ : zM} {x1 : Int} (h : ∀ J, zJX G mX10_row (zKL F) KX J → J 0 ([some (zR (some 0)), some (zI x1)], [], μ, 0, 0)) : zRunX G mX10_row [zR (some 0), zI x1] μ (zKL F) KX :=
  zx_body (by decide +kernel) (Nat.le_of_ble_eq_true rfl) h
