set_option maxRecDepth 20000 in
theorem rX11_straighten_e {G : zG} {F : zM → Prop} {J : Nat → zS → Prop} {μ : zM} (C : zJ G true (0) 0 0 mX11_straighten (zKV F) J) (x1 : Int)
    (h : J 2 ([some (zR (some 153)), some (zI x1), some (zI 0)], [], μ, 0, 0)) : J 0 ([some (zR (some 153)), some (zI x1), none], [], μ, 0, 0) := by
  obtain ⟨p, e, s, m, args, below, meth, c, A, hml, hr, hlk, hnm, rfl⟩ := C
  refine s_iconst A dX11_straighten_0 ?_
  refine s_istore_n (L' := [some (zR (some 153)), some (zI x1), some (zI 0)]) A dX11_straighten_1 (Nat.le_of_ble_eq_true rfl) rfl ?_
  exact h
set_option maxRecDepth 20000 in
theorem rX11_straighten_2 {G : zG} {F : zM → Prop} {J : Nat → zS → Prop} {μ : zM} (C : zJ G true (0) 0 0 mX11_straighten (zKV F) J) (x1 : Int) (x2 : Int)
    (h : zin x2 ∧ ((9 ≤ x2 → F μ) ∧ (¬ (9 ≤ x2) → (0 ≤ (324 + (9 * x1)) + x2 ∧ (324 + (9 * x1)) + x2 < 711) ∧ J 2 ([some (zR (some 153)), some (zI x1), some (zI (x2 + 1))], [], zup μ 154 ((324 + (9 * x1)) + x2) x2, 0, 0)))) : J 2 ([some (zR (some 153)), some (zI x1), some (zI x2)], [], μ, 0, 0) := by
  obtain ⟨p, e, s, m, args, below, meth, c, A, hml, hr, hlk, hnm, rfl⟩ := C
  refine s_iload_n A dX11_straighten_2 rfl ?_
  refine s_bipush A dX11_straighten_3 rfl ?_
  obtain ⟨oz1, h⟩ := h
  refine z_icmp_ge (tgt := 30) A dX11_straighten_5 (by decide) oz1 ⟨by decide, by decide⟩ (fun c2 => ?_) (fun c2 => ?_)
  · have h := h.1 c2
    exact s_vret A dX11_straighten_30 hr hlk (Nat.le_of_ble_eq_true rfl) (Nat.le_of_ble_eq_true rfl) ⟨rfl, h⟩
  · have h := h.2 c2
    refine s_aload_n A dX11_straighten_8 rfl ?_
    refine s_getf (k := 11) (j := 0) (sl := true) (v := zR (some 154)) A dX11_straighten_9 rfl zuw_X11 (Nat.le_of_ble_eq_true rfl) zwd1308 (by decide) (zk_153 _) rfl ?_
    refine s_sipush A dX11_straighten_12 rfl ?_
    refine s_bipush A dX11_straighten_15 rfl ?_
    refine s_iload_n A dX11_straighten_17 rfl ?_
    refine s_imul A dX11_straighten_18 ?_
    refine s_iadd A dX11_straighten_19 ?_
    refine s_iload_n A dX11_straighten_20 rfl ?_
    refine s_iadd A dX11_straighten_21 ?_
    refine s_iload_n A dX11_straighten_22 rfl ?_
    obtain ⟨ox3, h⟩ := h
    refine z_iast A dX11_straighten_23 (zk_154 _) (Nat.le_of_ble_eq_true rfl) ox3 ?_
    refine s_iinc (L' := [some (zR (some 153)), some (zI x1), some (zI (x2 + 1))]) A dX11_straighten_24 rfl rfl ?_
    refine s_goto (tgt := 2) A dX11_straighten_27 (by decide) ?_
    exact h
theorem eX11_straighten {G : zG} {F : zM → Prop} {μ : zM} {x1 : Int} (h : ∀ J, zJ G true (0) 0 0 mX11_straighten (zKV F) J → J 0 ([some (zR (some 153)), some (zI x1), none], [], μ, 0, 0)) : qX11_straighten G x1 μ F :=
  z_body (by decide +kernel) (Nat.le_of_ble_eq_true rfl) h
set_option maxRecDepth 20000 in
theorem rX11_straighten_w_e {G : zG} {F : zM → Prop} {J : Nat → zS → Prop} {μ : zM} (C : zJ G false (0) 0 0 mX11_straighten (zKV F) J) (x1 : Int)
    (h : J 2 ([some (zR (some 153)), some (zI x1), some (zI 0)], [], μ, 0, 0)) : J 0 ([some (zR (some 153)), some (zI x1), none], [], μ, 0, 0) := by
  obtain ⟨p, e, s, m, args, below, meth, c, A, hml, hr, hlk, hnm, rfl⟩ := C
  refine s_iconst A dX11_straighten_0 ?_
  refine s_istore_n (L' := [some (zR (some 153)), some (zI x1), some (zI 0)]) A dX11_straighten_1 (Nat.le_of_ble_eq_true rfl) rfl ?_
  exact h
set_option maxRecDepth 20000 in
theorem rX11_straighten_w_2 {G : zG} {F : zM → Prop} {J : Nat → zS → Prop} {μ : zM} (C : zJ G false (0) 0 0 mX11_straighten (zKV F) J) (x1 : Int) (x2 : Int)
    (h : zin x2 ∧ ((9 ≤ x2 → F μ) ∧ (¬ (9 ≤ x2) → zok false μ 153 (11, 45) ∧ ∃ b4, zr μ 153 0 = some b4 ∧ zok false μ b4 (40, 711) ∧ (0 ≤ (324 + (9 * x1)) + x2 ∧ (324 + (9 * x1)) + x2 < 711) ∧ J 2 ([some (zR (some 153)), some (zI x1), some (zI (x2 + 1))], [], zup μ b4 ((324 + (9 * x1)) + x2) x2, 0, 0)))) : J 2 ([some (zR (some 153)), some (zI x1), some (zI x2)], [], μ, 0, 0) := by
  obtain ⟨p, e, s, m, args, below, meth, c, A, hml, hr, hlk, hnm, rfl⟩ := C
  refine s_iload_n A dX11_straighten_2 rfl ?_
  refine s_bipush A dX11_straighten_3 rfl ?_
  obtain ⟨oz1, h⟩ := h
  refine z_icmp_ge (tgt := 30) A dX11_straighten_5 (by decide) oz1 ⟨by decide, by decide⟩ (fun c2 => ?_) (fun c2 => ?_)
  · have h := h.1 c2
    exact s_vret A dX11_straighten_30 hr hlk (Nat.le_of_ble_eq_true rfl) (Nat.le_of_ble_eq_true rfl) ⟨rfl, h⟩
  · have h := h.2 c2
    refine s_aload_n A dX11_straighten_8 rfl ?_
    obtain ⟨o3, h⟩ := h
    refine s_getf (k := 11) (j := 0) (sl := false) (v := zR (zr μ 153 0)) A dX11_straighten_9 rfl zuw_X11 (Nat.le_of_ble_eq_true rfl) zwd1308 (by decide) o3 rfl ?_
    refine s_sipush A dX11_straighten_12 rfl ?_
    refine s_bipush A dX11_straighten_15 rfl ?_
    refine s_iload_n A dX11_straighten_17 rfl ?_
    refine s_imul A dX11_straighten_18 ?_
    refine s_iadd A dX11_straighten_19 ?_
    refine s_iload_n A dX11_straighten_20 rfl ?_
    refine s_iadd A dX11_straighten_21 ?_
    refine s_iload_n A dX11_straighten_22 rfl ?_
    obtain ⟨b4, c4, h⟩ := h
    refine z_eqS (st' := [zI x2, zI ((324 + (9 * x1)) + x2), zR (some b4)]) (by rw [c4] <;> rfl) ?_
    obtain ⟨o5, h⟩ := h
    obtain ⟨ox6, h⟩ := h
    refine z_iast A dX11_straighten_23 o5 (Nat.le_of_ble_eq_true rfl) ox6 ?_
    refine s_iinc (L' := [some (zR (some 153)), some (zI x1), some (zI (x2 + 1))]) A dX11_straighten_24 rfl rfl ?_
    refine s_goto (tgt := 2) A dX11_straighten_27 (by decide) ?_
    exact h
theorem eX11_straighten_w {G : zG} {F : zM → Prop} {μ : zM} {x1 : Int} (h : ∀ J, zJ G false (0) 0 0 mX11_straighten (zKV F) J → J 0 ([some (zR (some 153)), some (zI x1), none], [], μ, 0, 0)) : qX11_straighten_w G x1 μ F :=
  z_body (by decide +kernel) (Nat.le_of_ble_eq_true rfl) h
set_option maxRecDepth 20000 in
theorem rX11_codeOf_e {G : zG} {ph : Bool} {F : Int → zM → Prop} {J : Nat → zS → Prop} {μ : zM} (C : zJ G ph (0) 0 0 mX11_codeOf (zKI F) J) (x0 : Int)
    (h : J 6 ([none, some (zI 0), some (zI x0), some (zI 3)], [], μ, 0, 0)) : J 0 ([some (zI x0), none, none, none], [], μ, 0, 0) := by
  obtain ⟨p, e, s, m, args, below, meth, c, A, hml, hr, hlk, hnm, rfl⟩ := C
  refine s_iconst A dX11_codeOf_0 ?_
  refine s_istore_n (L' := [some (zI x0), some (zI 0), none, none]) A dX11_codeOf_1 (Nat.le_of_ble_eq_true rfl) rfl ?_
  refine s_iload_n A dX11_codeOf_2 rfl ?_
  refine s_istore_n (L' := [some (zI x0), some (zI 0), some (zI x0), none]) A dX11_codeOf_3 (Nat.le_of_ble_eq_true rfl) rfl ?_
  refine s_iconst A dX11_codeOf_4 ?_
  refine s_istore_n (L' := [some (zI x0), some (zI 0), some (zI x0), some (zI 3)]) A dX11_codeOf_5 (Nat.le_of_ble_eq_true rfl) rfl ?_
  exact z_wk (L' := [none, some (zI 0), some (zI x0), some (zI 3)]) ⟨rfl, rfl, rfl, trivial⟩ h
set_option maxRecDepth 20000 in
theorem rX11_codeOf_6 {G : zG} {ph : Bool} {F : Int → zM → Prop} {J : Nat → zS → Prop} {μ : zM} (C : zJ G ph (0) 0 0 mX11_codeOf (zKI F) J) (x1 : Int) (x2 : Int) (x3 : Int)
    (h : zin x3 ∧ ((x3 < 0 → F x1 μ) ∧ (¬ (x3 < 0) → (0 ≤ x2 ∧ x2 < 2147483648) ∧ (0 ≤ x3 ∧ x3 < 4) ∧ (0 ≤ x2 ∧ x2 < 2147483648) ∧ J 6 ([none, some (zI (x1 + ((x2 % 9) * (zta 8 x3)))), some (zI (x2 / 9)), some (zI (x3 + (-1)))], [], μ, 0, 0)))) : J 6 ([none, some (zI x1), some (zI x2), some (zI x3)], [], μ, 0, 0) := by
  obtain ⟨p, e, s, m, args, below, meth, c, A, hml, hr, hlk, hnm, rfl⟩ := C
  refine s_iload_n A dX11_codeOf_6 rfl ?_
  obtain ⟨oz1, h⟩ := h
  refine z_if_lt (tgt := 34) A dX11_codeOf_7 (by decide) oz1 (fun c2 => ?_) (fun c2 => ?_)
  · have h := h.1 c2
    refine s_iload_n A dX11_codeOf_34 rfl ?_
    exact s_iret A dX11_codeOf_35 hr hlk (Nat.le_of_ble_eq_true rfl) (Nat.le_of_ble_eq_true rfl) ⟨_, rfl, h⟩
  · have h := h.2 c2
    refine s_iload_n A dX11_codeOf_10 rfl ?_
    refine s_iload_n A dX11_codeOf_11 rfl ?_
    refine s_bipush A dX11_codeOf_12 rfl ?_
    obtain ⟨o1, h⟩ := h
    refine z_irem A dX11_codeOf_14 o1 ⟨by decide, by decide⟩ ?_
    refine s_getsT (t := 8) A dX11_codeOf_15 (by decide) zwd1306 ?_
    refine s_iload_n A dX11_codeOf_18 rfl ?_
    obtain ⟨ox3, h⟩ := h
    refine z_tald A dX11_codeOf_19 (by decide) (Nat.le_of_ble_eq_true rfl) ox3 ?_
    refine s_imul A dX11_codeOf_20 ?_
    refine s_iadd A dX11_codeOf_21 ?_
    refine s_istore_n (L' := [none, some (zI (x1 + ((x2 % 9) * (zta 8 x3)))), some (zI x2), some (zI x3)]) A dX11_codeOf_22 (Nat.le_of_ble_eq_true rfl) rfl ?_
    refine s_iload_n A dX11_codeOf_23 rfl ?_
    refine s_bipush A dX11_codeOf_24 rfl ?_
    obtain ⟨o1, h⟩ := h
    refine z_idiv A dX11_codeOf_26 o1 ⟨by decide, by decide⟩ ?_
    refine s_istore_n (L' := [none, some (zI (x1 + ((x2 % 9) * (zta 8 x3)))), some (zI (x2 / 9)), some (zI x3)]) A dX11_codeOf_27 (Nat.le_of_ble_eq_true rfl) rfl ?_
    refine s_iinc (L' := [none, some (zI (x1 + ((x2 % 9) * (zta 8 x3)))), some (zI (x2 / 9)), some (zI (x3 + (-1)))]) A dX11_codeOf_28 rfl rfl ?_
    refine s_goto (tgt := 6) A dX11_codeOf_31 (by decide) ?_
    exact h
theorem eX11_codeOf {G : zG} {ph : Bool} {F : Int → zM → Prop} {μ : zM} {x0 : Int} (h : ∀ J, zJ G ph (0) 0 0 mX11_codeOf (zKI F) J → J 0 ([some (zI x0), none, none, none], [], μ, 0, 0)) : qX11_codeOf G ph x0 μ F :=
  z_body (by decide +kernel) (Nat.le_of_ble_eq_true rfl) h
set_option maxRecDepth 20000 in
theorem rX11_init_e {G : zG} {F : zM → Prop} {J : Nat → zS → Prop} {μ : zM} (C : zJ G false (2) 27 97373 mX11_init (zKV F) J) 
    (h : zs false (znew μ (40, 711)) (zn μ) = (40, 711) ∧ ∀ b1 μ1, b1 = zn μ → μ1 = znew μ (40, 711) → zok false μ1 153 (11, 45) ∧ zs false (znew (zupr μ1 153 0 (some b1)) (43, 80)) (zn (zupr μ1 153 0 (some b1))) = (43, 80) ∧ ∀ b3 μ3, b3 = zn (zupr μ1 153 0 (some b1)) → μ3 = znew (zupr μ1 153 0 (some b1)) (43, 80) → zok false μ3 153 (11, 45) ∧ zs false (znew (zupr μ3 153 1 (some b3)) (41, 16)) (zn (zupr μ3 153 1 (some b3))) = (41, 16) ∧ ∀ b5 μ5, b5 = zn (zupr μ3 153 1 (some b3)) → μ5 = znew (zupr μ3 153 1 (some b3)) (41, 16) → zok false μ5 153 (11, 45) ∧ zs false (znew (zupr μ5 153 3 (some b5)) (40, 320)) (zn (zupr μ5 153 3 (some b5))) = (40, 320) ∧ ∀ b7 μ7, b7 = zn (zupr μ5 153 3 (some b5)) → μ7 = znew (zupr μ5 153 3 (some b5)) (40, 320) → zok false μ7 153 (11, 45) ∧ zs false (znew (zupr μ7 153 10 (some b7)) (40, 243)) (zn (zupr μ7 153 10 (some b7))) = (40, 243) ∧ ∀ b9 μ9, b9 = zn (zupr μ7 153 10 (some b7)) → μ9 = znew (zupr μ7 153 10 (some b7)) (40, 243) → zok false μ9 153 (11, 45) ∧ zs false (znew (zupr μ9 153 12 (some b9)) (40, 19683)) (zn (zupr μ9 153 12 (some b9))) = (40, 19683) ∧ ∀ b11 μ11, b11 = zn (zupr μ9 153 12 (some b9)) → μ11 = znew (zupr μ9 153 12 (some b9)) (40, 19683) → zok false μ11 153 (11, 45) ∧ zs false (znew (zupr μ11 153 13 (some b11)) (40, 5)) (zn (zupr μ11 153 13 (some b11))) = (40, 5) ∧ ∀ b13 μ13, b13 = zn (zupr μ11 153 13 (some b11)) → μ13 = znew (zupr μ11 153 13 (some b11)) (40, 5) → zok false μ13 153 (11, 45) ∧ zs false (znew (zupr μ13 153 14 (some b13)) (40, 5)) (zn (zupr μ13 153 14 (some b13))) = (40, 5) ∧ ∀ b15 μ15, b15 = zn (zupr μ13 153 14 (some b13)) → μ15 = znew (zupr μ13 153 14 (some b13)) (40, 5) → zok false μ15 153 (11, 45) ∧ zs false (znew (zupr μ15 153 15 (some b15)) (40, 6561)) (zn (zupr μ15 153 15 (some b15))) = (40, 6561) ∧ ∀ b17 μ17, b17 = zn (zupr μ15 153 15 (some b15)) → μ17 = znew (zupr μ15 153 15 (some b15)) (40, 6561) → zok false μ17 153 (11, 45) ∧ zs false (znew (zupr μ17 153 16 (some b17)) (40, 6561)) (zn (zupr μ17 153 16 (some b17))) = (40, 6561) ∧ ∀ b19 μ19, b19 = zn (zupr μ17 153 16 (some b17)) → μ19 = znew (zupr μ17 153 16 (some b17)) (40, 6561) → zok false μ19 153 (11, 45) ∧ zs false (znew (zupr μ19 153 17 (some b19)) (40, 4)) (zn (zupr μ19 153 17 (some b19))) = (40, 4) ∧ ∀ b21 μ21, b21 = zn (zupr μ19 153 17 (some b19)) → μ21 = znew (zupr μ19 153 17 (some b19)) (40, 4) → zok false μ21 153 (11, 45) ∧ zs false (znew (zupr μ21 153 19 (some b21)) (40, 6561)) (zn (zupr μ21 153 19 (some b21))) = (40, 6561) ∧ ∀ b23 μ23, b23 = zn (zupr μ21 153 19 (some b21)) → μ23 = znew (zupr μ21 153 19 (some b21)) (40, 6561) → zok false μ23 153 (11, 45) ∧ zs false (znew (zupr μ23 153 24 (some b23)) (40, 3)) (zn (zupr μ23 153 24 (some b23))) = (40, 3) ∧ ∀ b25 μ25, b25 = zn (zupr μ23 153 24 (some b23)) → μ25 = znew (zupr μ23 153 24 (some b23)) (40, 3) → zok false μ25 153 (11, 45) ∧ zs false (znew (zupr μ25 153 25 (some b25)) (40, 6561)) (zn (zupr μ25 153 25 (some b25))) = (40, 6561) ∧ ∀ b27 μ27, b27 = zn (zupr μ25 153 25 (some b25)) → μ27 = znew (zupr μ25 153 25 (some b25)) (40, 6561) → zok false μ27 153 (11, 45) ∧ zs false (znew (zupr μ27 153 27 (some b27)) (40, 6561)) (zn (zupr μ27 153 27 (some b27))) = (40, 6561) ∧ ∀ b29 μ29, b29 = zn (zupr μ27 153 27 (some b27)) → μ29 = znew (zupr μ27 153 27 (some b27)) (40, 6561) → zok false μ29 153 (11, 45) ∧ zs false (znew (zupr μ29 153 28 (some b29)) (41, 6561)) (zn (zupr μ29 153 28 (some b29))) = (41, 6561) ∧ ∀ b31 μ31, b31 = zn (zupr μ29 153 28 (some b29)) → μ31 = znew (zupr μ29 153 28 (some b29)) (41, 6561) → zok false μ31 153 (11, 45) ∧ zs false (znew (zupr μ31 153 31 (some b31)) (41, 6561)) (zn (zupr μ31 153 31 (some b31))) = (41, 6561) ∧ ∀ b33 μ33, b33 = zn (zupr μ31 153 31 (some b31)) → μ33 = znew (zupr μ31 153 31 (some b31)) (41, 6561) → zok false μ33 153 (11, 45) ∧ zs false (znew (zupr μ33 153 32 (some b33)) (40, 64)) (zn (zupr μ33 153 32 (some b33))) = (40, 64) ∧ ∀ b35 μ35, b35 = zn (zupr μ33 153 32 (some b33)) → μ35 = znew (zupr μ33 153 32 (some b33)) (40, 64) → zok false μ35 153 (11, 45) ∧ zs false (znew (zupr μ35 153 33 (some b35)) (40, 192)) (zn (zupr μ35 153 33 (some b35))) = (40, 192) ∧ ∀ b37 μ37, b37 = zn (zupr μ35 153 33 (some b35)) → μ37 = znew (zupr μ35 153 33 (some b35)) (40, 192) → zok false μ37 153 (11, 45) ∧ zs false (znew (zupr μ37 153 34 (some b37)) (40, 81)) (zn (zupr μ37 153 34 (some b37))) = (40, 81) ∧ ∀ b39 μ39, b39 = zn (zupr μ37 153 34 (some b37)) → μ39 = znew (zupr μ37 153 34 (some b37)) (40, 81) → zok false μ39 153 (11, 45) ∧ zs false (znew (zupr μ39 153 35 (some b39)) (40, 19683)) (zn (zupr μ39 153 35 (some b39))) = (40, 19683) ∧ ∀ b41 μ41, b41 = zn (zupr μ39 153 35 (some b39)) → μ41 = znew (zupr μ39 153 35 (some b39)) (40, 19683) → zok false μ41 153 (11, 45) ∧ zs false (znew (zupr μ41 153 36 (some b41)) (40, 7110)) (zn (zupr μ41 153 36 (some b41))) = (40, 7110) ∧ ∀ b43 μ43, b43 = zn (zupr μ41 153 36 (some b41)) → μ43 = znew (zupr μ41 153 36 (some b41)) (40, 7110) → zok false μ43 153 (11, 45) ∧ zs false (znew (zupr μ43 153 38 (some b43)) (40, 711)) (zn (zupr μ43 153 38 (some b43))) = (40, 711) ∧ ∀ b45 μ45, b45 = zn (zupr μ43 153 38 (some b43)) → μ45 = znew (zupr μ43 153 38 (some b43)) (40, 711) → zok false μ45 153 (11, 45) ∧ zs false (znew (zupr μ45 153 40 (some b45)) (40, 711)) (zn (zupr μ45 153 40 (some b45))) = (40, 711) ∧ ∀ b47 μ47, b47 = zn (zupr μ45 153 40 (some b45)) → μ47 = znew (zupr μ45 153 40 (some b45)) (40, 711) → zok false μ47 153 (11, 45) ∧ zs false (znew (zupr μ47 153 41 (some b47)) (40, 400)) (zn (zupr μ47 153 41 (some b47))) = (40, 400) ∧ ∀ b49 μ49, b49 = zn (zupr μ47 153 41 (some b47)) → μ49 = znew (zupr μ47 153 41 (some b47)) (40, 400) → zok false μ49 153 (11, 45) ∧ zs false (znew (zupr μ49 153 42 (some b49)) (40, 1422)) (zn (zupr μ49 153 42 (some b49))) = (40, 1422) ∧ ∀ b51 μ51, b51 = zn (zupr μ49 153 42 (some b49)) → μ51 = znew (zupr μ49 153 42 (some b49)) (40, 1422) → zok false μ51 153 (11, 45) ∧ zs false (znew (zupr μ51 153 43 (some b51)) (42, 2)) (zn (zupr μ51 153 43 (some b51))) = (42, 2) ∧ ∀ b53 μ53, b53 = zn (zupr μ51 153 43 (some b51)) → μ53 = znew (zupr μ51 153 43 (some b51)) (42, 2) → zok false μ53 153 (11, 45) ∧ J 235 ([some (zR (some 153)), some (zI 0), none, none], [], zupr μ53 153 44 (some b53), 0 + 1 + 1 + 1 + 1 + 1 + 1 + 1 + 1 + 1 + 1 + 1 + 1 + 1 + 1 + 1 + 1 + 1 + 1 + 1 + 1 + 1 + 1 + 1 + 1 + 1 + 1 + 1, 0 + 711 + 80 + 16 + 320 + 243 + 19683 + 5 + 5 + 6561 + 6561 + 4 + 6561 + 3 + 6561 + 6561 + 6561 + 6561 + 64 + 192 + 81 + 19683 + 7110 + 711 + 711 + 400 + 1422 + 2)) : J 0 ([some (zR (some 153)), none, none, none], [], μ, 0, 0) := by
  obtain ⟨p, e, s, m, args, below, meth, c, A, hml, hr, hlk, hnm, rfl⟩ := C
  refine s_aload_n A dX11_init_0 rfl ?_
  refine z_objInit A dX11_init_1 zwd1296 zwd119 zwd120 (Nat.le_of_ble_eq_true rfl) (by decide) (Nat.le_of_ble_eq_true rfl) ?_
  refine s_aload_n A dX11_init_4 rfl ?_
  refine s_sipush A dX11_init_5 rfl ?_
  obtain ⟨o1, h⟩ := h
  refine z_newa_int (n := 711) A dX11_init_8 rfl (by decide) zwd137 o1 (Nat.le_of_ble_eq_true rfl) (Nat.le_of_ble_eq_true rfl) (fun b1 μ1 eb1 em1 => ?_)
  have h := h b1 μ1 eb1 em1
  obtain ⟨o2, h⟩ := h
  refine z_putFR (k := 11) (j := 0) (sl := false) A dX11_init_10 rfl zuw_X11 (Nat.le_of_ble_eq_true rfl) zwd1308 (by decide) o2 tyX11 tyX11_ok nmX11 rfl (Or.inl rfl) rfl (Or.inr ⟨_, rfl⟩) rfl hnm rfl ?_
  refine s_aload_n A dX11_init_13 rfl ?_
  refine s_bipush A dX11_init_14 rfl ?_
  obtain ⟨o3, h⟩ := h
  refine z_newa_byte (n := 80) A dX11_init_16 rfl (by decide) zwd620 o3 (Nat.le_of_ble_eq_true rfl) (Nat.le_of_ble_eq_true rfl) (fun b3 μ3 eb3 em3 => ?_)
  have h := h b3 μ3 eb3 em3
  obtain ⟨o4, h⟩ := h
  refine z_putFR (k := 11) (j := 1) (sl := false) A dX11_init_18 rfl zuw_X11 (Nat.le_of_ble_eq_true rfl) zwd1309 (by decide) o4 tyX11 tyX11_ok nmX11 rfl (Or.inl rfl) rfl (Or.inr ⟨_, rfl⟩) rfl hnm rfl ?_
  refine s_aload_n A dX11_init_21 rfl ?_
  refine s_bipush A dX11_init_22 rfl ?_
  obtain ⟨o5, h⟩ := h
  refine z_newa_long (n := 16) A dX11_init_24 rfl (by decide) zwd153 o5 (Nat.le_of_ble_eq_true rfl) (Nat.le_of_ble_eq_true rfl) (fun b5 μ5 eb5 em5 => ?_)
  have h := h b5 μ5 eb5 em5
  obtain ⟨o6, h⟩ := h
  refine z_putFR (k := 11) (j := 3) (sl := false) A dX11_init_26 rfl zuw_X11 (Nat.le_of_ble_eq_true rfl) zwd1311 (by decide) o6 tyX11 tyX11_ok nmX11 rfl (Or.inl rfl) rfl (Or.inr ⟨_, rfl⟩) rfl hnm rfl ?_
  refine s_aload_n A dX11_init_29 rfl ?_
  refine s_sipush A dX11_init_30 rfl ?_
  obtain ⟨o7, h⟩ := h
  refine z_newa_int (n := 320) A dX11_init_33 rfl (by decide) zwd137 o7 (Nat.le_of_ble_eq_true rfl) (Nat.le_of_ble_eq_true rfl) (fun b7 μ7 eb7 em7 => ?_)
  have h := h b7 μ7 eb7 em7
  obtain ⟨o8, h⟩ := h
  refine z_putFR (k := 11) (j := 10) (sl := false) A dX11_init_35 rfl zuw_X11 (Nat.le_of_ble_eq_true rfl) zwd1318 (by decide) o8 tyX11 tyX11_ok nmX11 rfl (Or.inl rfl) rfl (Or.inr ⟨_, rfl⟩) rfl hnm rfl ?_
  refine s_aload_n A dX11_init_38 rfl ?_
  refine s_sipush A dX11_init_39 rfl ?_
  obtain ⟨o9, h⟩ := h
  refine z_newa_int (n := 243) A dX11_init_42 rfl (by decide) zwd137 o9 (Nat.le_of_ble_eq_true rfl) (Nat.le_of_ble_eq_true rfl) (fun b9 μ9 eb9 em9 => ?_)
  have h := h b9 μ9 eb9 em9
  obtain ⟨o10, h⟩ := h
  refine z_putFR (k := 11) (j := 12) (sl := false) A dX11_init_44 rfl zuw_X11 (Nat.le_of_ble_eq_true rfl) zwd1320 (by decide) o10 tyX11 tyX11_ok nmX11 rfl (Or.inl rfl) rfl (Or.inr ⟨_, rfl⟩) rfl hnm rfl ?_
  refine s_aload_n A dX11_init_47 rfl ?_
  refine s_sipush A dX11_init_48 rfl ?_
  obtain ⟨o11, h⟩ := h
  refine z_newa_int (n := 19683) A dX11_init_51 rfl (by decide) zwd137 o11 (Nat.le_of_ble_eq_true rfl) (Nat.le_of_ble_eq_true rfl) (fun b11 μ11 eb11 em11 => ?_)
  have h := h b11 μ11 eb11 em11
  obtain ⟨o12, h⟩ := h
  refine z_putFR (k := 11) (j := 13) (sl := false) A dX11_init_53 rfl zuw_X11 (Nat.le_of_ble_eq_true rfl) zwd1321 (by decide) o12 tyX11 tyX11_ok nmX11 rfl (Or.inl rfl) rfl (Or.inr ⟨_, rfl⟩) rfl hnm rfl ?_
  refine s_aload_n A dX11_init_56 rfl ?_
  refine s_iconst A dX11_init_57 ?_
  obtain ⟨o13, h⟩ := h
  refine z_newa_int (n := 5) A dX11_init_58 rfl (by decide) zwd137 o13 (Nat.le_of_ble_eq_true rfl) (Nat.le_of_ble_eq_true rfl) (fun b13 μ13 eb13 em13 => ?_)
  have h := h b13 μ13 eb13 em13
  obtain ⟨o14, h⟩ := h
  refine z_putFR (k := 11) (j := 14) (sl := false) A dX11_init_60 rfl zuw_X11 (Nat.le_of_ble_eq_true rfl) zwd1322 (by decide) o14 tyX11 tyX11_ok nmX11 rfl (Or.inl rfl) rfl (Or.inr ⟨_, rfl⟩) rfl hnm rfl ?_
  refine s_aload_n A dX11_init_63 rfl ?_
  refine s_iconst A dX11_init_64 ?_
  obtain ⟨o15, h⟩ := h
  refine z_newa_int (n := 5) A dX11_init_65 rfl (by decide) zwd137 o15 (Nat.le_of_ble_eq_true rfl) (Nat.le_of_ble_eq_true rfl) (fun b15 μ15 eb15 em15 => ?_)
  have h := h b15 μ15 eb15 em15
  obtain ⟨o16, h⟩ := h
  refine z_putFR (k := 11) (j := 15) (sl := false) A dX11_init_67 rfl zuw_X11 (Nat.le_of_ble_eq_true rfl) zwd1323 (by decide) o16 tyX11 tyX11_ok nmX11 rfl (Or.inl rfl) rfl (Or.inr ⟨_, rfl⟩) rfl hnm rfl ?_
  refine s_aload_n A dX11_init_70 rfl ?_
  refine s_sipush A dX11_init_71 rfl ?_
  obtain ⟨o17, h⟩ := h
  refine z_newa_int (n := 6561) A dX11_init_74 rfl (by decide) zwd137 o17 (Nat.le_of_ble_eq_true rfl) (Nat.le_of_ble_eq_true rfl) (fun b17 μ17 eb17 em17 => ?_)
  have h := h b17 μ17 eb17 em17
  obtain ⟨o18, h⟩ := h
  refine z_putFR (k := 11) (j := 16) (sl := false) A dX11_init_76 rfl zuw_X11 (Nat.le_of_ble_eq_true rfl) zwd1324 (by decide) o18 tyX11 tyX11_ok nmX11 rfl (Or.inl rfl) rfl (Or.inr ⟨_, rfl⟩) rfl hnm rfl ?_
  refine s_aload_n A dX11_init_79 rfl ?_
  refine s_sipush A dX11_init_80 rfl ?_
  obtain ⟨o19, h⟩ := h
  refine z_newa_int (n := 6561) A dX11_init_83 rfl (by decide) zwd137 o19 (Nat.le_of_ble_eq_true rfl) (Nat.le_of_ble_eq_true rfl) (fun b19 μ19 eb19 em19 => ?_)
  have h := h b19 μ19 eb19 em19
  obtain ⟨o20, h⟩ := h
  refine z_putFR (k := 11) (j := 17) (sl := false) A dX11_init_85 rfl zuw_X11 (Nat.le_of_ble_eq_true rfl) zwd1325 (by decide) o20 tyX11 tyX11_ok nmX11 rfl (Or.inl rfl) rfl (Or.inr ⟨_, rfl⟩) rfl hnm rfl ?_
  refine s_aload_n A dX11_init_88 rfl ?_
  refine s_iconst A dX11_init_89 ?_
  obtain ⟨o21, h⟩ := h
  refine z_newa_int (n := 4) A dX11_init_90 rfl (by decide) zwd137 o21 (Nat.le_of_ble_eq_true rfl) (Nat.le_of_ble_eq_true rfl) (fun b21 μ21 eb21 em21 => ?_)
  have h := h b21 μ21 eb21 em21
  obtain ⟨o22, h⟩ := h
  refine z_putFR (k := 11) (j := 19) (sl := false) A dX11_init_92 rfl zuw_X11 (Nat.le_of_ble_eq_true rfl) zwd1327 (by decide) o22 tyX11 tyX11_ok nmX11 rfl (Or.inl rfl) rfl (Or.inr ⟨_, rfl⟩) rfl hnm rfl ?_
  refine s_aload_n A dX11_init_95 rfl ?_
  refine s_sipush A dX11_init_96 rfl ?_
  obtain ⟨o23, h⟩ := h
  refine z_newa_int (n := 6561) A dX11_init_99 rfl (by decide) zwd137 o23 (Nat.le_of_ble_eq_true rfl) (Nat.le_of_ble_eq_true rfl) (fun b23 μ23 eb23 em23 => ?_)
  have h := h b23 μ23 eb23 em23
  obtain ⟨o24, h⟩ := h
  refine z_putFR (k := 11) (j := 24) (sl := false) A dX11_init_101 rfl zuw_X11 (Nat.le_of_ble_eq_true rfl) zwd1332 (by decide) o24 tyX11 tyX11_ok nmX11 rfl (Or.inl rfl) rfl (Or.inr ⟨_, rfl⟩) rfl hnm rfl ?_
  refine s_aload_n A dX11_init_104 rfl ?_
  refine s_iconst A dX11_init_105 ?_
  obtain ⟨o25, h⟩ := h
  refine z_newa_int (n := 3) A dX11_init_106 rfl (by decide) zwd137 o25 (Nat.le_of_ble_eq_true rfl) (Nat.le_of_ble_eq_true rfl) (fun b25 μ25 eb25 em25 => ?_)
  have h := h b25 μ25 eb25 em25
  obtain ⟨o26, h⟩ := h
  refine z_putFR (k := 11) (j := 25) (sl := false) A dX11_init_108 rfl zuw_X11 (Nat.le_of_ble_eq_true rfl) zwd1333 (by decide) o26 tyX11 tyX11_ok nmX11 rfl (Or.inl rfl) rfl (Or.inr ⟨_, rfl⟩) rfl hnm rfl ?_
  refine s_aload_n A dX11_init_111 rfl ?_
  refine s_sipush A dX11_init_112 rfl ?_
  obtain ⟨o27, h⟩ := h
  refine z_newa_int (n := 6561) A dX11_init_115 rfl (by decide) zwd137 o27 (Nat.le_of_ble_eq_true rfl) (Nat.le_of_ble_eq_true rfl) (fun b27 μ27 eb27 em27 => ?_)
  have h := h b27 μ27 eb27 em27
  obtain ⟨o28, h⟩ := h
  refine z_putFR (k := 11) (j := 27) (sl := false) A dX11_init_117 rfl zuw_X11 (Nat.le_of_ble_eq_true rfl) zwd1335 (by decide) o28 tyX11 tyX11_ok nmX11 rfl (Or.inl rfl) rfl (Or.inr ⟨_, rfl⟩) rfl hnm rfl ?_
  refine s_aload_n A dX11_init_120 rfl ?_
  refine s_sipush A dX11_init_121 rfl ?_
  obtain ⟨o29, h⟩ := h
  refine z_newa_int (n := 6561) A dX11_init_124 rfl (by decide) zwd137 o29 (Nat.le_of_ble_eq_true rfl) (Nat.le_of_ble_eq_true rfl) (fun b29 μ29 eb29 em29 => ?_)
  have h := h b29 μ29 eb29 em29
  obtain ⟨o30, h⟩ := h
  refine z_putFR (k := 11) (j := 28) (sl := false) A dX11_init_126 rfl zuw_X11 (Nat.le_of_ble_eq_true rfl) zwd1336 (by decide) o30 tyX11 tyX11_ok nmX11 rfl (Or.inl rfl) rfl (Or.inr ⟨_, rfl⟩) rfl hnm rfl ?_
  refine s_aload_n A dX11_init_129 rfl ?_
  refine s_sipush A dX11_init_130 rfl ?_
  obtain ⟨o31, h⟩ := h
  refine z_newa_long (n := 6561) A dX11_init_133 rfl (by decide) zwd153 o31 (Nat.le_of_ble_eq_true rfl) (Nat.le_of_ble_eq_true rfl) (fun b31 μ31 eb31 em31 => ?_)
  have h := h b31 μ31 eb31 em31
  obtain ⟨o32, h⟩ := h
  refine z_putFR (k := 11) (j := 31) (sl := false) A dX11_init_135 rfl zuw_X11 (Nat.le_of_ble_eq_true rfl) zwd1339 (by decide) o32 tyX11 tyX11_ok nmX11 rfl (Or.inl rfl) rfl (Or.inr ⟨_, rfl⟩) rfl hnm rfl ?_
  refine s_aload_n A dX11_init_138 rfl ?_
  refine s_sipush A dX11_init_139 rfl ?_
  obtain ⟨o33, h⟩ := h
  refine z_newa_long (n := 6561) A dX11_init_142 rfl (by decide) zwd153 o33 (Nat.le_of_ble_eq_true rfl) (Nat.le_of_ble_eq_true rfl) (fun b33 μ33 eb33 em33 => ?_)
  have h := h b33 μ33 eb33 em33
  obtain ⟨o34, h⟩ := h
  refine z_putFR (k := 11) (j := 32) (sl := false) A dX11_init_144 rfl zuw_X11 (Nat.le_of_ble_eq_true rfl) zwd1340 (by decide) o34 tyX11 tyX11_ok nmX11 rfl (Or.inl rfl) rfl (Or.inr ⟨_, rfl⟩) rfl hnm rfl ?_
  refine s_aload_n A dX11_init_147 rfl ?_
  refine s_bipush A dX11_init_148 rfl ?_
  obtain ⟨o35, h⟩ := h
  refine z_newa_int (n := 64) A dX11_init_150 rfl (by decide) zwd137 o35 (Nat.le_of_ble_eq_true rfl) (Nat.le_of_ble_eq_true rfl) (fun b35 μ35 eb35 em35 => ?_)
  have h := h b35 μ35 eb35 em35
  obtain ⟨o36, h⟩ := h
  refine z_putFR (k := 11) (j := 33) (sl := false) A dX11_init_152 rfl zuw_X11 (Nat.le_of_ble_eq_true rfl) zwd1341 (by decide) o36 tyX11 tyX11_ok nmX11 rfl (Or.inl rfl) rfl (Or.inr ⟨_, rfl⟩) rfl hnm rfl ?_
  refine s_aload_n A dX11_init_155 rfl ?_
  refine s_sipush A dX11_init_156 rfl ?_
  obtain ⟨o37, h⟩ := h
  refine z_newa_int (n := 192) A dX11_init_159 rfl (by decide) zwd137 o37 (Nat.le_of_ble_eq_true rfl) (Nat.le_of_ble_eq_true rfl) (fun b37 μ37 eb37 em37 => ?_)
  have h := h b37 μ37 eb37 em37
  obtain ⟨o38, h⟩ := h
  refine z_putFR (k := 11) (j := 34) (sl := false) A dX11_init_161 rfl zuw_X11 (Nat.le_of_ble_eq_true rfl) zwd1342 (by decide) o38 tyX11 tyX11_ok nmX11 rfl (Or.inl rfl) rfl (Or.inr ⟨_, rfl⟩) rfl hnm rfl ?_
  refine s_aload_n A dX11_init_164 rfl ?_
  refine s_bipush A dX11_init_165 rfl ?_
  obtain ⟨o39, h⟩ := h
  refine z_newa_int (n := 81) A dX11_init_167 rfl (by decide) zwd137 o39 (Nat.le_of_ble_eq_true rfl) (Nat.le_of_ble_eq_true rfl) (fun b39 μ39 eb39 em39 => ?_)
  have h := h b39 μ39 eb39 em39
  obtain ⟨o40, h⟩ := h
  refine z_putFR (k := 11) (j := 35) (sl := false) A dX11_init_169 rfl zuw_X11 (Nat.le_of_ble_eq_true rfl) zwd1343 (by decide) o40 tyX11 tyX11_ok nmX11 rfl (Or.inl rfl) rfl (Or.inr ⟨_, rfl⟩) rfl hnm rfl ?_
  refine s_aload_n A dX11_init_172 rfl ?_
  refine s_sipush A dX11_init_173 rfl ?_
  obtain ⟨o41, h⟩ := h
  refine z_newa_int (n := 19683) A dX11_init_176 rfl (by decide) zwd137 o41 (Nat.le_of_ble_eq_true rfl) (Nat.le_of_ble_eq_true rfl) (fun b41 μ41 eb41 em41 => ?_)
  have h := h b41 μ41 eb41 em41
  obtain ⟨o42, h⟩ := h
  refine z_putFR (k := 11) (j := 36) (sl := false) A dX11_init_178 rfl zuw_X11 (Nat.le_of_ble_eq_true rfl) zwd1344 (by decide) o42 tyX11 tyX11_ok nmX11 rfl (Or.inl rfl) rfl (Or.inr ⟨_, rfl⟩) rfl hnm rfl ?_
  refine s_aload_n A dX11_init_181 rfl ?_
  refine s_sipush A dX11_init_182 rfl ?_
  obtain ⟨o43, h⟩ := h
  refine z_newa_int (n := 7110) A dX11_init_185 rfl (by decide) zwd137 o43 (Nat.le_of_ble_eq_true rfl) (Nat.le_of_ble_eq_true rfl) (fun b43 μ43 eb43 em43 => ?_)
  have h := h b43 μ43 eb43 em43
  obtain ⟨o44, h⟩ := h
  refine z_putFR (k := 11) (j := 38) (sl := false) A dX11_init_187 rfl zuw_X11 (Nat.le_of_ble_eq_true rfl) zwd1346 (by decide) o44 tyX11 tyX11_ok nmX11 rfl (Or.inl rfl) rfl (Or.inr ⟨_, rfl⟩) rfl hnm rfl ?_
  refine s_aload_n A dX11_init_190 rfl ?_
  refine s_sipush A dX11_init_191 rfl ?_
  obtain ⟨o45, h⟩ := h
  refine z_newa_int (n := 711) A dX11_init_194 rfl (by decide) zwd137 o45 (Nat.le_of_ble_eq_true rfl) (Nat.le_of_ble_eq_true rfl) (fun b45 μ45 eb45 em45 => ?_)
  have h := h b45 μ45 eb45 em45
  obtain ⟨o46, h⟩ := h
  refine z_putFR (k := 11) (j := 40) (sl := false) A dX11_init_196 rfl zuw_X11 (Nat.le_of_ble_eq_true rfl) zwd1348 (by decide) o46 tyX11 tyX11_ok nmX11 rfl (Or.inl rfl) rfl (Or.inr ⟨_, rfl⟩) rfl hnm rfl ?_
  refine s_aload_n A dX11_init_199 rfl ?_
  refine s_sipush A dX11_init_200 rfl ?_
  obtain ⟨o47, h⟩ := h
  refine z_newa_int (n := 711) A dX11_init_203 rfl (by decide) zwd137 o47 (Nat.le_of_ble_eq_true rfl) (Nat.le_of_ble_eq_true rfl) (fun b47 μ47 eb47 em47 => ?_)
  have h := h b47 μ47 eb47 em47
  obtain ⟨o48, h⟩ := h
  refine z_putFR (k := 11) (j := 41) (sl := false) A dX11_init_205 rfl zuw_X11 (Nat.le_of_ble_eq_true rfl) zwd1349 (by decide) o48 tyX11 tyX11_ok nmX11 rfl (Or.inl rfl) rfl (Or.inr ⟨_, rfl⟩) rfl hnm rfl ?_
  refine s_aload_n A dX11_init_208 rfl ?_
  refine s_sipush A dX11_init_209 rfl ?_
  obtain ⟨o49, h⟩ := h
  refine z_newa_int (n := 400) A dX11_init_212 rfl (by decide) zwd137 o49 (Nat.le_of_ble_eq_true rfl) (Nat.le_of_ble_eq_true rfl) (fun b49 μ49 eb49 em49 => ?_)
  have h := h b49 μ49 eb49 em49
  obtain ⟨o50, h⟩ := h
  refine z_putFR (k := 11) (j := 42) (sl := false) A dX11_init_214 rfl zuw_X11 (Nat.le_of_ble_eq_true rfl) zwd1350 (by decide) o50 tyX11 tyX11_ok nmX11 rfl (Or.inl rfl) rfl (Or.inr ⟨_, rfl⟩) rfl hnm rfl ?_
  refine s_aload_n A dX11_init_217 rfl ?_
  refine s_sipush A dX11_init_218 rfl ?_
  obtain ⟨o51, h⟩ := h
  refine z_newa_int (n := 1422) A dX11_init_221 rfl (by decide) zwd137 o51 (Nat.le_of_ble_eq_true rfl) (Nat.le_of_ble_eq_true rfl) (fun b51 μ51 eb51 em51 => ?_)
  have h := h b51 μ51 eb51 em51
  obtain ⟨o52, h⟩ := h
  refine z_putFR (k := 11) (j := 43) (sl := false) A dX11_init_223 rfl zuw_X11 (Nat.le_of_ble_eq_true rfl) zwd1351 (by decide) o52 tyX11 tyX11_ok nmX11 rfl (Or.inl rfl) rfl (Or.inr ⟨_, rfl⟩) rfl hnm rfl ?_
  refine s_aload_n A dX11_init_226 rfl ?_
  refine s_iconst A dX11_init_227 ?_
  obtain ⟨o53, h⟩ := h
  refine z_newa_bool (n := 2) A dX11_init_228 rfl (by decide) zwd183 o53 (Nat.le_of_ble_eq_true rfl) (Nat.le_of_ble_eq_true rfl) (fun b53 μ53 eb53 em53 => ?_)
  have h := h b53 μ53 eb53 em53
  obtain ⟨o54, h⟩ := h
  refine z_putFR (k := 11) (j := 44) (sl := false) A dX11_init_230 rfl zuw_X11 (Nat.le_of_ble_eq_true rfl) zwd1352 (by decide) o54 tyX11 tyX11_ok nmX11 rfl (Or.inl rfl) rfl (Or.inr ⟨_, rfl⟩) rfl hnm rfl ?_
  refine s_iconst A dX11_init_233 ?_
  refine s_istore_n (L' := [some (zR (some 153)), some (zI 0), none, none]) A dX11_init_234 (Nat.le_of_ble_eq_true rfl) rfl ?_
  exact h
set_option maxRecDepth 20000 in
theorem rX11_init_235 {G : zG} {F : zM → Prop} {J : Nat → zS → Prop} {μ : zM} (C : zJ G false (2) 27 97373 mX11_init (zKV F) J) (x1 : Int) {cn un : Nat}
    (h : zin x1 ∧ ((3 ≤ x1 → J 347 ([some (zR (some 153)), some (zI 0), none, none], [], μ, cn, un)) ∧ (¬ (3 ≤ x1) → zok false μ 153 (11, 45) ∧ ∃ b4, zr μ 153 0 = some b4 ∧ zok false μ b4 (40, 711) ∧ (0 ≤ x1 ∧ x1 < 711) ∧ J 250 ([some (zR (some 153)), some (zI x1), some (zI 0), none], [], zup μ b4 x1 100, cn, un)))) : J 235 ([some (zR (some 153)), some (zI x1), none, none], [], μ, cn, un) := by
  obtain ⟨p, e, s, m, args, below, meth, c, A, hml, hr, hlk, hnm, rfl⟩ := C
  refine s_iload_n A dX11_init_235 rfl ?_
  refine s_iconst A dX11_init_236 ?_
  obtain ⟨oz1, h⟩ := h
  refine z_icmp_ge (tgt := 345) A dX11_init_237 (by decide) oz1 ⟨by decide, by decide⟩ (fun c2 => ?_) (fun c2 => ?_)
  · have h := h.1 c2
    refine s_iconst A dX11_init_345 ?_
    refine s_istore_n (L' := [some (zR (some 153)), some (zI 0), none, none]) A dX11_init_346 (Nat.le_of_ble_eq_true rfl) rfl ?_
    exact h
  · have h := h.2 c2
    refine s_aload_n A dX11_init_240 rfl ?_
    obtain ⟨o3, h⟩ := h
    refine s_getf (k := 11) (j := 0) (sl := false) (v := zR (zr μ 153 0)) A dX11_init_241 rfl zuw_X11 (Nat.le_of_ble_eq_true rfl) zwd1308 (by decide) o3 rfl ?_
    refine s_iload_n A dX11_init_244 rfl ?_
    refine s_bipush A dX11_init_245 rfl ?_
    obtain ⟨b4, c4, h⟩ := h
    refine z_eqS (st' := [zI 100, zI x1, zR (some b4)]) (by rw [c4] <;> rfl) ?_
    obtain ⟨o5, h⟩ := h
    obtain ⟨ox6, h⟩ := h
    refine z_iast A dX11_init_247 o5 (Nat.le_of_ble_eq_true rfl) ox6 ?_
    refine s_iconst A dX11_init_248 ?_
    refine s_istore_n (L' := [some (zR (some 153)), some (zI x1), some (zI 0), none]) A dX11_init_249 (Nat.le_of_ble_eq_true rfl) rfl ?_
    exact h
set_option maxRecDepth 20000 in
theorem rX11_init_250 {G : zG} {F : zM → Prop} {J : Nat → zS → Prop} {μ : zM} (C : zJ G false (2) 27 97373 mX11_init (zKV F) J) (x1 : Int) (x2 : Int) {cn un : Nat}
    (h : zin x2 ∧ ((4 ≤ x2 → zok false μ 153 (11, 45) ∧ ∃ b4, zr μ 153 0 = some b4 ∧ zok false μ b4 (40, 711) ∧ (0 ≤ 708 + x1 ∧ 708 + x1 < 711) ∧ J 235 ([some (zR (some 153)), some (zI (x1 + 1)), none, none], [], zup μ b4 (708 + x1) 1, cn, un)) ∧ (¬ (4 ≤ x2) → ((x2 = 3 → J 270 ([some (zR (some 153)), some (zI x1), some (zI x2), none], [zI 1], μ, cn, un)) ∧ (¬ (x2 = 3) → zin x1 ∧ ((¬ x2 = x1 → J 270 ([some (zR (some 153)), some (zI x1), some (zI x2), none], [zI 0], μ, cn, un)) ∧ (x2 = x1 → J 270 ([some (zR (some 153)), some (zI x1), some (zI x2), none], [zI 1], μ, cn, un)))))))) : J 250 ([some (zR (some 153)), some (zI x1), some (zI x2), none], [], μ, cn, un) := by
  obtain ⟨p, e, s, m, args, below, meth, c, A, hml, hr, hlk, hnm, rfl⟩ := C
  refine s_iload_n A dX11_init_250 rfl ?_
  refine s_iconst A dX11_init_251 ?_
  obtain ⟨oz1, h⟩ := h
  refine z_icmp_ge (tgt := 328) A dX11_init_252 (by decide) oz1 ⟨by decide, by decide⟩ (fun c2 => ?_) (fun c2 => ?_)
  · have h := h.1 c2
    refine s_aload_n A dX11_init_328 rfl ?_
    obtain ⟨o3, h⟩ := h
    refine s_getf (k := 11) (j := 0) (sl := false) (v := zR (zr μ 153 0)) A dX11_init_329 rfl zuw_X11 (Nat.le_of_ble_eq_true rfl) zwd1308 (by decide) o3 rfl ?_
    refine s_sipush A dX11_init_332 rfl ?_
    refine s_iload_n A dX11_init_335 rfl ?_
    refine s_iadd A dX11_init_336 ?_
    refine s_iconst A dX11_init_337 ?_
    obtain ⟨b4, c4, h⟩ := h
    refine z_eqS (st' := [zI 1, zI (708 + x1), zR (some b4)]) (by rw [c4] <;> rfl) ?_
    obtain ⟨o5, h⟩ := h
    obtain ⟨ox6, h⟩ := h
    refine z_iast A dX11_init_338 o5 (Nat.le_of_ble_eq_true rfl) ox6 ?_
    refine s_iinc (L' := [some (zR (some 153)), some (zI (x1 + 1)), some (zI x2), none]) A dX11_init_339 rfl rfl ?_
    refine s_goto (tgt := 235) A dX11_init_342 (by decide) ?_
    exact z_wk (L' := [some (zR (some 153)), some (zI (x1 + 1)), none, none]) ⟨rfl, rfl, trivial⟩ h
  · have h := h.2 c2
    refine s_iload_n A dX11_init_255 rfl ?_
    refine s_iconst A dX11_init_256 ?_
    refine z_icmp_eq (tgt := 265) A dX11_init_257 (by decide) oz1 ⟨by decide, by decide⟩ (fun c7 => ?_) (fun c7 => ?_)
    · have h := h.1 c7
      refine s_iconst A dX11_init_265 ?_
      refine s_goto (tgt := 270) A dX11_init_266 (by decide) ?_
      exact h
    · have h := h.2 c7
      refine s_iload_n A dX11_init_260 rfl ?_
      refine s_iload_n A dX11_init_261 rfl ?_
      obtain ⟨oz8, h⟩ := h
      refine z_icmp_ne (tgt := 269) A dX11_init_262 (by decide) oz1 oz8 (fun c9 => ?_) (fun c9 => ?_)
      · have h := h.1 c9
        refine s_iconst A dX11_init_269 ?_
        exact h
      · have h := h.2 c9
        refine s_iconst A dX11_init_265 ?_
        refine s_goto (tgt := 270) A dX11_init_266 (by decide) ?_
        exact h
set_option maxRecDepth 20000 in
theorem rX11_init_270 {G : zG} {F : zM → Prop} {J : Nat → zS → Prop} {μ : zM} (C : zJ G false (2) 27 97373 mX11_init (zKV F) J) (x1 : Int) (x2 : Int) (xs0 : Int) {cn un : Nat}
    (h : zok false μ 153 (11, 45) ∧ (0 ≤ x2 ∧ x2 < 4) ∧ zin xs0 ∧ ((xs0 = 0 → ∃ b5, zr μ 153 0 = some b5 ∧ zok false μ b5 (40, 711) ∧ (0 ≤ (3 * (zta 7 x2)) + x1 ∧ (3 * (zta 7 x2)) + x1 < 711) ∧ zok false (zup μ b5 ((3 * (zta 7 x2)) + x1) 90) 153 (11, 45) ∧ ((xs0 = 0 → ∃ b10, zr (zup μ b5 ((3 * (zta 7 x2)) + x1) 90) 153 0 = some b10 ∧ zok false (zup μ b5 ((3 * (zta 7 x2)) + x1) 90) b10 (40, 711) ∧ (0 ≤ (6 * (zta 7 x2)) + x1 ∧ (6 * (zta 7 x2)) + x1 < 711) ∧ J 250 ([some (zR (some 153)), some (zI x1), some (zI (x2 + 1)), none], [], zup (zup μ b5 ((3 * (zta 7 x2)) + x1) 90) b10 ((6 * (zta 7 x2)) + x1) 80, cn, un)) ∧ (¬ (xs0 = 0) → ∃ b13, zr (zup μ b5 ((3 * (zta 7 x2)) + x1) 90) 153 0 = some b13 ∧ zok false (zup μ b5 ((3 * (zta 7 x2)) + x1) 90) b13 (40, 711) ∧ (0 ≤ (6 * (zta 7 x2)) + x1 ∧ (6 * (zta 7 x2)) + x1 < 711) ∧ J 250 ([some (zR (some 153)), some (zI x1), some (zI (x2 + 1)), none], [], zup (zup μ b5 ((3 * (zta 7 x2)) + x1) 90) b13 ((6 * (zta 7 x2)) + x1) 10, cn, un)))) ∧ (¬ (xs0 = 0) → ∃ b16, zr μ 153 0 = some b16 ∧ zok false μ b16 (40, 711) ∧ (0 ≤ (3 * (zta 7 x2)) + x1 ∧ (3 * (zta 7 x2)) + x1 < 711) ∧ zok false (zup μ b16 ((3 * (zta 7 x2)) + x1) 50) 153 (11, 45) ∧ ((xs0 = 0 → ∃ b21, zr (zup μ b16 ((3 * (zta 7 x2)) + x1) 50) 153 0 = some b21 ∧ zok false (zup μ b16 ((3 * (zta 7 x2)) + x1) 50) b21 (40, 711) ∧ (0 ≤ (6 * (zta 7 x2)) + x1 ∧ (6 * (zta 7 x2)) + x1 < 711) ∧ J 250 ([some (zR (some 153)), some (zI x1), some (zI (x2 + 1)), none], [], zup (zup μ b16 ((3 * (zta 7 x2)) + x1) 50) b21 ((6 * (zta 7 x2)) + x1) 80, cn, un)) ∧ (¬ (xs0 = 0) → ∃ b24, zr (zup μ b16 ((3 * (zta 7 x2)) + x1) 50) 153 0 = some b24 ∧ zok false (zup μ b16 ((3 * (zta 7 x2)) + x1) 50) b24 (40, 711) ∧ (0 ≤ (6 * (zta 7 x2)) + x1 ∧ (6 * (zta 7 x2)) + x1 < 711) ∧ J 250 ([some (zR (some 153)), some (zI x1), some (zI (x2 + 1)), none], [], zup (zup μ b16 ((3 * (zta 7 x2)) + x1) 50) b24 ((6 * (zta 7 x2)) + x1) 10, cn, un)))))) : J 270 ([some (zR (some 153)), some (zI x1), some (zI x2), none], [zI xs0], μ, cn, un) := by
  obtain ⟨p, e, s, m, args, below, meth, c, A, hml, hr, hlk, hnm, rfl⟩ := C
  refine s_istore_n (L' := [some (zR (some 153)), some (zI x1), some (zI x2), some (zI xs0)]) A dX11_init_270 (Nat.le_of_ble_eq_true rfl) rfl ?_
  refine s_aload_n A dX11_init_271 rfl ?_
  obtain ⟨o1, h⟩ := h
  refine s_getf (k := 11) (j := 0) (sl := false) (v := zR (zr μ 153 0)) A dX11_init_272 rfl zuw_X11 (Nat.le_of_ble_eq_true rfl) zwd1308 (by decide) o1 rfl ?_
  refine s_iconst A dX11_init_275 ?_
  refine s_getsT (t := 7) A dX11_init_276 (by decide) zwd1297 ?_
  refine s_iload_n A dX11_init_279 rfl ?_
  obtain ⟨ox2, h⟩ := h
  refine z_tald A dX11_init_280 (by decide) (Nat.le_of_ble_eq_true rfl) ox2 ?_
  refine s_imul A dX11_init_281 ?_
  refine s_iload_n A dX11_init_282 rfl ?_
  refine s_iadd A dX11_init_283 ?_
  refine s_iload_n A dX11_init_284 rfl ?_
  obtain ⟨oz3, h⟩ := h
  refine z_if_eq (tgt := 293) A dX11_init_285 (by decide) oz3 (fun c4 => ?_) (fun c4 => ?_)
  · have h := h.1 c4
    refine s_bipush A dX11_init_293 rfl ?_
    obtain ⟨b5, c5, h⟩ := h
    refine z_eqS (st' := [zI 90, zI ((3 * (zta 7 x2)) + x1), zR (some b5)]) (by rw [c5] <;> rfl) ?_
    obtain ⟨o6, h⟩ := h
    obtain ⟨ox7, h⟩ := h
    refine z_iast A dX11_init_295 o6 (Nat.le_of_ble_eq_true rfl) ox7 ?_
    refine s_aload_n A dX11_init_296 rfl ?_
    obtain ⟨o8, h⟩ := h
    refine s_getf (k := 11) (j := 0) (sl := false) (v := zR (zr (zup μ b5 ((3 * (zta 7 x2)) + x1) 90) 153 0)) A dX11_init_297 rfl zuw_X11 (Nat.le_of_ble_eq_true rfl) zwd1308 (by decide) o8 rfl ?_
    refine s_bipush A dX11_init_300 rfl ?_
    refine s_getsT (t := 7) A dX11_init_302 (by decide) zwd1297 ?_
    refine s_iload_n A dX11_init_305 rfl ?_
    refine z_tald A dX11_init_306 (by decide) (Nat.le_of_ble_eq_true rfl) ox2 ?_
    refine s_imul A dX11_init_307 ?_
    refine s_iload_n A dX11_init_308 rfl ?_
    refine s_iadd A dX11_init_309 ?_
    refine s_iload_n A dX11_init_310 rfl ?_
    refine z_if_eq (tgt := 319) A dX11_init_311 (by decide) oz3 (fun c9 => ?_) (fun c9 => ?_)
    · have h := h.1 c9
      refine s_bipush A dX11_init_319 rfl ?_
      obtain ⟨b10, c10, h⟩ := h
      refine z_eqS (st' := [zI 80, zI ((6 * (zta 7 x2)) + x1), zR (some b10)]) (by rw [c10] <;> rfl) ?_
      obtain ⟨o11, h⟩ := h
      obtain ⟨ox12, h⟩ := h
      refine z_iast A dX11_init_321 o11 (Nat.le_of_ble_eq_true rfl) ox12 ?_
      refine s_iinc (L' := [some (zR (some 153)), some (zI x1), some (zI (x2 + 1)), some (zI xs0)]) A dX11_init_322 rfl rfl ?_
      refine s_goto (tgt := 250) A dX11_init_325 (by decide) ?_
      exact z_wk (L' := [some (zR (some 153)), some (zI x1), some (zI (x2 + 1)), none]) ⟨rfl, rfl, rfl, trivial⟩ h
    · have h := h.2 c9
      refine s_bipush A dX11_init_314 rfl ?_
      refine s_goto (tgt := 321) A dX11_init_316 (by decide) ?_
      obtain ⟨b13, c13, h⟩ := h
      refine z_eqS (st' := [zI 10, zI ((6 * (zta 7 x2)) + x1), zR (some b13)]) (by rw [c13] <;> rfl) ?_
      obtain ⟨o14, h⟩ := h
      obtain ⟨ox15, h⟩ := h
      refine z_iast A dX11_init_321 o14 (Nat.le_of_ble_eq_true rfl) ox15 ?_
      refine s_iinc (L' := [some (zR (some 153)), some (zI x1), some (zI (x2 + 1)), some (zI xs0)]) A dX11_init_322 rfl rfl ?_
      refine s_goto (tgt := 250) A dX11_init_325 (by decide) ?_
      exact z_wk (L' := [some (zR (some 153)), some (zI x1), some (zI (x2 + 1)), none]) ⟨rfl, rfl, rfl, trivial⟩ h
  · have h := h.2 c4
    refine s_bipush A dX11_init_288 rfl ?_
    refine s_goto (tgt := 295) A dX11_init_290 (by decide) ?_
    obtain ⟨b16, c16, h⟩ := h
    refine z_eqS (st' := [zI 50, zI ((3 * (zta 7 x2)) + x1), zR (some b16)]) (by rw [c16] <;> rfl) ?_
    obtain ⟨o17, h⟩ := h
    obtain ⟨ox18, h⟩ := h
    refine z_iast A dX11_init_295 o17 (Nat.le_of_ble_eq_true rfl) ox18 ?_
    refine s_aload_n A dX11_init_296 rfl ?_
    obtain ⟨o19, h⟩ := h
    refine s_getf (k := 11) (j := 0) (sl := false) (v := zR (zr (zup μ b16 ((3 * (zta 7 x2)) + x1) 50) 153 0)) A dX11_init_297 rfl zuw_X11 (Nat.le_of_ble_eq_true rfl) zwd1308 (by decide) o19 rfl ?_
    refine s_bipush A dX11_init_300 rfl ?_
    refine s_getsT (t := 7) A dX11_init_302 (by decide) zwd1297 ?_
    refine s_iload_n A dX11_init_305 rfl ?_
    refine z_tald A dX11_init_306 (by decide) (Nat.le_of_ble_eq_true rfl) ox2 ?_
    refine s_imul A dX11_init_307 ?_
    refine s_iload_n A dX11_init_308 rfl ?_
    refine s_iadd A dX11_init_309 ?_
    refine s_iload_n A dX11_init_310 rfl ?_
    refine z_if_eq (tgt := 319) A dX11_init_311 (by decide) oz3 (fun c20 => ?_) (fun c20 => ?_)
    · have h := h.1 c20
      refine s_bipush A dX11_init_319 rfl ?_
      obtain ⟨b21, c21, h⟩ := h
      refine z_eqS (st' := [zI 80, zI ((6 * (zta 7 x2)) + x1), zR (some b21)]) (by rw [c21] <;> rfl) ?_
      obtain ⟨o22, h⟩ := h
      obtain ⟨ox23, h⟩ := h
      refine z_iast A dX11_init_321 o22 (Nat.le_of_ble_eq_true rfl) ox23 ?_
      refine s_iinc (L' := [some (zR (some 153)), some (zI x1), some (zI (x2 + 1)), some (zI xs0)]) A dX11_init_322 rfl rfl ?_
      refine s_goto (tgt := 250) A dX11_init_325 (by decide) ?_
      exact z_wk (L' := [some (zR (some 153)), some (zI x1), some (zI (x2 + 1)), none]) ⟨rfl, rfl, rfl, trivial⟩ h
    · have h := h.2 c20
      refine s_bipush A dX11_init_314 rfl ?_
      refine s_goto (tgt := 321) A dX11_init_316 (by decide) ?_
      obtain ⟨b24, c24, h⟩ := h
      refine z_eqS (st' := [zI 10, zI ((6 * (zta 7 x2)) + x1), zR (some b24)]) (by rw [c24] <;> rfl) ?_
      obtain ⟨o25, h⟩ := h
      obtain ⟨ox26, h⟩ := h
      refine z_iast A dX11_init_321 o25 (Nat.le_of_ble_eq_true rfl) ox26 ?_
      refine s_iinc (L' := [some (zR (some 153)), some (zI x1), some (zI (x2 + 1)), some (zI xs0)]) A dX11_init_322 rfl rfl ?_
      refine s_goto (tgt := 250) A dX11_init_325 (by decide) ?_
      exact z_wk (L' := [some (zR (some 153)), some (zI x1), some (zI (x2 + 1)), none]) ⟨rfl, rfl, rfl, trivial⟩ h
set_option maxRecDepth 20000 in
theorem rX11_init_347 {G : zG} {F : zM → Prop} {J : Nat → zS → Prop} {μ : zM} (C : zJ G false (2) 27 97373 mX11_init (zKV F) J) (x1 : Int) {cn un : Nat}
    (h : zin x1 ∧ ((4 ≤ x1 → J 365 ([some (zR (some 153)), some (zI 0), none, none], [], μ, cn, un)) ∧ (¬ (4 ≤ x1) → zok false μ 153 (11, 45) ∧ (cn + 0 ≤ 27 ∧ un + 0 ≤ 97373) ∧ qX11_straighten_w G x1 μ (fun μ4 => J 347 ([some (zR (some 153)), some (zI (x1 + 1)), none, none], [], μ4, cn, un))))) : J 347 ([some (zR (some 153)), some (zI x1), none, none], [], μ, cn, un) := by
  obtain ⟨p, e, s, m, args, below, meth, c, A, hml, hr, hlk, hnm, rfl⟩ := C
  refine s_iload_n A dX11_init_347 rfl ?_
  refine s_iconst A dX11_init_348 ?_
  obtain ⟨oz1, h⟩ := h
  refine z_icmp_ge (tgt := 363) A dX11_init_349 (by decide) oz1 ⟨by decide, by decide⟩ (fun c2 => ?_) (fun c2 => ?_)
  · have h := h.1 c2
    refine s_iconst A dX11_init_363 ?_
    refine s_istore_n (L' := [some (zR (some 153)), some (zI 0), none, none]) A dX11_init_364 (Nat.le_of_ble_eq_true rfl) rfl ?_
    exact h
  · have h := h.2 c2
    refine s_aload_n A dX11_init_352 rfl ?_
    refine s_iload_n A dX11_init_353 rfl ?_
    obtain ⟨o3, h⟩ := h
    obtain ⟨ob4, h⟩ := h
    refine s_callV (a := 153) (k := 11) (N := 45) (sl := false) (M := mX11_straighten) (n := 1) (d := 0) (mc := 0) (ms := 0) (av := [zI x1]) (st := []) A dX11_init_354 rfl (by decide) o3 zwd1299 zwd1301 zwd29 zwd100 zcd_X11_straighten (Nat.le_of_ble_eq_true rfl) (Nat.le_of_ble_eq_true rfl) (Nat.le_refl _) ob4 ⟨rfl, zhn_X11_straighten⟩ rfl (Nat.le_of_ble_eq_true rfl) rfl (z_contV (fun μ4 h => ?_) h)
    refine s_iinc (L' := [some (zR (some 153)), some (zI (x1 + 1)), none, none]) A dX11_init_357 rfl rfl ?_
    refine s_goto (tgt := 347) A dX11_init_360 (by decide) ?_
    exact h
set_option maxRecDepth 20000 in
theorem rX11_init_365 {G : zG} {F : zM → Prop} {J : Nat → zS → Prop} {μ : zM} (C : zJ G false (2) 27 97373 mX11_init (zKV F) J) (x1 : Int) {cn un : Nat}
    (h : zin x1 ∧ ((6561 ≤ x1 → zok false μ 153 (11, 45) ∧ ∃ b4, zr μ 153 0 = some b4 ∧ zok false μ b4 (40, 711) ∧ zok false (zup μ b4 704 32) 153 (11, 45) ∧ ∃ b7, zr (zup μ b4 704 32) 153 0 = some b7 ∧ zok false (zup μ b4 704 32) b7 (40, 711) ∧ zok false (zup (zup μ b4 704 32) b7 705 2) 153 (11, 45) ∧ ∃ b10, zr (zup (zup μ b4 704 32) b7 705 2) 153 0 = some b10 ∧ zok false (zup (zup μ b4 704 32) b7 705 2) b10 (40, 711) ∧ (cn ≤ 27 ∧ un ≤ 97373) ∧ F (zup (zup (zup μ b4 704 32) b7 705 2) b10 707 8)) ∧ (¬ (6561 ≤ x1) → zok false μ 153 (11, 45) ∧ (cn + 0 ≤ 27 ∧ un + 0 ≤ 97373) ∧ qX11_codeOf G false x1 μ (fun v13 μ13 => ∃ b14, zr μ 153 16 = some b14 ∧ zok false μ13 b14 (40, 6561) ∧ (0 ≤ x1 ∧ x1 < 6561) ∧ J 365 ([some (zR (some 153)), some (zI (x1 + 1)), none, none], [], zup μ13 b14 x1 v13, cn, un))))) : J 365 ([some (zR (some 153)), some (zI x1), none, none], [], μ, cn, un) := by
  obtain ⟨p, e, s, m, args, below, meth, c, A, hml, hr, hlk, hnm, rfl⟩ := C
  refine s_iload_n A dX11_init_365 rfl ?_
  refine s_sipush A dX11_init_366 rfl ?_
  obtain ⟨oz1, h⟩ := h
  refine z_icmp_ge (tgt := 388) A dX11_init_369 (by decide) oz1 ⟨by decide, by decide⟩ (fun c2 => ?_) (fun c2 => ?_)
  · have h := h.1 c2
    refine s_aload_n A dX11_init_388 rfl ?_
    obtain ⟨o3, h⟩ := h
    refine s_getf (k := 11) (j := 0) (sl := false) (v := zR (zr μ 153 0)) A dX11_init_389 rfl zuw_X11 (Nat.le_of_ble_eq_true rfl) zwd1308 (by decide) o3 rfl ?_
    refine s_sipush A dX11_init_392 rfl ?_
    refine s_bipush A dX11_init_395 rfl ?_
    obtain ⟨b4, c4, h⟩ := h
    refine z_eqS (st' := [zI 32, zI 704, zR (some b4)]) (by rw [c4] <;> rfl) ?_
    obtain ⟨o5, h⟩ := h
    refine z_iast A dX11_init_397 o5 (Nat.le_of_ble_eq_true rfl) ⟨by decide, by decide⟩ ?_
    refine s_aload_n A dX11_init_398 rfl ?_
    obtain ⟨o6, h⟩ := h
    refine s_getf (k := 11) (j := 0) (sl := false) (v := zR (zr (zup μ b4 704 32) 153 0)) A dX11_init_399 rfl zuw_X11 (Nat.le_of_ble_eq_true rfl) zwd1308 (by decide) o6 rfl ?_
    refine s_sipush A dX11_init_402 rfl ?_
    refine s_iconst A dX11_init_405 ?_
    obtain ⟨b7, c7, h⟩ := h
    refine z_eqS (st' := [zI 2, zI 705, zR (some b7)]) (by rw [c7] <;> rfl) ?_
    obtain ⟨o8, h⟩ := h
    refine z_iast A dX11_init_406 o8 (Nat.le_of_ble_eq_true rfl) ⟨by decide, by decide⟩ ?_
    refine s_aload_n A dX11_init_407 rfl ?_
    obtain ⟨o9, h⟩ := h
    refine s_getf (k := 11) (j := 0) (sl := false) (v := zR (zr (zup (zup μ b4 704 32) b7 705 2) 153 0)) A dX11_init_408 rfl zuw_X11 (Nat.le_of_ble_eq_true rfl) zwd1308 (by decide) o9 rfl ?_
    refine s_sipush A dX11_init_411 rfl ?_
    refine s_bipush A dX11_init_414 rfl ?_
    obtain ⟨b10, c10, h⟩ := h
    refine z_eqS (st' := [zI 8, zI 707, zR (some b10)]) (by rw [c10] <;> rfl) ?_
    obtain ⟨o11, h⟩ := h
    refine z_iast A dX11_init_416 o11 (Nat.le_of_ble_eq_true rfl) ⟨by decide, by decide⟩ ?_
    obtain ⟨o9, h⟩ := h
    exact s_vret A dX11_init_417 hr hlk o9.1 o9.2 ⟨rfl, h⟩
  · have h := h.2 c2
    refine s_aload_n A dX11_init_372 rfl ?_
    obtain ⟨o12, h⟩ := h
    refine s_getf (k := 11) (j := 16) (sl := false) (v := zR (zr μ 153 16)) A dX11_init_373 rfl zuw_X11 (Nat.le_of_ble_eq_true rfl) zwd1324 (by decide) o12 rfl ?_
    refine s_iload_n A dX11_init_376 rfl ?_
    refine s_iload_n A dX11_init_377 rfl ?_
    obtain ⟨ob13, h⟩ := h
    refine s_callS (M := mX11_codeOf) (n := 1) (d := 0) (mc := 0) (ms := 0) (av := [zI x1]) (st := [zI x1, zR (zr μ 153 16)]) A dX11_init_378 zwd1303 zwd1304 zwd100 zcd_X11_codeOf (Nat.le_of_ble_eq_true rfl) (Nat.le_of_ble_eq_true rfl) (Nat.le_refl _) ob13 zhn_X11_codeOf rfl (Nat.le_of_ble_eq_true rfl) rfl (z_contI (fun v13 μ13 h => ?_) h)
    obtain ⟨b14, c14, h⟩ := h
    refine z_eqS (st' := [zI v13, zI x1, zR (some b14)]) (by rw [c14] <;> rfl) ?_
    obtain ⟨o15, h⟩ := h
    obtain ⟨ox16, h⟩ := h
    refine z_iast A dX11_init_381 o15 (Nat.le_of_ble_eq_true rfl) ox16 ?_
    refine s_iinc (L' := [some (zR (some 153)), some (zI (x1 + 1)), none, none]) A dX11_init_382 rfl rfl ?_
    refine s_goto (tgt := 365) A dX11_init_385 (by decide) ?_
    exact h
theorem eX11_init {G : zG} {F : zM → Prop} {μ : zM}  (h : ∀ J, zJ G false (2) 27 97373 mX11_init (zKV F) J → J 0 ([some (zR (some 153)), none, none, none], [], μ, 0, 0)) : qX11_init G  μ F :=
  z_body (by decide +kernel) (Nat.le_of_ble_eq_true rfl) h
set_option maxRecDepth 20000 in
theorem rX11_thrown_e {G : zG} {F : Int → zM → Prop} {J : Nat → zS → Prop} {μ : zM} (C : zJ G true (0) 0 0 mX11_thrown (zKI F) J) 
    (h : F (zi μ 153 5) μ) : J 0 ([some (zR (some 153))], [], μ, 0, 0) := by
  obtain ⟨p, e, s, m, args, below, meth, c, A, hml, hr, hlk, hnm, rfl⟩ := C
  refine s_aload_n A dX11_thrown_0 rfl ?_
  refine s_getf (k := 11) (j := 5) (sl := true) (v := zI (zi μ 153 5)) A dX11_thrown_1 rfl zuw_X11 (Nat.le_of_ble_eq_true rfl) zwd1313 (by decide) (zk_153 _) rfl ?_
  exact s_iret A dX11_thrown_4 hr hlk (Nat.le_of_ble_eq_true rfl) (Nat.le_of_ble_eq_true rfl) ⟨_, rfl, h⟩
theorem eX11_thrown {G : zG} {F : Int → zM → Prop} {μ : zM}  (h : ∀ J, zJ G true (0) 0 0 mX11_thrown (zKI F) J → J 0 ([some (zR (some 153))], [], μ, 0, 0)) : qX11_thrown G  μ F :=
  z_body (by decide +kernel) (Nat.le_of_ble_eq_true rfl) h
set_option maxRecDepth 20000 in
theorem rX11_in_e {G : zG} {ph : Bool} {F : Int → zM → Prop} {J : Nat → zS → Prop} {μ : zM} (C : zJ G ph (0) 0 0 mX11_in (zKI F) J) (x0 : Int) (x1 : Int) (x2 : Int)
    (h : zin x0 ∧ zin x1 ∧ ((x0 < x1 → F 0 μ) ∧ (¬ (x0 < x1) → zin x2 ∧ ((x2 < x0 → F 0 μ) ∧ (¬ (x2 < x0) → F 1 μ))))) : J 0 ([some (zI x0), some (zI x1), some (zI x2)], [], μ, 0, 0) := by
  obtain ⟨p, e, s, m, args, below, meth, c, A, hml, hr, hlk, hnm, rfl⟩ := C
  refine s_iload_n A dX11_in_0 rfl ?_
  refine s_iload_n A dX11_in_1 rfl ?_
  obtain ⟨oz1, h⟩ := h
  obtain ⟨oz2, h⟩ := h
  refine z_icmp_lt (tgt := 14) A dX11_in_2 (by decide) oz1 oz2 (fun c3 => ?_) (fun c3 => ?_)
  · have h := h.1 c3
    refine s_iconst A dX11_in_14 ?_
    exact s_zret A dX11_in_15 hr hlk (Nat.le_of_ble_eq_true rfl) (Nat.le_of_ble_eq_true rfl) (Or.inl rfl) ⟨_, rfl, h⟩
  · have h := h.2 c3
    refine s_iload_n A dX11_in_5 rfl ?_
    refine s_iload_n A dX11_in_6 rfl ?_
    obtain ⟨oz4, h⟩ := h
    refine z_icmp_gt (tgt := 14) A dX11_in_7 (by decide) oz1 oz4 (fun c5 => ?_) (fun c5 => ?_)
    · have h := h.1 c5
      refine s_iconst A dX11_in_14 ?_
      exact s_zret A dX11_in_15 hr hlk (Nat.le_of_ble_eq_true rfl) (Nat.le_of_ble_eq_true rfl) (Or.inl rfl) ⟨_, rfl, h⟩
    · have h := h.2 c5
      refine s_iconst A dX11_in_10 ?_
      refine s_goto (tgt := 15) A dX11_in_11 (by decide) ?_
      exact s_zret A dX11_in_15 hr hlk (Nat.le_of_ble_eq_true rfl) (Nat.le_of_ble_eq_true rfl) (Or.inr rfl) ⟨_, rfl, h⟩
theorem eX11_in {G : zG} {ph : Bool} {F : Int → zM → Prop} {μ : zM} {x0 : Int} {x1 : Int} {x2 : Int} (h : ∀ J, zJ G ph (0) 0 0 mX11_in (zKI F) J → J 0 ([some (zI x0), some (zI x1), some (zI x2)], [], μ, 0, 0)) : qX11_in G ph x0 x1 x2 μ F :=
  z_body (by decide +kernel) (Nat.le_of_ble_eq_true rfl) h
set_option maxRecDepth 20000 in
theorem rX11_lost_e {G : zG} {F : Int → zM → Prop} {J : Nat → zS → Prop} {μ : zM} (C : zJ G true (0) 0 0 mX11_lost (zKI F) J) 
    (h : F 0 (zup μ 153 5 1)) : J 0 ([some (zR (some 153))], [], μ, 0, 0) := by
  obtain ⟨p, e, s, m, args, below, meth, c, A, hml, hr, hlk, hnm, rfl⟩ := C
  refine s_aload_n A dX11_lost_0 rfl ?_
  refine s_iconst A dX11_lost_1 ?_
  refine z_putI (k := 11) (j := 5) (sl := true) A dX11_lost_2 rfl zuw_X11 (Nat.le_of_ble_eq_true rfl) zwd1313 (by decide) (zk_153 _) tyX11 tyX11_ok nmX11 rfl rfl rfl ?_
  refine s_iconst A dX11_lost_5 ?_
  exact s_iret A dX11_lost_6 hr hlk (Nat.le_of_ble_eq_true rfl) (Nat.le_of_ble_eq_true rfl) ⟨_, rfl, h⟩
theorem eX11_lost {G : zG} {F : Int → zM → Prop} {μ : zM}  (h : ∀ J, zJ G true (0) 0 0 mX11_lost (zKI F) J → J 0 ([some (zR (some 153))], [], μ, 0, 0)) : qX11_lost G  μ F :=
  z_body (by decide +kernel) (Nat.le_of_ble_eq_true rfl) h
set_option maxRecDepth 20000 in
theorem rX11_tell_e {G : zG} {F : zM → Prop} {J : Nat → zS → Prop} {μ : zM} (C : zJ G true (0) 0 0 mX11_tell (zKV F) J) (y1 : Int)
    (h : (0 ≤ zi μ 153 4 ∧ zi μ 153 4 < 16) ∧ F (zup (zup μ 156 (zi μ 153 4) y1) 153 4 ((zi (zup μ 156 (zi μ 153 4) y1) 153 4) + 1))) : J 0 ([some (zR (some 153)), some (zL y1), none], [], μ, 0, 0) := by
  obtain ⟨p, e, s, m, args, below, meth, c, A, hml, hr, hlk, hnm, rfl⟩ := C
  refine s_aload_n A dX11_tell_0 rfl ?_
  refine s_getf (k := 11) (j := 3) (sl := true) (v := zR (some 156)) A dX11_tell_1 rfl zuw_X11 (Nat.le_of_ble_eq_true rfl) zwd1311 (by decide) (zk_153 _) rfl ?_
  refine s_aload_n A dX11_tell_4 rfl ?_
  refine s_getf (k := 11) (j := 4) (sl := true) (v := zI (zi μ 153 4)) A dX11_tell_5 rfl zuw_X11 (Nat.le_of_ble_eq_true rfl) zwd1312 (by decide) (zk_153 _) rfl ?_
  refine s_lload_n A dX11_tell_8 rfl ?_
  obtain ⟨ox1, h⟩ := h
  refine z_last A dX11_tell_9 (zk_156 _) (Nat.le_of_ble_eq_true rfl) ox1 ?_
  refine s_aload_n A dX11_tell_10 rfl ?_
  refine s_dup A dX11_tell_11 rfl ?_
  refine s_getf (k := 11) (j := 4) (sl := true) (v := zI (zi (zup μ 156 (zi μ 153 4) y1) 153 4)) A dX11_tell_12 rfl zuw_X11 (Nat.le_of_ble_eq_true rfl) zwd1312 (by decide) (zk_153 _) rfl ?_
  refine s_iconst A dX11_tell_15 ?_
  refine s_iadd A dX11_tell_16 ?_
  refine z_putI (k := 11) (j := 4) (sl := true) A dX11_tell_17 rfl zuw_X11 (Nat.le_of_ble_eq_true rfl) zwd1312 (by decide) (zk_153 _) tyX11 tyX11_ok nmX11 rfl rfl rfl ?_
  exact s_vret A dX11_tell_20 hr hlk (Nat.le_of_ble_eq_true rfl) (Nat.le_of_ble_eq_true rfl) ⟨rfl, h⟩
theorem eX11_tell {G : zG} {F : zM → Prop} {μ : zM} {y1 : Int} (h : ∀ J, zJ G true (0) 0 0 mX11_tell (zKV F) J → J 0 ([some (zR (some 153)), some (zL y1), none], [], μ, 0, 0)) : qX11_tell G y1 μ F :=
  z_body (by decide +kernel) (Nat.le_of_ble_eq_true rfl) h
set_option maxRecDepth 20000 in
theorem rX11_isInk_e {G : zG} {ph : Bool} {F : Int → zM → Prop} {J : Nat → zS → Prop} {μ : zM} (C : zJ G ph (2) 0 0 mX11_isInk (zKI F) J) (x0 : Int)
    (h : qX11_in G ph x0 0 3 μ (fun v1 μ1 => (v1 = 0 ∨ v1 = 1) ∧ F v1 μ1)) : J 0 ([some (zI x0)], [], μ, 0, 0) := by
  obtain ⟨p, e, s, m, args, below, meth, c, A, hml, hr, hlk, hnm, rfl⟩ := C
  refine s_iload_n A dX11_isInk_0 rfl ?_
  refine s_iconst A dX11_isInk_1 ?_
  refine s_iconst A dX11_isInk_2 ?_
  refine s_callS (M := mX11_in) (n := 3) (d := 0) (mc := 0) (ms := 0) (av := [zI x0, zI 0, zI 3]) (st := []) A dX11_isInk_3 zwd1456 zwd1457 zwd100 zcd_X11_in (Nat.le_of_ble_eq_true rfl) (Nat.le_of_ble_eq_true rfl) (Nat.le_refl _) ⟨Nat.le_of_ble_eq_true rfl, Nat.le_of_ble_eq_true rfl⟩ zhn_X11_in rfl (Nat.le_of_ble_eq_true rfl) rfl (z_contI (fun v1 μ1 h => ?_) h)
  obtain ⟨o1, h⟩ := h
  exact s_zret A dX11_isInk_6 hr hlk (Nat.le_of_ble_eq_true rfl) (Nat.le_of_ble_eq_true rfl) o1 ⟨_, rfl, h⟩
theorem eX11_isInk {G : zG} {ph : Bool} {F : Int → zM → Prop} {μ : zM} {x0 : Int} (h : ∀ J, zJ G ph (2) 0 0 mX11_isInk (zKI F) J → J 0 ([some (zI x0)], [], μ, 0, 0)) : qX11_isInk G ph x0 μ F :=
  z_body (by decide +kernel) (Nat.le_of_ble_eq_true rfl) h
set_option maxRecDepth 20000 in
theorem rX11_isCode_e {G : zG} {ph : Bool} {F : Int → zM → Prop} {J : Nat → zS → Prop} {μ : zM} (C : zJ G ph (2) 0 0 mX11_isCode (zKI F) J) (x0 : Int)
    (h : qX11_in G ph x0 0 8888 μ (fun v1 μ1 => zin v1 ∧ ((¬ v1 = 0 → J 15 ([some (zI x0), some (zI 0)], [], μ1, 0, 0)) ∧ (v1 = 0 → F 0 μ1)))) : J 0 ([some (zI x0), none], [], μ, 0, 0) := by
  obtain ⟨p, e, s, m, args, below, meth, c, A, hml, hr, hlk, hnm, rfl⟩ := C
  refine s_iload_n A dX11_isCode_0 rfl ?_
  refine s_iconst A dX11_isCode_1 ?_
  refine s_sipush A dX11_isCode_2 rfl ?_
  refine s_callS (M := mX11_in) (n := 3) (d := 0) (mc := 0) (ms := 0) (av := [zI x0, zI 0, zI 8888]) (st := []) A dX11_isCode_5 zwd1456 zwd1457 zwd100 zcd_X11_in (Nat.le_of_ble_eq_true rfl) (Nat.le_of_ble_eq_true rfl) (Nat.le_refl _) ⟨Nat.le_of_ble_eq_true rfl, Nat.le_of_ble_eq_true rfl⟩ zhn_X11_in rfl (Nat.le_of_ble_eq_true rfl) rfl (z_contI (fun v1 μ1 h => ?_) h)
  obtain ⟨oz2, h⟩ := h
  refine z_if_ne (tgt := 13) A dX11_isCode_8 (by decide) oz2 (fun c3 => ?_) (fun c3 => ?_)
  · have h := h.1 c3
    refine s_iconst A dX11_isCode_13 ?_
    refine s_istore_n (L' := [some (zI x0), some (zI 0)]) A dX11_isCode_14 (Nat.le_of_ble_eq_true rfl) rfl ?_
    exact h
  · have h := h.2 c3
    refine s_iconst A dX11_isCode_11 ?_
    exact s_zret A dX11_isCode_12 hr hlk (Nat.le_of_ble_eq_true rfl) (Nat.le_of_ble_eq_true rfl) (Or.inl rfl) ⟨_, rfl, h⟩
set_option maxRecDepth 20000 in
theorem rX11_isCode_15 {G : zG} {ph : Bool} {F : Int → zM → Prop} {J : Nat → zS → Prop} {μ : zM} (C : zJ G ph (2) 0 0 mX11_isCode (zKI F) J) (x0 : Int) (x1 : Int)
    (h : zin x1 ∧ ((4 ≤ x1 → F 1 μ) ∧ (¬ (4 ≤ x1) → (0 ≤ x1 ∧ x1 < 4) ∧ (0 ≤ x0 ∧ x0 < 2147483648) ∧ (0 < zta 8 x1 ∧ zta 8 x1 < 2147483648) ∧ (0 ≤ x0 / (zta 8 x1) ∧ x0 / (zta 8 x1) < 2147483648) ∧ zin ((x0 / (zta 8 x1)) % 10) ∧ (((x0 / (zta 8 x1)) % 10 ≤ 8 → J 15 ([some (zI x0), some (zI (x1 + 1))], [], μ, 0, 0)) ∧ (¬ ((x0 / (zta 8 x1)) % 10 ≤ 8) → F 0 μ))))) : J 15 ([some (zI x0), some (zI x1)], [], μ, 0, 0) := by
  obtain ⟨p, e, s, m, args, below, meth, c, A, hml, hr, hlk, hnm, rfl⟩ := C
  refine s_iload_n A dX11_isCode_15 rfl ?_
  refine s_iconst A dX11_isCode_16 ?_
  obtain ⟨oz1, h⟩ := h
  refine z_icmp_ge (tgt := 43) A dX11_isCode_17 (by decide) oz1 ⟨by decide, by decide⟩ (fun c2 => ?_) (fun c2 => ?_)
  · have h := h.1 c2
    refine s_iconst A dX11_isCode_43 ?_
    exact s_zret A dX11_isCode_44 hr hlk (Nat.le_of_ble_eq_true rfl) (Nat.le_of_ble_eq_true rfl) (Or.inr rfl) ⟨_, rfl, h⟩
  · have h := h.2 c2
    refine s_iload_n A dX11_isCode_20 rfl ?_
    refine s_getsT (t := 8) A dX11_isCode_21 (by decide) zwd1306 ?_
    refine s_iload_n A dX11_isCode_24 rfl ?_
    obtain ⟨ox3, h⟩ := h
    refine z_tald A dX11_isCode_25 (by decide) (Nat.le_of_ble_eq_true rfl) ox3 ?_
    obtain ⟨o1, h⟩ := h
    obtain ⟨o2, h⟩ := h
    refine z_idiv A dX11_isCode_26 o1 o2 ?_
    refine s_bipush A dX11_isCode_27 rfl ?_
    obtain ⟨o1, h⟩ := h
    refine z_irem A dX11_isCode_29 o1 ⟨by decide, by decide⟩ ?_
    refine s_bipush A dX11_isCode_30 rfl ?_
    obtain ⟨oz4, h⟩ := h
    refine z_icmp_le (tgt := 37) A dX11_isCode_32 (by decide) oz4 ⟨by decide, by decide⟩ (fun c5 => ?_) (fun c5 => ?_)
    · have h := h.1 c5
      refine s_iinc (L' := [some (zI x0), some (zI (x1 + 1))]) A dX11_isCode_37 rfl rfl ?_
      refine s_goto (tgt := 15) A dX11_isCode_40 (by decide) ?_
      exact h
    · have h := h.2 c5
      refine s_iconst A dX11_isCode_35 ?_
      exact s_zret A dX11_isCode_36 hr hlk (Nat.le_of_ble_eq_true rfl) (Nat.le_of_ble_eq_true rfl) (Or.inl rfl) ⟨_, rfl, h⟩
theorem eX11_isCode {G : zG} {ph : Bool} {F : Int → zM → Prop} {μ : zM} {x0 : Int} (h : ∀ J, zJ G ph (2) 0 0 mX11_isCode (zKI F) J → J 0 ([some (zI x0), none], [], μ, 0, 0)) : qX11_isCode G ph x0 μ F :=
  z_body (by decide +kernel) (Nat.le_of_ble_eq_true rfl) h
set_option maxRecDepth 20000 in
theorem rX11_amountOf_e {G : zG} {ph : Bool} {F : Int → zM → Prop} {J : Nat → zS → Prop} {μ : zM} (C : zJ G ph (0) 0 0 mX11_amountOf (zKI F) J) (x0 : Int) (x1 : Int)
    (h : (0 ≤ x1 ∧ x1 < 4) ∧ (0 ≤ x0 ∧ x0 < 2147483648) ∧ (0 < zta 8 x1 ∧ zta 8 x1 < 2147483648) ∧ (0 ≤ x0 / (zta 8 x1) ∧ x0 / (zta 8 x1) < 2147483648) ∧ F ((x0 / (zta 8 x1)) % 10) μ) : J 0 ([some (zI x0), some (zI x1)], [], μ, 0, 0) := by
  obtain ⟨p, e, s, m, args, below, meth, c, A, hml, hr, hlk, hnm, rfl⟩ := C
  refine s_iload_n A dX11_amountOf_0 rfl ?_
  refine s_getsT (t := 8) A dX11_amountOf_1 (by decide) zwd1306 ?_
  refine s_iload_n A dX11_amountOf_4 rfl ?_
  obtain ⟨ox1, h⟩ := h
  refine z_tald A dX11_amountOf_5 (by decide) (Nat.le_of_ble_eq_true rfl) ox1 ?_
  obtain ⟨o1, h⟩ := h
  obtain ⟨o2, h⟩ := h
  refine z_idiv A dX11_amountOf_6 o1 o2 ?_
  refine s_bipush A dX11_amountOf_7 rfl ?_
  obtain ⟨o1, h⟩ := h
  refine z_irem A dX11_amountOf_9 o1 ⟨by decide, by decide⟩ ?_
  exact s_iret A dX11_amountOf_10 hr hlk (Nat.le_of_ble_eq_true rfl) (Nat.le_of_ble_eq_true rfl) ⟨_, rfl, h⟩
theorem eX11_amountOf {G : zG} {ph : Bool} {F : Int → zM → Prop} {μ : zM} {x0 : Int} {x1 : Int} (h : ∀ J, zJ G ph (0) 0 0 mX11_amountOf (zKI F) J → J 0 ([some (zI x0), some (zI x1)], [], μ, 0, 0)) : qX11_amountOf G ph x0 x1 μ F :=
  z_body (by decide +kernel) (Nat.le_of_ble_eq_true rfl) h
set_option maxRecDepth 20000 in
theorem rX11_totalOf_e {G : zG} {ph : Bool} {F : Int → zM → Prop} {J : Nat → zS → Prop} {μ : zM} (C : zJ G ph (2) 0 0 mX11_totalOf (zKI F) J) (x0 : Int)
    (h : qX11_amountOf G ph x0 0 μ (fun v1 μ1 => qX11_amountOf G ph x0 1 μ1 (fun v2 μ2 => qX11_amountOf G ph x0 2 μ2 (fun v3 μ3 => qX11_amountOf G ph x0 3 μ3 (fun v4 μ4 => F (((v1 + v2) + v3) + v4) μ4))))) : J 0 ([some (zI x0)], [], μ, 0, 0) := by
  obtain ⟨p, e, s, m, args, below, meth, c, A, hml, hr, hlk, hnm, rfl⟩ := C
  refine s_iload_n A dX11_totalOf_0 rfl ?_
  refine s_iconst A dX11_totalOf_1 ?_
  refine s_callS (M := mX11_amountOf) (n := 2) (d := 0) (mc := 0) (ms := 0) (av := [zI x0, zI 0]) (st := []) A dX11_totalOf_2 zwd1610 zwd1611 zwd100 zcd_X11_amountOf (Nat.le_of_ble_eq_true rfl) (Nat.le_of_ble_eq_true rfl) (Nat.le_refl _) ⟨Nat.le_of_ble_eq_true rfl, Nat.le_of_ble_eq_true rfl⟩ zhn_X11_amountOf rfl (Nat.le_of_ble_eq_true rfl) rfl (z_contI (fun v1 μ1 h => ?_) h)
  refine s_iload_n A dX11_totalOf_5 rfl ?_
  refine s_iconst A dX11_totalOf_6 ?_
  refine s_callS (M := mX11_amountOf) (n := 2) (d := 0) (mc := 0) (ms := 0) (av := [zI x0, zI 1]) (st := [zI v1]) A dX11_totalOf_7 zwd1610 zwd1611 zwd100 zcd_X11_amountOf (Nat.le_of_ble_eq_true rfl) (Nat.le_of_ble_eq_true rfl) (Nat.le_refl _) ⟨Nat.le_of_ble_eq_true rfl, Nat.le_of_ble_eq_true rfl⟩ zhn_X11_amountOf rfl (Nat.le_of_ble_eq_true rfl) rfl (z_contI (fun v2 μ2 h => ?_) h)
  refine s_iadd A dX11_totalOf_10 ?_
  refine s_iload_n A dX11_totalOf_11 rfl ?_
  refine s_iconst A dX11_totalOf_12 ?_
  refine s_callS (M := mX11_amountOf) (n := 2) (d := 0) (mc := 0) (ms := 0) (av := [zI x0, zI 2]) (st := [zI (v1 + v2)]) A dX11_totalOf_13 zwd1610 zwd1611 zwd100 zcd_X11_amountOf (Nat.le_of_ble_eq_true rfl) (Nat.le_of_ble_eq_true rfl) (Nat.le_refl _) ⟨Nat.le_of_ble_eq_true rfl, Nat.le_of_ble_eq_true rfl⟩ zhn_X11_amountOf rfl (Nat.le_of_ble_eq_true rfl) rfl (z_contI (fun v3 μ3 h => ?_) h)
  refine s_iadd A dX11_totalOf_16 ?_
  refine s_iload_n A dX11_totalOf_17 rfl ?_
  refine s_iconst A dX11_totalOf_18 ?_
  refine s_callS (M := mX11_amountOf) (n := 2) (d := 0) (mc := 0) (ms := 0) (av := [zI x0, zI 3]) (st := [zI ((v1 + v2) + v3)]) A dX11_totalOf_19 zwd1610 zwd1611 zwd100 zcd_X11_amountOf (Nat.le_of_ble_eq_true rfl) (Nat.le_of_ble_eq_true rfl) (Nat.le_refl _) ⟨Nat.le_of_ble_eq_true rfl, Nat.le_of_ble_eq_true rfl⟩ zhn_X11_amountOf rfl (Nat.le_of_ble_eq_true rfl) rfl (z_contI (fun v4 μ4 h => ?_) h)
  refine s_iadd A dX11_totalOf_22 ?_
  exact s_iret A dX11_totalOf_23 hr hlk (Nat.le_of_ble_eq_true rfl) (Nat.le_of_ble_eq_true rfl) ⟨_, rfl, h⟩
theorem eX11_totalOf {G : zG} {ph : Bool} {F : Int → zM → Prop} {μ : zM} {x0 : Int} (h : ∀ J, zJ G ph (2) 0 0 mX11_totalOf (zKI F) J → J 0 ([some (zI x0)], [], μ, 0, 0)) : qX11_totalOf G ph x0 μ F :=
  z_body (by decide +kernel) (Nat.le_of_ble_eq_true rfl) h
set_option maxRecDepth 20000 in
theorem rX11_numberOf_e {G : zG} {ph : Bool} {F : Int → zM → Prop} {J : Nat → zS → Prop} {μ : zM} (C : zJ G ph (2) 0 0 mX11_numberOf (zKI F) J) (x0 : Int)
    (h : J 4 ([some (zI x0), some (zI 0), some (zI 0)], [], μ, 0, 0)) : J 0 ([some (zI x0), none, none], [], μ, 0, 0) := by
  obtain ⟨p, e, s, m, args, below, meth, c, A, hml, hr, hlk, hnm, rfl⟩ := C
  refine s_iconst A dX11_numberOf_0 ?_
  refine s_istore_n (L' := [some (zI x0), some (zI 0), none]) A dX11_numberOf_1 (Nat.le_of_ble_eq_true rfl) rfl ?_
  refine s_iconst A dX11_numberOf_2 ?_
  refine s_istore_n (L' := [some (zI x0), some (zI 0), some (zI 0)]) A dX11_numberOf_3 (Nat.le_of_ble_eq_true rfl) rfl ?_
  exact h
set_option maxRecDepth 20000 in
theorem rX11_numberOf_4 {G : zG} {ph : Bool} {F : Int → zM → Prop} {J : Nat → zS → Prop} {μ : zM} (C : zJ G ph (2) 0 0 mX11_numberOf (zKI F) J) (x0 : Int) (x1 : Int) (x2 : Int)
    (h : zin x2 ∧ ((4 ≤ x2 → F x1 μ) ∧ (¬ (4 ≤ x2) → qX11_amountOf G ph x0 x2 μ (fun v3 μ3 => J 4 ([some (zI x0), some (zI ((9 * x1) + v3)), some (zI (x2 + 1))], [], μ3, 0, 0))))) : J 4 ([some (zI x0), some (zI x1), some (zI x2)], [], μ, 0, 0) := by
  obtain ⟨p, e, s, m, args, below, meth, c, A, hml, hr, hlk, hnm, rfl⟩ := C
  refine s_iload_n A dX11_numberOf_4 rfl ?_
  refine s_iconst A dX11_numberOf_5 ?_
  obtain ⟨oz1, h⟩ := h
  refine z_icmp_ge (tgt := 26) A dX11_numberOf_6 (by decide) oz1 ⟨by decide, by decide⟩ (fun c2 => ?_) (fun c2 => ?_)
  · have h := h.1 c2
    refine s_iload_n A dX11_numberOf_26 rfl ?_
    exact s_iret A dX11_numberOf_27 hr hlk (Nat.le_of_ble_eq_true rfl) (Nat.le_of_ble_eq_true rfl) ⟨_, rfl, h⟩
  · have h := h.2 c2
    refine s_bipush A dX11_numberOf_9 rfl ?_
    refine s_iload_n A dX11_numberOf_11 rfl ?_
    refine s_imul A dX11_numberOf_12 ?_
    refine s_iload_n A dX11_numberOf_13 rfl ?_
    refine s_iload_n A dX11_numberOf_14 rfl ?_
    refine s_callS (M := mX11_amountOf) (n := 2) (d := 0) (mc := 0) (ms := 0) (av := [zI x0, zI x2]) (st := [zI (9 * x1)]) A dX11_numberOf_15 zwd1610 zwd1611 zwd100 zcd_X11_amountOf (Nat.le_of_ble_eq_true rfl) (Nat.le_of_ble_eq_true rfl) (Nat.le_refl _) ⟨Nat.le_of_ble_eq_true rfl, Nat.le_of_ble_eq_true rfl⟩ zhn_X11_amountOf rfl (Nat.le_of_ble_eq_true rfl) rfl (z_contI (fun v3 μ3 h => ?_) h)
    refine s_iadd A dX11_numberOf_18 ?_
    refine s_istore_n (L' := [some (zI x0), some (zI ((9 * x1) + v3)), some (zI x2)]) A dX11_numberOf_19 (Nat.le_of_ble_eq_true rfl) rfl ?_
    refine s_iinc (L' := [some (zI x0), some (zI ((9 * x1) + v3)), some (zI (x2 + 1))]) A dX11_numberOf_20 rfl rfl ?_
    refine s_goto (tgt := 4) A dX11_numberOf_23 (by decide) ?_
    exact h
theorem eX11_numberOf {G : zG} {ph : Bool} {F : Int → zM → Prop} {μ : zM} {x0 : Int} (h : ∀ J, zJ G ph (2) 0 0 mX11_numberOf (zKI F) J → J 0 ([some (zI x0), none, none], [], μ, 0, 0)) : qX11_numberOf G ph x0 μ F :=
  z_body (by decide +kernel) (Nat.le_of_ble_eq_true rfl) h
set_option maxRecDepth 20000 in
theorem rX11_levelOf_e {G : zG} {ph : Bool} {F : Int → zM → Prop} {J : Nat → zS → Prop} {μ : zM} (C : zJ G ph (0) 0 0 mX11_levelOf (zKI F) J) (x0 : Int) (x1 : Int)
    (h : (0 ≤ x1 ∧ x1 < 4) ∧ (0 ≤ x0 ∧ x0 < 2147483648) ∧ (0 < zta 7 x1 ∧ zta 7 x1 < 2147483648) ∧ (0 ≤ x0 / (zta 7 x1) ∧ x0 / (zta 7 x1) < 2147483648) ∧ F ((x0 / (zta 7 x1)) % 3) μ) : J 0 ([some (zI x0), some (zI x1)], [], μ, 0, 0) := by
  obtain ⟨p, e, s, m, args, below, meth, c, A, hml, hr, hlk, hnm, rfl⟩ := C
  refine s_iload_n A dX11_levelOf_0 rfl ?_
  refine s_getsT (t := 7) A dX11_levelOf_1 (by decide) zwd1297 ?_
  refine s_iload_n A dX11_levelOf_4 rfl ?_
  obtain ⟨ox1, h⟩ := h
  refine z_tald A dX11_levelOf_5 (by decide) (Nat.le_of_ble_eq_true rfl) ox1 ?_
  obtain ⟨o1, h⟩ := h
  obtain ⟨o2, h⟩ := h
  refine z_idiv A dX11_levelOf_6 o1 o2 ?_
  refine s_iconst A dX11_levelOf_7 ?_
  obtain ⟨o1, h⟩ := h
  refine z_irem A dX11_levelOf_8 o1 ⟨by decide, by decide⟩ ?_
  exact s_iret A dX11_levelOf_9 hr hlk (Nat.le_of_ble_eq_true rfl) (Nat.le_of_ble_eq_true rfl) ⟨_, rfl, h⟩
theorem eX11_levelOf {G : zG} {ph : Bool} {F : Int → zM → Prop} {μ : zM} {x0 : Int} {x1 : Int} (h : ∀ J, zJ G ph (0) 0 0 mX11_levelOf (zKI F) J → J 0 ([some (zI x0), some (zI x1)], [], μ, 0, 0)) : qX11_levelOf G ph x0 x1 μ F :=
  z_body (by decide +kernel) (Nat.le_of_ble_eq_true rfl) h
set_option maxRecDepth 20000 in
theorem rX11_isPlain_e {G : zG} {ph : Bool} {F : Int → zM → Prop} {J : Nat → zS → Prop} {μ : zM} (C : zJ G ph (2) 0 0 mX11_isPlain (zKI F) J) (x0 : Int)
    (h : J 4 ([some (zI x0), some (zI 0), some (zI 0)], [], μ, 0, 0)) : J 0 ([some (zI x0), none, none], [], μ, 0, 0) := by
  obtain ⟨p, e, s, m, args, below, meth, c, A, hml, hr, hlk, hnm, rfl⟩ := C
  refine s_iconst A dX11_isPlain_0 ?_
  refine s_istore_n (L' := [some (zI x0), some (zI 0), none]) A dX11_isPlain_1 (Nat.le_of_ble_eq_true rfl) rfl ?_
  refine s_iconst A dX11_isPlain_2 ?_
  refine s_istore_n (L' := [some (zI x0), some (zI 0), some (zI 0)]) A dX11_isPlain_3 (Nat.le_of_ble_eq_true rfl) rfl ?_
  exact h
set_option maxRecDepth 20000 in
theorem rX11_isPlain_4 {G : zG} {ph : Bool} {F : Int → zM → Prop} {J : Nat → zS → Prop} {μ : zM} (C : zJ G ph (2) 0 0 mX11_isPlain (zKI F) J) (x0 : Int) (x1 : Int) (x2 : Int)
    (h : zin x2 ∧ ((4 ≤ x2 → zin x1 ∧ ((1 < x1 → F 0 μ) ∧ (¬ (1 < x1) → F 1 μ))) ∧ (¬ (4 ≤ x2) → qX11_levelOf G ph x0 x2 μ (fun v5 μ5 => zin v5 ∧ ((v5 ≤ 0 → J 4 ([some (zI x0), some (zI (x1 + 0)), some (zI (x2 + 1))], [], μ5, 0, 0)) ∧ (¬ (v5 ≤ 0) → J 4 ([some (zI x0), some (zI (x1 + 1)), some (zI (x2 + 1))], [], μ5, 0, 0))))))) : J 4 ([some (zI x0), some (zI x1), some (zI x2)], [], μ, 0, 0) := by
  obtain ⟨p, e, s, m, args, below, meth, c, A, hml, hr, hlk, hnm, rfl⟩ := C
  refine s_iload_n A dX11_isPlain_4 rfl ?_
  refine s_iconst A dX11_isPlain_5 ?_
  obtain ⟨oz1, h⟩ := h
  refine z_icmp_ge (tgt := 31) A dX11_isPlain_6 (by decide) oz1 ⟨by decide, by decide⟩ (fun c2 => ?_) (fun c2 => ?_)
  · have h := h.1 c2
    refine s_iload_n A dX11_isPlain_31 rfl ?_
    refine s_iconst A dX11_isPlain_32 ?_
    obtain ⟨oz3, h⟩ := h
    refine z_icmp_gt (tgt := 40) A dX11_isPlain_33 (by decide) oz3 ⟨by decide, by decide⟩ (fun c4 => ?_) (fun c4 => ?_)
    · have h := h.1 c4
      refine s_iconst A dX11_isPlain_40 ?_
      exact s_zret A dX11_isPlain_41 hr hlk (Nat.le_of_ble_eq_true rfl) (Nat.le_of_ble_eq_true rfl) (Or.inl rfl) ⟨_, rfl, h⟩
    · have h := h.2 c4
      refine s_iconst A dX11_isPlain_36 ?_
      refine s_goto (tgt := 41) A dX11_isPlain_37 (by decide) ?_
      exact s_zret A dX11_isPlain_41 hr hlk (Nat.le_of_ble_eq_true rfl) (Nat.le_of_ble_eq_true rfl) (Or.inr rfl) ⟨_, rfl, h⟩
  · have h := h.2 c2
    refine s_iload_n A dX11_isPlain_9 rfl ?_
    refine s_iload_n A dX11_isPlain_10 rfl ?_
    refine s_iload_n A dX11_isPlain_11 rfl ?_
    refine s_callS (M := mX11_levelOf) (n := 2) (d := 0) (mc := 0) (ms := 0) (av := [zI x0, zI x2]) (st := [zI x1]) A dX11_isPlain_12 zwd1514 zwd1515 zwd100 zcd_X11_levelOf (Nat.le_of_ble_eq_true rfl) (Nat.le_of_ble_eq_true rfl) (Nat.le_refl _) ⟨Nat.le_of_ble_eq_true rfl, Nat.le_of_ble_eq_true rfl⟩ zhn_X11_levelOf rfl (Nat.le_of_ble_eq_true rfl) rfl (z_contI (fun v5 μ5 h => ?_) h)
    obtain ⟨oz6, h⟩ := h
    refine z_if_le (tgt := 22) A dX11_isPlain_15 (by decide) oz6 (fun c7 => ?_) (fun c7 => ?_)
    · have h := h.1 c7
      refine s_iconst A dX11_isPlain_22 ?_
      refine s_iadd A dX11_isPlain_23 ?_
      refine s_istore_n (L' := [some (zI x0), some (zI (x1 + 0)), some (zI x2)]) A dX11_isPlain_24 (Nat.le_of_ble_eq_true rfl) rfl ?_
      refine s_iinc (L' := [some (zI x0), some (zI (x1 + 0)), some (zI (x2 + 1))]) A dX11_isPlain_25 rfl rfl ?_
      refine s_goto (tgt := 4) A dX11_isPlain_28 (by decide) ?_
      exact h
    · have h := h.2 c7
      refine s_iconst A dX11_isPlain_18 ?_
      refine s_goto (tgt := 23) A dX11_isPlain_19 (by decide) ?_
      refine s_iadd A dX11_isPlain_23 ?_
      refine s_istore_n (L' := [some (zI x0), some (zI (x1 + 1)), some (zI x2)]) A dX11_isPlain_24 (Nat.le_of_ble_eq_true rfl) rfl ?_
      refine s_iinc (L' := [some (zI x0), some (zI (x1 + 1)), some (zI (x2 + 1))]) A dX11_isPlain_25 rfl rfl ?_
      refine s_goto (tgt := 4) A dX11_isPlain_28 (by decide) ?_
      exact h
theorem eX11_isPlain {G : zG} {ph : Bool} {F : Int → zM → Prop} {μ : zM} {x0 : Int} (h : ∀ J, zJ G ph (2) 0 0 mX11_isPlain (zKI F) J → J 0 ([some (zI x0), none, none], [], μ, 0, 0)) : qX11_isPlain G ph x0 μ F :=
  z_body (by decide +kernel) (Nat.le_of_ble_eq_true rfl) h
set_option maxRecDepth 20000 in
theorem rX11_sign_e {G : zG} {F : Int → zM → Prop} {J : Nat → zS → Prop} {μ : zM} (C : zJ G true (0) 0 0 mX11_sign (zKI F) J) (x1 : Int)
    (h : zin ((zi (zup μ 153 5 0) 153 2) + 4) ∧ (((zi (zup μ 153 5 0) 153 2) + 4 ≤ 80 → J 20 ([some (zR (some 153)), some (zI x1), some (zI 3)], [], zup μ 153 5 0, 0, 0)) ∧ (¬ ((zi (zup μ 153 5 0) 153 2) + 4 ≤ 80) → F (-1) (zup μ 153 5 0)))) : J 0 ([some (zR (some 153)), some (zI x1), none], [], μ, 0, 0) := by
  obtain ⟨p, e, s, m, args, below, meth, c, A, hml, hr, hlk, hnm, rfl⟩ := C
  refine s_aload_n A dX11_sign_0 rfl ?_
  refine s_iconst A dX11_sign_1 ?_
  refine z_putI (k := 11) (j := 5) (sl := true) A dX11_sign_2 rfl zuw_X11 (Nat.le_of_ble_eq_true rfl) zwd1313 (by decide) (zk_153 _) tyX11 tyX11_ok nmX11 rfl rfl rfl ?_
  refine s_aload_n A dX11_sign_5 rfl ?_
  refine s_getf (k := 11) (j := 2) (sl := true) (v := zI (zi (zup μ 153 5 0) 153 2)) A dX11_sign_6 rfl zuw_X11 (Nat.le_of_ble_eq_true rfl) zwd1310 (by decide) (zk_153 _) rfl ?_
  refine s_iconst A dX11_sign_9 ?_
  refine s_iadd A dX11_sign_10 ?_
  refine s_bipush A dX11_sign_11 rfl ?_
  obtain ⟨oz1, h⟩ := h
  refine z_icmp_le (tgt := 18) A dX11_sign_13 (by decide) oz1 ⟨by decide, by decide⟩ (fun c2 => ?_) (fun c2 => ?_)
  · have h := h.1 c2
    refine s_iconst A dX11_sign_18 ?_
    refine s_istore_n (L' := [some (zR (some 153)), some (zI x1), some (zI 3)]) A dX11_sign_19 (Nat.le_of_ble_eq_true rfl) rfl ?_
    exact h
  · have h := h.2 c2
    refine s_iconst A dX11_sign_16 ?_
    exact s_iret A dX11_sign_17 hr hlk (Nat.le_of_ble_eq_true rfl) (Nat.le_of_ble_eq_true rfl) ⟨_, rfl, h⟩
set_option maxRecDepth 20000 in
theorem rX11_sign_20 {G : zG} {F : Int → zM → Prop} {J : Nat → zS → Prop} {μ : zM} (C : zJ G true (0) 0 0 mX11_sign (zKI F) J) (x1 : Int) (x2 : Int)
    (h : zin x2 ∧ ((x2 < 0 → F (zi μ 153 2) μ) ∧ (¬ (x2 < 0) → (0 ≤ zi μ 153 2 ∧ zi μ 153 2 < 80) ∧ J 20 ([some (zR (some 153)), some (zI x1), some (zI (x2 + (-1)))], [], zup (zup μ 153 2 ((zi μ 153 2) + 1)) 155 (zi μ 153 2) (zb (zb (zshr x1 (8 * x2)))), 0, 0)))) : J 20 ([some (zR (some 153)), some (zI x1), some (zI x2)], [], μ, 0, 0) := by
  obtain ⟨p, e, s, m, args, below, meth, c, A, hml, hr, hlk, hnm, rfl⟩ := C
  refine s_iload_n A dX11_sign_20 rfl ?_
  obtain ⟨oz1, h⟩ := h
  refine z_if_lt (tgt := 53) A dX11_sign_21 (by decide) oz1 (fun c2 => ?_) (fun c2 => ?_)
  · have h := h.1 c2
    refine s_aload_n A dX11_sign_53 rfl ?_
    refine s_getf (k := 11) (j := 2) (sl := true) (v := zI (zi μ 153 2)) A dX11_sign_54 rfl zuw_X11 (Nat.le_of_ble_eq_true rfl) zwd1310 (by decide) (zk_153 _) rfl ?_
    exact s_iret A dX11_sign_57 hr hlk (Nat.le_of_ble_eq_true rfl) (Nat.le_of_ble_eq_true rfl) ⟨_, rfl, h⟩
  · have h := h.2 c2
    refine s_aload_n A dX11_sign_24 rfl ?_
    refine s_getf (k := 11) (j := 1) (sl := true) (v := zR (some 155)) A dX11_sign_25 rfl zuw_X11 (Nat.le_of_ble_eq_true rfl) zwd1309 (by decide) (zk_153 _) rfl ?_
    refine s_aload_n A dX11_sign_28 rfl ?_
    refine s_dup A dX11_sign_29 rfl ?_
    refine s_getf (k := 11) (j := 2) (sl := true) (v := zI (zi μ 153 2)) A dX11_sign_30 rfl zuw_X11 (Nat.le_of_ble_eq_true rfl) zwd1310 (by decide) (zk_153 _) rfl ?_
    refine s_dup_x1 A dX11_sign_33 rfl rfl ?_
    refine s_iconst A dX11_sign_34 ?_
    refine s_iadd A dX11_sign_35 ?_
    refine z_putI (k := 11) (j := 2) (sl := true) A dX11_sign_36 rfl zuw_X11 (Nat.le_of_ble_eq_true rfl) zwd1310 (by decide) (zk_153 _) tyX11 tyX11_ok nmX11 rfl rfl rfl ?_
    refine s_iload_n A dX11_sign_39 rfl ?_
    refine s_bipush A dX11_sign_40 rfl ?_
    refine s_iload_n A dX11_sign_42 rfl ?_
    refine s_imul A dX11_sign_43 ?_
    refine s_ishr A dX11_sign_44 ?_
    refine s_i2b A dX11_sign_45 ?_
    obtain ⟨ox3, h⟩ := h
    refine z_bast A dX11_sign_46 (zk_155 _) (Nat.le_of_ble_eq_true rfl) ox3 ?_
    refine s_iinc (L' := [some (zR (some 153)), some (zI x1), some (zI (x2 + (-1)))]) A dX11_sign_47 rfl rfl ?_
    refine s_goto (tgt := 20) A dX11_sign_50 (by decide) ?_
    exact h
theorem eX11_sign {G : zG} {F : Int → zM → Prop} {μ : zM} {x1 : Int} (h : ∀ J, zJ G true (0) 0 0 mX11_sign (zKI F) J → J 0 ([some (zR (some 153)), some (zI x1), none], [], μ, 0, 0)) : qX11_sign G x1 μ F :=
  z_body (by decide +kernel) (Nat.le_of_ble_eq_true rfl) h
set_option maxRecDepth 20000 in
theorem rX11_end_e {G : zG} {F : Int → zM → Prop} {J : Nat → zS → Prop} {μ : zM} (C : zJ G true (2) 0 0 mX11_end (zKI F) J) (x1 : Int)
    (h : qX11_in G true x1 0 (zi (zup μ 153 5 0) 153 2) (zup μ 153 5 0) (fun v1 μ1 => zin v1 ∧ ((¬ v1 = 0 → F 1 (zup μ1 153 2 x1)) ∧ (v1 = 0 → F 0 μ1)))) : J 0 ([some (zR (some 153)), some (zI x1)], [], μ, 0, 0) := by
  obtain ⟨p, e, s, m, args, below, meth, c, A, hml, hr, hlk, hnm, rfl⟩ := C
  refine s_aload_n A dX11_end_0 rfl ?_
  refine s_iconst A dX11_end_1 ?_
  refine z_putI (k := 11) (j := 5) (sl := true) A dX11_end_2 rfl zuw_X11 (Nat.le_of_ble_eq_true rfl) zwd1313 (by decide) (zk_153 _) tyX11 tyX11_ok nmX11 rfl rfl rfl ?_
  refine s_iload_n A dX11_end_5 rfl ?_
  refine s_iconst A dX11_end_6 ?_
  refine s_aload_n A dX11_end_7 rfl ?_
  refine s_getf (k := 11) (j := 2) (sl := true) (v := zI (zi (zup μ 153 5 0) 153 2)) A dX11_end_8 rfl zuw_X11 (Nat.le_of_ble_eq_true rfl) zwd1310 (by decide) (zk_153 _) rfl ?_
  refine s_callS (M := mX11_in) (n := 3) (d := 0) (mc := 0) (ms := 0) (av := [zI x1, zI 0, zI (zi (zup μ 153 5 0) 153 2)]) (st := []) A dX11_end_11 zwd1456 zwd1457 zwd100 zcd_X11_in (Nat.le_of_ble_eq_true rfl) (Nat.le_of_ble_eq_true rfl) (Nat.le_refl _) ⟨Nat.le_of_ble_eq_true rfl, Nat.le_of_ble_eq_true rfl⟩ zhn_X11_in rfl (Nat.le_of_ble_eq_true rfl) rfl (z_contI (fun v1 μ1 h => ?_) h)
  obtain ⟨oz2, h⟩ := h
  refine z_if_ne (tgt := 19) A dX11_end_14 (by decide) oz2 (fun c3 => ?_) (fun c3 => ?_)
  · have h := h.1 c3
    refine s_aload_n A dX11_end_19 rfl ?_
    refine s_iload_n A dX11_end_20 rfl ?_
    refine z_putI (k := 11) (j := 2) (sl := true) A dX11_end_21 rfl zuw_X11 (Nat.le_of_ble_eq_true rfl) zwd1310 (by decide) (zk_153 _) tyX11 tyX11_ok nmX11 rfl rfl rfl ?_
    refine s_iconst A dX11_end_24 ?_
    exact s_zret A dX11_end_25 hr hlk (Nat.le_of_ble_eq_true rfl) (Nat.le_of_ble_eq_true rfl) (Or.inr rfl) ⟨_, rfl, h⟩
  · have h := h.2 c3
    refine s_iconst A dX11_end_17 ?_
    exact s_zret A dX11_end_18 hr hlk (Nat.le_of_ble_eq_true rfl) (Nat.le_of_ble_eq_true rfl) (Or.inl rfl) ⟨_, rfl, h⟩
theorem eX11_end {G : zG} {F : Int → zM → Prop} {μ : zM} {x1 : Int} (h : ∀ J, zJ G true (2) 0 0 mX11_end (zKI F) J → J 0 ([some (zR (some 153)), some (zI x1)], [], μ, 0, 0)) : qX11_end G x1 μ F :=
  z_body (by decide +kernel) (Nat.le_of_ble_eq_true rfl) h
set_option maxRecDepth 20000 in
theorem rX11_begin_e {G : zG} {F : zM → Prop} {J : Nat → zS → Prop} {μ : zM} (C : zJ G true (0) 0 0 mX11_begin (zKV F) J) (x1 : Int)
    (h : F (zup (zup (zup (zup (zup μ 153 6 (zi μ 153 2)) 153 7 x1) 153 8 0) 153 9 (-1)) 153 2 0)) : J 0 ([some (zR (some 153)), some (zI x1)], [], μ, 0, 0) := by
  obtain ⟨p, e, s, m, args, below, meth, c, A, hml, hr, hlk, hnm, rfl⟩ := C
  refine s_aload_n A dX11_begin_0 rfl ?_
  refine s_aload_n A dX11_begin_1 rfl ?_
  refine s_getf (k := 11) (j := 2) (sl := true) (v := zI (zi μ 153 2)) A dX11_begin_2 rfl zuw_X11 (Nat.le_of_ble_eq_true rfl) zwd1310 (by decide) (zk_153 _) rfl ?_
  refine z_putI (k := 11) (j := 6) (sl := true) A dX11_begin_5 rfl zuw_X11 (Nat.le_of_ble_eq_true rfl) zwd1314 (by decide) (zk_153 _) tyX11 tyX11_ok nmX11 rfl rfl rfl ?_
  refine s_aload_n A dX11_begin_8 rfl ?_
  refine s_iload_n A dX11_begin_9 rfl ?_
  refine z_putI (k := 11) (j := 7) (sl := true) A dX11_begin_10 rfl zuw_X11 (Nat.le_of_ble_eq_true rfl) zwd1315 (by decide) (zk_153 _) tyX11 tyX11_ok nmX11 rfl rfl rfl ?_
  refine s_aload_n A dX11_begin_13 rfl ?_
  refine s_iconst A dX11_begin_14 ?_
  refine z_putI (k := 11) (j := 8) (sl := true) A dX11_begin_15 rfl zuw_X11 (Nat.le_of_ble_eq_true rfl) zwd1316 (by decide) (zk_153 _) tyX11 tyX11_ok nmX11 rfl rfl rfl ?_
  refine s_aload_n A dX11_begin_18 rfl ?_
  refine s_iconst A dX11_begin_19 ?_
  refine z_putI (k := 11) (j := 9) (sl := true) A dX11_begin_20 rfl zuw_X11 (Nat.le_of_ble_eq_true rfl) zwd1317 (by decide) (zk_153 _) tyX11 tyX11_ok nmX11 rfl rfl rfl ?_
  refine s_aload_n A dX11_begin_23 rfl ?_
  refine s_iconst A dX11_begin_24 ?_
  refine z_putI (k := 11) (j := 2) (sl := true) A dX11_begin_25 rfl zuw_X11 (Nat.le_of_ble_eq_true rfl) zwd1310 (by decide) (zk_153 _) tyX11 tyX11_ok nmX11 rfl rfl rfl ?_
  exact s_vret A dX11_begin_28 hr hlk (Nat.le_of_ble_eq_true rfl) (Nat.le_of_ble_eq_true rfl) ⟨rfl, h⟩
theorem eX11_begin {G : zG} {F : zM → Prop} {μ : zM} {x1 : Int} (h : ∀ J, zJ G true (0) 0 0 mX11_begin (zKV F) J → J 0 ([some (zR (some 153)), some (zI x1)], [], μ, 0, 0)) : qX11_begin G x1 μ F :=
  z_body (by decide +kernel) (Nat.le_of_ble_eq_true rfl) h
set_option maxRecDepth 20000 in
theorem rX11_here_e {G : zG} {F : Int → zM → Prop} {J : Nat → zS → Prop} {μ : zM} (C : zJ G true (0) 0 0 mX11_here (zKI F) J) 
    (h : zin (zi μ 153 8) ∧ zin (zi μ 153 6) ∧ ((zi μ 153 6 ≤ zi μ 153 8 → F (-1) μ) ∧ (¬ (zi μ 153 6 ≤ zi μ 153 8) → zin (zi μ 153 7) ∧ ((zi μ 153 7 ≤ zi μ 153 8 → F (-1) μ) ∧ (¬ (zi μ 153 7 ≤ zi μ 153 8) → (0 ≤ zi μ 153 8 ∧ zi μ 153 8 < 80) ∧ F ((zi μ 155 (zi μ 153 8)) % 256) μ))))) : J 0 ([some (zR (some 153))], [], μ, 0, 0) := by
  obtain ⟨p, e, s, m, args, below, meth, c, A, hml, hr, hlk, hnm, rfl⟩ := C
  refine s_aload_n A dX11_here_0 rfl ?_
  refine s_getf (k := 11) (j := 8) (sl := true) (v := zI (zi μ 153 8)) A dX11_here_1 rfl zuw_X11 (Nat.le_of_ble_eq_true rfl) zwd1316 (by decide) (zk_153 _) rfl ?_
  refine s_aload_n A dX11_here_4 rfl ?_
  refine s_getf (k := 11) (j := 6) (sl := true) (v := zI (zi μ 153 6)) A dX11_here_5 rfl zuw_X11 (Nat.le_of_ble_eq_true rfl) zwd1314 (by decide) (zk_153 _) rfl ?_
  obtain ⟨oz1, h⟩ := h
  obtain ⟨oz2, h⟩ := h
  refine z_icmp_ge (tgt := 38) A dX11_here_8 (by decide) oz1 oz2 (fun c3 => ?_) (fun c3 => ?_)
  · have h := h.1 c3
    refine s_iconst A dX11_here_38 ?_
    exact s_iret A dX11_here_39 hr hlk (Nat.le_of_ble_eq_true rfl) (Nat.le_of_ble_eq_true rfl) ⟨_, rfl, h⟩
  · have h := h.2 c3
    refine s_aload_n A dX11_here_11 rfl ?_
    refine s_getf (k := 11) (j := 8) (sl := true) (v := zI (zi μ 153 8)) A dX11_here_12 rfl zuw_X11 (Nat.le_of_ble_eq_true rfl) zwd1316 (by decide) (zk_153 _) rfl ?_
    refine s_aload_n A dX11_here_15 rfl ?_
    refine s_getf (k := 11) (j := 7) (sl := true) (v := zI (zi μ 153 7)) A dX11_here_16 rfl zuw_X11 (Nat.le_of_ble_eq_true rfl) zwd1315 (by decide) (zk_153 _) rfl ?_
    obtain ⟨oz4, h⟩ := h
    refine z_icmp_ge (tgt := 38) A dX11_here_19 (by decide) oz1 oz4 (fun c5 => ?_) (fun c5 => ?_)
    · have h := h.1 c5
      refine s_iconst A dX11_here_38 ?_
      exact s_iret A dX11_here_39 hr hlk (Nat.le_of_ble_eq_true rfl) (Nat.le_of_ble_eq_true rfl) ⟨_, rfl, h⟩
    · have h := h.2 c5
      refine s_aload_n A dX11_here_22 rfl ?_
      refine s_getf (k := 11) (j := 1) (sl := true) (v := zR (some 155)) A dX11_here_23 rfl zuw_X11 (Nat.le_of_ble_eq_true rfl) zwd1309 (by decide) (zk_153 _) rfl ?_
      refine s_aload_n A dX11_here_26 rfl ?_
      refine s_getf (k := 11) (j := 8) (sl := true) (v := zI (zi μ 153 8)) A dX11_here_27 rfl zuw_X11 (Nat.le_of_ble_eq_true rfl) zwd1316 (by decide) (zk_153 _) rfl ?_
      obtain ⟨ox6, h⟩ := h
      refine z_bald A dX11_here_30 (zk_155 _) (Nat.le_of_ble_eq_true rfl) ox6 ?_
      refine s_sipush A dX11_here_31 rfl ?_
      refine z_iand255 A dX11_here_34 ?_
      refine s_goto (tgt := 39) A dX11_here_35 (by decide) ?_
      exact s_iret A dX11_here_39 hr hlk (Nat.le_of_ble_eq_true rfl) (Nat.le_of_ble_eq_true rfl) ⟨_, rfl, h⟩
theorem eX11_here {G : zG} {F : Int → zM → Prop} {μ : zM}  (h : ∀ J, zJ G true (0) 0 0 mX11_here (zKI F) J → J 0 ([some (zR (some 153))], [], μ, 0, 0)) : qX11_here G  μ F :=
  z_body (by decide +kernel) (Nat.le_of_ble_eq_true rfl) h
set_option maxRecDepth 20000 in
theorem rX11_fine_e {G : zG} {F : Int → zM → Prop} {J : Nat → zS → Prop} {μ : zM} (C : zJ G true (0) 0 0 mX11_fine (zKI F) J) 
    (h : zin (zi μ 153 9) ∧ ((¬ zi μ 153 9 = -1 → F 0 μ) ∧ (zi μ 153 9 = -1 → F 1 μ))) : J 0 ([some (zR (some 153))], [], μ, 0, 0) := by
  obtain ⟨p, e, s, m, args, below, meth, c, A, hml, hr, hlk, hnm, rfl⟩ := C
  refine s_aload_n A dX11_fine_0 rfl ?_
  refine s_getf (k := 11) (j := 9) (sl := true) (v := zI (zi μ 153 9)) A dX11_fine_1 rfl zuw_X11 (Nat.le_of_ble_eq_true rfl) zwd1317 (by decide) (zk_153 _) rfl ?_
  refine s_iconst A dX11_fine_4 ?_
  obtain ⟨oz1, h⟩ := h
  refine z_icmp_ne (tgt := 12) A dX11_fine_5 (by decide) oz1 ⟨by decide, by decide⟩ (fun c2 => ?_) (fun c2 => ?_)
  · have h := h.1 c2
    refine s_iconst A dX11_fine_12 ?_
    exact s_zret A dX11_fine_13 hr hlk (Nat.le_of_ble_eq_true rfl) (Nat.le_of_ble_eq_true rfl) (Or.inl rfl) ⟨_, rfl, h⟩
  · have h := h.2 c2
    refine s_iconst A dX11_fine_8 ?_
    refine s_goto (tgt := 13) A dX11_fine_9 (by decide) ?_
    exact s_zret A dX11_fine_13 hr hlk (Nat.le_of_ble_eq_true rfl) (Nat.le_of_ble_eq_true rfl) (Or.inr rfl) ⟨_, rfl, h⟩
theorem eX11_fine {G : zG} {F : Int → zM → Prop} {μ : zM}  (h : ∀ J, zJ G true (0) 0 0 mX11_fine (zKI F) J → J 0 ([some (zR (some 153))], [], μ, 0, 0)) : qX11_fine G  μ F :=
  z_body (by decide +kernel) (Nat.le_of_ble_eq_true rfl) h
set_option maxRecDepth 20000 in
theorem rX11_fault_e {G : zG} {F : zM → Prop} {J : Nat → zS → Prop} {μ : zM} (C : zJ G true (2) 0 0 mX11_fault (zKV F) J) (x1 : Int)
    (h : qX11_fine G μ (fun v1 μ1 => zin v1 ∧ ((v1 = 0 → F μ1) ∧ (¬ (v1 = 0) → F (zup μ1 153 9 x1))))) : J 0 ([some (zR (some 153)), some (zI x1)], [], μ, 0, 0) := by
  obtain ⟨p, e, s, m, args, below, meth, c, A, hml, hr, hlk, hnm, rfl⟩ := C
  refine s_aload_n A dX11_fault_0 rfl ?_
  refine s_callV (a := 153) (k := 11) (N := 45) (sl := true) (M := mX11_fine) (n := 0) (d := 0) (mc := 0) (ms := 0) (av := []) (st := []) A dX11_fault_1 rfl (by decide) (zk_153 _) zwd1467 zwd1469 zwd31 zwd100 zcd_X11_fine (Nat.le_of_ble_eq_true rfl) (Nat.le_of_ble_eq_true rfl) (Nat.le_refl _) ⟨Nat.le_of_ble_eq_true rfl, Nat.le_of_ble_eq_true rfl⟩ ⟨rfl, zhn_X11_fine⟩ rfl (Nat.le_of_ble_eq_true rfl) rfl (z_contI (fun v1 μ1 h => ?_) h)
  obtain ⟨oz2, h⟩ := h
  refine z_if_eq (tgt := 12) A dX11_fault_4 (by decide) oz2 (fun c3 => ?_) (fun c3 => ?_)
  · have h := h.1 c3
    exact s_vret A dX11_fault_12 hr hlk (Nat.le_of_ble_eq_true rfl) (Nat.le_of_ble_eq_true rfl) ⟨rfl, h⟩
  · have h := h.2 c3
    refine s_aload_n A dX11_fault_7 rfl ?_
    refine s_iload_n A dX11_fault_8 rfl ?_
    refine z_putI (k := 11) (j := 9) (sl := true) A dX11_fault_9 rfl zuw_X11 (Nat.le_of_ble_eq_true rfl) zwd1317 (by decide) (zk_153 _) tyX11 tyX11_ok nmX11 rfl rfl rfl ?_
    exact s_vret A dX11_fault_12 hr hlk (Nat.le_of_ble_eq_true rfl) (Nat.le_of_ble_eq_true rfl) ⟨rfl, h⟩
theorem eX11_fault {G : zG} {F : zM → Prop} {μ : zM} {x1 : Int} (h : ∀ J, zJ G true (2) 0 0 mX11_fault (zKV F) J → J 0 ([some (zR (some 153)), some (zI x1)], [], μ, 0, 0)) : qX11_fault G x1 μ F :=
  z_body (by decide +kernel) (Nat.le_of_ble_eq_true rfl) h
set_option maxRecDepth 20000 in
theorem rX11_oneOf_e {G : zG} {F : Int → zM → Prop} {J : Nat → zS → Prop} {μ : zM} (C : zJ G true (3) 0 0 mX11_oneOf (zKI F) J) (x1 : Int) (x2 : Int)
    (h : qX11_fine G μ (fun v1 μ1 => zin v1 ∧ ((¬ v1 = 0 → qX11_here G μ1 (fun v4 μ4 => qX11_in G true v4 x1 ((x1 + x2) - 1) μ4 (fun v5 μ5 => zin v5 ∧ ((¬ v5 = 0 → (0 ≤ (zi (zup μ5 153 8 ((zi μ5 153 8) + 1)) 153 8) - 1 ∧ (zi (zup μ5 153 8 ((zi μ5 153 8) + 1)) 153 8) - 1 < 80) ∧ F ((zi (zup μ5 153 8 ((zi μ5 153 8) + 1)) 155 ((zi (zup μ5 153 8 ((zi μ5 153 8) + 1)) 153 8) - 1)) - x1) (zup μ5 153 8 ((zi μ5 153 8) + 1))) ∧ (v5 = 0 → qX11_fault G (zi μ5 153 8) μ5 (fun μ9 => F 0 μ9)))))) ∧ (v1 = 0 → F 0 μ1)))) : J 0 ([some (zR (some 153)), some (zI x1), some (zI x2)], [], μ, 0, 0) := by
  obtain ⟨p, e, s, m, args, below, meth, c, A, hml, hr, hlk, hnm, rfl⟩ := C
  refine s_aload_n A dX11_oneOf_0 rfl ?_
  refine s_callV (a := 153) (k := 11) (N := 45) (sl := true) (M := mX11_fine) (n := 0) (d := 0) (mc := 0) (ms := 0) (av := []) (st := []) A dX11_oneOf_1 rfl (by decide) (zk_153 _) zwd1467 zwd1469 zwd31 zwd100 zcd_X11_fine (Nat.le_of_ble_eq_true rfl) (Nat.le_of_ble_eq_true rfl) (Nat.le_refl _) ⟨Nat.le_of_ble_eq_true rfl, Nat.le_of_ble_eq_true rfl⟩ ⟨rfl, zhn_X11_fine⟩ rfl (Nat.le_of_ble_eq_true rfl) rfl (z_contI (fun v1 μ1 h => ?_) h)
  obtain ⟨oz2, h⟩ := h
  refine z_if_ne (tgt := 9) A dX11_oneOf_4 (by decide) oz2 (fun c3 => ?_) (fun c3 => ?_)
  · have h := h.1 c3
    refine s_aload_n A dX11_oneOf_9 rfl ?_
    refine s_callV (a := 153) (k := 11) (N := 45) (sl := true) (M := mX11_here) (n := 0) (d := 0) (mc := 0) (ms := 0) (av := []) (st := []) A dX11_oneOf_10 rfl (by decide) (zk_153 _) zwd1483 zwd1485 zwd35 zwd100 zcd_X11_here (Nat.le_of_ble_eq_true rfl) (Nat.le_of_ble_eq_true rfl) (Nat.le_refl _) ⟨Nat.le_of_ble_eq_true rfl, Nat.le_of_ble_eq_true rfl⟩ ⟨rfl, zhn_X11_here⟩ rfl (Nat.le_of_ble_eq_true rfl) rfl (z_contI (fun v4 μ4 h => ?_) h)
    refine s_iload_n A dX11_oneOf_13 rfl ?_
    refine s_iload_n A dX11_oneOf_14 rfl ?_
    refine s_iload_n A dX11_oneOf_15 rfl ?_
    refine s_iadd A dX11_oneOf_16 ?_
    refine s_iconst A dX11_oneOf_17 ?_
    refine s_isub A dX11_oneOf_18 ?_
    refine s_callS (M := mX11_in) (n := 3) (d := 0) (mc := 0) (ms := 0) (av := [zI v4, zI x1, zI ((x1 + x2) - 1)]) (st := []) A dX11_oneOf_19 zwd1456 zwd1457 zwd100 zcd_X11_in (Nat.le_of_ble_eq_true rfl) (Nat.le_of_ble_eq_true rfl) (Nat.le_refl _) ⟨Nat.le_of_ble_eq_true rfl, Nat.le_of_ble_eq_true rfl⟩ zhn_X11_in rfl (Nat.le_of_ble_eq_true rfl) rfl (z_contI (fun v5 μ5 h => ?_) h)
    obtain ⟨oz6, h⟩ := h
    refine z_if_ne (tgt := 35) A dX11_oneOf_22 (by decide) oz6 (fun c7 => ?_) (fun c7 => ?_)
    · have h := h.1 c7
      refine s_aload_n A dX11_oneOf_35 rfl ?_
      refine s_dup A dX11_oneOf_36 rfl ?_
      refine s_getf (k := 11) (j := 8) (sl := true) (v := zI (zi μ5 153 8)) A dX11_oneOf_37 rfl zuw_X11 (Nat.le_of_ble_eq_true rfl) zwd1316 (by decide) (zk_153 _) rfl ?_
      refine s_iconst A dX11_oneOf_40 ?_
      refine s_iadd A dX11_oneOf_41 ?_
      refine z_putI (k := 11) (j := 8) (sl := true) A dX11_oneOf_42 rfl zuw_X11 (Nat.le_of_ble_eq_true rfl) zwd1316 (by decide) (zk_153 _) tyX11 tyX11_ok nmX11 rfl rfl rfl ?_
      refine s_aload_n A dX11_oneOf_45 rfl ?_
      refine s_getf (k := 11) (j := 1) (sl := true) (v := zR (some 155)) A dX11_oneOf_46 rfl zuw_X11 (Nat.le_of_ble_eq_true rfl) zwd1309 (by decide) (zk_153 _) rfl ?_
      refine s_aload_n A dX11_oneOf_49 rfl ?_
      refine s_getf (k := 11) (j := 8) (sl := true) (v := zI (zi (zup μ5 153 8 ((zi μ5 153 8) + 1)) 153 8)) A dX11_oneOf_50 rfl zuw_X11 (Nat.le_of_ble_eq_true rfl) zwd1316 (by decide) (zk_153 _) rfl ?_
      refine s_iconst A dX11_oneOf_53 ?_
      refine s_isub A dX11_oneOf_54 ?_
      obtain ⟨ox8, h⟩ := h
      refine z_bald A dX11_oneOf_55 (zk_155 _) (Nat.le_of_ble_eq_true rfl) ox8 ?_
      refine s_iload_n A dX11_oneOf_56 rfl ?_
      refine s_isub A dX11_oneOf_57 ?_
      exact s_iret A dX11_oneOf_58 hr hlk (Nat.le_of_ble_eq_true rfl) (Nat.le_of_ble_eq_true rfl) ⟨_, rfl, h⟩
    · have h := h.2 c7
      refine s_aload_n A dX11_oneOf_25 rfl ?_
      refine s_aload_n A dX11_oneOf_26 rfl ?_
      refine s_getf (k := 11) (j := 8) (sl := true) (v := zI (zi μ5 153 8)) A dX11_oneOf_27 rfl zuw_X11 (Nat.le_of_ble_eq_true rfl) zwd1316 (by decide) (zk_153 _) rfl ?_
      refine s_callV (a := 153) (k := 11) (N := 45) (sl := true) (M := mX11_fault) (n := 1) (d := 2) (mc := 0) (ms := 0) (av := [zI (zi μ5 153 8)]) (st := []) A dX11_oneOf_30 rfl (by decide) (zk_153 _) zwd1487 zwd1489 zwd36 zwd100 zcd_X11_fault (Nat.le_of_ble_eq_true rfl) (Nat.le_of_ble_eq_true rfl) (Nat.le_refl _) ⟨Nat.le_of_ble_eq_true rfl, Nat.le_of_ble_eq_true rfl⟩ ⟨rfl, zhn_X11_fault⟩ rfl (Nat.le_of_ble_eq_true rfl) rfl (z_contV (fun μ9 h => ?_) h)
      refine s_iconst A dX11_oneOf_33 ?_
      exact s_iret A dX11_oneOf_34 hr hlk (Nat.le_of_ble_eq_true rfl) (Nat.le_of_ble_eq_true rfl) ⟨_, rfl, h⟩
  · have h := h.2 c3
    refine s_iconst A dX11_oneOf_7 ?_
    exact s_iret A dX11_oneOf_8 hr hlk (Nat.le_of_ble_eq_true rfl) (Nat.le_of_ble_eq_true rfl) ⟨_, rfl, h⟩
theorem eX11_oneOf {G : zG} {F : Int → zM → Prop} {μ : zM} {x1 : Int} {x2 : Int} (h : ∀ J, zJ G true (3) 0 0 mX11_oneOf (zKI F) J → J 0 ([some (zR (some 153)), some (zI x1), some (zI x2)], [], μ, 0, 0)) : qX11_oneOf G x1 x2 μ F :=
  z_body (by decide +kernel) (Nat.le_of_ble_eq_true rfl) h
set_option maxRecDepth 20000 in
theorem rX11_need_e {G : zG} {F : zM → Prop} {J : Nat → zS → Prop} {μ : zM} (C : zJ G true (4) 0 0 mX11_need (zKV F) J) (x1 : Int)
    (h : qX11_oneOf G x1 1 μ (fun v1 μ1 => F μ1)) : J 0 ([some (zR (some 153)), some (zI x1)], [], μ, 0, 0) := by
  obtain ⟨p, e, s, m, args, below, meth, c, A, hml, hr, hlk, hnm, rfl⟩ := C
  refine s_aload_n A dX11_need_0 rfl ?_
  refine s_iload_n A dX11_need_1 rfl ?_
  refine s_iconst A dX11_need_2 ?_
  refine s_callV (a := 153) (k := 11) (N := 45) (sl := true) (M := mX11_oneOf) (n := 2) (d := 3) (mc := 0) (ms := 0) (av := [zI x1, zI 1]) (st := []) A dX11_need_3 rfl (by decide) (zk_153 _) zwd1479 zwd1481 zwd34 zwd100 zcd_X11_oneOf (Nat.le_of_ble_eq_true rfl) (Nat.le_of_ble_eq_true rfl) (Nat.le_refl _) ⟨Nat.le_of_ble_eq_true rfl, Nat.le_of_ble_eq_true rfl⟩ ⟨rfl, zhn_X11_oneOf⟩ rfl (Nat.le_of_ble_eq_true rfl) rfl (z_contI (fun v1 μ1 h => ?_) h)
  refine s_pop A dX11_need_6 rfl ?_
  exact s_vret A dX11_need_7 hr hlk (Nat.le_of_ble_eq_true rfl) (Nat.le_of_ble_eq_true rfl) ⟨rfl, h⟩
theorem eX11_need {G : zG} {F : zM → Prop} {μ : zM} {x1 : Int} (h : ∀ J, zJ G true (4) 0 0 mX11_need (zKV F) J → J 0 ([some (zR (some 153)), some (zI x1)], [], μ, 0, 0)) : qX11_need G x1 μ F :=
  z_body (by decide +kernel) (Nat.le_of_ble_eq_true rfl) h
set_option maxRecDepth 20000 in
theorem rX11_twoDigits_e {G : zG} {F : Int → zM → Prop} {J : Nat → zS → Prop} {μ : zM} (C : zJ G true (4) 0 0 mX11_twoDigits (zKI F) J) 
    (h : qX11_oneOf G 48 10 μ (fun v1 μ1 => qX11_oneOf G 48 10 μ1 (fun v2 μ2 => F ((10 * v1) + v2) μ2))) : J 0 ([some (zR (some 153)), none], [], μ, 0, 0) := by
  obtain ⟨p, e, s, m, args, below, meth, c, A, hml, hr, hlk, hnm, rfl⟩ := C
  refine s_aload_n A dX11_twoDigits_0 rfl ?_
  refine s_bipush A dX11_twoDigits_1 rfl ?_
  refine s_bipush A dX11_twoDigits_3 rfl ?_
  refine s_callV (a := 153) (k := 11) (N := 45) (sl := true) (M := mX11_oneOf) (n := 2) (d := 3) (mc := 0) (ms := 0) (av := [zI 48, zI 10]) (st := []) A dX11_twoDigits_5 rfl (by decide) (zk_153 _) zwd1479 zwd1481 zwd34 zwd100 zcd_X11_oneOf (Nat.le_of_ble_eq_true rfl) (Nat.le_of_ble_eq_true rfl) (Nat.le_refl _) ⟨Nat.le_of_ble_eq_true rfl, Nat.le_of_ble_eq_true rfl⟩ ⟨rfl, zhn_X11_oneOf⟩ rfl (Nat.le_of_ble_eq_true rfl) rfl (z_contI (fun v1 μ1 h => ?_) h)
  refine s_istore_n (L' := [some (zR (some 153)), some (zI v1)]) A dX11_twoDigits_8 (Nat.le_of_ble_eq_true rfl) rfl ?_
  refine s_bipush A dX11_twoDigits_9 rfl ?_
  refine s_iload_n A dX11_twoDigits_11 rfl ?_
  refine s_imul A dX11_twoDigits_12 ?_
  refine s_aload_n A dX11_twoDigits_13 rfl ?_
  refine s_bipush A dX11_twoDigits_14 rfl ?_
  refine s_bipush A dX11_twoDigits_16 rfl ?_
  refine s_callV (a := 153) (k := 11) (N := 45) (sl := true) (M := mX11_oneOf) (n := 2) (d := 3) (mc := 0) (ms := 0) (av := [zI 48, zI 10]) (st := [zI (10 * v1)]) A dX11_twoDigits_18 rfl (by decide) (zk_153 _) zwd1479 zwd1481 zwd34 zwd100 zcd_X11_oneOf (Nat.le_of_ble_eq_true rfl) (Nat.le_of_ble_eq_true rfl) (Nat.le_refl _) ⟨Nat.le_of_ble_eq_true rfl, Nat.le_of_ble_eq_true rfl⟩ ⟨rfl, zhn_X11_oneOf⟩ rfl (Nat.le_of_ble_eq_true rfl) rfl (z_contI (fun v2 μ2 h => ?_) h)
  refine s_iadd A dX11_twoDigits_21 ?_
  exact s_iret A dX11_twoDigits_22 hr hlk (Nat.le_of_ble_eq_true rfl) (Nat.le_of_ble_eq_true rfl) ⟨_, rfl, h⟩
theorem eX11_twoDigits {G : zG} {F : Int → zM → Prop} {μ : zM}  (h : ∀ J, zJ G true (4) 0 0 mX11_twoDigits (zKI F) J → J 0 ([some (zR (some 153)), none], [], μ, 0, 0)) : qX11_twoDigits G  μ F :=
  z_body (by decide +kernel) (Nat.le_of_ble_eq_true rfl) h
set_option maxRecDepth 20000 in
theorem rX11_wasRight_e {G : zG} {F : Int → zM → Prop} {J : Nat → zS → Prop} {μ : zM} (C : zJ G true (3) 0 0 mX11_wasRight (zKI F) J) 
    (h : zin (zi μ 153 8) ∧ zin (zi μ 153 6) ∧ ((zi μ 153 6 ≤ zi μ 153 8 → qX11_fine G μ (fun v4 μ4 => (v4 = 0 ∨ v4 = 1) ∧ F v4 μ4)) ∧ (¬ (zi μ 153 6 ≤ zi μ 153 8) → qX11_fault G (zi μ 153 8) μ (fun μ5 => qX11_fine G μ5 (fun v6 μ6 => (v6 = 0 ∨ v6 = 1) ∧ F v6 μ6))))) : J 0 ([some (zR (some 153))], [], μ, 0, 0) := by
  obtain ⟨p, e, s, m, args, below, meth, c, A, hml, hr, hlk, hnm, rfl⟩ := C
  refine s_aload_n A dX11_wasRight_0 rfl ?_
  refine s_getf (k := 11) (j := 8) (sl := true) (v := zI (zi μ 153 8)) A dX11_wasRight_1 rfl zuw_X11 (Nat.le_of_ble_eq_true rfl) zwd1316 (by decide) (zk_153 _) rfl ?_
  refine s_aload_n A dX11_wasRight_4 rfl ?_
  refine s_getf (k := 11) (j := 6) (sl := true) (v := zI (zi μ 153 6)) A dX11_wasRight_5 rfl zuw_X11 (Nat.le_of_ble_eq_true rfl) zwd1314 (by decide) (zk_153 _) rfl ?_
  obtain ⟨oz1, h⟩ := h
  obtain ⟨oz2, h⟩ := h
  refine z_icmp_ge (tgt := 19) A dX11_wasRight_8 (by decide) oz1 oz2 (fun c3 => ?_) (fun c3 => ?_)
  · have h := h.1 c3
    refine s_aload_n A dX11_wasRight_19 rfl ?_
    refine s_callV (a := 153) (k := 11) (N := 45) (sl := true) (M := mX11_fine) (n := 0) (d := 0) (mc := 0) (ms := 0) (av := []) (st := []) A dX11_wasRight_20 rfl (by decide) (zk_153 _) zwd1467 zwd1469 zwd31 zwd100 zcd_X11_fine (Nat.le_of_ble_eq_true rfl) (Nat.le_of_ble_eq_true rfl) (Nat.le_refl _) ⟨Nat.le_of_ble_eq_true rfl, Nat.le_of_ble_eq_true rfl⟩ ⟨rfl, zhn_X11_fine⟩ rfl (Nat.le_of_ble_eq_true rfl) rfl (z_contI (fun v4 μ4 h => ?_) h)
    obtain ⟨o1, h⟩ := h
    exact s_zret A dX11_wasRight_23 hr hlk (Nat.le_of_ble_eq_true rfl) (Nat.le_of_ble_eq_true rfl) o1 ⟨_, rfl, h⟩
  · have h := h.2 c3
    refine s_aload_n A dX11_wasRight_11 rfl ?_
    refine s_aload_n A dX11_wasRight_12 rfl ?_
    refine s_getf (k := 11) (j := 8) (sl := true) (v := zI (zi μ 153 8)) A dX11_wasRight_13 rfl zuw_X11 (Nat.le_of_ble_eq_true rfl) zwd1316 (by decide) (zk_153 _) rfl ?_
    refine s_callV (a := 153) (k := 11) (N := 45) (sl := true) (M := mX11_fault) (n := 1) (d := 2) (mc := 0) (ms := 0) (av := [zI (zi μ 153 8)]) (st := []) A dX11_wasRight_16 rfl (by decide) (zk_153 _) zwd1487 zwd1489 zwd36 zwd100 zcd_X11_fault (Nat.le_of_ble_eq_true rfl) (Nat.le_of_ble_eq_true rfl) (Nat.le_refl _) ⟨Nat.le_of_ble_eq_true rfl, Nat.le_of_ble_eq_true rfl⟩ ⟨rfl, zhn_X11_fault⟩ rfl (Nat.le_of_ble_eq_true rfl) rfl (z_contV (fun μ5 h => ?_) h)
    refine s_aload_n A dX11_wasRight_19 rfl ?_
    refine s_callV (a := 153) (k := 11) (N := 45) (sl := true) (M := mX11_fine) (n := 0) (d := 0) (mc := 0) (ms := 0) (av := []) (st := []) A dX11_wasRight_20 rfl (by decide) (zk_153 _) zwd1467 zwd1469 zwd31 zwd100 zcd_X11_fine (Nat.le_of_ble_eq_true rfl) (Nat.le_of_ble_eq_true rfl) (Nat.le_refl _) ⟨Nat.le_of_ble_eq_true rfl, Nat.le_of_ble_eq_true rfl⟩ ⟨rfl, zhn_X11_fine⟩ rfl (Nat.le_of_ble_eq_true rfl) rfl (z_contI (fun v6 μ6 h => ?_) h)
    obtain ⟨o1, h⟩ := h
    exact s_zret A dX11_wasRight_23 hr hlk (Nat.le_of_ble_eq_true rfl) (Nat.le_of_ble_eq_true rfl) o1 ⟨_, rfl, h⟩
theorem eX11_wasRight {G : zG} {F : Int → zM → Prop} {μ : zM}  (h : ∀ J, zJ G true (3) 0 0 mX11_wasRight (zKI F) J → J 0 ([some (zR (some 153))], [], μ, 0, 0)) : qX11_wasRight G  μ F :=
  z_body (by decide +kernel) (Nat.le_of_ble_eq_true rfl) h
set_option maxRecDepth 20000 in
theorem rX11_inkBy_e {G : zG} {ph : Bool} {F : Int → zM → Prop} {J : Nat → zS → Prop} {μ : zM} (C : zJ G ph (0) 0 0 mX11_inkBy (zKI F) J) (x0 : Int)
    (h : zin x0 ∧ ((¬ x0 = 99 → ((¬ x0 = 109 → ((¬ x0 = 121 → ((¬ x0 = 107 → F (-1) μ) ∧ (x0 = 107 → F 3 μ))) ∧ (x0 = 121 → F 2 μ))) ∧ (x0 = 109 → F 1 μ))) ∧ (x0 = 99 → F 0 μ))) : J 0 ([some (zI x0)], [], μ, 0, 0) := by
  obtain ⟨p, e, s, m, args, below, meth, c, A, hml, hr, hlk, hnm, rfl⟩ := C
  refine s_iload_n A dX11_inkBy_0 rfl ?_
  refine s_bipush A dX11_inkBy_1 rfl ?_
  obtain ⟨oz1, h⟩ := h
  refine z_icmp_ne (tgt := 10) A dX11_inkBy_3 (by decide) oz1 ⟨by decide, by decide⟩ (fun c2 => ?_) (fun c2 => ?_)
  · have h := h.1 c2
    refine s_iload_n A dX11_inkBy_10 rfl ?_
    refine s_bipush A dX11_inkBy_11 rfl ?_
    refine z_icmp_ne (tgt := 20) A dX11_inkBy_13 (by decide) oz1 ⟨by decide, by decide⟩ (fun c3 => ?_) (fun c3 => ?_)
    · have h := h.1 c3
      refine s_iload_n A dX11_inkBy_20 rfl ?_
      refine s_bipush A dX11_inkBy_21 rfl ?_
      refine z_icmp_ne (tgt := 30) A dX11_inkBy_23 (by decide) oz1 ⟨by decide, by decide⟩ (fun c4 => ?_) (fun c4 => ?_)
      · have h := h.1 c4
        refine s_iload_n A dX11_inkBy_30 rfl ?_
        refine s_bipush A dX11_inkBy_31 rfl ?_
        refine z_icmp_ne (tgt := 40) A dX11_inkBy_33 (by decide) oz1 ⟨by decide, by decide⟩ (fun c5 => ?_) (fun c5 => ?_)
        · have h := h.1 c5
          refine s_iconst A dX11_inkBy_40 ?_
          exact s_iret A dX11_inkBy_41 hr hlk (Nat.le_of_ble_eq_true rfl) (Nat.le_of_ble_eq_true rfl) ⟨_, rfl, h⟩
        · have h := h.2 c5
          refine s_iconst A dX11_inkBy_36 ?_
          refine s_goto (tgt := 41) A dX11_inkBy_37 (by decide) ?_
          exact s_iret A dX11_inkBy_41 hr hlk (Nat.le_of_ble_eq_true rfl) (Nat.le_of_ble_eq_true rfl) ⟨_, rfl, h⟩
      · have h := h.2 c4
        refine s_iconst A dX11_inkBy_26 ?_
        refine s_goto (tgt := 41) A dX11_inkBy_27 (by decide) ?_
        exact s_iret A dX11_inkBy_41 hr hlk (Nat.le_of_ble_eq_true rfl) (Nat.le_of_ble_eq_true rfl) ⟨_, rfl, h⟩
    · have h := h.2 c3
      refine s_iconst A dX11_inkBy_16 ?_
      refine s_goto (tgt := 41) A dX11_inkBy_17 (by decide) ?_
      exact s_iret A dX11_inkBy_41 hr hlk (Nat.le_of_ble_eq_true rfl) (Nat.le_of_ble_eq_true rfl) ⟨_, rfl, h⟩
  · have h := h.2 c2
    refine s_iconst A dX11_inkBy_6 ?_
    refine s_goto (tgt := 41) A dX11_inkBy_7 (by decide) ?_
    exact s_iret A dX11_inkBy_41 hr hlk (Nat.le_of_ble_eq_true rfl) (Nat.le_of_ble_eq_true rfl) ⟨_, rfl, h⟩
theorem eX11_inkBy {G : zG} {ph : Bool} {F : Int → zM → Prop} {μ : zM} {x0 : Int} (h : ∀ J, zJ G ph (0) 0 0 mX11_inkBy (zKI F) J → J 0 ([some (zI x0)], [], μ, 0, 0)) : qX11_inkBy G ph x0 μ F :=
  z_body (by decide +kernel) (Nat.le_of_ble_eq_true rfl) h
set_option maxRecDepth 20000 in
theorem rX11_readInk_e {G : zG} {F : Int → zM → Prop} {J : Nat → zS → Prop} {μ : zM} (C : zJ G true (3) 0 0 mX11_readInk (zKI F) J) 
    (h : qX11_fine G μ (fun v1 μ1 => zin v1 ∧ ((¬ v1 = 0 → qX11_here G μ1 (fun v4 μ4 => qX11_inkBy G true v4 μ4 (fun v5 μ5 => zin v5 ∧ ((¬ v5 = -1 → F v5 (zup μ5 153 8 ((zi μ5 153 8) + 1))) ∧ (v5 = -1 → qX11_fault G (zi μ5 153 8) μ5 (fun μ8 => F 0 μ8)))))) ∧ (v1 = 0 → F 0 μ1)))) : J 0 ([some (zR (some 153)), none], [], μ, 0, 0) := by
  obtain ⟨p, e, s, m, args, below, meth, c, A, hml, hr, hlk, hnm, rfl⟩ := C
  refine s_aload_n A dX11_readInk_0 rfl ?_
  refine s_callV (a := 153) (k := 11) (N := 45) (sl := true) (M := mX11_fine) (n := 0) (d := 0) (mc := 0) (ms := 0) (av := []) (st := []) A dX11_readInk_1 rfl (by decide) (zk_153 _) zwd1467 zwd1469 zwd31 zwd100 zcd_X11_fine (Nat.le_of_ble_eq_true rfl) (Nat.le_of_ble_eq_true rfl) (Nat.le_refl _) ⟨Nat.le_of_ble_eq_true rfl, Nat.le_of_ble_eq_true rfl⟩ ⟨rfl, zhn_X11_fine⟩ rfl (Nat.le_of_ble_eq_true rfl) rfl (z_contI (fun v1 μ1 h => ?_) h)
  obtain ⟨oz2, h⟩ := h
  refine z_if_ne (tgt := 9) A dX11_readInk_4 (by decide) oz2 (fun c3 => ?_) (fun c3 => ?_)
  · have h := h.1 c3
    refine s_aload_n A dX11_readInk_9 rfl ?_
    refine s_callV (a := 153) (k := 11) (N := 45) (sl := true) (M := mX11_here) (n := 0) (d := 0) (mc := 0) (ms := 0) (av := []) (st := []) A dX11_readInk_10 rfl (by decide) (zk_153 _) zwd1483 zwd1485 zwd35 zwd100 zcd_X11_here (Nat.le_of_ble_eq_true rfl) (Nat.le_of_ble_eq_true rfl) (Nat.le_refl _) ⟨Nat.le_of_ble_eq_true rfl, Nat.le_of_ble_eq_true rfl⟩ ⟨rfl, zhn_X11_here⟩ rfl (Nat.le_of_ble_eq_true rfl) rfl (z_contI (fun v4 μ4 h => ?_) h)
    refine s_callS (M := mX11_inkBy) (n := 1) (d := 0) (mc := 0) (ms := 0) (av := [zI v4]) (st := []) A dX11_readInk_13 zwd1547 zwd1548 zwd100 zcd_X11_inkBy (Nat.le_of_ble_eq_true rfl) (Nat.le_of_ble_eq_true rfl) (Nat.le_refl _) ⟨Nat.le_of_ble_eq_true rfl, Nat.le_of_ble_eq_true rfl⟩ zhn_X11_inkBy rfl (Nat.le_of_ble_eq_true rfl) rfl (z_contI (fun v5 μ5 h => ?_) h)
    refine s_istore_n (L' := [some (zR (some 153)), some (zI v5)]) A dX11_readInk_16 (Nat.le_of_ble_eq_true rfl) rfl ?_
    refine s_iload_n A dX11_readInk_17 rfl ?_
    refine s_iconst A dX11_readInk_18 ?_
    obtain ⟨oz6, h⟩ := h
    refine z_icmp_ne (tgt := 32) A dX11_readInk_19 (by decide) oz6 ⟨by decide, by decide⟩ (fun c7 => ?_) (fun c7 => ?_)
    · have h := h.1 c7
      refine s_aload_n A dX11_readInk_32 rfl ?_
      refine s_dup A dX11_readInk_33 rfl ?_
      refine s_getf (k := 11) (j := 8) (sl := true) (v := zI (zi μ5 153 8)) A dX11_readInk_34 rfl zuw_X11 (Nat.le_of_ble_eq_true rfl) zwd1316 (by decide) (zk_153 _) rfl ?_
      refine s_iconst A dX11_readInk_37 ?_
      refine s_iadd A dX11_readInk_38 ?_
      refine z_putI (k := 11) (j := 8) (sl := true) A dX11_readInk_39 rfl zuw_X11 (Nat.le_of_ble_eq_true rfl) zwd1316 (by decide) (zk_153 _) tyX11 tyX11_ok nmX11 rfl rfl rfl ?_
      refine s_iload_n A dX11_readInk_42 rfl ?_
      exact s_iret A dX11_readInk_43 hr hlk (Nat.le_of_ble_eq_true rfl) (Nat.le_of_ble_eq_true rfl) ⟨_, rfl, h⟩
    · have h := h.2 c7
      refine s_aload_n A dX11_readInk_22 rfl ?_
      refine s_aload_n A dX11_readInk_23 rfl ?_
      refine s_getf (k := 11) (j := 8) (sl := true) (v := zI (zi μ5 153 8)) A dX11_readInk_24 rfl zuw_X11 (Nat.le_of_ble_eq_true rfl) zwd1316 (by decide) (zk_153 _) rfl ?_
      refine s_callV (a := 153) (k := 11) (N := 45) (sl := true) (M := mX11_fault) (n := 1) (d := 2) (mc := 0) (ms := 0) (av := [zI (zi μ5 153 8)]) (st := []) A dX11_readInk_27 rfl (by decide) (zk_153 _) zwd1487 zwd1489 zwd36 zwd100 zcd_X11_fault (Nat.le_of_ble_eq_true rfl) (Nat.le_of_ble_eq_true rfl) (Nat.le_refl _) ⟨Nat.le_of_ble_eq_true rfl, Nat.le_of_ble_eq_true rfl⟩ ⟨rfl, zhn_X11_fault⟩ rfl (Nat.le_of_ble_eq_true rfl) rfl (z_contV (fun μ8 h => ?_) h)
      refine s_iconst A dX11_readInk_30 ?_
      exact s_iret A dX11_readInk_31 hr hlk (Nat.le_of_ble_eq_true rfl) (Nat.le_of_ble_eq_true rfl) ⟨_, rfl, h⟩
  · have h := h.2 c3
    refine s_iconst A dX11_readInk_7 ?_
    exact s_iret A dX11_readInk_8 hr hlk (Nat.le_of_ble_eq_true rfl) (Nat.le_of_ble_eq_true rfl) ⟨_, rfl, h⟩
theorem eX11_readInk {G : zG} {F : Int → zM → Prop} {μ : zM}  (h : ∀ J, zJ G true (3) 0 0 mX11_readInk (zKI F) J → J 0 ([some (zR (some 153)), none], [], μ, 0, 0)) : qX11_readInk G  μ F :=
  z_body (by decide +kernel) (Nat.le_of_ble_eq_true rfl) h
set_option maxRecDepth 20000 in
theorem rX11_readPatch_e {G : zG} {F : Int → zM → Prop} {J : Nat → zS → Prop} {μ : zM} (C : zJ G true (4) 0 0 mX11_readPatch (zKI F) J) 
    (h : J 4 ([some (zR (some 153)), some (zI 0), some (zI 0)], [], μ, 0, 0)) : J 0 ([some (zR (some 153)), none, none], [], μ, 0, 0) := by
  obtain ⟨p, e, s, m, args, below, meth, c, A, hml, hr, hlk, hnm, rfl⟩ := C
  refine s_iconst A dX11_readPatch_0 ?_
  refine s_istore_n (L' := [some (zR (some 153)), some (zI 0), none]) A dX11_readPatch_1 (Nat.le_of_ble_eq_true rfl) rfl ?_
  refine s_iconst A dX11_readPatch_2 ?_
  refine s_istore_n (L' := [some (zR (some 153)), some (zI 0), some (zI 0)]) A dX11_readPatch_3 (Nat.le_of_ble_eq_true rfl) rfl ?_
  exact h
set_option maxRecDepth 20000 in
theorem rX11_readPatch_4 {G : zG} {F : Int → zM → Prop} {J : Nat → zS → Prop} {μ : zM} (C : zJ G true (4) 0 0 mX11_readPatch (zKI F) J) (x1 : Int) (x2 : Int)
    (h : zin x2 ∧ ((4 ≤ x2 → F x1 μ) ∧ (¬ (4 ≤ x2) → qX11_oneOf G 48 3 μ (fun v3 μ3 => J 4 ([some (zR (some 153)), some (zI ((3 * x1) + v3)), some (zI (x2 + 1))], [], μ3, 0, 0))))) : J 4 ([some (zR (some 153)), some (zI x1), some (zI x2)], [], μ, 0, 0) := by
  obtain ⟨p, e, s, m, args, below, meth, c, A, hml, hr, hlk, hnm, rfl⟩ := C
  refine s_iload_n A dX11_readPatch_4 rfl ?_
  refine s_iconst A dX11_readPatch_5 ?_
  obtain ⟨oz1, h⟩ := h
  refine z_icmp_ge (tgt := 27) A dX11_readPatch_6 (by decide) oz1 ⟨by decide, by decide⟩ (fun c2 => ?_) (fun c2 => ?_)
  · have h := h.1 c2
    refine s_iload_n A dX11_readPatch_27 rfl ?_
    exact s_iret A dX11_readPatch_28 hr hlk (Nat.le_of_ble_eq_true rfl) (Nat.le_of_ble_eq_true rfl) ⟨_, rfl, h⟩
  · have h := h.2 c2
    refine s_iconst A dX11_readPatch_9 ?_
    refine s_iload_n A dX11_readPatch_10 rfl ?_
    refine s_imul A dX11_readPatch_11 ?_
    refine s_aload_n A dX11_readPatch_12 rfl ?_
    refine s_bipush A dX11_readPatch_13 rfl ?_
    refine s_iconst A dX11_readPatch_15 ?_
    refine s_callV (a := 153) (k := 11) (N := 45) (sl := true) (M := mX11_oneOf) (n := 2) (d := 3) (mc := 0) (ms := 0) (av := [zI 48, zI 3]) (st := [zI (3 * x1)]) A dX11_readPatch_16 rfl (by decide) (zk_153 _) zwd1479 zwd1481 zwd34 zwd100 zcd_X11_oneOf (Nat.le_of_ble_eq_true rfl) (Nat.le_of_ble_eq_true rfl) (Nat.le_refl _) ⟨Nat.le_of_ble_eq_true rfl, Nat.le_of_ble_eq_true rfl⟩ ⟨rfl, zhn_X11_oneOf⟩ rfl (Nat.le_of_ble_eq_true rfl) rfl (z_contI (fun v3 μ3 h => ?_) h)
    refine s_iadd A dX11_readPatch_19 ?_
    refine s_istore_n (L' := [some (zR (some 153)), some (zI ((3 * x1) + v3)), some (zI x2)]) A dX11_readPatch_20 (Nat.le_of_ble_eq_true rfl) rfl ?_
    refine s_iinc (L' := [some (zR (some 153)), some (zI ((3 * x1) + v3)), some (zI (x2 + 1))]) A dX11_readPatch_21 rfl rfl ?_
    refine s_goto (tgt := 4) A dX11_readPatch_24 (by decide) ?_
    exact h
theorem eX11_readPatch {G : zG} {F : Int → zM → Prop} {μ : zM}  (h : ∀ J, zJ G true (4) 0 0 mX11_readPatch (zKI F) J → J 0 ([some (zR (some 153)), none, none], [], μ, 0, 0)) : qX11_readPatch G  μ F :=
  z_body (by decide +kernel) (Nat.le_of_ble_eq_true rfl) h
set_option maxRecDepth 20000 in
theorem rX11_readMeasure_e {G : zG} {F : zM → Prop} {J : Nat → zS → Prop} {μ : zM} (C : zJ G true (5) 0 0 mX11_readMeasure (zKV F) J) (x1 : Int)
    (h : qX11_readPatch G μ (fun v1 μ1 => (0 ≤ x1 ∧ x1 < 320) ∧ J 12 ([some (zR (some 153)), some (zI x1), some (zI 0)], [], zup μ1 157 x1 v1, 0, 0))) : J 0 ([some (zR (some 153)), some (zI x1), none], [], μ, 0, 0) := by
  obtain ⟨p, e, s, m, args, below, meth, c, A, hml, hr, hlk, hnm, rfl⟩ := C
  refine s_aload_n A dX11_readMeasure_0 rfl ?_
  refine s_getf (k := 11) (j := 10) (sl := true) (v := zR (some 157)) A dX11_readMeasure_1 rfl zuw_X11 (Nat.le_of_ble_eq_true rfl) zwd1318 (by decide) (zk_153 _) rfl ?_
  refine s_iload_n A dX11_readMeasure_4 rfl ?_
  refine s_aload_n A dX11_readMeasure_5 rfl ?_
  refine s_callV (a := 153) (k := 11) (N := 45) (sl := true) (M := mX11_readPatch) (n := 0) (d := 4) (mc := 0) (ms := 0) (av := []) (st := [zI x1, zR (some 157)]) A dX11_readMeasure_6 rfl (by decide) (zk_153 _) zwd1475 zwd1477 zwd33 zwd100 zcd_X11_readPatch (Nat.le_of_ble_eq_true rfl) (Nat.le_of_ble_eq_true rfl) (Nat.le_refl _) ⟨Nat.le_of_ble_eq_true rfl, Nat.le_of_ble_eq_true rfl⟩ ⟨rfl, zhn_X11_readPatch⟩ rfl (Nat.le_of_ble_eq_true rfl) rfl (z_contI (fun v1 μ1 h => ?_) h)
  obtain ⟨ox2, h⟩ := h
  refine z_iast A dX11_readMeasure_9 (zk_157 _) (Nat.le_of_ble_eq_true rfl) ox2 ?_
  refine s_iconst A dX11_readMeasure_10 ?_
  refine s_istore_n (L' := [some (zR (some 153)), some (zI x1), some (zI 0)]) A dX11_readMeasure_11 (Nat.le_of_ble_eq_true rfl) rfl ?_
  exact h
set_option maxRecDepth 20000 in
theorem rX11_readMeasure_12 {G : zG} {F : zM → Prop} {J : Nat → zS → Prop} {μ : zM} (C : zJ G true (5) 0 0 mX11_readMeasure (zKV F) J) (x1 : Int) (x2 : Int)
    (h : zin x2 ∧ ((3 ≤ x2 → F μ) ∧ (¬ (3 ≤ x2) → qX11_twoDigits G μ (fun v3 μ3 => (0 ≤ (x1 + 1) + x2 ∧ (x1 + 1) + x2 < 320) ∧ J 12 ([some (zR (some 153)), some (zI x1), some (zI (x2 + 1))], [], zup μ3 157 ((x1 + 1) + x2) v3, 0, 0))))) : J 12 ([some (zR (some 153)), some (zI x1), some (zI x2)], [], μ, 0, 0) := by
  obtain ⟨p, e, s, m, args, below, meth, c, A, hml, hr, hlk, hnm, rfl⟩ := C
  refine s_iload_n A dX11_readMeasure_12 rfl ?_
  refine s_iconst A dX11_readMeasure_13 ?_
  obtain ⟨oz1, h⟩ := h
  refine z_icmp_ge (tgt := 37) A dX11_readMeasure_14 (by decide) oz1 ⟨by decide, by decide⟩ (fun c2 => ?_) (fun c2 => ?_)
  · have h := h.1 c2
    exact s_vret A dX11_readMeasure_37 hr hlk (Nat.le_of_ble_eq_true rfl) (Nat.le_of_ble_eq_true rfl) ⟨rfl, h⟩
  · have h := h.2 c2
    refine s_aload_n A dX11_readMeasure_17 rfl ?_
    refine s_getf (k := 11) (j := 10) (sl := true) (v := zR (some 157)) A dX11_readMeasure_18 rfl zuw_X11 (Nat.le_of_ble_eq_true rfl) zwd1318 (by decide) (zk_153 _) rfl ?_
    refine s_iload_n A dX11_readMeasure_21 rfl ?_
    refine s_iconst A dX11_readMeasure_22 ?_
    refine s_iadd A dX11_readMeasure_23 ?_
    refine s_iload_n A dX11_readMeasure_24 rfl ?_
    refine s_iadd A dX11_readMeasure_25 ?_
    refine s_aload_n A dX11_readMeasure_26 rfl ?_
    refine s_callV (a := 153) (k := 11) (N := 45) (sl := true) (M := mX11_twoDigits) (n := 0) (d := 4) (mc := 0) (ms := 0) (av := []) (st := [zI ((x1 + 1) + x2), zR (some 157)]) A dX11_readMeasure_27 rfl (by decide) (zk_153 _) zwd1491 zwd1493 zwd37 zwd100 zcd_X11_twoDigits (Nat.le_of_ble_eq_true rfl) (Nat.le_of_ble_eq_true rfl) (Nat.le_refl _) ⟨Nat.le_of_ble_eq_true rfl, Nat.le_of_ble_eq_true rfl⟩ ⟨rfl, zhn_X11_twoDigits⟩ rfl (Nat.le_of_ble_eq_true rfl) rfl (z_contI (fun v3 μ3 h => ?_) h)
    obtain ⟨ox4, h⟩ := h
    refine z_iast A dX11_readMeasure_30 (zk_157 _) (Nat.le_of_ble_eq_true rfl) ox4 ?_
    refine s_iinc (L' := [some (zR (some 153)), some (zI x1), some (zI (x2 + 1))]) A dX11_readMeasure_31 rfl rfl ?_
    refine s_goto (tgt := 12) A dX11_readMeasure_34 (by decide) ?_
    exact h
theorem eX11_readMeasure {G : zG} {F : zM → Prop} {μ : zM} {x1 : Int} (h : ∀ J, zJ G true (5) 0 0 mX11_readMeasure (zKV F) J → J 0 ([some (zR (some 153)), some (zI x1), none], [], μ, 0, 0)) : qX11_readMeasure G x1 μ F :=
  z_body (by decide +kernel) (Nat.le_of_ble_eq_true rfl) h
set_option maxRecDepth 20000 in
theorem rX11_putLight_e {G : zG} {F : zM → Prop} {J : Nat → zS → Prop} {μ : zM} (C : zJ G true (3) 0 0 mX11_putLight (zKV F) J) (x1 : Int) (x2 : Int) (x3 : Int) (x4 : Int)
    (h : (0 ≤ 3 * x1 ∧ 3 * x1 < 711) ∧ (0 ≤ (3 * x1) + 1 ∧ (3 * x1) + 1 < 711) ∧ (0 ≤ (3 * x1) + 2 ∧ (3 * x1) + 2 < 711) ∧ qX11_isPlain G true x1 (zup (zup (zup μ 154 (3 * x1) x2) 154 ((3 * x1) + 1) x3) 154 ((3 * x1) + 2) x4) (fun v4 μ4 => zin v4 ∧ ((¬ v4 = 0 → F μ4) ∧ (v4 = 0 → (0 ≤ 243 + x1 ∧ 243 + x1 < 711) ∧ F (zup μ4 154 (243 + x1) 1))))) : J 0 ([some (zR (some 153)), some (zI x1), some (zI x2), some (zI x3), some (zI x4)], [], μ, 0, 0) := by
  obtain ⟨p, e, s, m, args, below, meth, c, A, hml, hr, hlk, hnm, rfl⟩ := C
  refine s_aload_n A dX11_putLight_0 rfl ?_
  refine s_getf (k := 11) (j := 0) (sl := true) (v := zR (some 154)) A dX11_putLight_1 rfl zuw_X11 (Nat.le_of_ble_eq_true rfl) zwd1308 (by decide) (zk_153 _) rfl ?_
  refine s_iconst A dX11_putLight_4 ?_
  refine s_iload_n A dX11_putLight_5 rfl ?_
  refine s_imul A dX11_putLight_6 ?_
  refine s_iload_n A dX11_putLight_7 rfl ?_
  obtain ⟨ox1, h⟩ := h
  refine z_iast A dX11_putLight_8 (zk_154 _) (Nat.le_of_ble_eq_true rfl) ox1 ?_
  refine s_aload_n A dX11_putLight_9 rfl ?_
  refine s_getf (k := 11) (j := 0) (sl := true) (v := zR (some 154)) A dX11_putLight_10 rfl zuw_X11 (Nat.le_of_ble_eq_true rfl) zwd1308 (by decide) (zk_153 _) rfl ?_
  refine s_iconst A dX11_putLight_13 ?_
  refine s_iload_n A dX11_putLight_14 rfl ?_
  refine s_imul A dX11_putLight_15 ?_
  refine s_iconst A dX11_putLight_16 ?_
  refine s_iadd A dX11_putLight_17 ?_
  refine s_iload_n A dX11_putLight_18 rfl ?_
  obtain ⟨ox2, h⟩ := h
  refine z_iast A dX11_putLight_19 (zk_154 _) (Nat.le_of_ble_eq_true rfl) ox2 ?_
  refine s_aload_n A dX11_putLight_20 rfl ?_
  refine s_getf (k := 11) (j := 0) (sl := true) (v := zR (some 154)) A dX11_putLight_21 rfl zuw_X11 (Nat.le_of_ble_eq_true rfl) zwd1308 (by decide) (zk_153 _) rfl ?_
  refine s_iconst A dX11_putLight_24 ?_
  refine s_iload_n A dX11_putLight_25 rfl ?_
  refine s_imul A dX11_putLight_26 ?_
  refine s_iconst A dX11_putLight_27 ?_
  refine s_iadd A dX11_putLight_28 ?_
  refine s_iload A dX11_putLight_29 rfl ?_
  obtain ⟨ox3, h⟩ := h
  refine z_iast A dX11_putLight_31 (zk_154 _) (Nat.le_of_ble_eq_true rfl) ox3 ?_
  refine s_iload_n A dX11_putLight_32 rfl ?_
  refine s_callS (M := mX11_isPlain) (n := 1) (d := 2) (mc := 0) (ms := 0) (av := [zI x1]) (st := []) A dX11_putLight_33 zwd1511 zwd1512 zwd100 zcd_X11_isPlain (Nat.le_of_ble_eq_true rfl) (Nat.le_of_ble_eq_true rfl) (Nat.le_refl _) ⟨Nat.le_of_ble_eq_true rfl, Nat.le_of_ble_eq_true rfl⟩ zhn_X11_isPlain rfl (Nat.le_of_ble_eq_true rfl) rfl (z_contI (fun v4 μ4 h => ?_) h)
  obtain ⟨oz5, h⟩ := h
  refine z_if_ne (tgt := 50) A dX11_putLight_36 (by decide) oz5 (fun c6 => ?_) (fun c6 => ?_)
  · have h := h.1 c6
    exact s_vret A dX11_putLight_50 hr hlk (Nat.le_of_ble_eq_true rfl) (Nat.le_of_ble_eq_true rfl) ⟨rfl, h⟩
  · have h := h.2 c6
    refine s_aload_n A dX11_putLight_39 rfl ?_
    refine s_getf (k := 11) (j := 0) (sl := true) (v := zR (some 154)) A dX11_putLight_40 rfl zuw_X11 (Nat.le_of_ble_eq_true rfl) zwd1308 (by decide) (zk_153 _) rfl ?_
    refine s_sipush A dX11_putLight_43 rfl ?_
    refine s_iload_n A dX11_putLight_46 rfl ?_
    refine s_iadd A dX11_putLight_47 ?_
    refine s_iconst A dX11_putLight_48 ?_
    obtain ⟨ox7, h⟩ := h
    refine z_iast A dX11_putLight_49 (zk_154 _) (Nat.le_of_ble_eq_true rfl) ox7 ?_
    exact s_vret A dX11_putLight_50 hr hlk (Nat.le_of_ble_eq_true rfl) (Nat.le_of_ble_eq_true rfl) ⟨rfl, h⟩
theorem eX11_putLight {G : zG} {F : zM → Prop} {μ : zM} {x1 : Int} {x2 : Int} {x3 : Int} {x4 : Int} (h : ∀ J, zJ G true (3) 0 0 mX11_putLight (zKV F) J → J 0 ([some (zR (some 153)), some (zI x1), some (zI x2), some (zI x3), some (zI x4)], [], μ, 0, 0)) : qX11_putLight G x1 x2 x3 x4 μ F :=
  z_body (by decide +kernel) (Nat.le_of_ble_eq_true rfl) h
set_option maxRecDepth 20000 in
theorem rX11_note_e {G : zG} {F : zM → Prop} {J : Nat → zS → Prop} {μ : zM} (C : zJ G true (0) 0 0 mX11_note (zKV F) J) 
    (h : zin (zi μ 153 39) ∧ ((¬ zi μ 153 39 = 10 → J 52 ([some (zR (some 153)), some (zI 0)], [], μ, 0, 0)) ∧ (zi μ 153 39 = 10 → J 11 ([some (zR (some 153)), some (zI 0)], [], μ, 0, 0)))) : J 0 ([some (zR (some 153)), none], [], μ, 0, 0) := by
  obtain ⟨p, e, s, m, args, below, meth, c, A, hml, hr, hlk, hnm, rfl⟩ := C
  refine s_aload_n A dX11_note_0 rfl ?_
  refine s_getf (k := 11) (j := 39) (sl := true) (v := zI (zi μ 153 39)) A dX11_note_1 rfl zuw_X11 (Nat.le_of_ble_eq_true rfl) zwd1347 (by decide) (zk_153 _) rfl ?_
  refine s_bipush A dX11_note_4 rfl ?_
  obtain ⟨oz1, h⟩ := h
  refine z_icmp_ne (tgt := 50) A dX11_note_6 (by decide) oz1 ⟨by decide, by decide⟩ (fun c2 => ?_) (fun c2 => ?_)
  · have h := h.1 c2
    refine s_iconst A dX11_note_50 ?_
    refine s_istore_n (L' := [some (zR (some 153)), some (zI 0)]) A dX11_note_51 (Nat.le_of_ble_eq_true rfl) rfl ?_
    exact h
  · have h := h.2 c2
    refine s_iconst A dX11_note_9 ?_
    refine s_istore_n (L' := [some (zR (some 153)), some (zI 0)]) A dX11_note_10 (Nat.le_of_ble_eq_true rfl) rfl ?_
    exact h
set_option maxRecDepth 20000 in
theorem rX11_note_11 {G : zG} {F : zM → Prop} {J : Nat → zS → Prop} {μ : zM} (C : zJ G true (0) 0 0 mX11_note (zKV F) J) (x1 : Int)
    (h : zin x1 ∧ ((6399 ≤ x1 → J 52 ([some (zR (some 153)), some (zI 0)], [], zup μ 153 39 ((zi μ 153 39) - 1), 0, 0)) ∧ (¬ (6399 ≤ x1) → (0 ≤ x1 + 711 ∧ x1 + 711 < 7110) ∧ (0 ≤ x1 ∧ x1 < 7110) ∧ J 11 ([some (zR (some 153)), some (zI (x1 + 1))], [], zup μ 175 x1 (zi μ 175 (x1 + 711)), 0, 0)))) : J 11 ([some (zR (some 153)), some (zI x1)], [], μ, 0, 0) := by
  obtain ⟨p, e, s, m, args, below, meth, c, A, hml, hr, hlk, hnm, rfl⟩ := C
  refine s_iload_n A dX11_note_11 rfl ?_
  refine s_sipush A dX11_note_12 rfl ?_
  obtain ⟨oz1, h⟩ := h
  refine z_icmp_ge (tgt := 40) A dX11_note_15 (by decide) oz1 ⟨by decide, by decide⟩ (fun c2 => ?_) (fun c2 => ?_)
  · have h := h.1 c2
    refine s_aload_n A dX11_note_40 rfl ?_
    refine s_dup A dX11_note_41 rfl ?_
    refine s_getf (k := 11) (j := 39) (sl := true) (v := zI (zi μ 153 39)) A dX11_note_42 rfl zuw_X11 (Nat.le_of_ble_eq_true rfl) zwd1347 (by decide) (zk_153 _) rfl ?_
    refine s_iconst A dX11_note_45 ?_
    refine s_isub A dX11_note_46 ?_
    refine z_putI (k := 11) (j := 39) (sl := true) A dX11_note_47 rfl zuw_X11 (Nat.le_of_ble_eq_true rfl) zwd1347 (by decide) (zk_153 _) tyX11 tyX11_ok nmX11 rfl rfl rfl ?_
    refine s_iconst A dX11_note_50 ?_
    refine s_istore_n (L' := [some (zR (some 153)), some (zI 0)]) A dX11_note_51 (Nat.le_of_ble_eq_true rfl) rfl ?_
    exact h
  · have h := h.2 c2
    refine s_aload_n A dX11_note_18 rfl ?_
    refine s_getf (k := 11) (j := 38) (sl := true) (v := zR (some 175)) A dX11_note_19 rfl zuw_X11 (Nat.le_of_ble_eq_true rfl) zwd1346 (by decide) (zk_153 _) rfl ?_
    refine s_iload_n A dX11_note_22 rfl ?_
    refine s_aload_n A dX11_note_23 rfl ?_
    refine s_getf (k := 11) (j := 38) (sl := true) (v := zR (some 175)) A dX11_note_24 rfl zuw_X11 (Nat.le_of_ble_eq_true rfl) zwd1346 (by decide) (zk_153 _) rfl ?_
    refine s_iload_n A dX11_note_27 rfl ?_
    refine s_sipush A dX11_note_28 rfl ?_
    refine s_iadd A dX11_note_31 ?_
    obtain ⟨ox3, h⟩ := h
    refine z_iald A dX11_note_32 (zk_175 _) (Nat.le_of_ble_eq_true rfl) ox3 ?_
    obtain ⟨ox4, h⟩ := h
    refine z_iast A dX11_note_33 (zk_175 _) (Nat.le_of_ble_eq_true rfl) ox4 ?_
    refine s_iinc (L' := [some (zR (some 153)), some (zI (x1 + 1))]) A dX11_note_34 rfl rfl ?_
    refine s_goto (tgt := 11) A dX11_note_37 (by decide) ?_
    exact h
set_option maxRecDepth 20000 in
theorem rX11_note_52 {G : zG} {F : zM → Prop} {J : Nat → zS → Prop} {μ : zM} (C : zJ G true (0) 0 0 mX11_note (zKV F) J) (x1 : Int)
    (h : zin x1 ∧ ((711 ≤ x1 → F (zup μ 153 39 ((zi μ 153 39) + 1))) ∧ (¬ (711 ≤ x1) → (0 ≤ x1 ∧ x1 < 711) ∧ (0 ≤ (711 * (zi μ 153 39)) + x1 ∧ (711 * (zi μ 153 39)) + x1 < 7110) ∧ J 52 ([some (zR (some 153)), some (zI (x1 + 1))], [], zup μ 175 ((711 * (zi μ 153 39)) + x1) (zi μ 177 x1), 0, 0)))) : J 52 ([some (zR (some 153)), some (zI x1)], [], μ, 0, 0) := by
  obtain ⟨p, e, s, m, args, below, meth, c, A, hml, hr, hlk, hnm, rfl⟩ := C
  refine s_iload_n A dX11_note_52 rfl ?_
  refine s_sipush A dX11_note_53 rfl ?_
  obtain ⟨oz1, h⟩ := h
  refine z_icmp_ge (tgt := 86) A dX11_note_56 (by decide) oz1 ⟨by decide, by decide⟩ (fun c2 => ?_) (fun c2 => ?_)
  · have h := h.1 c2
    refine s_aload_n A dX11_note_86 rfl ?_
    refine s_dup A dX11_note_87 rfl ?_
    refine s_getf (k := 11) (j := 39) (sl := true) (v := zI (zi μ 153 39)) A dX11_note_88 rfl zuw_X11 (Nat.le_of_ble_eq_true rfl) zwd1347 (by decide) (zk_153 _) rfl ?_
    refine s_iconst A dX11_note_91 ?_
    refine s_iadd A dX11_note_92 ?_
    refine z_putI (k := 11) (j := 39) (sl := true) A dX11_note_93 rfl zuw_X11 (Nat.le_of_ble_eq_true rfl) zwd1347 (by decide) (zk_153 _) tyX11 tyX11_ok nmX11 rfl rfl rfl ?_
    exact s_vret A dX11_note_96 hr hlk (Nat.le_of_ble_eq_true rfl) (Nat.le_of_ble_eq_true rfl) ⟨rfl, h⟩
  · have h := h.2 c2
    refine s_aload_n A dX11_note_59 rfl ?_
    refine s_getf (k := 11) (j := 38) (sl := true) (v := zR (some 175)) A dX11_note_60 rfl zuw_X11 (Nat.le_of_ble_eq_true rfl) zwd1346 (by decide) (zk_153 _) rfl ?_
    refine s_sipush A dX11_note_63 rfl ?_
    refine s_aload_n A dX11_note_66 rfl ?_
    refine s_getf (k := 11) (j := 39) (sl := true) (v := zI (zi μ 153 39)) A dX11_note_67 rfl zuw_X11 (Nat.le_of_ble_eq_true rfl) zwd1347 (by decide) (zk_153 _) rfl ?_
    refine s_imul A dX11_note_70 ?_
    refine s_iload_n A dX11_note_71 rfl ?_
    refine s_iadd A dX11_note_72 ?_
    refine s_aload_n A dX11_note_73 rfl ?_
    refine s_getf (k := 11) (j := 41) (sl := true) (v := zR (some 177)) A dX11_note_74 rfl zuw_X11 (Nat.le_of_ble_eq_true rfl) zwd1349 (by decide) (zk_153 _) rfl ?_
    refine s_iload_n A dX11_note_77 rfl ?_
    obtain ⟨ox3, h⟩ := h
    refine z_iald A dX11_note_78 (zk_177 _) (Nat.le_of_ble_eq_true rfl) ox3 ?_
    obtain ⟨ox4, h⟩ := h
    refine z_iast A dX11_note_79 (zk_175 _) (Nat.le_of_ble_eq_true rfl) ox4 ?_
    refine s_iinc (L' := [some (zR (some 153)), some (zI (x1 + 1))]) A dX11_note_80 rfl rfl ?_
    refine s_goto (tgt := 52) A dX11_note_83 (by decide) ?_
    exact h
theorem eX11_note {G : zG} {F : zM → Prop} {μ : zM}  (h : ∀ J, zJ G true (0) 0 0 mX11_note (zKV F) J → J 0 ([some (zR (some 153)), none], [], μ, 0, 0)) : qX11_note G  μ F :=
  z_body (by decide +kernel) (Nat.le_of_ble_eq_true rfl) h
set_option maxRecDepth 20000 in
theorem rX11_change_e {G : zG} {F : zM → Prop} {J : Nat → zS → Prop} {μ : zM} (C : zJ G true (2) 0 0 mX11_change (zKV F) J) 
    (h : J 2 ([some (zR (some 153)), some (zI 0)], [], μ, 0, 0)) : J 0 ([some (zR (some 153)), none], [], μ, 0, 0) := by
  obtain ⟨p, e, s, m, args, below, meth, c, A, hml, hr, hlk, hnm, rfl⟩ := C
  refine s_iconst A dX11_change_0 ?_
  refine s_istore_n (L' := [some (zR (some 153)), some (zI 0)]) A dX11_change_1 (Nat.le_of_ble_eq_true rfl) rfl ?_
  exact h
set_option maxRecDepth 20000 in
theorem rX11_change_2 {G : zG} {F : zM → Prop} {J : Nat → zS → Prop} {μ : zM} (C : zJ G true (2) 0 0 mX11_change (zKV F) J) (x1 : Int)
    (h : zin x1 ∧ ((711 ≤ x1 → qX11_note G μ (fun μ3 => F μ3)) ∧ (¬ (711 ≤ x1) → (0 ≤ x1 ∧ x1 < 711) ∧ J 2 ([some (zR (some 153)), some (zI (x1 + 1))], [], zup μ 177 x1 (zi μ 154 x1), 0, 0)))) : J 2 ([some (zR (some 153)), some (zI x1)], [], μ, 0, 0) := by
  obtain ⟨p, e, s, m, args, below, meth, c, A, hml, hr, hlk, hnm, rfl⟩ := C
  refine s_iload_n A dX11_change_2 rfl ?_
  refine s_sipush A dX11_change_3 rfl ?_
  obtain ⟨oz1, h⟩ := h
  refine z_icmp_ge (tgt := 27) A dX11_change_6 (by decide) oz1 ⟨by decide, by decide⟩ (fun c2 => ?_) (fun c2 => ?_)
  · have h := h.1 c2
    refine s_aload_n A dX11_change_27 rfl ?_
    refine s_callV (a := 153) (k := 11) (N := 45) (sl := true) (M := mX11_note) (n := 0) (d := 0) (mc := 0) (ms := 0) (av := []) (st := []) A dX11_change_28 rfl (by decide) (zk_153 _) zwd1503 zwd1505 zwd40 zwd100 zcd_X11_note (Nat.le_of_ble_eq_true rfl) (Nat.le_of_ble_eq_true rfl) (Nat.le_refl _) ⟨Nat.le_of_ble_eq_true rfl, Nat.le_of_ble_eq_true rfl⟩ ⟨rfl, zhn_X11_note⟩ rfl (Nat.le_of_ble_eq_true rfl) rfl (z_contV (fun μ3 h => ?_) h)
    exact s_vret A dX11_change_31 hr hlk (Nat.le_of_ble_eq_true rfl) (Nat.le_of_ble_eq_true rfl) ⟨rfl, h⟩
  · have h := h.2 c2
    refine s_aload_n A dX11_change_9 rfl ?_
    refine s_getf (k := 11) (j := 41) (sl := true) (v := zR (some 177)) A dX11_change_10 rfl zuw_X11 (Nat.le_of_ble_eq_true rfl) zwd1349 (by decide) (zk_153 _) rfl ?_
    refine s_iload_n A dX11_change_13 rfl ?_
    refine s_aload_n A dX11_change_14 rfl ?_
    refine s_getf (k := 11) (j := 0) (sl := true) (v := zR (some 154)) A dX11_change_15 rfl zuw_X11 (Nat.le_of_ble_eq_true rfl) zwd1308 (by decide) (zk_153 _) rfl ?_
    refine s_iload_n A dX11_change_18 rfl ?_
    obtain ⟨ox4, h⟩ := h
    refine z_iald A dX11_change_19 (zk_154 _) (Nat.le_of_ble_eq_true rfl) ox4 ?_
    refine z_iast A dX11_change_20 (zk_177 _) (Nat.le_of_ble_eq_true rfl) ox4 ?_
    refine s_iinc (L' := [some (zR (some 153)), some (zI (x1 + 1))]) A dX11_change_21 rfl rfl ?_
    refine s_goto (tgt := 2) A dX11_change_24 (by decide) ?_
    exact h
theorem eX11_change {G : zG} {F : zM → Prop} {μ : zM}  (h : ∀ J, zJ G true (2) 0 0 mX11_change (zKV F) J → J 0 ([some (zR (some 153)), none], [], μ, 0, 0)) : qX11_change G  μ F :=
  z_body (by decide +kernel) (Nat.le_of_ble_eq_true rfl) h
set_option maxRecDepth 20000 in
theorem rX11_patches_e {G : zG} {F : Int → zM → Prop} {J : Nat → zS → Prop} {μ : zM} (C : zJ G true (6) 0 0 mX11_patches (zKI F) J) 
    (h : qX11_begin G 80 (zup μ 153 5 0) (fun μ1 => J 13 ([some (zR (some 153)), some (zI 0), none], [], μ1, 0, 0))) : J 0 ([some (zR (some 153)), none, none], [], μ, 0, 0) := by
  obtain ⟨p, e, s, m, args, below, meth, c, A, hml, hr, hlk, hnm, rfl⟩ := C
  refine s_aload_n A dX11_patches_0 rfl ?_
  refine s_iconst A dX11_patches_1 ?_
  refine z_putI (k := 11) (j := 5) (sl := true) A dX11_patches_2 rfl zuw_X11 (Nat.le_of_ble_eq_true rfl) zwd1313 (by decide) (zk_153 _) tyX11 tyX11_ok nmX11 rfl rfl rfl ?_
  refine s_aload_n A dX11_patches_5 rfl ?_
  refine s_bipush A dX11_patches_6 rfl ?_
  refine s_callV (a := 153) (k := 11) (N := 45) (sl := true) (M := mX11_begin) (n := 1) (d := 0) (mc := 0) (ms := 0) (av := [zI 80]) (st := []) A dX11_patches_8 rfl (by decide) (zk_153 _) zwd1463 zwd1465 zwd30 zwd100 zcd_X11_begin (Nat.le_of_ble_eq_true rfl) (Nat.le_of_ble_eq_true rfl) (Nat.le_refl _) ⟨Nat.le_of_ble_eq_true rfl, Nat.le_of_ble_eq_true rfl⟩ ⟨rfl, zhn_X11_begin⟩ rfl (Nat.le_of_ble_eq_true rfl) rfl (z_contV (fun μ1 h => ?_) h)
  refine s_iconst A dX11_patches_11 ?_
  refine s_istore_n (L' := [some (zR (some 153)), some (zI 0), none]) A dX11_patches_12 (Nat.le_of_ble_eq_true rfl) rfl ?_
  exact h
set_option maxRecDepth 20000 in
theorem rX11_patches_13 {G : zG} {F : Int → zM → Prop} {J : Nat → zS → Prop} {μ : zM} (C : zJ G true (6) 0 0 mX11_patches (zKI F) J) (x1 : Int)
    (h : qX11_fine G μ (fun v1 μ1 => zin v1 ∧ ((v1 = 0 → qX11_wasRight G μ1 (fun v4 μ4 => zin v4 ∧ ((¬ v4 = 0 → qX11_change G μ4 (fun μ7 => J 64 ([some (zR (some 153)), some (zI x1), some (zI 0)], [], μ7, 0, 0))) ∧ (v4 = 0 → F ((-1) - (zi μ4 153 9)) μ4)))) ∧ (¬ (v1 = 0) → zin (zi μ1 153 8) ∧ zin (zi μ1 153 6) ∧ ((zi μ1 153 6 ≤ zi μ1 153 8 → qX11_wasRight G μ1 (fun v11 μ11 => zin v11 ∧ ((¬ v11 = 0 → qX11_change G μ11 (fun μ14 => J 64 ([some (zR (some 153)), some (zI x1), some (zI 0)], [], μ14, 0, 0))) ∧ (v11 = 0 → F ((-1) - (zi μ11 153 9)) μ11)))) ∧ (¬ (zi μ1 153 6 ≤ zi μ1 153 8) → qX11_readMeasure G (4 * x1) μ1 (fun μ15 => J 13 ([some (zR (some 153)), some (zI (x1 + 1)), none], [], μ15, 0, 0)))))))) : J 13 ([some (zR (some 153)), some (zI x1), none], [], μ, 0, 0) := by
  obtain ⟨p, e, s, m, args, below, meth, c, A, hml, hr, hlk, hnm, rfl⟩ := C
  refine s_aload_n A dX11_patches_13 rfl ?_
  refine s_callV (a := 153) (k := 11) (N := 45) (sl := true) (M := mX11_fine) (n := 0) (d := 0) (mc := 0) (ms := 0) (av := []) (st := []) A dX11_patches_14 rfl (by decide) (zk_153 _) zwd1467 zwd1469 zwd31 zwd100 zcd_X11_fine (Nat.le_of_ble_eq_true rfl) (Nat.le_of_ble_eq_true rfl) (Nat.le_refl _) ⟨Nat.le_of_ble_eq_true rfl, Nat.le_of_ble_eq_true rfl⟩ ⟨rfl, zhn_X11_fine⟩ rfl (Nat.le_of_ble_eq_true rfl) rfl (z_contI (fun v1 μ1 h => ?_) h)
  obtain ⟨oz2, h⟩ := h
  refine z_if_eq (tgt := 44) A dX11_patches_17 (by decide) oz2 (fun c3 => ?_) (fun c3 => ?_)
  · have h := h.1 c3
    refine s_aload_n A dX11_patches_44 rfl ?_
    refine s_callV (a := 153) (k := 11) (N := 45) (sl := true) (M := mX11_wasRight) (n := 0) (d := 3) (mc := 0) (ms := 0) (av := []) (st := []) A dX11_patches_45 rfl (by decide) (zk_153 _) zwd1495 zwd1497 zwd38 zwd100 zcd_X11_wasRight (Nat.le_of_ble_eq_true rfl) (Nat.le_of_ble_eq_true rfl) (Nat.le_refl _) ⟨Nat.le_of_ble_eq_true rfl, Nat.le_of_ble_eq_true rfl⟩ ⟨rfl, zhn_X11_wasRight⟩ rfl (Nat.le_of_ble_eq_true rfl) rfl (z_contI (fun v4 μ4 h => ?_) h)
    obtain ⟨oz5, h⟩ := h
    refine z_if_ne (tgt := 58) A dX11_patches_48 (by decide) oz5 (fun c6 => ?_) (fun c6 => ?_)
    · have h := h.1 c6
      refine s_aload_n A dX11_patches_58 rfl ?_
      refine s_callV (a := 153) (k := 11) (N := 45) (sl := true) (M := mX11_change) (n := 0) (d := 2) (mc := 0) (ms := 0) (av := []) (st := []) A dX11_patches_59 rfl (by decide) (zk_153 _) zwd1499 zwd1501 zwd39 zwd100 zcd_X11_change (Nat.le_of_ble_eq_true rfl) (Nat.le_of_ble_eq_true rfl) (Nat.le_refl _) ⟨Nat.le_of_ble_eq_true rfl, Nat.le_of_ble_eq_true rfl⟩ ⟨rfl, zhn_X11_change⟩ rfl (Nat.le_of_ble_eq_true rfl) rfl (z_contV (fun μ7 h => ?_) h)
      refine s_iconst A dX11_patches_62 ?_
      refine s_istore_n (L' := [some (zR (some 153)), some (zI x1), some (zI 0)]) A dX11_patches_63 (Nat.le_of_ble_eq_true rfl) rfl ?_
      exact h
    · have h := h.2 c6
      refine s_iconst A dX11_patches_51 ?_
      refine s_aload_n A dX11_patches_52 rfl ?_
      refine s_getf (k := 11) (j := 9) (sl := true) (v := zI (zi μ4 153 9)) A dX11_patches_53 rfl zuw_X11 (Nat.le_of_ble_eq_true rfl) zwd1317 (by decide) (zk_153 _) rfl ?_
      refine s_isub A dX11_patches_56 ?_
      exact s_iret A dX11_patches_57 hr hlk (Nat.le_of_ble_eq_true rfl) (Nat.le_of_ble_eq_true rfl) ⟨_, rfl, h⟩
  · have h := h.2 c3
    refine s_aload_n A dX11_patches_20 rfl ?_
    refine s_getf (k := 11) (j := 8) (sl := true) (v := zI (zi μ1 153 8)) A dX11_patches_21 rfl zuw_X11 (Nat.le_of_ble_eq_true rfl) zwd1316 (by decide) (zk_153 _) rfl ?_
    refine s_aload_n A dX11_patches_24 rfl ?_
    refine s_getf (k := 11) (j := 6) (sl := true) (v := zI (zi μ1 153 6)) A dX11_patches_25 rfl zuw_X11 (Nat.le_of_ble_eq_true rfl) zwd1314 (by decide) (zk_153 _) rfl ?_
    obtain ⟨oz8, h⟩ := h
    obtain ⟨oz9, h⟩ := h
    refine z_icmp_ge (tgt := 44) A dX11_patches_28 (by decide) oz8 oz9 (fun c10 => ?_) (fun c10 => ?_)
    · have h := h.1 c10
      refine s_aload_n A dX11_patches_44 rfl ?_
      refine s_callV (a := 153) (k := 11) (N := 45) (sl := true) (M := mX11_wasRight) (n := 0) (d := 3) (mc := 0) (ms := 0) (av := []) (st := []) A dX11_patches_45 rfl (by decide) (zk_153 _) zwd1495 zwd1497 zwd38 zwd100 zcd_X11_wasRight (Nat.le_of_ble_eq_true rfl) (Nat.le_of_ble_eq_true rfl) (Nat.le_refl _) ⟨Nat.le_of_ble_eq_true rfl, Nat.le_of_ble_eq_true rfl⟩ ⟨rfl, zhn_X11_wasRight⟩ rfl (Nat.le_of_ble_eq_true rfl) rfl (z_contI (fun v11 μ11 h => ?_) h)
      obtain ⟨oz12, h⟩ := h
      refine z_if_ne (tgt := 58) A dX11_patches_48 (by decide) oz12 (fun c13 => ?_) (fun c13 => ?_)
      · have h := h.1 c13
        refine s_aload_n A dX11_patches_58 rfl ?_
        refine s_callV (a := 153) (k := 11) (N := 45) (sl := true) (M := mX11_change) (n := 0) (d := 2) (mc := 0) (ms := 0) (av := []) (st := []) A dX11_patches_59 rfl (by decide) (zk_153 _) zwd1499 zwd1501 zwd39 zwd100 zcd_X11_change (Nat.le_of_ble_eq_true rfl) (Nat.le_of_ble_eq_true rfl) (Nat.le_refl _) ⟨Nat.le_of_ble_eq_true rfl, Nat.le_of_ble_eq_true rfl⟩ ⟨rfl, zhn_X11_change⟩ rfl (Nat.le_of_ble_eq_true rfl) rfl (z_contV (fun μ14 h => ?_) h)
        refine s_iconst A dX11_patches_62 ?_
        refine s_istore_n (L' := [some (zR (some 153)), some (zI x1), some (zI 0)]) A dX11_patches_63 (Nat.le_of_ble_eq_true rfl) rfl ?_
        exact h
      · have h := h.2 c13
        refine s_iconst A dX11_patches_51 ?_
        refine s_aload_n A dX11_patches_52 rfl ?_
        refine s_getf (k := 11) (j := 9) (sl := true) (v := zI (zi μ11 153 9)) A dX11_patches_53 rfl zuw_X11 (Nat.le_of_ble_eq_true rfl) zwd1317 (by decide) (zk_153 _) rfl ?_
        refine s_isub A dX11_patches_56 ?_
        exact s_iret A dX11_patches_57 hr hlk (Nat.le_of_ble_eq_true rfl) (Nat.le_of_ble_eq_true rfl) ⟨_, rfl, h⟩
    · have h := h.2 c10
      refine s_aload_n A dX11_patches_31 rfl ?_
      refine s_iconst A dX11_patches_32 ?_
      refine s_iload_n A dX11_patches_33 rfl ?_
      refine s_imul A dX11_patches_34 ?_
      refine s_callV (a := 153) (k := 11) (N := 45) (sl := true) (M := mX11_readMeasure) (n := 1) (d := 5) (mc := 0) (ms := 0) (av := [zI (4 * x1)]) (st := []) A dX11_patches_35 rfl (by decide) (zk_153 _) zwd1471 zwd1473 zwd32 zwd100 zcd_X11_readMeasure (Nat.le_of_ble_eq_true rfl) (Nat.le_of_ble_eq_true rfl) (Nat.le_refl _) ⟨Nat.le_of_ble_eq_true rfl, Nat.le_of_ble_eq_true rfl⟩ ⟨rfl, zhn_X11_readMeasure⟩ rfl (Nat.le_of_ble_eq_true rfl) rfl (z_contV (fun μ15 h => ?_) h)
      refine s_iinc (L' := [some (zR (some 153)), some (zI (x1 + 1)), none]) A dX11_patches_38 rfl rfl ?_
      refine s_goto (tgt := 13) A dX11_patches_41 (by decide) ?_
      exact h
set_option maxRecDepth 20000 in
theorem rX11_patches_64 {G : zG} {F : Int → zM → Prop} {J : Nat → zS → Prop} {μ : zM} (C : zJ G true (6) 0 0 mX11_patches (zKI F) J) (x1 : Int) (x2 : Int)
    (h : zin x2 ∧ zin x1 ∧ ((x1 ≤ x2 → F x1 μ) ∧ (¬ (x1 ≤ x2) → (0 ≤ 4 * x2 ∧ 4 * x2 < 320) ∧ (0 ≤ (4 * x2) + 1 ∧ (4 * x2) + 1 < 320) ∧ (0 ≤ (4 * x2) + 2 ∧ (4 * x2) + 2 < 320) ∧ (0 ≤ (4 * x2) + 3 ∧ (4 * x2) + 3 < 320) ∧ qX11_putLight G (zi μ 157 (4 * x2)) (zi μ 157 ((4 * x2) + 1)) (zi μ 157 ((4 * x2) + 2)) (zi μ 157 ((4 * x2) + 3)) μ (fun μ8 => J 64 ([some (zR (some 153)), some (zI x1), some (zI (x2 + 1))], [], μ8, 0, 0))))) : J 64 ([some (zR (some 153)), some (zI x1), some (zI x2)], [], μ, 0, 0) := by
  obtain ⟨p, e, s, m, args, below, meth, c, A, hml, hr, hlk, hnm, rfl⟩ := C
  refine s_iload_n A dX11_patches_64 rfl ?_
  refine s_iload_n A dX11_patches_65 rfl ?_
  obtain ⟨oz1, h⟩ := h
  obtain ⟨oz2, h⟩ := h
  refine z_icmp_ge (tgt := 117) A dX11_patches_66 (by decide) oz1 oz2 (fun c3 => ?_) (fun c3 => ?_)
  · have h := h.1 c3
    refine s_iload_n A dX11_patches_117 rfl ?_
    exact s_iret A dX11_patches_118 hr hlk (Nat.le_of_ble_eq_true rfl) (Nat.le_of_ble_eq_true rfl) ⟨_, rfl, h⟩
  · have h := h.2 c3
    refine s_aload_n A dX11_patches_69 rfl ?_
    refine s_aload_n A dX11_patches_70 rfl ?_
    refine s_getf (k := 11) (j := 10) (sl := true) (v := zR (some 157)) A dX11_patches_71 rfl zuw_X11 (Nat.le_of_ble_eq_true rfl) zwd1318 (by decide) (zk_153 _) rfl ?_
    refine s_iconst A dX11_patches_74 ?_
    refine s_iload_n A dX11_patches_75 rfl ?_
    refine s_imul A dX11_patches_76 ?_
    obtain ⟨ox4, h⟩ := h
    refine z_iald A dX11_patches_77 (zk_157 _) (Nat.le_of_ble_eq_true rfl) ox4 ?_
    refine s_aload_n A dX11_patches_78 rfl ?_
    refine s_getf (k := 11) (j := 10) (sl := true) (v := zR (some 157)) A dX11_patches_79 rfl zuw_X11 (Nat.le_of_ble_eq_true rfl) zwd1318 (by decide) (zk_153 _) rfl ?_
    refine s_iconst A dX11_patches_82 ?_
    refine s_iload_n A dX11_patches_83 rfl ?_
    refine s_imul A dX11_patches_84 ?_
    refine s_iconst A dX11_patches_85 ?_
    refine s_iadd A dX11_patches_86 ?_
    obtain ⟨ox5, h⟩ := h
    refine z_iald A dX11_patches_87 (zk_157 _) (Nat.le_of_ble_eq_true rfl) ox5 ?_
    refine s_aload_n A dX11_patches_88 rfl ?_
    refine s_getf (k := 11) (j := 10) (sl := true) (v := zR (some 157)) A dX11_patches_89 rfl zuw_X11 (Nat.le_of_ble_eq_true rfl) zwd1318 (by decide) (zk_153 _) rfl ?_
    refine s_iconst A dX11_patches_92 ?_
    refine s_iload_n A dX11_patches_93 rfl ?_
    refine s_imul A dX11_patches_94 ?_
    refine s_iconst A dX11_patches_95 ?_
    refine s_iadd A dX11_patches_96 ?_
    obtain ⟨ox6, h⟩ := h
    refine z_iald A dX11_patches_97 (zk_157 _) (Nat.le_of_ble_eq_true rfl) ox6 ?_
    refine s_aload_n A dX11_patches_98 rfl ?_
    refine s_getf (k := 11) (j := 10) (sl := true) (v := zR (some 157)) A dX11_patches_99 rfl zuw_X11 (Nat.le_of_ble_eq_true rfl) zwd1318 (by decide) (zk_153 _) rfl ?_
    refine s_iconst A dX11_patches_102 ?_
    refine s_iload_n A dX11_patches_103 rfl ?_
    refine s_imul A dX11_patches_104 ?_
    refine s_iconst A dX11_patches_105 ?_
    refine s_iadd A dX11_patches_106 ?_
    obtain ⟨ox7, h⟩ := h
    refine z_iald A dX11_patches_107 (zk_157 _) (Nat.le_of_ble_eq_true rfl) ox7 ?_
    refine s_callV (a := 153) (k := 11) (N := 45) (sl := true) (M := mX11_putLight) (n := 4) (d := 3) (mc := 0) (ms := 0) (av := [zI (zi μ 157 (4 * x2)), zI (zi μ 157 ((4 * x2) + 1)), zI (zi μ 157 ((4 * x2) + 2)), zI (zi μ 157 ((4 * x2) + 3))]) (st := []) A dX11_patches_108 rfl (by decide) (zk_153 _) zwd1507 zwd1509 zwd41 zwd100 zcd_X11_putLight (Nat.le_of_ble_eq_true rfl) (Nat.le_of_ble_eq_true rfl) (Nat.le_refl _) ⟨Nat.le_of_ble_eq_true rfl, Nat.le_of_ble_eq_true rfl⟩ ⟨rfl, zhn_X11_putLight⟩ rfl (Nat.le_of_ble_eq_true rfl) rfl (z_contV (fun μ8 h => ?_) h)
    refine s_iinc (L' := [some (zR (some 153)), some (zI x1), some (zI (x2 + 1))]) A dX11_patches_111 rfl rfl ?_
    refine s_goto (tgt := 64) A dX11_patches_114 (by decide) ?_
    exact h
theorem eX11_patches {G : zG} {F : Int → zM → Prop} {μ : zM}  (h : ∀ J, zJ G true (6) 0 0 mX11_patches (zKI F) J → J 0 ([some (zR (some 153)), none, none], [], μ, 0, 0)) : qX11_patches G  μ F :=
  z_body (by decide +kernel) (Nat.le_of_ble_eq_true rfl) h
set_option maxRecDepth 20000 in
theorem rX11_curve_e {G : zG} {F : Int → zM → Prop} {J : Nat → zS → Prop} {μ : zM} (C : zJ G true (8) 0 0 mX11_curve (zKI F) J) (x1 : Int)
    (h : qX11_begin G 80 (zup μ 153 5 0) (fun μ1 => zin (zi μ1 153 6) ∧ ((¬ zi μ1 153 6 = 0 → J 29 ([some (zR (some 153)), some (zI x1), some (zI 0), some (zI 0), some (zI 0), none], [], μ1, 0, 0)) ∧ (zi μ1 153 6 = 0 → J 29 ([some (zR (some 153)), some (zI x1), some (zI 1), some (zI 0), some (zI 0), none], [], μ1, 0, 0))))) : J 0 ([some (zR (some 153)), some (zI x1), none, none, none, none], [], μ, 0, 0) := by
  obtain ⟨p, e, s, m, args, below, meth, c, A, hml, hr, hlk, hnm, rfl⟩ := C
  refine s_aload_n A dX11_curve_0 rfl ?_
  refine s_iconst A dX11_curve_1 ?_
  refine z_putI (k := 11) (j := 5) (sl := true) A dX11_curve_2 rfl zuw_X11 (Nat.le_of_ble_eq_true rfl) zwd1313 (by decide) (zk_153 _) tyX11 tyX11_ok nmX11 rfl rfl rfl ?_
  refine s_aload_n A dX11_curve_5 rfl ?_
  refine s_bipush A dX11_curve_6 rfl ?_
  refine s_callV (a := 153) (k := 11) (N := 45) (sl := true) (M := mX11_begin) (n := 1) (d := 0) (mc := 0) (ms := 0) (av := [zI 80]) (st := []) A dX11_curve_8 rfl (by decide) (zk_153 _) zwd1463 zwd1465 zwd30 zwd100 zcd_X11_begin (Nat.le_of_ble_eq_true rfl) (Nat.le_of_ble_eq_true rfl) (Nat.le_refl _) ⟨Nat.le_of_ble_eq_true rfl, Nat.le_of_ble_eq_true rfl⟩ ⟨rfl, zhn_X11_begin⟩ rfl (Nat.le_of_ble_eq_true rfl) rfl (z_contV (fun μ1 h => ?_) h)
  refine s_aload_n A dX11_curve_11 rfl ?_
  refine s_getf (k := 11) (j := 6) (sl := true) (v := zI (zi μ1 153 6)) A dX11_curve_12 rfl zuw_X11 (Nat.le_of_ble_eq_true rfl) zwd1314 (by decide) (zk_153 _) rfl ?_
  obtain ⟨oz2, h⟩ := h
  refine z_if_ne (tgt := 22) A dX11_curve_15 (by decide) oz2 (fun c3 => ?_) (fun c3 => ?_)
  · have h := h.1 c3
    refine s_iconst A dX11_curve_22 ?_
    refine s_istore_n (L' := [some (zR (some 153)), some (zI x1), some (zI 0), none, none, none]) A dX11_curve_23 (Nat.le_of_ble_eq_true rfl) rfl ?_
    refine s_iconst A dX11_curve_24 ?_
    refine s_istore_n (L' := [some (zR (some 153)), some (zI x1), some (zI 0), some (zI 0), none, none]) A dX11_curve_25 (Nat.le_of_ble_eq_true rfl) rfl ?_
    refine s_iconst A dX11_curve_26 ?_
    refine s_istore (L' := [some (zR (some 153)), some (zI x1), some (zI 0), some (zI 0), some (zI 0), none]) A dX11_curve_27 (Nat.le_of_ble_eq_true rfl) rfl ?_
    exact h
  · have h := h.2 c3
    refine s_iconst A dX11_curve_18 ?_
    refine s_goto (tgt := 23) A dX11_curve_19 (by decide) ?_
    refine s_istore_n (L' := [some (zR (some 153)), some (zI x1), some (zI 1), none, none, none]) A dX11_curve_23 (Nat.le_of_ble_eq_true rfl) rfl ?_
    refine s_iconst A dX11_curve_24 ?_
    refine s_istore_n (L' := [some (zR (some 153)), some (zI x1), some (zI 1), some (zI 0), none, none]) A dX11_curve_25 (Nat.le_of_ble_eq_true rfl) rfl ?_
    refine s_iconst A dX11_curve_26 ?_
    refine s_istore (L' := [some (zR (some 153)), some (zI x1), some (zI 1), some (zI 0), some (zI 0), none]) A dX11_curve_27 (Nat.le_of_ble_eq_true rfl) rfl ?_
    exact h
set_option maxRecDepth 20000 in
theorem rX11_curve_29 {G : zG} {F : Int → zM → Prop} {J : Nat → zS → Prop} {μ : zM} (C : zJ G true (8) 0 0 mX11_curve (zKI F) J) (x1 : Int) (x2 : Int) (x3 : Int) (x4 : Int)
    (h : zin x4 ∧ ((9 ≤ x4 → J 87 ([some (zR (some 153)), some (zI x1), some (zI x2), none, none, none], [], μ, 0, 0)) ∧ (¬ (9 ≤ x4) → zin x2 ∧ ((¬ x2 = 0 → J 87 ([some (zR (some 153)), some (zI x1), some (zI x2), none, none, none], [], μ, 0, 0)) ∧ (x2 = 0 → qX11_oneOf G ((48 + x3) % 65536) (9 - x3) μ (fun v5 μ5 => (0 ≤ x4 ∧ x4 < 320) ∧ qX11_fine G (zup μ5 157 x4 (x3 + v5)) (fun v7 μ7 => zin v7 ∧ ((v7 = 0 → J 29 ([some (zR (some 153)), some (zI x1), some (zI x2), some (zI 0), some (zI (x4 + 1)), none], [], μ7, 0, 0)) ∧ (¬ (v7 = 0) → J 29 ([some (zR (some 153)), some (zI x1), some (zI x2), some (zI (zi μ7 157 x4)), some (zI (x4 + 1)), none], [], μ7, 0, 0)))))))))) : J 29 ([some (zR (some 153)), some (zI x1), some (zI x2), some (zI x3), some (zI x4), none], [], μ, 0, 0) := by
  obtain ⟨p, e, s, m, args, below, meth, c, A, hml, hr, hlk, hnm, rfl⟩ := C
  refine s_iload A dX11_curve_29 rfl ?_
  refine s_bipush A dX11_curve_31 rfl ?_
  obtain ⟨oz1, h⟩ := h
  refine z_icmp_ge (tgt := 87) A dX11_curve_33 (by decide) oz1 ⟨by decide, by decide⟩ (fun c2 => ?_) (fun c2 => ?_)
  · have h := h.1 c2
    exact z_wk (L' := [some (zR (some 153)), some (zI x1), some (zI x2), none, none, none]) ⟨rfl, rfl, rfl, trivial⟩ h
  · have h := h.2 c2
    refine s_iload_n A dX11_curve_36 rfl ?_
    obtain ⟨oz3, h⟩ := h
    refine z_if_ne (tgt := 87) A dX11_curve_37 (by decide) oz3 (fun c4 => ?_) (fun c4 => ?_)
    · have h := h.1 c4
      exact z_wk (L' := [some (zR (some 153)), some (zI x1), some (zI x2), none, none, none]) ⟨rfl, rfl, rfl, trivial⟩ h
    · have h := h.2 c4
      refine s_aload_n A dX11_curve_40 rfl ?_
      refine s_getf (k := 11) (j := 10) (sl := true) (v := zR (some 157)) A dX11_curve_41 rfl zuw_X11 (Nat.le_of_ble_eq_true rfl) zwd1318 (by decide) (zk_153 _) rfl ?_
      refine s_iload A dX11_curve_44 rfl ?_
      refine s_iload_n A dX11_curve_46 rfl ?_
      refine s_aload_n A dX11_curve_47 rfl ?_
      refine s_bipush A dX11_curve_48 rfl ?_
      refine s_iload_n A dX11_curve_50 rfl ?_
      refine s_iadd A dX11_curve_51 ?_
      refine s_i2c A dX11_curve_52 ?_
      refine s_bipush A dX11_curve_53 rfl ?_
      refine s_iload_n A dX11_curve_55 rfl ?_
      refine s_isub A dX11_curve_56 ?_
      refine s_callV (a := 153) (k := 11) (N := 45) (sl := true) (M := mX11_oneOf) (n := 2) (d := 3) (mc := 0) (ms := 0) (av := [zI ((48 + x3) % 65536), zI (9 - x3)]) (st := [zI x3, zI x4, zR (some 157)]) A dX11_curve_57 rfl (by decide) (zk_153 _) zwd1479 zwd1481 zwd34 zwd100 zcd_X11_oneOf (Nat.le_of_ble_eq_true rfl) (Nat.le_of_ble_eq_true rfl) (Nat.le_refl _) ⟨Nat.le_of_ble_eq_true rfl, Nat.le_of_ble_eq_true rfl⟩ ⟨rfl, zhn_X11_oneOf⟩ rfl (Nat.le_of_ble_eq_true rfl) rfl (z_contI (fun v5 μ5 h => ?_) h)
      refine s_iadd A dX11_curve_60 ?_
      obtain ⟨ox6, h⟩ := h
      refine z_iast A dX11_curve_61 (zk_157 _) (Nat.le_of_ble_eq_true rfl) ox6 ?_
      refine s_aload_n A dX11_curve_62 rfl ?_
      refine s_callV (a := 153) (k := 11) (N := 45) (sl := true) (M := mX11_fine) (n := 0) (d := 0) (mc := 0) (ms := 0) (av := []) (st := []) A dX11_curve_63 rfl (by decide) (zk_153 _) zwd1467 zwd1469 zwd31 zwd100 zcd_X11_fine (Nat.le_of_ble_eq_true rfl) (Nat.le_of_ble_eq_true rfl) (Nat.le_refl _) ⟨Nat.le_of_ble_eq_true rfl, Nat.le_of_ble_eq_true rfl⟩ ⟨rfl, zhn_X11_fine⟩ rfl (Nat.le_of_ble_eq_true rfl) rfl (z_contI (fun v7 μ7 h => ?_) h)
      obtain ⟨oz8, h⟩ := h
      refine z_if_eq (tgt := 79) A dX11_curve_66 (by decide) oz8 (fun c9 => ?_) (fun c9 => ?_)
      · have h := h.1 c9
        refine s_iconst A dX11_curve_79 ?_
        refine s_istore_n (L' := [some (zR (some 153)), some (zI x1), some (zI x2), some (zI 0), some (zI x4), none]) A dX11_curve_80 (Nat.le_of_ble_eq_true rfl) rfl ?_
        refine s_iinc (L' := [some (zR (some 153)), some (zI x1), some (zI x2), some (zI 0), some (zI (x4 + 1)), none]) A dX11_curve_81 rfl rfl ?_
        refine s_goto (tgt := 29) A dX11_curve_84 (by decide) ?_
        exact h
      · have h := h.2 c9
        refine s_aload_n A dX11_curve_69 rfl ?_
        refine s_getf (k := 11) (j := 10) (sl := true) (v := zR (some 157)) A dX11_curve_70 rfl zuw_X11 (Nat.le_of_ble_eq_true rfl) zwd1318 (by decide) (zk_153 _) rfl ?_
        refine s_iload A dX11_curve_73 rfl ?_
        refine z_iald A dX11_curve_75 (zk_157 _) (Nat.le_of_ble_eq_true rfl) ox6 ?_
        refine s_goto (tgt := 80) A dX11_curve_76 (by decide) ?_
        refine s_istore_n (L' := [some (zR (some 153)), some (zI x1), some (zI x2), some (zI (zi μ7 157 x4)), some (zI x4), none]) A dX11_curve_80 (Nat.le_of_ble_eq_true rfl) rfl ?_
        refine s_iinc (L' := [some (zR (some 153)), some (zI x1), some (zI x2), some (zI (zi μ7 157 x4)), some (zI (x4 + 1)), none]) A dX11_curve_81 rfl rfl ?_
        refine s_goto (tgt := 29) A dX11_curve_84 (by decide) ?_
        exact h
set_option maxRecDepth 20000 in
theorem rX11_curve_87 {G : zG} {F : Int → zM → Prop} {J : Nat → zS → Prop} {μ : zM} (C : zJ G true (8) 0 0 mX11_curve (zKI F) J) (x1 : Int) (x2 : Int)
    (h : qX11_wasRight G μ (fun v1 μ1 => zin v1 ∧ ((¬ v1 = 0 → qX11_isInk G true x1 μ1 (fun v4 μ4 => zin v4 ∧ ((¬ v4 = 0 → qX11_change G μ4 (fun μ7 => zin x2 ∧ ((x2 = 0 → J 129 ([some (zR (some 153)), some (zI x1), some (zI x2), none, some (zI 0), some (zI 0)], [], μ7, 0, 0)) ∧ (¬ (x2 = 0) → qX11_straighten G x1 μ7 (fun μ10 => J 129 ([some (zR (some 153)), some (zI x1), some (zI x2), none, some (zI 0), some (zI 0)], [], μ10, 0, 0)))))) ∧ (v4 = 0 → F (-1) μ4)))) ∧ (v1 = 0 → F ((-1) - (zi μ1 153 9)) μ1)))) : J 87 ([some (zR (some 153)), some (zI x1), some (zI x2), none, none, none], [], μ, 0, 0) := by
  obtain ⟨p, e, s, m, args, below, meth, c, A, hml, hr, hlk, hnm, rfl⟩ := C
  refine s_aload_n A dX11_curve_87 rfl ?_
  refine s_callV (a := 153) (k := 11) (N := 45) (sl := true) (M := mX11_wasRight) (n := 0) (d := 3) (mc := 0) (ms := 0) (av := []) (st := []) A dX11_curve_88 rfl (by decide) (zk_153 _) zwd1495 zwd1497 zwd38 zwd100 zcd_X11_wasRight (Nat.le_of_ble_eq_true rfl) (Nat.le_of_ble_eq_true rfl) (Nat.le_refl _) ⟨Nat.le_of_ble_eq_true rfl, Nat.le_of_ble_eq_true rfl⟩ ⟨rfl, zhn_X11_wasRight⟩ rfl (Nat.le_of_ble_eq_true rfl) rfl (z_contI (fun v1 μ1 h => ?_) h)
  obtain ⟨oz2, h⟩ := h
  refine z_if_ne (tgt := 101) A dX11_curve_91 (by decide) oz2 (fun c3 => ?_) (fun c3 => ?_)
  · have h := h.1 c3
    refine s_iload_n A dX11_curve_101 rfl ?_
    refine s_callS (M := mX11_isInk) (n := 1) (d := 2) (mc := 0) (ms := 0) (av := [zI x1]) (st := []) A dX11_curve_102 zwd1521 zwd1522 zwd100 zcd_X11_isInk (Nat.le_of_ble_eq_true rfl) (Nat.le_of_ble_eq_true rfl) (Nat.le_refl _) ⟨Nat.le_of_ble_eq_true rfl, Nat.le_of_ble_eq_true rfl⟩ zhn_X11_isInk rfl (Nat.le_of_ble_eq_true rfl) rfl (z_contI (fun v4 μ4 h => ?_) h)
    obtain ⟨oz5, h⟩ := h
    refine z_if_ne (tgt := 110) A dX11_curve_105 (by decide) oz5 (fun c6 => ?_) (fun c6 => ?_)
    · have h := h.1 c6
      refine s_aload_n A dX11_curve_110 rfl ?_
      refine s_callV (a := 153) (k := 11) (N := 45) (sl := true) (M := mX11_change) (n := 0) (d := 2) (mc := 0) (ms := 0) (av := []) (st := []) A dX11_curve_111 rfl (by decide) (zk_153 _) zwd1499 zwd1501 zwd39 zwd100 zcd_X11_change (Nat.le_of_ble_eq_true rfl) (Nat.le_of_ble_eq_true rfl) (Nat.le_refl _) ⟨Nat.le_of_ble_eq_true rfl, Nat.le_of_ble_eq_true rfl⟩ ⟨rfl, zhn_X11_change⟩ rfl (Nat.le_of_ble_eq_true rfl) rfl (z_contV (fun μ7 h => ?_) h)
      refine s_iload_n A dX11_curve_114 rfl ?_
      obtain ⟨oz8, h⟩ := h
      refine z_if_eq (tgt := 123) A dX11_curve_115 (by decide) oz8 (fun c9 => ?_) (fun c9 => ?_)
      · have h := h.1 c9
        refine s_iconst A dX11_curve_123 ?_
        refine s_istore (L' := [some (zR (some 153)), some (zI x1), some (zI x2), none, some (zI 0), none]) A dX11_curve_124 (Nat.le_of_ble_eq_true rfl) rfl ?_
        refine s_iconst A dX11_curve_126 ?_
        refine s_istore (L' := [some (zR (some 153)), some (zI x1), some (zI x2), none, some (zI 0), some (zI 0)]) A dX11_curve_127 (Nat.le_of_ble_eq_true rfl) rfl ?_
        exact h
      · have h := h.2 c9
        refine s_aload_n A dX11_curve_118 rfl ?_
        refine s_iload_n A dX11_curve_119 rfl ?_
        refine s_callV (a := 153) (k := 11) (N := 45) (sl := true) (M := mX11_straighten) (n := 1) (d := 0) (mc := 0) (ms := 0) (av := [zI x1]) (st := []) A dX11_curve_120 rfl (by decide) (zk_153 _) zwd1299 zwd1301 zwd29 zwd100 zcd_X11_straighten (Nat.le_of_ble_eq_true rfl) (Nat.le_of_ble_eq_true rfl) (Nat.le_refl _) ⟨Nat.le_of_ble_eq_true rfl, Nat.le_of_ble_eq_true rfl⟩ ⟨rfl, zhn_X11_straighten⟩ rfl (Nat.le_of_ble_eq_true rfl) rfl (z_contV (fun μ10 h => ?_) h)
        refine s_iconst A dX11_curve_123 ?_
        refine s_istore (L' := [some (zR (some 153)), some (zI x1), some (zI x2), none, some (zI 0), none]) A dX11_curve_124 (Nat.le_of_ble_eq_true rfl) rfl ?_
        refine s_iconst A dX11_curve_126 ?_
        refine s_istore (L' := [some (zR (some 153)), some (zI x1), some (zI x2), none, some (zI 0), some (zI 0)]) A dX11_curve_127 (Nat.le_of_ble_eq_true rfl) rfl ?_
        exact h
    · have h := h.2 c6
      refine s_iconst A dX11_curve_108 ?_
      exact s_iret A dX11_curve_109 hr hlk (Nat.le_of_ble_eq_true rfl) (Nat.le_of_ble_eq_true rfl) ⟨_, rfl, h⟩
  · have h := h.2 c3
    refine s_iconst A dX11_curve_94 ?_
    refine s_aload_n A dX11_curve_95 rfl ?_
    refine s_getf (k := 11) (j := 9) (sl := true) (v := zI (zi μ1 153 9)) A dX11_curve_96 rfl zuw_X11 (Nat.le_of_ble_eq_true rfl) zwd1317 (by decide) (zk_153 _) rfl ?_
    refine s_isub A dX11_curve_99 ?_
    exact s_iret A dX11_curve_100 hr hlk (Nat.le_of_ble_eq_true rfl) (Nat.le_of_ble_eq_true rfl) ⟨_, rfl, h⟩
set_option maxRecDepth 20000 in
theorem rX11_curve_129 {G : zG} {F : Int → zM → Prop} {J : Nat → zS → Prop} {μ : zM} (C : zJ G true (8) 0 0 mX11_curve (zKI F) J) (x1 : Int) (x2 : Int) (x4 : Int) (x5 : Int)
    (h : zin x5 ∧ ((9 ≤ x5 → F x4 μ) ∧ (¬ (9 ≤ x5) → zin x2 ∧ ((¬ x2 = 0 → (0 ≤ (324 + (9 * x1)) + x5 ∧ (324 + (9 * x1)) + x5 < 711) ∧ zin ((zi μ 154 ((324 + (9 * x1)) + x5)) - x5) ∧ J 129 ([some (zR (some 153)), some (zI x1), some (zI x2), none, some (zI (x4 + (max ((zi μ 154 ((324 + (9 * x1)) + x5)) - x5) (-((zi μ 154 ((324 + (9 * x1)) + x5)) - x5))))), some (zI (x5 + 1))], [], μ, 0, 0)) ∧ (x2 = 0 → (0 ≤ x5 ∧ x5 < 320) ∧ (0 ≤ (324 + (9 * x1)) + x5 ∧ (324 + (9 * x1)) + x5 < 711) ∧ zin ((zi (zup μ 154 ((324 + (9 * x1)) + x5) (zi μ 157 x5)) 154 ((324 + (9 * x1)) + x5)) - x5) ∧ J 129 ([some (zR (some 153)), some (zI x1), some (zI x2), none, some (zI (x4 + (max ((zi (zup μ 154 ((324 + (9 * x1)) + x5) (zi μ 157 x5)) 154 ((324 + (9 * x1)) + x5)) - x5) (-((zi (zup μ 154 ((324 + (9 * x1)) + x5) (zi μ 157 x5)) 154 ((324 + (9 * x1)) + x5)) - x5))))), some (zI (x5 + 1))], [], zup μ 154 ((324 + (9 * x1)) + x5) (zi μ 157 x5), 0, 0)))))) : J 129 ([some (zR (some 153)), some (zI x1), some (zI x2), none, some (zI x4), some (zI x5)], [], μ, 0, 0) := by
  obtain ⟨p, e, s, m, args, below, meth, c, A, hml, hr, hlk, hnm, rfl⟩ := C
  refine s_iload A dX11_curve_129 rfl ?_
  refine s_bipush A dX11_curve_131 rfl ?_
  obtain ⟨oz1, h⟩ := h
  refine z_icmp_ge (tgt := 196) A dX11_curve_133 (by decide) oz1 ⟨by decide, by decide⟩ (fun c2 => ?_) (fun c2 => ?_)
  · have h := h.1 c2
    refine s_iload A dX11_curve_196 rfl ?_
    exact s_iret A dX11_curve_198 hr hlk (Nat.le_of_ble_eq_true rfl) (Nat.le_of_ble_eq_true rfl) ⟨_, rfl, h⟩
  · have h := h.2 c2
    refine s_iload_n A dX11_curve_136 rfl ?_
    obtain ⟨oz3, h⟩ := h
    refine z_if_ne (tgt := 163) A dX11_curve_137 (by decide) oz3 (fun c4 => ?_) (fun c4 => ?_)
    · have h := h.1 c4
      refine s_iload A dX11_curve_163 rfl ?_
      refine s_aload_n A dX11_curve_165 rfl ?_
      refine s_getf (k := 11) (j := 0) (sl := true) (v := zR (some 154)) A dX11_curve_166 rfl zuw_X11 (Nat.le_of_ble_eq_true rfl) zwd1308 (by decide) (zk_153 _) rfl ?_
      refine s_sipush A dX11_curve_169 rfl ?_
      refine s_bipush A dX11_curve_172 rfl ?_
      refine s_iload_n A dX11_curve_174 rfl ?_
      refine s_imul A dX11_curve_175 ?_
      refine s_iadd A dX11_curve_176 ?_
      refine s_iload A dX11_curve_177 rfl ?_
      refine s_iadd A dX11_curve_179 ?_
      obtain ⟨ox5, h⟩ := h
      refine z_iald A dX11_curve_180 (zk_154 _) (Nat.le_of_ble_eq_true rfl) ox5 ?_
      refine s_iload A dX11_curve_181 rfl ?_
      refine s_isub A dX11_curve_183 ?_
      obtain ⟨oz6, h⟩ := h
      refine z_mabs A dX11_curve_184 zwd1524 zwd638 zwd105 zwd639 (Nat.le_of_ble_eq_true rfl) (Nat.le_of_ble_eq_true rfl) ⟨Nat.le_of_ble_eq_true rfl, Nat.le_of_ble_eq_true rfl⟩ oz6 ?_
      refine s_iadd A dX11_curve_187 ?_
      refine s_istore (L' := [some (zR (some 153)), some (zI x1), some (zI x2), none, some (zI (x4 + (max ((zi μ 154 ((324 + (9 * x1)) + x5)) - x5) (-((zi μ 154 ((324 + (9 * x1)) + x5)) - x5))))), some (zI x5)]) A dX11_curve_188 (Nat.le_of_ble_eq_true rfl) rfl ?_
      refine s_iinc (L' := [some (zR (some 153)), some (zI x1), some (zI x2), none, some (zI (x4 + (max ((zi μ 154 ((324 + (9 * x1)) + x5)) - x5) (-((zi μ 154 ((324 + (9 * x1)) + x5)) - x5))))), some (zI (x5 + 1))]) A dX11_curve_190 rfl rfl ?_
      refine s_goto (tgt := 129) A dX11_curve_193 (by decide) ?_
      exact h
    · have h := h.2 c4
      refine s_aload_n A dX11_curve_140 rfl ?_
      refine s_getf (k := 11) (j := 0) (sl := true) (v := zR (some 154)) A dX11_curve_141 rfl zuw_X11 (Nat.le_of_ble_eq_true rfl) zwd1308 (by decide) (zk_153 _) rfl ?_
      refine s_sipush A dX11_curve_144 rfl ?_
      refine s_bipush A dX11_curve_147 rfl ?_
      refine s_iload_n A dX11_curve_149 rfl ?_
      refine s_imul A dX11_curve_150 ?_
      refine s_iadd A dX11_curve_151 ?_
      refine s_iload A dX11_curve_152 rfl ?_
      refine s_iadd A dX11_curve_154 ?_
      refine s_aload_n A dX11_curve_155 rfl ?_
      refine s_getf (k := 11) (j := 10) (sl := true) (v := zR (some 157)) A dX11_curve_156 rfl zuw_X11 (Nat.le_of_ble_eq_true rfl) zwd1318 (by decide) (zk_153 _) rfl ?_
      refine s_iload A dX11_curve_159 rfl ?_
      obtain ⟨ox7, h⟩ := h
      refine z_iald A dX11_curve_161 (zk_157 _) (Nat.le_of_ble_eq_true rfl) ox7 ?_
      obtain ⟨ox8, h⟩ := h
      refine z_iast A dX11_curve_162 (zk_154 _) (Nat.le_of_ble_eq_true rfl) ox8 ?_
      refine s_iload A dX11_curve_163 rfl ?_
      refine s_aload_n A dX11_curve_165 rfl ?_
      refine s_getf (k := 11) (j := 0) (sl := true) (v := zR (some 154)) A dX11_curve_166 rfl zuw_X11 (Nat.le_of_ble_eq_true rfl) zwd1308 (by decide) (zk_153 _) rfl ?_
      refine s_sipush A dX11_curve_169 rfl ?_
      refine s_bipush A dX11_curve_172 rfl ?_
      refine s_iload_n A dX11_curve_174 rfl ?_
      refine s_imul A dX11_curve_175 ?_
      refine s_iadd A dX11_curve_176 ?_
      refine s_iload A dX11_curve_177 rfl ?_
      refine s_iadd A dX11_curve_179 ?_
      refine z_iald A dX11_curve_180 (zk_154 _) (Nat.le_of_ble_eq_true rfl) ox8 ?_
      refine s_iload A dX11_curve_181 rfl ?_
      refine s_isub A dX11_curve_183 ?_
      obtain ⟨oz9, h⟩ := h
      refine z_mabs A dX11_curve_184 zwd1524 zwd638 zwd105 zwd639 (Nat.le_of_ble_eq_true rfl) (Nat.le_of_ble_eq_true rfl) ⟨Nat.le_of_ble_eq_true rfl, Nat.le_of_ble_eq_true rfl⟩ oz9 ?_
      refine s_iadd A dX11_curve_187 ?_
      refine s_istore (L' := [some (zR (some 153)), some (zI x1), some (zI x2), none, some (zI (x4 + (max ((zi (zup μ 154 ((324 + (9 * x1)) + x5) (zi μ 157 x5)) 154 ((324 + (9 * x1)) + x5)) - x5) (-((zi (zup μ 154 ((324 + (9 * x1)) + x5) (zi μ 157 x5)) 154 ((324 + (9 * x1)) + x5)) - x5))))), some (zI x5)]) A dX11_curve_188 (Nat.le_of_ble_eq_true rfl) rfl ?_
      refine s_iinc (L' := [some (zR (some 153)), some (zI x1), some (zI x2), none, some (zI (x4 + (max ((zi (zup μ 154 ((324 + (9 * x1)) + x5) (zi μ 157 x5)) 154 ((324 + (9 * x1)) + x5)) - x5) (-((zi (zup μ 154 ((324 + (9 * x1)) + x5) (zi μ 157 x5)) 154 ((324 + (9 * x1)) + x5)) - x5))))), some (zI (x5 + 1))]) A dX11_curve_190 rfl rfl ?_
      refine s_goto (tgt := 129) A dX11_curve_193 (by decide) ?_
      exact h
theorem eX11_curve {G : zG} {F : Int → zM → Prop} {μ : zM} {x1 : Int} (h : ∀ J, zJ G true (8) 0 0 mX11_curve (zKI F) J → J 0 ([some (zR (some 153)), some (zI x1), none, none, none, none], [], μ, 0, 0)) : qX11_curve G x1 μ F :=
  z_body (by decide +kernel) (Nat.le_of_ble_eq_true rfl) h
set_option maxRecDepth 20000 in
theorem rX11_isAround_e {G : zG} {ph : Bool} {F : Int → zM → Prop} {J : Nat → zS → Prop} {μ : zM} (C : zJ G ph (0) 0 0 mX11_isAround (zKI F) J) (x0 : Int)
    (h : zin x0 ∧ ((x0 = 110 → F 1 μ) ∧ (¬ (x0 = 110) → ((x0 = 111 → F 1 μ) ∧ (¬ (x0 = 111) → ((x0 = 105 → F 1 μ) ∧ (¬ (x0 = 105) → ((¬ x0 = 106 → F 0 μ) ∧ (x0 = 106 → F 1 μ))))))))) : J 0 ([some (zI x0)], [], μ, 0, 0) := by
  obtain ⟨p, e, s, m, args, below, meth, c, A, hml, hr, hlk, hnm, rfl⟩ := C
  refine s_iload_n A dX11_isAround_0 rfl ?_
  refine s_bipush A dX11_isAround_1 rfl ?_
  obtain ⟨oz1, h⟩ := h
  refine z_icmp_eq (tgt := 24) A dX11_isAround_3 (by decide) oz1 ⟨by decide, by decide⟩ (fun c2 => ?_) (fun c2 => ?_)
  · have h := h.1 c2
    refine s_iconst A dX11_isAround_24 ?_
    refine s_goto (tgt := 29) A dX11_isAround_25 (by decide) ?_
    exact s_zret A dX11_isAround_29 hr hlk (Nat.le_of_ble_eq_true rfl) (Nat.le_of_ble_eq_true rfl) (Or.inr rfl) ⟨_, rfl, h⟩
  · have h := h.2 c2
    refine s_iload_n A dX11_isAround_6 rfl ?_
    refine s_bipush A dX11_isAround_7 rfl ?_
    refine z_icmp_eq (tgt := 24) A dX11_isAround_9 (by decide) oz1 ⟨by decide, by decide⟩ (fun c3 => ?_) (fun c3 => ?_)
    · have h := h.1 c3
      refine s_iconst A dX11_isAround_24 ?_
      refine s_goto (tgt := 29) A dX11_isAround_25 (by decide) ?_
      exact s_zret A dX11_isAround_29 hr hlk (Nat.le_of_ble_eq_true rfl) (Nat.le_of_ble_eq_true rfl) (Or.inr rfl) ⟨_, rfl, h⟩
    · have h := h.2 c3
      refine s_iload_n A dX11_isAround_12 rfl ?_
      refine s_bipush A dX11_isAround_13 rfl ?_
      refine z_icmp_eq (tgt := 24) A dX11_isAround_15 (by decide) oz1 ⟨by decide, by decide⟩ (fun c4 => ?_) (fun c4 => ?_)
      · have h := h.1 c4
        refine s_iconst A dX11_isAround_24 ?_
        refine s_goto (tgt := 29) A dX11_isAround_25 (by decide) ?_
        exact s_zret A dX11_isAround_29 hr hlk (Nat.le_of_ble_eq_true rfl) (Nat.le_of_ble_eq_true rfl) (Or.inr rfl) ⟨_, rfl, h⟩
      · have h := h.2 c4
        refine s_iload_n A dX11_isAround_18 rfl ?_
        refine s_bipush A dX11_isAround_19 rfl ?_
        refine z_icmp_ne (tgt := 28) A dX11_isAround_21 (by decide) oz1 ⟨by decide, by decide⟩ (fun c5 => ?_) (fun c5 => ?_)
        · have h := h.1 c5
          refine s_iconst A dX11_isAround_28 ?_
          exact s_zret A dX11_isAround_29 hr hlk (Nat.le_of_ble_eq_true rfl) (Nat.le_of_ble_eq_true rfl) (Or.inl rfl) ⟨_, rfl, h⟩
        · have h := h.2 c5
          refine s_iconst A dX11_isAround_24 ?_
          refine s_goto (tgt := 29) A dX11_isAround_25 (by decide) ?_
          exact s_zret A dX11_isAround_29 hr hlk (Nat.le_of_ble_eq_true rfl) (Nat.le_of_ble_eq_true rfl) (Or.inr rfl) ⟨_, rfl, h⟩
theorem eX11_isAround {G : zG} {ph : Bool} {F : Int → zM → Prop} {μ : zM} {x0 : Int} (h : ∀ J, zJ G ph (0) 0 0 mX11_isAround (zKI F) J → J 0 ([some (zI x0)], [], μ, 0, 0)) : qX11_isAround G ph x0 μ F :=
  z_body (by decide +kernel) (Nat.le_of_ble_eq_true rfl) h
set_option maxRecDepth 20000 in
theorem rX11_isStep_e {G : zG} {ph : Bool} {F : Int → zM → Prop} {J : Nat → zS → Prop} {μ : zM} (C : zJ G ph (2) 0 0 mX11_isStep (zKI F) J) (x0 : Int)
    (h : zin x0 ∧ ((x0 = 108 → F 1 μ) ∧ (¬ (x0 = 108) → ((x0 = 118 → F 1 μ) ∧ (¬ (x0 = 118) → ((x0 = 103 → F 1 μ) ∧ (¬ (x0 = 103) → ((x0 = 117 → F 1 μ) ∧ (¬ (x0 = 117) → ((x0 = 97 → F 1 μ) ∧ (¬ (x0 = 97) → ((x0 = 115 → F 1 μ) ∧ (¬ (x0 = 115) → ((x0 = 119 → F 1 μ) ∧ (¬ (x0 = 119) → ((x0 = 104 → F 1 μ) ∧ (¬ (x0 = 104) → ((x0 = 120 → F 1 μ) ∧ (¬ (x0 = 120) → ((x0 = 112 → F 1 μ) ∧ (¬ (x0 = 112) → qX11_isAround G ph x0 μ (fun v12 μ12 => zin v12 ∧ ((v12 = 0 → F 0 μ12) ∧ (¬ (v12 = 0) → F 1 μ12)))))))))))))))))))))))) : J 0 ([some (zI x0)], [], μ, 0, 0) := by
  obtain ⟨p, e, s, m, args, below, meth, c, A, hml, hr, hlk, hnm, rfl⟩ := C
  refine s_iload_n A dX11_isStep_0 rfl ?_
  refine s_bipush A dX11_isStep_1 rfl ?_
  obtain ⟨oz1, h⟩ := h
  refine z_icmp_eq (tgt := 67) A dX11_isStep_3 (by decide) oz1 ⟨by decide, by decide⟩ (fun c2 => ?_) (fun c2 => ?_)
  · have h := h.1 c2
    refine s_iconst A dX11_isStep_67 ?_
    refine s_goto (tgt := 72) A dX11_isStep_68 (by decide) ?_
    exact s_zret A dX11_isStep_72 hr hlk (Nat.le_of_ble_eq_true rfl) (Nat.le_of_ble_eq_true rfl) (Or.inr rfl) ⟨_, rfl, h⟩
  · have h := h.2 c2
    refine s_iload_n A dX11_isStep_6 rfl ?_
    refine s_bipush A dX11_isStep_7 rfl ?_
    refine z_icmp_eq (tgt := 67) A dX11_isStep_9 (by decide) oz1 ⟨by decide, by decide⟩ (fun c3 => ?_) (fun c3 => ?_)
    · have h := h.1 c3
      refine s_iconst A dX11_isStep_67 ?_
      refine s_goto (tgt := 72) A dX11_isStep_68 (by decide) ?_
      exact s_zret A dX11_isStep_72 hr hlk (Nat.le_of_ble_eq_true rfl) (Nat.le_of_ble_eq_true rfl) (Or.inr rfl) ⟨_, rfl, h⟩
    · have h := h.2 c3
      refine s_iload_n A dX11_isStep_12 rfl ?_
      refine s_bipush A dX11_isStep_13 rfl ?_
      refine z_icmp_eq (tgt := 67) A dX11_isStep_15 (by decide) oz1 ⟨by decide, by decide⟩ (fun c4 => ?_) (fun c4 => ?_)
      · have h := h.1 c4
        refine s_iconst A dX11_isStep_67 ?_
        refine s_goto (tgt := 72) A dX11_isStep_68 (by decide) ?_
        exact s_zret A dX11_isStep_72 hr hlk (Nat.le_of_ble_eq_true rfl) (Nat.le_of_ble_eq_true rfl) (Or.inr rfl) ⟨_, rfl, h⟩
      · have h := h.2 c4
        refine s_iload_n A dX11_isStep_18 rfl ?_
        refine s_bipush A dX11_isStep_19 rfl ?_
        refine z_icmp_eq (tgt := 67) A dX11_isStep_21 (by decide) oz1 ⟨by decide, by decide⟩ (fun c5 => ?_) (fun c5 => ?_)
        · have h := h.1 c5
          refine s_iconst A dX11_isStep_67 ?_
          refine s_goto (tgt := 72) A dX11_isStep_68 (by decide) ?_
          exact s_zret A dX11_isStep_72 hr hlk (Nat.le_of_ble_eq_true rfl) (Nat.le_of_ble_eq_true rfl) (Or.inr rfl) ⟨_, rfl, h⟩
        · have h := h.2 c5
          refine s_iload_n A dX11_isStep_24 rfl ?_
          refine s_bipush A dX11_isStep_25 rfl ?_
          refine z_icmp_eq (tgt := 67) A dX11_isStep_27 (by decide) oz1 ⟨by decide, by decide⟩ (fun c6 => ?_) (fun c6 => ?_)
          · have h := h.1 c6
            refine s_iconst A dX11_isStep_67 ?_
            refine s_goto (tgt := 72) A dX11_isStep_68 (by decide) ?_
            exact s_zret A dX11_isStep_72 hr hlk (Nat.le_of_ble_eq_true rfl) (Nat.le_of_ble_eq_true rfl) (Or.inr rfl) ⟨_, rfl, h⟩
          · have h := h.2 c6
            refine s_iload_n A dX11_isStep_30 rfl ?_
            refine s_bipush A dX11_isStep_31 rfl ?_
            refine z_icmp_eq (tgt := 67) A dX11_isStep_33 (by decide) oz1 ⟨by decide, by decide⟩ (fun c7 => ?_) (fun c7 => ?_)
            · have h := h.1 c7
              refine s_iconst A dX11_isStep_67 ?_
              refine s_goto (tgt := 72) A dX11_isStep_68 (by decide) ?_
              exact s_zret A dX11_isStep_72 hr hlk (Nat.le_of_ble_eq_true rfl) (Nat.le_of_ble_eq_true rfl) (Or.inr rfl) ⟨_, rfl, h⟩
            · have h := h.2 c7
              refine s_iload_n A dX11_isStep_36 rfl ?_
              refine s_bipush A dX11_isStep_37 rfl ?_
              refine z_icmp_eq (tgt := 67) A dX11_isStep_39 (by decide) oz1 ⟨by decide, by decide⟩ (fun c8 => ?_) (fun c8 => ?_)
              · have h := h.1 c8
                refine s_iconst A dX11_isStep_67 ?_
                refine s_goto (tgt := 72) A dX11_isStep_68 (by decide) ?_
                exact s_zret A dX11_isStep_72 hr hlk (Nat.le_of_ble_eq_true rfl) (Nat.le_of_ble_eq_true rfl) (Or.inr rfl) ⟨_, rfl, h⟩
              · have h := h.2 c8
                refine s_iload_n A dX11_isStep_42 rfl ?_
                refine s_bipush A dX11_isStep_43 rfl ?_
                refine z_icmp_eq (tgt := 67) A dX11_isStep_45 (by decide) oz1 ⟨by decide, by decide⟩ (fun c9 => ?_) (fun c9 => ?_)
                · have h := h.1 c9
                  refine s_iconst A dX11_isStep_67 ?_
                  refine s_goto (tgt := 72) A dX11_isStep_68 (by decide) ?_
                  exact s_zret A dX11_isStep_72 hr hlk (Nat.le_of_ble_eq_true rfl) (Nat.le_of_ble_eq_true rfl) (Or.inr rfl) ⟨_, rfl, h⟩
                · have h := h.2 c9
                  refine s_iload_n A dX11_isStep_48 rfl ?_
                  refine s_bipush A dX11_isStep_49 rfl ?_
                  refine z_icmp_eq (tgt := 67) A dX11_isStep_51 (by decide) oz1 ⟨by decide, by decide⟩ (fun c10 => ?_) (fun c10 => ?_)
                  · have h := h.1 c10
                    refine s_iconst A dX11_isStep_67 ?_
                    refine s_goto (tgt := 72) A dX11_isStep_68 (by decide) ?_
                    exact s_zret A dX11_isStep_72 hr hlk (Nat.le_of_ble_eq_true rfl) (Nat.le_of_ble_eq_true rfl) (Or.inr rfl) ⟨_, rfl, h⟩
                  · have h := h.2 c10
                    refine s_iload_n A dX11_isStep_54 rfl ?_
                    refine s_bipush A dX11_isStep_55 rfl ?_
                    refine z_icmp_eq (tgt := 67) A dX11_isStep_57 (by decide) oz1 ⟨by decide, by decide⟩ (fun c11 => ?_) (fun c11 => ?_)
                    · have h := h.1 c11
                      refine s_iconst A dX11_isStep_67 ?_
                      refine s_goto (tgt := 72) A dX11_isStep_68 (by decide) ?_
                      exact s_zret A dX11_isStep_72 hr hlk (Nat.le_of_ble_eq_true rfl) (Nat.le_of_ble_eq_true rfl) (Or.inr rfl) ⟨_, rfl, h⟩
                    · have h := h.2 c11
                      refine s_iload_n A dX11_isStep_60 rfl ?_
                      refine s_callS (M := mX11_isAround) (n := 1) (d := 0) (mc := 0) (ms := 0) (av := [zI x0]) (st := []) A dX11_isStep_61 zwd1536 zwd1537 zwd100 zcd_X11_isAround (Nat.le_of_ble_eq_true rfl) (Nat.le_of_ble_eq_true rfl) (Nat.le_refl _) ⟨Nat.le_of_ble_eq_true rfl, Nat.le_of_ble_eq_true rfl⟩ zhn_X11_isAround rfl (Nat.le_of_ble_eq_true rfl) rfl (z_contI (fun v12 μ12 h => ?_) h)
                      obtain ⟨oz13, h⟩ := h
                      refine z_if_eq (tgt := 71) A dX11_isStep_64 (by decide) oz13 (fun c14 => ?_) (fun c14 => ?_)
                      · have h := h.1 c14
                        refine s_iconst A dX11_isStep_71 ?_
                        exact s_zret A dX11_isStep_72 hr hlk (Nat.le_of_ble_eq_true rfl) (Nat.le_of_ble_eq_true rfl) (Or.inl rfl) ⟨_, rfl, h⟩
                      · have h := h.2 c14
                        refine s_iconst A dX11_isStep_67 ?_
                        refine s_goto (tgt := 72) A dX11_isStep_68 (by decide) ?_
                        exact s_zret A dX11_isStep_72 hr hlk (Nat.le_of_ble_eq_true rfl) (Nat.le_of_ble_eq_true rfl) (Or.inr rfl) ⟨_, rfl, h⟩
theorem eX11_isStep {G : zG} {ph : Bool} {F : Int → zM → Prop} {μ : zM} {x0 : Int} (h : ∀ J, zJ G ph (2) 0 0 mX11_isStep (zKI F) J → J 0 ([some (zI x0)], [], μ, 0, 0)) : qX11_isStep G ph x0 μ F :=
  z_body (by decide +kernel) (Nat.le_of_ble_eq_true rfl) h
set_option maxRecDepth 20000 in
theorem rX11_readWithin_e {G : zG} {dd : Nat} {F : Int → zM → Prop} {J : Nat → zS → Prop} {μ : zM} (C : zJ G true (5 + dd) 0 0 mX11_readWithin (zKI F) J) (x1 : Int)
    (h : zin x1 ∧ ((¬ x1 = 3 → qX11_need G 40 μ (fun μ3 => ∃ d4, d4 < dd ∧ qX11_readSteps G d4 (x1 + 1) μ3 (fun v4 μ4 => qX11_need G 41 μ4 (fun μ5 => F v4 μ5)))) ∧ (x1 = 3 → qX11_fault G (zi μ 153 8) μ (fun μ6 => qX11_need G 40 μ6 (fun μ7 => ∃ d8, d8 < dd ∧ qX11_readSteps G d8 (x1 + 1) μ7 (fun v8 μ8 => qX11_need G 41 μ8 (fun μ9 => F v8 μ9))))))) : J 0 ([some (zR (some 153)), some (zI x1), none], [], μ, 0, 0) := by
  obtain ⟨p, e, s, m, args, below, meth, c, A, hml, hr, hlk, hnm, rfl⟩ := C
  refine s_iload_n A dX11_readWithin_0 rfl ?_
  refine s_iconst A dX11_readWithin_1 ?_
  obtain ⟨oz1, h⟩ := h
  refine z_icmp_ne (tgt := 13) A dX11_readWithin_2 (by decide) oz1 ⟨by decide, by decide⟩ (fun c2 => ?_) (fun c2 => ?_)
  · have h := h.1 c2
    refine s_aload_n A dX11_readWithin_13 rfl ?_
    refine s_bipush A dX11_readWithin_14 rfl ?_
    refine s_callV (a := 153) (k := 11) (N := 45) (sl := true) (M := mX11_need) (n := 1) (d := 4) (mc := 0) (ms := 0) (av := [zI 40]) (st := []) A dX11_readWithin_16 rfl (by decide) (zk_153 _) zwd1554 zwd1556 zwd46 zwd100 zcd_X11_need (by show 4 + 1 ≤ 5 + dd; omega) (Nat.le_of_ble_eq_true rfl) (Nat.le_refl _) ⟨Nat.le_of_ble_eq_true rfl, Nat.le_of_ble_eq_true rfl⟩ ⟨rfl, zhn_X11_need⟩ rfl (Nat.le_of_ble_eq_true rfl) rfl (z_contV (fun μ3 h => ?_) h)
    refine s_aload_n A dX11_readWithin_19 rfl ?_
    refine s_iload_n A dX11_readWithin_20 rfl ?_
    refine s_iconst A dX11_readWithin_21 ?_
    refine s_iadd A dX11_readWithin_22 ?_
    obtain ⟨d4, hd4, h⟩ := h
    refine s_callV (a := 153) (k := 11) (N := 45) (sl := true) (M := mX11_readSteps) (n := 1) (d := 5 + d4) (mc := 0) (ms := 0) (av := [zI (x1 + 1)]) (st := []) A dX11_readWithin_23 rfl (by decide) (zk_153 _) zwd1529 zwd1531 zwd42 zwd100 zcd_X11_readSteps (by show 5 + d4 + 1 ≤ 5 + dd; omega) (Nat.le_of_ble_eq_true rfl) (Nat.le_refl _) ⟨Nat.le_of_ble_eq_true rfl, Nat.le_of_ble_eq_true rfl⟩ ⟨rfl, zhn_X11_readSteps⟩ rfl (Nat.le_of_ble_eq_true rfl) rfl (z_contI (fun v4 μ4 h => ?_) h)
    refine s_istore_n (L' := [some (zR (some 153)), some (zI x1), some (zI v4)]) A dX11_readWithin_26 (Nat.le_of_ble_eq_true rfl) rfl ?_
    refine s_aload_n A dX11_readWithin_27 rfl ?_
    refine s_bipush A dX11_readWithin_28 rfl ?_
    refine s_callV (a := 153) (k := 11) (N := 45) (sl := true) (M := mX11_need) (n := 1) (d := 4) (mc := 0) (ms := 0) (av := [zI 41]) (st := []) A dX11_readWithin_30 rfl (by decide) (zk_153 _) zwd1554 zwd1556 zwd46 zwd100 zcd_X11_need (by show 4 + 1 ≤ 5 + dd; omega) (Nat.le_of_ble_eq_true rfl) (Nat.le_refl _) ⟨Nat.le_of_ble_eq_true rfl, Nat.le_of_ble_eq_true rfl⟩ ⟨rfl, zhn_X11_need⟩ rfl (Nat.le_of_ble_eq_true rfl) rfl (z_contV (fun μ5 h => ?_) h)
    refine s_iload_n A dX11_readWithin_33 rfl ?_
    exact s_iret A dX11_readWithin_34 hr hlk (Nat.le_of_ble_eq_true rfl) (Nat.le_of_ble_eq_true rfl) ⟨_, rfl, h⟩
  · have h := h.2 c2
    refine s_aload_n A dX11_readWithin_5 rfl ?_
    refine s_aload_n A dX11_readWithin_6 rfl ?_
    refine s_getf (k := 11) (j := 8) (sl := true) (v := zI (zi μ 153 8)) A dX11_readWithin_7 rfl zuw_X11 (Nat.le_of_ble_eq_true rfl) zwd1316 (by decide) (zk_153 _) rfl ?_
    refine s_callV (a := 153) (k := 11) (N := 45) (sl := true) (M := mX11_fault) (n := 1) (d := 2) (mc := 0) (ms := 0) (av := [zI (zi μ 153 8)]) (st := []) A dX11_readWithin_10 rfl (by decide) (zk_153 _) zwd1487 zwd1489 zwd36 zwd100 zcd_X11_fault (by show 2 + 1 ≤ 5 + dd; omega) (Nat.le_of_ble_eq_true rfl) (Nat.le_refl _) ⟨Nat.le_of_ble_eq_true rfl, Nat.le_of_ble_eq_true rfl⟩ ⟨rfl, zhn_X11_fault⟩ rfl (Nat.le_of_ble_eq_true rfl) rfl (z_contV (fun μ6 h => ?_) h)
    refine s_aload_n A dX11_readWithin_13 rfl ?_
    refine s_bipush A dX11_readWithin_14 rfl ?_
    refine s_callV (a := 153) (k := 11) (N := 45) (sl := true) (M := mX11_need) (n := 1) (d := 4) (mc := 0) (ms := 0) (av := [zI 40]) (st := []) A dX11_readWithin_16 rfl (by decide) (zk_153 _) zwd1554 zwd1556 zwd46 zwd100 zcd_X11_need (by show 4 + 1 ≤ 5 + dd; omega) (Nat.le_of_ble_eq_true rfl) (Nat.le_refl _) ⟨Nat.le_of_ble_eq_true rfl, Nat.le_of_ble_eq_true rfl⟩ ⟨rfl, zhn_X11_need⟩ rfl (Nat.le_of_ble_eq_true rfl) rfl (z_contV (fun μ7 h => ?_) h)
    refine s_aload_n A dX11_readWithin_19 rfl ?_
    refine s_iload_n A dX11_readWithin_20 rfl ?_
    refine s_iconst A dX11_readWithin_21 ?_
    refine s_iadd A dX11_readWithin_22 ?_
    obtain ⟨d8, hd8, h⟩ := h
    refine s_callV (a := 153) (k := 11) (N := 45) (sl := true) (M := mX11_readSteps) (n := 1) (d := 5 + d8) (mc := 0) (ms := 0) (av := [zI (x1 + 1)]) (st := []) A dX11_readWithin_23 rfl (by decide) (zk_153 _) zwd1529 zwd1531 zwd42 zwd100 zcd_X11_readSteps (by show 5 + d8 + 1 ≤ 5 + dd; omega) (Nat.le_of_ble_eq_true rfl) (Nat.le_refl _) ⟨Nat.le_of_ble_eq_true rfl, Nat.le_of_ble_eq_true rfl⟩ ⟨rfl, zhn_X11_readSteps⟩ rfl (Nat.le_of_ble_eq_true rfl) rfl (z_contI (fun v8 μ8 h => ?_) h)
    refine s_istore_n (L' := [some (zR (some 153)), some (zI x1), some (zI v8)]) A dX11_readWithin_26 (Nat.le_of_ble_eq_true rfl) rfl ?_
    refine s_aload_n A dX11_readWithin_27 rfl ?_
    refine s_bipush A dX11_readWithin_28 rfl ?_
    refine s_callV (a := 153) (k := 11) (N := 45) (sl := true) (M := mX11_need) (n := 1) (d := 4) (mc := 0) (ms := 0) (av := [zI 41]) (st := []) A dX11_readWithin_30 rfl (by decide) (zk_153 _) zwd1554 zwd1556 zwd46 zwd100 zcd_X11_need (by show 4 + 1 ≤ 5 + dd; omega) (Nat.le_of_ble_eq_true rfl) (Nat.le_refl _) ⟨Nat.le_of_ble_eq_true rfl, Nat.le_of_ble_eq_true rfl⟩ ⟨rfl, zhn_X11_need⟩ rfl (Nat.le_of_ble_eq_true rfl) rfl (z_contV (fun μ9 h => ?_) h)
    refine s_iload_n A dX11_readWithin_33 rfl ?_
    exact s_iret A dX11_readWithin_34 hr hlk (Nat.le_of_ble_eq_true rfl) (Nat.le_of_ble_eq_true rfl) ⟨_, rfl, h⟩
theorem eX11_readWithin {G : zG} {dd : Nat} {F : Int → zM → Prop} {μ : zM} {x1 : Int} (h : ∀ J, zJ G true (5 + dd) 0 0 mX11_readWithin (zKI F) J → J 0 ([some (zR (some 153)), some (zI x1), none], [], μ, 0, 0)) : qX11_readWithin G dd x1 μ F :=
  z_body (by decide +kernel) (Nat.le_of_ble_eq_true rfl) h
set_option maxRecDepth 20000 in
theorem rX11_readStep_e {G : zG} {dd : Nat} {F : Int → zM → Prop} {J : Nat → zS → Prop} {μ : zM} (C : zJ G true (5 + dd) 0 0 mX11_readStep (zKI F) J) (x1 : Int) (x2 : Int)
    (h : zin x1 ∧ ((x1 = 97 ∨ x1 = 115 ∨ x1 = 119 → qX11_readInk G μ (fun v2 μ2 => qX11_oneOf G 48 9 μ2 (fun v3 μ3 => F 1 μ3))) ∧ (x1 = 103 → qX11_oneOf G 48 5 μ (fun v4 μ4 => F 1 μ4)) ∧ (x1 = 104 → qX11_readInk G μ (fun v5 μ5 => F 1 μ5)) ∧ (x1 = 105 → qX11_readInk G μ (fun v6 μ6 => qX11_oneOf G 48 9 μ6 (fun v7 μ7 => ∃ d8, d8 < dd ∧ qX11_readWithin G d8 x2 μ7 (fun v8 μ8 => F (1 + v8) μ8)))) ∧ (x1 = 108 ∨ x1 = 118 → F 1 μ) ∧ (x1 = 110 → qX11_oneOf G 48 10 μ (fun v9 μ9 => ∃ d10, d10 < dd ∧ qX11_readWithin G d10 x2 μ9 (fun v10 μ10 => F (1 + (v9 * v10)) μ10))) ∧ (x1 = 111 → qX11_readInk G μ (fun v11 μ11 => ∃ d12, d12 < dd ∧ qX11_readWithin G d12 x2 μ11 (fun v12 μ12 => F (1 + (8 * v12)) μ12))) ∧ (x1 = 112 → F (zi (zup μ 153 11 1) 154 613) (zup μ 153 11 1)) ∧ (x1 = 117 → qX11_oneOf G 48 9 μ (fun v13 μ13 => F 1 μ13)) ∧ (x1 = 120 → qX11_readInk G μ (fun v14 μ14 => qX11_readInk G μ14 (fun v15 μ15 => F 1 μ15))) ∧ (x1 ≠ 97 ∧ x1 ≠ 103 ∧ x1 ≠ 104 ∧ x1 ≠ 105 ∧ x1 ≠ 108 ∧ x1 ≠ 110 ∧ x1 ≠ 111 ∧ x1 ≠ 112 ∧ x1 ≠ 115 ∧ x1 ≠ 117 ∧ x1 ≠ 118 ∧ x1 ≠ 119 ∧ x1 ≠ 120 → qX11_readInk G μ (fun v16 μ16 => qX11_readInk G μ16 (fun v17 μ17 => ∃ d18, d18 < dd ∧ qX11_readWithin G d18 x2 μ17 (fun v18 μ18 => F (1 + v18) μ18)))))) : J 0 ([some (zR (some 153)), some (zI x1), some (zI x2), none], [], μ, 0, 0) := by
  obtain ⟨p, e, s, m, args, below, meth, c, A, hml, hr, hlk, hnm, rfl⟩ := C
  refine s_iload_n A dX11_readStep_0 rfl ?_
  obtain ⟨oz1, h⟩ := h
  refine z_tsw A dX11_readStep_1 oz1 (by decide +kernel) ⟨241, by decide⟩ (fun tg19 ht19 => ?_)
  have hx19 : (x1 = 97 ∨ x1 = 98 ∨ x1 = 99 ∨ x1 = 100 ∨ x1 = 101 ∨ x1 = 102 ∨ x1 = 103 ∨ x1 = 104 ∨ x1 = 105 ∨ x1 = 106 ∨ x1 = 107 ∨ x1 = 108 ∨ x1 = 109 ∨ x1 = 110 ∨ x1 = 111 ∨ x1 = 112 ∨ x1 = 113 ∨ x1 = 114 ∨ x1 = 115 ∨ x1 = 116 ∨ x1 = 117 ∨ x1 = 118 ∨ x1 = 119 ∨ x1 = 120) ∨ (x1 < 97 ∨ 120 < x1) := by omega
  rcases hx19 with (hq | hq | hq | hq | hq | hq | hq | hq | hq | hq | hq | hq | hq | hq | hq | hq | hq | hq | hq | hq | hq | hq | hq | hq) | hq
  · obtain rfl := ztg_in (t := 135) ht19 97 hq (by decide) (by decide +kernel)
    have h := h.1 (by omega)
    refine s_aload_n A dX11_readStep_135 rfl ?_
    refine s_callV (a := 153) (k := 11) (N := 45) (sl := true) (M := mX11_readInk) (n := 0) (d := 3) (mc := 0) (ms := 0) (av := []) (st := []) A dX11_readStep_136 rfl (by decide) (zk_153 _) zwd1543 zwd1545 zwd44 zwd100 zcd_X11_readInk (by show 3 + 1 ≤ 5 + dd; omega) (Nat.le_of_ble_eq_true rfl) (Nat.le_refl _) ⟨Nat.le_of_ble_eq_true rfl, Nat.le_of_ble_eq_true rfl⟩ ⟨rfl, zhn_X11_readInk⟩ rfl (Nat.le_of_ble_eq_true rfl) rfl (z_contI (fun v2 μ2 h => ?_) h)
    refine s_pop A dX11_readStep_139 rfl ?_
    refine s_aload_n A dX11_readStep_140 rfl ?_
    refine s_bipush A dX11_readStep_141 rfl ?_
    refine s_bipush A dX11_readStep_143 rfl ?_
    refine s_callV (a := 153) (k := 11) (N := 45) (sl := true) (M := mX11_oneOf) (n := 2) (d := 3) (mc := 0) (ms := 0) (av := [zI 48, zI 9]) (st := []) A dX11_readStep_145 rfl (by decide) (zk_153 _) zwd1479 zwd1481 zwd34 zwd100 zcd_X11_oneOf (by show 3 + 1 ≤ 5 + dd; omega) (Nat.le_of_ble_eq_true rfl) (Nat.le_refl _) ⟨Nat.le_of_ble_eq_true rfl, Nat.le_of_ble_eq_true rfl⟩ ⟨rfl, zhn_X11_oneOf⟩ rfl (Nat.le_of_ble_eq_true rfl) rfl (z_contI (fun v3 μ3 h => ?_) h)
    refine s_pop A dX11_readStep_148 rfl ?_
    refine s_iconst A dX11_readStep_149 ?_
    exact s_iret A dX11_readStep_150 hr hlk (Nat.le_of_ble_eq_true rfl) (Nat.le_of_ble_eq_true rfl) ⟨_, rfl, h⟩
  · obtain rfl := ztg_in (t := 241) ht19 98 hq (by decide) (by decide +kernel)
    have h := h.2.2.2.2.2.2.2.2.2.2 (by omega)
    refine s_aload_n A dX11_readStep_241 rfl ?_
    refine s_callV (a := 153) (k := 11) (N := 45) (sl := true) (M := mX11_readInk) (n := 0) (d := 3) (mc := 0) (ms := 0) (av := []) (st := []) A dX11_readStep_242 rfl (by decide) (zk_153 _) zwd1543 zwd1545 zwd44 zwd100 zcd_X11_readInk (by show 3 + 1 ≤ 5 + dd; omega) (Nat.le_of_ble_eq_true rfl) (Nat.le_refl _) ⟨Nat.le_of_ble_eq_true rfl, Nat.le_of_ble_eq_true rfl⟩ ⟨rfl, zhn_X11_readInk⟩ rfl (Nat.le_of_ble_eq_true rfl) rfl (z_contI (fun v16 μ16 h => ?_) h)
    refine s_pop A dX11_readStep_245 rfl ?_
    refine s_aload_n A dX11_readStep_246 rfl ?_
    refine s_callV (a := 153) (k := 11) (N := 45) (sl := true) (M := mX11_readInk) (n := 0) (d := 3) (mc := 0) (ms := 0) (av := []) (st := []) A dX11_readStep_247 rfl (by decide) (zk_153 _) zwd1543 zwd1545 zwd44 zwd100 zcd_X11_readInk (by show 3 + 1 ≤ 5 + dd; omega) (Nat.le_of_ble_eq_true rfl) (Nat.le_refl _) ⟨Nat.le_of_ble_eq_true rfl, Nat.le_of_ble_eq_true rfl⟩ ⟨rfl, zhn_X11_readInk⟩ rfl (Nat.le_of_ble_eq_true rfl) rfl (z_contI (fun v17 μ17 h => ?_) h)
    refine s_pop A dX11_readStep_250 rfl ?_
    refine s_iconst A dX11_readStep_251 ?_
    refine s_aload_n A dX11_readStep_252 rfl ?_
    refine s_iload_n A dX11_readStep_253 rfl ?_
    obtain ⟨d18, hd18, h⟩ := h
    refine s_callV (a := 153) (k := 11) (N := 45) (sl := true) (M := mX11_readWithin) (n := 1) (d := 5 + d18) (mc := 0) (ms := 0) (av := [zI x2]) (st := [zI 1]) A dX11_readStep_254 rfl (by decide) (zk_153 _) zwd1550 zwd1552 zwd45 zwd100 zcd_X11_readWithin (by show 5 + d18 + 1 ≤ 5 + dd; omega) (Nat.le_of_ble_eq_true rfl) (Nat.le_refl _) ⟨Nat.le_of_ble_eq_true rfl, Nat.le_of_ble_eq_true rfl⟩ ⟨rfl, zhn_X11_readWithin⟩ rfl (Nat.le_of_ble_eq_true rfl) rfl (z_contI (fun v18 μ18 h => ?_) h)
    refine s_iadd A dX11_readStep_257 ?_
    exact s_iret A dX11_readStep_258 hr hlk (Nat.le_of_ble_eq_true rfl) (Nat.le_of_ble_eq_true rfl) ⟨_, rfl, h⟩
  · obtain rfl := ztg_in (t := 241) ht19 99 hq (by decide) (by decide +kernel)
    have h := h.2.2.2.2.2.2.2.2.2.2 (by omega)
    refine s_aload_n A dX11_readStep_241 rfl ?_
    refine s_callV (a := 153) (k := 11) (N := 45) (sl := true) (M := mX11_readInk) (n := 0) (d := 3) (mc := 0) (ms := 0) (av := []) (st := []) A dX11_readStep_242 rfl (by decide) (zk_153 _) zwd1543 zwd1545 zwd44 zwd100 zcd_X11_readInk (by show 3 + 1 ≤ 5 + dd; omega) (Nat.le_of_ble_eq_true rfl) (Nat.le_refl _) ⟨Nat.le_of_ble_eq_true rfl, Nat.le_of_ble_eq_true rfl⟩ ⟨rfl, zhn_X11_readInk⟩ rfl (Nat.le_of_ble_eq_true rfl) rfl (z_contI (fun v16 μ16 h => ?_) h)
    refine s_pop A dX11_readStep_245 rfl ?_
    refine s_aload_n A dX11_readStep_246 rfl ?_
    refine s_callV (a := 153) (k := 11) (N := 45) (sl := true) (M := mX11_readInk) (n := 0) (d := 3) (mc := 0) (ms := 0) (av := []) (st := []) A dX11_readStep_247 rfl (by decide) (zk_153 _) zwd1543 zwd1545 zwd44 zwd100 zcd_X11_readInk (by show 3 + 1 ≤ 5 + dd; omega) (Nat.le_of_ble_eq_true rfl) (Nat.le_refl _) ⟨Nat.le_of_ble_eq_true rfl, Nat.le_of_ble_eq_true rfl⟩ ⟨rfl, zhn_X11_readInk⟩ rfl (Nat.le_of_ble_eq_true rfl) rfl (z_contI (fun v17 μ17 h => ?_) h)
    refine s_pop A dX11_readStep_250 rfl ?_
    refine s_iconst A dX11_readStep_251 ?_
    refine s_aload_n A dX11_readStep_252 rfl ?_
    refine s_iload_n A dX11_readStep_253 rfl ?_
    obtain ⟨d18, hd18, h⟩ := h
    refine s_callV (a := 153) (k := 11) (N := 45) (sl := true) (M := mX11_readWithin) (n := 1) (d := 5 + d18) (mc := 0) (ms := 0) (av := [zI x2]) (st := [zI 1]) A dX11_readStep_254 rfl (by decide) (zk_153 _) zwd1550 zwd1552 zwd45 zwd100 zcd_X11_readWithin (by show 5 + d18 + 1 ≤ 5 + dd; omega) (Nat.le_of_ble_eq_true rfl) (Nat.le_refl _) ⟨Nat.le_of_ble_eq_true rfl, Nat.le_of_ble_eq_true rfl⟩ ⟨rfl, zhn_X11_readWithin⟩ rfl (Nat.le_of_ble_eq_true rfl) rfl (z_contI (fun v18 μ18 h => ?_) h)
    refine s_iadd A dX11_readStep_257 ?_
    exact s_iret A dX11_readStep_258 hr hlk (Nat.le_of_ble_eq_true rfl) (Nat.le_of_ble_eq_true rfl) ⟨_, rfl, h⟩
  · obtain rfl := ztg_in (t := 241) ht19 100 hq (by decide) (by decide +kernel)
    have h := h.2.2.2.2.2.2.2.2.2.2 (by omega)
    refine s_aload_n A dX11_readStep_241 rfl ?_
    refine s_callV (a := 153) (k := 11) (N := 45) (sl := true) (M := mX11_readInk) (n := 0) (d := 3) (mc := 0) (ms := 0) (av := []) (st := []) A dX11_readStep_242 rfl (by decide) (zk_153 _) zwd1543 zwd1545 zwd44 zwd100 zcd_X11_readInk (by show 3 + 1 ≤ 5 + dd; omega) (Nat.le_of_ble_eq_true rfl) (Nat.le_refl _) ⟨Nat.le_of_ble_eq_true rfl, Nat.le_of_ble_eq_true rfl⟩ ⟨rfl, zhn_X11_readInk⟩ rfl (Nat.le_of_ble_eq_true rfl) rfl (z_contI (fun v16 μ16 h => ?_) h)
    refine s_pop A dX11_readStep_245 rfl ?_
    refine s_aload_n A dX11_readStep_246 rfl ?_
    refine s_callV (a := 153) (k := 11) (N := 45) (sl := true) (M := mX11_readInk) (n := 0) (d := 3) (mc := 0) (ms := 0) (av := []) (st := []) A dX11_readStep_247 rfl (by decide) (zk_153 _) zwd1543 zwd1545 zwd44 zwd100 zcd_X11_readInk (by show 3 + 1 ≤ 5 + dd; omega) (Nat.le_of_ble_eq_true rfl) (Nat.le_refl _) ⟨Nat.le_of_ble_eq_true rfl, Nat.le_of_ble_eq_true rfl⟩ ⟨rfl, zhn_X11_readInk⟩ rfl (Nat.le_of_ble_eq_true rfl) rfl (z_contI (fun v17 μ17 h => ?_) h)
    refine s_pop A dX11_readStep_250 rfl ?_
    refine s_iconst A dX11_readStep_251 ?_
    refine s_aload_n A dX11_readStep_252 rfl ?_
    refine s_iload_n A dX11_readStep_253 rfl ?_
    obtain ⟨d18, hd18, h⟩ := h
    refine s_callV (a := 153) (k := 11) (N := 45) (sl := true) (M := mX11_readWithin) (n := 1) (d := 5 + d18) (mc := 0) (ms := 0) (av := [zI x2]) (st := [zI 1]) A dX11_readStep_254 rfl (by decide) (zk_153 _) zwd1550 zwd1552 zwd45 zwd100 zcd_X11_readWithin (by show 5 + d18 + 1 ≤ 5 + dd; omega) (Nat.le_of_ble_eq_true rfl) (Nat.le_refl _) ⟨Nat.le_of_ble_eq_true rfl, Nat.le_of_ble_eq_true rfl⟩ ⟨rfl, zhn_X11_readWithin⟩ rfl (Nat.le_of_ble_eq_true rfl) rfl (z_contI (fun v18 μ18 h => ?_) h)
    refine s_iadd A dX11_readStep_257 ?_
    exact s_iret A dX11_readStep_258 hr hlk (Nat.le_of_ble_eq_true rfl) (Nat.le_of_ble_eq_true rfl) ⟨_, rfl, h⟩
  · obtain rfl := ztg_in (t := 241) ht19 101 hq (by decide) (by decide +kernel)
    have h := h.2.2.2.2.2.2.2.2.2.2 (by omega)
    refine s_aload_n A dX11_readStep_241 rfl ?_
    refine s_callV (a := 153) (k := 11) (N := 45) (sl := true) (M := mX11_readInk) (n := 0) (d := 3) (mc := 0) (ms := 0) (av := []) (st := []) A dX11_readStep_242 rfl (by decide) (zk_153 _) zwd1543 zwd1545 zwd44 zwd100 zcd_X11_readInk (by show 3 + 1 ≤ 5 + dd; omega) (Nat.le_of_ble_eq_true rfl) (Nat.le_refl _) ⟨Nat.le_of_ble_eq_true rfl, Nat.le_of_ble_eq_true rfl⟩ ⟨rfl, zhn_X11_readInk⟩ rfl (Nat.le_of_ble_eq_true rfl) rfl (z_contI (fun v16 μ16 h => ?_) h)
    refine s_pop A dX11_readStep_245 rfl ?_
    refine s_aload_n A dX11_readStep_246 rfl ?_
    refine s_callV (a := 153) (k := 11) (N := 45) (sl := true) (M := mX11_readInk) (n := 0) (d := 3) (mc := 0) (ms := 0) (av := []) (st := []) A dX11_readStep_247 rfl (by decide) (zk_153 _) zwd1543 zwd1545 zwd44 zwd100 zcd_X11_readInk (by show 3 + 1 ≤ 5 + dd; omega) (Nat.le_of_ble_eq_true rfl) (Nat.le_refl _) ⟨Nat.le_of_ble_eq_true rfl, Nat.le_of_ble_eq_true rfl⟩ ⟨rfl, zhn_X11_readInk⟩ rfl (Nat.le_of_ble_eq_true rfl) rfl (z_contI (fun v17 μ17 h => ?_) h)
    refine s_pop A dX11_readStep_250 rfl ?_
    refine s_iconst A dX11_readStep_251 ?_
    refine s_aload_n A dX11_readStep_252 rfl ?_
    refine s_iload_n A dX11_readStep_253 rfl ?_
    obtain ⟨d18, hd18, h⟩ := h
    refine s_callV (a := 153) (k := 11) (N := 45) (sl := true) (M := mX11_readWithin) (n := 1) (d := 5 + d18) (mc := 0) (ms := 0) (av := [zI x2]) (st := [zI 1]) A dX11_readStep_254 rfl (by decide) (zk_153 _) zwd1550 zwd1552 zwd45 zwd100 zcd_X11_readWithin (by show 5 + d18 + 1 ≤ 5 + dd; omega) (Nat.le_of_ble_eq_true rfl) (Nat.le_refl _) ⟨Nat.le_of_ble_eq_true rfl, Nat.le_of_ble_eq_true rfl⟩ ⟨rfl, zhn_X11_readWithin⟩ rfl (Nat.le_of_ble_eq_true rfl) rfl (z_contI (fun v18 μ18 h => ?_) h)
    refine s_iadd A dX11_readStep_257 ?_
    exact s_iret A dX11_readStep_258 hr hlk (Nat.le_of_ble_eq_true rfl) (Nat.le_of_ble_eq_true rfl) ⟨_, rfl, h⟩
  · obtain rfl := ztg_in (t := 241) ht19 102 hq (by decide) (by decide +kernel)
    have h := h.2.2.2.2.2.2.2.2.2.2 (by omega)
    refine s_aload_n A dX11_readStep_241 rfl ?_
    refine s_callV (a := 153) (k := 11) (N := 45) (sl := true) (M := mX11_readInk) (n := 0) (d := 3) (mc := 0) (ms := 0) (av := []) (st := []) A dX11_readStep_242 rfl (by decide) (zk_153 _) zwd1543 zwd1545 zwd44 zwd100 zcd_X11_readInk (by show 3 + 1 ≤ 5 + dd; omega) (Nat.le_of_ble_eq_true rfl) (Nat.le_refl _) ⟨Nat.le_of_ble_eq_true rfl, Nat.le_of_ble_eq_true rfl⟩ ⟨rfl, zhn_X11_readInk⟩ rfl (Nat.le_of_ble_eq_true rfl) rfl (z_contI (fun v16 μ16 h => ?_) h)
    refine s_pop A dX11_readStep_245 rfl ?_
    refine s_aload_n A dX11_readStep_246 rfl ?_
    refine s_callV (a := 153) (k := 11) (N := 45) (sl := true) (M := mX11_readInk) (n := 0) (d := 3) (mc := 0) (ms := 0) (av := []) (st := []) A dX11_readStep_247 rfl (by decide) (zk_153 _) zwd1543 zwd1545 zwd44 zwd100 zcd_X11_readInk (by show 3 + 1 ≤ 5 + dd; omega) (Nat.le_of_ble_eq_true rfl) (Nat.le_refl _) ⟨Nat.le_of_ble_eq_true rfl, Nat.le_of_ble_eq_true rfl⟩ ⟨rfl, zhn_X11_readInk⟩ rfl (Nat.le_of_ble_eq_true rfl) rfl (z_contI (fun v17 μ17 h => ?_) h)
    refine s_pop A dX11_readStep_250 rfl ?_
    refine s_iconst A dX11_readStep_251 ?_
    refine s_aload_n A dX11_readStep_252 rfl ?_
    refine s_iload_n A dX11_readStep_253 rfl ?_
    obtain ⟨d18, hd18, h⟩ := h
    refine s_callV (a := 153) (k := 11) (N := 45) (sl := true) (M := mX11_readWithin) (n := 1) (d := 5 + d18) (mc := 0) (ms := 0) (av := [zI x2]) (st := [zI 1]) A dX11_readStep_254 rfl (by decide) (zk_153 _) zwd1550 zwd1552 zwd45 zwd100 zcd_X11_readWithin (by show 5 + d18 + 1 ≤ 5 + dd; omega) (Nat.le_of_ble_eq_true rfl) (Nat.le_refl _) ⟨Nat.le_of_ble_eq_true rfl, Nat.le_of_ble_eq_true rfl⟩ ⟨rfl, zhn_X11_readWithin⟩ rfl (Nat.le_of_ble_eq_true rfl) rfl (z_contI (fun v18 μ18 h => ?_) h)
    refine s_iadd A dX11_readStep_257 ?_
    exact s_iret A dX11_readStep_258 hr hlk (Nat.le_of_ble_eq_true rfl) (Nat.le_of_ble_eq_true rfl) ⟨_, rfl, h⟩
  · obtain rfl := ztg_in (t := 114) ht19 103 hq (by decide) (by decide +kernel)
    have h := h.2.1 (by omega)
    refine s_aload_n A dX11_readStep_114 rfl ?_
    refine s_bipush A dX11_readStep_115 rfl ?_
    refine s_iconst A dX11_readStep_117 ?_
    refine s_callV (a := 153) (k := 11) (N := 45) (sl := true) (M := mX11_oneOf) (n := 2) (d := 3) (mc := 0) (ms := 0) (av := [zI 48, zI 5]) (st := []) A dX11_readStep_118 rfl (by decide) (zk_153 _) zwd1479 zwd1481 zwd34 zwd100 zcd_X11_oneOf (by show 3 + 1 ≤ 5 + dd; omega) (Nat.le_of_ble_eq_true rfl) (Nat.le_refl _) ⟨Nat.le_of_ble_eq_true rfl, Nat.le_of_ble_eq_true rfl⟩ ⟨rfl, zhn_X11_oneOf⟩ rfl (Nat.le_of_ble_eq_true rfl) rfl (z_contI (fun v4 μ4 h => ?_) h)
    refine s_pop A dX11_readStep_121 rfl ?_
    refine s_iconst A dX11_readStep_122 ?_
    exact s_iret A dX11_readStep_123 hr hlk (Nat.le_of_ble_eq_true rfl) (Nat.le_of_ble_eq_true rfl) ⟨_, rfl, h⟩
  · obtain rfl := ztg_in (t := 151) ht19 104 hq (by decide) (by decide +kernel)
    have h := h.2.2.1 (by omega)
    refine s_aload_n A dX11_readStep_151 rfl ?_
    refine s_callV (a := 153) (k := 11) (N := 45) (sl := true) (M := mX11_readInk) (n := 0) (d := 3) (mc := 0) (ms := 0) (av := []) (st := []) A dX11_readStep_152 rfl (by decide) (zk_153 _) zwd1543 zwd1545 zwd44 zwd100 zcd_X11_readInk (by show 3 + 1 ≤ 5 + dd; omega) (Nat.le_of_ble_eq_true rfl) (Nat.le_refl _) ⟨Nat.le_of_ble_eq_true rfl, Nat.le_of_ble_eq_true rfl⟩ ⟨rfl, zhn_X11_readInk⟩ rfl (Nat.le_of_ble_eq_true rfl) rfl (z_contI (fun v5 μ5 h => ?_) h)
    refine s_pop A dX11_readStep_155 rfl ?_
    refine s_iconst A dX11_readStep_156 ?_
    exact s_iret A dX11_readStep_157 hr hlk (Nat.le_of_ble_eq_true rfl) (Nat.le_of_ble_eq_true rfl) ⟨_, rfl, h⟩
  · obtain rfl := ztg_in (t := 219) ht19 105 hq (by decide) (by decide +kernel)
    have h := h.2.2.2.1 (by omega)
    refine s_aload_n A dX11_readStep_219 rfl ?_
    refine s_callV (a := 153) (k := 11) (N := 45) (sl := true) (M := mX11_readInk) (n := 0) (d := 3) (mc := 0) (ms := 0) (av := []) (st := []) A dX11_readStep_220 rfl (by decide) (zk_153 _) zwd1543 zwd1545 zwd44 zwd100 zcd_X11_readInk (by show 3 + 1 ≤ 5 + dd; omega) (Nat.le_of_ble_eq_true rfl) (Nat.le_refl _) ⟨Nat.le_of_ble_eq_true rfl, Nat.le_of_ble_eq_true rfl⟩ ⟨rfl, zhn_X11_readInk⟩ rfl (Nat.le_of_ble_eq_true rfl) rfl (z_contI (fun v6 μ6 h => ?_) h)
    refine s_pop A dX11_readStep_223 rfl ?_
    refine s_aload_n A dX11_readStep_224 rfl ?_
    refine s_bipush A dX11_readStep_225 rfl ?_
    refine s_bipush A dX11_readStep_227 rfl ?_
    refine s_callV (a := 153) (k := 11) (N := 45) (sl := true) (M := mX11_oneOf) (n := 2) (d := 3) (mc := 0) (ms := 0) (av := [zI 48, zI 9]) (st := []) A dX11_readStep_229 rfl (by decide) (zk_153 _) zwd1479 zwd1481 zwd34 zwd100 zcd_X11_oneOf (by show 3 + 1 ≤ 5 + dd; omega) (Nat.le_of_ble_eq_true rfl) (Nat.le_refl _) ⟨Nat.le_of_ble_eq_true rfl, Nat.le_of_ble_eq_true rfl⟩ ⟨rfl, zhn_X11_oneOf⟩ rfl (Nat.le_of_ble_eq_true rfl) rfl (z_contI (fun v7 μ7 h => ?_) h)
    refine s_pop A dX11_readStep_232 rfl ?_
    refine s_iconst A dX11_readStep_233 ?_
    refine s_aload_n A dX11_readStep_234 rfl ?_
    refine s_iload_n A dX11_readStep_235 rfl ?_
    obtain ⟨d8, hd8, h⟩ := h
    refine s_callV (a := 153) (k := 11) (N := 45) (sl := true) (M := mX11_readWithin) (n := 1) (d := 5 + d8) (mc := 0) (ms := 0) (av := [zI x2]) (st := [zI 1]) A dX11_readStep_236 rfl (by decide) (zk_153 _) zwd1550 zwd1552 zwd45 zwd100 zcd_X11_readWithin (by show 5 + d8 + 1 ≤ 5 + dd; omega) (Nat.le_of_ble_eq_true rfl) (Nat.le_refl _) ⟨Nat.le_of_ble_eq_true rfl, Nat.le_of_ble_eq_true rfl⟩ ⟨rfl, zhn_X11_readWithin⟩ rfl (Nat.le_of_ble_eq_true rfl) rfl (z_contI (fun v8 μ8 h => ?_) h)
    refine s_iadd A dX11_readStep_239 ?_
    exact s_iret A dX11_readStep_240 hr hlk (Nat.le_of_ble_eq_true rfl) (Nat.le_of_ble_eq_true rfl) ⟨_, rfl, h⟩
  · obtain rfl := ztg_in (t := 241) ht19 106 hq (by decide) (by decide +kernel)
    have h := h.2.2.2.2.2.2.2.2.2.2 (by omega)
    refine s_aload_n A dX11_readStep_241 rfl ?_
    refine s_callV (a := 153) (k := 11) (N := 45) (sl := true) (M := mX11_readInk) (n := 0) (d := 3) (mc := 0) (ms := 0) (av := []) (st := []) A dX11_readStep_242 rfl (by decide) (zk_153 _) zwd1543 zwd1545 zwd44 zwd100 zcd_X11_readInk (by show 3 + 1 ≤ 5 + dd; omega) (Nat.le_of_ble_eq_true rfl) (Nat.le_refl _) ⟨Nat.le_of_ble_eq_true rfl, Nat.le_of_ble_eq_true rfl⟩ ⟨rfl, zhn_X11_readInk⟩ rfl (Nat.le_of_ble_eq_true rfl) rfl (z_contI (fun v16 μ16 h => ?_) h)
    refine s_pop A dX11_readStep_245 rfl ?_
    refine s_aload_n A dX11_readStep_246 rfl ?_
    refine s_callV (a := 153) (k := 11) (N := 45) (sl := true) (M := mX11_readInk) (n := 0) (d := 3) (mc := 0) (ms := 0) (av := []) (st := []) A dX11_readStep_247 rfl (by decide) (zk_153 _) zwd1543 zwd1545 zwd44 zwd100 zcd_X11_readInk (by show 3 + 1 ≤ 5 + dd; omega) (Nat.le_of_ble_eq_true rfl) (Nat.le_refl _) ⟨Nat.le_of_ble_eq_true rfl, Nat.le_of_ble_eq_true rfl⟩ ⟨rfl, zhn_X11_readInk⟩ rfl (Nat.le_of_ble_eq_true rfl) rfl (z_contI (fun v17 μ17 h => ?_) h)
    refine s_pop A dX11_readStep_250 rfl ?_
    refine s_iconst A dX11_readStep_251 ?_
    refine s_aload_n A dX11_readStep_252 rfl ?_
    refine s_iload_n A dX11_readStep_253 rfl ?_
    obtain ⟨d18, hd18, h⟩ := h
    refine s_callV (a := 153) (k := 11) (N := 45) (sl := true) (M := mX11_readWithin) (n := 1) (d := 5 + d18) (mc := 0) (ms := 0) (av := [zI x2]) (st := [zI 1]) A dX11_readStep_254 rfl (by decide) (zk_153 _) zwd1550 zwd1552 zwd45 zwd100 zcd_X11_readWithin (by show 5 + d18 + 1 ≤ 5 + dd; omega) (Nat.le_of_ble_eq_true rfl) (Nat.le_refl _) ⟨Nat.le_of_ble_eq_true rfl, Nat.le_of_ble_eq_true rfl⟩ ⟨rfl, zhn_X11_readWithin⟩ rfl (Nat.le_of_ble_eq_true rfl) rfl (z_contI (fun v18 μ18 h => ?_) h)
    refine s_iadd A dX11_readStep_257 ?_
    exact s_iret A dX11_readStep_258 hr hlk (Nat.le_of_ble_eq_true rfl) (Nat.le_of_ble_eq_true rfl) ⟨_, rfl, h⟩
  · obtain rfl := ztg_in (t := 241) ht19 107 hq (by decide) (by decide +kernel)
    have h := h.2.2.2.2.2.2.2.2.2.2 (by omega)
    refine s_aload_n A dX11_readStep_241 rfl ?_
    refine s_callV (a := 153) (k := 11) (N := 45) (sl := true) (M := mX11_readInk) (n := 0) (d := 3) (mc := 0) (ms := 0) (av := []) (st := []) A dX11_readStep_242 rfl (by decide) (zk_153 _) zwd1543 zwd1545 zwd44 zwd100 zcd_X11_readInk (by show 3 + 1 ≤ 5 + dd; omega) (Nat.le_of_ble_eq_true rfl) (Nat.le_refl _) ⟨Nat.le_of_ble_eq_true rfl, Nat.le_of_ble_eq_true rfl⟩ ⟨rfl, zhn_X11_readInk⟩ rfl (Nat.le_of_ble_eq_true rfl) rfl (z_contI (fun v16 μ16 h => ?_) h)
    refine s_pop A dX11_readStep_245 rfl ?_
    refine s_aload_n A dX11_readStep_246 rfl ?_
    refine s_callV (a := 153) (k := 11) (N := 45) (sl := true) (M := mX11_readInk) (n := 0) (d := 3) (mc := 0) (ms := 0) (av := []) (st := []) A dX11_readStep_247 rfl (by decide) (zk_153 _) zwd1543 zwd1545 zwd44 zwd100 zcd_X11_readInk (by show 3 + 1 ≤ 5 + dd; omega) (Nat.le_of_ble_eq_true rfl) (Nat.le_refl _) ⟨Nat.le_of_ble_eq_true rfl, Nat.le_of_ble_eq_true rfl⟩ ⟨rfl, zhn_X11_readInk⟩ rfl (Nat.le_of_ble_eq_true rfl) rfl (z_contI (fun v17 μ17 h => ?_) h)
    refine s_pop A dX11_readStep_250 rfl ?_
    refine s_iconst A dX11_readStep_251 ?_
    refine s_aload_n A dX11_readStep_252 rfl ?_
    refine s_iload_n A dX11_readStep_253 rfl ?_
    obtain ⟨d18, hd18, h⟩ := h
    refine s_callV (a := 153) (k := 11) (N := 45) (sl := true) (M := mX11_readWithin) (n := 1) (d := 5 + d18) (mc := 0) (ms := 0) (av := [zI x2]) (st := [zI 1]) A dX11_readStep_254 rfl (by decide) (zk_153 _) zwd1550 zwd1552 zwd45 zwd100 zcd_X11_readWithin (by show 5 + d18 + 1 ≤ 5 + dd; omega) (Nat.le_of_ble_eq_true rfl) (Nat.le_refl _) ⟨Nat.le_of_ble_eq_true rfl, Nat.le_of_ble_eq_true rfl⟩ ⟨rfl, zhn_X11_readWithin⟩ rfl (Nat.le_of_ble_eq_true rfl) rfl (z_contI (fun v18 μ18 h => ?_) h)
    refine s_iadd A dX11_readStep_257 ?_
    exact s_iret A dX11_readStep_258 hr hlk (Nat.le_of_ble_eq_true rfl) (Nat.le_of_ble_eq_true rfl) ⟨_, rfl, h⟩
  · obtain rfl := ztg_in (t := 112) ht19 108 hq (by decide) (by decide +kernel)
    have h := h.2.2.2.2.1 (by omega)
    refine s_iconst A dX11_readStep_112 ?_
    exact s_iret A dX11_readStep_113 hr hlk (Nat.le_of_ble_eq_true rfl) (Nat.le_of_ble_eq_true rfl) ⟨_, rfl, h⟩
  · obtain rfl := ztg_in (t := 241) ht19 109 hq (by decide) (by decide +kernel)
    have h := h.2.2.2.2.2.2.2.2.2.2 (by omega)
    refine s_aload_n A dX11_readStep_241 rfl ?_
    refine s_callV (a := 153) (k := 11) (N := 45) (sl := true) (M := mX11_readInk) (n := 0) (d := 3) (mc := 0) (ms := 0) (av := []) (st := []) A dX11_readStep_242 rfl (by decide) (zk_153 _) zwd1543 zwd1545 zwd44 zwd100 zcd_X11_readInk (by show 3 + 1 ≤ 5 + dd; omega) (Nat.le_of_ble_eq_true rfl) (Nat.le_refl _) ⟨Nat.le_of_ble_eq_true rfl, Nat.le_of_ble_eq_true rfl⟩ ⟨rfl, zhn_X11_readInk⟩ rfl (Nat.le_of_ble_eq_true rfl) rfl (z_contI (fun v16 μ16 h => ?_) h)
    refine s_pop A dX11_readStep_245 rfl ?_
    refine s_aload_n A dX11_readStep_246 rfl ?_
    refine s_callV (a := 153) (k := 11) (N := 45) (sl := true) (M := mX11_readInk) (n := 0) (d := 3) (mc := 0) (ms := 0) (av := []) (st := []) A dX11_readStep_247 rfl (by decide) (zk_153 _) zwd1543 zwd1545 zwd44 zwd100 zcd_X11_readInk (by show 3 + 1 ≤ 5 + dd; omega) (Nat.le_of_ble_eq_true rfl) (Nat.le_refl _) ⟨Nat.le_of_ble_eq_true rfl, Nat.le_of_ble_eq_true rfl⟩ ⟨rfl, zhn_X11_readInk⟩ rfl (Nat.le_of_ble_eq_true rfl) rfl (z_contI (fun v17 μ17 h => ?_) h)
    refine s_pop A dX11_readStep_250 rfl ?_
    refine s_iconst A dX11_readStep_251 ?_
    refine s_aload_n A dX11_readStep_252 rfl ?_
    refine s_iload_n A dX11_readStep_253 rfl ?_
    obtain ⟨d18, hd18, h⟩ := h
    refine s_callV (a := 153) (k := 11) (N := 45) (sl := true) (M := mX11_readWithin) (n := 1) (d := 5 + d18) (mc := 0) (ms := 0) (av := [zI x2]) (st := [zI 1]) A dX11_readStep_254 rfl (by decide) (zk_153 _) zwd1550 zwd1552 zwd45 zwd100 zcd_X11_readWithin (by show 5 + d18 + 1 ≤ 5 + dd; omega) (Nat.le_of_ble_eq_true rfl) (Nat.le_refl _) ⟨Nat.le_of_ble_eq_true rfl, Nat.le_of_ble_eq_true rfl⟩ ⟨rfl, zhn_X11_readWithin⟩ rfl (Nat.le_of_ble_eq_true rfl) rfl (z_contI (fun v18 μ18 h => ?_) h)
    refine s_iadd A dX11_readStep_257 ?_
    exact s_iret A dX11_readStep_258 hr hlk (Nat.le_of_ble_eq_true rfl) (Nat.le_of_ble_eq_true rfl) ⟨_, rfl, h⟩
  · obtain rfl := ztg_in (t := 184) ht19 110 hq (by decide) (by decide +kernel)
    have h := h.2.2.2.2.2.1 (by omega)
    refine s_aload_n A dX11_readStep_184 rfl ?_
    refine s_bipush A dX11_readStep_185 rfl ?_
    refine s_bipush A dX11_readStep_187 rfl ?_
    refine s_callV (a := 153) (k := 11) (N := 45) (sl := true) (M := mX11_oneOf) (n := 2) (d := 3) (mc := 0) (ms := 0) (av := [zI 48, zI 10]) (st := []) A dX11_readStep_189 rfl (by decide) (zk_153 _) zwd1479 zwd1481 zwd34 zwd100 zcd_X11_oneOf (by show 3 + 1 ≤ 5 + dd; omega) (Nat.le_of_ble_eq_true rfl) (Nat.le_refl _) ⟨Nat.le_of_ble_eq_true rfl, Nat.le_of_ble_eq_true rfl⟩ ⟨rfl, zhn_X11_oneOf⟩ rfl (Nat.le_of_ble_eq_true rfl) rfl (z_contI (fun v9 μ9 h => ?_) h)
    refine s_istore_n (L' := [some (zR (some 153)), some (zI x1), some (zI x2), some (zI v9)]) A dX11_readStep_192 (Nat.le_of_ble_eq_true rfl) rfl ?_
    refine s_iconst A dX11_readStep_193 ?_
    refine s_iload_n A dX11_readStep_194 rfl ?_
    refine s_aload_n A dX11_readStep_195 rfl ?_
    refine s_iload_n A dX11_readStep_196 rfl ?_
    obtain ⟨d10, hd10, h⟩ := h
    refine s_callV (a := 153) (k := 11) (N := 45) (sl := true) (M := mX11_readWithin) (n := 1) (d := 5 + d10) (mc := 0) (ms := 0) (av := [zI x2]) (st := [zI v9, zI 1]) A dX11_readStep_197 rfl (by decide) (zk_153 _) zwd1550 zwd1552 zwd45 zwd100 zcd_X11_readWithin (by show 5 + d10 + 1 ≤ 5 + dd; omega) (Nat.le_of_ble_eq_true rfl) (Nat.le_refl _) ⟨Nat.le_of_ble_eq_true rfl, Nat.le_of_ble_eq_true rfl⟩ ⟨rfl, zhn_X11_readWithin⟩ rfl (Nat.le_of_ble_eq_true rfl) rfl (z_contI (fun v10 μ10 h => ?_) h)
    refine s_imul A dX11_readStep_200 ?_
    refine s_iadd A dX11_readStep_201 ?_
    exact s_iret A dX11_readStep_202 hr hlk (Nat.le_of_ble_eq_true rfl) (Nat.le_of_ble_eq_true rfl) ⟨_, rfl, h⟩
  · obtain rfl := ztg_in (t := 203) ht19 111 hq (by decide) (by decide +kernel)
    have h := h.2.2.2.2.2.2.1 (by omega)
    refine s_aload_n A dX11_readStep_203 rfl ?_
    refine s_callV (a := 153) (k := 11) (N := 45) (sl := true) (M := mX11_readInk) (n := 0) (d := 3) (mc := 0) (ms := 0) (av := []) (st := []) A dX11_readStep_204 rfl (by decide) (zk_153 _) zwd1543 zwd1545 zwd44 zwd100 zcd_X11_readInk (by show 3 + 1 ≤ 5 + dd; omega) (Nat.le_of_ble_eq_true rfl) (Nat.le_refl _) ⟨Nat.le_of_ble_eq_true rfl, Nat.le_of_ble_eq_true rfl⟩ ⟨rfl, zhn_X11_readInk⟩ rfl (Nat.le_of_ble_eq_true rfl) rfl (z_contI (fun v11 μ11 h => ?_) h)
    refine s_pop A dX11_readStep_207 rfl ?_
    refine s_iconst A dX11_readStep_208 ?_
    refine s_bipush A dX11_readStep_209 rfl ?_
    refine s_aload_n A dX11_readStep_211 rfl ?_
    refine s_iload_n A dX11_readStep_212 rfl ?_
    obtain ⟨d12, hd12, h⟩ := h
    refine s_callV (a := 153) (k := 11) (N := 45) (sl := true) (M := mX11_readWithin) (n := 1) (d := 5 + d12) (mc := 0) (ms := 0) (av := [zI x2]) (st := [zI 8, zI 1]) A dX11_readStep_213 rfl (by decide) (zk_153 _) zwd1550 zwd1552 zwd45 zwd100 zcd_X11_readWithin (by show 5 + d12 + 1 ≤ 5 + dd; omega) (Nat.le_of_ble_eq_true rfl) (Nat.le_refl _) ⟨Nat.le_of_ble_eq_true rfl, Nat.le_of_ble_eq_true rfl⟩ ⟨rfl, zhn_X11_readWithin⟩ rfl (Nat.le_of_ble_eq_true rfl) rfl (z_contI (fun v12 μ12 h => ?_) h)
    refine s_imul A dX11_readStep_216 ?_
    refine s_iadd A dX11_readStep_217 ?_
    exact s_iret A dX11_readStep_218 hr hlk (Nat.le_of_ble_eq_true rfl) (Nat.le_of_ble_eq_true rfl) ⟨_, rfl, h⟩
  · obtain rfl := ztg_in (t := 170) ht19 112 hq (by decide) (by decide +kernel)
    have h := h.2.2.2.2.2.2.2.1 (by omega)
    refine s_aload_n A dX11_readStep_170 rfl ?_
    refine s_iconst A dX11_readStep_171 ?_
    refine z_putZ (k := 11) (j := 11) (sl := true) A dX11_readStep_172 rfl zuw_X11 (Nat.le_of_ble_eq_true rfl) zwd1319 (by decide) (zk_153 _) tyX11 tyX11_ok nmX11 rfl rfl rfl (Or.inr rfl) ?_
    refine s_aload_n A dX11_readStep_175 rfl ?_
    refine s_getf (k := 11) (j := 0) (sl := true) (v := zR (some 154)) A dX11_readStep_176 rfl zuw_X11 (Nat.le_of_ble_eq_true rfl) zwd1308 (by decide) (zk_153 _) rfl ?_
    refine s_sipush A dX11_readStep_179 rfl ?_
    refine z_iald A dX11_readStep_182 (zk_154 _) (Nat.le_of_ble_eq_true rfl) ⟨by decide, by decide⟩ ?_
    exact s_iret A dX11_readStep_183 hr hlk (Nat.le_of_ble_eq_true rfl) (Nat.le_of_ble_eq_true rfl) ⟨_, rfl, h⟩
  · obtain rfl := ztg_in (t := 241) ht19 113 hq (by decide) (by decide +kernel)
    have h := h.2.2.2.2.2.2.2.2.2.2 (by omega)
    refine s_aload_n A dX11_readStep_241 rfl ?_
    refine s_callV (a := 153) (k := 11) (N := 45) (sl := true) (M := mX11_readInk) (n := 0) (d := 3) (mc := 0) (ms := 0) (av := []) (st := []) A dX11_readStep_242 rfl (by decide) (zk_153 _) zwd1543 zwd1545 zwd44 zwd100 zcd_X11_readInk (by show 3 + 1 ≤ 5 + dd; omega) (Nat.le_of_ble_eq_true rfl) (Nat.le_refl _) ⟨Nat.le_of_ble_eq_true rfl, Nat.le_of_ble_eq_true rfl⟩ ⟨rfl, zhn_X11_readInk⟩ rfl (Nat.le_of_ble_eq_true rfl) rfl (z_contI (fun v16 μ16 h => ?_) h)
    refine s_pop A dX11_readStep_245 rfl ?_
    refine s_aload_n A dX11_readStep_246 rfl ?_
    refine s_callV (a := 153) (k := 11) (N := 45) (sl := true) (M := mX11_readInk) (n := 0) (d := 3) (mc := 0) (ms := 0) (av := []) (st := []) A dX11_readStep_247 rfl (by decide) (zk_153 _) zwd1543 zwd1545 zwd44 zwd100 zcd_X11_readInk (by show 3 + 1 ≤ 5 + dd; omega) (Nat.le_of_ble_eq_true rfl) (Nat.le_refl _) ⟨Nat.le_of_ble_eq_true rfl, Nat.le_of_ble_eq_true rfl⟩ ⟨rfl, zhn_X11_readInk⟩ rfl (Nat.le_of_ble_eq_true rfl) rfl (z_contI (fun v17 μ17 h => ?_) h)
    refine s_pop A dX11_readStep_250 rfl ?_
    refine s_iconst A dX11_readStep_251 ?_
    refine s_aload_n A dX11_readStep_252 rfl ?_
    refine s_iload_n A dX11_readStep_253 rfl ?_
    obtain ⟨d18, hd18, h⟩ := h
    refine s_callV (a := 153) (k := 11) (N := 45) (sl := true) (M := mX11_readWithin) (n := 1) (d := 5 + d18) (mc := 0) (ms := 0) (av := [zI x2]) (st := [zI 1]) A dX11_readStep_254 rfl (by decide) (zk_153 _) zwd1550 zwd1552 zwd45 zwd100 zcd_X11_readWithin (by show 5 + d18 + 1 ≤ 5 + dd; omega) (Nat.le_of_ble_eq_true rfl) (Nat.le_refl _) ⟨Nat.le_of_ble_eq_true rfl, Nat.le_of_ble_eq_true rfl⟩ ⟨rfl, zhn_X11_readWithin⟩ rfl (Nat.le_of_ble_eq_true rfl) rfl (z_contI (fun v18 μ18 h => ?_) h)
    refine s_iadd A dX11_readStep_257 ?_
    exact s_iret A dX11_readStep_258 hr hlk (Nat.le_of_ble_eq_true rfl) (Nat.le_of_ble_eq_true rfl) ⟨_, rfl, h⟩
  · obtain rfl := ztg_in (t := 241) ht19 114 hq (by decide) (by decide +kernel)
    have h := h.2.2.2.2.2.2.2.2.2.2 (by omega)
    refine s_aload_n A dX11_readStep_241 rfl ?_
    refine s_callV (a := 153) (k := 11) (N := 45) (sl := true) (M := mX11_readInk) (n := 0) (d := 3) (mc := 0) (ms := 0) (av := []) (st := []) A dX11_readStep_242 rfl (by decide) (zk_153 _) zwd1543 zwd1545 zwd44 zwd100 zcd_X11_readInk (by show 3 + 1 ≤ 5 + dd; omega) (Nat.le_of_ble_eq_true rfl) (Nat.le_refl _) ⟨Nat.le_of_ble_eq_true rfl, Nat.le_of_ble_eq_true rfl⟩ ⟨rfl, zhn_X11_readInk⟩ rfl (Nat.le_of_ble_eq_true rfl) rfl (z_contI (fun v16 μ16 h => ?_) h)
    refine s_pop A dX11_readStep_245 rfl ?_
    refine s_aload_n A dX11_readStep_246 rfl ?_
    refine s_callV (a := 153) (k := 11) (N := 45) (sl := true) (M := mX11_readInk) (n := 0) (d := 3) (mc := 0) (ms := 0) (av := []) (st := []) A dX11_readStep_247 rfl (by decide) (zk_153 _) zwd1543 zwd1545 zwd44 zwd100 zcd_X11_readInk (by show 3 + 1 ≤ 5 + dd; omega) (Nat.le_of_ble_eq_true rfl) (Nat.le_refl _) ⟨Nat.le_of_ble_eq_true rfl, Nat.le_of_ble_eq_true rfl⟩ ⟨rfl, zhn_X11_readInk⟩ rfl (Nat.le_of_ble_eq_true rfl) rfl (z_contI (fun v17 μ17 h => ?_) h)
    refine s_pop A dX11_readStep_250 rfl ?_
    refine s_iconst A dX11_readStep_251 ?_
    refine s_aload_n A dX11_readStep_252 rfl ?_
    refine s_iload_n A dX11_readStep_253 rfl ?_
    obtain ⟨d18, hd18, h⟩ := h
    refine s_callV (a := 153) (k := 11) (N := 45) (sl := true) (M := mX11_readWithin) (n := 1) (d := 5 + d18) (mc := 0) (ms := 0) (av := [zI x2]) (st := [zI 1]) A dX11_readStep_254 rfl (by decide) (zk_153 _) zwd1550 zwd1552 zwd45 zwd100 zcd_X11_readWithin (by show 5 + d18 + 1 ≤ 5 + dd; omega) (Nat.le_of_ble_eq_true rfl) (Nat.le_refl _) ⟨Nat.le_of_ble_eq_true rfl, Nat.le_of_ble_eq_true rfl⟩ ⟨rfl, zhn_X11_readWithin⟩ rfl (Nat.le_of_ble_eq_true rfl) rfl (z_contI (fun v18 μ18 h => ?_) h)
    refine s_iadd A dX11_readStep_257 ?_
    exact s_iret A dX11_readStep_258 hr hlk (Nat.le_of_ble_eq_true rfl) (Nat.le_of_ble_eq_true rfl) ⟨_, rfl, h⟩
  · obtain rfl := ztg_in (t := 135) ht19 115 hq (by decide) (by decide +kernel)
    have h := h.1 (by omega)
    refine s_aload_n A dX11_readStep_135 rfl ?_
    refine s_callV (a := 153) (k := 11) (N := 45) (sl := true) (M := mX11_readInk) (n := 0) (d := 3) (mc := 0) (ms := 0) (av := []) (st := []) A dX11_readStep_136 rfl (by decide) (zk_153 _) zwd1543 zwd1545 zwd44 zwd100 zcd_X11_readInk (by show 3 + 1 ≤ 5 + dd; omega) (Nat.le_of_ble_eq_true rfl) (Nat.le_refl _) ⟨Nat.le_of_ble_eq_true rfl, Nat.le_of_ble_eq_true rfl⟩ ⟨rfl, zhn_X11_readInk⟩ rfl (Nat.le_of_ble_eq_true rfl) rfl (z_contI (fun v2 μ2 h => ?_) h)
    refine s_pop A dX11_readStep_139 rfl ?_
    refine s_aload_n A dX11_readStep_140 rfl ?_
    refine s_bipush A dX11_readStep_141 rfl ?_
    refine s_bipush A dX11_readStep_143 rfl ?_
    refine s_callV (a := 153) (k := 11) (N := 45) (sl := true) (M := mX11_oneOf) (n := 2) (d := 3) (mc := 0) (ms := 0) (av := [zI 48, zI 9]) (st := []) A dX11_readStep_145 rfl (by decide) (zk_153 _) zwd1479 zwd1481 zwd34 zwd100 zcd_X11_oneOf (by show 3 + 1 ≤ 5 + dd; omega) (Nat.le_of_ble_eq_true rfl) (Nat.le_refl _) ⟨Nat.le_of_ble_eq_true rfl, Nat.le_of_ble_eq_true rfl⟩ ⟨rfl, zhn_X11_oneOf⟩ rfl (Nat.le_of_ble_eq_true rfl) rfl (z_contI (fun v3 μ3 h => ?_) h)
    refine s_pop A dX11_readStep_148 rfl ?_
    refine s_iconst A dX11_readStep_149 ?_
    exact s_iret A dX11_readStep_150 hr hlk (Nat.le_of_ble_eq_true rfl) (Nat.le_of_ble_eq_true rfl) ⟨_, rfl, h⟩
  · obtain rfl := ztg_in (t := 241) ht19 116 hq (by decide) (by decide +kernel)
    have h := h.2.2.2.2.2.2.2.2.2.2 (by omega)
    refine s_aload_n A dX11_readStep_241 rfl ?_
    refine s_callV (a := 153) (k := 11) (N := 45) (sl := true) (M := mX11_readInk) (n := 0) (d := 3) (mc := 0) (ms := 0) (av := []) (st := []) A dX11_readStep_242 rfl (by decide) (zk_153 _) zwd1543 zwd1545 zwd44 zwd100 zcd_X11_readInk (by show 3 + 1 ≤ 5 + dd; omega) (Nat.le_of_ble_eq_true rfl) (Nat.le_refl _) ⟨Nat.le_of_ble_eq_true rfl, Nat.le_of_ble_eq_true rfl⟩ ⟨rfl, zhn_X11_readInk⟩ rfl (Nat.le_of_ble_eq_true rfl) rfl (z_contI (fun v16 μ16 h => ?_) h)
    refine s_pop A dX11_readStep_245 rfl ?_
    refine s_aload_n A dX11_readStep_246 rfl ?_
    refine s_callV (a := 153) (k := 11) (N := 45) (sl := true) (M := mX11_readInk) (n := 0) (d := 3) (mc := 0) (ms := 0) (av := []) (st := []) A dX11_readStep_247 rfl (by decide) (zk_153 _) zwd1543 zwd1545 zwd44 zwd100 zcd_X11_readInk (by show 3 + 1 ≤ 5 + dd; omega) (Nat.le_of_ble_eq_true rfl) (Nat.le_refl _) ⟨Nat.le_of_ble_eq_true rfl, Nat.le_of_ble_eq_true rfl⟩ ⟨rfl, zhn_X11_readInk⟩ rfl (Nat.le_of_ble_eq_true rfl) rfl (z_contI (fun v17 μ17 h => ?_) h)
    refine s_pop A dX11_readStep_250 rfl ?_
    refine s_iconst A dX11_readStep_251 ?_
    refine s_aload_n A dX11_readStep_252 rfl ?_
    refine s_iload_n A dX11_readStep_253 rfl ?_
    obtain ⟨d18, hd18, h⟩ := h
    refine s_callV (a := 153) (k := 11) (N := 45) (sl := true) (M := mX11_readWithin) (n := 1) (d := 5 + d18) (mc := 0) (ms := 0) (av := [zI x2]) (st := [zI 1]) A dX11_readStep_254 rfl (by decide) (zk_153 _) zwd1550 zwd1552 zwd45 zwd100 zcd_X11_readWithin (by show 5 + d18 + 1 ≤ 5 + dd; omega) (Nat.le_of_ble_eq_true rfl) (Nat.le_refl _) ⟨Nat.le_of_ble_eq_true rfl, Nat.le_of_ble_eq_true rfl⟩ ⟨rfl, zhn_X11_readWithin⟩ rfl (Nat.le_of_ble_eq_true rfl) rfl (z_contI (fun v18 μ18 h => ?_) h)
    refine s_iadd A dX11_readStep_257 ?_
    exact s_iret A dX11_readStep_258 hr hlk (Nat.le_of_ble_eq_true rfl) (Nat.le_of_ble_eq_true rfl) ⟨_, rfl, h⟩
  · obtain rfl := ztg_in (t := 124) ht19 117 hq (by decide) (by decide +kernel)
    have h := h.2.2.2.2.2.2.2.2.1 (by omega)
    refine s_aload_n A dX11_readStep_124 rfl ?_
    refine s_bipush A dX11_readStep_125 rfl ?_
    refine s_bipush A dX11_readStep_127 rfl ?_
    refine s_callV (a := 153) (k := 11) (N := 45) (sl := true) (M := mX11_oneOf) (n := 2) (d := 3) (mc := 0) (ms := 0) (av := [zI 48, zI 9]) (st := []) A dX11_readStep_129 rfl (by decide) (zk_153 _) zwd1479 zwd1481 zwd34 zwd100 zcd_X11_oneOf (by show 3 + 1 ≤ 5 + dd; omega) (Nat.le_of_ble_eq_true rfl) (Nat.le_refl _) ⟨Nat.le_of_ble_eq_true rfl, Nat.le_of_ble_eq_true rfl⟩ ⟨rfl, zhn_X11_oneOf⟩ rfl (Nat.le_of_ble_eq_true rfl) rfl (z_contI (fun v13 μ13 h => ?_) h)
    refine s_pop A dX11_readStep_132 rfl ?_
    refine s_iconst A dX11_readStep_133 ?_
    exact s_iret A dX11_readStep_134 hr hlk (Nat.le_of_ble_eq_true rfl) (Nat.le_of_ble_eq_true rfl) ⟨_, rfl, h⟩
  · obtain rfl := ztg_in (t := 112) ht19 118 hq (by decide) (by decide +kernel)
    have h := h.2.2.2.2.1 (by omega)
    refine s_iconst A dX11_readStep_112 ?_
    exact s_iret A dX11_readStep_113 hr hlk (Nat.le_of_ble_eq_true rfl) (Nat.le_of_ble_eq_true rfl) ⟨_, rfl, h⟩
  · obtain rfl := ztg_in (t := 135) ht19 119 hq (by decide) (by decide +kernel)
    have h := h.1 (by omega)
    refine s_aload_n A dX11_readStep_135 rfl ?_
    refine s_callV (a := 153) (k := 11) (N := 45) (sl := true) (M := mX11_readInk) (n := 0) (d := 3) (mc := 0) (ms := 0) (av := []) (st := []) A dX11_readStep_136 rfl (by decide) (zk_153 _) zwd1543 zwd1545 zwd44 zwd100 zcd_X11_readInk (by show 3 + 1 ≤ 5 + dd; omega) (Nat.le_of_ble_eq_true rfl) (Nat.le_refl _) ⟨Nat.le_of_ble_eq_true rfl, Nat.le_of_ble_eq_true rfl⟩ ⟨rfl, zhn_X11_readInk⟩ rfl (Nat.le_of_ble_eq_true rfl) rfl (z_contI (fun v2 μ2 h => ?_) h)
    refine s_pop A dX11_readStep_139 rfl ?_
    refine s_aload_n A dX11_readStep_140 rfl ?_
    refine s_bipush A dX11_readStep_141 rfl ?_
    refine s_bipush A dX11_readStep_143 rfl ?_
    refine s_callV (a := 153) (k := 11) (N := 45) (sl := true) (M := mX11_oneOf) (n := 2) (d := 3) (mc := 0) (ms := 0) (av := [zI 48, zI 9]) (st := []) A dX11_readStep_145 rfl (by decide) (zk_153 _) zwd1479 zwd1481 zwd34 zwd100 zcd_X11_oneOf (by show 3 + 1 ≤ 5 + dd; omega) (Nat.le_of_ble_eq_true rfl) (Nat.le_refl _) ⟨Nat.le_of_ble_eq_true rfl, Nat.le_of_ble_eq_true rfl⟩ ⟨rfl, zhn_X11_oneOf⟩ rfl (Nat.le_of_ble_eq_true rfl) rfl (z_contI (fun v3 μ3 h => ?_) h)
    refine s_pop A dX11_readStep_148 rfl ?_
    refine s_iconst A dX11_readStep_149 ?_
    exact s_iret A dX11_readStep_150 hr hlk (Nat.le_of_ble_eq_true rfl) (Nat.le_of_ble_eq_true rfl) ⟨_, rfl, h⟩
  · obtain rfl := ztg_in (t := 158) ht19 120 hq (by decide) (by decide +kernel)
    have h := h.2.2.2.2.2.2.2.2.2.1 (by omega)
    refine s_aload_n A dX11_readStep_158 rfl ?_
    refine s_callV (a := 153) (k := 11) (N := 45) (sl := true) (M := mX11_readInk) (n := 0) (d := 3) (mc := 0) (ms := 0) (av := []) (st := []) A dX11_readStep_159 rfl (by decide) (zk_153 _) zwd1543 zwd1545 zwd44 zwd100 zcd_X11_readInk (by show 3 + 1 ≤ 5 + dd; omega) (Nat.le_of_ble_eq_true rfl) (Nat.le_refl _) ⟨Nat.le_of_ble_eq_true rfl, Nat.le_of_ble_eq_true rfl⟩ ⟨rfl, zhn_X11_readInk⟩ rfl (Nat.le_of_ble_eq_true rfl) rfl (z_contI (fun v14 μ14 h => ?_) h)
    refine s_pop A dX11_readStep_162 rfl ?_
    refine s_aload_n A dX11_readStep_163 rfl ?_
    refine s_callV (a := 153) (k := 11) (N := 45) (sl := true) (M := mX11_readInk) (n := 0) (d := 3) (mc := 0) (ms := 0) (av := []) (st := []) A dX11_readStep_164 rfl (by decide) (zk_153 _) zwd1543 zwd1545 zwd44 zwd100 zcd_X11_readInk (by show 3 + 1 ≤ 5 + dd; omega) (Nat.le_of_ble_eq_true rfl) (Nat.le_refl _) ⟨Nat.le_of_ble_eq_true rfl, Nat.le_of_ble_eq_true rfl⟩ ⟨rfl, zhn_X11_readInk⟩ rfl (Nat.le_of_ble_eq_true rfl) rfl (z_contI (fun v15 μ15 h => ?_) h)
    refine s_pop A dX11_readStep_167 rfl ?_
    refine s_iconst A dX11_readStep_168 ?_
    exact s_iret A dX11_readStep_169 hr hlk (Nat.le_of_ble_eq_true rfl) (Nat.le_of_ble_eq_true rfl) ⟨_, rfl, h⟩
  · obtain rfl := ztg_out (t := 241) ht19 hq (by decide)
    have h := h.2.2.2.2.2.2.2.2.2.2 (by omega)
    refine s_aload_n A dX11_readStep_241 rfl ?_
    refine s_callV (a := 153) (k := 11) (N := 45) (sl := true) (M := mX11_readInk) (n := 0) (d := 3) (mc := 0) (ms := 0) (av := []) (st := []) A dX11_readStep_242 rfl (by decide) (zk_153 _) zwd1543 zwd1545 zwd44 zwd100 zcd_X11_readInk (by show 3 + 1 ≤ 5 + dd; omega) (Nat.le_of_ble_eq_true rfl) (Nat.le_refl _) ⟨Nat.le_of_ble_eq_true rfl, Nat.le_of_ble_eq_true rfl⟩ ⟨rfl, zhn_X11_readInk⟩ rfl (Nat.le_of_ble_eq_true rfl) rfl (z_contI (fun v16 μ16 h => ?_) h)
    refine s_pop A dX11_readStep_245 rfl ?_
    refine s_aload_n A dX11_readStep_246 rfl ?_
    refine s_callV (a := 153) (k := 11) (N := 45) (sl := true) (M := mX11_readInk) (n := 0) (d := 3) (mc := 0) (ms := 0) (av := []) (st := []) A dX11_readStep_247 rfl (by decide) (zk_153 _) zwd1543 zwd1545 zwd44 zwd100 zcd_X11_readInk (by show 3 + 1 ≤ 5 + dd; omega) (Nat.le_of_ble_eq_true rfl) (Nat.le_refl _) ⟨Nat.le_of_ble_eq_true rfl, Nat.le_of_ble_eq_true rfl⟩ ⟨rfl, zhn_X11_readInk⟩ rfl (Nat.le_of_ble_eq_true rfl) rfl (z_contI (fun v17 μ17 h => ?_) h)
    refine s_pop A dX11_readStep_250 rfl ?_
    refine s_iconst A dX11_readStep_251 ?_
    refine s_aload_n A dX11_readStep_252 rfl ?_
    refine s_iload_n A dX11_readStep_253 rfl ?_
    obtain ⟨d18, hd18, h⟩ := h
    refine s_callV (a := 153) (k := 11) (N := 45) (sl := true) (M := mX11_readWithin) (n := 1) (d := 5 + d18) (mc := 0) (ms := 0) (av := [zI x2]) (st := [zI 1]) A dX11_readStep_254 rfl (by decide) (zk_153 _) zwd1550 zwd1552 zwd45 zwd100 zcd_X11_readWithin (by show 5 + d18 + 1 ≤ 5 + dd; omega) (Nat.le_of_ble_eq_true rfl) (Nat.le_refl _) ⟨Nat.le_of_ble_eq_true rfl, Nat.le_of_ble_eq_true rfl⟩ ⟨rfl, zhn_X11_readWithin⟩ rfl (Nat.le_of_ble_eq_true rfl) rfl (z_contI (fun v18 μ18 h => ?_) h)
    refine s_iadd A dX11_readStep_257 ?_
    exact s_iret A dX11_readStep_258 hr hlk (Nat.le_of_ble_eq_true rfl) (Nat.le_of_ble_eq_true rfl) ⟨_, rfl, h⟩
theorem eX11_readStep {G : zG} {dd : Nat} {F : Int → zM → Prop} {μ : zM} {x1 : Int} {x2 : Int} (h : ∀ J, zJ G true (5 + dd) 0 0 mX11_readStep (zKI F) J → J 0 ([some (zR (some 153)), some (zI x1), some (zI x2), none], [], μ, 0, 0)) : qX11_readStep G dd x1 x2 μ F :=
  z_body (by decide +kernel) (Nat.le_of_ble_eq_true rfl) h
set_option maxRecDepth 20000 in
theorem rX11_readSteps_e {G : zG} {dd : Nat} {F : Int → zM → Prop} {J : Nat → zS → Prop} {μ : zM} (C : zJ G true (5 + dd) 0 0 mX11_readSteps (zKI F) J) (x1 : Int)
    (h : J 2 ([some (zR (some 153)), some (zI x1), some (zI 0), none], [], μ, 0, 0)) : J 0 ([some (zR (some 153)), some (zI x1), none, none], [], μ, 0, 0) := by
  obtain ⟨p, e, s, m, args, below, meth, c, A, hml, hr, hlk, hnm, rfl⟩ := C
  refine s_iconst A dX11_readSteps_0 ?_
  refine s_istore_n (L' := [some (zR (some 153)), some (zI x1), some (zI 0), none]) A dX11_readSteps_1 (Nat.le_of_ble_eq_true rfl) rfl ?_
  exact h
set_option maxRecDepth 20000 in
theorem rX11_readSteps_2 {G : zG} {dd : Nat} {F : Int → zM → Prop} {J : Nat → zS → Prop} {μ : zM} (C : zJ G true (5 + dd) 0 0 mX11_readSteps (zKI F) J) (x1 : Int) (x2 : Int)
    (h : qX11_fine G μ (fun v1 μ1 => zin v1 ∧ ((v1 = 0 → F x2 μ1) ∧ (¬ (v1 = 0) → qX11_here G μ1 (fun v4 μ4 => qX11_isStep G true v4 μ4 (fun v5 μ5 => zin v5 ∧ ((v5 = 0 → F x2 μ5) ∧ (¬ (v5 = 0) → qX11_here G μ5 (fun v8 μ8 => ∃ d9, d9 < dd ∧ qX11_readStep G d9 v8 x1 (zup μ8 153 8 ((zi μ8 153 8) + 1)) (fun v9 μ9 => J 2 ([some (zR (some 153)), some (zI x1), some (zI (x2 + v9)), none], [], μ9, 0, 0))))))))))) : J 2 ([some (zR (some 153)), some (zI x1), some (zI x2), none], [], μ, 0, 0) := by
  obtain ⟨p, e, s, m, args, below, meth, c, A, hml, hr, hlk, hnm, rfl⟩ := C
  refine s_aload_n A dX11_readSteps_2 rfl ?_
  refine s_callV (a := 153) (k := 11) (N := 45) (sl := true) (M := mX11_fine) (n := 0) (d := 0) (mc := 0) (ms := 0) (av := []) (st := []) A dX11_readSteps_3 rfl (by decide) (zk_153 _) zwd1467 zwd1469 zwd31 zwd100 zcd_X11_fine (by show 0 + 1 ≤ 5 + dd; omega) (Nat.le_of_ble_eq_true rfl) (Nat.le_refl _) ⟨Nat.le_of_ble_eq_true rfl, Nat.le_of_ble_eq_true rfl⟩ ⟨rfl, zhn_X11_fine⟩ rfl (Nat.le_of_ble_eq_true rfl) rfl (z_contI (fun v1 μ1 h => ?_) h)
  obtain ⟨oz2, h⟩ := h
  refine z_if_eq (tgt := 46) A dX11_readSteps_6 (by decide) oz2 (fun c3 => ?_) (fun c3 => ?_)
  · have h := h.1 c3
    refine s_iload_n A dX11_readSteps_46 rfl ?_
    exact s_iret A dX11_readSteps_47 hr hlk (Nat.le_of_ble_eq_true rfl) (Nat.le_of_ble_eq_true rfl) ⟨_, rfl, h⟩
  · have h := h.2 c3
    refine s_aload_n A dX11_readSteps_9 rfl ?_
    refine s_callV (a := 153) (k := 11) (N := 45) (sl := true) (M := mX11_here) (n := 0) (d := 0) (mc := 0) (ms := 0) (av := []) (st := []) A dX11_readSteps_10 rfl (by decide) (zk_153 _) zwd1483 zwd1485 zwd35 zwd100 zcd_X11_here (by show 0 + 1 ≤ 5 + dd; omega) (Nat.le_of_ble_eq_true rfl) (Nat.le_refl _) ⟨Nat.le_of_ble_eq_true rfl, Nat.le_of_ble_eq_true rfl⟩ ⟨rfl, zhn_X11_here⟩ rfl (Nat.le_of_ble_eq_true rfl) rfl (z_contI (fun v4 μ4 h => ?_) h)
    refine s_callS (M := mX11_isStep) (n := 1) (d := 2) (mc := 0) (ms := 0) (av := [zI v4]) (st := []) A dX11_readSteps_13 zwd1533 zwd1534 zwd100 zcd_X11_isStep (by show 2 + 1 ≤ 5 + dd; omega) (Nat.le_of_ble_eq_true rfl) (Nat.le_refl _) ⟨Nat.le_of_ble_eq_true rfl, Nat.le_of_ble_eq_true rfl⟩ zhn_X11_isStep rfl (Nat.le_of_ble_eq_true rfl) rfl (z_contI (fun v5 μ5 h => ?_) h)
    obtain ⟨oz6, h⟩ := h
    refine z_if_eq (tgt := 46) A dX11_readSteps_16 (by decide) oz6 (fun c7 => ?_) (fun c7 => ?_)
    · have h := h.1 c7
      refine s_iload_n A dX11_readSteps_46 rfl ?_
      exact s_iret A dX11_readSteps_47 hr hlk (Nat.le_of_ble_eq_true rfl) (Nat.le_of_ble_eq_true rfl) ⟨_, rfl, h⟩
    · have h := h.2 c7
      refine s_aload_n A dX11_readSteps_19 rfl ?_
      refine s_callV (a := 153) (k := 11) (N := 45) (sl := true) (M := mX11_here) (n := 0) (d := 0) (mc := 0) (ms := 0) (av := []) (st := []) A dX11_readSteps_20 rfl (by decide) (zk_153 _) zwd1483 zwd1485 zwd35 zwd100 zcd_X11_here (by show 0 + 1 ≤ 5 + dd; omega) (Nat.le_of_ble_eq_true rfl) (Nat.le_refl _) ⟨Nat.le_of_ble_eq_true rfl, Nat.le_of_ble_eq_true rfl⟩ ⟨rfl, zhn_X11_here⟩ rfl (Nat.le_of_ble_eq_true rfl) rfl (z_contI (fun v8 μ8 h => ?_) h)
      refine s_istore_n (L' := [some (zR (some 153)), some (zI x1), some (zI x2), some (zI v8)]) A dX11_readSteps_23 (Nat.le_of_ble_eq_true rfl) rfl ?_
      refine s_aload_n A dX11_readSteps_24 rfl ?_
      refine s_dup A dX11_readSteps_25 rfl ?_
      refine s_getf (k := 11) (j := 8) (sl := true) (v := zI (zi μ8 153 8)) A dX11_readSteps_26 rfl zuw_X11 (Nat.le_of_ble_eq_true rfl) zwd1316 (by decide) (zk_153 _) rfl ?_
      refine s_iconst A dX11_readSteps_29 ?_
      refine s_iadd A dX11_readSteps_30 ?_
      refine z_putI (k := 11) (j := 8) (sl := true) A dX11_readSteps_31 rfl zuw_X11 (Nat.le_of_ble_eq_true rfl) zwd1316 (by decide) (zk_153 _) tyX11 tyX11_ok nmX11 rfl rfl rfl ?_
      refine s_iload_n A dX11_readSteps_34 rfl ?_
      refine s_aload_n A dX11_readSteps_35 rfl ?_
      refine s_iload_n A dX11_readSteps_36 rfl ?_
      refine s_iload_n A dX11_readSteps_37 rfl ?_
      obtain ⟨d9, hd9, h⟩ := h
      refine s_callV (a := 153) (k := 11) (N := 45) (sl := true) (M := mX11_readStep) (n := 2) (d := 5 + d9) (mc := 0) (ms := 0) (av := [zI v8, zI x1]) (st := [zI x2]) A dX11_readSteps_38 rfl (by decide) (zk_153 _) zwd1539 zwd1541 zwd43 zwd100 zcd_X11_readStep (by show 5 + d9 + 1 ≤ 5 + dd; omega) (Nat.le_of_ble_eq_true rfl) (Nat.le_refl _) ⟨Nat.le_of_ble_eq_true rfl, Nat.le_of_ble_eq_true rfl⟩ ⟨rfl, zhn_X11_readStep⟩ rfl (Nat.le_of_ble_eq_true rfl) rfl (z_contI (fun v9 μ9 h => ?_) h)
      refine s_iadd A dX11_readSteps_41 ?_
      refine s_istore_n (L' := [some (zR (some 153)), some (zI x1), some (zI (x2 + v9)), some (zI v8)]) A dX11_readSteps_42 (Nat.le_of_ble_eq_true rfl) rfl ?_
      refine s_goto (tgt := 2) A dX11_readSteps_43 (by decide) ?_
      exact z_wk (L' := [some (zR (some 153)), some (zI x1), some (zI (x2 + v9)), none]) ⟨rfl, rfl, rfl, trivial⟩ h
theorem eX11_readSteps {G : zG} {dd : Nat} {F : Int → zM → Prop} {μ : zM} {x1 : Int} (h : ∀ J, zJ G true (5 + dd) 0 0 mX11_readSteps (zKI F) J → J 0 ([some (zR (some 153)), some (zI x1), none, none], [], μ, 0, 0)) : qX11_readSteps G dd x1 μ F :=
  z_body (by decide +kernel) (Nat.le_of_ble_eq_true rfl) h
set_option maxRecDepth 20000 in
theorem rX11_link_e {G : zG} {F : Int → zM → Prop} {J : Nat → zS → Prop} {μ : zM} (C : zJ G true (66) 0 0 mX11_link (zKI F) J) 
    (h : qX11_begin G 40 (zup μ 153 5 0) (fun μ1 => qX11_readSteps G 60 0 (zup μ1 153 11 0) (fun v2 μ2 => qX11_wasRight G μ2 (fun v3 μ3 => zin v3 ∧ ((¬ v3 = 0 → zin (zi μ3 153 6) ∧ ((¬ zi μ3 153 6 = 0 → zin (zi μ3 153 11) ∧ ((zi μ3 153 11 = 0 → J 68 ([some (zR (some 153)), some (zI v2), none, none], [zI 1], μ3, 0, 0)) ∧ (¬ (zi μ3 153 11 = 0) → J 68 ([some (zR (some 153)), some (zI v2), none, none], [zI ((zi μ3 154 612) + 1)], μ3, 0, 0)))) ∧ (zi μ3 153 6 = 0 → J 68 ([some (zR (some 153)), some (zI v2), none, none], [zI 0], μ3, 0, 0)))) ∧ (v3 = 0 → F ((-1) - (zi μ3 153 9)) μ3)))))) : J 0 ([some (zR (some 153)), none, none, none], [], μ, 0, 0) := by
  obtain ⟨p, e, s, m, args, below, meth, c, A, hml, hr, hlk, hnm, rfl⟩ := C
  refine s_aload_n A dX11_link_0 rfl ?_
  refine s_iconst A dX11_link_1 ?_
  refine z_putI (k := 11) (j := 5) (sl := true) A dX11_link_2 rfl zuw_X11 (Nat.le_of_ble_eq_true rfl) zwd1313 (by decide) (zk_153 _) tyX11 tyX11_ok nmX11 rfl rfl rfl ?_
  refine s_aload_n A dX11_link_5 rfl ?_
  refine s_bipush A dX11_link_6 rfl ?_
  refine s_callV (a := 153) (k := 11) (N := 45) (sl := true) (M := mX11_begin) (n := 1) (d := 0) (mc := 0) (ms := 0) (av := [zI 40]) (st := []) A dX11_link_8 rfl (by decide) (zk_153 _) zwd1463 zwd1465 zwd30 zwd100 zcd_X11_begin (Nat.le_of_ble_eq_true rfl) (Nat.le_of_ble_eq_true rfl) (Nat.le_refl _) ⟨Nat.le_of_ble_eq_true rfl, Nat.le_of_ble_eq_true rfl⟩ ⟨rfl, zhn_X11_begin⟩ rfl (Nat.le_of_ble_eq_true rfl) rfl (z_contV (fun μ1 h => ?_) h)
  refine s_aload_n A dX11_link_11 rfl ?_
  refine s_iconst A dX11_link_12 ?_
  refine z_putZ (k := 11) (j := 11) (sl := true) A dX11_link_13 rfl zuw_X11 (Nat.le_of_ble_eq_true rfl) zwd1319 (by decide) (zk_153 _) tyX11 tyX11_ok nmX11 rfl rfl rfl (Or.inl rfl) ?_
  refine s_aload_n A dX11_link_16 rfl ?_
  refine s_iconst A dX11_link_17 ?_
  refine s_callV (a := 153) (k := 11) (N := 45) (sl := true) (M := mX11_readSteps) (n := 1) (d := 5 + 60) (mc := 0) (ms := 0) (av := [zI 0]) (st := []) A dX11_link_18 rfl (by decide) (zk_153 _) zwd1529 zwd1531 zwd42 zwd100 zcd_X11_readSteps (Nat.le_of_ble_eq_true rfl) (Nat.le_of_ble_eq_true rfl) (Nat.le_refl _) ⟨Nat.le_of_ble_eq_true rfl, Nat.le_of_ble_eq_true rfl⟩ ⟨rfl, zhn_X11_readSteps⟩ rfl (Nat.le_of_ble_eq_true rfl) rfl (z_contI (fun v2 μ2 h => ?_) h)
  refine s_istore_n (L' := [some (zR (some 153)), some (zI v2), none, none]) A dX11_link_21 (Nat.le_of_ble_eq_true rfl) rfl ?_
  refine s_aload_n A dX11_link_22 rfl ?_
  refine s_callV (a := 153) (k := 11) (N := 45) (sl := true) (M := mX11_wasRight) (n := 0) (d := 3) (mc := 0) (ms := 0) (av := []) (st := []) A dX11_link_23 rfl (by decide) (zk_153 _) zwd1495 zwd1497 zwd38 zwd100 zcd_X11_wasRight (Nat.le_of_ble_eq_true rfl) (Nat.le_of_ble_eq_true rfl) (Nat.le_refl _) ⟨Nat.le_of_ble_eq_true rfl, Nat.le_of_ble_eq_true rfl⟩ ⟨rfl, zhn_X11_wasRight⟩ rfl (Nat.le_of_ble_eq_true rfl) rfl (z_contI (fun v3 μ3 h => ?_) h)
  obtain ⟨oz4, h⟩ := h
  refine z_if_ne (tgt := 36) A dX11_link_26 (by decide) oz4 (fun c5 => ?_) (fun c5 => ?_)
  · have h := h.1 c5
    refine s_aload_n A dX11_link_36 rfl ?_
    refine s_getf (k := 11) (j := 6) (sl := true) (v := zI (zi μ3 153 6)) A dX11_link_37 rfl zuw_X11 (Nat.le_of_ble_eq_true rfl) zwd1314 (by decide) (zk_153 _) rfl ?_
    obtain ⟨oz6, h⟩ := h
    refine z_if_ne (tgt := 47) A dX11_link_40 (by decide) oz6 (fun c7 => ?_) (fun c7 => ?_)
    · have h := h.1 c7
      refine s_aload_n A dX11_link_47 rfl ?_
      refine s_getf (k := 11) (j := 11) (sl := true) (v := zI (zi μ3 153 11)) A dX11_link_48 rfl zuw_X11 (Nat.le_of_ble_eq_true rfl) zwd1319 (by decide) (zk_153 _) rfl ?_
      obtain ⟨oz8, h⟩ := h
      refine z_if_eq (tgt := 67) A dX11_link_51 (by decide) oz8 (fun c9 => ?_) (fun c9 => ?_)
      · have h := h.1 c9
        refine s_iconst A dX11_link_67 ?_
        exact h
      · have h := h.2 c9
        refine s_aload_n A dX11_link_54 rfl ?_
        refine s_getf (k := 11) (j := 0) (sl := true) (v := zR (some 154)) A dX11_link_55 rfl zuw_X11 (Nat.le_of_ble_eq_true rfl) zwd1308 (by decide) (zk_153 _) rfl ?_
        refine s_sipush A dX11_link_58 rfl ?_
        refine z_iald A dX11_link_61 (zk_154 _) (Nat.le_of_ble_eq_true rfl) ⟨by decide, by decide⟩ ?_
        refine s_iconst A dX11_link_62 ?_
        refine s_iadd A dX11_link_63 ?_
        refine s_goto (tgt := 68) A dX11_link_64 (by decide) ?_
        exact h
    · have h := h.2 c7
      refine s_iconst A dX11_link_43 ?_
      refine s_goto (tgt := 68) A dX11_link_44 (by decide) ?_
      exact h
  · have h := h.2 c5
    refine s_iconst A dX11_link_29 ?_
    refine s_aload_n A dX11_link_30 rfl ?_
    refine s_getf (k := 11) (j := 9) (sl := true) (v := zI (zi μ3 153 9)) A dX11_link_31 rfl zuw_X11 (Nat.le_of_ble_eq_true rfl) zwd1317 (by decide) (zk_153 _) rfl ?_
    refine s_isub A dX11_link_34 ?_
    exact s_iret A dX11_link_35 hr hlk (Nat.le_of_ble_eq_true rfl) (Nat.le_of_ble_eq_true rfl) ⟨_, rfl, h⟩
set_option maxRecDepth 20000 in
theorem rX11_link_68 {G : zG} {F : Int → zM → Prop} {J : Nat → zS → Prop} {μ : zM} (C : zJ G true (66) 0 0 mX11_link (zKI F) J) (x1 : Int) (xs0 : Int)
    (h : zin x1 ∧ ((x1 ≤ 500 → zin xs0 ∧ ((xs0 ≤ 6 → qX11_change G μ (fun μ5 => ((¬ xs0 = 0 → J 120 ([some (zR (some 153)), some (zI x1), some (zI xs0), some (zI 0)], [], zup (zup μ5 154 612 xs0) 154 613 x1, 0, 0)) ∧ (xs0 = 0 → F x1 (zup (zup μ5 154 612 xs0) 154 613 x1))))) ∧ (¬ (xs0 ≤ 6) → F (-201) μ))) ∧ (¬ (x1 ≤ 500) → F (-200) μ))) : J 68 ([some (zR (some 153)), some (zI x1), none, none], [zI xs0], μ, 0, 0) := by
  obtain ⟨p, e, s, m, args, below, meth, c, A, hml, hr, hlk, hnm, rfl⟩ := C
  refine s_istore_n (L' := [some (zR (some 153)), some (zI x1), some (zI xs0), none]) A dX11_link_68 (Nat.le_of_ble_eq_true rfl) rfl ?_
  refine s_iload_n A dX11_link_69 rfl ?_
  refine s_sipush A dX11_link_70 rfl ?_
  obtain ⟨oz1, h⟩ := h
  refine z_icmp_le (tgt := 80) A dX11_link_73 (by decide) oz1 ⟨by decide, by decide⟩ (fun c2 => ?_) (fun c2 => ?_)
  · have h := h.1 c2
    refine s_iload_n A dX11_link_80 rfl ?_
    refine s_bipush A dX11_link_81 rfl ?_
    obtain ⟨oz3, h⟩ := h
    refine z_icmp_le (tgt := 90) A dX11_link_83 (by decide) oz3 ⟨by decide, by decide⟩ (fun c4 => ?_) (fun c4 => ?_)
    · have h := h.1 c4
      refine s_aload_n A dX11_link_90 rfl ?_
      refine s_callV (a := 153) (k := 11) (N := 45) (sl := true) (M := mX11_change) (n := 0) (d := 2) (mc := 0) (ms := 0) (av := []) (st := []) A dX11_link_91 rfl (by decide) (zk_153 _) zwd1499 zwd1501 zwd39 zwd100 zcd_X11_change (Nat.le_of_ble_eq_true rfl) (Nat.le_of_ble_eq_true rfl) (Nat.le_refl _) ⟨Nat.le_of_ble_eq_true rfl, Nat.le_of_ble_eq_true rfl⟩ ⟨rfl, zhn_X11_change⟩ rfl (Nat.le_of_ble_eq_true rfl) rfl (z_contV (fun μ5 h => ?_) h)
      refine s_aload_n A dX11_link_94 rfl ?_
      refine s_getf (k := 11) (j := 0) (sl := true) (v := zR (some 154)) A dX11_link_95 rfl zuw_X11 (Nat.le_of_ble_eq_true rfl) zwd1308 (by decide) (zk_153 _) rfl ?_
      refine s_sipush A dX11_link_98 rfl ?_
      refine s_iload_n A dX11_link_101 rfl ?_
      refine z_iast A dX11_link_102 (zk_154 _) (Nat.le_of_ble_eq_true rfl) ⟨by decide, by decide⟩ ?_
      refine s_aload_n A dX11_link_103 rfl ?_
      refine s_getf (k := 11) (j := 0) (sl := true) (v := zR (some 154)) A dX11_link_104 rfl zuw_X11 (Nat.le_of_ble_eq_true rfl) zwd1308 (by decide) (zk_153 _) rfl ?_
      refine s_sipush A dX11_link_107 rfl ?_
      refine s_iload_n A dX11_link_110 rfl ?_
      refine z_iast A dX11_link_111 (zk_154 _) (Nat.le_of_ble_eq_true rfl) ⟨by decide, by decide⟩ ?_
      refine s_iload_n A dX11_link_112 rfl ?_
      refine z_if_ne (tgt := 118) A dX11_link_113 (by decide) oz3 (fun c6 => ?_) (fun c6 => ?_)
      · have h := h.1 c6
        refine s_iconst A dX11_link_118 ?_
        refine s_istore_n (L' := [some (zR (some 153)), some (zI x1), some (zI xs0), some (zI 0)]) A dX11_link_119 (Nat.le_of_ble_eq_true rfl) rfl ?_
        exact h
      · have h := h.2 c6
        refine s_iload_n A dX11_link_116 rfl ?_
        exact s_iret A dX11_link_117 hr hlk (Nat.le_of_ble_eq_true rfl) (Nat.le_of_ble_eq_true rfl) ⟨_, rfl, h⟩
    · have h := h.2 c4
      refine s_sipush A dX11_link_86 rfl ?_
      exact s_iret A dX11_link_89 hr hlk (Nat.le_of_ble_eq_true rfl) (Nat.le_of_ble_eq_true rfl) ⟨_, rfl, h⟩
  · have h := h.2 c2
    refine s_sipush A dX11_link_76 rfl ?_
    exact s_iret A dX11_link_79 hr hlk (Nat.le_of_ble_eq_true rfl) (Nat.le_of_ble_eq_true rfl) ⟨_, rfl, h⟩
set_option maxRecDepth 20000 in
theorem rX11_link_120 {G : zG} {F : Int → zM → Prop} {J : Nat → zS → Prop} {μ : zM} (C : zJ G true (66) 0 0 mX11_link (zKI F) J) (x1 : Int) (x2 : Int) (x3 : Int)
    (h : zin x3 ∧ zin (zi μ 153 6) ∧ ((zi μ 153 6 ≤ x3 → (0 ≤ (600 + x2) - 1 ∧ (600 + x2) - 1 < 711) ∧ (0 ≤ (606 + x2) - 1 ∧ (606 + x2) - 1 < 711) ∧ F x1 (zup (zup μ 154 ((600 + x2) - 1) (zi μ 153 6)) 154 ((606 + x2) - 1) (zi (zup μ 154 ((600 + x2) - 1) (zi μ 153 6)) 154 704))) ∧ (¬ (zi μ 153 6 ≤ x3) → (0 ≤ x3 ∧ x3 < 80) ∧ (0 ≤ (360 + (40 * (x2 - 1))) + x3 ∧ (360 + (40 * (x2 - 1))) + x3 < 711) ∧ J 120 ([some (zR (some 153)), some (zI x1), some (zI x2), some (zI (x3 + 1))], [], zup μ 154 ((360 + (40 * (x2 - 1))) + x3) (zi μ 155 x3), 0, 0)))) : J 120 ([some (zR (some 153)), some (zI x1), some (zI x2), some (zI x3)], [], μ, 0, 0) := by
  obtain ⟨p, e, s, m, args, below, meth, c, A, hml, hr, hlk, hnm, rfl⟩ := C
  refine s_iload_n A dX11_link_120 rfl ?_
  refine s_aload_n A dX11_link_121 rfl ?_
  refine s_getf (k := 11) (j := 6) (sl := true) (v := zI (zi μ 153 6)) A dX11_link_122 rfl zuw_X11 (Nat.le_of_ble_eq_true rfl) zwd1314 (by decide) (zk_153 _) rfl ?_
  obtain ⟨oz1, h⟩ := h
  obtain ⟨oz2, h⟩ := h
  refine z_icmp_ge (tgt := 157) A dX11_link_125 (by decide) oz1 oz2 (fun c3 => ?_) (fun c3 => ?_)
  · have h := h.1 c3
    refine s_aload_n A dX11_link_157 rfl ?_
    refine s_getf (k := 11) (j := 0) (sl := true) (v := zR (some 154)) A dX11_link_158 rfl zuw_X11 (Nat.le_of_ble_eq_true rfl) zwd1308 (by decide) (zk_153 _) rfl ?_
    refine s_sipush A dX11_link_161 rfl ?_
    refine s_iload_n A dX11_link_164 rfl ?_
    refine s_iadd A dX11_link_165 ?_
    refine s_iconst A dX11_link_166 ?_
    refine s_isub A dX11_link_167 ?_
    refine s_aload_n A dX11_link_168 rfl ?_
    refine s_getf (k := 11) (j := 6) (sl := true) (v := zI (zi μ 153 6)) A dX11_link_169 rfl zuw_X11 (Nat.le_of_ble_eq_true rfl) zwd1314 (by decide) (zk_153 _) rfl ?_
    obtain ⟨ox4, h⟩ := h
    refine z_iast A dX11_link_172 (zk_154 _) (Nat.le_of_ble_eq_true rfl) ox4 ?_
    refine s_aload_n A dX11_link_173 rfl ?_
    refine s_getf (k := 11) (j := 0) (sl := true) (v := zR (some 154)) A dX11_link_174 rfl zuw_X11 (Nat.le_of_ble_eq_true rfl) zwd1308 (by decide) (zk_153 _) rfl ?_
    refine s_sipush A dX11_link_177 rfl ?_
    refine s_iload_n A dX11_link_180 rfl ?_
    refine s_iadd A dX11_link_181 ?_
    refine s_iconst A dX11_link_182 ?_
    refine s_isub A dX11_link_183 ?_
    refine s_aload_n A dX11_link_184 rfl ?_
    refine s_getf (k := 11) (j := 0) (sl := true) (v := zR (some 154)) A dX11_link_185 rfl zuw_X11 (Nat.le_of_ble_eq_true rfl) zwd1308 (by decide) (zk_153 _) rfl ?_
    refine s_sipush A dX11_link_188 rfl ?_
    refine z_iald A dX11_link_191 (zk_154 _) (Nat.le_of_ble_eq_true rfl) ⟨by decide, by decide⟩ ?_
    obtain ⟨ox5, h⟩ := h
    refine z_iast A dX11_link_192 (zk_154 _) (Nat.le_of_ble_eq_true rfl) ox5 ?_
    refine s_iload_n A dX11_link_193 rfl ?_
    exact s_iret A dX11_link_194 hr hlk (Nat.le_of_ble_eq_true rfl) (Nat.le_of_ble_eq_true rfl) ⟨_, rfl, h⟩
  · have h := h.2 c3
    refine s_aload_n A dX11_link_128 rfl ?_
    refine s_getf (k := 11) (j := 0) (sl := true) (v := zR (some 154)) A dX11_link_129 rfl zuw_X11 (Nat.le_of_ble_eq_true rfl) zwd1308 (by decide) (zk_153 _) rfl ?_
    refine s_sipush A dX11_link_132 rfl ?_
    refine s_bipush A dX11_link_135 rfl ?_
    refine s_iload_n A dX11_link_137 rfl ?_
    refine s_iconst A dX11_link_138 ?_
    refine s_isub A dX11_link_139 ?_
    refine s_imul A dX11_link_140 ?_
    refine s_iadd A dX11_link_141 ?_
    refine s_iload_n A dX11_link_142 rfl ?_
    refine s_iadd A dX11_link_143 ?_
    refine s_aload_n A dX11_link_144 rfl ?_
    refine s_getf (k := 11) (j := 1) (sl := true) (v := zR (some 155)) A dX11_link_145 rfl zuw_X11 (Nat.le_of_ble_eq_true rfl) zwd1309 (by decide) (zk_153 _) rfl ?_
    refine s_iload_n A dX11_link_148 rfl ?_
    obtain ⟨ox6, h⟩ := h
    refine z_bald A dX11_link_149 (zk_155 _) (Nat.le_of_ble_eq_true rfl) ox6 ?_
    obtain ⟨ox7, h⟩ := h
    refine z_iast A dX11_link_150 (zk_154 _) (Nat.le_of_ble_eq_true rfl) ox7 ?_
    refine s_iinc (L' := [some (zR (some 153)), some (zI x1), some (zI x2), some (zI (x3 + 1))]) A dX11_link_151 rfl rfl ?_
    refine s_goto (tgt := 120) A dX11_link_154 (by decide) ?_
    exact h
theorem eX11_link {G : zG} {F : Int → zM → Prop} {μ : zM}  (h : ∀ J, zJ G true (66) 0 0 mX11_link (zKI F) J → J 0 ([some (zR (some 153)), none, none, none], [], μ, 0, 0)) : qX11_link G  μ F :=
  z_body (by decide +kernel) (Nat.le_of_ble_eq_true rfl) h
set_option maxRecDepth 20000 in
theorem rX11_picture_e {G : zG} {F : Int → zM → Prop} {J : Nat → zS → Prop} {μ : zM} (C : zJ G true (4) 0 0 mX11_picture (zKI F) J) 
    (h : qX11_begin G 80 (zup μ 153 5 0) (fun μ1 => zin (zi μ1 153 6) ∧ ((zi μ1 153 6 ≤ 0 → J 31 ([some (zR (some 153)), some (zI 0), some (zI 0), some (zI 0), some (zI 0), none, none], [], μ1, 0, 0)) ∧ (¬ (zi μ1 153 6 ≤ 0) → J 31 ([some (zR (some 153)), some (zI 0), some (zI 0), some (zI 0), some (zI 1), none, none], [], μ1, 0, 0))))) : J 0 ([some (zR (some 153)), none, none, none, none, none, none], [], μ, 0, 0) := by
  obtain ⟨p, e, s, m, args, below, meth, c, A, hml, hr, hlk, hnm, rfl⟩ := C
  refine s_aload_n A dX11_picture_0 rfl ?_
  refine s_iconst A dX11_picture_1 ?_
  refine z_putI (k := 11) (j := 5) (sl := true) A dX11_picture_2 rfl zuw_X11 (Nat.le_of_ble_eq_true rfl) zwd1313 (by decide) (zk_153 _) tyX11 tyX11_ok nmX11 rfl rfl rfl ?_
  refine s_aload_n A dX11_picture_5 rfl ?_
  refine s_bipush A dX11_picture_6 rfl ?_
  refine s_callV (a := 153) (k := 11) (N := 45) (sl := true) (M := mX11_begin) (n := 1) (d := 0) (mc := 0) (ms := 0) (av := [zI 80]) (st := []) A dX11_picture_8 rfl (by decide) (zk_153 _) zwd1463 zwd1465 zwd30 zwd100 zcd_X11_begin (Nat.le_of_ble_eq_true rfl) (Nat.le_of_ble_eq_true rfl) (Nat.le_refl _) ⟨Nat.le_of_ble_eq_true rfl, Nat.le_of_ble_eq_true rfl⟩ ⟨rfl, zhn_X11_begin⟩ rfl (Nat.le_of_ble_eq_true rfl) rfl (z_contV (fun μ1 h => ?_) h)
  refine s_iconst A dX11_picture_11 ?_
  refine s_istore_n (L' := [some (zR (some 153)), some (zI 0), none, none, none, none, none]) A dX11_picture_12 (Nat.le_of_ble_eq_true rfl) rfl ?_
  refine s_iconst A dX11_picture_13 ?_
  refine s_istore_n (L' := [some (zR (some 153)), some (zI 0), some (zI 0), none, none, none, none]) A dX11_picture_14 (Nat.le_of_ble_eq_true rfl) rfl ?_
  refine s_iconst A dX11_picture_15 ?_
  refine s_istore_n (L' := [some (zR (some 153)), some (zI 0), some (zI 0), some (zI 0), none, none, none]) A dX11_picture_16 (Nat.le_of_ble_eq_true rfl) rfl ?_
  refine s_aload_n A dX11_picture_17 rfl ?_
  refine s_getf (k := 11) (j := 6) (sl := true) (v := zI (zi μ1 153 6)) A dX11_picture_18 rfl zuw_X11 (Nat.le_of_ble_eq_true rfl) zwd1314 (by decide) (zk_153 _) rfl ?_
  obtain ⟨oz2, h⟩ := h
  refine z_if_le (tgt := 28) A dX11_picture_21 (by decide) oz2 (fun c3 => ?_) (fun c3 => ?_)
  · have h := h.1 c3
    refine s_iconst A dX11_picture_28 ?_
    refine s_istore (L' := [some (zR (some 153)), some (zI 0), some (zI 0), some (zI 0), some (zI 0), none, none]) A dX11_picture_29 (Nat.le_of_ble_eq_true rfl) rfl ?_
    exact h
  · have h := h.2 c3
    refine s_iconst A dX11_picture_24 ?_
    refine s_goto (tgt := 29) A dX11_picture_25 (by decide) ?_
    refine s_istore (L' := [some (zR (some 153)), some (zI 0), some (zI 0), some (zI 0), some (zI 1), none, none]) A dX11_picture_29 (Nat.le_of_ble_eq_true rfl) rfl ?_
    exact h
set_option maxRecDepth 20000 in
theorem rX11_picture_31 {G : zG} {F : Int → zM → Prop} {J : Nat → zS → Prop} {μ : zM} (C : zJ G true (4) 0 0 mX11_picture (zKI F) J) (x1 : Int) (x2 : Int) (x3 : Int) (x4 : Int)
    (h : zin x4 ∧ ((x4 = 0 → qX11_wasRight G μ (fun v3 μ3 => zin v3 ∧ ((¬ v3 = 0 → qX11_change G μ3 (fun μ6 => J 244 ([some (zR (some 153)), some (zI x1), some (zI x2), some (zI x3), none, some (zI 0), none], [], μ6, 0, 0))) ∧ (v3 = 0 → F ((-1) - (zi μ3 153 9)) μ3)))) ∧ (¬ (x4 = 0) → qX11_fine G μ (fun v7 μ7 => zin v7 ∧ ((v7 = 0 → qX11_wasRight G μ7 (fun v10 μ10 => zin v10 ∧ ((¬ v10 = 0 → qX11_change G μ10 (fun μ13 => J 244 ([some (zR (some 153)), some (zI x1), some (zI x2), some (zI x3), none, some (zI 0), none], [], μ13, 0, 0))) ∧ (v10 = 0 → F ((-1) - (zi μ10 153 9)) μ10)))) ∧ (¬ (v7 = 0) → J 46 ([some (zR (some 153)), some (zI x1), some (zI x2), some (zI x3), none, some (zI 0), none], [], μ7, 0, 0))))))) : J 31 ([some (zR (some 153)), some (zI x1), some (zI x2), some (zI x3), some (zI x4), none, none], [], μ, 0, 0) := by
  obtain ⟨p, e, s, m, args, below, meth, c, A, hml, hr, hlk, hnm, rfl⟩ := C
  refine s_iload A dX11_picture_31 rfl ?_
  obtain ⟨oz1, h⟩ := h
  refine z_if_eq (tgt := 223) A dX11_picture_33 (by decide) oz1 (fun c2 => ?_) (fun c2 => ?_)
  · have h := h.1 c2
    refine s_aload_n A dX11_picture_223 rfl ?_
    refine s_callV (a := 153) (k := 11) (N := 45) (sl := true) (M := mX11_wasRight) (n := 0) (d := 3) (mc := 0) (ms := 0) (av := []) (st := []) A dX11_picture_224 rfl (by decide) (zk_153 _) zwd1495 zwd1497 zwd38 zwd100 zcd_X11_wasRight (Nat.le_of_ble_eq_true rfl) (Nat.le_of_ble_eq_true rfl) (Nat.le_refl _) ⟨Nat.le_of_ble_eq_true rfl, Nat.le_of_ble_eq_true rfl⟩ ⟨rfl, zhn_X11_wasRight⟩ rfl (Nat.le_of_ble_eq_true rfl) rfl (z_contI (fun v3 μ3 h => ?_) h)
    obtain ⟨oz4, h⟩ := h
    refine z_if_ne (tgt := 237) A dX11_picture_227 (by decide) oz4 (fun c5 => ?_) (fun c5 => ?_)
    · have h := h.1 c5
      refine s_aload_n A dX11_picture_237 rfl ?_
      refine s_callV (a := 153) (k := 11) (N := 45) (sl := true) (M := mX11_change) (n := 0) (d := 2) (mc := 0) (ms := 0) (av := []) (st := []) A dX11_picture_238 rfl (by decide) (zk_153 _) zwd1499 zwd1501 zwd39 zwd100 zcd_X11_change (Nat.le_of_ble_eq_true rfl) (Nat.le_of_ble_eq_true rfl) (Nat.le_refl _) ⟨Nat.le_of_ble_eq_true rfl, Nat.le_of_ble_eq_true rfl⟩ ⟨rfl, zhn_X11_change⟩ rfl (Nat.le_of_ble_eq_true rfl) rfl (z_contV (fun μ6 h => ?_) h)
      refine s_iconst A dX11_picture_241 ?_
      refine s_istore (L' := [some (zR (some 153)), some (zI x1), some (zI x2), some (zI x3), some (zI x4), some (zI 0), none]) A dX11_picture_242 (Nat.le_of_ble_eq_true rfl) rfl ?_
      exact z_wk (L' := [some (zR (some 153)), some (zI x1), some (zI x2), some (zI x3), none, some (zI 0), none]) ⟨rfl, rfl, rfl, rfl, rfl, trivial⟩ h
    · have h := h.2 c5
      refine s_iconst A dX11_picture_230 ?_
      refine s_aload_n A dX11_picture_231 rfl ?_
      refine s_getf (k := 11) (j := 9) (sl := true) (v := zI (zi μ3 153 9)) A dX11_picture_232 rfl zuw_X11 (Nat.le_of_ble_eq_true rfl) zwd1317 (by decide) (zk_153 _) rfl ?_
      refine s_isub A dX11_picture_235 ?_
      exact s_iret A dX11_picture_236 hr hlk (Nat.le_of_ble_eq_true rfl) (Nat.le_of_ble_eq_true rfl) ⟨_, rfl, h⟩
  · have h := h.2 c2
    refine s_aload_n A dX11_picture_36 rfl ?_
    refine s_callV (a := 153) (k := 11) (N := 45) (sl := true) (M := mX11_fine) (n := 0) (d := 0) (mc := 0) (ms := 0) (av := []) (st := []) A dX11_picture_37 rfl (by decide) (zk_153 _) zwd1467 zwd1469 zwd31 zwd100 zcd_X11_fine (Nat.le_of_ble_eq_true rfl) (Nat.le_of_ble_eq_true rfl) (Nat.le_refl _) ⟨Nat.le_of_ble_eq_true rfl, Nat.le_of_ble_eq_true rfl⟩ ⟨rfl, zhn_X11_fine⟩ rfl (Nat.le_of_ble_eq_true rfl) rfl (z_contI (fun v7 μ7 h => ?_) h)
    obtain ⟨oz8, h⟩ := h
    refine z_if_eq (tgt := 223) A dX11_picture_40 (by decide) oz8 (fun c9 => ?_) (fun c9 => ?_)
    · have h := h.1 c9
      refine s_aload_n A dX11_picture_223 rfl ?_
      refine s_callV (a := 153) (k := 11) (N := 45) (sl := true) (M := mX11_wasRight) (n := 0) (d := 3) (mc := 0) (ms := 0) (av := []) (st := []) A dX11_picture_224 rfl (by decide) (zk_153 _) zwd1495 zwd1497 zwd38 zwd100 zcd_X11_wasRight (Nat.le_of_ble_eq_true rfl) (Nat.le_of_ble_eq_true rfl) (Nat.le_refl _) ⟨Nat.le_of_ble_eq_true rfl, Nat.le_of_ble_eq_true rfl⟩ ⟨rfl, zhn_X11_wasRight⟩ rfl (Nat.le_of_ble_eq_true rfl) rfl (z_contI (fun v10 μ10 h => ?_) h)
      obtain ⟨oz11, h⟩ := h
      refine z_if_ne (tgt := 237) A dX11_picture_227 (by decide) oz11 (fun c12 => ?_) (fun c12 => ?_)
      · have h := h.1 c12
        refine s_aload_n A dX11_picture_237 rfl ?_
        refine s_callV (a := 153) (k := 11) (N := 45) (sl := true) (M := mX11_change) (n := 0) (d := 2) (mc := 0) (ms := 0) (av := []) (st := []) A dX11_picture_238 rfl (by decide) (zk_153 _) zwd1499 zwd1501 zwd39 zwd100 zcd_X11_change (Nat.le_of_ble_eq_true rfl) (Nat.le_of_ble_eq_true rfl) (Nat.le_refl _) ⟨Nat.le_of_ble_eq_true rfl, Nat.le_of_ble_eq_true rfl⟩ ⟨rfl, zhn_X11_change⟩ rfl (Nat.le_of_ble_eq_true rfl) rfl (z_contV (fun μ13 h => ?_) h)
        refine s_iconst A dX11_picture_241 ?_
        refine s_istore (L' := [some (zR (some 153)), some (zI x1), some (zI x2), some (zI x3), some (zI x4), some (zI 0), none]) A dX11_picture_242 (Nat.le_of_ble_eq_true rfl) rfl ?_
        exact z_wk (L' := [some (zR (some 153)), some (zI x1), some (zI x2), some (zI x3), none, some (zI 0), none]) ⟨rfl, rfl, rfl, rfl, rfl, trivial⟩ h
      · have h := h.2 c12
        refine s_iconst A dX11_picture_230 ?_
        refine s_aload_n A dX11_picture_231 rfl ?_
        refine s_getf (k := 11) (j := 9) (sl := true) (v := zI (zi μ10 153 9)) A dX11_picture_232 rfl zuw_X11 (Nat.le_of_ble_eq_true rfl) zwd1317 (by decide) (zk_153 _) rfl ?_
        refine s_isub A dX11_picture_235 ?_
        exact s_iret A dX11_picture_236 hr hlk (Nat.le_of_ble_eq_true rfl) (Nat.le_of_ble_eq_true rfl) ⟨_, rfl, h⟩
    · have h := h.2 c9
      refine s_iconst A dX11_picture_43 ?_
      refine s_istore (L' := [some (zR (some 153)), some (zI x1), some (zI x2), some (zI x3), some (zI x4), some (zI 0), none]) A dX11_picture_44 (Nat.le_of_ble_eq_true rfl) rfl ?_
      exact z_wk (L' := [some (zR (some 153)), some (zI x1), some (zI x2), some (zI x3), none, some (zI 0), none]) ⟨rfl, rfl, rfl, rfl, rfl, trivial⟩ h
set_option maxRecDepth 20000 in
theorem rX11_picture_46 {G : zG} {F : Int → zM → Prop} {J : Nat → zS → Prop} {μ : zM} (C : zJ G true (4) 0 0 mX11_picture (zKI F) J) (x1 : Int) (x2 : Int) (x3 : Int) (x5 : Int)
    (h : qX11_fine G μ (fun v1 μ1 => zin v1 ∧ ((v1 = 0 → J 137 ([some (zR (some 153)), some (zI x1), some (zI x2), some (zI x3), none, some (zI x5), none], [], μ1, 0, 0)) ∧ (¬ (v1 = 0) → zin x5 ∧ ((x5 = 0 → J 78 ([some (zR (some 153)), some (zI x1), some (zI x2), some (zI x3), none, some (zI x5), none], [], μ1, 0, 0)) ∧ (¬ (x5 = 0) → zin (zi μ1 153 8) ∧ zin (zi μ1 153 6) ∧ ((zi μ1 153 6 ≤ zi μ1 153 8 → J 137 ([some (zR (some 153)), some (zI x1), some (zI x2), some (zI x3), none, some (zI x5), none], [], μ1, 0, 0)) ∧ (¬ (zi μ1 153 6 ≤ zi μ1 153 8) → qX11_here G μ1 (fun v9 μ9 => zin v9 ∧ ((v9 = 47 → J 137 ([some (zR (some 153)), some (zI x1), some (zI x2), some (zI x3), none, some (zI x5), none], [], μ9, 0, 0)) ∧ (¬ (v9 = 47) → J 78 ([some (zR (some 153)), some (zI x1), some (zI x2), some (zI x3), none, some (zI x5), none], [], μ9, 0, 0)))))))))))) : J 46 ([some (zR (some 153)), some (zI x1), some (zI x2), some (zI x3), none, some (zI x5), none], [], μ, 0, 0) := by
  obtain ⟨p, e, s, m, args, below, meth, c, A, hml, hr, hlk, hnm, rfl⟩ := C
  refine s_aload_n A dX11_picture_46 rfl ?_
  refine s_callV (a := 153) (k := 11) (N := 45) (sl := true) (M := mX11_fine) (n := 0) (d := 0) (mc := 0) (ms := 0) (av := []) (st := []) A dX11_picture_47 rfl (by decide) (zk_153 _) zwd1467 zwd1469 zwd31 zwd100 zcd_X11_fine (Nat.le_of_ble_eq_true rfl) (Nat.le_of_ble_eq_true rfl) (Nat.le_refl _) ⟨Nat.le_of_ble_eq_true rfl, Nat.le_of_ble_eq_true rfl⟩ ⟨rfl, zhn_X11_fine⟩ rfl (Nat.le_of_ble_eq_true rfl) rfl (z_contI (fun v1 μ1 h => ?_) h)
  obtain ⟨oz2, h⟩ := h
  refine z_if_eq (tgt := 137) A dX11_picture_50 (by decide) oz2 (fun c3 => ?_) (fun c3 => ?_)
  · have h := h.1 c3
    exact h
  · have h := h.2 c3
    refine s_iload A dX11_picture_53 rfl ?_
    obtain ⟨oz4, h⟩ := h
    refine z_if_eq (tgt := 78) A dX11_picture_55 (by decide) oz4 (fun c5 => ?_) (fun c5 => ?_)
    · have h := h.1 c5
      exact h
    · have h := h.2 c5
      refine s_aload_n A dX11_picture_58 rfl ?_
      refine s_getf (k := 11) (j := 8) (sl := true) (v := zI (zi μ1 153 8)) A dX11_picture_59 rfl zuw_X11 (Nat.le_of_ble_eq_true rfl) zwd1316 (by decide) (zk_153 _) rfl ?_
      refine s_aload_n A dX11_picture_62 rfl ?_
      refine s_getf (k := 11) (j := 6) (sl := true) (v := zI (zi μ1 153 6)) A dX11_picture_63 rfl zuw_X11 (Nat.le_of_ble_eq_true rfl) zwd1314 (by decide) (zk_153 _) rfl ?_
      obtain ⟨oz6, h⟩ := h
      obtain ⟨oz7, h⟩ := h
      refine z_icmp_ge (tgt := 137) A dX11_picture_66 (by decide) oz6 oz7 (fun c8 => ?_) (fun c8 => ?_)
      · have h := h.1 c8
        exact h
      · have h := h.2 c8
        refine s_aload_n A dX11_picture_69 rfl ?_
        refine s_callV (a := 153) (k := 11) (N := 45) (sl := true) (M := mX11_here) (n := 0) (d := 0) (mc := 0) (ms := 0) (av := []) (st := []) A dX11_picture_70 rfl (by decide) (zk_153 _) zwd1483 zwd1485 zwd35 zwd100 zcd_X11_here (Nat.le_of_ble_eq_true rfl) (Nat.le_of_ble_eq_true rfl) (Nat.le_refl _) ⟨Nat.le_of_ble_eq_true rfl, Nat.le_of_ble_eq_true rfl⟩ ⟨rfl, zhn_X11_here⟩ rfl (Nat.le_of_ble_eq_true rfl) rfl (z_contI (fun v9 μ9 h => ?_) h)
        refine s_bipush A dX11_picture_73 rfl ?_
        obtain ⟨oz10, h⟩ := h
        refine z_icmp_eq (tgt := 137) A dX11_picture_75 (by decide) oz10 ⟨by decide, by decide⟩ (fun c11 => ?_) (fun c11 => ?_)
        · have h := h.1 c11
          exact h
        · have h := h.2 c11
          exact h
set_option maxRecDepth 20000 in
theorem rX11_picture_78 {G : zG} {F : Int → zM → Prop} {J : Nat → zS → Prop} {μ : zM} (C : zJ G true (4) 0 0 mX11_picture (zKI F) J) (x1 : Int) (x2 : Int) (x3 : Int) (x5 : Int)
    (h : zin x5 ∧ ((x5 = 8 → qX11_fault G (zi μ 153 8) μ (fun μ3 => qX11_oneOf G 97 8 μ3 (fun v4 μ4 => qX11_fine G μ4 (fun v5 μ5 => zin v5 ∧ ((v5 = 0 → J 46 ([some (zR (some 153)), some (zI x1), some (zI x2), some (zI x3), none, some (zI (x5 + 1)), none], [], μ5, 0, 0)) ∧ (¬ (v5 = 0) → (0 ≤ x1 ∧ x1 < 320) ∧ J 46 ([some (zR (some 153)), some (zI (x1 + 1)), some (zI x2), some (zI x3), none, some (zI (x5 + 1)), none], [], zup μ5 157 x1 v4, 0, 0))))))) ∧ (¬ (x5 = 8) → zin x3 ∧ ((x3 ≤ 0 → qX11_oneOf G 97 8 μ (fun v11 μ11 => qX11_fine G μ11 (fun v12 μ12 => zin v12 ∧ ((v12 = 0 → J 46 ([some (zR (some 153)), some (zI x1), some (zI x2), some (zI x3), none, some (zI (x5 + 1)), none], [], μ12, 0, 0)) ∧ (¬ (v12 = 0) → (0 ≤ x1 ∧ x1 < 320) ∧ J 46 ([some (zR (some 153)), some (zI (x1 + 1)), some (zI x2), some (zI x3), none, some (zI (x5 + 1)), none], [], zup μ12 157 x1 v11, 0, 0)))))) ∧ (¬ (x3 ≤ 0) → zin x2 ∧ ((¬ x5 = x2 → qX11_oneOf G 97 8 μ (fun v18 μ18 => qX11_fine G μ18 (fun v19 μ19 => zin v19 ∧ ((v19 = 0 → J 46 ([some (zR (some 153)), some (zI x1), some (zI x2), some (zI x3), none, some (zI (x5 + 1)), none], [], μ19, 0, 0)) ∧ (¬ (v19 = 0) → (0 ≤ x1 ∧ x1 < 320) ∧ J 46 ([some (zR (some 153)), some (zI (x1 + 1)), some (zI x2), some (zI x3), none, some (zI (x5 + 1)), none], [], zup μ19 157 x1 v18, 0, 0)))))) ∧ (x5 = x2 → qX11_fault G (zi μ 153 8) μ (fun μ23 => qX11_oneOf G 97 8 μ23 (fun v24 μ24 => qX11_fine G μ24 (fun v25 μ25 => zin v25 ∧ ((v25 = 0 → J 46 ([some (zR (some 153)), some (zI x1), some (zI x2), some (zI x3), none, some (zI (x5 + 1)), none], [], μ25, 0, 0)) ∧ (¬ (v25 = 0) → (0 ≤ x1 ∧ x1 < 320) ∧ J 46 ([some (zR (some 153)), some (zI (x1 + 1)), some (zI x2), some (zI x3), none, some (zI (x5 + 1)), none], [], zup μ25 157 x1 v24, 0, 0))))))))))))) : J 78 ([some (zR (some 153)), some (zI x1), some (zI x2), some (zI x3), none, some (zI x5), none], [], μ, 0, 0) := by
  obtain ⟨p, e, s, m, args, below, meth, c, A, hml, hr, hlk, hnm, rfl⟩ := C
  refine s_iload A dX11_picture_78 rfl ?_
  refine s_bipush A dX11_picture_80 rfl ?_
  obtain ⟨oz1, h⟩ := h
  refine z_icmp_eq (tgt := 95) A dX11_picture_82 (by decide) oz1 ⟨by decide, by decide⟩ (fun c2 => ?_) (fun c2 => ?_)
  · have h := h.1 c2
    refine s_aload_n A dX11_picture_95 rfl ?_
    refine s_aload_n A dX11_picture_96 rfl ?_
    refine s_getf (k := 11) (j := 8) (sl := true) (v := zI (zi μ 153 8)) A dX11_picture_97 rfl zuw_X11 (Nat.le_of_ble_eq_true rfl) zwd1316 (by decide) (zk_153 _) rfl ?_
    refine s_callV (a := 153) (k := 11) (N := 45) (sl := true) (M := mX11_fault) (n := 1) (d := 2) (mc := 0) (ms := 0) (av := [zI (zi μ 153 8)]) (st := []) A dX11_picture_100 rfl (by decide) (zk_153 _) zwd1487 zwd1489 zwd36 zwd100 zcd_X11_fault (Nat.le_of_ble_eq_true rfl) (Nat.le_of_ble_eq_true rfl) (Nat.le_refl _) ⟨Nat.le_of_ble_eq_true rfl, Nat.le_of_ble_eq_true rfl⟩ ⟨rfl, zhn_X11_fault⟩ rfl (Nat.le_of_ble_eq_true rfl) rfl (z_contV (fun μ3 h => ?_) h)
    refine s_aload_n A dX11_picture_103 rfl ?_
    refine s_bipush A dX11_picture_104 rfl ?_
    refine s_bipush A dX11_picture_106 rfl ?_
    refine s_callV (a := 153) (k := 11) (N := 45) (sl := true) (M := mX11_oneOf) (n := 2) (d := 3) (mc := 0) (ms := 0) (av := [zI 97, zI 8]) (st := []) A dX11_picture_108 rfl (by decide) (zk_153 _) zwd1479 zwd1481 zwd34 zwd100 zcd_X11_oneOf (Nat.le_of_ble_eq_true rfl) (Nat.le_of_ble_eq_true rfl) (Nat.le_refl _) ⟨Nat.le_of_ble_eq_true rfl, Nat.le_of_ble_eq_true rfl⟩ ⟨rfl, zhn_X11_oneOf⟩ rfl (Nat.le_of_ble_eq_true rfl) rfl (z_contI (fun v4 μ4 h => ?_) h)
    refine s_istore (L' := [some (zR (some 153)), some (zI x1), some (zI x2), some (zI x3), none, some (zI x5), some (zI v4)]) A dX11_picture_111 (Nat.le_of_ble_eq_true rfl) rfl ?_
    refine s_aload_n A dX11_picture_113 rfl ?_
    refine s_callV (a := 153) (k := 11) (N := 45) (sl := true) (M := mX11_fine) (n := 0) (d := 0) (mc := 0) (ms := 0) (av := []) (st := []) A dX11_picture_114 rfl (by decide) (zk_153 _) zwd1467 zwd1469 zwd31 zwd100 zcd_X11_fine (Nat.le_of_ble_eq_true rfl) (Nat.le_of_ble_eq_true rfl) (Nat.le_refl _) ⟨Nat.le_of_ble_eq_true rfl, Nat.le_of_ble_eq_true rfl⟩ ⟨rfl, zhn_X11_fine⟩ rfl (Nat.le_of_ble_eq_true rfl) rfl (z_contI (fun v5 μ5 h => ?_) h)
    obtain ⟨oz6, h⟩ := h
    refine z_if_eq (tgt := 131) A dX11_picture_117 (by decide) oz6 (fun c7 => ?_) (fun c7 => ?_)
    · have h := h.1 c7
      refine s_iinc (L' := [some (zR (some 153)), some (zI x1), some (zI x2), some (zI x3), none, some (zI (x5 + 1)), some (zI v4)]) A dX11_picture_131 rfl rfl ?_
      refine s_goto (tgt := 46) A dX11_picture_134 (by decide) ?_
      exact z_wk (L' := [some (zR (some 153)), some (zI x1), some (zI x2), some (zI x3), none, some (zI (x5 + 1)), none]) ⟨rfl, rfl, rfl, rfl, rfl, trivial⟩ h
    · have h := h.2 c7
      refine s_aload_n A dX11_picture_120 rfl ?_
      refine s_getf (k := 11) (j := 10) (sl := true) (v := zR (some 157)) A dX11_picture_121 rfl zuw_X11 (Nat.le_of_ble_eq_true rfl) zwd1318 (by decide) (zk_153 _) rfl ?_
      refine s_iload_n A dX11_picture_124 rfl ?_
      refine s_iinc (L' := [some (zR (some 153)), some (zI (x1 + 1)), some (zI x2), some (zI x3), none, some (zI x5), some (zI v4)]) A dX11_picture_125 rfl rfl ?_
      refine s_iload A dX11_picture_128 rfl ?_
      obtain ⟨ox8, h⟩ := h
      refine z_iast A dX11_picture_130 (zk_157 _) (Nat.le_of_ble_eq_true rfl) ox8 ?_
      refine s_iinc (L' := [some (zR (some 153)), some (zI (x1 + 1)), some (zI x2), some (zI x3), none, some (zI (x5 + 1)), some (zI v4)]) A dX11_picture_131 rfl rfl ?_
      refine s_goto (tgt := 46) A dX11_picture_134 (by decide) ?_
      exact z_wk (L' := [some (zR (some 153)), some (zI (x1 + 1)), some (zI x2), some (zI x3), none, some (zI (x5 + 1)), none]) ⟨rfl, rfl, rfl, rfl, rfl, trivial⟩ h
  · have h := h.2 c2
    refine s_iload_n A dX11_picture_85 rfl ?_
    obtain ⟨oz9, h⟩ := h
    refine z_if_le (tgt := 103) A dX11_picture_86 (by decide) oz9 (fun c10 => ?_) (fun c10 => ?_)
    · have h := h.1 c10
      refine s_aload_n A dX11_picture_103 rfl ?_
      refine s_bipush A dX11_picture_104 rfl ?_
      refine s_bipush A dX11_picture_106 rfl ?_
      refine s_callV (a := 153) (k := 11) (N := 45) (sl := true) (M := mX11_oneOf) (n := 2) (d := 3) (mc := 0) (ms := 0) (av := [zI 97, zI 8]) (st := []) A dX11_picture_108 rfl (by decide) (zk_153 _) zwd1479 zwd1481 zwd34 zwd100 zcd_X11_oneOf (Nat.le_of_ble_eq_true rfl) (Nat.le_of_ble_eq_true rfl) (Nat.le_refl _) ⟨Nat.le_of_ble_eq_true rfl, Nat.le_of_ble_eq_true rfl⟩ ⟨rfl, zhn_X11_oneOf⟩ rfl (Nat.le_of_ble_eq_true rfl) rfl (z_contI (fun v11 μ11 h => ?_) h)
      refine s_istore (L' := [some (zR (some 153)), some (zI x1), some (zI x2), some (zI x3), none, some (zI x5), some (zI v11)]) A dX11_picture_111 (Nat.le_of_ble_eq_true rfl) rfl ?_
      refine s_aload_n A dX11_picture_113 rfl ?_
      refine s_callV (a := 153) (k := 11) (N := 45) (sl := true) (M := mX11_fine) (n := 0) (d := 0) (mc := 0) (ms := 0) (av := []) (st := []) A dX11_picture_114 rfl (by decide) (zk_153 _) zwd1467 zwd1469 zwd31 zwd100 zcd_X11_fine (Nat.le_of_ble_eq_true rfl) (Nat.le_of_ble_eq_true rfl) (Nat.le_refl _) ⟨Nat.le_of_ble_eq_true rfl, Nat.le_of_ble_eq_true rfl⟩ ⟨rfl, zhn_X11_fine⟩ rfl (Nat.le_of_ble_eq_true rfl) rfl (z_contI (fun v12 μ12 h => ?_) h)
      obtain ⟨oz13, h⟩ := h
      refine z_if_eq (tgt := 131) A dX11_picture_117 (by decide) oz13 (fun c14 => ?_) (fun c14 => ?_)
      · have h := h.1 c14
        refine s_iinc (L' := [some (zR (some 153)), some (zI x1), some (zI x2), some (zI x3), none, some (zI (x5 + 1)), some (zI v11)]) A dX11_picture_131 rfl rfl ?_
        refine s_goto (tgt := 46) A dX11_picture_134 (by decide) ?_
        exact z_wk (L' := [some (zR (some 153)), some (zI x1), some (zI x2), some (zI x3), none, some (zI (x5 + 1)), none]) ⟨rfl, rfl, rfl, rfl, rfl, trivial⟩ h
      · have h := h.2 c14
        refine s_aload_n A dX11_picture_120 rfl ?_
        refine s_getf (k := 11) (j := 10) (sl := true) (v := zR (some 157)) A dX11_picture_121 rfl zuw_X11 (Nat.le_of_ble_eq_true rfl) zwd1318 (by decide) (zk_153 _) rfl ?_
        refine s_iload_n A dX11_picture_124 rfl ?_
        refine s_iinc (L' := [some (zR (some 153)), some (zI (x1 + 1)), some (zI x2), some (zI x3), none, some (zI x5), some (zI v11)]) A dX11_picture_125 rfl rfl ?_
        refine s_iload A dX11_picture_128 rfl ?_
        obtain ⟨ox15, h⟩ := h
        refine z_iast A dX11_picture_130 (zk_157 _) (Nat.le_of_ble_eq_true rfl) ox15 ?_
        refine s_iinc (L' := [some (zR (some 153)), some (zI (x1 + 1)), some (zI x2), some (zI x3), none, some (zI (x5 + 1)), some (zI v11)]) A dX11_picture_131 rfl rfl ?_
        refine s_goto (tgt := 46) A dX11_picture_134 (by decide) ?_
        exact z_wk (L' := [some (zR (some 153)), some (zI (x1 + 1)), some (zI x2), some (zI x3), none, some (zI (x5 + 1)), none]) ⟨rfl, rfl, rfl, rfl, rfl, trivial⟩ h
    · have h := h.2 c10
      refine s_iload A dX11_picture_89 rfl ?_
      refine s_iload_n A dX11_picture_91 rfl ?_
      obtain ⟨oz16, h⟩ := h
      refine z_icmp_ne (tgt := 103) A dX11_picture_92 (by decide) oz1 oz16 (fun c17 => ?_) (fun c17 => ?_)
      · have h := h.1 c17
        refine s_aload_n A dX11_picture_103 rfl ?_
        refine s_bipush A dX11_picture_104 rfl ?_
        refine s_bipush A dX11_picture_106 rfl ?_
        refine s_callV (a := 153) (k := 11) (N := 45) (sl := true) (M := mX11_oneOf) (n := 2) (d := 3) (mc := 0) (ms := 0) (av := [zI 97, zI 8]) (st := []) A dX11_picture_108 rfl (by decide) (zk_153 _) zwd1479 zwd1481 zwd34 zwd100 zcd_X11_oneOf (Nat.le_of_ble_eq_true rfl) (Nat.le_of_ble_eq_true rfl) (Nat.le_refl _) ⟨Nat.le_of_ble_eq_true rfl, Nat.le_of_ble_eq_true rfl⟩ ⟨rfl, zhn_X11_oneOf⟩ rfl (Nat.le_of_ble_eq_true rfl) rfl (z_contI (fun v18 μ18 h => ?_) h)
        refine s_istore (L' := [some (zR (some 153)), some (zI x1), some (zI x2), some (zI x3), none, some (zI x5), some (zI v18)]) A dX11_picture_111 (Nat.le_of_ble_eq_true rfl) rfl ?_
        refine s_aload_n A dX11_picture_113 rfl ?_
        refine s_callV (a := 153) (k := 11) (N := 45) (sl := true) (M := mX11_fine) (n := 0) (d := 0) (mc := 0) (ms := 0) (av := []) (st := []) A dX11_picture_114 rfl (by decide) (zk_153 _) zwd1467 zwd1469 zwd31 zwd100 zcd_X11_fine (Nat.le_of_ble_eq_true rfl) (Nat.le_of_ble_eq_true rfl) (Nat.le_refl _) ⟨Nat.le_of_ble_eq_true rfl, Nat.le_of_ble_eq_true rfl⟩ ⟨rfl, zhn_X11_fine⟩ rfl (Nat.le_of_ble_eq_true rfl) rfl (z_contI (fun v19 μ19 h => ?_) h)
        obtain ⟨oz20, h⟩ := h
        refine z_if_eq (tgt := 131) A dX11_picture_117 (by decide) oz20 (fun c21 => ?_) (fun c21 => ?_)
        · have h := h.1 c21
          refine s_iinc (L' := [some (zR (some 153)), some (zI x1), some (zI x2), some (zI x3), none, some (zI (x5 + 1)), some (zI v18)]) A dX11_picture_131 rfl rfl ?_
          refine s_goto (tgt := 46) A dX11_picture_134 (by decide) ?_
          exact z_wk (L' := [some (zR (some 153)), some (zI x1), some (zI x2), some (zI x3), none, some (zI (x5 + 1)), none]) ⟨rfl, rfl, rfl, rfl, rfl, trivial⟩ h
        · have h := h.2 c21
          refine s_aload_n A dX11_picture_120 rfl ?_
          refine s_getf (k := 11) (j := 10) (sl := true) (v := zR (some 157)) A dX11_picture_121 rfl zuw_X11 (Nat.le_of_ble_eq_true rfl) zwd1318 (by decide) (zk_153 _) rfl ?_
          refine s_iload_n A dX11_picture_124 rfl ?_
          refine s_iinc (L' := [some (zR (some 153)), some (zI (x1 + 1)), some (zI x2), some (zI x3), none, some (zI x5), some (zI v18)]) A dX11_picture_125 rfl rfl ?_
          refine s_iload A dX11_picture_128 rfl ?_
          obtain ⟨ox22, h⟩ := h
          refine z_iast A dX11_picture_130 (zk_157 _) (Nat.le_of_ble_eq_true rfl) ox22 ?_
          refine s_iinc (L' := [some (zR (some 153)), some (zI (x1 + 1)), some (zI x2), some (zI x3), none, some (zI (x5 + 1)), some (zI v18)]) A dX11_picture_131 rfl rfl ?_
          refine s_goto (tgt := 46) A dX11_picture_134 (by decide) ?_
          exact z_wk (L' := [some (zR (some 153)), some (zI (x1 + 1)), some (zI x2), some (zI x3), none, some (zI (x5 + 1)), none]) ⟨rfl, rfl, rfl, rfl, rfl, trivial⟩ h
      · have h := h.2 c17
        refine s_aload_n A dX11_picture_95 rfl ?_
        refine s_aload_n A dX11_picture_96 rfl ?_
        refine s_getf (k := 11) (j := 8) (sl := true) (v := zI (zi μ 153 8)) A dX11_picture_97 rfl zuw_X11 (Nat.le_of_ble_eq_true rfl) zwd1316 (by decide) (zk_153 _) rfl ?_
        refine s_callV (a := 153) (k := 11) (N := 45) (sl := true) (M := mX11_fault) (n := 1) (d := 2) (mc := 0) (ms := 0) (av := [zI (zi μ 153 8)]) (st := []) A dX11_picture_100 rfl (by decide) (zk_153 _) zwd1487 zwd1489 zwd36 zwd100 zcd_X11_fault (Nat.le_of_ble_eq_true rfl) (Nat.le_of_ble_eq_true rfl) (Nat.le_refl _) ⟨Nat.le_of_ble_eq_true rfl, Nat.le_of_ble_eq_true rfl⟩ ⟨rfl, zhn_X11_fault⟩ rfl (Nat.le_of_ble_eq_true rfl) rfl (z_contV (fun μ23 h => ?_) h)
        refine s_aload_n A dX11_picture_103 rfl ?_
        refine s_bipush A dX11_picture_104 rfl ?_
        refine s_bipush A dX11_picture_106 rfl ?_
        refine s_callV (a := 153) (k := 11) (N := 45) (sl := true) (M := mX11_oneOf) (n := 2) (d := 3) (mc := 0) (ms := 0) (av := [zI 97, zI 8]) (st := []) A dX11_picture_108 rfl (by decide) (zk_153 _) zwd1479 zwd1481 zwd34 zwd100 zcd_X11_oneOf (Nat.le_of_ble_eq_true rfl) (Nat.le_of_ble_eq_true rfl) (Nat.le_refl _) ⟨Nat.le_of_ble_eq_true rfl, Nat.le_of_ble_eq_true rfl⟩ ⟨rfl, zhn_X11_oneOf⟩ rfl (Nat.le_of_ble_eq_true rfl) rfl (z_contI (fun v24 μ24 h => ?_) h)
        refine s_istore (L' := [some (zR (some 153)), some (zI x1), some (zI x2), some (zI x3), none, some (zI x5), some (zI v24)]) A dX11_picture_111 (Nat.le_of_ble_eq_true rfl) rfl ?_
        refine s_aload_n A dX11_picture_113 rfl ?_
        refine s_callV (a := 153) (k := 11) (N := 45) (sl := true) (M := mX11_fine) (n := 0) (d := 0) (mc := 0) (ms := 0) (av := []) (st := []) A dX11_picture_114 rfl (by decide) (zk_153 _) zwd1467 zwd1469 zwd31 zwd100 zcd_X11_fine (Nat.le_of_ble_eq_true rfl) (Nat.le_of_ble_eq_true rfl) (Nat.le_refl _) ⟨Nat.le_of_ble_eq_true rfl, Nat.le_of_ble_eq_true rfl⟩ ⟨rfl, zhn_X11_fine⟩ rfl (Nat.le_of_ble_eq_true rfl) rfl (z_contI (fun v25 μ25 h => ?_) h)
        obtain ⟨oz26, h⟩ := h
        refine z_if_eq (tgt := 131) A dX11_picture_117 (by decide) oz26 (fun c27 => ?_) (fun c27 => ?_)
        · have h := h.1 c27
          refine s_iinc (L' := [some (zR (some 153)), some (zI x1), some (zI x2), some (zI x3), none, some (zI (x5 + 1)), some (zI v24)]) A dX11_picture_131 rfl rfl ?_
          refine s_goto (tgt := 46) A dX11_picture_134 (by decide) ?_
          exact z_wk (L' := [some (zR (some 153)), some (zI x1), some (zI x2), some (zI x3), none, some (zI (x5 + 1)), none]) ⟨rfl, rfl, rfl, rfl, rfl, trivial⟩ h
        · have h := h.2 c27
          refine s_aload_n A dX11_picture_120 rfl ?_
          refine s_getf (k := 11) (j := 10) (sl := true) (v := zR (some 157)) A dX11_picture_121 rfl zuw_X11 (Nat.le_of_ble_eq_true rfl) zwd1318 (by decide) (zk_153 _) rfl ?_
          refine s_iload_n A dX11_picture_124 rfl ?_
          refine s_iinc (L' := [some (zR (some 153)), some (zI (x1 + 1)), some (zI x2), some (zI x3), none, some (zI x5), some (zI v24)]) A dX11_picture_125 rfl rfl ?_
          refine s_iload A dX11_picture_128 rfl ?_
          obtain ⟨ox28, h⟩ := h
          refine z_iast A dX11_picture_130 (zk_157 _) (Nat.le_of_ble_eq_true rfl) ox28 ?_
          refine s_iinc (L' := [some (zR (some 153)), some (zI (x1 + 1)), some (zI x2), some (zI x3), none, some (zI (x5 + 1)), some (zI v24)]) A dX11_picture_131 rfl rfl ?_
          refine s_goto (tgt := 46) A dX11_picture_134 (by decide) ?_
          exact z_wk (L' := [some (zR (some 153)), some (zI (x1 + 1)), some (zI x2), some (zI x3), none, some (zI (x5 + 1)), none]) ⟨rfl, rfl, rfl, rfl, rfl, trivial⟩ h
set_option maxRecDepth 20000 in
theorem rX11_picture_137 {G : zG} {F : Int → zM → Prop} {J : Nat → zS → Prop} {μ : zM} (C : zJ G true (4) 0 0 mX11_picture (zKI F) J) (x1 : Int) (x2 : Int) (x3 : Int) (x5 : Int)
    (h : zin x3 ∧ ((x3 ≤ 0 → J 155 ([some (zR (some 153)), some (zI x1), some (zI x2), some (zI x3), none, some (zI x5), none], [], μ, 0, 0)) ∧ (¬ (x3 ≤ 0) → zin x5 ∧ zin x2 ∧ ((x2 ≤ x5 → J 155 ([some (zR (some 153)), some (zI x1), some (zI x2), some (zI x3), none, some (zI x5), none], [], μ, 0, 0)) ∧ (¬ (x2 ≤ x5) → qX11_fault G (zi μ 153 8) μ (fun μ6 => J 155 ([some (zR (some 153)), some (zI x1), some (zI x2), some (zI x3), none, some (zI x5), none], [], μ6, 0, 0))))))) : J 137 ([some (zR (some 153)), some (zI x1), some (zI x2), some (zI x3), none, some (zI x5), none], [], μ, 0, 0) := by
  obtain ⟨p, e, s, m, args, below, meth, c, A, hml, hr, hlk, hnm, rfl⟩ := C
  refine s_iload_n A dX11_picture_137 rfl ?_
  obtain ⟨oz1, h⟩ := h
  refine z_if_le (tgt := 155) A dX11_picture_138 (by decide) oz1 (fun c2 => ?_) (fun c2 => ?_)
  · have h := h.1 c2
    exact h
  · have h := h.2 c2
    refine s_iload A dX11_picture_141 rfl ?_
    refine s_iload_n A dX11_picture_143 rfl ?_
    obtain ⟨oz3, h⟩ := h
    obtain ⟨oz4, h⟩ := h
    refine z_icmp_ge (tgt := 155) A dX11_picture_144 (by decide) oz3 oz4 (fun c5 => ?_) (fun c5 => ?_)
    · have h := h.1 c5
      exact h
    · have h := h.2 c5
      refine s_aload_n A dX11_picture_147 rfl ?_
      refine s_aload_n A dX11_picture_148 rfl ?_
      refine s_getf (k := 11) (j := 8) (sl := true) (v := zI (zi μ 153 8)) A dX11_picture_149 rfl zuw_X11 (Nat.le_of_ble_eq_true rfl) zwd1316 (by decide) (zk_153 _) rfl ?_
      refine s_callV (a := 153) (k := 11) (N := 45) (sl := true) (M := mX11_fault) (n := 1) (d := 2) (mc := 0) (ms := 0) (av := [zI (zi μ 153 8)]) (st := []) A dX11_picture_152 rfl (by decide) (zk_153 _) zwd1487 zwd1489 zwd36 zwd100 zcd_X11_fault (Nat.le_of_ble_eq_true rfl) (Nat.le_of_ble_eq_true rfl) (Nat.le_refl _) ⟨Nat.le_of_ble_eq_true rfl, Nat.le_of_ble_eq_true rfl⟩ ⟨rfl, zhn_X11_fault⟩ rfl (Nat.le_of_ble_eq_true rfl) rfl (z_contV (fun μ6 h => ?_) h)
      exact h
set_option maxRecDepth 20000 in
theorem rX11_picture_155 {G : zG} {F : Int → zM → Prop} {J : Nat → zS → Prop} {μ : zM} (C : zJ G true (4) 0 0 mX11_picture (zKI F) J) (x1 : Int) (x2 : Int) (x3 : Int) (x5 : Int)
    (h : zin x3 ∧ ((¬ x3 = 0 → qX11_fine G μ (fun v3 μ3 => zin v3 ∧ ((v3 = 0 → J 186 ([some (zR (some 153)), some (zI x1), some (zI x2), some (zI (x3 + 1)), none, none, none], [zI 0], μ3, 0, 0)) ∧ (¬ (v3 = 0) → qX11_here G μ3 (fun v6 μ6 => zin v6 ∧ ((¬ v6 = 47 → J 186 ([some (zR (some 153)), some (zI x1), some (zI x2), some (zI (x3 + 1)), none, none, none], [zI 0], μ6, 0, 0)) ∧ (v6 = 47 → J 186 ([some (zR (some 153)), some (zI x1), some (zI x2), some (zI (x3 + 1)), none, none, none], [zI 1], μ6, 0, 0)))))))) ∧ (x3 = 0 → qX11_fine G μ (fun v9 μ9 => zin v9 ∧ ((v9 = 0 → J 186 ([some (zR (some 153)), some (zI x1), some (zI x5), some (zI (x3 + 1)), none, none, none], [zI 0], μ9, 0, 0)) ∧ (¬ (v9 = 0) → qX11_here G μ9 (fun v12 μ12 => zin v12 ∧ ((¬ v12 = 47 → J 186 ([some (zR (some 153)), some (zI x1), some (zI x5), some (zI (x3 + 1)), none, none, none], [zI 0], μ12, 0, 0)) ∧ (v12 = 47 → J 186 ([some (zR (some 153)), some (zI x1), some (zI x5), some (zI (x3 + 1)), none, none, none], [zI 1], μ12, 0, 0)))))))))) : J 155 ([some (zR (some 153)), some (zI x1), some (zI x2), some (zI x3), none, some (zI x5), none], [], μ, 0, 0) := by
  obtain ⟨p, e, s, m, args, below, meth, c, A, hml, hr, hlk, hnm, rfl⟩ := C
  refine s_iload_n A dX11_picture_155 rfl ?_
  obtain ⟨oz1, h⟩ := h
  refine z_if_ne (tgt := 162) A dX11_picture_156 (by decide) oz1 (fun c2 => ?_) (fun c2 => ?_)
  · have h := h.1 c2
    refine s_iinc (L' := [some (zR (some 153)), some (zI x1), some (zI x2), some (zI (x3 + 1)), none, some (zI x5), none]) A dX11_picture_162 rfl rfl ?_
    refine s_aload_n A dX11_picture_165 rfl ?_
    refine s_callV (a := 153) (k := 11) (N := 45) (sl := true) (M := mX11_fine) (n := 0) (d := 0) (mc := 0) (ms := 0) (av := []) (st := []) A dX11_picture_166 rfl (by decide) (zk_153 _) zwd1467 zwd1469 zwd31 zwd100 zcd_X11_fine (Nat.le_of_ble_eq_true rfl) (Nat.le_of_ble_eq_true rfl) (Nat.le_refl _) ⟨Nat.le_of_ble_eq_true rfl, Nat.le_of_ble_eq_true rfl⟩ ⟨rfl, zhn_X11_fine⟩ rfl (Nat.le_of_ble_eq_true rfl) rfl (z_contI (fun v3 μ3 h => ?_) h)
    obtain ⟨oz4, h⟩ := h
    refine z_if_eq (tgt := 185) A dX11_picture_169 (by decide) oz4 (fun c5 => ?_) (fun c5 => ?_)
    · have h := h.1 c5
      refine s_iconst A dX11_picture_185 ?_
      exact z_wk (L' := [some (zR (some 153)), some (zI x1), some (zI x2), some (zI (x3 + 1)), none, none, none]) ⟨rfl, rfl, rfl, rfl, trivial⟩ h
    · have h := h.2 c5
      refine s_aload_n A dX11_picture_172 rfl ?_
      refine s_callV (a := 153) (k := 11) (N := 45) (sl := true) (M := mX11_here) (n := 0) (d := 0) (mc := 0) (ms := 0) (av := []) (st := []) A dX11_picture_173 rfl (by decide) (zk_153 _) zwd1483 zwd1485 zwd35 zwd100 zcd_X11_here (Nat.le_of_ble_eq_true rfl) (Nat.le_of_ble_eq_true rfl) (Nat.le_refl _) ⟨Nat.le_of_ble_eq_true rfl, Nat.le_of_ble_eq_true rfl⟩ ⟨rfl, zhn_X11_here⟩ rfl (Nat.le_of_ble_eq_true rfl) rfl (z_contI (fun v6 μ6 h => ?_) h)
      refine s_bipush A dX11_picture_176 rfl ?_
      obtain ⟨oz7, h⟩ := h
      refine z_icmp_ne (tgt := 185) A dX11_picture_178 (by decide) oz7 ⟨by decide, by decide⟩ (fun c8 => ?_) (fun c8 => ?_)
      · have h := h.1 c8
        refine s_iconst A dX11_picture_185 ?_
        exact z_wk (L' := [some (zR (some 153)), some (zI x1), some (zI x2), some (zI (x3 + 1)), none, none, none]) ⟨rfl, rfl, rfl, rfl, trivial⟩ h
      · have h := h.2 c8
        refine s_iconst A dX11_picture_181 ?_
        refine s_goto (tgt := 186) A dX11_picture_182 (by decide) ?_
        exact z_wk (L' := [some (zR (some 153)), some (zI x1), some (zI x2), some (zI (x3 + 1)), none, none, none]) ⟨rfl, rfl, rfl, rfl, trivial⟩ h
  · have h := h.2 c2
    refine s_iload A dX11_picture_159 rfl ?_
    refine s_istore_n (L' := [some (zR (some 153)), some (zI x1), some (zI x5), some (zI x3), none, some (zI x5), none]) A dX11_picture_161 (Nat.le_of_ble_eq_true rfl) rfl ?_
    refine s_iinc (L' := [some (zR (some 153)), some (zI x1), some (zI x5), some (zI (x3 + 1)), none, some (zI x5), none]) A dX11_picture_162 rfl rfl ?_
    refine s_aload_n A dX11_picture_165 rfl ?_
    refine s_callV (a := 153) (k := 11) (N := 45) (sl := true) (M := mX11_fine) (n := 0) (d := 0) (mc := 0) (ms := 0) (av := []) (st := []) A dX11_picture_166 rfl (by decide) (zk_153 _) zwd1467 zwd1469 zwd31 zwd100 zcd_X11_fine (Nat.le_of_ble_eq_true rfl) (Nat.le_of_ble_eq_true rfl) (Nat.le_refl _) ⟨Nat.le_of_ble_eq_true rfl, Nat.le_of_ble_eq_true rfl⟩ ⟨rfl, zhn_X11_fine⟩ rfl (Nat.le_of_ble_eq_true rfl) rfl (z_contI (fun v9 μ9 h => ?_) h)
    obtain ⟨oz10, h⟩ := h
    refine z_if_eq (tgt := 185) A dX11_picture_169 (by decide) oz10 (fun c11 => ?_) (fun c11 => ?_)
    · have h := h.1 c11
      refine s_iconst A dX11_picture_185 ?_
      exact z_wk (L' := [some (zR (some 153)), some (zI x1), some (zI x5), some (zI (x3 + 1)), none, none, none]) ⟨rfl, rfl, rfl, rfl, trivial⟩ h
    · have h := h.2 c11
      refine s_aload_n A dX11_picture_172 rfl ?_
      refine s_callV (a := 153) (k := 11) (N := 45) (sl := true) (M := mX11_here) (n := 0) (d := 0) (mc := 0) (ms := 0) (av := []) (st := []) A dX11_picture_173 rfl (by decide) (zk_153 _) zwd1483 zwd1485 zwd35 zwd100 zcd_X11_here (Nat.le_of_ble_eq_true rfl) (Nat.le_of_ble_eq_true rfl) (Nat.le_refl _) ⟨Nat.le_of_ble_eq_true rfl, Nat.le_of_ble_eq_true rfl⟩ ⟨rfl, zhn_X11_here⟩ rfl (Nat.le_of_ble_eq_true rfl) rfl (z_contI (fun v12 μ12 h => ?_) h)
      refine s_bipush A dX11_picture_176 rfl ?_
      obtain ⟨oz13, h⟩ := h
      refine z_icmp_ne (tgt := 185) A dX11_picture_178 (by decide) oz13 ⟨by decide, by decide⟩ (fun c14 => ?_) (fun c14 => ?_)
      · have h := h.1 c14
        refine s_iconst A dX11_picture_185 ?_
        exact z_wk (L' := [some (zR (some 153)), some (zI x1), some (zI x5), some (zI (x3 + 1)), none, none, none]) ⟨rfl, rfl, rfl, rfl, trivial⟩ h
      · have h := h.2 c14
        refine s_iconst A dX11_picture_181 ?_
        refine s_goto (tgt := 186) A dX11_picture_182 (by decide) ?_
        exact z_wk (L' := [some (zR (some 153)), some (zI x1), some (zI x5), some (zI (x3 + 1)), none, none, none]) ⟨rfl, rfl, rfl, rfl, trivial⟩ h
set_option maxRecDepth 20000 in
theorem rX11_picture_186 {G : zG} {F : Int → zM → Prop} {J : Nat → zS → Prop} {μ : zM} (C : zJ G true (4) 0 0 mX11_picture (zKI F) J) (x1 : Int) (x2 : Int) (x3 : Int) (xs0 : Int)
    (h : zin xs0 ∧ ((¬ xs0 = 0 → zin x3 ∧ ((¬ x3 = 8 → J 31 ([some (zR (some 153)), some (zI x1), some (zI x2), some (zI x3), some (zI xs0), none, none], [], zup μ 153 8 ((zi μ 153 8) + 1), 0, 0)) ∧ (x3 = 8 → qX11_fault G (zi μ 153 8) μ (fun μ5 => J 31 ([some (zR (some 153)), some (zI x1), some (zI x2), some (zI x3), some (zI xs0), none, none], [], zup μ5 153 8 ((zi μ5 153 8) + 1), 0, 0))))) ∧ (xs0 = 0 → J 31 ([some (zR (some 153)), some (zI x1), some (zI x2), some (zI x3), some (zI xs0), none, none], [], μ, 0, 0)))) : J 186 ([some (zR (some 153)), some (zI x1), some (zI x2), some (zI x3), none, none, none], [zI xs0], μ, 0, 0) := by
  obtain ⟨p, e, s, m, args, below, meth, c, A, hml, hr, hlk, hnm, rfl⟩ := C
  refine s_istore (L' := [some (zR (some 153)), some (zI x1), some (zI x2), some (zI x3), some (zI xs0), none, none]) A dX11_picture_186 (Nat.le_of_ble_eq_true rfl) rfl ?_
  refine s_iload A dX11_picture_188 rfl ?_
  obtain ⟨oz1, h⟩ := h
  refine z_if_ne (tgt := 196) A dX11_picture_190 (by decide) oz1 (fun c2 => ?_) (fun c2 => ?_)
  · have h := h.1 c2
    refine s_iload_n A dX11_picture_196 rfl ?_
    refine s_bipush A dX11_picture_197 rfl ?_
    obtain ⟨oz3, h⟩ := h
    refine z_icmp_ne (tgt := 210) A dX11_picture_199 (by decide) oz3 ⟨by decide, by decide⟩ (fun c4 => ?_) (fun c4 => ?_)
    · have h := h.1 c4
      refine s_aload_n A dX11_picture_210 rfl ?_
      refine s_dup A dX11_picture_211 rfl ?_
      refine s_getf (k := 11) (j := 8) (sl := true) (v := zI (zi μ 153 8)) A dX11_picture_212 rfl zuw_X11 (Nat.le_of_ble_eq_true rfl) zwd1316 (by decide) (zk_153 _) rfl ?_
      refine s_iconst A dX11_picture_215 ?_
      refine s_iadd A dX11_picture_216 ?_
      refine z_putI (k := 11) (j := 8) (sl := true) A dX11_picture_217 rfl zuw_X11 (Nat.le_of_ble_eq_true rfl) zwd1316 (by decide) (zk_153 _) tyX11 tyX11_ok nmX11 rfl rfl rfl ?_
      refine s_goto (tgt := 31) A dX11_picture_220 (by decide) ?_
      exact h
    · have h := h.2 c4
      refine s_aload_n A dX11_picture_202 rfl ?_
      refine s_aload_n A dX11_picture_203 rfl ?_
      refine s_getf (k := 11) (j := 8) (sl := true) (v := zI (zi μ 153 8)) A dX11_picture_204 rfl zuw_X11 (Nat.le_of_ble_eq_true rfl) zwd1316 (by decide) (zk_153 _) rfl ?_
      refine s_callV (a := 153) (k := 11) (N := 45) (sl := true) (M := mX11_fault) (n := 1) (d := 2) (mc := 0) (ms := 0) (av := [zI (zi μ 153 8)]) (st := []) A dX11_picture_207 rfl (by decide) (zk_153 _) zwd1487 zwd1489 zwd36 zwd100 zcd_X11_fault (Nat.le_of_ble_eq_true rfl) (Nat.le_of_ble_eq_true rfl) (Nat.le_refl _) ⟨Nat.le_of_ble_eq_true rfl, Nat.le_of_ble_eq_true rfl⟩ ⟨rfl, zhn_X11_fault⟩ rfl (Nat.le_of_ble_eq_true rfl) rfl (z_contV (fun μ5 h => ?_) h)
      refine s_aload_n A dX11_picture_210 rfl ?_
      refine s_dup A dX11_picture_211 rfl ?_
      refine s_getf (k := 11) (j := 8) (sl := true) (v := zI (zi μ5 153 8)) A dX11_picture_212 rfl zuw_X11 (Nat.le_of_ble_eq_true rfl) zwd1316 (by decide) (zk_153 _) rfl ?_
      refine s_iconst A dX11_picture_215 ?_
      refine s_iadd A dX11_picture_216 ?_
      refine z_putI (k := 11) (j := 8) (sl := true) A dX11_picture_217 rfl zuw_X11 (Nat.le_of_ble_eq_true rfl) zwd1316 (by decide) (zk_153 _) tyX11 tyX11_ok nmX11 rfl rfl rfl ?_
      refine s_goto (tgt := 31) A dX11_picture_220 (by decide) ?_
      exact h
  · have h := h.2 c2
    refine s_goto (tgt := 31) A dX11_picture_193 (by decide) ?_
    exact h
set_option maxRecDepth 20000 in
theorem rX11_picture_244 {G : zG} {F : Int → zM → Prop} {J : Nat → zS → Prop} {μ : zM} (C : zJ G true (4) 0 0 mX11_picture (zKI F) J) (x1 : Int) (x2 : Int) (x3 : Int) (x5 : Int)
    (h : zin x5 ∧ ((64 ≤ x5 → F x1 (zup (zup μ 154 702 x2) 154 703 x3)) ∧ (¬ (64 ≤ x5) → zin x1 ∧ ((x1 ≤ x5 → (0 ≤ 638 + x5 ∧ 638 + x5 < 711) ∧ J 244 ([some (zR (some 153)), some (zI x1), some (zI x2), some (zI x3), none, some (zI (x5 + 1)), none], [], zup μ 154 (638 + x5) 0, 0, 0)) ∧ (¬ (x1 ≤ x5) → (0 ≤ x5 ∧ x5 < 320) ∧ (0 ≤ 638 + x5 ∧ 638 + x5 < 711) ∧ J 244 ([some (zR (some 153)), some (zI x1), some (zI x2), some (zI x3), none, some (zI (x5 + 1)), none], [], zup μ 154 (638 + x5) (zi μ 157 x5), 0, 0)))))) : J 244 ([some (zR (some 153)), some (zI x1), some (zI x2), some (zI x3), none, some (zI x5), none], [], μ, 0, 0) := by
  obtain ⟨p, e, s, m, args, below, meth, c, A, hml, hr, hlk, hnm, rfl⟩ := C
  refine s_iload A dX11_picture_244 rfl ?_
  refine s_bipush A dX11_picture_246 rfl ?_
  obtain ⟨oz1, h⟩ := h
  refine z_icmp_ge (tgt := 285) A dX11_picture_248 (by decide) oz1 ⟨by decide, by decide⟩ (fun c2 => ?_) (fun c2 => ?_)
  · have h := h.1 c2
    refine s_aload_n A dX11_picture_285 rfl ?_
    refine s_getf (k := 11) (j := 0) (sl := true) (v := zR (some 154)) A dX11_picture_286 rfl zuw_X11 (Nat.le_of_ble_eq_true rfl) zwd1308 (by decide) (zk_153 _) rfl ?_
    refine s_sipush A dX11_picture_289 rfl ?_
    refine s_iload_n A dX11_picture_292 rfl ?_
    refine z_iast A dX11_picture_293 (zk_154 _) (Nat.le_of_ble_eq_true rfl) ⟨by decide, by decide⟩ ?_
    refine s_aload_n A dX11_picture_294 rfl ?_
    refine s_getf (k := 11) (j := 0) (sl := true) (v := zR (some 154)) A dX11_picture_295 rfl zuw_X11 (Nat.le_of_ble_eq_true rfl) zwd1308 (by decide) (zk_153 _) rfl ?_
    refine s_sipush A dX11_picture_298 rfl ?_
    refine s_iload_n A dX11_picture_301 rfl ?_
    refine z_iast A dX11_picture_302 (zk_154 _) (Nat.le_of_ble_eq_true rfl) ⟨by decide, by decide⟩ ?_
    refine s_iload_n A dX11_picture_303 rfl ?_
    exact s_iret A dX11_picture_304 hr hlk (Nat.le_of_ble_eq_true rfl) (Nat.le_of_ble_eq_true rfl) ⟨_, rfl, h⟩
  · have h := h.2 c2
    refine s_aload_n A dX11_picture_251 rfl ?_
    refine s_getf (k := 11) (j := 0) (sl := true) (v := zR (some 154)) A dX11_picture_252 rfl zuw_X11 (Nat.le_of_ble_eq_true rfl) zwd1308 (by decide) (zk_153 _) rfl ?_
    refine s_sipush A dX11_picture_255 rfl ?_
    refine s_iload A dX11_picture_258 rfl ?_
    refine s_iadd A dX11_picture_260 ?_
    refine s_iload A dX11_picture_261 rfl ?_
    refine s_iload_n A dX11_picture_263 rfl ?_
    obtain ⟨oz3, h⟩ := h
    refine z_icmp_ge (tgt := 277) A dX11_picture_264 (by decide) oz1 oz3 (fun c4 => ?_) (fun c4 => ?_)
    · have h := h.1 c4
      refine s_iconst A dX11_picture_277 ?_
      obtain ⟨ox5, h⟩ := h
      refine z_iast A dX11_picture_278 (zk_154 _) (Nat.le_of_ble_eq_true rfl) ox5 ?_
      refine s_iinc (L' := [some (zR (some 153)), some (zI x1), some (zI x2), some (zI x3), none, some (zI (x5 + 1)), none]) A dX11_picture_279 rfl rfl ?_
      refine s_goto (tgt := 244) A dX11_picture_282 (by decide) ?_
      exact h
    · have h := h.2 c4
      refine s_aload_n A dX11_picture_267 rfl ?_
      refine s_getf (k := 11) (j := 10) (sl := true) (v := zR (some 157)) A dX11_picture_268 rfl zuw_X11 (Nat.le_of_ble_eq_true rfl) zwd1318 (by decide) (zk_153 _) rfl ?_
      refine s_iload A dX11_picture_271 rfl ?_
      obtain ⟨ox6, h⟩ := h
      refine z_iald A dX11_picture_273 (zk_157 _) (Nat.le_of_ble_eq_true rfl) ox6 ?_
      refine s_goto (tgt := 278) A dX11_picture_274 (by decide) ?_
      obtain ⟨ox7, h⟩ := h
      refine z_iast A dX11_picture_278 (zk_154 _) (Nat.le_of_ble_eq_true rfl) ox7 ?_
      refine s_iinc (L' := [some (zR (some 153)), some (zI x1), some (zI x2), some (zI x3), none, some (zI (x5 + 1)), none]) A dX11_picture_279 rfl rfl ?_
      refine s_goto (tgt := 244) A dX11_picture_282 (by decide) ?_
      exact h
theorem eX11_picture {G : zG} {F : Int → zM → Prop} {μ : zM}  (h : ∀ J, zJ G true (4) 0 0 mX11_picture (zKI F) J → J 0 ([some (zR (some 153)), none, none, none, none, none, none], [], μ, 0, 0)) : qX11_picture G  μ F :=
  z_body (by decide +kernel) (Nat.le_of_ble_eq_true rfl) h
