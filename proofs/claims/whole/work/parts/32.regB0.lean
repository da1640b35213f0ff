set_option maxRecDepth 20000 in
theorem rX10_levelOf_e {G : zG} {ph : Bool} {F : Int → zM → Prop} {J : Nat → zS → Prop} {μ : zM} (C : zJ G ph (0) 0 0 mX10_levelOf (zKI F) J) (x0 : Int) (x1 : Int)
    (h : (0 ≤ x1 ∧ x1 < 4) ∧ (0 ≤ x0 ∧ x0 < 2147483648) ∧ (0 < zta 2 x1 ∧ zta 2 x1 < 2147483648) ∧ (0 ≤ x0 / (zta 2 x1) ∧ x0 / (zta 2 x1) < 2147483648) ∧ F ((x0 / (zta 2 x1)) % 3) μ) : J 0 ([some (zI x0), some (zI x1)], [], μ, 0, 0) := by
  obtain ⟨p, e, s, m, args, below, meth, c, A, hml, hr, hlk, hnm, rfl⟩ := C
  refine s_iload_n A dX10_levelOf_0 rfl ?_
  refine s_getsT (t := 2) A dX10_levelOf_1 (by decide) zwd607 ?_
  refine s_iload_n A dX10_levelOf_4 rfl ?_
  obtain ⟨ox1, h⟩ := h
  refine z_tald A dX10_levelOf_5 (by decide) (Nat.le_of_ble_eq_true rfl) ox1 ?_
  obtain ⟨o1, h⟩ := h
  obtain ⟨o2, h⟩ := h
  refine z_idiv A dX10_levelOf_6 o1 o2 ?_
  refine s_iconst A dX10_levelOf_7 ?_
  obtain ⟨o1, h⟩ := h
  refine z_irem A dX10_levelOf_8 o1 ⟨by decide, by decide⟩ ?_
  exact s_iret A dX10_levelOf_9 hr hlk (Nat.le_of_ble_eq_true rfl) (Nat.le_of_ble_eq_true rfl) ⟨_, rfl, h⟩
theorem eX10_levelOf {G : zG} {ph : Bool} {F : Int → zM → Prop} {μ : zM} {x0 : Int} {x1 : Int} (h : ∀ J, zJ G ph (0) 0 0 mX10_levelOf (zKI F) J → J 0 ([some (zI x0), some (zI x1)], [], μ, 0, 0)) : qX10_levelOf G ph x0 x1 μ F :=
  z_body (by decide +kernel) (Nat.le_of_ble_eq_true rfl) h
set_option maxRecDepth 20000 in
theorem rX10_isPlain_e {G : zG} {ph : Bool} {F : Int → zM → Prop} {J : Nat → zS → Prop} {μ : zM} (C : zJ G ph (2) 0 0 mX10_isPlain (zKI F) J) (x0 : Int)
    (h : J 4 ([some (zI x0), some (zI 0), some (zI 0)], [], μ, 0, 0)) : J 0 ([some (zI x0), none, none], [], μ, 0, 0) := by
  obtain ⟨p, e, s, m, args, below, meth, c, A, hml, hr, hlk, hnm, rfl⟩ := C
  refine s_iconst A dX10_isPlain_0 ?_
  refine s_istore_n (L' := [some (zI x0), some (zI 0), none]) A dX10_isPlain_1 (Nat.le_of_ble_eq_true rfl) rfl ?_
  refine s_iconst A dX10_isPlain_2 ?_
  refine s_istore_n (L' := [some (zI x0), some (zI 0), some (zI 0)]) A dX10_isPlain_3 (Nat.le_of_ble_eq_true rfl) rfl ?_
  exact h
set_option maxRecDepth 20000 in
theorem rX10_isPlain_4 {G : zG} {ph : Bool} {F : Int → zM → Prop} {J : Nat → zS → Prop} {μ : zM} (C : zJ G ph (2) 0 0 mX10_isPlain (zKI F) J) (x0 : Int) (x1 : Int) (x2 : Int)
    (h : zin x2 ∧ ((4 ≤ x2 → zin x1 ∧ ((1 < x1 → F 0 μ) ∧ (¬ (1 < x1) → F 1 μ))) ∧ (¬ (4 ≤ x2) → qX10_levelOf G ph x0 x2 μ (fun v5 μ5 => zin v5 ∧ ((v5 ≤ 0 → J 4 ([some (zI x0), some (zI x1), some (zI (x2 + 1))], [], μ5, 0, 0)) ∧ (¬ (v5 ≤ 0) → J 4 ([some (zI x0), some (zI (x1 + 1)), some (zI (x2 + 1))], [], μ5, 0, 0))))))) : J 4 ([some (zI x0), some (zI x1), some (zI x2)], [], μ, 0, 0) := by
  obtain ⟨p, e, s, m, args, below, meth, c, A, hml, hr, hlk, hnm, rfl⟩ := C
  refine s_iload_n A dX10_isPlain_4 rfl ?_
  refine s_iconst A dX10_isPlain_5 ?_
  obtain ⟨oz1, h⟩ := h
  refine z_icmp_ge (tgt := 26) A dX10_isPlain_6 (by decide) oz1 ⟨by decide, by decide⟩ (fun c2 => ?_) (fun c2 => ?_)
  · have h := h.1 c2
    refine s_iload_n A dX10_isPlain_26 rfl ?_
    refine s_iconst A dX10_isPlain_27 ?_
    obtain ⟨oz3, h⟩ := h
    refine z_icmp_gt (tgt := 35) A dX10_isPlain_28 (by decide) oz3 ⟨by decide, by decide⟩ (fun c4 => ?_) (fun c4 => ?_)
    · have h := h.1 c4
      refine s_iconst A dX10_isPlain_35 ?_
      exact s_zret A dX10_isPlain_36 hr hlk (Nat.le_of_ble_eq_true rfl) (Nat.le_of_ble_eq_true rfl) (Or.inl rfl) ⟨_, rfl, h⟩
    · have h := h.2 c4
      refine s_iconst A dX10_isPlain_31 ?_
      refine s_goto (tgt := 36) A dX10_isPlain_32 (by decide) ?_
      exact s_zret A dX10_isPlain_36 hr hlk (Nat.le_of_ble_eq_true rfl) (Nat.le_of_ble_eq_true rfl) (Or.inr rfl) ⟨_, rfl, h⟩
  · have h := h.2 c2
    refine s_iload_n A dX10_isPlain_9 rfl ?_
    refine s_iload_n A dX10_isPlain_10 rfl ?_
    refine s_callS (M := mX10_levelOf) (n := 2) (d := 0) (mc := 0) (ms := 0) (av := [zI x0, zI x2]) (st := []) A dX10_isPlain_11 zwd604 zwd605 zwd89 zcd_X10_levelOf (Nat.le_of_ble_eq_true rfl) (Nat.le_of_ble_eq_true rfl) (Nat.le_refl _) ⟨Nat.le_of_ble_eq_true rfl, Nat.le_of_ble_eq_true rfl⟩ zhn_X10_levelOf rfl (Nat.le_of_ble_eq_true rfl) rfl (z_contI (fun v5 μ5 h => ?_) h)
    obtain ⟨oz6, h⟩ := h
    refine z_if_le (tgt := 20) A dX10_isPlain_14 (by decide) oz6 (fun c7 => ?_) (fun c7 => ?_)
    · have h := h.1 c7
      refine s_iinc (L' := [some (zI x0), some (zI x1), some (zI (x2 + 1))]) A dX10_isPlain_20 rfl rfl ?_
      refine s_goto (tgt := 4) A dX10_isPlain_23 (by decide) ?_
      exact h
    · have h := h.2 c7
      refine s_iinc (L' := [some (zI x0), some (zI (x1 + 1)), some (zI x2)]) A dX10_isPlain_17 rfl rfl ?_
      refine s_iinc (L' := [some (zI x0), some (zI (x1 + 1)), some (zI (x2 + 1))]) A dX10_isPlain_20 rfl rfl ?_
      refine s_goto (tgt := 4) A dX10_isPlain_23 (by decide) ?_
      exact h
theorem eX10_isPlain {G : zG} {ph : Bool} {F : Int → zM → Prop} {μ : zM} {x0 : Int} (h : ∀ J, zJ G ph (2) 0 0 mX10_isPlain (zKI F) J → J 0 ([some (zI x0), none, none], [], μ, 0, 0)) : qX10_isPlain G ph x0 μ F :=
  z_body (by decide +kernel) (Nat.le_of_ble_eq_true rfl) h
set_option maxRecDepth 20000 in
theorem rX10_amountOf_e {G : zG} {ph : Bool} {F : Int → zM → Prop} {J : Nat → zS → Prop} {μ : zM} (C : zJ G ph (0) 0 0 mX10_amountOf (zKI F) J) (x0 : Int) (x1 : Int)
    (h : (0 ≤ x1 ∧ x1 < 4) ∧ (0 ≤ x0 ∧ x0 < 2147483648) ∧ (0 < zta 1 x1 ∧ zta 1 x1 < 2147483648) ∧ (0 ≤ x0 / (zta 1 x1) ∧ x0 / (zta 1 x1) < 2147483648) ∧ F ((x0 / (zta 1 x1)) % 9) μ) : J 0 ([some (zI x0), some (zI x1)], [], μ, 0, 0) := by
  obtain ⟨p, e, s, m, args, below, meth, c, A, hml, hr, hlk, hnm, rfl⟩ := C
  refine s_iload_n A dX10_amountOf_0 rfl ?_
  refine s_getsT (t := 1) A dX10_amountOf_1 (by decide) zwd811 ?_
  refine s_iload_n A dX10_amountOf_4 rfl ?_
  obtain ⟨ox1, h⟩ := h
  refine z_tald A dX10_amountOf_5 (by decide) (Nat.le_of_ble_eq_true rfl) ox1 ?_
  obtain ⟨o1, h⟩ := h
  obtain ⟨o2, h⟩ := h
  refine z_idiv A dX10_amountOf_6 o1 o2 ?_
  refine s_bipush A dX10_amountOf_7 rfl ?_
  obtain ⟨o1, h⟩ := h
  refine z_irem A dX10_amountOf_9 o1 ⟨by decide, by decide⟩ ?_
  exact s_iret A dX10_amountOf_10 hr hlk (Nat.le_of_ble_eq_true rfl) (Nat.le_of_ble_eq_true rfl) ⟨_, rfl, h⟩
theorem eX10_amountOf {G : zG} {ph : Bool} {F : Int → zM → Prop} {μ : zM} {x0 : Int} {x1 : Int} (h : ∀ J, zJ G ph (0) 0 0 mX10_amountOf (zKI F) J → J 0 ([some (zI x0), some (zI x1)], [], μ, 0, 0)) : qX10_amountOf G ph x0 x1 μ F :=
  z_body (by decide +kernel) (Nat.le_of_ble_eq_true rfl) h
set_option maxRecDepth 20000 in
theorem rX10_totalOf_e {G : zG} {ph : Bool} {F : Int → zM → Prop} {J : Nat → zS → Prop} {μ : zM} (C : zJ G ph (0) 0 0 mX10_totalOf (zKI F) J) (x0 : Int)
    (h : (0 ≤ x0 ∧ x0 < 2147483648) ∧ (0 ≤ x0 ∧ x0 < 2147483648) ∧ (0 ≤ x0 / 81 ∧ x0 / 81 < 2147483648) ∧ (0 ≤ x0 ∧ x0 < 2147483648) ∧ (0 ≤ x0 / 9 ∧ x0 / 9 < 2147483648) ∧ (0 ≤ x0 ∧ x0 < 2147483648) ∧ F ((((x0 / 729) + ((x0 / 81) % 9)) + ((x0 / 9) % 9)) + (x0 % 9)) μ) : J 0 ([some (zI x0)], [], μ, 0, 0) := by
  obtain ⟨p, e, s, m, args, below, meth, c, A, hml, hr, hlk, hnm, rfl⟩ := C
  refine s_iload_n A dX10_totalOf_0 rfl ?_
  refine s_sipush A dX10_totalOf_1 rfl ?_
  obtain ⟨o1, h⟩ := h
  refine z_idiv A dX10_totalOf_4 o1 ⟨by decide, by decide⟩ ?_
  refine s_iload_n A dX10_totalOf_5 rfl ?_
  refine s_bipush A dX10_totalOf_6 rfl ?_
  obtain ⟨o1, h⟩ := h
  refine z_idiv A dX10_totalOf_8 o1 ⟨by decide, by decide⟩ ?_
  refine s_bipush A dX10_totalOf_9 rfl ?_
  obtain ⟨o1, h⟩ := h
  refine z_irem A dX10_totalOf_11 o1 ⟨by decide, by decide⟩ ?_
  refine s_iadd A dX10_totalOf_12 ?_
  refine s_iload_n A dX10_totalOf_13 rfl ?_
  refine s_bipush A dX10_totalOf_14 rfl ?_
  obtain ⟨o1, h⟩ := h
  refine z_idiv A dX10_totalOf_16 o1 ⟨by decide, by decide⟩ ?_
  refine s_bipush A dX10_totalOf_17 rfl ?_
  obtain ⟨o1, h⟩ := h
  refine z_irem A dX10_totalOf_19 o1 ⟨by decide, by decide⟩ ?_
  refine s_iadd A dX10_totalOf_20 ?_
  refine s_iload_n A dX10_totalOf_21 rfl ?_
  refine s_bipush A dX10_totalOf_22 rfl ?_
  obtain ⟨o1, h⟩ := h
  refine z_irem A dX10_totalOf_24 o1 ⟨by decide, by decide⟩ ?_
  refine s_iadd A dX10_totalOf_25 ?_
  exact s_iret A dX10_totalOf_26 hr hlk (Nat.le_of_ble_eq_true rfl) (Nat.le_of_ble_eq_true rfl) ⟨_, rfl, h⟩
theorem eX10_totalOf {G : zG} {ph : Bool} {F : Int → zM → Prop} {μ : zM} {x0 : Int} (h : ∀ J, zJ G ph (0) 0 0 mX10_totalOf (zKI F) J → J 0 ([some (zI x0)], [], μ, 0, 0)) : qX10_totalOf G ph x0 μ F :=
  z_body (by decide +kernel) (Nat.le_of_ble_eq_true rfl) h
set_option maxRecDepth 20000 in
theorem rX10_put_e {G : zG} {ph : Bool} {F : Int → zM → Prop} {J : Nat → zS → Prop} {μ : zM} (C : zJ G ph (8) 0 0 mX10_put (zKI F) J) (x0 : Int) (x1 : Int)
    (h : zin x0 ∧ zin x1 ∧ zin (min x0 x1) ∧ F (max 0 (min x0 x1)) μ) : J 0 ([some (zI x0), some (zI x1)], [], μ, 0, 0) := by
  obtain ⟨p, e, s, m, args, below, meth, c, A, hml, hr, hlk, hnm, rfl⟩ := C
  refine s_iconst A dX10_put_0 ?_
  refine s_iload_n A dX10_put_1 rfl ?_
  refine s_iload_n A dX10_put_2 rfl ?_
  obtain ⟨oz1, h⟩ := h
  obtain ⟨oz2, h⟩ := h
  refine z_mmin A dX10_put_3 zwd735 zwd509 zwd105 zwd510 (Nat.le_of_ble_eq_true rfl) (Nat.le_of_ble_eq_true rfl) ⟨Nat.le_of_ble_eq_true rfl, Nat.le_of_ble_eq_true rfl⟩ oz1 oz2 ?_
  obtain ⟨oz3, h⟩ := h
  refine z_mmax A dX10_put_6 zwd736 zwd506 zwd105 zwd507 (Nat.le_of_ble_eq_true rfl) (Nat.le_of_ble_eq_true rfl) ⟨Nat.le_of_ble_eq_true rfl, Nat.le_of_ble_eq_true rfl⟩ ⟨by decide, by decide⟩ oz3 ?_
  exact s_iret A dX10_put_9 hr hlk (Nat.le_of_ble_eq_true rfl) (Nat.le_of_ble_eq_true rfl) ⟨_, rfl, h⟩
theorem eX10_put {G : zG} {ph : Bool} {F : Int → zM → Prop} {μ : zM} {x0 : Int} {x1 : Int} (h : ∀ J, zJ G ph (8) 0 0 mX10_put (zKI F) J → J 0 ([some (zI x0), some (zI x1)], [], μ, 0, 0)) : qX10_put G ph x0 x1 μ F :=
  z_body (by decide +kernel) (Nat.le_of_ble_eq_true rfl) h
set_option maxRecDepth 20000 in
theorem rX10_isIn_e {G : zG} {ph : Bool} {F : Int → zM → Prop} {J : Nat → zS → Prop} {μ : zM} (C : zJ G ph (0) 0 0 mX10_isIn (zKI F) J) (x0 : Int) (x1 : Int) (x2 : Int)
    (h : zin x0 ∧ zin x1 ∧ ((x0 < x1 → F 0 μ) ∧ (¬ (x0 < x1) → zin x2 ∧ ((x2 < x0 → F 0 μ) ∧ (¬ (x2 < x0) → F 1 μ))))) : J 0 ([some (zI x0), some (zI x1), some (zI x2)], [], μ, 0, 0) := by
  obtain ⟨p, e, s, m, args, below, meth, c, A, hml, hr, hlk, hnm, rfl⟩ := C
  refine s_iload_n A dX10_isIn_0 rfl ?_
  refine s_iload_n A dX10_isIn_1 rfl ?_
  obtain ⟨oz1, h⟩ := h
  obtain ⟨oz2, h⟩ := h
  refine z_icmp_lt (tgt := 14) A dX10_isIn_2 (by decide) oz1 oz2 (fun c3 => ?_) (fun c3 => ?_)
  · have h := h.1 c3
    refine s_iconst A dX10_isIn_14 ?_
    exact s_zret A dX10_isIn_15 hr hlk (Nat.le_of_ble_eq_true rfl) (Nat.le_of_ble_eq_true rfl) (Or.inl rfl) ⟨_, rfl, h⟩
  · have h := h.2 c3
    refine s_iload_n A dX10_isIn_5 rfl ?_
    refine s_iload_n A dX10_isIn_6 rfl ?_
    obtain ⟨oz4, h⟩ := h
    refine z_icmp_gt (tgt := 14) A dX10_isIn_7 (by decide) oz1 oz4 (fun c5 => ?_) (fun c5 => ?_)
    · have h := h.1 c5
      refine s_iconst A dX10_isIn_14 ?_
      exact s_zret A dX10_isIn_15 hr hlk (Nat.le_of_ble_eq_true rfl) (Nat.le_of_ble_eq_true rfl) (Or.inl rfl) ⟨_, rfl, h⟩
    · have h := h.2 c5
      refine s_iconst A dX10_isIn_10 ?_
      refine s_goto (tgt := 15) A dX10_isIn_11 (by decide) ?_
      exact s_zret A dX10_isIn_15 hr hlk (Nat.le_of_ble_eq_true rfl) (Nat.le_of_ble_eq_true rfl) (Or.inr rfl) ⟨_, rfl, h⟩
theorem eX10_isIn {G : zG} {ph : Bool} {F : Int → zM → Prop} {μ : zM} {x0 : Int} {x1 : Int} {x2 : Int} (h : ∀ J, zJ G ph (0) 0 0 mX10_isIn (zKI F) J → J 0 ([some (zI x0), some (zI x1), some (zI x2)], [], μ, 0, 0)) : qX10_isIn G ph x0 x1 x2 μ F :=
  z_body (by decide +kernel) (Nat.le_of_ble_eq_true rfl) h
set_option maxRecDepth 20000 in
theorem rX10_isPatch_e {G : zG} {ph : Bool} {F : Int → zM → Prop} {J : Nat → zS → Prop} {μ : zM} (C : zJ G ph (2) 0 0 mX10_isPatch (zKI F) J) (x0 : Int)
    (h : qX10_isIn G ph x0 0 80 μ (fun v1 μ1 => (v1 = 0 ∨ v1 = 1) ∧ F v1 μ1)) : J 0 ([some (zI x0)], [], μ, 0, 0) := by
  obtain ⟨p, e, s, m, args, below, meth, c, A, hml, hr, hlk, hnm, rfl⟩ := C
  refine s_iload_n A dX10_isPatch_0 rfl ?_
  refine s_iconst A dX10_isPatch_1 ?_
  refine s_bipush A dX10_isPatch_2 rfl ?_
  refine s_callS (M := mX10_isIn) (n := 3) (d := 0) (mc := 0) (ms := 0) (av := [zI x0, zI 0, zI 80]) (st := []) A dX10_isPatch_4 zwd597 zwd598 zwd89 zcd_X10_isIn (Nat.le_of_ble_eq_true rfl) (Nat.le_of_ble_eq_true rfl) (Nat.le_refl _) ⟨Nat.le_of_ble_eq_true rfl, Nat.le_of_ble_eq_true rfl⟩ zhn_X10_isIn rfl (Nat.le_of_ble_eq_true rfl) rfl (z_contI (fun v1 μ1 h => ?_) h)
  obtain ⟨o1, h⟩ := h
  exact s_zret A dX10_isPatch_7 hr hlk (Nat.le_of_ble_eq_true rfl) (Nat.le_of_ble_eq_true rfl) o1 ⟨_, rfl, h⟩
theorem eX10_isPatch {G : zG} {ph : Bool} {F : Int → zM → Prop} {μ : zM} {x0 : Int} (h : ∀ J, zJ G ph (2) 0 0 mX10_isPatch (zKI F) J → J 0 ([some (zI x0)], [], μ, 0, 0)) : qX10_isPatch G ph x0 μ F :=
  z_body (by decide +kernel) (Nat.le_of_ble_eq_true rfl) h
set_option maxRecDepth 20000 in
theorem rX10_isColour_e {G : zG} {ph : Bool} {F : Int → zM → Prop} {J : Nat → zS → Prop} {μ : zM} (C : zJ G ph (2) 0 0 mX10_isColour (zKI F) J) (x0 : Int) (x1 : Int) (x2 : Int)
    (h : qX10_isIn G ph x0 0 400 μ (fun v1 μ1 => zin v1 ∧ ((v1 = 0 → F 0 μ1) ∧ (¬ (v1 = 0) → qX10_isIn G ph x1 0 400 μ1 (fun v4 μ4 => zin v4 ∧ ((v4 = 0 → F 0 μ4) ∧ (¬ (v4 = 0) → qX10_isIn G ph x2 0 400 μ4 (fun v7 μ7 => zin v7 ∧ ((v7 = 0 → F 0 μ7) ∧ (¬ (v7 = 0) → F 1 μ7)))))))))) : J 0 ([some (zI x0), some (zI x1), some (zI x2)], [], μ, 0, 0) := by
  obtain ⟨p, e, s, m, args, below, meth, c, A, hml, hr, hlk, hnm, rfl⟩ := C
  refine s_iload_n A dX10_isColour_0 rfl ?_
  refine s_iconst A dX10_isColour_1 ?_
  refine s_sipush A dX10_isColour_2 rfl ?_
  refine s_callS (M := mX10_isIn) (n := 3) (d := 0) (mc := 0) (ms := 0) (av := [zI x0, zI 0, zI 400]) (st := []) A dX10_isColour_5 zwd597 zwd598 zwd89 zcd_X10_isIn (Nat.le_of_ble_eq_true rfl) (Nat.le_of_ble_eq_true rfl) (Nat.le_refl _) ⟨Nat.le_of_ble_eq_true rfl, Nat.le_of_ble_eq_true rfl⟩ zhn_X10_isIn rfl (Nat.le_of_ble_eq_true rfl) rfl (z_contI (fun v1 μ1 h => ?_) h)
  obtain ⟨oz2, h⟩ := h
  refine z_if_eq (tgt := 37) A dX10_isColour_8 (by decide) oz2 (fun c3 => ?_) (fun c3 => ?_)
  · have h := h.1 c3
    refine s_iconst A dX10_isColour_37 ?_
    exact s_zret A dX10_isColour_38 hr hlk (Nat.le_of_ble_eq_true rfl) (Nat.le_of_ble_eq_true rfl) (Or.inl rfl) ⟨_, rfl, h⟩
  · have h := h.2 c3
    refine s_iload_n A dX10_isColour_11 rfl ?_
    refine s_iconst A dX10_isColour_12 ?_
    refine s_sipush A dX10_isColour_13 rfl ?_
    refine s_callS (M := mX10_isIn) (n := 3) (d := 0) (mc := 0) (ms := 0) (av := [zI x1, zI 0, zI 400]) (st := []) A dX10_isColour_16 zwd597 zwd598 zwd89 zcd_X10_isIn (Nat.le_of_ble_eq_true rfl) (Nat.le_of_ble_eq_true rfl) (Nat.le_refl _) ⟨Nat.le_of_ble_eq_true rfl, Nat.le_of_ble_eq_true rfl⟩ zhn_X10_isIn rfl (Nat.le_of_ble_eq_true rfl) rfl (z_contI (fun v4 μ4 h => ?_) h)
    obtain ⟨oz5, h⟩ := h
    refine z_if_eq (tgt := 37) A dX10_isColour_19 (by decide) oz5 (fun c6 => ?_) (fun c6 => ?_)
    · have h := h.1 c6
      refine s_iconst A dX10_isColour_37 ?_
      exact s_zret A dX10_isColour_38 hr hlk (Nat.le_of_ble_eq_true rfl) (Nat.le_of_ble_eq_true rfl) (Or.inl rfl) ⟨_, rfl, h⟩
    · have h := h.2 c6
      refine s_iload_n A dX10_isColour_22 rfl ?_
      refine s_iconst A dX10_isColour_23 ?_
      refine s_sipush A dX10_isColour_24 rfl ?_
      refine s_callS (M := mX10_isIn) (n := 3) (d := 0) (mc := 0) (ms := 0) (av := [zI x2, zI 0, zI 400]) (st := []) A dX10_isColour_27 zwd597 zwd598 zwd89 zcd_X10_isIn (Nat.le_of_ble_eq_true rfl) (Nat.le_of_ble_eq_true rfl) (Nat.le_refl _) ⟨Nat.le_of_ble_eq_true rfl, Nat.le_of_ble_eq_true rfl⟩ zhn_X10_isIn rfl (Nat.le_of_ble_eq_true rfl) rfl (z_contI (fun v7 μ7 h => ?_) h)
      obtain ⟨oz8, h⟩ := h
      refine z_if_eq (tgt := 37) A dX10_isColour_30 (by decide) oz8 (fun c9 => ?_) (fun c9 => ?_)
      · have h := h.1 c9
        refine s_iconst A dX10_isColour_37 ?_
        exact s_zret A dX10_isColour_38 hr hlk (Nat.le_of_ble_eq_true rfl) (Nat.le_of_ble_eq_true rfl) (Or.inl rfl) ⟨_, rfl, h⟩
      · have h := h.2 c9
        refine s_iconst A dX10_isColour_33 ?_
        refine s_goto (tgt := 38) A dX10_isColour_34 (by decide) ?_
        exact s_zret A dX10_isColour_38 hr hlk (Nat.le_of_ble_eq_true rfl) (Nat.le_of_ble_eq_true rfl) (Or.inr rfl) ⟨_, rfl, h⟩
theorem eX10_isColour {G : zG} {ph : Bool} {F : Int → zM → Prop} {μ : zM} {x0 : Int} {x1 : Int} {x2 : Int} (h : ∀ J, zJ G ph (2) 0 0 mX10_isColour (zKI F) J → J 0 ([some (zI x0), some (zI x1), some (zI x2)], [], μ, 0, 0)) : qX10_isColour G ph x0 x1 x2 μ F :=
  z_body (by decide +kernel) (Nat.le_of_ble_eq_true rfl) h
set_option maxRecDepth 20000 in
theorem rX10_init_e {G : zG} {F : zM → Prop} {J : Nat → zS → Prop} {μ : zM} (C : zJ G false (5) 152 80087 mX10_init (zKV F) J) 
    (h : zs false (znew μ (9, 2)) (zn μ) = (9, 2) ∧ ∀ b1 μ1, b1 = zn μ → μ1 = znew μ (9, 2) → qX9_init G b1 μ1 (fun μ2 => zok false μ2 0 (10, 15) ∧ zs false (znew (zupr μ2 0 0 (some b1)) (6, 2)) (zn (zupr μ2 0 0 (some b1))) = (6, 2) ∧ ∀ b4 μ4, b4 = zn (zupr μ2 0 0 (some b1)) → μ4 = znew (zupr μ2 0 0 (some b1)) (6, 2) → qX6_init G b4 μ4 (fun μ5 => zok false μ5 0 (10, 15) ∧ zs false (znew (zupr μ5 0 1 (some b4)) (7, 9)) (zn (zupr μ5 0 1 (some b4))) = (7, 9) ∧ ∀ b7 μ7, b7 = zn (zupr μ5 0 1 (some b4)) → μ7 = znew (zupr μ5 0 1 (some b4)) (7, 9) → qX7_init G b7 μ7 (fun μ8 => zok false μ8 0 (10, 15) ∧ zs false (znew (zupr μ8 0 2 (some b7)) (1, 3)) (zn (zupr μ8 0 2 (some b7))) = (1, 3) ∧ ∀ b10 μ10, b10 = zn (zupr μ8 0 2 (some b7)) → μ10 = znew (zupr μ8 0 2 (some b7)) (1, 3) → qX1_init G b10 μ10 (fun μ11 => zok false μ11 0 (10, 15) ∧ zs false (znew (zupr μ11 0 3 (some b10)) (44, 2)) (zn (zupr μ11 0 3 (some b10))) = (44, 2) ∧ ∀ b13 μ13, b13 = zn (zupr μ11 0 3 (some b10)) → μ13 = znew (zupr μ11 0 3 (some b10)) (44, 2) → zok false μ13 0 (10, 15) ∧ zs false (znew (zupr μ13 0 4 (some b13)) (42, 2)) (zn (zupr μ13 0 4 (some b13))) = (42, 2) ∧ ∀ b15 μ15, b15 = zn (zupr μ13 0 4 (some b13)) → μ15 = znew (zupr μ13 0 4 (some b13)) (42, 2) → zok false μ15 0 (10, 15) ∧ zs false (znew (zupr μ15 0 5 (some b15)) (0, 5)) (zn (zupr μ15 0 5 (some b15))) = (0, 5) ∧ ∀ b17 μ17, b17 = zn (zupr μ15 0 5 (some b15)) → μ17 = znew (zupr μ15 0 5 (some b15)) (0, 5) → qX0_init G b17 μ17 (fun μ18 => zok false μ18 0 (10, 15) ∧ zs false (znew (zupr μ18 0 6 (some b17)) (7, 9)) (zn (zupr μ18 0 6 (some b17))) = (7, 9) ∧ ∀ b20 μ20, b20 = zn (zupr μ18 0 6 (some b17)) → μ20 = znew (zupr μ18 0 6 (some b17)) (7, 9) → qX7_init G b20 μ20 (fun μ21 => zok false μ21 0 (10, 15) ∧ zs false (znew (zupr μ21 0 7 (some b20)) (0, 5)) (zn (zupr μ21 0 7 (some b20))) = (0, 5) ∧ ∀ b23 μ23, b23 = zn (zupr μ21 0 7 (some b20)) → μ23 = znew (zupr μ21 0 7 (some b20)) (0, 5) → qX0_init G b23 μ23 (fun μ24 => zok false μ24 0 (10, 15) ∧ zs false (znew (zupr μ24 0 8 (some b23)) (4, 9)) (zn (zupr μ24 0 8 (some b23))) = (4, 9) ∧ ∀ b26 μ26, b26 = zn (zupr μ24 0 8 (some b23)) → μ26 = znew (zupr μ24 0 8 (some b23)) (4, 9) → qX4_init G b26 μ26 (fun μ27 => zok false μ27 0 (10, 15) ∧ zs false (znew (zupr μ27 0 9 (some b26)) (2, 1)) (zn (zupr μ27 0 9 (some b26))) = (2, 1) ∧ ∀ b29 μ29, b29 = zn (zupr μ27 0 9 (some b26)) → μ29 = znew (zupr μ27 0 9 (some b26)) (2, 1) → qX2_init G b29 μ29 (fun μ30 => zok false μ30 0 (10, 15) ∧ zs false (znew (zupr μ30 0 10 (some b29)) (5, 3)) (zn (zupr μ30 0 10 (some b29))) = (5, 3) ∧ ∀ b32 μ32, b32 = zn (zupr μ30 0 10 (some b29)) → μ32 = znew (zupr μ30 0 10 (some b29)) (5, 3) → qX5_init G b32 μ32 (fun μ33 => zok false μ33 0 (10, 15) ∧ zs false (znew (zupr μ33 0 11 (some b32)) (40, 6561)) (zn (zupr μ33 0 11 (some b32))) = (40, 6561) ∧ ∀ b35 μ35, b35 = zn (zupr μ33 0 11 (some b32)) → μ35 = znew (zupr μ33 0 11 (some b32)) (40, 6561) → zok false μ35 0 (10, 15) ∧ zs false (znew (zupr μ35 0 12 (some b35)) (40, 6561)) (zn (zupr μ35 0 12 (some b35))) = (40, 6561) ∧ ∀ b37 μ37, b37 = zn (zupr μ35 0 12 (some b35)) → μ37 = znew (zupr μ35 0 12 (some b35)) (40, 6561) → zok false μ37 0 (10, 15) ∧ zs false (znew (zupr μ37 0 13 (some b37)) (40, 6561)) (zn (zupr μ37 0 13 (some b37))) = (40, 6561) ∧ ∀ b39 μ39, b39 = zn (zupr μ37 0 13 (some b37)) → μ39 = znew (zupr μ37 0 13 (some b37)) (40, 6561) → zok false μ39 0 (10, 15) ∧ J 158 ([some (zR (some 0)), some (zI 0)], [], zupr μ39 0 14 (some b39), 0 + 1 + 1 + 1 + 1 + 1 + 7 + 1 + 89 + 1 + 1 + 1 + 5 + 1 + 7 + 1 + 5 + 1 + 2 + 1 + 1 + 1 + 3 + 1 + 1 + 1, 0 + 2 + 80 + 2 + 9 + 9 + 458 + 3 + 5148 + 2 + 2 + 5 + 19940 + 9 + 458 + 5 + 19940 + 9 + 13122 + 1 + 4 + 3 + 259 + 6561 + 6561 + 6561)))))))))))) : J 0 ([some (zR (some 0)), none], [], μ, 0, 0) := by
  obtain ⟨p, e, s, m, args, below, meth, c, A, hml, hr, hlk, hnm, rfl⟩ := C
  refine s_aload_n A dX10_init_0 rfl ?_
  refine z_objInit A dX10_init_1 zwd118 zwd119 zwd120 (Nat.le_of_ble_eq_true rfl) (by decide) (Nat.le_of_ble_eq_true rfl) ?_
  refine s_aload_n A dX10_init_4 rfl ?_
  obtain ⟨o1, h⟩ := h
  refine z_new (k := 9) (N := 2) A dX10_init_5 rfl zuw_X9 tyX9 tyX9_ok zdf_X9 (by decide) zwd121 zwd122 zwd90 o1 (Nat.le_of_ble_eq_true rfl) (Nat.le_of_ble_eq_true rfl) (fun b1 μ1 eb1 em1 => ?_)
  have h := h b1 μ1 eb1 em1
  refine s_dup A dX10_init_8 rfl ?_
  refine s_callIN (a := b1) (host := "InkFolds") (M := mX9_init) (n := 0) (d := 2) (mc := 1) (ms := 80) (av := []) (st := [zR (some b1), zR (some 0)]) A dX10_init_9 rfl zwr123 zwd124 zwd90 zcd_X9_init rfl (Nat.le_of_ble_eq_true rfl) (Nat.le_of_ble_eq_true rfl) (Nat.le_refl _) ⟨Nat.le_of_ble_eq_true rfl, Nat.le_of_ble_eq_true rfl⟩ zhn_X9_init rfl (Nat.le_of_ble_eq_true rfl) rfl (z_contV (fun μ2 h => ?_) h)
  obtain ⟨o3, h⟩ := h
  refine z_putFR (k := 10) (j := 0) (sl := false) A dX10_init_12 rfl zuw_X10 (Nat.le_of_ble_eq_true rfl) zwd338 (by decide) o3 tyX10 tyX10_ok nmX10 rfl (Or.inl rfl) rfl (Or.inl ⟨_, rfl⟩) rfl hnm rfl ?_
  refine s_aload_n A dX10_init_15 rfl ?_
  obtain ⟨o4, h⟩ := h
  refine z_new (k := 6) (N := 2) A dX10_init_16 rfl zuw_X6 tyX6 tyX6_ok zdf_X6 (by decide) zwd138 zwd139 zwd91 o4 (Nat.le_of_ble_eq_true rfl) (Nat.le_of_ble_eq_true rfl) (fun b4 μ4 eb4 em4 => ?_)
  have h := h b4 μ4 eb4 em4
  refine s_dup A dX10_init_19 rfl ?_
  refine s_callIN (a := b4) (host := "InkFolds") (M := mX6_init) (n := 0) (d := 2) (mc := 1) (ms := 9) (av := []) (st := [zR (some b4), zR (some 0)]) A dX10_init_20 rfl zwr140 zwd141 zwd91 zcd_X6_init rfl (Nat.le_of_ble_eq_true rfl) (Nat.le_of_ble_eq_true rfl) (Nat.le_refl _) ⟨Nat.le_of_ble_eq_true rfl, Nat.le_of_ble_eq_true rfl⟩ zhn_X6_init rfl (Nat.le_of_ble_eq_true rfl) rfl (z_contV (fun μ5 h => ?_) h)
  obtain ⟨o6, h⟩ := h
  refine z_putFR (k := 10) (j := 1) (sl := false) A dX10_init_23 rfl zuw_X10 (Nat.le_of_ble_eq_true rfl) zwd339 (by decide) o6 tyX10 tyX10_ok nmX10 rfl (Or.inl rfl) rfl (Or.inl ⟨_, rfl⟩) rfl hnm rfl ?_
  refine s_aload_n A dX10_init_26 rfl ?_
  obtain ⟨o7, h⟩ := h
  refine z_new (k := 7) (N := 9) A dX10_init_27 rfl zuw_X7 tyX7 tyX7_ok zdf_X7 (by decide) zwd154 zwd155 zwd92 o7 (Nat.le_of_ble_eq_true rfl) (Nat.le_of_ble_eq_true rfl) (fun b7 μ7 eb7 em7 => ?_)
  have h := h b7 μ7 eb7 em7
  refine s_dup A dX10_init_30 rfl ?_
  refine s_callI (a := b7) (M := mX7_init) (n := 0) (d := 3) (mc := 7) (ms := 458) (av := []) (st := [zR (some b7), zR (some 0)]) A dX10_init_31 rfl zwd156 zwd157 zwd92 zcd_X7_init rfl (Nat.le_of_ble_eq_true rfl) (Nat.le_of_ble_eq_true rfl) (Nat.le_refl _) ⟨Nat.le_of_ble_eq_true rfl, Nat.le_of_ble_eq_true rfl⟩ zhn_X7_init rfl (Nat.le_of_ble_eq_true rfl) rfl (z_contV (fun μ8 h => ?_) h)
  obtain ⟨o9, h⟩ := h
  refine z_putFR (k := 10) (j := 2) (sl := false) A dX10_init_34 rfl zuw_X10 (Nat.le_of_ble_eq_true rfl) zwd340 (by decide) o9 tyX10 tyX10_ok nmX10 rfl (Or.inl rfl) rfl (Or.inl ⟨_, rfl⟩) rfl hnm rfl ?_
  refine s_aload_n A dX10_init_37 rfl ?_
  obtain ⟨o10, h⟩ := h
  refine z_new (k := 1) (N := 3) A dX10_init_38 rfl zuw_X1 tyX1 tyX1_ok zdf_X1 (by decide) zwd224 zwd225 zwd94 o10 (Nat.le_of_ble_eq_true rfl) (Nat.le_of_ble_eq_true rfl) (fun b10 μ10 eb10 em10 => ?_)
  have h := h b10 μ10 eb10 em10
  refine s_dup A dX10_init_41 rfl ?_
  refine s_callI (a := b10) (M := mX1_init) (n := 0) (d := 4) (mc := 89) (ms := 5148) (av := []) (st := [zR (some b10), zR (some 0)]) A dX10_init_42 rfl zwd226 zwd227 zwd94 zcd_X1_init rfl (Nat.le_of_ble_eq_true rfl) (Nat.le_of_ble_eq_true rfl) (Nat.le_refl _) ⟨Nat.le_of_ble_eq_true rfl, Nat.le_of_ble_eq_true rfl⟩ zhn_X1_init rfl (Nat.le_of_ble_eq_true rfl) rfl (z_contV (fun μ11 h => ?_) h)
  obtain ⟨o12, h⟩ := h
  refine z_putFR (k := 10) (j := 3) (sl := false) A dX10_init_45 rfl zuw_X10 (Nat.le_of_ble_eq_true rfl) zwd341 (by decide) o12 tyX10 tyX10_ok nmX10 rfl (Or.inl rfl) rfl (Or.inl ⟨_, rfl⟩) rfl hnm rfl ?_
  refine s_aload_n A dX10_init_48 rfl ?_
  refine s_iconst A dX10_init_49 ?_
  obtain ⟨o13, h⟩ := h
  refine z_anew_State (n := 2) A dX10_init_50 rfl (by decide) zwd154 zwr231 o13 (Nat.le_of_ble_eq_true rfl) (Nat.le_of_ble_eq_true rfl) (fun b13 μ13 eb13 em13 => ?_)
  have h := h b13 μ13 eb13 em13
  obtain ⟨o14, h⟩ := h
  refine z_putFR (k := 10) (j := 4) (sl := false) A dX10_init_53 rfl zuw_X10 (Nat.le_of_ble_eq_true rfl) zwd342 (by decide) o14 tyX10 tyX10_ok nmX10 rfl (Or.inl rfl) rfl (Or.inr ⟨_, rfl⟩) rfl hnm rfl ?_
  refine s_aload_n A dX10_init_56 rfl ?_
  refine s_iconst A dX10_init_57 ?_
  obtain ⟨o15, h⟩ := h
  refine z_newa_bool (n := 2) A dX10_init_58 rfl (by decide) zwd183 o15 (Nat.le_of_ble_eq_true rfl) (Nat.le_of_ble_eq_true rfl) (fun b15 μ15 eb15 em15 => ?_)
  have h := h b15 μ15 eb15 em15
  obtain ⟨o16, h⟩ := h
  refine z_putFR (k := 10) (j := 5) (sl := false) A dX10_init_60 rfl zuw_X10 (Nat.le_of_ble_eq_true rfl) zwd343 (by decide) o16 tyX10 tyX10_ok nmX10 rfl (Or.inl rfl) rfl (Or.inr ⟨_, rfl⟩) rfl hnm rfl ?_
  refine s_aload_n A dX10_init_63 rfl ?_
  obtain ⟨o17, h⟩ := h
  refine z_new (k := 0) (N := 5) A dX10_init_64 rfl zuw_X0 tyX0 tyX0_ok zdf_X0 (by decide) zwd244 zwd245 zwd95 o17 (Nat.le_of_ble_eq_true rfl) (Nat.le_of_ble_eq_true rfl) (fun b17 μ17 eb17 em17 => ?_)
  have h := h b17 μ17 eb17 em17
  refine s_dup A dX10_init_67 rfl ?_
  refine s_callI (a := b17) (M := mX0_init) (n := 0) (d := 2) (mc := 5) (ms := 19940) (av := []) (st := [zR (some b17), zR (some 0)]) A dX10_init_68 rfl zwd246 zwd247 zwd95 zcd_X0_init rfl (Nat.le_of_ble_eq_true rfl) (Nat.le_of_ble_eq_true rfl) (Nat.le_refl _) ⟨Nat.le_of_ble_eq_true rfl, Nat.le_of_ble_eq_true rfl⟩ zhn_X0_init rfl (Nat.le_of_ble_eq_true rfl) rfl (z_contV (fun μ18 h => ?_) h)
  obtain ⟨o19, h⟩ := h
  refine z_putFR (k := 10) (j := 6) (sl := false) A dX10_init_71 rfl zuw_X10 (Nat.le_of_ble_eq_true rfl) zwd344 (by decide) o19 tyX10 tyX10_ok nmX10 rfl (Or.inl rfl) rfl (Or.inl ⟨_, rfl⟩) rfl hnm rfl ?_
  refine s_aload_n A dX10_init_74 rfl ?_
  obtain ⟨o20, h⟩ := h
  refine z_new (k := 7) (N := 9) A dX10_init_75 rfl zuw_X7 tyX7 tyX7_ok zdf_X7 (by decide) zwd154 zwd155 zwd92 o20 (Nat.le_of_ble_eq_true rfl) (Nat.le_of_ble_eq_true rfl) (fun b20 μ20 eb20 em20 => ?_)
  have h := h b20 μ20 eb20 em20
  refine s_dup A dX10_init_78 rfl ?_
  refine s_callI (a := b20) (M := mX7_init) (n := 0) (d := 3) (mc := 7) (ms := 458) (av := []) (st := [zR (some b20), zR (some 0)]) A dX10_init_79 rfl zwd156 zwd157 zwd92 zcd_X7_init rfl (Nat.le_of_ble_eq_true rfl) (Nat.le_of_ble_eq_true rfl) (Nat.le_refl _) ⟨Nat.le_of_ble_eq_true rfl, Nat.le_of_ble_eq_true rfl⟩ zhn_X7_init rfl (Nat.le_of_ble_eq_true rfl) rfl (z_contV (fun μ21 h => ?_) h)
  obtain ⟨o22, h⟩ := h
  refine z_putFR (k := 10) (j := 7) (sl := false) A dX10_init_82 rfl zuw_X10 (Nat.le_of_ble_eq_true rfl) zwd345 (by decide) o22 tyX10 tyX10_ok nmX10 rfl (Or.inl rfl) rfl (Or.inl ⟨_, rfl⟩) rfl hnm rfl ?_
  refine s_aload_n A dX10_init_85 rfl ?_
  obtain ⟨o23, h⟩ := h
  refine z_new (k := 0) (N := 5) A dX10_init_86 rfl zuw_X0 tyX0 tyX0_ok zdf_X0 (by decide) zwd244 zwd245 zwd95 o23 (Nat.le_of_ble_eq_true rfl) (Nat.le_of_ble_eq_true rfl) (fun b23 μ23 eb23 em23 => ?_)
  have h := h b23 μ23 eb23 em23
  refine s_dup A dX10_init_89 rfl ?_
  refine s_callI (a := b23) (M := mX0_init) (n := 0) (d := 2) (mc := 5) (ms := 19940) (av := []) (st := [zR (some b23), zR (some 0)]) A dX10_init_90 rfl zwd246 zwd247 zwd95 zcd_X0_init rfl (Nat.le_of_ble_eq_true rfl) (Nat.le_of_ble_eq_true rfl) (Nat.le_refl _) ⟨Nat.le_of_ble_eq_true rfl, Nat.le_of_ble_eq_true rfl⟩ zhn_X0_init rfl (Nat.le_of_ble_eq_true rfl) rfl (z_contV (fun μ24 h => ?_) h)
  obtain ⟨o25, h⟩ := h
  refine z_putFR (k := 10) (j := 8) (sl := false) A dX10_init_93 rfl zuw_X10 (Nat.le_of_ble_eq_true rfl) zwd346 (by decide) o25 tyX10 tyX10_ok nmX10 rfl (Or.inl rfl) rfl (Or.inl ⟨_, rfl⟩) rfl hnm rfl ?_
  refine s_aload_n A dX10_init_96 rfl ?_
  obtain ⟨o26, h⟩ := h
  refine z_new (k := 4) (N := 9) A dX10_init_97 rfl zuw_X4 tyX4 tyX4_ok zdf_X4 (by decide) zwd271 zwd272 zwd97 o26 (Nat.le_of_ble_eq_true rfl) (Nat.le_of_ble_eq_true rfl) (fun b26 μ26 eb26 em26 => ?_)
  have h := h b26 μ26 eb26 em26
  refine s_dup A dX10_init_100 rfl ?_
  refine s_callIN (a := b26) (host := "InkFolds") (M := mX4_init) (n := 0) (d := 2) (mc := 2) (ms := 13122) (av := []) (st := [zR (some b26), zR (some 0)]) A dX10_init_101 rfl zwr273 zwd274 zwd97 zcd_X4_init rfl (Nat.le_of_ble_eq_true rfl) (Nat.le_of_ble_eq_true rfl) (Nat.le_refl _) ⟨Nat.le_of_ble_eq_true rfl, Nat.le_of_ble_eq_true rfl⟩ zhn_X4_init rfl (Nat.le_of_ble_eq_true rfl) rfl (z_contV (fun μ27 h => ?_) h)
  obtain ⟨o28, h⟩ := h
  refine z_putFR (k := 10) (j := 9) (sl := false) A dX10_init_104 rfl zuw_X10 (Nat.le_of_ble_eq_true rfl) zwd347 (by decide) o28 tyX10 tyX10_ok nmX10 rfl (Or.inl rfl) rfl (Or.inl ⟨_, rfl⟩) rfl hnm rfl ?_
  refine s_aload_n A dX10_init_107 rfl ?_
  obtain ⟨o29, h⟩ := h
  refine z_new (k := 2) (N := 1) A dX10_init_108 rfl zuw_X2 tyX2 tyX2_ok zdf_X2 (by decide) zwd311 zwd312 zwd98 o29 (Nat.le_of_ble_eq_true rfl) (Nat.le_of_ble_eq_true rfl) (fun b29 μ29 eb29 em29 => ?_)
  have h := h b29 μ29 eb29 em29
  refine s_dup A dX10_init_111 rfl ?_
  refine s_callIN (a := b29) (host := "InkFolds") (M := mX2_init) (n := 0) (d := 2) (mc := 1) (ms := 4) (av := []) (st := [zR (some b29), zR (some 0)]) A dX10_init_112 rfl zwr313 zwd314 zwd98 zcd_X2_init rfl (Nat.le_of_ble_eq_true rfl) (Nat.le_of_ble_eq_true rfl) (Nat.le_refl _) ⟨Nat.le_of_ble_eq_true rfl, Nat.le_of_ble_eq_true rfl⟩ zhn_X2_init rfl (Nat.le_of_ble_eq_true rfl) rfl (z_contV (fun μ30 h => ?_) h)
  obtain ⟨o31, h⟩ := h
  refine z_putFR (k := 10) (j := 10) (sl := false) A dX10_init_115 rfl zuw_X10 (Nat.le_of_ble_eq_true rfl) zwd348 (by decide) o31 tyX10 tyX10_ok nmX10 rfl (Or.inl rfl) rfl (Or.inl ⟨_, rfl⟩) rfl hnm rfl ?_
  refine s_aload_n A dX10_init_118 rfl ?_
  obtain ⟨o32, h⟩ := h
  refine z_new (k := 5) (N := 3) A dX10_init_119 rfl zuw_X5 tyX5 tyX5_ok zdf_X5 (by decide) zwd321 zwd322 zwd99 o32 (Nat.le_of_ble_eq_true rfl) (Nat.le_of_ble_eq_true rfl) (fun b32 μ32 eb32 em32 => ?_)
  have h := h b32 μ32 eb32 em32
  refine s_dup A dX10_init_122 rfl ?_
  refine s_callIN (a := b32) (host := "InkFolds") (M := mX5_init) (n := 0) (d := 2) (mc := 3) (ms := 259) (av := []) (st := [zR (some b32), zR (some 0)]) A dX10_init_123 rfl zwr323 zwd324 zwd99 zcd_X5_init rfl (Nat.le_of_ble_eq_true rfl) (Nat.le_of_ble_eq_true rfl) (Nat.le_refl _) ⟨Nat.le_of_ble_eq_true rfl, Nat.le_of_ble_eq_true rfl⟩ zhn_X5_init rfl (Nat.le_of_ble_eq_true rfl) rfl (z_contV (fun μ33 h => ?_) h)
  obtain ⟨o34, h⟩ := h
  refine z_putFR (k := 10) (j := 11) (sl := false) A dX10_init_126 rfl zuw_X10 (Nat.le_of_ble_eq_true rfl) zwd349 (by decide) o34 tyX10 tyX10_ok nmX10 rfl (Or.inl rfl) rfl (Or.inl ⟨_, rfl⟩) rfl hnm rfl ?_
  refine s_aload_n A dX10_init_129 rfl ?_
  refine s_sipush A dX10_init_130 rfl ?_
  obtain ⟨o35, h⟩ := h
  refine z_newa_int (n := 6561) A dX10_init_133 rfl (by decide) zwd137 o35 (Nat.le_of_ble_eq_true rfl) (Nat.le_of_ble_eq_true rfl) (fun b35 μ35 eb35 em35 => ?_)
  have h := h b35 μ35 eb35 em35
  obtain ⟨o36, h⟩ := h
  refine z_putFR (k := 10) (j := 12) (sl := false) A dX10_init_135 rfl zuw_X10 (Nat.le_of_ble_eq_true rfl) zwd350 (by decide) o36 tyX10 tyX10_ok nmX10 rfl (Or.inl rfl) rfl (Or.inr ⟨_, rfl⟩) rfl hnm rfl ?_
  refine s_aload_n A dX10_init_138 rfl ?_
  refine s_sipush A dX10_init_139 rfl ?_
  obtain ⟨o37, h⟩ := h
  refine z_newa_int (n := 6561) A dX10_init_142 rfl (by decide) zwd137 o37 (Nat.le_of_ble_eq_true rfl) (Nat.le_of_ble_eq_true rfl) (fun b37 μ37 eb37 em37 => ?_)
  have h := h b37 μ37 eb37 em37
  obtain ⟨o38, h⟩ := h
  refine z_putFR (k := 10) (j := 13) (sl := false) A dX10_init_144 rfl zuw_X10 (Nat.le_of_ble_eq_true rfl) zwd351 (by decide) o38 tyX10 tyX10_ok nmX10 rfl (Or.inl rfl) rfl (Or.inr ⟨_, rfl⟩) rfl hnm rfl ?_
  refine s_aload_n A dX10_init_147 rfl ?_
  refine s_sipush A dX10_init_148 rfl ?_
  obtain ⟨o39, h⟩ := h
  refine z_newa_int (n := 6561) A dX10_init_151 rfl (by decide) zwd137 o39 (Nat.le_of_ble_eq_true rfl) (Nat.le_of_ble_eq_true rfl) (fun b39 μ39 eb39 em39 => ?_)
  have h := h b39 μ39 eb39 em39
  obtain ⟨o40, h⟩ := h
  refine z_putFR (k := 10) (j := 14) (sl := false) A dX10_init_153 rfl zuw_X10 (Nat.le_of_ble_eq_true rfl) zwd352 (by decide) o40 tyX10 tyX10_ok nmX10 rfl (Or.inl rfl) rfl (Or.inr ⟨_, rfl⟩) rfl hnm rfl ?_
  refine s_iconst A dX10_init_156 ?_
  refine s_istore_n (L' := [some (zR (some 0)), some (zI 0)]) A dX10_init_157 (Nat.le_of_ble_eq_true rfl) rfl ?_
  exact h
set_option maxRecDepth 20000 in
theorem rX10_init_158 {G : zG} {F : zM → Prop} {J : Nat → zS → Prop} {μ : zM} (C : zJ G false (5) 152 80087 mX10_init (zKV F) J) (x1 : Int) {cn un : Nat}
    (h : zin x1 ∧ ((2 ≤ x1 → (cn ≤ 152 ∧ un ≤ 80087) ∧ F μ) ∧ (¬ (2 ≤ x1) → zok false μ 0 (10, 15) ∧ zs false (znew μ (7, 9)) (zn μ) = (7, 9) ∧ (cn + 1 ≤ 152 ∧ un + 9 ≤ 80087) ∧ ∀ b4 μ4, b4 = zn μ → μ4 = znew μ (7, 9) → (cn + 1 + 7 ≤ 152 ∧ un + 9 + 458 ≤ 80087) ∧ qX7_init G b4 μ4 (fun μ5 => ∃ b6, zr μ 0 4 = some b6 ∧ zok false μ5 b6 (44, 2) ∧ (0 ≤ x1 ∧ x1 < 2) ∧ zok false μ5 b4 (7, 9) ∧ J 158 ([some (zR (some 0)), some (zI (x1 + 1))], [], zupr μ5 b6 x1 (some b4), cn + 1 + 7, un + 9 + 458))))) : J 158 ([some (zR (some 0)), some (zI x1)], [], μ, cn, un) := by
  obtain ⟨p, e, s, m, args, below, meth, c, A, hml, hr, hlk, hnm, rfl⟩ := C
  refine s_iload_n A dX10_init_158 rfl ?_
  refine s_iconst A dX10_init_159 ?_
  obtain ⟨oz1, h⟩ := h
  refine z_icmp_ge (tgt := 182) A dX10_init_160 (by decide) oz1 ⟨by decide, by decide⟩ (fun c2 => ?_) (fun c2 => ?_)
  · have h := h.1 c2
    obtain ⟨o9, h⟩ := h
    exact s_vret A dX10_init_182 hr hlk o9.1 o9.2 ⟨rfl, h⟩
  · have h := h.2 c2
    refine s_aload_n A dX10_init_163 rfl ?_
    obtain ⟨o3, h⟩ := h
    refine s_getf (k := 10) (j := 4) (sl := false) (v := zR (zr μ 0 4)) A dX10_init_164 rfl zuw_X10 (Nat.le_of_ble_eq_true rfl) zwd342 (by decide) o3 rfl ?_
    refine s_iload_n A dX10_init_167 rfl ?_
    obtain ⟨o4, h⟩ := h
    obtain ⟨o4c, h⟩ := h
    refine z_new (k := 7) (N := 9) A dX10_init_168 rfl zuw_X7 tyX7 tyX7_ok zdf_X7 (by decide) zwd154 zwd155 zwd92 o4 o4c.1 o4c.2 (fun b4 μ4 eb4 em4 => ?_)
    have h := h b4 μ4 eb4 em4
    refine s_dup A dX10_init_171 rfl ?_
    obtain ⟨ob5, h⟩ := h
    refine s_callI (a := b4) (M := mX7_init) (n := 0) (d := 3) (mc := 7) (ms := 458) (av := []) (st := [zR (some b4), zI x1, zR (zr μ 0 4)]) A dX10_init_172 rfl zwd156 zwd157 zwd92 zcd_X7_init rfl (Nat.le_of_ble_eq_true rfl) (Nat.le_of_ble_eq_true rfl) (Nat.le_refl _) ob5 zhn_X7_init rfl (Nat.le_of_ble_eq_true rfl) rfl (z_contV (fun μ5 h => ?_) h)
    obtain ⟨b6, c6, h⟩ := h
    refine z_eqS (st' := [zR (some b4), zI x1, zR (some b6)]) (by rw [c6] <;> rfl) ?_
    obtain ⟨o7, h⟩ := h
    obtain ⟨ox8, h⟩ := h
    obtain ⟨o9, h⟩ := h
    refine z_aastS (sl := false) A dX10_init_175 o7 (Nat.le_of_ble_eq_true rfl) ox8 o9 ?_
    refine s_iinc (L' := [some (zR (some 0)), some (zI (x1 + 1))]) A dX10_init_176 rfl rfl ?_
    refine s_goto (tgt := 158) A dX10_init_179 (by decide) ?_
    exact h
theorem eX10_init {G : zG} {F : zM → Prop} {μ : zM}  (h : ∀ J, zJ G false (5) 152 80087 mX10_init (zKV F) J → J 0 ([some (zR (some 0)), none], [], μ, 0, 0)) : qX10_init G  μ F :=
  z_body (by decide +kernel) (Nat.le_of_ble_eq_true rfl) h
set_option maxRecDepth 20000 in
theorem rX10_sign_e {G : zG} {F : Int → zM → Prop} {J : Nat → zS → Prop} {μ : zM} (C : zJ G true (2) 0 0 mX10_sign (zKI F) J) (x1 : Int)
    (h : zin ((zi μ 1 1) + 4) ∧ (((zi μ 1 1) + 4 ≤ 80 → J 19 ([some (zR (some 0)), some (zI x1), some (zI 24)], [], μ, 0, 0)) ∧ (¬ ((zi μ 1 1) + 4 ≤ 80) → F (-1) μ))) : J 0 ([some (zR (some 0)), some (zI x1), none], [], μ, 0, 0) := by
  obtain ⟨p, e, s, m, args, below, meth, c, A, hml, hr, hlk, hnm, rfl⟩ := C
  refine s_aload_n A dX10_sign_0 rfl ?_
  refine s_getf (k := 10) (j := 0) (sl := true) (v := zR (some 1)) A dX10_sign_1 rfl zuw_X10 (Nat.le_of_ble_eq_true rfl) zwd338 (by decide) (zk_0 _) rfl ?_
  refine s_getf (k := 9) (j := 1) (sl := true) (v := zI (zi μ 1 1)) A dX10_sign_4 rfl zuw_X9 (Nat.le_of_ble_eq_true rfl) zwd129 (by decide) (zk_1 _) rfl ?_
  refine s_iconst A dX10_sign_7 ?_
  refine s_iadd A dX10_sign_8 ?_
  refine s_bipush A dX10_sign_9 rfl ?_
  obtain ⟨oz1, h⟩ := h
  refine z_icmp_le (tgt := 16) A dX10_sign_11 (by decide) oz1 ⟨by decide, by decide⟩ (fun c2 => ?_) (fun c2 => ?_)
  · have h := h.1 c2
    refine s_bipush A dX10_sign_16 rfl ?_
    refine s_istore_n (L' := [some (zR (some 0)), some (zI x1), some (zI 24)]) A dX10_sign_18 (Nat.le_of_ble_eq_true rfl) rfl ?_
    exact h
  · have h := h.2 c2
    refine s_iconst A dX10_sign_14 ?_
    exact s_iret A dX10_sign_15 hr hlk (Nat.le_of_ble_eq_true rfl) (Nat.le_of_ble_eq_true rfl) ⟨_, rfl, h⟩
set_option maxRecDepth 20000 in
theorem rX10_sign_19 {G : zG} {F : Int → zM → Prop} {J : Nat → zS → Prop} {μ : zM} (C : zJ G true (2) 0 0 mX10_sign (zKI F) J) (x1 : Int) (x2 : Int)
    (h : zin x2 ∧ ((x2 < 0 → F (zi μ 1 1) μ) ∧ (¬ (x2 < 0) → qX9_append G ((zushr x1 x2) % 256) μ (fun μ3 => J 19 ([some (zR (some 0)), some (zI x1), some (zI (x2 + (-8)))], [], μ3, 0, 0))))) : J 19 ([some (zR (some 0)), some (zI x1), some (zI x2)], [], μ, 0, 0) := by
  obtain ⟨p, e, s, m, args, below, meth, c, A, hml, hr, hlk, hnm, rfl⟩ := C
  refine s_iload_n A dX10_sign_19 rfl ?_
  obtain ⟨oz1, h⟩ := h
  refine z_if_lt (tgt := 43) A dX10_sign_20 (by decide) oz1 (fun c2 => ?_) (fun c2 => ?_)
  · have h := h.1 c2
    refine s_aload_n A dX10_sign_43 rfl ?_
    refine s_getf (k := 10) (j := 0) (sl := true) (v := zR (some 1)) A dX10_sign_44 rfl zuw_X10 (Nat.le_of_ble_eq_true rfl) zwd338 (by decide) (zk_0 _) rfl ?_
    refine s_getf (k := 9) (j := 1) (sl := true) (v := zI (zi μ 1 1)) A dX10_sign_47 rfl zuw_X9 (Nat.le_of_ble_eq_true rfl) zwd129 (by decide) (zk_1 _) rfl ?_
    exact s_iret A dX10_sign_50 hr hlk (Nat.le_of_ble_eq_true rfl) (Nat.le_of_ble_eq_true rfl) ⟨_, rfl, h⟩
  · have h := h.2 c2
    refine s_aload_n A dX10_sign_23 rfl ?_
    refine s_getf (k := 10) (j := 0) (sl := true) (v := zR (some 1)) A dX10_sign_24 rfl zuw_X10 (Nat.le_of_ble_eq_true rfl) zwd338 (by decide) (zk_0 _) rfl ?_
    refine s_iload_n A dX10_sign_27 rfl ?_
    refine s_iload_n A dX10_sign_28 rfl ?_
    refine s_iushr A dX10_sign_29 ?_
    refine s_sipush A dX10_sign_30 rfl ?_
    refine z_iand255 A dX10_sign_33 ?_
    refine s_callV (a := 1) (k := 9) (N := 2) (sl := true) (M := mX9_append) (n := 1) (d := 0) (mc := 0) (ms := 0) (av := [zI ((zushr x1 x2) % 256)]) (st := []) A dX10_sign_34 rfl (by decide) (zk_1 _) zwd388 zwd389 zwd390 zwd90 zcd_X9_append (Nat.le_of_ble_eq_true rfl) (Nat.le_of_ble_eq_true rfl) (Nat.le_refl _) ⟨Nat.le_of_ble_eq_true rfl, Nat.le_of_ble_eq_true rfl⟩ ⟨rfl, zhn_X9_append⟩ rfl (Nat.le_of_ble_eq_true rfl) rfl (z_contV (fun μ3 h => ?_) h)
    refine s_iinc (L' := [some (zR (some 0)), some (zI x1), some (zI (x2 + (-8)))]) A dX10_sign_37 rfl rfl ?_
    refine s_goto (tgt := 19) A dX10_sign_40 (by decide) ?_
    exact h
theorem eX10_sign {G : zG} {F : Int → zM → Prop} {μ : zM} {x1 : Int} (h : ∀ J, zJ G true (2) 0 0 mX10_sign (zKI F) J → J 0 ([some (zR (some 0)), some (zI x1), none], [], μ, 0, 0)) : qX10_sign G x1 μ F :=
  z_body (by decide +kernel) (Nat.le_of_ble_eq_true rfl) h
set_option maxRecDepth 20000 in
theorem rX10_end_e {G : zG} {F : Int → zM → Prop} {J : Nat → zS → Prop} {μ : zM} (C : zJ G true (0) 0 0 mX10_end (zKI F) J) (x1 : Int)
    (h : zin x1 ∧ ((x1 < 0 → F 0 μ) ∧ (¬ (x1 < 0) → zin (zi μ 1 1) ∧ ((x1 ≤ zi μ 1 1 → F 1 (zup μ 1 1 x1)) ∧ (¬ (x1 ≤ zi μ 1 1) → F 0 μ))))) : J 0 ([some (zR (some 0)), some (zI x1)], [], μ, 0, 0) := by
  obtain ⟨p, e, s, m, args, below, meth, c, A, hml, hr, hlk, hnm, rfl⟩ := C
  refine s_iload_n A dX10_end_0 rfl ?_
  obtain ⟨oz1, h⟩ := h
  refine z_if_lt (tgt := 15) A dX10_end_1 (by decide) oz1 (fun c2 => ?_) (fun c2 => ?_)
  · have h := h.1 c2
    refine s_iconst A dX10_end_15 ?_
    exact s_zret A dX10_end_16 hr hlk (Nat.le_of_ble_eq_true rfl) (Nat.le_of_ble_eq_true rfl) (Or.inl rfl) ⟨_, rfl, h⟩
  · have h := h.2 c2
    refine s_iload_n A dX10_end_4 rfl ?_
    refine s_aload_n A dX10_end_5 rfl ?_
    refine s_getf (k := 10) (j := 0) (sl := true) (v := zR (some 1)) A dX10_end_6 rfl zuw_X10 (Nat.le_of_ble_eq_true rfl) zwd338 (by decide) (zk_0 _) rfl ?_
    refine s_getf (k := 9) (j := 1) (sl := true) (v := zI (zi μ 1 1)) A dX10_end_9 rfl zuw_X9 (Nat.le_of_ble_eq_true rfl) zwd129 (by decide) (zk_1 _) rfl ?_
    obtain ⟨oz3, h⟩ := h
    refine z_icmp_le (tgt := 17) A dX10_end_12 (by decide) oz1 oz3 (fun c4 => ?_) (fun c4 => ?_)
    · have h := h.1 c4
      refine s_aload_n A dX10_end_17 rfl ?_
      refine s_getf (k := 10) (j := 0) (sl := true) (v := zR (some 1)) A dX10_end_18 rfl zuw_X10 (Nat.le_of_ble_eq_true rfl) zwd338 (by decide) (zk_0 _) rfl ?_
      refine s_iload_n A dX10_end_21 rfl ?_
      refine z_putI (k := 9) (j := 1) (sl := true) A dX10_end_22 rfl zuw_X9 (Nat.le_of_ble_eq_true rfl) zwd129 (by decide) (zk_1 _) tyX9 tyX9_ok nmX9 rfl rfl rfl ?_
      refine s_iconst A dX10_end_25 ?_
      exact s_zret A dX10_end_26 hr hlk (Nat.le_of_ble_eq_true rfl) (Nat.le_of_ble_eq_true rfl) (Or.inr rfl) ⟨_, rfl, h⟩
    · have h := h.2 c4
      refine s_iconst A dX10_end_15 ?_
      exact s_zret A dX10_end_16 hr hlk (Nat.le_of_ble_eq_true rfl) (Nat.le_of_ble_eq_true rfl) (Or.inl rfl) ⟨_, rfl, h⟩
theorem eX10_end {G : zG} {F : Int → zM → Prop} {μ : zM} {x1 : Int} (h : ∀ J, zJ G true (0) 0 0 mX10_end (zKI F) J → J 0 ([some (zR (some 0)), some (zI x1)], [], μ, 0, 0)) : qX10_end G x1 μ F :=
  z_body (by decide +kernel) (Nat.le_of_ble_eq_true rfl) h
set_option maxRecDepth 20000 in
theorem rX10_refusedText_e {G : zG} {F : Int → zM → Prop} {J : Nat → zS → Prop} {μ : zM} (C : zJ G true (0) 0 0 mX10_refusedText (zKI F) J) (x1 : Int)
    (h : F ((-1) - x1) (zup μ 1 1 0)) : J 0 ([some (zR (some 0)), some (zI x1)], [], μ, 0, 0) := by
  obtain ⟨p, e, s, m, args, below, meth, c, A, hml, hr, hlk, hnm, rfl⟩ := C
  refine s_aload_n A dX10_refusedText_0 rfl ?_
  refine s_getf (k := 10) (j := 0) (sl := true) (v := zR (some 1)) A dX10_refusedText_1 rfl zuw_X10 (Nat.le_of_ble_eq_true rfl) zwd338 (by decide) (zk_0 _) rfl ?_
  refine s_iconst A dX10_refusedText_4 ?_
  refine z_putI (k := 9) (j := 1) (sl := true) A dX10_refusedText_5 rfl zuw_X9 (Nat.le_of_ble_eq_true rfl) zwd129 (by decide) (zk_1 _) tyX9 tyX9_ok nmX9 rfl rfl rfl ?_
  refine s_iconst A dX10_refusedText_8 ?_
  refine s_iload_n A dX10_refusedText_9 rfl ?_
  refine s_isub A dX10_refusedText_10 ?_
  exact s_iret A dX10_refusedText_11 hr hlk (Nat.le_of_ble_eq_true rfl) (Nat.le_of_ble_eq_true rfl) ⟨_, rfl, h⟩
theorem eX10_refusedText {G : zG} {F : Int → zM → Prop} {μ : zM} {x1 : Int} (h : ∀ J, zJ G true (0) 0 0 mX10_refusedText (zKI F) J → J 0 ([some (zR (some 0)), some (zI x1)], [], μ, 0, 0)) : qX10_refusedText G x1 μ F :=
  z_body (by decide +kernel) (Nat.le_of_ble_eq_true rfl) h
set_option maxRecDepth 20000 in
theorem rX10_tellPatchAt_e {G : zG} {F : Int → zM → Prop} {J : Nat → zS → Prop} {μ : zM} (C : zJ G true (4) 0 0 mX10_tellPatchAt (zKI F) J) (x1 : Int)
    (h : qX9_patch G x1 μ (fun v1 μ1 => qX9_two G (x1 + 4) μ1 (fun v2 μ2 => qX9_two G (x1 + 6) μ2 (fun v3 μ3 => qX9_two G (x1 + 8) μ3 (fun v4 μ4 => qX7_tellPatch G 5 v1 v2 v3 v4 μ4 (fun v5 μ5 => F v5 μ5)))))) : J 0 ([some (zR (some 0)), some (zI x1)], [], μ, 0, 0) := by
  obtain ⟨p, e, s, m, args, below, meth, c, A, hml, hr, hlk, hnm, rfl⟩ := C
  refine s_aload_n A dX10_tellPatchAt_0 rfl ?_
  refine s_getf (k := 10) (j := 2) (sl := true) (v := zR (some 5)) A dX10_tellPatchAt_1 rfl zuw_X10 (Nat.le_of_ble_eq_true rfl) zwd340 (by decide) (zk_0 _) rfl ?_
  refine s_aload_n A dX10_tellPatchAt_4 rfl ?_
  refine s_getf (k := 10) (j := 0) (sl := true) (v := zR (some 1)) A dX10_tellPatchAt_5 rfl zuw_X10 (Nat.le_of_ble_eq_true rfl) zwd338 (by decide) (zk_0 _) rfl ?_
  refine s_iload_n A dX10_tellPatchAt_8 rfl ?_
  refine s_callV (a := 1) (k := 9) (N := 2) (sl := true) (M := mX9_patch) (n := 1) (d := 3) (mc := 0) (ms := 0) (av := [zI x1]) (st := [zR (some 5)]) A dX10_tellPatchAt_9 rfl (by decide) (zk_1 _) zwd574 zwd575 zwd576 zwd90 zcd_X9_patch (Nat.le_of_ble_eq_true rfl) (Nat.le_of_ble_eq_true rfl) (Nat.le_refl _) ⟨Nat.le_of_ble_eq_true rfl, Nat.le_of_ble_eq_true rfl⟩ ⟨rfl, zhn_X9_patch⟩ rfl (Nat.le_of_ble_eq_true rfl) rfl (z_contI (fun v1 μ1 h => ?_) h)
  refine s_aload_n A dX10_tellPatchAt_12 rfl ?_
  refine s_getf (k := 10) (j := 0) (sl := true) (v := zR (some 1)) A dX10_tellPatchAt_13 rfl zuw_X10 (Nat.le_of_ble_eq_true rfl) zwd338 (by decide) (zk_0 _) rfl ?_
  refine s_iload_n A dX10_tellPatchAt_16 rfl ?_
  refine s_iconst A dX10_tellPatchAt_17 ?_
  refine s_iadd A dX10_tellPatchAt_18 ?_
  refine s_callV (a := 1) (k := 9) (N := 2) (sl := true) (M := mX9_two) (n := 1) (d := 3) (mc := 0) (ms := 0) (av := [zI (x1 + 4)]) (st := [zI v1, zR (some 5)]) A dX10_tellPatchAt_19 rfl (by decide) (zk_1 _) zwd586 zwd587 zwd588 zwd90 zcd_X9_two (Nat.le_of_ble_eq_true rfl) (Nat.le_of_ble_eq_true rfl) (Nat.le_refl _) ⟨Nat.le_of_ble_eq_true rfl, Nat.le_of_ble_eq_true rfl⟩ ⟨rfl, zhn_X9_two⟩ rfl (Nat.le_of_ble_eq_true rfl) rfl (z_contI (fun v2 μ2 h => ?_) h)
  refine s_aload_n A dX10_tellPatchAt_22 rfl ?_
  refine s_getf (k := 10) (j := 0) (sl := true) (v := zR (some 1)) A dX10_tellPatchAt_23 rfl zuw_X10 (Nat.le_of_ble_eq_true rfl) zwd338 (by decide) (zk_0 _) rfl ?_
  refine s_iload_n A dX10_tellPatchAt_26 rfl ?_
  refine s_bipush A dX10_tellPatchAt_27 rfl ?_
  refine s_iadd A dX10_tellPatchAt_29 ?_
  refine s_callV (a := 1) (k := 9) (N := 2) (sl := true) (M := mX9_two) (n := 1) (d := 3) (mc := 0) (ms := 0) (av := [zI (x1 + 6)]) (st := [zI v2, zI v1, zR (some 5)]) A dX10_tellPatchAt_30 rfl (by decide) (zk_1 _) zwd586 zwd587 zwd588 zwd90 zcd_X9_two (Nat.le_of_ble_eq_true rfl) (Nat.le_of_ble_eq_true rfl) (Nat.le_refl _) ⟨Nat.le_of_ble_eq_true rfl, Nat.le_of_ble_eq_true rfl⟩ ⟨rfl, zhn_X9_two⟩ rfl (Nat.le_of_ble_eq_true rfl) rfl (z_contI (fun v3 μ3 h => ?_) h)
  refine s_aload_n A dX10_tellPatchAt_33 rfl ?_
  refine s_getf (k := 10) (j := 0) (sl := true) (v := zR (some 1)) A dX10_tellPatchAt_34 rfl zuw_X10 (Nat.le_of_ble_eq_true rfl) zwd338 (by decide) (zk_0 _) rfl ?_
  refine s_iload_n A dX10_tellPatchAt_37 rfl ?_
  refine s_bipush A dX10_tellPatchAt_38 rfl ?_
  refine s_iadd A dX10_tellPatchAt_40 ?_
  refine s_callV (a := 1) (k := 9) (N := 2) (sl := true) (M := mX9_two) (n := 1) (d := 3) (mc := 0) (ms := 0) (av := [zI (x1 + 8)]) (st := [zI v3, zI v2, zI v1, zR (some 5)]) A dX10_tellPatchAt_41 rfl (by decide) (zk_1 _) zwd586 zwd587 zwd588 zwd90 zcd_X9_two (Nat.le_of_ble_eq_true rfl) (Nat.le_of_ble_eq_true rfl) (Nat.le_refl _) ⟨Nat.le_of_ble_eq_true rfl, Nat.le_of_ble_eq_true rfl⟩ ⟨rfl, zhn_X9_two⟩ rfl (Nat.le_of_ble_eq_true rfl) rfl (z_contI (fun v4 μ4 h => ?_) h)
  refine s_callV (a := 5) (k := 7) (N := 9) (sl := true) (M := mX7_tellPatch) (n := 4) (d := 3) (mc := 0) (ms := 0) (av := [zI v1, zI v2, zI v3, zI v4]) (st := []) A dX10_tellPatchAt_44 rfl (by decide) (zk_5 _) zwd590 zwd591 zwd592 zwd92 zcd_X7_tellPatch (Nat.le_of_ble_eq_true rfl) (Nat.le_of_ble_eq_true rfl) (Nat.le_refl _) ⟨Nat.le_of_ble_eq_true rfl, Nat.le_of_ble_eq_true rfl⟩ ⟨rfl, zhn_X7_tellPatch⟩ rfl (Nat.le_of_ble_eq_true rfl) rfl (z_contI (fun v5 μ5 h => ?_) h)
  exact s_iret A dX10_tellPatchAt_47 hr hlk (Nat.le_of_ble_eq_true rfl) (Nat.le_of_ble_eq_true rfl) ⟨_, rfl, h⟩
theorem eX10_tellPatchAt {G : zG} {F : Int → zM → Prop} {μ : zM} {x1 : Int} (h : ∀ J, zJ G true (4) 0 0 mX10_tellPatchAt (zKI F) J → J 0 ([some (zR (some 0)), some (zI x1)], [], μ, 0, 0)) : qX10_tellPatchAt G x1 μ F :=
  z_body (by decide +kernel) (Nat.le_of_ble_eq_true rfl) h
set_option maxRecDepth 20000 in
theorem rX10_settled_e {G : zG} {F : Int → zM → Prop} {J : Nat → zS → Prop} {μ : zM} (C : zJ G true (2) 0 0 mX10_settled (zKI F) J) (x1 : Int)
    (h : zin x1 ∧ ((x1 < 0 → F x1 μ) ∧ (¬ (x1 < 0) → qX1_settle G μ (fun μ3 => F x1 μ3)))) : J 0 ([some (zR (some 0)), some (zI x1)], [], μ, 0, 0) := by
  obtain ⟨p, e, s, m, args, below, meth, c, A, hml, hr, hlk, hnm, rfl⟩ := C
  refine s_iload_n A dX10_settled_0 rfl ?_
  obtain ⟨oz1, h⟩ := h
  refine z_if_lt (tgt := 11) A dX10_settled_1 (by decide) oz1 (fun c2 => ?_) (fun c2 => ?_)
  · have h := h.1 c2
    refine s_iload_n A dX10_settled_11 rfl ?_
    exact s_iret A dX10_settled_12 hr hlk (Nat.le_of_ble_eq_true rfl) (Nat.le_of_ble_eq_true rfl) ⟨_, rfl, h⟩
  · have h := h.2 c2
    refine s_aload_n A dX10_settled_4 rfl ?_
    refine s_getf (k := 10) (j := 3) (sl := true) (v := zR (some 13)) A dX10_settled_5 rfl zuw_X10 (Nat.le_of_ble_eq_true rfl) zwd341 (by decide) (zk_0 _) rfl ?_
    refine s_callV (a := 13) (k := 1) (N := 3) (sl := true) (M := mX1_settle) (n := 0) (d := 0) (mc := 0) (ms := 0) (av := []) (st := []) A dX10_settled_8 rfl (by decide) (zk_13 _) zwd616 zwd617 zwd618 zwd94 zcd_X1_settle (Nat.le_of_ble_eq_true rfl) (Nat.le_of_ble_eq_true rfl) (Nat.le_refl _) ⟨Nat.le_of_ble_eq_true rfl, Nat.le_of_ble_eq_true rfl⟩ ⟨rfl, zhn_X1_settle⟩ rfl (Nat.le_of_ble_eq_true rfl) rfl (z_contV (fun μ3 h => ?_) h)
    refine s_iload_n A dX10_settled_11 rfl ?_
    exact s_iret A dX10_settled_12 hr hlk (Nat.le_of_ble_eq_true rfl) (Nat.le_of_ble_eq_true rfl) ⟨_, rfl, h⟩
theorem eX10_settled {G : zG} {F : Int → zM → Prop} {μ : zM} {x1 : Int} (h : ∀ J, zJ G true (2) 0 0 mX10_settled (zKI F) J → J 0 ([some (zR (some 0)), some (zI x1)], [], μ, 0, 0)) : qX10_settled G x1 μ F :=
  z_body (by decide +kernel) (Nat.le_of_ble_eq_true rfl) h
set_option maxRecDepth 20000 in
theorem rX10_isInk_e {G : zG} {ph : Bool} {F : Int → zM → Prop} {J : Nat → zS → Prop} {μ : zM} (C : zJ G ph (2) 0 0 mX10_isInk (zKI F) J) (x0 : Int)
    (h : qX10_isIn G ph x0 0 3 μ (fun v1 μ1 => (v1 = 0 ∨ v1 = 1) ∧ F v1 μ1)) : J 0 ([some (zI x0)], [], μ, 0, 0) := by
  obtain ⟨p, e, s, m, args, below, meth, c, A, hml, hr, hlk, hnm, rfl⟩ := C
  refine s_iload_n A dX10_isInk_0 rfl ?_
  refine s_iconst A dX10_isInk_1 ?_
  refine s_iconst A dX10_isInk_2 ?_
  refine s_callS (M := mX10_isIn) (n := 3) (d := 0) (mc := 0) (ms := 0) (av := [zI x0, zI 0, zI 3]) (st := []) A dX10_isInk_3 zwd597 zwd598 zwd89 zcd_X10_isIn (Nat.le_of_ble_eq_true rfl) (Nat.le_of_ble_eq_true rfl) (Nat.le_refl _) ⟨Nat.le_of_ble_eq_true rfl, Nat.le_of_ble_eq_true rfl⟩ zhn_X10_isIn rfl (Nat.le_of_ble_eq_true rfl) rfl (z_contI (fun v1 μ1 h => ?_) h)
  obtain ⟨o1, h⟩ := h
  exact s_zret A dX10_isInk_6 hr hlk (Nat.le_of_ble_eq_true rfl) (Nat.le_of_ble_eq_true rfl) o1 ⟨_, rfl, h⟩
theorem eX10_isInk {G : zG} {ph : Bool} {F : Int → zM → Prop} {μ : zM} {x0 : Int} (h : ∀ J, zJ G ph (2) 0 0 mX10_isInk (zKI F) J → J 0 ([some (zI x0)], [], μ, 0, 0)) : qX10_isInk G ph x0 μ F :=
  z_body (by decide +kernel) (Nat.le_of_ble_eq_true rfl) h
set_option maxRecDepth 20000 in
theorem rX10_curve_e {G : zG} {F : Int → zM → Prop} {J : Nat → zS → Prop} {μ : zM} (C : zJ G true (9) 0 0 mX10_curve (zKI F) J) (x1 : Int)
    (h : qX9_curveWrongAt G μ (fun v1 μ1 => zin v1 ∧ ((v1 < 0 → qX10_isInk G true x1 μ1 (fun v4 μ4 => zin v4 ∧ ((¬ v4 = 0 → qX1_draft G 5 μ4 (fun μ7 => J 48 ([some (zR (some 0)), some (zI x1), none, some (zI 0)], [], μ7, 0, 0))) ∧ (v4 = 0 → F (-1) (zup μ4 1 1 0))))) ∧ (¬ (v1 < 0) → qX10_refusedText G v1 μ1 (fun v8 μ8 => F v8 μ8))))) : J 0 ([some (zR (some 0)), some (zI x1), none, none], [], μ, 0, 0) := by
  obtain ⟨p, e, s, m, args, below, meth, c, A, hml, hr, hlk, hnm, rfl⟩ := C
  refine s_aload_n A dX10_curve_0 rfl ?_
  refine s_getf (k := 10) (j := 0) (sl := true) (v := zR (some 1)) A dX10_curve_1 rfl zuw_X10 (Nat.le_of_ble_eq_true rfl) zwd338 (by decide) (zk_0 _) rfl ?_
  refine s_callV (a := 1) (k := 9) (N := 2) (sl := true) (M := mX9_curveWrongAt) (n := 0) (d := 0) (mc := 0) (ms := 0) (av := []) (st := []) A dX10_curve_4 rfl (by decide) (zk_1 _) zwd625 zwd626 zwd627 zwd90 zcd_X9_curveWrongAt (Nat.le_of_ble_eq_true rfl) (Nat.le_of_ble_eq_true rfl) (Nat.le_refl _) ⟨Nat.le_of_ble_eq_true rfl, Nat.le_of_ble_eq_true rfl⟩ ⟨rfl, zhn_X9_curveWrongAt⟩ rfl (Nat.le_of_ble_eq_true rfl) rfl (z_contI (fun v1 μ1 h => ?_) h)
  refine s_istore_n (L' := [some (zR (some 0)), some (zI x1), some (zI v1), none]) A dX10_curve_7 (Nat.le_of_ble_eq_true rfl) rfl ?_
  refine s_iload_n A dX10_curve_8 rfl ?_
  obtain ⟨oz2, h⟩ := h
  refine z_if_lt (tgt := 18) A dX10_curve_9 (by decide) oz2 (fun c3 => ?_) (fun c3 => ?_)
  · have h := h.1 c3
    refine s_iload_n A dX10_curve_18 rfl ?_
    refine s_callS (M := mX10_isInk) (n := 1) (d := 2) (mc := 0) (ms := 0) (av := [zI x1]) (st := []) A dX10_curve_19 zwd629 zwd630 zwd89 zcd_X10_isInk (Nat.le_of_ble_eq_true rfl) (Nat.le_of_ble_eq_true rfl) (Nat.le_refl _) ⟨Nat.le_of_ble_eq_true rfl, Nat.le_of_ble_eq_true rfl⟩ zhn_X10_isInk rfl (Nat.le_of_ble_eq_true rfl) rfl (z_contI (fun v4 μ4 h => ?_) h)
    obtain ⟨oz5, h⟩ := h
    refine z_if_ne (tgt := 35) A dX10_curve_22 (by decide) oz5 (fun c6 => ?_) (fun c6 => ?_)
    · have h := h.1 c6
      refine s_aload_n A dX10_curve_35 rfl ?_
      refine s_getf (k := 10) (j := 3) (sl := true) (v := zR (some 13)) A dX10_curve_36 rfl zuw_X10 (Nat.le_of_ble_eq_true rfl) zwd341 (by decide) (zk_0 _) rfl ?_
      refine s_aload_n A dX10_curve_39 rfl ?_
      refine s_getf (k := 10) (j := 2) (sl := true) (v := zR (some 5)) A dX10_curve_40 rfl zuw_X10 (Nat.le_of_ble_eq_true rfl) zwd340 (by decide) (zk_0 _) rfl ?_
      refine s_callV (a := 13) (k := 1) (N := 3) (sl := true) (M := mX1_draft) (n := 1) (d := 3) (mc := 0) (ms := 0) (av := [zR (some 5)]) (st := []) A dX10_curve_43 rfl (by decide) (zk_13 _) zwd553 zwd554 zwd555 zwd94 zcd_X1_draft (Nat.le_of_ble_eq_true rfl) (Nat.le_of_ble_eq_true rfl) (Nat.le_refl _) ⟨Nat.le_of_ble_eq_true rfl, Nat.le_of_ble_eq_true rfl⟩ ⟨rfl, zhn_X1_draft⟩ rfl (Nat.le_of_ble_eq_true rfl) rfl (z_contV (fun μ7 h => ?_) h)
      refine s_iconst A dX10_curve_46 ?_
      refine s_istore_n (L' := [some (zR (some 0)), some (zI x1), some (zI v1), some (zI 0)]) A dX10_curve_47 (Nat.le_of_ble_eq_true rfl) rfl ?_
      exact z_wk (L' := [some (zR (some 0)), some (zI x1), none, some (zI 0)]) ⟨rfl, rfl, rfl, trivial⟩ h
    · have h := h.2 c6
      refine s_aload_n A dX10_curve_25 rfl ?_
      refine s_getf (k := 10) (j := 0) (sl := true) (v := zR (some 1)) A dX10_curve_26 rfl zuw_X10 (Nat.le_of_ble_eq_true rfl) zwd338 (by decide) (zk_0 _) rfl ?_
      refine s_iconst A dX10_curve_29 ?_
      refine z_putI (k := 9) (j := 1) (sl := true) A dX10_curve_30 rfl zuw_X9 (Nat.le_of_ble_eq_true rfl) zwd129 (by decide) (zk_1 _) tyX9 tyX9_ok nmX9 rfl rfl rfl ?_
      refine s_iconst A dX10_curve_33 ?_
      exact s_iret A dX10_curve_34 hr hlk (Nat.le_of_ble_eq_true rfl) (Nat.le_of_ble_eq_true rfl) ⟨_, rfl, h⟩
  · have h := h.2 c3
    refine s_aload_n A dX10_curve_12 rfl ?_
    refine s_iload_n A dX10_curve_13 rfl ?_
    refine s_callV (a := 0) (k := 10) (N := 15) (sl := true) (M := mX10_refusedText) (n := 1) (d := 0) (mc := 0) (ms := 0) (av := [zI v1]) (st := []) A dX10_curve_14 rfl (by decide) (zk_0 _) zwd549 zwd551 zwd0 zwd89 zcd_X10_refusedText (Nat.le_of_ble_eq_true rfl) (Nat.le_of_ble_eq_true rfl) (Nat.le_refl _) ⟨Nat.le_of_ble_eq_true rfl, Nat.le_of_ble_eq_true rfl⟩ ⟨rfl, zhn_X10_refusedText⟩ rfl (Nat.le_of_ble_eq_true rfl) rfl (z_contI (fun v8 μ8 h => ?_) h)
    exact s_iret A dX10_curve_17 hr hlk (Nat.le_of_ble_eq_true rfl) (Nat.le_of_ble_eq_true rfl) ⟨_, rfl, h⟩
set_option maxRecDepth 20000 in
theorem rX10_curve_48 {G : zG} {F : Int → zM → Prop} {J : Nat → zS → Prop} {μ : zM} (C : zJ G true (9) 0 0 mX10_curve (zKI F) J) (x1 : Int) (x3 : Int)
    (h : zin x3 ∧ ((9 ≤ x3 → qX7_bentFromStraight G 5 x1 (zup μ 1 1 0) (fun v3 μ3 => qX10_settled G v3 μ3 (fun v4 μ4 => F v4 μ4))) ∧ (¬ (9 ≤ x3) → zin (zi μ 1 1) ∧ ((¬ zi μ 1 1 = 0 → qX9_digit G x3 μ (fun v7 μ7 => (0 ≤ (x1 * 9) + x3 ∧ (x1 * 9) + x3 < 36) ∧ J 48 ([some (zR (some 0)), some (zI x1), none, some (zI (x3 + 1))], [], zup μ7 9 ((x1 * 9) + x3) v7, 0, 0))) ∧ (zi μ 1 1 = 0 → (0 ≤ (x1 * 9) + x3 ∧ (x1 * 9) + x3 < 36) ∧ J 48 ([some (zR (some 0)), some (zI x1), none, some (zI (x3 + 1))], [], zup μ 9 ((x1 * 9) + x3) x3, 0, 0)))))) : J 48 ([some (zR (some 0)), some (zI x1), none, some (zI x3)], [], μ, 0, 0) := by
  obtain ⟨p, e, s, m, args, below, meth, c, A, hml, hr, hlk, hnm, rfl⟩ := C
  refine s_iload_n A dX10_curve_48 rfl ?_
  refine s_bipush A dX10_curve_49 rfl ?_
  obtain ⟨oz1, h⟩ := h
  refine z_icmp_ge (tgt := 96) A dX10_curve_51 (by decide) oz1 ⟨by decide, by decide⟩ (fun c2 => ?_) (fun c2 => ?_)
  · have h := h.1 c2
    refine s_aload_n A dX10_curve_96 rfl ?_
    refine s_getf (k := 10) (j := 0) (sl := true) (v := zR (some 1)) A dX10_curve_97 rfl zuw_X10 (Nat.le_of_ble_eq_true rfl) zwd338 (by decide) (zk_0 _) rfl ?_
    refine s_iconst A dX10_curve_100 ?_
    refine z_putI (k := 9) (j := 1) (sl := true) A dX10_curve_101 rfl zuw_X9 (Nat.le_of_ble_eq_true rfl) zwd129 (by decide) (zk_1 _) tyX9 tyX9_ok nmX9 rfl rfl rfl ?_
    refine s_aload_n A dX10_curve_104 rfl ?_
    refine s_aload_n A dX10_curve_105 rfl ?_
    refine s_getf (k := 10) (j := 2) (sl := true) (v := zR (some 5)) A dX10_curve_106 rfl zuw_X10 (Nat.le_of_ble_eq_true rfl) zwd340 (by decide) (zk_0 _) rfl ?_
    refine s_iload_n A dX10_curve_109 rfl ?_
    refine s_callV (a := 5) (k := 7) (N := 9) (sl := true) (M := mX7_bentFromStraight) (n := 1) (d := 8) (mc := 0) (ms := 0) (av := [zI x1]) (st := [zR (some 0)]) A dX10_curve_110 rfl (by decide) (zk_5 _) zwd633 zwd634 zwd635 zwd92 zcd_X7_bentFromStraight (Nat.le_of_ble_eq_true rfl) (Nat.le_of_ble_eq_true rfl) (Nat.le_refl _) ⟨Nat.le_of_ble_eq_true rfl, Nat.le_of_ble_eq_true rfl⟩ ⟨rfl, zhn_X7_bentFromStraight⟩ rfl (Nat.le_of_ble_eq_true rfl) rfl (z_contI (fun v3 μ3 h => ?_) h)
    refine s_callV (a := 0) (k := 10) (N := 15) (sl := true) (M := mX10_settled) (n := 1) (d := 2) (mc := 0) (ms := 0) (av := [zI v3]) (st := []) A dX10_curve_113 rfl (by decide) (zk_0 _) zwd612 zwd614 zwd3 zwd89 zcd_X10_settled (Nat.le_of_ble_eq_true rfl) (Nat.le_of_ble_eq_true rfl) (Nat.le_refl _) ⟨Nat.le_of_ble_eq_true rfl, Nat.le_of_ble_eq_true rfl⟩ ⟨rfl, zhn_X10_settled⟩ rfl (Nat.le_of_ble_eq_true rfl) rfl (z_contI (fun v4 μ4 h => ?_) h)
    exact s_iret A dX10_curve_116 hr hlk (Nat.le_of_ble_eq_true rfl) (Nat.le_of_ble_eq_true rfl) ⟨_, rfl, h⟩
  · have h := h.2 c2
    refine s_aload_n A dX10_curve_54 rfl ?_
    refine s_getf (k := 10) (j := 2) (sl := true) (v := zR (some 5)) A dX10_curve_55 rfl zuw_X10 (Nat.le_of_ble_eq_true rfl) zwd340 (by decide) (zk_0 _) rfl ?_
    refine s_getf (k := 7) (j := 3) (sl := true) (v := zR (some 9)) A dX10_curve_58 rfl zuw_X7 (Nat.le_of_ble_eq_true rfl) zwd192 (by decide) (zk_5 _) rfl ?_
    refine s_iload_n A dX10_curve_61 rfl ?_
    refine s_bipush A dX10_curve_62 rfl ?_
    refine s_imul A dX10_curve_64 ?_
    refine s_iload_n A dX10_curve_65 rfl ?_
    refine s_iadd A dX10_curve_66 ?_
    refine s_aload_n A dX10_curve_67 rfl ?_
    refine s_getf (k := 10) (j := 0) (sl := true) (v := zR (some 1)) A dX10_curve_68 rfl zuw_X10 (Nat.le_of_ble_eq_true rfl) zwd338 (by decide) (zk_0 _) rfl ?_
    refine s_getf (k := 9) (j := 1) (sl := true) (v := zI (zi μ 1 1)) A dX10_curve_71 rfl zuw_X9 (Nat.le_of_ble_eq_true rfl) zwd129 (by decide) (zk_1 _) rfl ?_
    obtain ⟨oz5, h⟩ := h
    refine z_if_ne (tgt := 81) A dX10_curve_74 (by decide) oz5 (fun c6 => ?_) (fun c6 => ?_)
    · have h := h.1 c6
      refine s_aload_n A dX10_curve_81 rfl ?_
      refine s_getf (k := 10) (j := 0) (sl := true) (v := zR (some 1)) A dX10_curve_82 rfl zuw_X10 (Nat.le_of_ble_eq_true rfl) zwd338 (by decide) (zk_0 _) rfl ?_
      refine s_iload_n A dX10_curve_85 rfl ?_
      refine s_callV (a := 1) (k := 9) (N := 2) (sl := true) (M := mX9_digit) (n := 1) (d := 2) (mc := 0) (ms := 0) (av := [zI x3]) (st := [zI ((x1 * 9) + x3), zR (some 9)]) A dX10_curve_86 rfl (by decide) (zk_1 _) zwd632 zwd579 zwd580 zwd90 zcd_X9_digit (Nat.le_of_ble_eq_true rfl) (Nat.le_of_ble_eq_true rfl) (Nat.le_refl _) ⟨Nat.le_of_ble_eq_true rfl, Nat.le_of_ble_eq_true rfl⟩ ⟨rfl, zhn_X9_digit⟩ rfl (Nat.le_of_ble_eq_true rfl) rfl (z_contI (fun v7 μ7 h => ?_) h)
      obtain ⟨ox8, h⟩ := h
      refine z_iast A dX10_curve_89 (zk_9 _) (Nat.le_of_ble_eq_true rfl) ox8 ?_
      refine s_iinc (L' := [some (zR (some 0)), some (zI x1), none, some (zI (x3 + 1))]) A dX10_curve_90 rfl rfl ?_
      refine s_goto (tgt := 48) A dX10_curve_93 (by decide) ?_
      exact h
    · have h := h.2 c6
      refine s_iload_n A dX10_curve_77 rfl ?_
      refine s_goto (tgt := 89) A dX10_curve_78 (by decide) ?_
      obtain ⟨ox9, h⟩ := h
      refine z_iast A dX10_curve_89 (zk_9 _) (Nat.le_of_ble_eq_true rfl) ox9 ?_
      refine s_iinc (L' := [some (zR (some 0)), some (zI x1), none, some (zI (x3 + 1))]) A dX10_curve_90 rfl rfl ?_
      refine s_goto (tgt := 48) A dX10_curve_93 (by decide) ?_
      exact h
theorem eX10_curve {G : zG} {F : Int → zM → Prop} {μ : zM} {x1 : Int} (h : ∀ J, zJ G true (9) 0 0 mX10_curve (zKI F) J → J 0 ([some (zR (some 0)), some (zI x1), none, none], [], μ, 0, 0)) : qX10_curve G x1 μ F :=
  z_body (by decide +kernel) (Nat.le_of_ble_eq_true rfl) h
set_option maxRecDepth 20000 in
theorem rX10_link_e {G : zG} {F : Int → zM → Prop} {J : Nat → zS → Prop} {μ : zM} (C : zJ G true (24) 43 253 mX10_link (zKI F) J) 
    (h : qX9_wrongAt G 1 40 μ (fun v1 μ1 => zin v1 ∧ ((v1 < 0 → qX3_read G (zr μ1 5 8) (zi μ1 8 0) μ1 (fun v4 μ4 => ∃ b5, v4 = some b5 ∧ zok true (zup μ4 1 1 0) b5 (3, 3) ∧ zin (zi (zup μ4 1 1 0) b5 1) ∧ ((zi (zup μ4 1 1 0) b5 1 ≤ 500 → zok true (zup μ4 1 1 0) b5 (3, 3) ∧ zin (zi (zup μ4 1 1 0) b5 2) ∧ ((zi (zup μ4 1 1 0) b5 2 ≤ 6 → qX1_draft G 5 (zup μ4 1 1 0) (fun μ12 => zok true (zupr μ12 5 8 v4) b5 (3, 3) ∧ qX10_settled G (zi (zupr μ12 5 8 v4) b5 1) (zupr μ12 5 8 v4) (fun v14 μ14 => F v14 μ14))) ∧ (¬ (zi (zup μ4 1 1 0) b5 2 ≤ 6) → F (-201) (zup μ4 1 1 0)))) ∧ (¬ (zi (zup μ4 1 1 0) b5 1 ≤ 500) → F (-200) (zup μ4 1 1 0))))) ∧ (¬ (v1 < 0) → qX10_refusedText G v1 μ1 (fun v15 μ15 => F v15 μ15))))) : J 0 ([some (zR (some 0)), none, none], [], μ, 0, 0) := by
  obtain ⟨p, e, s, m, args, below, meth, c, A, hml, hr, hlk, hnm, rfl⟩ := C
  refine s_aload_n A dX10_link_0 rfl ?_
  refine s_getf (k := 10) (j := 0) (sl := true) (v := zR (some 1)) A dX10_link_1 rfl zuw_X10 (Nat.le_of_ble_eq_true rfl) zwd338 (by decide) (zk_0 _) rfl ?_
  refine s_iconst A dX10_link_4 ?_
  refine s_bipush A dX10_link_5 rfl ?_
  refine s_callV (a := 1) (k := 9) (N := 2) (sl := true) (M := mX9_wrongAt) (n := 2) (d := 10) (mc := 0) (ms := 0) (av := [zI 1, zI 40]) (st := []) A dX10_link_7 rfl (by decide) (zk_1 _) zwd400 zwd401 zwd402 zwd90 zcd_X9_wrongAt (Nat.le_of_ble_eq_true rfl) (Nat.le_of_ble_eq_true rfl) (Nat.le_refl _) ⟨Nat.le_of_ble_eq_true rfl, Nat.le_of_ble_eq_true rfl⟩ ⟨rfl, zhn_X9_wrongAt⟩ rfl (Nat.le_of_ble_eq_true rfl) rfl (z_contI (fun v1 μ1 h => ?_) h)
  refine s_istore_n (L' := [some (zR (some 0)), some (zI v1), none]) A dX10_link_10 (Nat.le_of_ble_eq_true rfl) rfl ?_
  refine s_iload_n A dX10_link_11 rfl ?_
  obtain ⟨oz2, h⟩ := h
  refine z_if_lt (tgt := 21) A dX10_link_12 (by decide) oz2 (fun c3 => ?_) (fun c3 => ?_)
  · have h := h.1 c3
    refine s_aload_n A dX10_link_21 rfl ?_
    refine s_getf (k := 10) (j := 0) (sl := true) (v := zR (some 1)) A dX10_link_22 rfl zuw_X10 (Nat.le_of_ble_eq_true rfl) zwd338 (by decide) (zk_0 _) rfl ?_
    refine s_aload_n A dX10_link_25 rfl ?_
    refine s_getf (k := 10) (j := 2) (sl := true) (v := zR (some 5)) A dX10_link_26 rfl zuw_X10 (Nat.le_of_ble_eq_true rfl) zwd340 (by decide) (zk_0 _) rfl ?_
    refine s_getf (k := 7) (j := 8) (sl := true) (v := zR (zr μ1 5 8)) A dX10_link_29 rfl zuw_X7 (Nat.le_of_ble_eq_true rfl) zwd204 (by decide) (zk_5 _) rfl ?_
    refine s_aload_n A dX10_link_32 rfl ?_
    refine s_getf (k := 10) (j := 2) (sl := true) (v := zR (some 5)) A dX10_link_33 rfl zuw_X10 (Nat.le_of_ble_eq_true rfl) zwd340 (by decide) (zk_0 _) rfl ?_
    refine s_getf (k := 7) (j := 2) (sl := true) (v := zR (some 8)) A dX10_link_36 rfl zuw_X7 (Nat.le_of_ble_eq_true rfl) zwd190 (by decide) (zk_5 _) rfl ?_
    refine s_iconst A dX10_link_39 ?_
    refine z_iald A dX10_link_40 (zk_8 _) (Nat.le_of_ble_eq_true rfl) ⟨by decide, by decide⟩ ?_
    refine s_callS (M := mX3_read) (n := 3) (d := 23) (mc := 43) (ms := 253) (av := [zR (some 1), zR (zr μ1 5 8), zI (zi μ1 8 0)]) (st := []) A dX10_link_41 zwd644 zwd645 zwd93 zcd_X3_read (Nat.le_of_ble_eq_true rfl) (Nat.le_of_ble_eq_true rfl) (Nat.le_refl _) ⟨Nat.le_of_ble_eq_true rfl, Nat.le_of_ble_eq_true rfl⟩ zhn_X3_read rfl (Nat.le_of_ble_eq_true rfl) rfl (z_contR (fun v4 μ4 h => ?_) h)
    refine s_astore_n (L' := [some (zR (some 0)), some (zI v1), some (zR v4)]) A dX10_link_44 (Nat.le_of_ble_eq_true rfl) rfl ?_
    refine s_aload_n A dX10_link_45 rfl ?_
    refine s_getf (k := 10) (j := 0) (sl := true) (v := zR (some 1)) A dX10_link_46 rfl zuw_X10 (Nat.le_of_ble_eq_true rfl) zwd338 (by decide) (zk_0 _) rfl ?_
    refine s_iconst A dX10_link_49 ?_
    refine z_putI (k := 9) (j := 1) (sl := true) A dX10_link_50 rfl zuw_X9 (Nat.le_of_ble_eq_true rfl) zwd129 (by decide) (zk_1 _) tyX9 tyX9_ok nmX9 rfl rfl rfl ?_
    refine s_aload_n A dX10_link_53 rfl ?_
    obtain ⟨b5, c5, h⟩ := h
    refine z_eqS (st' := [zR (some b5)]) (by rw [c5] <;> rfl) ?_
    obtain ⟨o6, h⟩ := h
    refine s_getf (k := 3) (j := 1) (sl := false) (v := zI (zi (zup μ4 1 1 0) b5 1)) A dX10_link_54 rfl zuw_X3 (Nat.le_of_ble_eq_true rfl) zwd173 (by decide) o6 rfl ?_
    refine s_sipush A dX10_link_57 rfl ?_
    obtain ⟨oz7, h⟩ := h
    refine z_icmp_le (tgt := 67) A dX10_link_60 (by decide) oz7 ⟨by decide, by decide⟩ (fun c8 => ?_) (fun c8 => ?_)
    · have h := h.1 c8
      refine s_aload_n A dX10_link_67 rfl ?_
      refine z_eqS (st' := [zR (some b5)]) (by rw [c5] <;> rfl) ?_
      obtain ⟨o9, h⟩ := h
      refine s_getf (k := 3) (j := 2) (sl := false) (v := zI (zi (zup μ4 1 1 0) b5 2)) A dX10_link_68 rfl zuw_X3 (Nat.le_of_ble_eq_true rfl) zwd175 (by decide) o9 rfl ?_
      refine s_bipush A dX10_link_71 rfl ?_
      obtain ⟨oz10, h⟩ := h
      refine z_icmp_le (tgt := 80) A dX10_link_73 (by decide) oz10 ⟨by decide, by decide⟩ (fun c11 => ?_) (fun c11 => ?_)
      · have h := h.1 c11
        refine s_aload_n A dX10_link_80 rfl ?_
        refine s_getf (k := 10) (j := 3) (sl := true) (v := zR (some 13)) A dX10_link_81 rfl zuw_X10 (Nat.le_of_ble_eq_true rfl) zwd341 (by decide) (zk_0 _) rfl ?_
        refine s_aload_n A dX10_link_84 rfl ?_
        refine s_getf (k := 10) (j := 2) (sl := true) (v := zR (some 5)) A dX10_link_85 rfl zuw_X10 (Nat.le_of_ble_eq_true rfl) zwd340 (by decide) (zk_0 _) rfl ?_
        refine s_callV (a := 13) (k := 1) (N := 3) (sl := true) (M := mX1_draft) (n := 1) (d := 3) (mc := 0) (ms := 0) (av := [zR (some 5)]) (st := []) A dX10_link_88 rfl (by decide) (zk_13 _) zwd553 zwd554 zwd555 zwd94 zcd_X1_draft (Nat.le_of_ble_eq_true rfl) (Nat.le_of_ble_eq_true rfl) (Nat.le_refl _) ⟨Nat.le_of_ble_eq_true rfl, Nat.le_of_ble_eq_true rfl⟩ ⟨rfl, zhn_X1_draft⟩ rfl (Nat.le_of_ble_eq_true rfl) rfl (z_contV (fun μ12 h => ?_) h)
        refine s_aload_n A dX10_link_91 rfl ?_
        refine s_getf (k := 10) (j := 2) (sl := true) (v := zR (some 5)) A dX10_link_92 rfl zuw_X10 (Nat.le_of_ble_eq_true rfl) zwd340 (by decide) (zk_0 _) rfl ?_
        refine s_aload_n A dX10_link_95 rfl ?_
        refine z_putR (k := 7) (j := 8) (sl := true) A dX10_link_96 rfl zuw_X7 (Nat.le_of_ble_eq_true rfl) zwd204 (by decide) (zk_5 _) tyX7 tyX7_ok nmX7 rfl (Or.inr rfl) rfl (Or.inl ⟨_, rfl⟩) rfl ?_
        refine s_aload_n A dX10_link_99 rfl ?_
        refine s_aload_n A dX10_link_100 rfl ?_
        refine z_eqS (st' := [zR (some b5), zR (some 0)]) (by rw [c5] <;> rfl) ?_
        obtain ⟨o13, h⟩ := h
        refine s_getf (k := 3) (j := 1) (sl := false) (v := zI (zi (zupr μ12 5 8 v4) b5 1)) A dX10_link_101 rfl zuw_X3 (Nat.le_of_ble_eq_true rfl) zwd173 (by decide) o13 rfl ?_
        refine s_callV (a := 0) (k := 10) (N := 15) (sl := true) (M := mX10_settled) (n := 1) (d := 2) (mc := 0) (ms := 0) (av := [zI (zi (zupr μ12 5 8 v4) b5 1)]) (st := []) A dX10_link_104 rfl (by decide) (zk_0 _) zwd612 zwd614 zwd3 zwd89 zcd_X10_settled (Nat.le_of_ble_eq_true rfl) (Nat.le_of_ble_eq_true rfl) (Nat.le_refl _) ⟨Nat.le_of_ble_eq_true rfl, Nat.le_of_ble_eq_true rfl⟩ ⟨rfl, zhn_X10_settled⟩ rfl (Nat.le_of_ble_eq_true rfl) rfl (z_contI (fun v14 μ14 h => ?_) h)
        exact s_iret A dX10_link_107 hr hlk (Nat.le_of_ble_eq_true rfl) (Nat.le_of_ble_eq_true rfl) ⟨_, rfl, h⟩
      · have h := h.2 c11
        refine s_sipush A dX10_link_76 rfl ?_
        exact s_iret A dX10_link_79 hr hlk (Nat.le_of_ble_eq_true rfl) (Nat.le_of_ble_eq_true rfl) ⟨_, rfl, h⟩
    · have h := h.2 c8
      refine s_sipush A dX10_link_63 rfl ?_
      exact s_iret A dX10_link_66 hr hlk (Nat.le_of_ble_eq_true rfl) (Nat.le_of_ble_eq_true rfl) ⟨_, rfl, h⟩
  · have h := h.2 c3
    refine s_aload_n A dX10_link_15 rfl ?_
    refine s_iload_n A dX10_link_16 rfl ?_
    refine s_callV (a := 0) (k := 10) (N := 15) (sl := true) (M := mX10_refusedText) (n := 1) (d := 0) (mc := 0) (ms := 0) (av := [zI v1]) (st := []) A dX10_link_17 rfl (by decide) (zk_0 _) zwd549 zwd551 zwd0 zwd89 zcd_X10_refusedText (Nat.le_of_ble_eq_true rfl) (Nat.le_of_ble_eq_true rfl) (Nat.le_refl _) ⟨Nat.le_of_ble_eq_true rfl, Nat.le_of_ble_eq_true rfl⟩ ⟨rfl, zhn_X10_refusedText⟩ rfl (Nat.le_of_ble_eq_true rfl) rfl (z_contI (fun v15 μ15 h => ?_) h)
    exact s_iret A dX10_link_20 hr hlk (Nat.le_of_ble_eq_true rfl) (Nat.le_of_ble_eq_true rfl) ⟨_, rfl, h⟩
theorem eX10_link {G : zG} {F : Int → zM → Prop} {μ : zM}  (h : ∀ J, zJ G true (24) 43 253 mX10_link (zKI F) J → J 0 ([some (zR (some 0)), none, none], [], μ, 0, 0)) : qX10_link G  μ F :=
  z_body (by decide +kernel) (Nat.le_of_ble_eq_true rfl) h
set_option maxRecDepth 20000 in
theorem rX10_picture_e {G : zG} {F : Int → zM → Prop} {J : Nat → zS → Prop} {μ : zM} (C : zJ G true (11) 0 0 mX10_picture (zKI F) J) 
    (h : qX9_pictureWrongAt G μ (fun v1 μ1 => zin v1 ∧ ((v1 < 0 → qX1_draft G 5 μ1 (fun μ4 => qX7_hang G 5 μ4 (fun μ5 => qX7_cellCount G 5 (zup μ5 1 1 0) (fun v6 μ6 => qX10_settled G v6 μ6 (fun v7 μ7 => F v7 μ7))))) ∧ (¬ (v1 < 0) → qX10_refusedText G v1 μ1 (fun v8 μ8 => F v8 μ8))))) : J 0 ([some (zR (some 0)), none], [], μ, 0, 0) := by
  obtain ⟨p, e, s, m, args, below, meth, c, A, hml, hr, hlk, hnm, rfl⟩ := C
  refine s_aload_n A dX10_picture_0 rfl ?_
  refine s_getf (k := 10) (j := 0) (sl := true) (v := zR (some 1)) A dX10_picture_1 rfl zuw_X10 (Nat.le_of_ble_eq_true rfl) zwd338 (by decide) (zk_0 _) rfl ?_
  refine s_callV (a := 1) (k := 9) (N := 2) (sl := true) (M := mX9_pictureWrongAt) (n := 0) (d := 10) (mc := 0) (ms := 0) (av := []) (st := []) A dX10_picture_4 rfl (by decide) (zk_1 _) zwd710 zwd711 zwd712 zwd90 zcd_X9_pictureWrongAt (Nat.le_of_ble_eq_true rfl) (Nat.le_of_ble_eq_true rfl) (Nat.le_refl _) ⟨Nat.le_of_ble_eq_true rfl, Nat.le_of_ble_eq_true rfl⟩ ⟨rfl, zhn_X9_pictureWrongAt⟩ rfl (Nat.le_of_ble_eq_true rfl) rfl (z_contI (fun v1 μ1 h => ?_) h)
  refine s_istore_n (L' := [some (zR (some 0)), some (zI v1)]) A dX10_picture_7 (Nat.le_of_ble_eq_true rfl) rfl ?_
  refine s_iload_n A dX10_picture_8 rfl ?_
  obtain ⟨oz2, h⟩ := h
  refine z_if_lt (tgt := 18) A dX10_picture_9 (by decide) oz2 (fun c3 => ?_) (fun c3 => ?_)
  · have h := h.1 c3
    refine s_aload_n A dX10_picture_18 rfl ?_
    refine s_getf (k := 10) (j := 3) (sl := true) (v := zR (some 13)) A dX10_picture_19 rfl zuw_X10 (Nat.le_of_ble_eq_true rfl) zwd341 (by decide) (zk_0 _) rfl ?_
    refine s_aload_n A dX10_picture_22 rfl ?_
    refine s_getf (k := 10) (j := 2) (sl := true) (v := zR (some 5)) A dX10_picture_23 rfl zuw_X10 (Nat.le_of_ble_eq_true rfl) zwd340 (by decide) (zk_0 _) rfl ?_
    refine s_callV (a := 13) (k := 1) (N := 3) (sl := true) (M := mX1_draft) (n := 1) (d := 3) (mc := 0) (ms := 0) (av := [zR (some 5)]) (st := []) A dX10_picture_26 rfl (by decide) (zk_13 _) zwd553 zwd554 zwd555 zwd94 zcd_X1_draft (Nat.le_of_ble_eq_true rfl) (Nat.le_of_ble_eq_true rfl) (Nat.le_refl _) ⟨Nat.le_of_ble_eq_true rfl, Nat.le_of_ble_eq_true rfl⟩ ⟨rfl, zhn_X1_draft⟩ rfl (Nat.le_of_ble_eq_true rfl) rfl (z_contV (fun μ4 h => ?_) h)
    refine s_aload_n A dX10_picture_29 rfl ?_
    refine s_getf (k := 10) (j := 2) (sl := true) (v := zR (some 5)) A dX10_picture_30 rfl zuw_X10 (Nat.le_of_ble_eq_true rfl) zwd340 (by decide) (zk_0 _) rfl ?_
    refine s_aload_n A dX10_picture_33 rfl ?_
    refine s_getf (k := 10) (j := 0) (sl := true) (v := zR (some 1)) A dX10_picture_34 rfl zuw_X10 (Nat.le_of_ble_eq_true rfl) zwd338 (by decide) (zk_0 _) rfl ?_
    refine s_callV (a := 5) (k := 7) (N := 9) (sl := true) (M := mX7_hang) (n := 1) (d := 2) (mc := 0) (ms := 0) (av := [zR (some 1)]) (st := []) A dX10_picture_37 rfl (by decide) (zk_5 _) zwd714 zwd715 zwd716 zwd92 zcd_X7_hang (Nat.le_of_ble_eq_true rfl) (Nat.le_of_ble_eq_true rfl) (Nat.le_refl _) ⟨Nat.le_of_ble_eq_true rfl, Nat.le_of_ble_eq_true rfl⟩ ⟨rfl, zhn_X7_hang⟩ rfl (Nat.le_of_ble_eq_true rfl) rfl (z_contV (fun μ5 h => ?_) h)
    refine s_aload_n A dX10_picture_40 rfl ?_
    refine s_getf (k := 10) (j := 0) (sl := true) (v := zR (some 1)) A dX10_picture_41 rfl zuw_X10 (Nat.le_of_ble_eq_true rfl) zwd338 (by decide) (zk_0 _) rfl ?_
    refine s_iconst A dX10_picture_44 ?_
    refine z_putI (k := 9) (j := 1) (sl := true) A dX10_picture_45 rfl zuw_X9 (Nat.le_of_ble_eq_true rfl) zwd129 (by decide) (zk_1 _) tyX9 tyX9_ok nmX9 rfl rfl rfl ?_
    refine s_aload_n A dX10_picture_48 rfl ?_
    refine s_aload_n A dX10_picture_49 rfl ?_
    refine s_getf (k := 10) (j := 2) (sl := true) (v := zR (some 5)) A dX10_picture_50 rfl zuw_X10 (Nat.le_of_ble_eq_true rfl) zwd340 (by decide) (zk_0 _) rfl ?_
    refine s_callV (a := 5) (k := 7) (N := 9) (sl := true) (M := mX7_cellCount) (n := 0) (d := 0) (mc := 0) (ms := 0) (av := []) (st := [zR (some 0)]) A dX10_picture_53 rfl (by decide) (zk_5 _) zwd719 zwd720 zwd721 zwd92 zcd_X7_cellCount (Nat.le_of_ble_eq_true rfl) (Nat.le_of_ble_eq_true rfl) (Nat.le_refl _) ⟨Nat.le_of_ble_eq_true rfl, Nat.le_of_ble_eq_true rfl⟩ ⟨rfl, zhn_X7_cellCount⟩ rfl (Nat.le_of_ble_eq_true rfl) rfl (z_contI (fun v6 μ6 h => ?_) h)
    refine s_callV (a := 0) (k := 10) (N := 15) (sl := true) (M := mX10_settled) (n := 1) (d := 2) (mc := 0) (ms := 0) (av := [zI v6]) (st := []) A dX10_picture_56 rfl (by decide) (zk_0 _) zwd612 zwd614 zwd3 zwd89 zcd_X10_settled (Nat.le_of_ble_eq_true rfl) (Nat.le_of_ble_eq_true rfl) (Nat.le_refl _) ⟨Nat.le_of_ble_eq_true rfl, Nat.le_of_ble_eq_true rfl⟩ ⟨rfl, zhn_X10_settled⟩ rfl (Nat.le_of_ble_eq_true rfl) rfl (z_contI (fun v7 μ7 h => ?_) h)
    exact s_iret A dX10_picture_59 hr hlk (Nat.le_of_ble_eq_true rfl) (Nat.le_of_ble_eq_true rfl) ⟨_, rfl, h⟩
  · have h := h.2 c3
    refine s_aload_n A dX10_picture_12 rfl ?_
    refine s_iload_n A dX10_picture_13 rfl ?_
    refine s_callV (a := 0) (k := 10) (N := 15) (sl := true) (M := mX10_refusedText) (n := 1) (d := 0) (mc := 0) (ms := 0) (av := [zI v1]) (st := []) A dX10_picture_14 rfl (by decide) (zk_0 _) zwd549 zwd551 zwd0 zwd89 zcd_X10_refusedText (Nat.le_of_ble_eq_true rfl) (Nat.le_of_ble_eq_true rfl) (Nat.le_refl _) ⟨Nat.le_of_ble_eq_true rfl, Nat.le_of_ble_eq_true rfl⟩ ⟨rfl, zhn_X10_refusedText⟩ rfl (Nat.le_of_ble_eq_true rfl) rfl (z_contI (fun v8 μ8 h => ?_) h)
    exact s_iret A dX10_picture_17 hr hlk (Nat.le_of_ble_eq_true rfl) (Nat.le_of_ble_eq_true rfl) ⟨_, rfl, h⟩
theorem eX10_picture {G : zG} {F : Int → zM → Prop} {μ : zM}  (h : ∀ J, zJ G true (11) 0 0 mX10_picture (zKI F) J → J 0 ([some (zR (some 0)), none], [], μ, 0, 0)) : qX10_picture G  μ F :=
  z_body (by decide +kernel) (Nat.le_of_ble_eq_true rfl) h
set_option maxRecDepth 20000 in
theorem rX10_isBand_e {G : zG} {ph : Bool} {F : Int → zM → Prop} {J : Nat → zS → Prop} {μ : zM} (C : zJ G ph (2) 0 0 mX10_isBand (zKI F) J) (x0 : Int)
    (h : qX10_isIn G ph x0 0 2 μ (fun v1 μ1 => (v1 = 0 ∨ v1 = 1) ∧ F v1 μ1)) : J 0 ([some (zI x0)], [], μ, 0, 0) := by
  obtain ⟨p, e, s, m, args, below, meth, c, A, hml, hr, hlk, hnm, rfl⟩ := C
  refine s_iload_n A dX10_isBand_0 rfl ?_
  refine s_iconst A dX10_isBand_1 ?_
  refine s_iconst A dX10_isBand_2 ?_
  refine s_callS (M := mX10_isIn) (n := 3) (d := 0) (mc := 0) (ms := 0) (av := [zI x0, zI 0, zI 2]) (st := []) A dX10_isBand_3 zwd597 zwd598 zwd89 zcd_X10_isIn (Nat.le_of_ble_eq_true rfl) (Nat.le_of_ble_eq_true rfl) (Nat.le_refl _) ⟨Nat.le_of_ble_eq_true rfl, Nat.le_of_ble_eq_true rfl⟩ zhn_X10_isIn rfl (Nat.le_of_ble_eq_true rfl) rfl (z_contI (fun v1 μ1 h => ?_) h)
  obtain ⟨o1, h⟩ := h
  exact s_zret A dX10_isBand_6 hr hlk (Nat.le_of_ble_eq_true rfl) (Nat.le_of_ble_eq_true rfl) o1 ⟨_, rfl, h⟩
theorem eX10_isBand {G : zG} {ph : Bool} {F : Int → zM → Prop} {μ : zM} {x0 : Int} (h : ∀ J, zJ G ph (2) 0 0 mX10_isBand (zKI F) J → J 0 ([some (zI x0)], [], μ, 0, 0)) : qX10_isBand G ph x0 μ F :=
  z_body (by decide +kernel) (Nat.le_of_ble_eq_true rfl) h
set_option maxRecDepth 20000 in
theorem rX10_entryOf_e {G : zG} {ph : Bool} {F : Int → zM → Prop} {J : Nat → zS → Prop} {μ : zM} (C : zJ G ph (0) 0 0 mX10_entryOf (zKI F) J) (x0 : Int) (x1 : Int)
    (h : zin x0 ∧ ((¬ x0 = 0 → ((¬ x0 = 1 → F x1 μ) ∧ (x0 = 1 → F (zsh x1) μ))) ∧ (x0 = 0 → F (zb x1) μ))) : J 0 ([some (zI x0), some (zI x1)], [], μ, 0, 0) := by
  obtain ⟨p, e, s, m, args, below, meth, c, A, hml, hr, hlk, hnm, rfl⟩ := C
  refine s_iload_n A dX10_entryOf_0 rfl ?_
  obtain ⟨oz1, h⟩ := h
  refine z_if_ne (tgt := 7) A dX10_entryOf_1 (by decide) oz1 (fun c2 => ?_) (fun c2 => ?_)
  · have h := h.1 c2
    refine s_iload_n A dX10_entryOf_7 rfl ?_
    refine s_iconst A dX10_entryOf_8 ?_
    refine z_icmp_ne (tgt := 17) A dX10_entryOf_9 (by decide) oz1 ⟨by decide, by decide⟩ (fun c3 => ?_) (fun c3 => ?_)
    · have h := h.1 c3
      refine s_iload_n A dX10_entryOf_17 rfl ?_
      exact s_iret A dX10_entryOf_18 hr hlk (Nat.le_of_ble_eq_true rfl) (Nat.le_of_ble_eq_true rfl) ⟨_, rfl, h⟩
    · have h := h.2 c3
      refine s_iload_n A dX10_entryOf_12 rfl ?_
      refine s_i2s A dX10_entryOf_13 ?_
      refine s_goto (tgt := 18) A dX10_entryOf_14 (by decide) ?_
      exact s_iret A dX10_entryOf_18 hr hlk (Nat.le_of_ble_eq_true rfl) (Nat.le_of_ble_eq_true rfl) ⟨_, rfl, h⟩
  · have h := h.2 c2
    refine s_iload_n A dX10_entryOf_4 rfl ?_
    refine s_i2b A dX10_entryOf_5 ?_
    exact s_iret A dX10_entryOf_6 hr hlk (Nat.le_of_ble_eq_true rfl) (Nat.le_of_ble_eq_true rfl) ⟨_, rfl, h⟩
theorem eX10_entryOf {G : zG} {ph : Bool} {F : Int → zM → Prop} {μ : zM} {x0 : Int} {x1 : Int} (h : ∀ J, zJ G ph (0) 0 0 mX10_entryOf (zKI F) J → J 0 ([some (zI x0), some (zI x1)], [], μ, 0, 0)) : qX10_entryOf G ph x0 x1 μ F :=
  z_body (by decide +kernel) (Nat.le_of_ble_eq_true rfl) h
set_option maxRecDepth 20000 in
theorem rX10_sheet_e {G : zG} {F : Int → zM → Prop} {J : Nat → zS → Prop} {μ : zM} (C : zJ G true (9) 0 0 mX10_sheet (zKI F) J) (x1 : Int) (x2 : Int) (x3 : Int) (x4 : Int)
    (h : qX10_isIn G true x1 0 3 μ (fun v1 μ1 => zin v1 ∧ ((v1 = 0 → F (-1) μ1) ∧ (¬ (v1 = 0) → zin x2 ∧ zin (9 * 3) ∧ ((x2 ≤ 9 * 3 → ((0 ≤ x2 → J 39 ([some (zR (some 0)), some (zI x1), some (zI x2), some (zI x3), some (zI x4), some (zI 0), some (zI 0), none], [], μ1, 0, 0)) ∧ (¬ (0 ≤ x2) → zin x1 ∧ ((x1 = 3 → J 39 ([some (zR (some 0)), some (zI x1), some (zI x2), some (zI x3), some (zI x4), some (zI 0), some (zI 0), none], [], μ1, 0, 0)) ∧ (¬ (x1 = 3) → F (-2) μ1))))) ∧ (¬ (x2 ≤ 9 * 3) → F (-1) μ1)))))) : J 0 ([some (zR (some 0)), some (zI x1), some (zI x2), some (zI x3), some (zI x4), none, none, none], [], μ, 0, 0) := by
  obtain ⟨p, e, s, m, args, below, meth, c, A, hml, hr, hlk, hnm, rfl⟩ := C
  refine s_iload_n A dX10_sheet_0 rfl ?_
  refine s_iconst A dX10_sheet_1 ?_
  refine s_iconst A dX10_sheet_2 ?_
  refine s_callS (M := mX10_isIn) (n := 3) (d := 0) (mc := 0) (ms := 0) (av := [zI x1, zI 0, zI 3]) (st := []) A dX10_sheet_3 zwd597 zwd598 zwd89 zcd_X10_isIn (Nat.le_of_ble_eq_true rfl) (Nat.le_of_ble_eq_true rfl) (Nat.le_refl _) ⟨Nat.le_of_ble_eq_true rfl, Nat.le_of_ble_eq_true rfl⟩ zhn_X10_isIn rfl (Nat.le_of_ble_eq_true rfl) rfl (z_contI (fun v1 μ1 h => ?_) h)
  obtain ⟨oz2, h⟩ := h
  refine z_if_eq (tgt := 19) A dX10_sheet_6 (by decide) oz2 (fun c3 => ?_) (fun c3 => ?_)
  · have h := h.1 c3
    refine s_iconst A dX10_sheet_19 ?_
    exact s_iret A dX10_sheet_20 hr hlk (Nat.le_of_ble_eq_true rfl) (Nat.le_of_ble_eq_true rfl) ⟨_, rfl, h⟩
  · have h := h.2 c3
    refine s_iload_n A dX10_sheet_9 rfl ?_
    refine s_getsT (t := 3) A dX10_sheet_10 (by decide) zwd727 ?_
    refine s_tlen A dX10_sheet_13 (by decide) ?_
    refine s_iconst A dX10_sheet_14 ?_
    refine s_imul A dX10_sheet_15 ?_
    obtain ⟨oz4, h⟩ := h
    obtain ⟨oz5, h⟩ := h
    refine z_icmp_le (tgt := 21) A dX10_sheet_16 (by decide) oz4 oz5 (fun c6 => ?_) (fun c6 => ?_)
    · have h := h.1 c6
      refine s_iload_n A dX10_sheet_21 rfl ?_
      refine z_if_ge (tgt := 33) A dX10_sheet_22 (by decide) oz4 (fun c7 => ?_) (fun c7 => ?_)
      · have h := h.1 c7
        refine s_iconst A dX10_sheet_33 ?_
        refine s_istore (L' := [some (zR (some 0)), some (zI x1), some (zI x2), some (zI x3), some (zI x4), some (zI 0), none, none]) A dX10_sheet_34 (Nat.le_of_ble_eq_true rfl) rfl ?_
        refine s_iconst A dX10_sheet_36 ?_
        refine s_istore (L' := [some (zR (some 0)), some (zI x1), some (zI x2), some (zI x3), some (zI x4), some (zI 0), some (zI 0), none]) A dX10_sheet_37 (Nat.le_of_ble_eq_true rfl) rfl ?_
        exact h
      · have h := h.2 c7
        refine s_iload_n A dX10_sheet_25 rfl ?_
        refine s_iconst A dX10_sheet_26 ?_
        obtain ⟨oz8, h⟩ := h
        refine z_icmp_eq (tgt := 33) A dX10_sheet_27 (by decide) oz8 ⟨by decide, by decide⟩ (fun c9 => ?_) (fun c9 => ?_)
        · have h := h.1 c9
          refine s_iconst A dX10_sheet_33 ?_
          refine s_istore (L' := [some (zR (some 0)), some (zI x1), some (zI x2), some (zI x3), some (zI x4), some (zI 0), none, none]) A dX10_sheet_34 (Nat.le_of_ble_eq_true rfl) rfl ?_
          refine s_iconst A dX10_sheet_36 ?_
          refine s_istore (L' := [some (zR (some 0)), some (zI x1), some (zI x2), some (zI x3), some (zI x4), some (zI 0), some (zI 0), none]) A dX10_sheet_37 (Nat.le_of_ble_eq_true rfl) rfl ?_
          exact h
        · have h := h.2 c9
          refine s_bipush A dX10_sheet_30 rfl ?_
          exact s_iret A dX10_sheet_32 hr hlk (Nat.le_of_ble_eq_true rfl) (Nat.le_of_ble_eq_true rfl) ⟨_, rfl, h⟩
    · have h := h.2 c6
      refine s_iconst A dX10_sheet_19 ?_
      exact s_iret A dX10_sheet_20 hr hlk (Nat.le_of_ble_eq_true rfl) (Nat.le_of_ble_eq_true rfl) ⟨_, rfl, h⟩
set_option maxRecDepth 20000 in
theorem rX10_sheet_39 {G : zG} {F : Int → zM → Prop} {J : Nat → zS → Prop} {μ : zM} (C : zJ G true (9) 0 0 mX10_sheet (zKI F) J) (x1 : Int) (x2 : Int) (x3 : Int) (x4 : Int) (x5 : Int) (x6 : Int)
    (h : zin x6 ∧ zin (9 * 3) ∧ ((9 * 3 ≤ x6 → zin x1 ∧ ((¬ x1 = 3 → F x5 μ) ∧ (x1 = 3 → F (-3) μ))) ∧ (¬ (9 * 3 ≤ x6) → zin x1 ∧ ((x1 = 3 → (0 ≤ x6 ∧ x6 < 2147483648) ∧ (0 ≤ x6 / 3 ∧ x6 / 3 < 9) ∧ (0 ≤ x6 ∧ x6 < 2147483648) ∧ (0 ≤ ((zta 3 (x6 / 3)) * 3) + (x6 % 3) ∧ ((zta 3 (x6 / 3)) * 3) + (x6 % 3) < 243) ∧ J 39 ([some (zR (some 0)), some (zI x1), some (zI x2), some (zI x3), some (zI x4), some (zI (x5 + 100)), some (zI (x6 + 1)), none], [], zup μ 6 (((zta 3 (x6 / 3)) * 3) + (x6 % 3)) 100, 0, 0)) ∧ (¬ (x1 = 3) → zin x2 ∧ ((x2 ≤ x6 → (0 ≤ x6 ∧ x6 < 2147483648) ∧ (0 ≤ x6 / 3 ∧ x6 / 3 < 9) ∧ (0 ≤ x6 ∧ x6 < 2147483648) ∧ (0 ≤ ((zta 3 (x6 / 3)) * 3) + (x6 % 3) ∧ ((zta 3 (x6 / 3)) * 3) + (x6 % 3) < 243) ∧ J 39 ([some (zR (some 0)), some (zI x1), some (zI x2), some (zI x3), some (zI x4), some (zI (x5 + 100)), some (zI (x6 + 1)), none], [], zup μ 6 (((zta 3 (x6 / 3)) * 3) + (x6 % 3)) 100, 0, 0)) ∧ (¬ (x2 ≤ x6) → qX10_entryOf G true x1 (x3 + (x6 * x4)) μ (fun v14 μ14 => qX10_put G true v14 100 μ14 (fun v15 μ15 => (0 ≤ x6 ∧ x6 < 2147483648) ∧ (0 ≤ x6 / 3 ∧ x6 / 3 < 9) ∧ (0 ≤ x6 ∧ x6 < 2147483648) ∧ (0 ≤ ((zta 3 (x6 / 3)) * 3) + (x6 % 3) ∧ ((zta 3 (x6 / 3)) * 3) + (x6 % 3) < 243) ∧ J 39 ([some (zR (some 0)), some (zI x1), some (zI x2), some (zI x3), some (zI x4), some (zI (x5 + v15)), some (zI (x6 + 1)), none], [], zup μ15 6 (((zta 3 (x6 / 3)) * 3) + (x6 % 3)) v15, 0, 0)))))))))) : J 39 ([some (zR (some 0)), some (zI x1), some (zI x2), some (zI x3), some (zI x4), some (zI x5), some (zI x6), none], [], μ, 0, 0) := by
  obtain ⟨p, e, s, m, args, below, meth, c, A, hml, hr, hlk, hnm, rfl⟩ := C
  refine s_iload A dX10_sheet_39 rfl ?_
  refine s_getsT (t := 3) A dX10_sheet_41 (by decide) zwd727 ?_
  refine s_tlen A dX10_sheet_44 (by decide) ?_
  refine s_iconst A dX10_sheet_45 ?_
  refine s_imul A dX10_sheet_46 ?_
  obtain ⟨oz1, h⟩ := h
  obtain ⟨oz2, h⟩ := h
  refine z_icmp_ge (tgt := 121) A dX10_sheet_47 (by decide) oz1 oz2 (fun c3 => ?_) (fun c3 => ?_)
  · have h := h.1 c3
    refine s_iload_n A dX10_sheet_121 rfl ?_
    refine s_iconst A dX10_sheet_122 ?_
    obtain ⟨oz4, h⟩ := h
    refine z_icmp_ne (tgt := 131) A dX10_sheet_123 (by decide) oz4 ⟨by decide, by decide⟩ (fun c5 => ?_) (fun c5 => ?_)
    · have h := h.1 c5
      refine s_iload A dX10_sheet_131 rfl ?_
      exact s_iret A dX10_sheet_133 hr hlk (Nat.le_of_ble_eq_true rfl) (Nat.le_of_ble_eq_true rfl) ⟨_, rfl, h⟩
    · have h := h.2 c5
      refine s_bipush A dX10_sheet_126 rfl ?_
      refine s_goto (tgt := 133) A dX10_sheet_128 (by decide) ?_
      exact s_iret A dX10_sheet_133 hr hlk (Nat.le_of_ble_eq_true rfl) (Nat.le_of_ble_eq_true rfl) ⟨_, rfl, h⟩
  · have h := h.2 c3
    refine s_bipush A dX10_sheet_50 rfl ?_
    refine s_istore (L' := [some (zR (some 0)), some (zI x1), some (zI x2), some (zI x3), some (zI x4), some (zI x5), some (zI x6), some (zI 100)]) A dX10_sheet_52 (Nat.le_of_ble_eq_true rfl) rfl ?_
    refine s_iload_n A dX10_sheet_54 rfl ?_
    refine s_iconst A dX10_sheet_55 ?_
    obtain ⟨oz6, h⟩ := h
    refine z_icmp_eq (tgt := 83) A dX10_sheet_56 (by decide) oz6 ⟨by decide, by decide⟩ (fun c7 => ?_) (fun c7 => ?_)
    · have h := h.1 c7
      refine s_aload_n A dX10_sheet_83 rfl ?_
      refine s_getf (k := 10) (j := 2) (sl := true) (v := zR (some 5)) A dX10_sheet_84 rfl zuw_X10 (Nat.le_of_ble_eq_true rfl) zwd340 (by decide) (zk_0 _) rfl ?_
      refine s_getf (k := 7) (j := 0) (sl := true) (v := zR (some 6)) A dX10_sheet_87 rfl zuw_X7 (Nat.le_of_ble_eq_true rfl) zwd185 (by decide) (zk_5 _) rfl ?_
      refine s_getsT (t := 3) A dX10_sheet_90 (by decide) zwd727 ?_
      refine s_iload A dX10_sheet_93 rfl ?_
      refine s_iconst A dX10_sheet_95 ?_
      obtain ⟨o1, h⟩ := h
      refine z_idiv A dX10_sheet_96 o1 ⟨by decide, by decide⟩ ?_
      obtain ⟨ox8, h⟩ := h
      refine z_tald A dX10_sheet_97 (by decide) (Nat.le_of_ble_eq_true rfl) ox8 ?_
      refine s_iconst A dX10_sheet_98 ?_
      refine s_imul A dX10_sheet_99 ?_
      refine s_iload A dX10_sheet_100 rfl ?_
      refine s_iconst A dX10_sheet_102 ?_
      obtain ⟨o1, h⟩ := h
      refine z_irem A dX10_sheet_103 o1 ⟨by decide, by decide⟩ ?_
      refine s_iadd A dX10_sheet_104 ?_
      refine s_iload A dX10_sheet_105 rfl ?_
      obtain ⟨ox9, h⟩ := h
      refine z_iast A dX10_sheet_107 (zk_6 _) (Nat.le_of_ble_eq_true rfl) ox9 ?_
      refine s_iload A dX10_sheet_108 rfl ?_
      refine s_iload A dX10_sheet_110 rfl ?_
      refine s_iadd A dX10_sheet_112 ?_
      refine s_istore (L' := [some (zR (some 0)), some (zI x1), some (zI x2), some (zI x3), some (zI x4), some (zI (x5 + 100)), some (zI x6), some (zI 100)]) A dX10_sheet_113 (Nat.le_of_ble_eq_true rfl) rfl ?_
      refine s_iinc (L' := [some (zR (some 0)), some (zI x1), some (zI x2), some (zI x3), some (zI x4), some (zI (x5 + 100)), some (zI (x6 + 1)), some (zI 100)]) A dX10_sheet_115 rfl rfl ?_
      refine s_goto (tgt := 39) A dX10_sheet_118 (by decide) ?_
      exact z_wk (L' := [some (zR (some 0)), some (zI x1), some (zI x2), some (zI x3), some (zI x4), some (zI (x5 + 100)), some (zI (x6 + 1)), none]) ⟨rfl, rfl, rfl, rfl, rfl, rfl, rfl, trivial⟩ h
    · have h := h.2 c7
      refine s_iload A dX10_sheet_59 rfl ?_
      refine s_iload_n A dX10_sheet_61 rfl ?_
      obtain ⟨oz10, h⟩ := h
      refine z_icmp_ge (tgt := 83) A dX10_sheet_62 (by decide) oz1 oz10 (fun c11 => ?_) (fun c11 => ?_)
      · have h := h.1 c11
        refine s_aload_n A dX10_sheet_83 rfl ?_
        refine s_getf (k := 10) (j := 2) (sl := true) (v := zR (some 5)) A dX10_sheet_84 rfl zuw_X10 (Nat.le_of_ble_eq_true rfl) zwd340 (by decide) (zk_0 _) rfl ?_
        refine s_getf (k := 7) (j := 0) (sl := true) (v := zR (some 6)) A dX10_sheet_87 rfl zuw_X7 (Nat.le_of_ble_eq_true rfl) zwd185 (by decide) (zk_5 _) rfl ?_
        refine s_getsT (t := 3) A dX10_sheet_90 (by decide) zwd727 ?_
        refine s_iload A dX10_sheet_93 rfl ?_
        refine s_iconst A dX10_sheet_95 ?_
        obtain ⟨o1, h⟩ := h
        refine z_idiv A dX10_sheet_96 o1 ⟨by decide, by decide⟩ ?_
        obtain ⟨ox12, h⟩ := h
        refine z_tald A dX10_sheet_97 (by decide) (Nat.le_of_ble_eq_true rfl) ox12 ?_
        refine s_iconst A dX10_sheet_98 ?_
        refine s_imul A dX10_sheet_99 ?_
        refine s_iload A dX10_sheet_100 rfl ?_
        refine s_iconst A dX10_sheet_102 ?_
        obtain ⟨o1, h⟩ := h
        refine z_irem A dX10_sheet_103 o1 ⟨by decide, by decide⟩ ?_
        refine s_iadd A dX10_sheet_104 ?_
        refine s_iload A dX10_sheet_105 rfl ?_
        obtain ⟨ox13, h⟩ := h
        refine z_iast A dX10_sheet_107 (zk_6 _) (Nat.le_of_ble_eq_true rfl) ox13 ?_
        refine s_iload A dX10_sheet_108 rfl ?_
        refine s_iload A dX10_sheet_110 rfl ?_
        refine s_iadd A dX10_sheet_112 ?_
        refine s_istore (L' := [some (zR (some 0)), some (zI x1), some (zI x2), some (zI x3), some (zI x4), some (zI (x5 + 100)), some (zI x6), some (zI 100)]) A dX10_sheet_113 (Nat.le_of_ble_eq_true rfl) rfl ?_
        refine s_iinc (L' := [some (zR (some 0)), some (zI x1), some (zI x2), some (zI x3), some (zI x4), some (zI (x5 + 100)), some (zI (x6 + 1)), some (zI 100)]) A dX10_sheet_115 rfl rfl ?_
        refine s_goto (tgt := 39) A dX10_sheet_118 (by decide) ?_
        exact z_wk (L' := [some (zR (some 0)), some (zI x1), some (zI x2), some (zI x3), some (zI x4), some (zI (x5 + 100)), some (zI (x6 + 1)), none]) ⟨rfl, rfl, rfl, rfl, rfl, rfl, rfl, trivial⟩ h
      · have h := h.2 c11
        refine s_iload_n A dX10_sheet_65 rfl ?_
        refine s_iload_n A dX10_sheet_66 rfl ?_
        refine s_iload A dX10_sheet_67 rfl ?_
        refine s_iload A dX10_sheet_69 rfl ?_
        refine s_imul A dX10_sheet_71 ?_
        refine s_iadd A dX10_sheet_72 ?_
        refine s_callS (M := mX10_entryOf) (n := 2) (d := 0) (mc := 0) (ms := 0) (av := [zI x1, zI (x3 + (x6 * x4))]) (st := []) A dX10_sheet_73 zwd729 zwd730 zwd89 zcd_X10_entryOf (Nat.le_of_ble_eq_true rfl) (Nat.le_of_ble_eq_true rfl) (Nat.le_refl _) ⟨Nat.le_of_ble_eq_true rfl, Nat.le_of_ble_eq_true rfl⟩ zhn_X10_entryOf rfl (Nat.le_of_ble_eq_true rfl) rfl (z_contI (fun v14 μ14 h => ?_) h)
        refine s_bipush A dX10_sheet_76 rfl ?_
        refine s_callS (M := mX10_put) (n := 2) (d := 8) (mc := 0) (ms := 0) (av := [zI v14, zI 100]) (st := []) A dX10_sheet_78 zwd732 zwd733 zwd89 zcd_X10_put (Nat.le_of_ble_eq_true rfl) (Nat.le_of_ble_eq_true rfl) (Nat.le_refl _) ⟨Nat.le_of_ble_eq_true rfl, Nat.le_of_ble_eq_true rfl⟩ zhn_X10_put rfl (Nat.le_of_ble_eq_true rfl) rfl (z_contI (fun v15 μ15 h => ?_) h)
        refine s_istore (L' := [some (zR (some 0)), some (zI x1), some (zI x2), some (zI x3), some (zI x4), some (zI x5), some (zI x6), some (zI v15)]) A dX10_sheet_81 (Nat.le_of_ble_eq_true rfl) rfl ?_
        refine s_aload_n A dX10_sheet_83 rfl ?_
        refine s_getf (k := 10) (j := 2) (sl := true) (v := zR (some 5)) A dX10_sheet_84 rfl zuw_X10 (Nat.le_of_ble_eq_true rfl) zwd340 (by decide) (zk_0 _) rfl ?_
        refine s_getf (k := 7) (j := 0) (sl := true) (v := zR (some 6)) A dX10_sheet_87 rfl zuw_X7 (Nat.le_of_ble_eq_true rfl) zwd185 (by decide) (zk_5 _) rfl ?_
        refine s_getsT (t := 3) A dX10_sheet_90 (by decide) zwd727 ?_
        refine s_iload A dX10_sheet_93 rfl ?_
        refine s_iconst A dX10_sheet_95 ?_
        obtain ⟨o1, h⟩ := h
        refine z_idiv A dX10_sheet_96 o1 ⟨by decide, by decide⟩ ?_
        obtain ⟨ox16, h⟩ := h
        refine z_tald A dX10_sheet_97 (by decide) (Nat.le_of_ble_eq_true rfl) ox16 ?_
        refine s_iconst A dX10_sheet_98 ?_
        refine s_imul A dX10_sheet_99 ?_
        refine s_iload A dX10_sheet_100 rfl ?_
        refine s_iconst A dX10_sheet_102 ?_
        obtain ⟨o1, h⟩ := h
        refine z_irem A dX10_sheet_103 o1 ⟨by decide, by decide⟩ ?_
        refine s_iadd A dX10_sheet_104 ?_
        refine s_iload A dX10_sheet_105 rfl ?_
        obtain ⟨ox17, h⟩ := h
        refine z_iast A dX10_sheet_107 (zk_6 _) (Nat.le_of_ble_eq_true rfl) ox17 ?_
        refine s_iload A dX10_sheet_108 rfl ?_
        refine s_iload A dX10_sheet_110 rfl ?_
        refine s_iadd A dX10_sheet_112 ?_
        refine s_istore (L' := [some (zR (some 0)), some (zI x1), some (zI x2), some (zI x3), some (zI x4), some (zI (x5 + v15)), some (zI x6), some (zI v15)]) A dX10_sheet_113 (Nat.le_of_ble_eq_true rfl) rfl ?_
        refine s_iinc (L' := [some (zR (some 0)), some (zI x1), some (zI x2), some (zI x3), some (zI x4), some (zI (x5 + v15)), some (zI (x6 + 1)), some (zI v15)]) A dX10_sheet_115 rfl rfl ?_
        refine s_goto (tgt := 39) A dX10_sheet_118 (by decide) ?_
        exact z_wk (L' := [some (zR (some 0)), some (zI x1), some (zI x2), some (zI x3), some (zI x4), some (zI (x5 + v15)), some (zI (x6 + 1)), none]) ⟨rfl, rfl, rfl, rfl, rfl, rfl, rfl, trivial⟩ h
theorem eX10_sheet {G : zG} {F : Int → zM → Prop} {μ : zM} {x1 : Int} {x2 : Int} {x3 : Int} {x4 : Int} (h : ∀ J, zJ G true (9) 0 0 mX10_sheet (zKI F) J → J 0 ([some (zR (some 0)), some (zI x1), some (zI x2), some (zI x3), some (zI x4), none, none, none], [], μ, 0, 0)) : qX10_sheet G x1 x2 x3 x4 μ F :=
  z_body (by decide +kernel) (Nat.le_of_ble_eq_true rfl) h
set_option maxRecDepth 20000 in
theorem rX10_measure_e {G : zG} {F : Int → zM → Prop} {J : Nat → zS → Prop} {μ : zM} (C : zJ G true (4) 0 0 mX10_measure (zKI F) J) (x1 : Int) (x2 : Int) (x3 : Int) (x4 : Int)
    (h : qX1_draft G 5 μ (fun μ1 => qX7_tellPatch G 5 x1 x2 x3 x4 μ1 (fun v2 μ2 => qX10_settled G v2 μ2 (fun v3 μ3 => F v3 μ3)))) : J 0 ([some (zR (some 0)), some (zI x1), some (zI x2), some (zI x3), some (zI x4)], [], μ, 0, 0) := by
  obtain ⟨p, e, s, m, args, below, meth, c, A, hml, hr, hlk, hnm, rfl⟩ := C
  refine s_aload_n A dX10_measure_0 rfl ?_
  refine s_getf (k := 10) (j := 3) (sl := true) (v := zR (some 13)) A dX10_measure_1 rfl zuw_X10 (Nat.le_of_ble_eq_true rfl) zwd341 (by decide) (zk_0 _) rfl ?_
  refine s_aload_n A dX10_measure_4 rfl ?_
  refine s_getf (k := 10) (j := 2) (sl := true) (v := zR (some 5)) A dX10_measure_5 rfl zuw_X10 (Nat.le_of_ble_eq_true rfl) zwd340 (by decide) (zk_0 _) rfl ?_
  refine s_callV (a := 13) (k := 1) (N := 3) (sl := true) (M := mX1_draft) (n := 1) (d := 3) (mc := 0) (ms := 0) (av := [zR (some 5)]) (st := []) A dX10_measure_8 rfl (by decide) (zk_13 _) zwd553 zwd554 zwd555 zwd94 zcd_X1_draft (Nat.le_of_ble_eq_true rfl) (Nat.le_of_ble_eq_true rfl) (Nat.le_refl _) ⟨Nat.le_of_ble_eq_true rfl, Nat.le_of_ble_eq_true rfl⟩ ⟨rfl, zhn_X1_draft⟩ rfl (Nat.le_of_ble_eq_true rfl) rfl (z_contV (fun μ1 h => ?_) h)
  refine s_aload_n A dX10_measure_11 rfl ?_
  refine s_aload_n A dX10_measure_12 rfl ?_
  refine s_getf (k := 10) (j := 2) (sl := true) (v := zR (some 5)) A dX10_measure_13 rfl zuw_X10 (Nat.le_of_ble_eq_true rfl) zwd340 (by decide) (zk_0 _) rfl ?_
  refine s_iload_n A dX10_measure_16 rfl ?_
  refine s_iload_n A dX10_measure_17 rfl ?_
  refine s_iload_n A dX10_measure_18 rfl ?_
  refine s_iload A dX10_measure_19 rfl ?_
  refine s_callV (a := 5) (k := 7) (N := 9) (sl := true) (M := mX7_tellPatch) (n := 4) (d := 3) (mc := 0) (ms := 0) (av := [zI x1, zI x2, zI x3, zI x4]) (st := [zR (some 0)]) A dX10_measure_21 rfl (by decide) (zk_5 _) zwd590 zwd591 zwd592 zwd92 zcd_X7_tellPatch (Nat.le_of_ble_eq_true rfl) (Nat.le_of_ble_eq_true rfl) (Nat.le_refl _) ⟨Nat.le_of_ble_eq_true rfl, Nat.le_of_ble_eq_true rfl⟩ ⟨rfl, zhn_X7_tellPatch⟩ rfl (Nat.le_of_ble_eq_true rfl) rfl (z_contI (fun v2 μ2 h => ?_) h)
  refine s_callV (a := 0) (k := 10) (N := 15) (sl := true) (M := mX10_settled) (n := 1) (d := 2) (mc := 0) (ms := 0) (av := [zI v2]) (st := []) A dX10_measure_24 rfl (by decide) (zk_0 _) zwd612 zwd614 zwd3 zwd89 zcd_X10_settled (Nat.le_of_ble_eq_true rfl) (Nat.le_of_ble_eq_true rfl) (Nat.le_refl _) ⟨Nat.le_of_ble_eq_true rfl, Nat.le_of_ble_eq_true rfl⟩ ⟨rfl, zhn_X10_settled⟩ rfl (Nat.le_of_ble_eq_true rfl) rfl (z_contI (fun v3 μ3 h => ?_) h)
  exact s_iret A dX10_measure_27 hr hlk (Nat.le_of_ble_eq_true rfl) (Nat.le_of_ble_eq_true rfl) ⟨_, rfl, h⟩
theorem eX10_measure {G : zG} {F : Int → zM → Prop} {μ : zM} {x1 : Int} {x2 : Int} {x3 : Int} {x4 : Int} (h : ∀ J, zJ G true (4) 0 0 mX10_measure (zKI F) J → J 0 ([some (zR (some 0)), some (zI x1), some (zI x2), some (zI x3), some (zI x4)], [], μ, 0, 0)) : qX10_measure G x1 x2 x3 x4 μ F :=
  z_body (by decide +kernel) (Nat.le_of_ble_eq_true rfl) h
set_option maxRecDepth 20000 in
theorem rX10_forgets_e {G : zG} {F : Int → zM → Prop} {J : Nat → zS → Prop} {μ : zM} (C : zJ G true (4) 0 0 mX10_forgets (zKI F) J) (x1 : Int)
    (h : qX1_draft G 5 μ (fun μ1 => qX7_dropPatch G 5 x1 μ1 (fun v2 μ2 => qX10_settled G v2 μ2 (fun v3 μ3 => F v3 μ3)))) : J 0 ([some (zR (some 0)), some (zI x1)], [], μ, 0, 0) := by
  obtain ⟨p, e, s, m, args, below, meth, c, A, hml, hr, hlk, hnm, rfl⟩ := C
  refine s_aload_n A dX10_forgets_0 rfl ?_
  refine s_getf (k := 10) (j := 3) (sl := true) (v := zR (some 13)) A dX10_forgets_1 rfl zuw_X10 (Nat.le_of_ble_eq_true rfl) zwd341 (by decide) (zk_0 _) rfl ?_
  refine s_aload_n A dX10_forgets_4 rfl ?_
  refine s_getf (k := 10) (j := 2) (sl := true) (v := zR (some 5)) A dX10_forgets_5 rfl zuw_X10 (Nat.le_of_ble_eq_true rfl) zwd340 (by decide) (zk_0 _) rfl ?_
  refine s_callV (a := 13) (k := 1) (N := 3) (sl := true) (M := mX1_draft) (n := 1) (d := 3) (mc := 0) (ms := 0) (av := [zR (some 5)]) (st := []) A dX10_forgets_8 rfl (by decide) (zk_13 _) zwd553 zwd554 zwd555 zwd94 zcd_X1_draft (Nat.le_of_ble_eq_true rfl) (Nat.le_of_ble_eq_true rfl) (Nat.le_refl _) ⟨Nat.le_of_ble_eq_true rfl, Nat.le_of_ble_eq_true rfl⟩ ⟨rfl, zhn_X1_draft⟩ rfl (Nat.le_of_ble_eq_true rfl) rfl (z_contV (fun μ1 h => ?_) h)
  refine s_aload_n A dX10_forgets_11 rfl ?_
  refine s_aload_n A dX10_forgets_12 rfl ?_
  refine s_getf (k := 10) (j := 2) (sl := true) (v := zR (some 5)) A dX10_forgets_13 rfl zuw_X10 (Nat.le_of_ble_eq_true rfl) zwd340 (by decide) (zk_0 _) rfl ?_
  refine s_iload_n A dX10_forgets_16 rfl ?_
  refine s_callV (a := 5) (k := 7) (N := 9) (sl := true) (M := mX7_dropPatch) (n := 1) (d := 3) (mc := 0) (ms := 0) (av := [zI x1]) (st := [zR (some 0)]) A dX10_forgets_17 rfl (by decide) (zk_5 _) zwd745 zwd746 zwd747 zwd92 zcd_X7_dropPatch (Nat.le_of_ble_eq_true rfl) (Nat.le_of_ble_eq_true rfl) (Nat.le_refl _) ⟨Nat.le_of_ble_eq_true rfl, Nat.le_of_ble_eq_true rfl⟩ ⟨rfl, zhn_X7_dropPatch⟩ rfl (Nat.le_of_ble_eq_true rfl) rfl (z_contI (fun v2 μ2 h => ?_) h)
  refine s_callV (a := 0) (k := 10) (N := 15) (sl := true) (M := mX10_settled) (n := 1) (d := 2) (mc := 0) (ms := 0) (av := [zI v2]) (st := []) A dX10_forgets_20 rfl (by decide) (zk_0 _) zwd612 zwd614 zwd3 zwd89 zcd_X10_settled (Nat.le_of_ble_eq_true rfl) (Nat.le_of_ble_eq_true rfl) (Nat.le_refl _) ⟨Nat.le_of_ble_eq_true rfl, Nat.le_of_ble_eq_true rfl⟩ ⟨rfl, zhn_X10_settled⟩ rfl (Nat.le_of_ble_eq_true rfl) rfl (z_contI (fun v3 μ3 h => ?_) h)
  exact s_iret A dX10_forgets_23 hr hlk (Nat.le_of_ble_eq_true rfl) (Nat.le_of_ble_eq_true rfl) ⟨_, rfl, h⟩
theorem eX10_forgets {G : zG} {F : Int → zM → Prop} {μ : zM} {x1 : Int} (h : ∀ J, zJ G true (4) 0 0 mX10_forgets (zKI F) J → J 0 ([some (zR (some 0)), some (zI x1)], [], μ, 0, 0)) : qX10_forgets G x1 μ F :=
  z_body (by decide +kernel) (Nat.le_of_ble_eq_true rfl) h
set_option maxRecDepth 20000 in
theorem rX10_sets_e {G : zG} {F : Int → zM → Prop} {J : Nat → zS → Prop} {μ : zM} (C : zJ G true (4) 0 0 mX10_sets (zKI F) J) (x1 : Int) (x2 : Int)
    (h : qX1_draft G 5 μ (fun μ1 => qX7_change G 5 x1 x2 μ1 (fun v2 μ2 => qX10_settled G v2 μ2 (fun v3 μ3 => F v3 μ3)))) : J 0 ([some (zR (some 0)), some (zI x1), some (zI x2)], [], μ, 0, 0) := by
  obtain ⟨p, e, s, m, args, below, meth, c, A, hml, hr, hlk, hnm, rfl⟩ := C
  refine s_aload_n A dX10_sets_0 rfl ?_
  refine s_getf (k := 10) (j := 3) (sl := true) (v := zR (some 13)) A dX10_sets_1 rfl zuw_X10 (Nat.le_of_ble_eq_true rfl) zwd341 (by decide) (zk_0 _) rfl ?_
  refine s_aload_n A dX10_sets_4 rfl ?_
  refine s_getf (k := 10) (j := 2) (sl := true) (v := zR (some 5)) A dX10_sets_5 rfl zuw_X10 (Nat.le_of_ble_eq_true rfl) zwd340 (by decide) (zk_0 _) rfl ?_
  refine s_callV (a := 13) (k := 1) (N := 3) (sl := true) (M := mX1_draft) (n := 1) (d := 3) (mc := 0) (ms := 0) (av := [zR (some 5)]) (st := []) A dX10_sets_8 rfl (by decide) (zk_13 _) zwd553 zwd554 zwd555 zwd94 zcd_X1_draft (Nat.le_of_ble_eq_true rfl) (Nat.le_of_ble_eq_true rfl) (Nat.le_refl _) ⟨Nat.le_of_ble_eq_true rfl, Nat.le_of_ble_eq_true rfl⟩ ⟨rfl, zhn_X1_draft⟩ rfl (Nat.le_of_ble_eq_true rfl) rfl (z_contV (fun μ1 h => ?_) h)
  refine s_aload_n A dX10_sets_11 rfl ?_
  refine s_aload_n A dX10_sets_12 rfl ?_
  refine s_getf (k := 10) (j := 2) (sl := true) (v := zR (some 5)) A dX10_sets_13 rfl zuw_X10 (Nat.le_of_ble_eq_true rfl) zwd340 (by decide) (zk_0 _) rfl ?_
  refine s_iload_n A dX10_sets_16 rfl ?_
  refine s_iload_n A dX10_sets_17 rfl ?_
  refine s_callV (a := 5) (k := 7) (N := 9) (sl := true) (M := mX7_change) (n := 2) (d := 2) (mc := 0) (ms := 0) (av := [zI x1, zI x2]) (st := [zR (some 0)]) A dX10_sets_18 rfl (by decide) (zk_5 _) zwd753 zwd754 zwd755 zwd92 zcd_X7_change (Nat.le_of_ble_eq_true rfl) (Nat.le_of_ble_eq_true rfl) (Nat.le_refl _) ⟨Nat.le_of_ble_eq_true rfl, Nat.le_of_ble_eq_true rfl⟩ ⟨rfl, zhn_X7_change⟩ rfl (Nat.le_of_ble_eq_true rfl) rfl (z_contI (fun v2 μ2 h => ?_) h)
  refine s_callV (a := 0) (k := 10) (N := 15) (sl := true) (M := mX10_settled) (n := 1) (d := 2) (mc := 0) (ms := 0) (av := [zI v2]) (st := []) A dX10_sets_21 rfl (by decide) (zk_0 _) zwd612 zwd614 zwd3 zwd89 zcd_X10_settled (Nat.le_of_ble_eq_true rfl) (Nat.le_of_ble_eq_true rfl) (Nat.le_refl _) ⟨Nat.le_of_ble_eq_true rfl, Nat.le_of_ble_eq_true rfl⟩ ⟨rfl, zhn_X10_settled⟩ rfl (Nat.le_of_ble_eq_true rfl) rfl (z_contI (fun v3 μ3 h => ?_) h)
  exact s_iret A dX10_sets_24 hr hlk (Nat.le_of_ble_eq_true rfl) (Nat.le_of_ble_eq_true rfl) ⟨_, rfl, h⟩
theorem eX10_sets {G : zG} {F : Int → zM → Prop} {μ : zM} {x1 : Int} {x2 : Int} (h : ∀ J, zJ G true (4) 0 0 mX10_sets (zKI F) J → J 0 ([some (zR (some 0)), some (zI x1), some (zI x2)], [], μ, 0, 0)) : qX10_sets G x1 x2 μ F :=
  z_body (by decide +kernel) (Nat.le_of_ble_eq_true rfl) h
set_option maxRecDepth 20000 in
theorem rX10_paints_e {G : zG} {F : Int → zM → Prop} {J : Nat → zS → Prop} {μ : zM} (C : zJ G true (4) 0 0 mX10_paints (zKI F) J) (x1 : Int) (x2 : Int) (x3 : Int) (x4 : Int)
    (h : qX1_draft G 5 μ (fun μ1 => qX7_paintLetter G 5 x1 x2 x3 x4 μ1 (fun v2 μ2 => qX10_settled G v2 μ2 (fun v3 μ3 => F v3 μ3)))) : J 0 ([some (zR (some 0)), some (zI x1), some (zI x2), some (zI x3), some (zI x4)], [], μ, 0, 0) := by
  obtain ⟨p, e, s, m, args, below, meth, c, A, hml, hr, hlk, hnm, rfl⟩ := C
  refine s_aload_n A dX10_paints_0 rfl ?_
  refine s_getf (k := 10) (j := 3) (sl := true) (v := zR (some 13)) A dX10_paints_1 rfl zuw_X10 (Nat.le_of_ble_eq_true rfl) zwd341 (by decide) (zk_0 _) rfl ?_
  refine s_aload_n A dX10_paints_4 rfl ?_
  refine s_getf (k := 10) (j := 2) (sl := true) (v := zR (some 5)) A dX10_paints_5 rfl zuw_X10 (Nat.le_of_ble_eq_true rfl) zwd340 (by decide) (zk_0 _) rfl ?_
  refine s_callV (a := 13) (k := 1) (N := 3) (sl := true) (M := mX1_draft) (n := 1) (d := 3) (mc := 0) (ms := 0) (av := [zR (some 5)]) (st := []) A dX10_paints_8 rfl (by decide) (zk_13 _) zwd553 zwd554 zwd555 zwd94 zcd_X1_draft (Nat.le_of_ble_eq_true rfl) (Nat.le_of_ble_eq_true rfl) (Nat.le_refl _) ⟨Nat.le_of_ble_eq_true rfl, Nat.le_of_ble_eq_true rfl⟩ ⟨rfl, zhn_X1_draft⟩ rfl (Nat.le_of_ble_eq_true rfl) rfl (z_contV (fun μ1 h => ?_) h)
  refine s_aload_n A dX10_paints_11 rfl ?_
  refine s_aload_n A dX10_paints_12 rfl ?_
  refine s_getf (k := 10) (j := 2) (sl := true) (v := zR (some 5)) A dX10_paints_13 rfl zuw_X10 (Nat.le_of_ble_eq_true rfl) zwd340 (by decide) (zk_0 _) rfl ?_
  refine s_iload_n A dX10_paints_16 rfl ?_
  refine s_iload_n A dX10_paints_17 rfl ?_
  refine s_iload_n A dX10_paints_18 rfl ?_
  refine s_iload A dX10_paints_19 rfl ?_
  refine s_callV (a := 5) (k := 7) (N := 9) (sl := true) (M := mX7_paintLetter) (n := 4) (d := 3) (mc := 0) (ms := 0) (av := [zI x1, zI x2, zI x3, zI x4]) (st := [zR (some 0)]) A dX10_paints_21 rfl (by decide) (zk_5 _) zwd765 zwd766 zwd767 zwd92 zcd_X7_paintLetter (Nat.le_of_ble_eq_true rfl) (Nat.le_of_ble_eq_true rfl) (Nat.le_refl _) ⟨Nat.le_of_ble_eq_true rfl, Nat.le_of_ble_eq_true rfl⟩ ⟨rfl, zhn_X7_paintLetter⟩ rfl (Nat.le_of_ble_eq_true rfl) rfl (z_contI (fun v2 μ2 h => ?_) h)
  refine s_callV (a := 0) (k := 10) (N := 15) (sl := true) (M := mX10_settled) (n := 1) (d := 2) (mc := 0) (ms := 0) (av := [zI v2]) (st := []) A dX10_paints_24 rfl (by decide) (zk_0 _) zwd612 zwd614 zwd3 zwd89 zcd_X10_settled (Nat.le_of_ble_eq_true rfl) (Nat.le_of_ble_eq_true rfl) (Nat.le_refl _) ⟨Nat.le_of_ble_eq_true rfl, Nat.le_of_ble_eq_true rfl⟩ ⟨rfl, zhn_X10_settled⟩ rfl (Nat.le_of_ble_eq_true rfl) rfl (z_contI (fun v3 μ3 h => ?_) h)
  exact s_iret A dX10_paints_27 hr hlk (Nat.le_of_ble_eq_true rfl) (Nat.le_of_ble_eq_true rfl) ⟨_, rfl, h⟩
theorem eX10_paints {G : zG} {F : Int → zM → Prop} {μ : zM} {x1 : Int} {x2 : Int} {x3 : Int} {x4 : Int} (h : ∀ J, zJ G true (4) 0 0 mX10_paints (zKI F) J → J 0 ([some (zR (some 0)), some (zI x1), some (zI x2), some (zI x3), some (zI x4)], [], μ, 0, 0)) : qX10_paints G x1 x2 x3 x4 μ F :=
  z_body (by decide +kernel) (Nat.le_of_ble_eq_true rfl) h
set_option maxRecDepth 20000 in
theorem rX10_doAct_e {G : zG} {F : Int → zM → Prop} {J : Nat → zS → Prop} {μ : zM} (C : zJ G true (5) 0 0 mX10_doAct (zKI F) J) (x1 : Int)
    (h : qX9_at G x1 μ (fun v1 μ1 => zin v1 ∧ ((v1 = 101 → qX9_at G (x1 + 1) μ1 (fun v3 μ3 => qX9_two G (x1 + 2) μ3 (fun v4 μ4 => qX9_two G (x1 + 4) μ4 (fun v5 μ5 => qX9_two G (x1 + 6) μ5 (fun v6 μ6 => qX7_paintLetter G 5 (v3 - 97) (4 * v4) (4 * v5) (4 * v6) μ6 (fun v7 μ7 => F v7 μ7)))))) ∧ (v1 = 102 → qX9_patch G (x1 + 1) μ1 (fun v8 μ8 => qX7_dropPatch G 5 v8 μ8 (fun v9 μ9 => F v9 μ9))) ∧ (v1 = 103 → qX9_digit G (x1 + 1) μ1 (fun v10 μ10 => qX7_change G 5 1 v10 μ10 (fun v11 μ11 => F v11 μ11))) ∧ (v1 = 108 → qX9_two G (x1 + 1) μ1 (fun v12 μ12 => qX7_change G 5 0 v12 μ12 (fun v13 μ13 => F v13 μ13))) ∧ (v1 = 109 → qX10_tellPatchAt G (x1 + 1) μ1 (fun v14 μ14 => F v14 μ14)) ∧ (v1 = 116 → qX9_digit G (x1 + 1) μ1 (fun v15 μ15 => qX7_change G 5 3 v15 μ15 (fun v16 μ16 => F v16 μ16))) ∧ (v1 = 119 → qX9_digit G (x1 + 1) μ1 (fun v17 μ17 => qX9_digit G (x1 + 2) μ17 (fun v18 μ18 => qX7_change G 5 (4 + v17) v18 μ18 (fun v19 μ19 => F v19 μ19)))) ∧ (v1 ≠ 101 ∧ v1 ≠ 102 ∧ v1 ≠ 103 ∧ v1 ≠ 108 ∧ v1 ≠ 109 ∧ v1 ≠ 116 ∧ v1 ≠ 119 → F (-1) μ1)))) : J 0 ([some (zR (some 0)), some (zI x1)], [], μ, 0, 0) := by
  obtain ⟨p, e, s, m, args, below, meth, c, A, hml, hr, hlk, hnm, rfl⟩ := C
  refine s_aload_n A dX10_doAct_0 rfl ?_
  refine s_getf (k := 10) (j := 0) (sl := true) (v := zR (some 1)) A dX10_doAct_1 rfl zuw_X10 (Nat.le_of_ble_eq_true rfl) zwd338 (by decide) (zk_0 _) rfl ?_
  refine s_iload_n A dX10_doAct_4 rfl ?_
  refine s_callV (a := 1) (k := 9) (N := 2) (sl := true) (M := mX9_at) (n := 1) (d := 0) (mc := 0) (ms := 0) (av := [zI x1]) (st := []) A dX10_doAct_5 rfl (by decide) (zk_1 _) zwd784 zwd583 zwd584 zwd90 zcd_X9_at (Nat.le_of_ble_eq_true rfl) (Nat.le_of_ble_eq_true rfl) (Nat.le_refl _) ⟨Nat.le_of_ble_eq_true rfl, Nat.le_of_ble_eq_true rfl⟩ ⟨rfl, zhn_X9_at⟩ rfl (Nat.le_of_ble_eq_true rfl) rfl (z_contI (fun v1 μ1 h => ?_) h)
  obtain ⟨oz2, h⟩ := h
  refine z_tsw A dX10_doAct_8 oz2 (by decide +kernel) ⟨271, by decide⟩ (fun tg20 ht20 => ?_)
  have hx20 : (v1 = 101 ∨ v1 = 102 ∨ v1 = 103 ∨ v1 = 104 ∨ v1 = 105 ∨ v1 = 106 ∨ v1 = 107 ∨ v1 = 108 ∨ v1 = 109 ∨ v1 = 110 ∨ v1 = 111 ∨ v1 = 112 ∨ v1 = 113 ∨ v1 = 114 ∨ v1 = 115 ∨ v1 = 116 ∨ v1 = 117 ∨ v1 = 118 ∨ v1 = 119) ∨ (v1 < 101 ∨ 119 < v1) := by omega
  rcases hx20 with (hq | hq | hq | hq | hq | hq | hq | hq | hq | hq | hq | hq | hq | hq | hq | hq | hq | hq | hq) | hq
  · obtain rfl := ztg_in (t := 213) ht20 101 hq (by decide) (by decide +kernel)
    have h := h.1 (by omega)
    refine s_aload_n A dX10_doAct_213 rfl ?_
    refine s_getf (k := 10) (j := 2) (sl := true) (v := zR (some 5)) A dX10_doAct_214 rfl zuw_X10 (Nat.le_of_ble_eq_true rfl) zwd340 (by decide) (zk_0 _) rfl ?_
    refine s_aload_n A dX10_doAct_217 rfl ?_
    refine s_getf (k := 10) (j := 0) (sl := true) (v := zR (some 1)) A dX10_doAct_218 rfl zuw_X10 (Nat.le_of_ble_eq_true rfl) zwd338 (by decide) (zk_0 _) rfl ?_
    refine s_iload_n A dX10_doAct_221 rfl ?_
    refine s_iconst A dX10_doAct_222 ?_
    refine s_iadd A dX10_doAct_223 ?_
    refine s_callV (a := 1) (k := 9) (N := 2) (sl := true) (M := mX9_at) (n := 1) (d := 0) (mc := 0) (ms := 0) (av := [zI (x1 + 1)]) (st := [zR (some 5)]) A dX10_doAct_224 rfl (by decide) (zk_1 _) zwd784 zwd583 zwd584 zwd90 zcd_X9_at (Nat.le_of_ble_eq_true rfl) (Nat.le_of_ble_eq_true rfl) (Nat.le_refl _) ⟨Nat.le_of_ble_eq_true rfl, Nat.le_of_ble_eq_true rfl⟩ ⟨rfl, zhn_X9_at⟩ rfl (Nat.le_of_ble_eq_true rfl) rfl (z_contI (fun v3 μ3 h => ?_) h)
    refine s_bipush A dX10_doAct_227 rfl ?_
    refine s_isub A dX10_doAct_229 ?_
    refine s_iconst A dX10_doAct_230 ?_
    refine s_aload_n A dX10_doAct_231 rfl ?_
    refine s_getf (k := 10) (j := 0) (sl := true) (v := zR (some 1)) A dX10_doAct_232 rfl zuw_X10 (Nat.le_of_ble_eq_true rfl) zwd338 (by decide) (zk_0 _) rfl ?_
    refine s_iload_n A dX10_doAct_235 rfl ?_
    refine s_iconst A dX10_doAct_236 ?_
    refine s_iadd A dX10_doAct_237 ?_
    refine s_callV (a := 1) (k := 9) (N := 2) (sl := true) (M := mX9_two) (n := 1) (d := 3) (mc := 0) (ms := 0) (av := [zI (x1 + 2)]) (st := [zI 4, zI (v3 - 97), zR (some 5)]) A dX10_doAct_238 rfl (by decide) (zk_1 _) zwd586 zwd587 zwd588 zwd90 zcd_X9_two (Nat.le_of_ble_eq_true rfl) (Nat.le_of_ble_eq_true rfl) (Nat.le_refl _) ⟨Nat.le_of_ble_eq_true rfl, Nat.le_of_ble_eq_true rfl⟩ ⟨rfl, zhn_X9_two⟩ rfl (Nat.le_of_ble_eq_true rfl) rfl (z_contI (fun v4 μ4 h => ?_) h)
    refine s_imul A dX10_doAct_241 ?_
    refine s_iconst A dX10_doAct_242 ?_
    refine s_aload_n A dX10_doAct_243 rfl ?_
    refine s_getf (k := 10) (j := 0) (sl := true) (v := zR (some 1)) A dX10_doAct_244 rfl zuw_X10 (Nat.le_of_ble_eq_true rfl) zwd338 (by decide) (zk_0 _) rfl ?_
    refine s_iload_n A dX10_doAct_247 rfl ?_
    refine s_iconst A dX10_doAct_248 ?_
    refine s_iadd A dX10_doAct_249 ?_
    refine s_callV (a := 1) (k := 9) (N := 2) (sl := true) (M := mX9_two) (n := 1) (d := 3) (mc := 0) (ms := 0) (av := [zI (x1 + 4)]) (st := [zI 4, zI (4 * v4), zI (v3 - 97), zR (some 5)]) A dX10_doAct_250 rfl (by decide) (zk_1 _) zwd586 zwd587 zwd588 zwd90 zcd_X9_two (Nat.le_of_ble_eq_true rfl) (Nat.le_of_ble_eq_true rfl) (Nat.le_refl _) ⟨Nat.le_of_ble_eq_true rfl, Nat.le_of_ble_eq_true rfl⟩ ⟨rfl, zhn_X9_two⟩ rfl (Nat.le_of_ble_eq_true rfl) rfl (z_contI (fun v5 μ5 h => ?_) h)
    refine s_imul A dX10_doAct_253 ?_
    refine s_iconst A dX10_doAct_254 ?_
    refine s_aload_n A dX10_doAct_255 rfl ?_
    refine s_getf (k := 10) (j := 0) (sl := true) (v := zR (some 1)) A dX10_doAct_256 rfl zuw_X10 (Nat.le_of_ble_eq_true rfl) zwd338 (by decide) (zk_0 _) rfl ?_
    refine s_iload_n A dX10_doAct_259 rfl ?_
    refine s_bipush A dX10_doAct_260 rfl ?_
    refine s_iadd A dX10_doAct_262 ?_
    refine s_callV (a := 1) (k := 9) (N := 2) (sl := true) (M := mX9_two) (n := 1) (d := 3) (mc := 0) (ms := 0) (av := [zI (x1 + 6)]) (st := [zI 4, zI (4 * v5), zI (4 * v4), zI (v3 - 97), zR (some 5)]) A dX10_doAct_263 rfl (by decide) (zk_1 _) zwd586 zwd587 zwd588 zwd90 zcd_X9_two (Nat.le_of_ble_eq_true rfl) (Nat.le_of_ble_eq_true rfl) (Nat.le_refl _) ⟨Nat.le_of_ble_eq_true rfl, Nat.le_of_ble_eq_true rfl⟩ ⟨rfl, zhn_X9_two⟩ rfl (Nat.le_of_ble_eq_true rfl) rfl (z_contI (fun v6 μ6 h => ?_) h)
    refine s_imul A dX10_doAct_266 ?_
    refine s_callV (a := 5) (k := 7) (N := 9) (sl := true) (M := mX7_paintLetter) (n := 4) (d := 3) (mc := 0) (ms := 0) (av := [zI (v3 - 97), zI (4 * v4), zI (4 * v5), zI (4 * v6)]) (st := []) A dX10_doAct_267 rfl (by decide) (zk_5 _) zwd765 zwd766 zwd767 zwd92 zcd_X7_paintLetter (Nat.le_of_ble_eq_true rfl) (Nat.le_of_ble_eq_true rfl) (Nat.le_refl _) ⟨Nat.le_of_ble_eq_true rfl, Nat.le_of_ble_eq_true rfl⟩ ⟨rfl, zhn_X7_paintLetter⟩ rfl (Nat.le_of_ble_eq_true rfl) rfl (z_contI (fun v7 μ7 h => ?_) h)
    exact s_iret A dX10_doAct_270 hr hlk (Nat.le_of_ble_eq_true rfl) (Nat.le_of_ble_eq_true rfl) ⟨_, rfl, h⟩
  · obtain rfl := ztg_in (t := 108) ht20 102 hq (by decide) (by decide +kernel)
    have h := h.2.1 (by omega)
    refine s_aload_n A dX10_doAct_108 rfl ?_
    refine s_getf (k := 10) (j := 2) (sl := true) (v := zR (some 5)) A dX10_doAct_109 rfl zuw_X10 (Nat.le_of_ble_eq_true rfl) zwd340 (by decide) (zk_0 _) rfl ?_
    refine s_aload_n A dX10_doAct_112 rfl ?_
    refine s_getf (k := 10) (j := 0) (sl := true) (v := zR (some 1)) A dX10_doAct_113 rfl zuw_X10 (Nat.le_of_ble_eq_true rfl) zwd338 (by decide) (zk_0 _) rfl ?_
    refine s_iload_n A dX10_doAct_116 rfl ?_
    refine s_iconst A dX10_doAct_117 ?_
    refine s_iadd A dX10_doAct_118 ?_
    refine s_callV (a := 1) (k := 9) (N := 2) (sl := true) (M := mX9_patch) (n := 1) (d := 3) (mc := 0) (ms := 0) (av := [zI (x1 + 1)]) (st := [zR (some 5)]) A dX10_doAct_119 rfl (by decide) (zk_1 _) zwd574 zwd575 zwd576 zwd90 zcd_X9_patch (Nat.le_of_ble_eq_true rfl) (Nat.le_of_ble_eq_true rfl) (Nat.le_refl _) ⟨Nat.le_of_ble_eq_true rfl, Nat.le_of_ble_eq_true rfl⟩ ⟨rfl, zhn_X9_patch⟩ rfl (Nat.le_of_ble_eq_true rfl) rfl (z_contI (fun v8 μ8 h => ?_) h)
    refine s_callV (a := 5) (k := 7) (N := 9) (sl := true) (M := mX7_dropPatch) (n := 1) (d := 3) (mc := 0) (ms := 0) (av := [zI v8]) (st := []) A dX10_doAct_122 rfl (by decide) (zk_5 _) zwd745 zwd746 zwd747 zwd92 zcd_X7_dropPatch (Nat.le_of_ble_eq_true rfl) (Nat.le_of_ble_eq_true rfl) (Nat.le_refl _) ⟨Nat.le_of_ble_eq_true rfl, Nat.le_of_ble_eq_true rfl⟩ ⟨rfl, zhn_X7_dropPatch⟩ rfl (Nat.le_of_ble_eq_true rfl) rfl (z_contI (fun v9 μ9 h => ?_) h)
    exact s_iret A dX10_doAct_125 hr hlk (Nat.le_of_ble_eq_true rfl) (Nat.le_of_ble_eq_true rfl) ⟨_, rfl, h⟩
  · obtain rfl := ztg_in (t := 145) ht20 103 hq (by decide) (by decide +kernel)
    have h := h.2.2.1 (by omega)
    refine s_aload_n A dX10_doAct_145 rfl ?_
    refine s_getf (k := 10) (j := 2) (sl := true) (v := zR (some 5)) A dX10_doAct_146 rfl zuw_X10 (Nat.le_of_ble_eq_true rfl) zwd340 (by decide) (zk_0 _) rfl ?_
    refine s_iconst A dX10_doAct_149 ?_
    refine s_aload_n A dX10_doAct_150 rfl ?_
    refine s_getf (k := 10) (j := 0) (sl := true) (v := zR (some 1)) A dX10_doAct_151 rfl zuw_X10 (Nat.le_of_ble_eq_true rfl) zwd338 (by decide) (zk_0 _) rfl ?_
    refine s_iload_n A dX10_doAct_154 rfl ?_
    refine s_iconst A dX10_doAct_155 ?_
    refine s_iadd A dX10_doAct_156 ?_
    refine s_callV (a := 1) (k := 9) (N := 2) (sl := true) (M := mX9_digit) (n := 1) (d := 2) (mc := 0) (ms := 0) (av := [zI (x1 + 1)]) (st := [zI 1, zR (some 5)]) A dX10_doAct_157 rfl (by decide) (zk_1 _) zwd632 zwd579 zwd580 zwd90 zcd_X9_digit (Nat.le_of_ble_eq_true rfl) (Nat.le_of_ble_eq_true rfl) (Nat.le_refl _) ⟨Nat.le_of_ble_eq_true rfl, Nat.le_of_ble_eq_true rfl⟩ ⟨rfl, zhn_X9_digit⟩ rfl (Nat.le_of_ble_eq_true rfl) rfl (z_contI (fun v10 μ10 h => ?_) h)
    refine s_callV (a := 5) (k := 7) (N := 9) (sl := true) (M := mX7_change) (n := 2) (d := 2) (mc := 0) (ms := 0) (av := [zI 1, zI v10]) (st := []) A dX10_doAct_160 rfl (by decide) (zk_5 _) zwd753 zwd754 zwd755 zwd92 zcd_X7_change (Nat.le_of_ble_eq_true rfl) (Nat.le_of_ble_eq_true rfl) (Nat.le_refl _) ⟨Nat.le_of_ble_eq_true rfl, Nat.le_of_ble_eq_true rfl⟩ ⟨rfl, zhn_X7_change⟩ rfl (Nat.le_of_ble_eq_true rfl) rfl (z_contI (fun v11 μ11 h => ?_) h)
    exact s_iret A dX10_doAct_163 hr hlk (Nat.le_of_ble_eq_true rfl) (Nat.le_of_ble_eq_true rfl) ⟨_, rfl, h⟩
  · obtain rfl := ztg_in (t := 271) ht20 104 hq (by decide) (by decide +kernel)
    have h := h.2.2.2.2.2.2.2 (by omega)
    refine s_iconst A dX10_doAct_271 ?_
    exact s_iret A dX10_doAct_272 hr hlk (Nat.le_of_ble_eq_true rfl) (Nat.le_of_ble_eq_true rfl) ⟨_, rfl, h⟩
  · obtain rfl := ztg_in (t := 271) ht20 105 hq (by decide) (by decide +kernel)
    have h := h.2.2.2.2.2.2.2 (by omega)
    refine s_iconst A dX10_doAct_271 ?_
    exact s_iret A dX10_doAct_272 hr hlk (Nat.le_of_ble_eq_true rfl) (Nat.le_of_ble_eq_true rfl) ⟨_, rfl, h⟩
  · obtain rfl := ztg_in (t := 271) ht20 106 hq (by decide) (by decide +kernel)
    have h := h.2.2.2.2.2.2.2 (by omega)
    refine s_iconst A dX10_doAct_271 ?_
    exact s_iret A dX10_doAct_272 hr hlk (Nat.le_of_ble_eq_true rfl) (Nat.le_of_ble_eq_true rfl) ⟨_, rfl, h⟩
  · obtain rfl := ztg_in (t := 271) ht20 107 hq (by decide) (by decide +kernel)
    have h := h.2.2.2.2.2.2.2 (by omega)
    refine s_iconst A dX10_doAct_271 ?_
    exact s_iret A dX10_doAct_272 hr hlk (Nat.le_of_ble_eq_true rfl) (Nat.le_of_ble_eq_true rfl) ⟨_, rfl, h⟩
  · obtain rfl := ztg_in (t := 126) ht20 108 hq (by decide) (by decide +kernel)
    have h := h.2.2.2.1 (by omega)
    refine s_aload_n A dX10_doAct_126 rfl ?_
    refine s_getf (k := 10) (j := 2) (sl := true) (v := zR (some 5)) A dX10_doAct_127 rfl zuw_X10 (Nat.le_of_ble_eq_true rfl) zwd340 (by decide) (zk_0 _) rfl ?_
    refine s_iconst A dX10_doAct_130 ?_
    refine s_aload_n A dX10_doAct_131 rfl ?_
    refine s_getf (k := 10) (j := 0) (sl := true) (v := zR (some 1)) A dX10_doAct_132 rfl zuw_X10 (Nat.le_of_ble_eq_true rfl) zwd338 (by decide) (zk_0 _) rfl ?_
    refine s_iload_n A dX10_doAct_135 rfl ?_
    refine s_iconst A dX10_doAct_136 ?_
    refine s_iadd A dX10_doAct_137 ?_
    refine s_callV (a := 1) (k := 9) (N := 2) (sl := true) (M := mX9_two) (n := 1) (d := 3) (mc := 0) (ms := 0) (av := [zI (x1 + 1)]) (st := [zI 0, zR (some 5)]) A dX10_doAct_138 rfl (by decide) (zk_1 _) zwd586 zwd587 zwd588 zwd90 zcd_X9_two (Nat.le_of_ble_eq_true rfl) (Nat.le_of_ble_eq_true rfl) (Nat.le_refl _) ⟨Nat.le_of_ble_eq_true rfl, Nat.le_of_ble_eq_true rfl⟩ ⟨rfl, zhn_X9_two⟩ rfl (Nat.le_of_ble_eq_true rfl) rfl (z_contI (fun v12 μ12 h => ?_) h)
    refine s_callV (a := 5) (k := 7) (N := 9) (sl := true) (M := mX7_change) (n := 2) (d := 2) (mc := 0) (ms := 0) (av := [zI 0, zI v12]) (st := []) A dX10_doAct_141 rfl (by decide) (zk_5 _) zwd753 zwd754 zwd755 zwd92 zcd_X7_change (Nat.le_of_ble_eq_true rfl) (Nat.le_of_ble_eq_true rfl) (Nat.le_refl _) ⟨Nat.le_of_ble_eq_true rfl, Nat.le_of_ble_eq_true rfl⟩ ⟨rfl, zhn_X7_change⟩ rfl (Nat.le_of_ble_eq_true rfl) rfl (z_contI (fun v13 μ13 h => ?_) h)
    exact s_iret A dX10_doAct_144 hr hlk (Nat.le_of_ble_eq_true rfl) (Nat.le_of_ble_eq_true rfl) ⟨_, rfl, h⟩
  · obtain rfl := ztg_in (t := 100) ht20 109 hq (by decide) (by decide +kernel)
    have h := h.2.2.2.2.1 (by omega)
    refine s_aload_n A dX10_doAct_100 rfl ?_
    refine s_iload_n A dX10_doAct_101 rfl ?_
    refine s_iconst A dX10_doAct_102 ?_
    refine s_iadd A dX10_doAct_103 ?_
    refine s_callV (a := 0) (k := 10) (N := 15) (sl := true) (M := mX10_tellPatchAt) (n := 1) (d := 4) (mc := 0) (ms := 0) (av := [zI (x1 + 1)]) (st := []) A dX10_doAct_104 rfl (by decide) (zk_0 _) zwd570 zwd572 zwd2 zwd89 zcd_X10_tellPatchAt (Nat.le_of_ble_eq_true rfl) (Nat.le_of_ble_eq_true rfl) (Nat.le_refl _) ⟨Nat.le_of_ble_eq_true rfl, Nat.le_of_ble_eq_true rfl⟩ ⟨rfl, zhn_X10_tellPatchAt⟩ rfl (Nat.le_of_ble_eq_true rfl) rfl (z_contI (fun v14 μ14 h => ?_) h)
    exact s_iret A dX10_doAct_107 hr hlk (Nat.le_of_ble_eq_true rfl) (Nat.le_of_ble_eq_true rfl) ⟨_, rfl, h⟩
  · obtain rfl := ztg_in (t := 271) ht20 110 hq (by decide) (by decide +kernel)
    have h := h.2.2.2.2.2.2.2 (by omega)
    refine s_iconst A dX10_doAct_271 ?_
    exact s_iret A dX10_doAct_272 hr hlk (Nat.le_of_ble_eq_true rfl) (Nat.le_of_ble_eq_true rfl) ⟨_, rfl, h⟩
  · obtain rfl := ztg_in (t := 271) ht20 111 hq (by decide) (by decide +kernel)
    have h := h.2.2.2.2.2.2.2 (by omega)
    refine s_iconst A dX10_doAct_271 ?_
    exact s_iret A dX10_doAct_272 hr hlk (Nat.le_of_ble_eq_true rfl) (Nat.le_of_ble_eq_true rfl) ⟨_, rfl, h⟩
  · obtain rfl := ztg_in (t := 271) ht20 112 hq (by decide) (by decide +kernel)
    have h := h.2.2.2.2.2.2.2 (by omega)
    refine s_iconst A dX10_doAct_271 ?_
    exact s_iret A dX10_doAct_272 hr hlk (Nat.le_of_ble_eq_true rfl) (Nat.le_of_ble_eq_true rfl) ⟨_, rfl, h⟩
  · obtain rfl := ztg_in (t := 271) ht20 113 hq (by decide) (by decide +kernel)
    have h := h.2.2.2.2.2.2.2 (by omega)
    refine s_iconst A dX10_doAct_271 ?_
    exact s_iret A dX10_doAct_272 hr hlk (Nat.le_of_ble_eq_true rfl) (Nat.le_of_ble_eq_true rfl) ⟨_, rfl, h⟩
  · obtain rfl := ztg_in (t := 271) ht20 114 hq (by decide) (by decide +kernel)
    have h := h.2.2.2.2.2.2.2 (by omega)
    refine s_iconst A dX10_doAct_271 ?_
    exact s_iret A dX10_doAct_272 hr hlk (Nat.le_of_ble_eq_true rfl) (Nat.le_of_ble_eq_true rfl) ⟨_, rfl, h⟩
  · obtain rfl := ztg_in (t := 271) ht20 115 hq (by decide) (by decide +kernel)
    have h := h.2.2.2.2.2.2.2 (by omega)
    refine s_iconst A dX10_doAct_271 ?_
    exact s_iret A dX10_doAct_272 hr hlk (Nat.le_of_ble_eq_true rfl) (Nat.le_of_ble_eq_true rfl) ⟨_, rfl, h⟩
  · obtain rfl := ztg_in (t := 164) ht20 116 hq (by decide) (by decide +kernel)
    have h := h.2.2.2.2.2.1 (by omega)
    refine s_aload_n A dX10_doAct_164 rfl ?_
    refine s_getf (k := 10) (j := 2) (sl := true) (v := zR (some 5)) A dX10_doAct_165 rfl zuw_X10 (Nat.le_of_ble_eq_true rfl) zwd340 (by decide) (zk_0 _) rfl ?_
    refine s_iconst A dX10_doAct_168 ?_
    refine s_aload_n A dX10_doAct_169 rfl ?_
    refine s_getf (k := 10) (j := 0) (sl := true) (v := zR (some 1)) A dX10_doAct_170 rfl zuw_X10 (Nat.le_of_ble_eq_true rfl) zwd338 (by decide) (zk_0 _) rfl ?_
    refine s_iload_n A dX10_doAct_173 rfl ?_
    refine s_iconst A dX10_doAct_174 ?_
    refine s_iadd A dX10_doAct_175 ?_
    refine s_callV (a := 1) (k := 9) (N := 2) (sl := true) (M := mX9_digit) (n := 1) (d := 2) (mc := 0) (ms := 0) (av := [zI (x1 + 1)]) (st := [zI 3, zR (some 5)]) A dX10_doAct_176 rfl (by decide) (zk_1 _) zwd632 zwd579 zwd580 zwd90 zcd_X9_digit (Nat.le_of_ble_eq_true rfl) (Nat.le_of_ble_eq_true rfl) (Nat.le_refl _) ⟨Nat.le_of_ble_eq_true rfl, Nat.le_of_ble_eq_true rfl⟩ ⟨rfl, zhn_X9_digit⟩ rfl (Nat.le_of_ble_eq_true rfl) rfl (z_contI (fun v15 μ15 h => ?_) h)
    refine s_callV (a := 5) (k := 7) (N := 9) (sl := true) (M := mX7_change) (n := 2) (d := 2) (mc := 0) (ms := 0) (av := [zI 3, zI v15]) (st := []) A dX10_doAct_179 rfl (by decide) (zk_5 _) zwd753 zwd754 zwd755 zwd92 zcd_X7_change (Nat.le_of_ble_eq_true rfl) (Nat.le_of_ble_eq_true rfl) (Nat.le_refl _) ⟨Nat.le_of_ble_eq_true rfl, Nat.le_of_ble_eq_true rfl⟩ ⟨rfl, zhn_X7_change⟩ rfl (Nat.le_of_ble_eq_true rfl) rfl (z_contI (fun v16 μ16 h => ?_) h)
    exact s_iret A dX10_doAct_182 hr hlk (Nat.le_of_ble_eq_true rfl) (Nat.le_of_ble_eq_true rfl) ⟨_, rfl, h⟩
  · obtain rfl := ztg_in (t := 271) ht20 117 hq (by decide) (by decide +kernel)
    have h := h.2.2.2.2.2.2.2 (by omega)
    refine s_iconst A dX10_doAct_271 ?_
    exact s_iret A dX10_doAct_272 hr hlk (Nat.le_of_ble_eq_true rfl) (Nat.le_of_ble_eq_true rfl) ⟨_, rfl, h⟩
  · obtain rfl := ztg_in (t := 271) ht20 118 hq (by decide) (by decide +kernel)
    have h := h.2.2.2.2.2.2.2 (by omega)
    refine s_iconst A dX10_doAct_271 ?_
    exact s_iret A dX10_doAct_272 hr hlk (Nat.le_of_ble_eq_true rfl) (Nat.le_of_ble_eq_true rfl) ⟨_, rfl, h⟩
  · obtain rfl := ztg_in (t := 183) ht20 119 hq (by decide) (by decide +kernel)
    have h := h.2.2.2.2.2.2.1 (by omega)
    refine s_aload_n A dX10_doAct_183 rfl ?_
    refine s_getf (k := 10) (j := 2) (sl := true) (v := zR (some 5)) A dX10_doAct_184 rfl zuw_X10 (Nat.le_of_ble_eq_true rfl) zwd340 (by decide) (zk_0 _) rfl ?_
    refine s_iconst A dX10_doAct_187 ?_
    refine s_aload_n A dX10_doAct_188 rfl ?_
    refine s_getf (k := 10) (j := 0) (sl := true) (v := zR (some 1)) A dX10_doAct_189 rfl zuw_X10 (Nat.le_of_ble_eq_true rfl) zwd338 (by decide) (zk_0 _) rfl ?_
    refine s_iload_n A dX10_doAct_192 rfl ?_
    refine s_iconst A dX10_doAct_193 ?_
    refine s_iadd A dX10_doAct_194 ?_
    refine s_callV (a := 1) (k := 9) (N := 2) (sl := true) (M := mX9_digit) (n := 1) (d := 2) (mc := 0) (ms := 0) (av := [zI (x1 + 1)]) (st := [zI 4, zR (some 5)]) A dX10_doAct_195 rfl (by decide) (zk_1 _) zwd632 zwd579 zwd580 zwd90 zcd_X9_digit (Nat.le_of_ble_eq_true rfl) (Nat.le_of_ble_eq_true rfl) (Nat.le_refl _) ⟨Nat.le_of_ble_eq_true rfl, Nat.le_of_ble_eq_true rfl⟩ ⟨rfl, zhn_X9_digit⟩ rfl (Nat.le_of_ble_eq_true rfl) rfl (z_contI (fun v17 μ17 h => ?_) h)
    refine s_iadd A dX10_doAct_198 ?_
    refine s_aload_n A dX10_doAct_199 rfl ?_
    refine s_getf (k := 10) (j := 0) (sl := true) (v := zR (some 1)) A dX10_doAct_200 rfl zuw_X10 (Nat.le_of_ble_eq_true rfl) zwd338 (by decide) (zk_0 _) rfl ?_
    refine s_iload_n A dX10_doAct_203 rfl ?_
    refine s_iconst A dX10_doAct_204 ?_
    refine s_iadd A dX10_doAct_205 ?_
    refine s_callV (a := 1) (k := 9) (N := 2) (sl := true) (M := mX9_digit) (n := 1) (d := 2) (mc := 0) (ms := 0) (av := [zI (x1 + 2)]) (st := [zI (4 + v17), zR (some 5)]) A dX10_doAct_206 rfl (by decide) (zk_1 _) zwd632 zwd579 zwd580 zwd90 zcd_X9_digit (Nat.le_of_ble_eq_true rfl) (Nat.le_of_ble_eq_true rfl) (Nat.le_refl _) ⟨Nat.le_of_ble_eq_true rfl, Nat.le_of_ble_eq_true rfl⟩ ⟨rfl, zhn_X9_digit⟩ rfl (Nat.le_of_ble_eq_true rfl) rfl (z_contI (fun v18 μ18 h => ?_) h)
    refine s_callV (a := 5) (k := 7) (N := 9) (sl := true) (M := mX7_change) (n := 2) (d := 2) (mc := 0) (ms := 0) (av := [zI (4 + v17), zI v18]) (st := []) A dX10_doAct_209 rfl (by decide) (zk_5 _) zwd753 zwd754 zwd755 zwd92 zcd_X7_change (Nat.le_of_ble_eq_true rfl) (Nat.le_of_ble_eq_true rfl) (Nat.le_refl _) ⟨Nat.le_of_ble_eq_true rfl, Nat.le_of_ble_eq_true rfl⟩ ⟨rfl, zhn_X7_change⟩ rfl (Nat.le_of_ble_eq_true rfl) rfl (z_contI (fun v19 μ19 h => ?_) h)
    exact s_iret A dX10_doAct_212 hr hlk (Nat.le_of_ble_eq_true rfl) (Nat.le_of_ble_eq_true rfl) ⟨_, rfl, h⟩
  · obtain rfl := ztg_out (t := 271) ht20 hq (by decide)
    have h := h.2.2.2.2.2.2.2 (by omega)
    refine s_iconst A dX10_doAct_271 ?_
    exact s_iret A dX10_doAct_272 hr hlk (Nat.le_of_ble_eq_true rfl) (Nat.le_of_ble_eq_true rfl) ⟨_, rfl, h⟩
theorem eX10_doAct {G : zG} {F : Int → zM → Prop} {μ : zM} {x1 : Int} (h : ∀ J, zJ G true (5) 0 0 mX10_doAct (zKI F) J → J 0 ([some (zR (some 0)), some (zI x1)], [], μ, 0, 0)) : qX10_doAct G x1 μ F :=
  z_body (by decide +kernel) (Nat.le_of_ble_eq_true rfl) h
set_option maxRecDepth 20000 in
theorem rX10_undo_e {G : zG} {F : Int → zM → Prop} {J : Nat → zS → Prop} {μ : zM} (C : zJ G true (4) 0 0 mX10_undo (zKI F) J) 
    (h : zin (zi μ 13 2) ∧ ((¬ zi μ 13 2 = 0 → qX1_bringBack G 5 μ (fun μ3 => F (zi μ3 13 2) μ3)) ∧ (zi μ 13 2 = 0 → F (-1) μ))) : J 0 ([some (zR (some 0))], [], μ, 0, 0) := by
  obtain ⟨p, e, s, m, args, below, meth, c, A, hml, hr, hlk, hnm, rfl⟩ := C
  refine s_aload_n A dX10_undo_0 rfl ?_
  refine s_getf (k := 10) (j := 3) (sl := true) (v := zR (some 13)) A dX10_undo_1 rfl zuw_X10 (Nat.le_of_ble_eq_true rfl) zwd341 (by decide) (zk_0 _) rfl ?_
  refine s_getf (k := 1) (j := 2) (sl := true) (v := zI (zi μ 13 2)) A dX10_undo_4 rfl zuw_X1 (Nat.le_of_ble_eq_true rfl) zwd236 (by decide) (zk_13 _) rfl ?_
  obtain ⟨oz1, h⟩ := h
  refine z_if_ne (tgt := 12) A dX10_undo_7 (by decide) oz1 (fun c2 => ?_) (fun c2 => ?_)
  · have h := h.1 c2
    refine s_aload_n A dX10_undo_12 rfl ?_
    refine s_getf (k := 10) (j := 3) (sl := true) (v := zR (some 13)) A dX10_undo_13 rfl zuw_X10 (Nat.le_of_ble_eq_true rfl) zwd341 (by decide) (zk_0 _) rfl ?_
    refine s_aload_n A dX10_undo_16 rfl ?_
    refine s_getf (k := 10) (j := 2) (sl := true) (v := zR (some 5)) A dX10_undo_17 rfl zuw_X10 (Nat.le_of_ble_eq_true rfl) zwd340 (by decide) (zk_0 _) rfl ?_
    refine s_callV (a := 13) (k := 1) (N := 3) (sl := true) (M := mX1_bringBack) (n := 1) (d := 3) (mc := 0) (ms := 0) (av := [zR (some 5)]) (st := []) A dX10_undo_20 rfl (by decide) (zk_13 _) zwd798 zwd799 zwd800 zwd94 zcd_X1_bringBack (Nat.le_of_ble_eq_true rfl) (Nat.le_of_ble_eq_true rfl) (Nat.le_refl _) ⟨Nat.le_of_ble_eq_true rfl, Nat.le_of_ble_eq_true rfl⟩ ⟨rfl, zhn_X1_bringBack⟩ rfl (Nat.le_of_ble_eq_true rfl) rfl (z_contV (fun μ3 h => ?_) h)
    refine s_aload_n A dX10_undo_23 rfl ?_
    refine s_getf (k := 10) (j := 3) (sl := true) (v := zR (some 13)) A dX10_undo_24 rfl zuw_X10 (Nat.le_of_ble_eq_true rfl) zwd341 (by decide) (zk_0 _) rfl ?_
    refine s_getf (k := 1) (j := 2) (sl := true) (v := zI (zi μ3 13 2)) A dX10_undo_27 rfl zuw_X1 (Nat.le_of_ble_eq_true rfl) zwd236 (by decide) (zk_13 _) rfl ?_
    exact s_iret A dX10_undo_30 hr hlk (Nat.le_of_ble_eq_true rfl) (Nat.le_of_ble_eq_true rfl) ⟨_, rfl, h⟩
  · have h := h.2 c2
    refine s_iconst A dX10_undo_10 ?_
    exact s_iret A dX10_undo_11 hr hlk (Nat.le_of_ble_eq_true rfl) (Nat.le_of_ble_eq_true rfl) ⟨_, rfl, h⟩
theorem eX10_undo {G : zG} {F : Int → zM → Prop} {μ : zM}  (h : ∀ J, zJ G true (4) 0 0 mX10_undo (zKI F) J → J 0 ([some (zR (some 0))], [], μ, 0, 0)) : qX10_undo G  μ F :=
  z_body (by decide +kernel) (Nat.le_of_ble_eq_true rfl) h
set_option maxRecDepth 20000 in
theorem rX10_placeOf_e {G : zG} {ph : Bool} {F : Int → zM → Prop} {J : Nat → zS → Prop} {μ : zM} (C : zJ G ph (2) 0 0 mX10_placeOf (zKI F) J) (x0 : Int)
    (h : qX10_isIn G ph x0 0 8888 μ (fun v1 μ1 => zin v1 ∧ ((¬ v1 = 0 → J 17 ([some (zI x0), some (zI 0), some (zI 0), none], [], μ1, 0, 0)) ∧ (v1 = 0 → F (-1) μ1)))) : J 0 ([some (zI x0), none, none, none], [], μ, 0, 0) := by
  obtain ⟨p, e, s, m, args, below, meth, c, A, hml, hr, hlk, hnm, rfl⟩ := C
  refine s_iload_n A dX10_placeOf_0 rfl ?_
  refine s_iconst A dX10_placeOf_1 ?_
  refine s_sipush A dX10_placeOf_2 rfl ?_
  refine s_callS (M := mX10_isIn) (n := 3) (d := 0) (mc := 0) (ms := 0) (av := [zI x0, zI 0, zI 8888]) (st := []) A dX10_placeOf_5 zwd597 zwd598 zwd89 zcd_X10_isIn (Nat.le_of_ble_eq_true rfl) (Nat.le_of_ble_eq_true rfl) (Nat.le_refl _) ⟨Nat.le_of_ble_eq_true rfl, Nat.le_of_ble_eq_true rfl⟩ zhn_X10_isIn rfl (Nat.le_of_ble_eq_true rfl) rfl (z_contI (fun v1 μ1 h => ?_) h)
  obtain ⟨oz2, h⟩ := h
  refine z_if_ne (tgt := 13) A dX10_placeOf_8 (by decide) oz2 (fun c3 => ?_) (fun c3 => ?_)
  · have h := h.1 c3
    refine s_iconst A dX10_placeOf_13 ?_
    refine s_istore_n (L' := [some (zI x0), some (zI 0), none, none]) A dX10_placeOf_14 (Nat.le_of_ble_eq_true rfl) rfl ?_
    refine s_iconst A dX10_placeOf_15 ?_
    refine s_istore_n (L' := [some (zI x0), some (zI 0), some (zI 0), none]) A dX10_placeOf_16 (Nat.le_of_ble_eq_true rfl) rfl ?_
    exact h
  · have h := h.2 c3
    refine s_iconst A dX10_placeOf_11 ?_
    exact s_iret A dX10_placeOf_12 hr hlk (Nat.le_of_ble_eq_true rfl) (Nat.le_of_ble_eq_true rfl) ⟨_, rfl, h⟩
set_option maxRecDepth 20000 in
theorem rX10_placeOf_17 {G : zG} {ph : Bool} {F : Int → zM → Prop} {J : Nat → zS → Prop} {μ : zM} (C : zJ G ph (2) 0 0 mX10_placeOf (zKI F) J) (x0 : Int) (x1 : Int) (x2 : Int)
    (h : zin x2 ∧ ((4 ≤ x2 → F x1 μ) ∧ (¬ (4 ≤ x2) → (0 ≤ x2 ∧ x2 < 4) ∧ (0 ≤ x0 ∧ x0 < 2147483648) ∧ (0 < zta 0 x2 ∧ zta 0 x2 < 2147483648) ∧ (0 ≤ x0 / (zta 0 x2) ∧ x0 / (zta 0 x2) < 2147483648) ∧ zin ((x0 / (zta 0 x2)) % 10) ∧ (((x0 / (zta 0 x2)) % 10 ≤ 8 → J 17 ([some (zI x0), some (zI (x1 + (((x0 / (zta 0 x2)) % 10) * (zta 1 x2)))), some (zI (x2 + 1)), none], [], μ, 0, 0)) ∧ (¬ ((x0 / (zta 0 x2)) % 10 ≤ 8) → F (-1) μ))))) : J 17 ([some (zI x0), some (zI x1), some (zI x2), none], [], μ, 0, 0) := by
  obtain ⟨p, e, s, m, args, below, meth, c, A, hml, hr, hlk, hnm, rfl⟩ := C
  refine s_iload_n A dX10_placeOf_17 rfl ?_
  refine s_iconst A dX10_placeOf_18 ?_
  obtain ⟨oz1, h⟩ := h
  refine z_icmp_ge (tgt := 57) A dX10_placeOf_19 (by decide) oz1 ⟨by decide, by decide⟩ (fun c2 => ?_) (fun c2 => ?_)
  · have h := h.1 c2
    refine s_iload_n A dX10_placeOf_57 rfl ?_
    exact s_iret A dX10_placeOf_58 hr hlk (Nat.le_of_ble_eq_true rfl) (Nat.le_of_ble_eq_true rfl) ⟨_, rfl, h⟩
  · have h := h.2 c2
    refine s_iload_n A dX10_placeOf_22 rfl ?_
    refine s_getsT (t := 0) A dX10_placeOf_23 (by decide) zwd809 ?_
    refine s_iload_n A dX10_placeOf_26 rfl ?_
    obtain ⟨ox3, h⟩ := h
    refine z_tald A dX10_placeOf_27 (by decide) (Nat.le_of_ble_eq_true rfl) ox3 ?_
    obtain ⟨o1, h⟩ := h
    obtain ⟨o2, h⟩ := h
    refine z_idiv A dX10_placeOf_28 o1 o2 ?_
    refine s_bipush A dX10_placeOf_29 rfl ?_
    obtain ⟨o1, h⟩ := h
    refine z_irem A dX10_placeOf_31 o1 ⟨by decide, by decide⟩ ?_
    refine s_istore_n (L' := [some (zI x0), some (zI x1), some (zI x2), some (zI ((x0 / (zta 0 x2)) % 10))]) A dX10_placeOf_32 (Nat.le_of_ble_eq_true rfl) rfl ?_
    refine s_iload_n A dX10_placeOf_33 rfl ?_
    refine s_bipush A dX10_placeOf_34 rfl ?_
    obtain ⟨oz4, h⟩ := h
    refine z_icmp_le (tgt := 41) A dX10_placeOf_36 (by decide) oz4 ⟨by decide, by decide⟩ (fun c5 => ?_) (fun c5 => ?_)
    · have h := h.1 c5
      refine s_iload_n A dX10_placeOf_41 rfl ?_
      refine s_iload_n A dX10_placeOf_42 rfl ?_
      refine s_getsT (t := 1) A dX10_placeOf_43 (by decide) zwd811 ?_
      refine s_iload_n A dX10_placeOf_46 rfl ?_
      refine z_tald A dX10_placeOf_47 (by decide) (Nat.le_of_ble_eq_true rfl) ox3 ?_
      refine s_imul A dX10_placeOf_48 ?_
      refine s_iadd A dX10_placeOf_49 ?_
      refine s_istore_n (L' := [some (zI x0), some (zI (x1 + (((x0 / (zta 0 x2)) % 10) * (zta 1 x2)))), some (zI x2), some (zI ((x0 / (zta 0 x2)) % 10))]) A dX10_placeOf_50 (Nat.le_of_ble_eq_true rfl) rfl ?_
      refine s_iinc (L' := [some (zI x0), some (zI (x1 + (((x0 / (zta 0 x2)) % 10) * (zta 1 x2)))), some (zI (x2 + 1)), some (zI ((x0 / (zta 0 x2)) % 10))]) A dX10_placeOf_51 rfl rfl ?_
      refine s_goto (tgt := 17) A dX10_placeOf_54 (by decide) ?_
      exact z_wk (L' := [some (zI x0), some (zI (x1 + (((x0 / (zta 0 x2)) % 10) * (zta 1 x2)))), some (zI (x2 + 1)), none]) ⟨rfl, rfl, rfl, trivial⟩ h
    · have h := h.2 c5
      refine s_iconst A dX10_placeOf_39 ?_
      exact s_iret A dX10_placeOf_40 hr hlk (Nat.le_of_ble_eq_true rfl) (Nat.le_of_ble_eq_true rfl) ⟨_, rfl, h⟩
theorem eX10_placeOf {G : zG} {ph : Bool} {F : Int → zM → Prop} {μ : zM} {x0 : Int} (h : ∀ J, zJ G ph (2) 0 0 mX10_placeOf (zKI F) J → J 0 ([some (zI x0), none, none, none], [], μ, 0, 0)) : qX10_placeOf G ph x0 μ F :=
  z_body (by decide +kernel) (Nat.le_of_ble_eq_true rfl) h
set_option maxRecDepth 20000 in
theorem rX10_refresh_e {G : zG} {F : zM → Prop} {J : Nat → zS → Prop} {μ : zM} (C : zJ G true (11) 0 0 mX10_refresh (zKV F) J) 
    (h : qX0_follow G 105 5 μ (fun μ1 => qX4_follow G 5 μ1 (fun μ2 => F μ2))) : J 0 ([some (zR (some 0))], [], μ, 0, 0) := by
  obtain ⟨p, e, s, m, args, below, meth, c, A, hml, hr, hlk, hnm, rfl⟩ := C
  refine s_aload_n A dX10_refresh_0 rfl ?_
  refine s_getf (k := 10) (j := 6) (sl := true) (v := zR (some 105)) A dX10_refresh_1 rfl zuw_X10 (Nat.le_of_ble_eq_true rfl) zwd344 (by decide) (zk_0 _) rfl ?_
  refine s_aload_n A dX10_refresh_4 rfl ?_
  refine s_getf (k := 10) (j := 2) (sl := true) (v := zR (some 5)) A dX10_refresh_5 rfl zuw_X10 (Nat.le_of_ble_eq_true rfl) zwd340 (by decide) (zk_0 _) rfl ?_
  refine s_callV (a := 105) (k := 0) (N := 5) (sl := true) (M := mX0_follow) (n := 1) (d := 10) (mc := 0) (ms := 0) (av := [zR (some 5)]) (st := []) A dX10_refresh_8 rfl (by decide) (zk_105 _) zwd817 zwd818 zwd819 zwd95 zcd_X0_follow (Nat.le_of_ble_eq_true rfl) (Nat.le_of_ble_eq_true rfl) (Nat.le_refl _) ⟨Nat.le_of_ble_eq_true rfl, Nat.le_of_ble_eq_true rfl⟩ ⟨rfl, zhn_X0_follow⟩ rfl (Nat.le_of_ble_eq_true rfl) rfl (z_contV (fun μ1 h => ?_) h)
  refine s_aload_n A dX10_refresh_11 rfl ?_
  refine s_getf (k := 10) (j := 9) (sl := true) (v := zR (some 125)) A dX10_refresh_12 rfl zuw_X10 (Nat.le_of_ble_eq_true rfl) zwd347 (by decide) (zk_0 _) rfl ?_
  refine s_aload_n A dX10_refresh_15 rfl ?_
  refine s_getf (k := 10) (j := 2) (sl := true) (v := zR (some 5)) A dX10_refresh_16 rfl zuw_X10 (Nat.le_of_ble_eq_true rfl) zwd340 (by decide) (zk_0 _) rfl ?_
  refine s_callV (a := 125) (k := 4) (N := 9) (sl := true) (M := mX4_follow) (n := 1) (d := 3) (mc := 0) (ms := 0) (av := [zR (some 5)]) (st := []) A dX10_refresh_19 rfl (by decide) (zk_125 _) zwd847 zwd848 zwd849 zwd97 zcd_X4_follow (Nat.le_of_ble_eq_true rfl) (Nat.le_of_ble_eq_true rfl) (Nat.le_refl _) ⟨Nat.le_of_ble_eq_true rfl, Nat.le_of_ble_eq_true rfl⟩ ⟨rfl, zhn_X4_follow⟩ rfl (Nat.le_of_ble_eq_true rfl) rfl (z_contV (fun μ2 h => ?_) h)
  exact s_vret A dX10_refresh_22 hr hlk (Nat.le_of_ble_eq_true rfl) (Nat.le_of_ble_eq_true rfl) ⟨rfl, h⟩
theorem eX10_refresh {G : zG} {F : zM → Prop} {μ : zM}  (h : ∀ J, zJ G true (11) 0 0 mX10_refresh (zKV F) J → J 0 ([some (zR (some 0))], [], μ, 0, 0)) : qX10_refresh G  μ F :=
  z_body (by decide +kernel) (Nat.le_of_ble_eq_true rfl) h
set_option maxRecDepth 20000 in
theorem rX10_tellColour_e {G : zG} {F : zM → Prop} {J : Nat → zS → Prop} {μ : zM} (C : zJ G true (2) 0 0 mX10_tellColour (zKV F) J) (x1 : Int)
    (h : J 2 ([some (zR (some 0)), some (zI x1), some (zI 0)], [], μ, 0, 0)) : J 0 ([some (zR (some 0)), some (zI x1), none], [], μ, 0, 0) := by
  obtain ⟨p, e, s, m, args, below, meth, c, A, hml, hr, hlk, hnm, rfl⟩ := C
  refine s_iconst A dX10_tellColour_0 ?_
  refine s_istore_n (L' := [some (zR (some 0)), some (zI x1), some (zI 0)]) A dX10_tellColour_1 (Nat.le_of_ble_eq_true rfl) rfl ?_
  exact h
set_option maxRecDepth 20000 in
theorem rX10_tellColour_2 {G : zG} {F : zM → Prop} {J : Nat → zS → Prop} {μ : zM} (C : zJ G true (2) 0 0 mX10_tellColour (zKV F) J) (x1 : Int) (x2 : Int)
    (h : zin x2 ∧ ((3 ≤ x2 → F μ) ∧ (¬ (3 ≤ x2) → qX0_number G 105 x1 x2 μ (fun v3 μ3 => zin v3 ∧ qX6_append G v3 μ3 (fun μ5 => J 2 ([some (zR (some 0)), some (zI x1), some (zI (x2 + 1))], [], μ5, 0, 0)))))) : J 2 ([some (zR (some 0)), some (zI x1), some (zI x2)], [], μ, 0, 0) := by
  obtain ⟨p, e, s, m, args, below, meth, c, A, hml, hr, hlk, hnm, rfl⟩ := C
  refine s_iload_n A dX10_tellColour_2 rfl ?_
  refine s_iconst A dX10_tellColour_3 ?_
  obtain ⟨oz1, h⟩ := h
  refine z_icmp_ge (tgt := 30) A dX10_tellColour_4 (by decide) oz1 ⟨by decide, by decide⟩ (fun c2 => ?_) (fun c2 => ?_)
  · have h := h.1 c2
    exact s_vret A dX10_tellColour_30 hr hlk (Nat.le_of_ble_eq_true rfl) (Nat.le_of_ble_eq_true rfl) ⟨rfl, h⟩
  · have h := h.2 c2
    refine s_aload_n A dX10_tellColour_7 rfl ?_
    refine s_getf (k := 10) (j := 1) (sl := true) (v := zR (some 3)) A dX10_tellColour_8 rfl zuw_X10 (Nat.le_of_ble_eq_true rfl) zwd339 (by decide) (zk_0 _) rfl ?_
    refine s_aload_n A dX10_tellColour_11 rfl ?_
    refine s_getf (k := 10) (j := 6) (sl := true) (v := zR (some 105)) A dX10_tellColour_12 rfl zuw_X10 (Nat.le_of_ble_eq_true rfl) zwd344 (by decide) (zk_0 _) rfl ?_
    refine s_iload_n A dX10_tellColour_15 rfl ?_
    refine s_iload_n A dX10_tellColour_16 rfl ?_
    refine s_callV (a := 105) (k := 0) (N := 5) (sl := true) (M := mX0_number) (n := 2) (d := 0) (mc := 0) (ms := 0) (av := [zI x1, zI x2]) (st := [zR (some 3)]) A dX10_tellColour_17 rfl (by decide) (zk_105 _) zwd863 zwd864 zwd865 zwd95 zcd_X0_number (Nat.le_of_ble_eq_true rfl) (Nat.le_of_ble_eq_true rfl) (Nat.le_refl _) ⟨Nat.le_of_ble_eq_true rfl, Nat.le_of_ble_eq_true rfl⟩ ⟨rfl, zhn_X0_number⟩ rfl (Nat.le_of_ble_eq_true rfl) rfl (z_contI (fun v3 μ3 h => ?_) h)
    obtain ⟨oz4, h⟩ := h
    refine z_i2l2 A dX10_tellColour_20 oz4 ?_
    refine s_callV (a := 3) (k := 6) (N := 2) (sl := true) (M := mX6_append) (n := 1) (d := 0) (mc := 0) (ms := 0) (av := [zL v3]) (st := []) A dX10_tellColour_21 rfl (by decide) (zk_3 _) zwd790 zwd791 zwd792 zwd91 zcd_X6_append (Nat.le_of_ble_eq_true rfl) (Nat.le_of_ble_eq_true rfl) (Nat.le_refl _) ⟨Nat.le_of_ble_eq_true rfl, Nat.le_of_ble_eq_true rfl⟩ ⟨rfl, zhn_X6_append⟩ rfl (Nat.le_of_ble_eq_true rfl) rfl (z_contV (fun μ5 h => ?_) h)
    refine s_iinc (L' := [some (zR (some 0)), some (zI x1), some (zI (x2 + 1))]) A dX10_tellColour_24 rfl rfl ?_
    refine s_goto (tgt := 2) A dX10_tellColour_27 (by decide) ?_
    exact h
theorem eX10_tellColour {G : zG} {F : zM → Prop} {μ : zM} {x1 : Int} (h : ∀ J, zJ G true (2) 0 0 mX10_tellColour (zKV F) J → J 0 ([some (zR (some 0)), some (zI x1), none], [], μ, 0, 0)) : qX10_tellColour G x1 μ F :=
  z_body (by decide +kernel) (Nat.le_of_ble_eq_true rfl) h
set_option maxRecDepth 20000 in
theorem rX10_colour_e {G : zG} {F : Int → zM → Prop} {J : Nat → zS → Prop} {μ : zM} (C : zJ G true (12) 0 0 mX10_colour (zKI F) J) (x1 : Int)
    (h : qX10_placeOf G true x1 μ (fun v1 μ1 => zin v1 ∧ ((0 ≤ v1 → qX10_refresh G μ1 (fun μ4 => qX6_clear G μ4 (fun μ5 => qX10_tellColour G v1 μ5 (fun μ6 => qX10_totalOf G true v1 μ6 (fun v7 μ7 => F v7 μ7))))) ∧ (¬ (0 ≤ v1) → F (-1) μ1)))) : J 0 ([some (zR (some 0)), some (zI x1), none], [], μ, 0, 0) := by
  obtain ⟨p, e, s, m, args, below, meth, c, A, hml, hr, hlk, hnm, rfl⟩ := C
  refine s_iload_n A dX10_colour_0 rfl ?_
  refine s_callS (M := mX10_placeOf) (n := 1) (d := 2) (mc := 0) (ms := 0) (av := [zI x1]) (st := []) A dX10_colour_1 zwd806 zwd807 zwd89 zcd_X10_placeOf (Nat.le_of_ble_eq_true rfl) (Nat.le_of_ble_eq_true rfl) (Nat.le_refl _) ⟨Nat.le_of_ble_eq_true rfl, Nat.le_of_ble_eq_true rfl⟩ zhn_X10_placeOf rfl (Nat.le_of_ble_eq_true rfl) rfl (z_contI (fun v1 μ1 h => ?_) h)
  refine s_istore_n (L' := [some (zR (some 0)), some (zI x1), some (zI v1)]) A dX10_colour_4 (Nat.le_of_ble_eq_true rfl) rfl ?_
  refine s_iload_n A dX10_colour_5 rfl ?_
  obtain ⟨oz2, h⟩ := h
  refine z_if_ge (tgt := 11) A dX10_colour_6 (by decide) oz2 (fun c3 => ?_) (fun c3 => ?_)
  · have h := h.1 c3
    refine s_aload_n A dX10_colour_11 rfl ?_
    refine s_callV (a := 0) (k := 10) (N := 15) (sl := true) (M := mX10_refresh) (n := 0) (d := 11) (mc := 0) (ms := 0) (av := []) (st := []) A dX10_colour_12 rfl (by decide) (zk_0 _) zwd813 zwd815 zwd5 zwd89 zcd_X10_refresh (Nat.le_of_ble_eq_true rfl) (Nat.le_of_ble_eq_true rfl) (Nat.le_refl _) ⟨Nat.le_of_ble_eq_true rfl, Nat.le_of_ble_eq_true rfl⟩ ⟨rfl, zhn_X10_refresh⟩ rfl (Nat.le_of_ble_eq_true rfl) rfl (z_contV (fun μ4 h => ?_) h)
    refine s_aload_n A dX10_colour_15 rfl ?_
    refine s_getf (k := 10) (j := 1) (sl := true) (v := zR (some 3)) A dX10_colour_16 rfl zuw_X10 (Nat.le_of_ble_eq_true rfl) zwd339 (by decide) (zk_0 _) rfl ?_
    refine s_callV (a := 3) (k := 6) (N := 2) (sl := true) (M := mX6_clear) (n := 0) (d := 0) (mc := 0) (ms := 0) (av := []) (st := []) A dX10_colour_19 rfl (by decide) (zk_3 _) zwd786 zwd787 zwd788 zwd91 zcd_X6_clear (Nat.le_of_ble_eq_true rfl) (Nat.le_of_ble_eq_true rfl) (Nat.le_refl _) ⟨Nat.le_of_ble_eq_true rfl, Nat.le_of_ble_eq_true rfl⟩ ⟨rfl, zhn_X6_clear⟩ rfl (Nat.le_of_ble_eq_true rfl) rfl (z_contV (fun μ5 h => ?_) h)
    refine s_aload_n A dX10_colour_22 rfl ?_
    refine s_iload_n A dX10_colour_23 rfl ?_
    refine s_callV (a := 0) (k := 10) (N := 15) (sl := true) (M := mX10_tellColour) (n := 1) (d := 2) (mc := 0) (ms := 0) (av := [zI v1]) (st := []) A dX10_colour_24 rfl (by decide) (zk_0 _) zwd859 zwd861 zwd8 zwd89 zcd_X10_tellColour (Nat.le_of_ble_eq_true rfl) (Nat.le_of_ble_eq_true rfl) (Nat.le_refl _) ⟨Nat.le_of_ble_eq_true rfl, Nat.le_of_ble_eq_true rfl⟩ ⟨rfl, zhn_X10_tellColour⟩ rfl (Nat.le_of_ble_eq_true rfl) rfl (z_contV (fun μ6 h => ?_) h)
    refine s_iload_n A dX10_colour_27 rfl ?_
    refine s_callS (M := mX10_totalOf) (n := 1) (d := 0) (mc := 0) (ms := 0) (av := [zI v1]) (st := []) A dX10_colour_28 zwd867 zwd856 zwd89 zcd_X10_totalOf (Nat.le_of_ble_eq_true rfl) (Nat.le_of_ble_eq_true rfl) (Nat.le_refl _) ⟨Nat.le_of_ble_eq_true rfl, Nat.le_of_ble_eq_true rfl⟩ zhn_X10_totalOf rfl (Nat.le_of_ble_eq_true rfl) rfl (z_contI (fun v7 μ7 h => ?_) h)
    exact s_iret A dX10_colour_31 hr hlk (Nat.le_of_ble_eq_true rfl) (Nat.le_of_ble_eq_true rfl) ⟨_, rfl, h⟩
  · have h := h.2 c3
    refine s_iconst A dX10_colour_9 ?_
    exact s_iret A dX10_colour_10 hr hlk (Nat.le_of_ble_eq_true rfl) (Nat.le_of_ble_eq_true rfl) ⟨_, rfl, h⟩
theorem eX10_colour {G : zG} {F : Int → zM → Prop} {μ : zM} {x1 : Int} (h : ∀ J, zJ G true (12) 0 0 mX10_colour (zKI F) J → J 0 ([some (zR (some 0)), some (zI x1), none], [], μ, 0, 0)) : qX10_colour G x1 μ F :=
  z_body (by decide +kernel) (Nat.le_of_ble_eq_true rfl) h
set_option maxRecDepth 20000 in
theorem rX10_codeOf_e {G : zG} {ph : Bool} {F : Int → zM → Prop} {J : Nat → zS → Prop} {μ : zM} (C : zJ G ph (2) 0 0 mX10_codeOf (zKI F) J) (x0 : Int)
    (h : J 4 ([some (zI x0), some (zI 0), some (zI 0)], [], μ, 0, 0)) : J 0 ([some (zI x0), none, none], [], μ, 0, 0) := by
  obtain ⟨p, e, s, m, args, below, meth, c, A, hml, hr, hlk, hnm, rfl⟩ := C
  refine s_iconst A dX10_codeOf_0 ?_
  refine s_istore_n (L' := [some (zI x0), some (zI 0), none]) A dX10_codeOf_1 (Nat.le_of_ble_eq_true rfl) rfl ?_
  refine s_iconst A dX10_codeOf_2 ?_
  refine s_istore_n (L' := [some (zI x0), some (zI 0), some (zI 0)]) A dX10_codeOf_3 (Nat.le_of_ble_eq_true rfl) rfl ?_
  exact h
set_option maxRecDepth 20000 in
theorem rX10_codeOf_4 {G : zG} {ph : Bool} {F : Int → zM → Prop} {J : Nat → zS → Prop} {μ : zM} (C : zJ G ph (2) 0 0 mX10_codeOf (zKI F) J) (x0 : Int) (x1 : Int) (x2 : Int)
    (h : zin x2 ∧ ((4 ≤ x2 → F x1 μ) ∧ (¬ (4 ≤ x2) → qX10_amountOf G ph x0 x2 μ (fun v3 μ3 => (0 ≤ x2 ∧ x2 < 4) ∧ J 4 ([some (zI x0), some (zI (x1 + (v3 * (zta 0 x2)))), some (zI (x2 + 1))], [], μ3, 0, 0))))) : J 4 ([some (zI x0), some (zI x1), some (zI x2)], [], μ, 0, 0) := by
  obtain ⟨p, e, s, m, args, below, meth, c, A, hml, hr, hlk, hnm, rfl⟩ := C
  refine s_iload_n A dX10_codeOf_4 rfl ?_
  refine s_iconst A dX10_codeOf_5 ?_
  obtain ⟨oz1, h⟩ := h
  refine z_icmp_ge (tgt := 29) A dX10_codeOf_6 (by decide) oz1 ⟨by decide, by decide⟩ (fun c2 => ?_) (fun c2 => ?_)
  · have h := h.1 c2
    refine s_iload_n A dX10_codeOf_29 rfl ?_
    exact s_iret A dX10_codeOf_30 hr hlk (Nat.le_of_ble_eq_true rfl) (Nat.le_of_ble_eq_true rfl) ⟨_, rfl, h⟩
  · have h := h.2 c2
    refine s_iload_n A dX10_codeOf_9 rfl ?_
    refine s_iload_n A dX10_codeOf_10 rfl ?_
    refine s_iload_n A dX10_codeOf_11 rfl ?_
    refine s_callS (M := mX10_amountOf) (n := 2) (d := 0) (mc := 0) (ms := 0) (av := [zI x0, zI x2]) (st := [zI x1]) A dX10_codeOf_12 zwd896 zwd840 zwd89 zcd_X10_amountOf (Nat.le_of_ble_eq_true rfl) (Nat.le_of_ble_eq_true rfl) (Nat.le_refl _) ⟨Nat.le_of_ble_eq_true rfl, Nat.le_of_ble_eq_true rfl⟩ zhn_X10_amountOf rfl (Nat.le_of_ble_eq_true rfl) rfl (z_contI (fun v3 μ3 h => ?_) h)
    refine s_getsT (t := 0) A dX10_codeOf_15 (by decide) zwd809 ?_
    refine s_iload_n A dX10_codeOf_18 rfl ?_
    obtain ⟨ox4, h⟩ := h
    refine z_tald A dX10_codeOf_19 (by decide) (Nat.le_of_ble_eq_true rfl) ox4 ?_
    refine s_imul A dX10_codeOf_20 ?_
    refine s_iadd A dX10_codeOf_21 ?_
    refine s_istore_n (L' := [some (zI x0), some (zI (x1 + (v3 * (zta 0 x2)))), some (zI x2)]) A dX10_codeOf_22 (Nat.le_of_ble_eq_true rfl) rfl ?_
    refine s_iinc (L' := [some (zI x0), some (zI (x1 + (v3 * (zta 0 x2)))), some (zI (x2 + 1))]) A dX10_codeOf_23 rfl rfl ?_
    refine s_goto (tgt := 4) A dX10_codeOf_26 (by decide) ?_
    exact h
theorem eX10_codeOf {G : zG} {ph : Bool} {F : Int → zM → Prop} {μ : zM} {x0 : Int} (h : ∀ J, zJ G ph (2) 0 0 mX10_codeOf (zKI F) J → J 0 ([some (zI x0), none, none], [], μ, 0, 0)) : qX10_codeOf G ph x0 μ F :=
  z_body (by decide +kernel) (Nat.le_of_ble_eq_true rfl) h
set_option maxRecDepth 20000 in
theorem rX10_limited_e {G : zG} {F : Int → zM → Prop} {J : Nat → zS → Prop} {μ : zM} (C : zJ G true (10) 0 0 mX10_limited (zKI F) J) (x1 : Int) (x2 : Int)
    (h : qX10_placeOf G true x1 μ (fun v1 μ1 => zin v1 ∧ ((v1 < 0 → F (-1) μ1) ∧ (¬ (v1 < 0) → qX10_isIn G true x2 8 32 μ1 (fun v4 μ4 => zin v4 ∧ ((¬ v4 = 0 → qX2_load G v1 μ4 (fun μ7 => qX2_limitTo G x2 μ7 (fun μ8 => qX2_place G μ8 (fun v9 μ9 => qX10_codeOf G true v9 μ9 (fun v10 μ10 => F v10 μ10))))) ∧ (v4 = 0 → F (-1) μ4))))))) : J 0 ([some (zR (some 0)), some (zI x1), some (zI x2), none], [], μ, 0, 0) := by
  obtain ⟨p, e, s, m, args, below, meth, c, A, hml, hr, hlk, hnm, rfl⟩ := C
  refine s_iload_n A dX10_limited_0 rfl ?_
  refine s_callS (M := mX10_placeOf) (n := 1) (d := 2) (mc := 0) (ms := 0) (av := [zI x1]) (st := []) A dX10_limited_1 zwd806 zwd807 zwd89 zcd_X10_placeOf (Nat.le_of_ble_eq_true rfl) (Nat.le_of_ble_eq_true rfl) (Nat.le_refl _) ⟨Nat.le_of_ble_eq_true rfl, Nat.le_of_ble_eq_true rfl⟩ zhn_X10_placeOf rfl (Nat.le_of_ble_eq_true rfl) rfl (z_contI (fun v1 μ1 h => ?_) h)
  refine s_istore_n (L' := [some (zR (some 0)), some (zI x1), some (zI x2), some (zI v1)]) A dX10_limited_4 (Nat.le_of_ble_eq_true rfl) rfl ?_
  refine s_iload_n A dX10_limited_5 rfl ?_
  obtain ⟨oz2, h⟩ := h
  refine z_if_lt (tgt := 26) A dX10_limited_6 (by decide) oz2 (fun c3 => ?_) (fun c3 => ?_)
  · have h := h.1 c3
    refine s_iconst A dX10_limited_26 ?_
    exact s_iret A dX10_limited_27 hr hlk (Nat.le_of_ble_eq_true rfl) (Nat.le_of_ble_eq_true rfl) ⟨_, rfl, h⟩
  · have h := h.2 c3
    refine s_iload_n A dX10_limited_9 rfl ?_
    refine s_getsT (t := 4) A dX10_limited_10 (by decide) zwd872 ?_
    refine s_iconst A dX10_limited_13 ?_
    refine z_tald A dX10_limited_14 (by decide) (Nat.le_of_ble_eq_true rfl) (show (0 : Int) ≤ 0 ∧ (0 : Int) < 7 from ⟨by decide, by decide⟩) ?_
    refine s_getsT (t := 5) A dX10_limited_15 (by decide) zwd873 ?_
    refine s_iconst A dX10_limited_18 ?_
    refine z_tald A dX10_limited_19 (by decide) (Nat.le_of_ble_eq_true rfl) (show (0 : Int) ≤ 0 ∧ (0 : Int) < 7 from ⟨by decide, by decide⟩) ?_
    refine s_callS (M := mX10_isIn) (n := 3) (d := 0) (mc := 0) (ms := 0) (av := [zI x2, zI 8, zI 32]) (st := []) A dX10_limited_20 zwd597 zwd598 zwd89 zcd_X10_isIn (Nat.le_of_ble_eq_true rfl) (Nat.le_of_ble_eq_true rfl) (Nat.le_refl _) ⟨Nat.le_of_ble_eq_true rfl, Nat.le_of_ble_eq_true rfl⟩ zhn_X10_isIn rfl (Nat.le_of_ble_eq_true rfl) rfl (z_contI (fun v4 μ4 h => ?_) h)
    obtain ⟨oz5, h⟩ := h
    refine z_if_ne (tgt := 28) A dX10_limited_23 (by decide) oz5 (fun c6 => ?_) (fun c6 => ?_)
    · have h := h.1 c6
      refine s_aload_n A dX10_limited_28 rfl ?_
      refine s_getf (k := 10) (j := 10) (sl := true) (v := zR (some 128)) A dX10_limited_29 rfl zuw_X10 (Nat.le_of_ble_eq_true rfl) zwd348 (by decide) (zk_0 _) rfl ?_
      refine s_iload_n A dX10_limited_32 rfl ?_
      refine s_callV (a := 128) (k := 2) (N := 1) (sl := true) (M := mX2_load) (n := 1) (d := 2) (mc := 0) (ms := 0) (av := [zI v1]) (st := []) A dX10_limited_33 rfl (by decide) (zk_128 _) zwd874 zwd875 zwd876 zwd98 zcd_X2_load (Nat.le_of_ble_eq_true rfl) (Nat.le_of_ble_eq_true rfl) (Nat.le_refl _) ⟨Nat.le_of_ble_eq_true rfl, Nat.le_of_ble_eq_true rfl⟩ ⟨rfl, zhn_X2_load⟩ rfl (Nat.le_of_ble_eq_true rfl) rfl (z_contV (fun μ7 h => ?_) h)
      refine s_aload_n A dX10_limited_36 rfl ?_
      refine s_getf (k := 10) (j := 10) (sl := true) (v := zR (some 128)) A dX10_limited_37 rfl zuw_X10 (Nat.le_of_ble_eq_true rfl) zwd348 (by decide) (zk_0 _) rfl ?_
      refine s_iload_n A dX10_limited_40 rfl ?_
      refine s_callV (a := 128) (k := 2) (N := 1) (sl := true) (M := mX2_limitTo) (n := 1) (d := 9) (mc := 0) (ms := 0) (av := [zI x2]) (st := []) A dX10_limited_41 rfl (by decide) (zk_128 _) zwd879 zwd880 zwd881 zwd98 zcd_X2_limitTo (Nat.le_of_ble_eq_true rfl) (Nat.le_of_ble_eq_true rfl) (Nat.le_refl _) ⟨Nat.le_of_ble_eq_true rfl, Nat.le_of_ble_eq_true rfl⟩ ⟨rfl, zhn_X2_limitTo⟩ rfl (Nat.le_of_ble_eq_true rfl) rfl (z_contV (fun μ8 h => ?_) h)
      refine s_aload_n A dX10_limited_44 rfl ?_
      refine s_getf (k := 10) (j := 10) (sl := true) (v := zR (some 128)) A dX10_limited_45 rfl zuw_X10 (Nat.le_of_ble_eq_true rfl) zwd348 (by decide) (zk_0 _) rfl ?_
      refine s_callV (a := 128) (k := 2) (N := 1) (sl := true) (M := mX2_place) (n := 0) (d := 0) (mc := 0) (ms := 0) (av := []) (st := []) A dX10_limited_48 rfl (by decide) (zk_128 _) zwd888 zwd889 zwd890 zwd98 zcd_X2_place (Nat.le_of_ble_eq_true rfl) (Nat.le_of_ble_eq_true rfl) (Nat.le_refl _) ⟨Nat.le_of_ble_eq_true rfl, Nat.le_of_ble_eq_true rfl⟩ ⟨rfl, zhn_X2_place⟩ rfl (Nat.le_of_ble_eq_true rfl) rfl (z_contI (fun v9 μ9 h => ?_) h)
      refine s_callS (M := mX10_codeOf) (n := 1) (d := 2) (mc := 0) (ms := 0) (av := [zI v9]) (st := []) A dX10_limited_51 zwd893 zwd894 zwd89 zcd_X10_codeOf (Nat.le_of_ble_eq_true rfl) (Nat.le_of_ble_eq_true rfl) (Nat.le_refl _) ⟨Nat.le_of_ble_eq_true rfl, Nat.le_of_ble_eq_true rfl⟩ zhn_X10_codeOf rfl (Nat.le_of_ble_eq_true rfl) rfl (z_contI (fun v10 μ10 h => ?_) h)
      exact s_iret A dX10_limited_54 hr hlk (Nat.le_of_ble_eq_true rfl) (Nat.le_of_ble_eq_true rfl) ⟨_, rfl, h⟩
    · have h := h.2 c6
      refine s_iconst A dX10_limited_26 ?_
      exact s_iret A dX10_limited_27 hr hlk (Nat.le_of_ble_eq_true rfl) (Nat.le_of_ble_eq_true rfl) ⟨_, rfl, h⟩
theorem eX10_limited {G : zG} {F : Int → zM → Prop} {μ : zM} {x1 : Int} {x2 : Int} (h : ∀ J, zJ G true (10) 0 0 mX10_limited (zKI F) J → J 0 ([some (zR (some 0)), some (zI x1), some (zI x2), none], [], μ, 0, 0)) : qX10_limited G x1 x2 μ F :=
  z_body (by decide +kernel) (Nat.le_of_ble_eq_true rfl) h
set_option maxRecDepth 20000 in
theorem rX10_match_e {G : zG} {F : Int → zM → Prop} {J : Nat → zS → Prop} {μ : zM} (C : zJ G true (12) 0 0 mX10_match (zKI F) J) (x1 : Int) (x2 : Int) (x3 : Int)
    (h : qX10_isColour G true x1 x2 x3 μ (fun v1 μ1 => zin v1 ∧ ((¬ v1 = 0 → qX10_refresh G μ1 (fun μ4 => qX4_find G 5 105 x1 x2 x3 μ4 (fun v5 μ5 => qX6_clear G μ5 (fun μ6 => zin (zi μ6 125 5) ∧ qX6_append G (zi μ6 125 5) μ6 (fun μ8 => zin (zi μ8 125 6) ∧ qX6_append G (zi μ8 125 6) μ8 (fun μ10 => zin (zi μ10 125 7) ∧ qX6_append G (zi μ10 125 7) μ10 (fun μ12 => zin (zi μ12 125 8) ∧ qX6_append G (zi μ12 125 8) μ12 (fun μ14 => qX10_codeOf G true v5 μ14 (fun v15 μ15 => F v15 μ15))))))))) ∧ (v1 = 0 → F (-1) μ1)))) : J 0 ([some (zR (some 0)), some (zI x1), some (zI x2), some (zI x3), none], [], μ, 0, 0) := by
  obtain ⟨p, e, s, m, args, below, meth, c, A, hml, hr, hlk, hnm, rfl⟩ := C
  refine s_iload_n A dX10_match_0 rfl ?_
  refine s_iload_n A dX10_match_1 rfl ?_
  refine s_iload_n A dX10_match_2 rfl ?_
  refine s_callS (M := mX10_isColour) (n := 3) (d := 2) (mc := 0) (ms := 0) (av := [zI x1, zI x2, zI x3]) (st := []) A dX10_match_3 zwd901 zwd770 zwd89 zcd_X10_isColour (Nat.le_of_ble_eq_true rfl) (Nat.le_of_ble_eq_true rfl) (Nat.le_refl _) ⟨Nat.le_of_ble_eq_true rfl, Nat.le_of_ble_eq_true rfl⟩ zhn_X10_isColour rfl (Nat.le_of_ble_eq_true rfl) rfl (z_contI (fun v1 μ1 h => ?_) h)
  obtain ⟨oz2, h⟩ := h
  refine z_if_ne (tgt := 11) A dX10_match_6 (by decide) oz2 (fun c3 => ?_) (fun c3 => ?_)
  · have h := h.1 c3
    refine s_aload_n A dX10_match_11 rfl ?_
    refine s_callV (a := 0) (k := 10) (N := 15) (sl := true) (M := mX10_refresh) (n := 0) (d := 11) (mc := 0) (ms := 0) (av := []) (st := []) A dX10_match_12 rfl (by decide) (zk_0 _) zwd813 zwd815 zwd5 zwd89 zcd_X10_refresh (Nat.le_of_ble_eq_true rfl) (Nat.le_of_ble_eq_true rfl) (Nat.le_refl _) ⟨Nat.le_of_ble_eq_true rfl, Nat.le_of_ble_eq_true rfl⟩ ⟨rfl, zhn_X10_refresh⟩ rfl (Nat.le_of_ble_eq_true rfl) rfl (z_contV (fun μ4 h => ?_) h)
    refine s_aload_n A dX10_match_15 rfl ?_
    refine s_getf (k := 10) (j := 9) (sl := true) (v := zR (some 125)) A dX10_match_16 rfl zuw_X10 (Nat.le_of_ble_eq_true rfl) zwd347 (by decide) (zk_0 _) rfl ?_
    refine s_aload_n A dX10_match_19 rfl ?_
    refine s_getf (k := 10) (j := 2) (sl := true) (v := zR (some 5)) A dX10_match_20 rfl zuw_X10 (Nat.le_of_ble_eq_true rfl) zwd340 (by decide) (zk_0 _) rfl ?_
    refine s_aload_n A dX10_match_23 rfl ?_
    refine s_getf (k := 10) (j := 6) (sl := true) (v := zR (some 105)) A dX10_match_24 rfl zuw_X10 (Nat.le_of_ble_eq_true rfl) zwd344 (by decide) (zk_0 _) rfl ?_
    refine s_iload_n A dX10_match_27 rfl ?_
    refine s_iload_n A dX10_match_28 rfl ?_
    refine s_iload_n A dX10_match_29 rfl ?_
    refine s_callV (a := 125) (k := 4) (N := 9) (sl := true) (M := mX4_find) (n := 5) (d := 9) (mc := 0) (ms := 0) (av := [zR (some 5), zR (some 105), zI x1, zI x2, zI x3]) (st := []) A dX10_match_30 rfl (by decide) (zk_125 _) zwd902 zwd903 zwd904 zwd97 zcd_X4_find (Nat.le_of_ble_eq_true rfl) (Nat.le_of_ble_eq_true rfl) (Nat.le_refl _) ⟨Nat.le_of_ble_eq_true rfl, Nat.le_of_ble_eq_true rfl⟩ ⟨rfl, zhn_X4_find⟩ rfl (Nat.le_of_ble_eq_true rfl) rfl (z_contI (fun v5 μ5 h => ?_) h)
    refine s_istore (L' := [some (zR (some 0)), some (zI x1), some (zI x2), some (zI x3), some (zI v5)]) A dX10_match_33 (Nat.le_of_ble_eq_true rfl) rfl ?_
    refine s_aload_n A dX10_match_35 rfl ?_
    refine s_getf (k := 10) (j := 1) (sl := true) (v := zR (some 3)) A dX10_match_36 rfl zuw_X10 (Nat.le_of_ble_eq_true rfl) zwd339 (by decide) (zk_0 _) rfl ?_
    refine s_callV (a := 3) (k := 6) (N := 2) (sl := true) (M := mX6_clear) (n := 0) (d := 0) (mc := 0) (ms := 0) (av := []) (st := []) A dX10_match_39 rfl (by decide) (zk_3 _) zwd786 zwd787 zwd788 zwd91 zcd_X6_clear (Nat.le_of_ble_eq_true rfl) (Nat.le_of_ble_eq_true rfl) (Nat.le_refl _) ⟨Nat.le_of_ble_eq_true rfl, Nat.le_of_ble_eq_true rfl⟩ ⟨rfl, zhn_X6_clear⟩ rfl (Nat.le_of_ble_eq_true rfl) rfl (z_contV (fun μ6 h => ?_) h)
    refine s_aload_n A dX10_match_42 rfl ?_
    refine s_getf (k := 10) (j := 1) (sl := true) (v := zR (some 3)) A dX10_match_43 rfl zuw_X10 (Nat.le_of_ble_eq_true rfl) zwd339 (by decide) (zk_0 _) rfl ?_
    refine s_aload_n A dX10_match_46 rfl ?_
    refine s_getf (k := 10) (j := 9) (sl := true) (v := zR (some 125)) A dX10_match_47 rfl zuw_X10 (Nat.le_of_ble_eq_true rfl) zwd347 (by decide) (zk_0 _) rfl ?_
    refine s_getf (k := 4) (j := 5) (sl := true) (v := zI (zi μ6 125 5)) A dX10_match_50 rfl zuw_X4 (Nat.le_of_ble_eq_true rfl) zwd285 (by decide) (zk_125 _) rfl ?_
    obtain ⟨oz7, h⟩ := h
    refine z_i2l2 A dX10_match_53 oz7 ?_
    refine s_callV (a := 3) (k := 6) (N := 2) (sl := true) (M := mX6_append) (n := 1) (d := 0) (mc := 0) (ms := 0) (av := [zL (zi μ6 125 5)]) (st := []) A dX10_match_54 rfl (by decide) (zk_3 _) zwd790 zwd791 zwd792 zwd91 zcd_X6_append (Nat.le_of_ble_eq_true rfl) (Nat.le_of_ble_eq_true rfl) (Nat.le_refl _) ⟨Nat.le_of_ble_eq_true rfl, Nat.le_of_ble_eq_true rfl⟩ ⟨rfl, zhn_X6_append⟩ rfl (Nat.le_of_ble_eq_true rfl) rfl (z_contV (fun μ8 h => ?_) h)
    refine s_aload_n A dX10_match_57 rfl ?_
    refine s_getf (k := 10) (j := 1) (sl := true) (v := zR (some 3)) A dX10_match_58 rfl zuw_X10 (Nat.le_of_ble_eq_true rfl) zwd339 (by decide) (zk_0 _) rfl ?_
    refine s_aload_n A dX10_match_61 rfl ?_
    refine s_getf (k := 10) (j := 9) (sl := true) (v := zR (some 125)) A dX10_match_62 rfl zuw_X10 (Nat.le_of_ble_eq_true rfl) zwd347 (by decide) (zk_0 _) rfl ?_
    refine s_getf (k := 4) (j := 6) (sl := true) (v := zI (zi μ8 125 6)) A dX10_match_65 rfl zuw_X4 (Nat.le_of_ble_eq_true rfl) zwd287 (by decide) (zk_125 _) rfl ?_
    obtain ⟨oz9, h⟩ := h
    refine z_i2l2 A dX10_match_68 oz9 ?_
    refine s_callV (a := 3) (k := 6) (N := 2) (sl := true) (M := mX6_append) (n := 1) (d := 0) (mc := 0) (ms := 0) (av := [zL (zi μ8 125 6)]) (st := []) A dX10_match_69 rfl (by decide) (zk_3 _) zwd790 zwd791 zwd792 zwd91 zcd_X6_append (Nat.le_of_ble_eq_true rfl) (Nat.le_of_ble_eq_true rfl) (Nat.le_refl _) ⟨Nat.le_of_ble_eq_true rfl, Nat.le_of_ble_eq_true rfl⟩ ⟨rfl, zhn_X6_append⟩ rfl (Nat.le_of_ble_eq_true rfl) rfl (z_contV (fun μ10 h => ?_) h)
    refine s_aload_n A dX10_match_72 rfl ?_
    refine s_getf (k := 10) (j := 1) (sl := true) (v := zR (some 3)) A dX10_match_73 rfl zuw_X10 (Nat.le_of_ble_eq_true rfl) zwd339 (by decide) (zk_0 _) rfl ?_
    refine s_aload_n A dX10_match_76 rfl ?_
    refine s_getf (k := 10) (j := 9) (sl := true) (v := zR (some 125)) A dX10_match_77 rfl zuw_X10 (Nat.le_of_ble_eq_true rfl) zwd347 (by decide) (zk_0 _) rfl ?_
    refine s_getf (k := 4) (j := 7) (sl := true) (v := zI (zi μ10 125 7)) A dX10_match_80 rfl zuw_X4 (Nat.le_of_ble_eq_true rfl) zwd289 (by decide) (zk_125 _) rfl ?_
    obtain ⟨oz11, h⟩ := h
    refine z_i2l2 A dX10_match_83 oz11 ?_
    refine s_callV (a := 3) (k := 6) (N := 2) (sl := true) (M := mX6_append) (n := 1) (d := 0) (mc := 0) (ms := 0) (av := [zL (zi μ10 125 7)]) (st := []) A dX10_match_84 rfl (by decide) (zk_3 _) zwd790 zwd791 zwd792 zwd91 zcd_X6_append (Nat.le_of_ble_eq_true rfl) (Nat.le_of_ble_eq_true rfl) (Nat.le_refl _) ⟨Nat.le_of_ble_eq_true rfl, Nat.le_of_ble_eq_true rfl⟩ ⟨rfl, zhn_X6_append⟩ rfl (Nat.le_of_ble_eq_true rfl) rfl (z_contV (fun μ12 h => ?_) h)
    refine s_aload_n A dX10_match_87 rfl ?_
    refine s_getf (k := 10) (j := 1) (sl := true) (v := zR (some 3)) A dX10_match_88 rfl zuw_X10 (Nat.le_of_ble_eq_true rfl) zwd339 (by decide) (zk_0 _) rfl ?_
    refine s_aload_n A dX10_match_91 rfl ?_
    refine s_getf (k := 10) (j := 9) (sl := true) (v := zR (some 125)) A dX10_match_92 rfl zuw_X10 (Nat.le_of_ble_eq_true rfl) zwd347 (by decide) (zk_0 _) rfl ?_
    refine s_getf (k := 4) (j := 8) (sl := true) (v := zI (zi μ12 125 8)) A dX10_match_95 rfl zuw_X4 (Nat.le_of_ble_eq_true rfl) zwd291 (by decide) (zk_125 _) rfl ?_
    obtain ⟨oz13, h⟩ := h
    refine z_i2l2 A dX10_match_98 oz13 ?_
    refine s_callV (a := 3) (k := 6) (N := 2) (sl := true) (M := mX6_append) (n := 1) (d := 0) (mc := 0) (ms := 0) (av := [zL (zi μ12 125 8)]) (st := []) A dX10_match_99 rfl (by decide) (zk_3 _) zwd790 zwd791 zwd792 zwd91 zcd_X6_append (Nat.le_of_ble_eq_true rfl) (Nat.le_of_ble_eq_true rfl) (Nat.le_refl _) ⟨Nat.le_of_ble_eq_true rfl, Nat.le_of_ble_eq_true rfl⟩ ⟨rfl, zhn_X6_append⟩ rfl (Nat.le_of_ble_eq_true rfl) rfl (z_contV (fun μ14 h => ?_) h)
    refine s_iload A dX10_match_102 rfl ?_
    refine s_callS (M := mX10_codeOf) (n := 1) (d := 2) (mc := 0) (ms := 0) (av := [zI v5]) (st := []) A dX10_match_104 zwd893 zwd894 zwd89 zcd_X10_codeOf (Nat.le_of_ble_eq_true rfl) (Nat.le_of_ble_eq_true rfl) (Nat.le_refl _) ⟨Nat.le_of_ble_eq_true rfl, Nat.le_of_ble_eq_true rfl⟩ zhn_X10_codeOf rfl (Nat.le_of_ble_eq_true rfl) rfl (z_contI (fun v15 μ15 h => ?_) h)
    exact s_iret A dX10_match_107 hr hlk (Nat.le_of_ble_eq_true rfl) (Nat.le_of_ble_eq_true rfl) ⟨_, rfl, h⟩
  · have h := h.2 c3
    refine s_iconst A dX10_match_9 ?_
    exact s_iret A dX10_match_10 hr hlk (Nat.le_of_ble_eq_true rfl) (Nat.le_of_ble_eq_true rfl) ⟨_, rfl, h⟩
theorem eX10_match {G : zG} {F : Int → zM → Prop} {μ : zM} {x1 : Int} {x2 : Int} {x3 : Int} (h : ∀ J, zJ G true (12) 0 0 mX10_match (zKI F) J → J 0 ([some (zR (some 0)), some (zI x1), some (zI x2), some (zI x3), none], [], μ, 0, 0)) : qX10_match G x1 x2 x3 μ F :=
  z_body (by decide +kernel) (Nat.le_of_ble_eq_true rfl) h
set_option maxRecDepth 20000 in
theorem rX10_folded_e {G : zG} {ph : Bool} {F : Int → zM → Prop} {J : Nat → zS → Prop} {μ : zM} (C : zJ G ph (0) 0 0 mX10_folded (zKI F) J) (x0 : Int) (x1 : Int) (x2 : Int)
    (h : (zin ((x0 - x1) * (8 - x2))) ∧ F (x1 + (((x0 - x1) * (8 - x2)).tdiv 8)) μ) : J 0 ([some (zI x0), some (zI x1), some (zI x2)], [], μ, 0, 0) := by
  obtain ⟨p, e, s, m, args, below, meth, c, A, hml, hr, hlk, hnm, rfl⟩ := C
  refine s_iload_n A dX10_folded_0 rfl ?_
  refine s_iload_n A dX10_folded_1 rfl ?_
  refine s_iload_n A dX10_folded_2 rfl ?_
  refine s_isub A dX10_folded_3 ?_
  refine s_bipush A dX10_folded_4 rfl ?_
  refine s_iload_n A dX10_folded_6 rfl ?_
  refine s_isub A dX10_folded_7 ?_
  refine s_imul A dX10_folded_8 ?_
  refine s_bipush A dX10_folded_9 rfl ?_
  obtain ⟨o1, h⟩ := h
  refine z_idivt A dX10_folded_11 o1 ⟨by decide, by decide⟩ ?_
  refine s_iadd A dX10_folded_12 ?_
  exact s_iret A dX10_folded_13 hr hlk (Nat.le_of_ble_eq_true rfl) (Nat.le_of_ble_eq_true rfl) ⟨_, rfl, h⟩
theorem eX10_folded {G : zG} {ph : Bool} {F : Int → zM → Prop} {μ : zM} {x0 : Int} {x1 : Int} {x2 : Int} (h : ∀ J, zJ G ph (0) 0 0 mX10_folded (zKI F) J → J 0 ([some (zI x0), some (zI x1), some (zI x2)], [], μ, 0, 0)) : qX10_folded G ph x0 x1 x2 μ F :=
  z_body (by decide +kernel) (Nat.le_of_ble_eq_true rfl) h
set_option maxRecDepth 20000 in
theorem rX10_leastFolded_e {G : zG} {F : Int → zM → Prop} {J : Nat → zS → Prop} {μ : zM} (C : zJ G true (9) 0 0 mX10_leastFolded (zKI F) J) (x1 : Int) (x2 : Int) (x3 : Int) (x4 : Int)
    (h : (0 ≤ (x1 + x2) + x3 ∧ (x1 + x2) + x3 < 2147483648) ∧ qX10_folded G true x1 (((x1 + x2) + x3) / 3) x4 μ (fun v1 μ1 => qX10_folded G true x2 (((x1 + x2) + x3) / 3) x4 μ1 (fun v2 μ2 => qX10_folded G true x3 (((x1 + x2) + x3) / 3) x4 μ2 (fun v3 μ3 => qX4_leastDistance G 5 105 v1 v2 v3 μ3 (fun v4 μ4 => F v4 μ4))))) : J 0 ([some (zR (some 0)), some (zI x1), some (zI x2), some (zI x3), some (zI x4), none], [], μ, 0, 0) := by
  obtain ⟨p, e, s, m, args, below, meth, c, A, hml, hr, hlk, hnm, rfl⟩ := C
  refine s_iload_n A dX10_leastFolded_0 rfl ?_
  refine s_iload_n A dX10_leastFolded_1 rfl ?_
  refine s_iadd A dX10_leastFolded_2 ?_
  refine s_iload_n A dX10_leastFolded_3 rfl ?_
  refine s_iadd A dX10_leastFolded_4 ?_
  refine s_iconst A dX10_leastFolded_5 ?_
  obtain ⟨o1, h⟩ := h
  refine z_idiv A dX10_leastFolded_6 o1 ⟨by decide, by decide⟩ ?_
  refine s_istore (L' := [some (zR (some 0)), some (zI x1), some (zI x2), some (zI x3), some (zI x4), some (zI (((x1 + x2) + x3) / 3))]) A dX10_leastFolded_7 (Nat.le_of_ble_eq_true rfl) rfl ?_
  refine s_aload_n A dX10_leastFolded_9 rfl ?_
  refine s_getf (k := 10) (j := 9) (sl := true) (v := zR (some 125)) A dX10_leastFolded_10 rfl zuw_X10 (Nat.le_of_ble_eq_true rfl) zwd347 (by decide) (zk_0 _) rfl ?_
  refine s_aload_n A dX10_leastFolded_13 rfl ?_
  refine s_getf (k := 10) (j := 2) (sl := true) (v := zR (some 5)) A dX10_leastFolded_14 rfl zuw_X10 (Nat.le_of_ble_eq_true rfl) zwd340 (by decide) (zk_0 _) rfl ?_
  refine s_aload_n A dX10_leastFolded_17 rfl ?_
  refine s_getf (k := 10) (j := 6) (sl := true) (v := zR (some 105)) A dX10_leastFolded_18 rfl zuw_X10 (Nat.le_of_ble_eq_true rfl) zwd344 (by decide) (zk_0 _) rfl ?_
  refine s_iload_n A dX10_leastFolded_21 rfl ?_
  refine s_iload A dX10_leastFolded_22 rfl ?_
  refine s_iload A dX10_leastFolded_24 rfl ?_
  refine s_callS (M := mX10_folded) (n := 3) (d := 0) (mc := 0) (ms := 0) (av := [zI x1, zI (((x1 + x2) + x3) / 3), zI x4]) (st := [zR (some 105), zR (some 5), zR (some 125)]) A dX10_leastFolded_26 zwd946 zwd947 zwd89 zcd_X10_folded (Nat.le_of_ble_eq_true rfl) (Nat.le_of_ble_eq_true rfl) (Nat.le_refl _) ⟨Nat.le_of_ble_eq_true rfl, Nat.le_of_ble_eq_true rfl⟩ zhn_X10_folded rfl (Nat.le_of_ble_eq_true rfl) rfl (z_contI (fun v1 μ1 h => ?_) h)
  refine s_iload_n A dX10_leastFolded_29 rfl ?_
  refine s_iload A dX10_leastFolded_30 rfl ?_
  refine s_iload A dX10_leastFolded_32 rfl ?_
  refine s_callS (M := mX10_folded) (n := 3) (d := 0) (mc := 0) (ms := 0) (av := [zI x2, zI (((x1 + x2) + x3) / 3), zI x4]) (st := [zI v1, zR (some 105), zR (some 5), zR (some 125)]) A dX10_leastFolded_34 zwd946 zwd947 zwd89 zcd_X10_folded (Nat.le_of_ble_eq_true rfl) (Nat.le_of_ble_eq_true rfl) (Nat.le_refl _) ⟨Nat.le_of_ble_eq_true rfl, Nat.le_of_ble_eq_true rfl⟩ zhn_X10_folded rfl (Nat.le_of_ble_eq_true rfl) rfl (z_contI (fun v2 μ2 h => ?_) h)
  refine s_iload_n A dX10_leastFolded_37 rfl ?_
  refine s_iload A dX10_leastFolded_38 rfl ?_
  refine s_iload A dX10_leastFolded_40 rfl ?_
  refine s_callS (M := mX10_folded) (n := 3) (d := 0) (mc := 0) (ms := 0) (av := [zI x3, zI (((x1 + x2) + x3) / 3), zI x4]) (st := [zI v2, zI v1, zR (some 105), zR (some 5), zR (some 125)]) A dX10_leastFolded_42 zwd946 zwd947 zwd89 zcd_X10_folded (Nat.le_of_ble_eq_true rfl) (Nat.le_of_ble_eq_true rfl) (Nat.le_refl _) ⟨Nat.le_of_ble_eq_true rfl, Nat.le_of_ble_eq_true rfl⟩ zhn_X10_folded rfl (Nat.le_of_ble_eq_true rfl) rfl (z_contI (fun v3 μ3 h => ?_) h)
  refine s_callV (a := 125) (k := 4) (N := 9) (sl := true) (M := mX4_leastDistance) (n := 5) (d := 8) (mc := 0) (ms := 0) (av := [zR (some 5), zR (some 105), zI v1, zI v2, zI v3]) (st := []) A dX10_leastFolded_45 rfl (by decide) (zk_125 _) zwd949 zwd907 zwd908 zwd97 zcd_X4_leastDistance (Nat.le_of_ble_eq_true rfl) (Nat.le_of_ble_eq_true rfl) (Nat.le_refl _) ⟨Nat.le_of_ble_eq_true rfl, Nat.le_of_ble_eq_true rfl⟩ ⟨rfl, zhn_X4_leastDistance⟩ rfl (Nat.le_of_ble_eq_true rfl) rfl (z_contI (fun v4 μ4 h => ?_) h)
  exact s_iret A dX10_leastFolded_48 hr hlk (Nat.le_of_ble_eq_true rfl) (Nat.le_of_ble_eq_true rfl) ⟨_, rfl, h⟩
theorem eX10_leastFolded {G : zG} {F : Int → zM → Prop} {μ : zM} {x1 : Int} {x2 : Int} {x3 : Int} {x4 : Int} (h : ∀ J, zJ G true (9) 0 0 mX10_leastFolded (zKI F) J → J 0 ([some (zR (some 0)), some (zI x1), some (zI x2), some (zI x3), some (zI x4), none], [], μ, 0, 0)) : qX10_leastFolded G x1 x2 x3 x4 μ F :=
  z_body (by decide +kernel) (Nat.le_of_ble_eq_true rfl) h
set_option maxRecDepth 20000 in
theorem rX10_foldOf_e {G : zG} {F : Int → zM → Prop} {J : Nat → zS → Prop} {μ : zM} (C : zJ G true (10) 0 0 mX10_foldOf (zKI F) J) (x1 : Int) (x2 : Int) (x3 : Int)
    (h : J 11 ([some (zR (some 0)), some (zI x1), some (zI x2), some (zI x3), some (zI 0), some (zI 2147483647), some (zI 0), none], [], μ, 0, 0)) : J 0 ([some (zR (some 0)), some (zI x1), some (zI x2), some (zI x3), none, none, none, none], [], μ, 0, 0) := by
  obtain ⟨p, e, s, m, args, below, meth, c, A, hml, hr, hlk, hnm, rfl⟩ := C
  refine s_iconst A dX10_foldOf_0 ?_
  refine s_istore (L' := [some (zR (some 0)), some (zI x1), some (zI x2), some (zI x3), some (zI 0), none, none, none]) A dX10_foldOf_1 (Nat.le_of_ble_eq_true rfl) rfl ?_
  refine s_ldcw (z := 2147483647) A dX10_foldOf_3 zwd941 (by decide +kernel) ?_
  refine s_istore (L' := [some (zR (some 0)), some (zI x1), some (zI x2), some (zI x3), some (zI 0), some (zI 2147483647), none, none]) A dX10_foldOf_6 (Nat.le_of_ble_eq_true rfl) rfl ?_
  refine s_iconst A dX10_foldOf_8 ?_
  refine s_istore (L' := [some (zR (some 0)), some (zI x1), some (zI x2), some (zI x3), some (zI 0), some (zI 2147483647), some (zI 0), none]) A dX10_foldOf_9 (Nat.le_of_ble_eq_true rfl) rfl ?_
  exact h
set_option maxRecDepth 20000 in
theorem rX10_foldOf_11 {G : zG} {F : Int → zM → Prop} {J : Nat → zS → Prop} {μ : zM} (C : zJ G true (10) 0 0 mX10_foldOf (zKI F) J) (x1 : Int) (x2 : Int) (x3 : Int) (x4 : Int) (x5 : Int) (x6 : Int)
    (h : zin x6 ∧ ((8 < x6 → F x4 μ) ∧ (¬ (8 < x6) → qX10_leastFolded G x1 x2 x3 x6 μ (fun v3 μ3 => zin v3 ∧ zin (zi μ3 8 2) ∧ ((zi μ3 8 2 < v3 → zin x5 ∧ ((x5 ≤ v3 → J 11 ([some (zR (some 0)), some (zI x1), some (zI x2), some (zI x3), some (zI x4), some (zI x5), some (zI (x6 + 1)), none], [], μ3, 0, 0)) ∧ (¬ (x5 ≤ v3) → J 11 ([some (zR (some 0)), some (zI x1), some (zI x2), some (zI x3), some (zI x6), some (zI v3), some (zI (x6 + 1)), none], [], μ3, 0, 0)))) ∧ (¬ (zi μ3 8 2 < v3) → F x6 μ3)))))) : J 11 ([some (zR (some 0)), some (zI x1), some (zI x2), some (zI x3), some (zI x4), some (zI x5), some (zI x6), none], [], μ, 0, 0) := by
  obtain ⟨p, e, s, m, args, below, meth, c, A, hml, hr, hlk, hnm, rfl⟩ := C
  refine s_iload A dX10_foldOf_11 rfl ?_
  refine s_bipush A dX10_foldOf_13 rfl ?_
  obtain ⟨oz1, h⟩ := h
  refine z_icmp_gt (tgt := 67) A dX10_foldOf_15 (by decide) oz1 ⟨by decide, by decide⟩ (fun c2 => ?_) (fun c2 => ?_)
  · have h := h.1 c2
    refine s_iload A dX10_foldOf_67 rfl ?_
    exact s_iret A dX10_foldOf_69 hr hlk (Nat.le_of_ble_eq_true rfl) (Nat.le_of_ble_eq_true rfl) ⟨_, rfl, h⟩
  · have h := h.2 c2
    refine s_aload_n A dX10_foldOf_18 rfl ?_
    refine s_iload_n A dX10_foldOf_19 rfl ?_
    refine s_iload_n A dX10_foldOf_20 rfl ?_
    refine s_iload_n A dX10_foldOf_21 rfl ?_
    refine s_iload A dX10_foldOf_22 rfl ?_
    refine s_callV (a := 0) (k := 10) (N := 15) (sl := true) (M := mX10_leastFolded) (n := 4) (d := 9) (mc := 0) (ms := 0) (av := [zI x1, zI x2, zI x3, zI x6]) (st := []) A dX10_foldOf_24 rfl (by decide) (zk_0 _) zwd942 zwd944 zwd13 zwd89 zcd_X10_leastFolded (Nat.le_of_ble_eq_true rfl) (Nat.le_of_ble_eq_true rfl) (Nat.le_refl _) ⟨Nat.le_of_ble_eq_true rfl, Nat.le_of_ble_eq_true rfl⟩ ⟨rfl, zhn_X10_leastFolded⟩ rfl (Nat.le_of_ble_eq_true rfl) rfl (z_contI (fun v3 μ3 h => ?_) h)
    refine s_istore (L' := [some (zR (some 0)), some (zI x1), some (zI x2), some (zI x3), some (zI x4), some (zI x5), some (zI x6), some (zI v3)]) A dX10_foldOf_27 (Nat.le_of_ble_eq_true rfl) rfl ?_
    refine s_iload A dX10_foldOf_29 rfl ?_
    refine s_aload_n A dX10_foldOf_31 rfl ?_
    refine s_getf (k := 10) (j := 2) (sl := true) (v := zR (some 5)) A dX10_foldOf_32 rfl zuw_X10 (Nat.le_of_ble_eq_true rfl) zwd340 (by decide) (zk_0 _) rfl ?_
    refine s_getf (k := 7) (j := 2) (sl := true) (v := zR (some 8)) A dX10_foldOf_35 rfl zuw_X7 (Nat.le_of_ble_eq_true rfl) zwd190 (by decide) (zk_5 _) rfl ?_
    refine s_iconst A dX10_foldOf_38 ?_
    refine z_iald A dX10_foldOf_39 (zk_8 _) (Nat.le_of_ble_eq_true rfl) ⟨by decide, by decide⟩ ?_
    obtain ⟨oz4, h⟩ := h
    obtain ⟨oz5, h⟩ := h
    refine z_icmp_gt (tgt := 46) A dX10_foldOf_40 (by decide) oz4 oz5 (fun c6 => ?_) (fun c6 => ?_)
    · have h := h.1 c6
      refine s_iload A dX10_foldOf_46 rfl ?_
      refine s_iload A dX10_foldOf_48 rfl ?_
      obtain ⟨oz7, h⟩ := h
      refine z_icmp_ge (tgt := 61) A dX10_foldOf_50 (by decide) oz4 oz7 (fun c8 => ?_) (fun c8 => ?_)
      · have h := h.1 c8
        refine s_iinc (L' := [some (zR (some 0)), some (zI x1), some (zI x2), some (zI x3), some (zI x4), some (zI x5), some (zI (x6 + 1)), some (zI v3)]) A dX10_foldOf_61 rfl rfl ?_
        refine s_goto (tgt := 11) A dX10_foldOf_64 (by decide) ?_
        exact z_wk (L' := [some (zR (some 0)), some (zI x1), some (zI x2), some (zI x3), some (zI x4), some (zI x5), some (zI (x6 + 1)), none]) ⟨rfl, rfl, rfl, rfl, rfl, rfl, rfl, trivial⟩ h
      · have h := h.2 c8
        refine s_iload A dX10_foldOf_53 rfl ?_
        refine s_istore (L' := [some (zR (some 0)), some (zI x1), some (zI x2), some (zI x3), some (zI x4), some (zI v3), some (zI x6), some (zI v3)]) A dX10_foldOf_55 (Nat.le_of_ble_eq_true rfl) rfl ?_
        refine s_iload A dX10_foldOf_57 rfl ?_
        refine s_istore (L' := [some (zR (some 0)), some (zI x1), some (zI x2), some (zI x3), some (zI x6), some (zI v3), some (zI x6), some (zI v3)]) A dX10_foldOf_59 (Nat.le_of_ble_eq_true rfl) rfl ?_
        refine s_iinc (L' := [some (zR (some 0)), some (zI x1), some (zI x2), some (zI x3), some (zI x6), some (zI v3), some (zI (x6 + 1)), some (zI v3)]) A dX10_foldOf_61 rfl rfl ?_
        refine s_goto (tgt := 11) A dX10_foldOf_64 (by decide) ?_
        exact z_wk (L' := [some (zR (some 0)), some (zI x1), some (zI x2), some (zI x3), some (zI x6), some (zI v3), some (zI (x6 + 1)), none]) ⟨rfl, rfl, rfl, rfl, rfl, rfl, rfl, trivial⟩ h
    · have h := h.2 c6
      refine s_iload A dX10_foldOf_43 rfl ?_
      exact s_iret A dX10_foldOf_45 hr hlk (Nat.le_of_ble_eq_true rfl) (Nat.le_of_ble_eq_true rfl) ⟨_, rfl, h⟩
theorem eX10_foldOf {G : zG} {F : Int → zM → Prop} {μ : zM} {x1 : Int} {x2 : Int} {x3 : Int} (h : ∀ J, zJ G true (10) 0 0 mX10_foldOf (zKI F) J → J 0 ([some (zR (some 0)), some (zI x1), some (zI x2), some (zI x3), none, none, none, none], [], μ, 0, 0)) : qX10_foldOf G x1 x2 x3 μ F :=
  z_body (by decide +kernel) (Nat.le_of_ble_eq_true rfl) h
set_option maxRecDepth 20000 in
theorem rX10_fold_e {G : zG} {F : Int → zM → Prop} {J : Nat → zS → Prop} {μ : zM} (C : zJ G true (12) 0 0 mX10_fold (zKI F) J) (x1 : Int) (x2 : Int) (x3 : Int)
    (h : qX10_isColour G true x1 x2 x3 μ (fun v1 μ1 => zin v1 ∧ ((¬ v1 = 0 → qX10_refresh G μ1 (fun μ4 => qX10_foldOf G x1 x2 x3 μ4 (fun v5 μ5 => (0 ≤ (x1 + x2) + x3 ∧ (x1 + x2) + x3 < 2147483648) ∧ qX6_clear G μ5 (fun μ6 => qX10_folded G true x1 (((x1 + x2) + x3) / 3) v5 μ6 (fun v7 μ7 => zin v7 ∧ qX6_append G v7 μ7 (fun μ9 => qX10_folded G true x2 (((x1 + x2) + x3) / 3) v5 μ9 (fun v10 μ10 => zin v10 ∧ qX6_append G v10 μ10 (fun μ12 => qX10_folded G true x3 (((x1 + x2) + x3) / 3) v5 μ12 (fun v13 μ13 => zin v13 ∧ qX6_append G v13 μ13 (fun μ15 => qX10_leastFolded G x1 x2 x3 v5 μ15 (fun v16 μ16 => zin v16 ∧ qX6_append G v16 μ16 (fun μ18 => F v5 μ18)))))))))))) ∧ (v1 = 0 → F (-1) μ1)))) : J 0 ([some (zR (some 0)), some (zI x1), some (zI x2), some (zI x3), none, none], [], μ, 0, 0) := by
  obtain ⟨p, e, s, m, args, below, meth, c, A, hml, hr, hlk, hnm, rfl⟩ := C
  refine s_iload_n A dX10_fold_0 rfl ?_
  refine s_iload_n A dX10_fold_1 rfl ?_
  refine s_iload_n A dX10_fold_2 rfl ?_
  refine s_callS (M := mX10_isColour) (n := 3) (d := 2) (mc := 0) (ms := 0) (av := [zI x1, zI x2, zI x3]) (st := []) A dX10_fold_3 zwd901 zwd770 zwd89 zcd_X10_isColour (Nat.le_of_ble_eq_true rfl) (Nat.le_of_ble_eq_true rfl) (Nat.le_refl _) ⟨Nat.le_of_ble_eq_true rfl, Nat.le_of_ble_eq_true rfl⟩ zhn_X10_isColour rfl (Nat.le_of_ble_eq_true rfl) rfl (z_contI (fun v1 μ1 h => ?_) h)
  obtain ⟨oz2, h⟩ := h
  refine z_if_ne (tgt := 11) A dX10_fold_6 (by decide) oz2 (fun c3 => ?_) (fun c3 => ?_)
  · have h := h.1 c3
    refine s_aload_n A dX10_fold_11 rfl ?_
    refine s_callV (a := 0) (k := 10) (N := 15) (sl := true) (M := mX10_refresh) (n := 0) (d := 11) (mc := 0) (ms := 0) (av := []) (st := []) A dX10_fold_12 rfl (by decide) (zk_0 _) zwd813 zwd815 zwd5 zwd89 zcd_X10_refresh (Nat.le_of_ble_eq_true rfl) (Nat.le_of_ble_eq_true rfl) (Nat.le_refl _) ⟨Nat.le_of_ble_eq_true rfl, Nat.le_of_ble_eq_true rfl⟩ ⟨rfl, zhn_X10_refresh⟩ rfl (Nat.le_of_ble_eq_true rfl) rfl (z_contV (fun μ4 h => ?_) h)
    refine s_aload_n A dX10_fold_15 rfl ?_
    refine s_iload_n A dX10_fold_16 rfl ?_
    refine s_iload_n A dX10_fold_17 rfl ?_
    refine s_iload_n A dX10_fold_18 rfl ?_
    refine s_callV (a := 0) (k := 10) (N := 15) (sl := true) (M := mX10_foldOf) (n := 3) (d := 10) (mc := 0) (ms := 0) (av := [zI x1, zI x2, zI x3]) (st := []) A dX10_fold_19 rfl (by decide) (zk_0 _) zwd937 zwd939 zwd12 zwd89 zcd_X10_foldOf (Nat.le_of_ble_eq_true rfl) (Nat.le_of_ble_eq_true rfl) (Nat.le_refl _) ⟨Nat.le_of_ble_eq_true rfl, Nat.le_of_ble_eq_true rfl⟩ ⟨rfl, zhn_X10_foldOf⟩ rfl (Nat.le_of_ble_eq_true rfl) rfl (z_contI (fun v5 μ5 h => ?_) h)
    refine s_istore (L' := [some (zR (some 0)), some (zI x1), some (zI x2), some (zI x3), some (zI v5), none]) A dX10_fold_22 (Nat.le_of_ble_eq_true rfl) rfl ?_
    refine s_iload_n A dX10_fold_24 rfl ?_
    refine s_iload_n A dX10_fold_25 rfl ?_
    refine s_iadd A dX10_fold_26 ?_
    refine s_iload_n A dX10_fold_27 rfl ?_
    refine s_iadd A dX10_fold_28 ?_
    refine s_iconst A dX10_fold_29 ?_
    obtain ⟨o1, h⟩ := h
    refine z_idiv A dX10_fold_30 o1 ⟨by decide, by decide⟩ ?_
    refine s_istore (L' := [some (zR (some 0)), some (zI x1), some (zI x2), some (zI x3), some (zI v5), some (zI (((x1 + x2) + x3) / 3))]) A dX10_fold_31 (Nat.le_of_ble_eq_true rfl) rfl ?_
    refine s_aload_n A dX10_fold_33 rfl ?_
    refine s_getf (k := 10) (j := 1) (sl := true) (v := zR (some 3)) A dX10_fold_34 rfl zuw_X10 (Nat.le_of_ble_eq_true rfl) zwd339 (by decide) (zk_0 _) rfl ?_
    refine s_callV (a := 3) (k := 6) (N := 2) (sl := true) (M := mX6_clear) (n := 0) (d := 0) (mc := 0) (ms := 0) (av := []) (st := []) A dX10_fold_37 rfl (by decide) (zk_3 _) zwd786 zwd787 zwd788 zwd91 zcd_X6_clear (Nat.le_of_ble_eq_true rfl) (Nat.le_of_ble_eq_true rfl) (Nat.le_refl _) ⟨Nat.le_of_ble_eq_true rfl, Nat.le_of_ble_eq_true rfl⟩ ⟨rfl, zhn_X6_clear⟩ rfl (Nat.le_of_ble_eq_true rfl) rfl (z_contV (fun μ6 h => ?_) h)
    refine s_aload_n A dX10_fold_40 rfl ?_
    refine s_getf (k := 10) (j := 1) (sl := true) (v := zR (some 3)) A dX10_fold_41 rfl zuw_X10 (Nat.le_of_ble_eq_true rfl) zwd339 (by decide) (zk_0 _) rfl ?_
    refine s_iload_n A dX10_fold_44 rfl ?_
    refine s_iload A dX10_fold_45 rfl ?_
    refine s_iload A dX10_fold_47 rfl ?_
    refine s_callS (M := mX10_folded) (n := 3) (d := 0) (mc := 0) (ms := 0) (av := [zI x1, zI (((x1 + x2) + x3) / 3), zI v5]) (st := [zR (some 3)]) A dX10_fold_49 zwd946 zwd947 zwd89 zcd_X10_folded (Nat.le_of_ble_eq_true rfl) (Nat.le_of_ble_eq_true rfl) (Nat.le_refl _) ⟨Nat.le_of_ble_eq_true rfl, Nat.le_of_ble_eq_true rfl⟩ zhn_X10_folded rfl (Nat.le_of_ble_eq_true rfl) rfl (z_contI (fun v7 μ7 h => ?_) h)
    obtain ⟨oz8, h⟩ := h
    refine z_i2l2 A dX10_fold_52 oz8 ?_
    refine s_callV (a := 3) (k := 6) (N := 2) (sl := true) (M := mX6_append) (n := 1) (d := 0) (mc := 0) (ms := 0) (av := [zL v7]) (st := []) A dX10_fold_53 rfl (by decide) (zk_3 _) zwd790 zwd791 zwd792 zwd91 zcd_X6_append (Nat.le_of_ble_eq_true rfl) (Nat.le_of_ble_eq_true rfl) (Nat.le_refl _) ⟨Nat.le_of_ble_eq_true rfl, Nat.le_of_ble_eq_true rfl⟩ ⟨rfl, zhn_X6_append⟩ rfl (Nat.le_of_ble_eq_true rfl) rfl (z_contV (fun μ9 h => ?_) h)
    refine s_aload_n A dX10_fold_56 rfl ?_
    refine s_getf (k := 10) (j := 1) (sl := true) (v := zR (some 3)) A dX10_fold_57 rfl zuw_X10 (Nat.le_of_ble_eq_true rfl) zwd339 (by decide) (zk_0 _) rfl ?_
    refine s_iload_n A dX10_fold_60 rfl ?_
    refine s_iload A dX10_fold_61 rfl ?_
    refine s_iload A dX10_fold_63 rfl ?_
    refine s_callS (M := mX10_folded) (n := 3) (d := 0) (mc := 0) (ms := 0) (av := [zI x2, zI (((x1 + x2) + x3) / 3), zI v5]) (st := [zR (some 3)]) A dX10_fold_65 zwd946 zwd947 zwd89 zcd_X10_folded (Nat.le_of_ble_eq_true rfl) (Nat.le_of_ble_eq_true rfl) (Nat.le_refl _) ⟨Nat.le_of_ble_eq_true rfl, Nat.le_of_ble_eq_true rfl⟩ zhn_X10_folded rfl (Nat.le_of_ble_eq_true rfl) rfl (z_contI (fun v10 μ10 h => ?_) h)
    obtain ⟨oz11, h⟩ := h
    refine z_i2l2 A dX10_fold_68 oz11 ?_
    refine s_callV (a := 3) (k := 6) (N := 2) (sl := true) (M := mX6_append) (n := 1) (d := 0) (mc := 0) (ms := 0) (av := [zL v10]) (st := []) A dX10_fold_69 rfl (by decide) (zk_3 _) zwd790 zwd791 zwd792 zwd91 zcd_X6_append (Nat.le_of_ble_eq_true rfl) (Nat.le_of_ble_eq_true rfl) (Nat.le_refl _) ⟨Nat.le_of_ble_eq_true rfl, Nat.le_of_ble_eq_true rfl⟩ ⟨rfl, zhn_X6_append⟩ rfl (Nat.le_of_ble_eq_true rfl) rfl (z_contV (fun μ12 h => ?_) h)
    refine s_aload_n A dX10_fold_72 rfl ?_
    refine s_getf (k := 10) (j := 1) (sl := true) (v := zR (some 3)) A dX10_fold_73 rfl zuw_X10 (Nat.le_of_ble_eq_true rfl) zwd339 (by decide) (zk_0 _) rfl ?_
    refine s_iload_n A dX10_fold_76 rfl ?_
    refine s_iload A dX10_fold_77 rfl ?_
    refine s_iload A dX10_fold_79 rfl ?_
    refine s_callS (M := mX10_folded) (n := 3) (d := 0) (mc := 0) (ms := 0) (av := [zI x3, zI (((x1 + x2) + x3) / 3), zI v5]) (st := [zR (some 3)]) A dX10_fold_81 zwd946 zwd947 zwd89 zcd_X10_folded (Nat.le_of_ble_eq_true rfl) (Nat.le_of_ble_eq_true rfl) (Nat.le_refl _) ⟨Nat.le_of_ble_eq_true rfl, Nat.le_of_ble_eq_true rfl⟩ zhn_X10_folded rfl (Nat.le_of_ble_eq_true rfl) rfl (z_contI (fun v13 μ13 h => ?_) h)
    obtain ⟨oz14, h⟩ := h
    refine z_i2l2 A dX10_fold_84 oz14 ?_
    refine s_callV (a := 3) (k := 6) (N := 2) (sl := true) (M := mX6_append) (n := 1) (d := 0) (mc := 0) (ms := 0) (av := [zL v13]) (st := []) A dX10_fold_85 rfl (by decide) (zk_3 _) zwd790 zwd791 zwd792 zwd91 zcd_X6_append (Nat.le_of_ble_eq_true rfl) (Nat.le_of_ble_eq_true rfl) (Nat.le_refl _) ⟨Nat.le_of_ble_eq_true rfl, Nat.le_of_ble_eq_true rfl⟩ ⟨rfl, zhn_X6_append⟩ rfl (Nat.le_of_ble_eq_true rfl) rfl (z_contV (fun μ15 h => ?_) h)
    refine s_aload_n A dX10_fold_88 rfl ?_
    refine s_getf (k := 10) (j := 1) (sl := true) (v := zR (some 3)) A dX10_fold_89 rfl zuw_X10 (Nat.le_of_ble_eq_true rfl) zwd339 (by decide) (zk_0 _) rfl ?_
    refine s_aload_n A dX10_fold_92 rfl ?_
    refine s_iload_n A dX10_fold_93 rfl ?_
    refine s_iload_n A dX10_fold_94 rfl ?_
    refine s_iload_n A dX10_fold_95 rfl ?_
    refine s_iload A dX10_fold_96 rfl ?_
    refine s_callV (a := 0) (k := 10) (N := 15) (sl := true) (M := mX10_leastFolded) (n := 4) (d := 9) (mc := 0) (ms := 0) (av := [zI x1, zI x2, zI x3, zI v5]) (st := [zR (some 3)]) A dX10_fold_98 rfl (by decide) (zk_0 _) zwd942 zwd944 zwd13 zwd89 zcd_X10_leastFolded (Nat.le_of_ble_eq_true rfl) (Nat.le_of_ble_eq_true rfl) (Nat.le_refl _) ⟨Nat.le_of_ble_eq_true rfl, Nat.le_of_ble_eq_true rfl⟩ ⟨rfl, zhn_X10_leastFolded⟩ rfl (Nat.le_of_ble_eq_true rfl) rfl (z_contI (fun v16 μ16 h => ?_) h)
    obtain ⟨oz17, h⟩ := h
    refine z_i2l2 A dX10_fold_101 oz17 ?_
    refine s_callV (a := 3) (k := 6) (N := 2) (sl := true) (M := mX6_append) (n := 1) (d := 0) (mc := 0) (ms := 0) (av := [zL v16]) (st := []) A dX10_fold_102 rfl (by decide) (zk_3 _) zwd790 zwd791 zwd792 zwd91 zcd_X6_append (Nat.le_of_ble_eq_true rfl) (Nat.le_of_ble_eq_true rfl) (Nat.le_refl _) ⟨Nat.le_of_ble_eq_true rfl, Nat.le_of_ble_eq_true rfl⟩ ⟨rfl, zhn_X6_append⟩ rfl (Nat.le_of_ble_eq_true rfl) rfl (z_contV (fun μ18 h => ?_) h)
    refine s_iload A dX10_fold_105 rfl ?_
    exact s_iret A dX10_fold_107 hr hlk (Nat.le_of_ble_eq_true rfl) (Nat.le_of_ble_eq_true rfl) ⟨_, rfl, h⟩
  · have h := h.2 c3
    refine s_iconst A dX10_fold_9 ?_
    exact s_iret A dX10_fold_10 hr hlk (Nat.le_of_ble_eq_true rfl) (Nat.le_of_ble_eq_true rfl) ⟨_, rfl, h⟩
theorem eX10_fold {G : zG} {F : Int → zM → Prop} {μ : zM} {x1 : Int} {x2 : Int} {x3 : Int} (h : ∀ J, zJ G true (12) 0 0 mX10_fold (zKI F) J → J 0 ([some (zR (some 0)), some (zI x1), some (zI x2), some (zI x3), none, none], [], μ, 0, 0)) : qX10_fold G x1 x2 x3 μ F :=
  z_body (by decide +kernel) (Nat.le_of_ble_eq_true rfl) h
set_option maxRecDepth 20000 in
theorem rX10_linked_e {G : zG} {F : Int → zM → Prop} {J : Nat → zS → Prop} {μ : zM} (C : zJ G true (72) 0 0 mX10_linked (zKI F) J) (x1 : Int)
    (h : qX2_load G x1 μ (fun μ1 => ∃ b2, zr μ1 5 8 = some b2 ∧ zok true μ1 b2 (3, 3) ∧ qX2_doSteps G 60 (zr μ1 b2 0) 9 0 μ1 (fun μ4 => qX2_place G μ4 (fun v5 μ5 => F v5 μ5)))) : J 0 ([some (zR (some 0)), some (zI x1)], [], μ, 0, 0) := by
  obtain ⟨p, e, s, m, args, below, meth, c, A, hml, hr, hlk, hnm, rfl⟩ := C
  refine s_aload_n A dX10_linked_0 rfl ?_
  refine s_getf (k := 10) (j := 10) (sl := true) (v := zR (some 128)) A dX10_linked_1 rfl zuw_X10 (Nat.le_of_ble_eq_true rfl) zwd348 (by decide) (zk_0 _) rfl ?_
  refine s_iload_n A dX10_linked_4 rfl ?_
  refine s_callV (a := 128) (k := 2) (N := 1) (sl := true) (M := mX2_load) (n := 1) (d := 2) (mc := 0) (ms := 0) (av := [zI x1]) (st := []) A dX10_linked_5 rfl (by decide) (zk_128 _) zwd874 zwd875 zwd876 zwd98 zcd_X2_load (Nat.le_of_ble_eq_true rfl) (Nat.le_of_ble_eq_true rfl) (Nat.le_refl _) ⟨Nat.le_of_ble_eq_true rfl, Nat.le_of_ble_eq_true rfl⟩ ⟨rfl, zhn_X2_load⟩ rfl (Nat.le_of_ble_eq_true rfl) rfl (z_contV (fun μ1 h => ?_) h)
  refine s_aload_n A dX10_linked_8 rfl ?_
  refine s_getf (k := 10) (j := 10) (sl := true) (v := zR (some 128)) A dX10_linked_9 rfl zuw_X10 (Nat.le_of_ble_eq_true rfl) zwd348 (by decide) (zk_0 _) rfl ?_
  refine s_aload_n A dX10_linked_12 rfl ?_
  refine s_getf (k := 10) (j := 2) (sl := true) (v := zR (some 5)) A dX10_linked_13 rfl zuw_X10 (Nat.le_of_ble_eq_true rfl) zwd340 (by decide) (zk_0 _) rfl ?_
  refine s_getf (k := 7) (j := 8) (sl := true) (v := zR (zr μ1 5 8)) A dX10_linked_16 rfl zuw_X7 (Nat.le_of_ble_eq_true rfl) zwd204 (by decide) (zk_5 _) rfl ?_
  obtain ⟨b2, c2, h⟩ := h
  refine z_eqS (st' := [zR (some b2), zR (some 128)]) (by rw [c2] <;> rfl) ?_
  obtain ⟨o3, h⟩ := h
  refine s_getf (k := 3) (j := 0) (sl := false) (v := zR (zr μ1 b2 0)) A dX10_linked_19 rfl zuw_X3 (Nat.le_of_ble_eq_true rfl) zwd171 (by decide) o3 rfl ?_
  refine s_aload_n A dX10_linked_22 rfl ?_
  refine s_getf (k := 10) (j := 2) (sl := true) (v := zR (some 5)) A dX10_linked_23 rfl zuw_X10 (Nat.le_of_ble_eq_true rfl) zwd340 (by decide) (zk_0 _) rfl ?_
  refine s_getf (k := 7) (j := 3) (sl := true) (v := zR (some 9)) A dX10_linked_26 rfl zuw_X7 (Nat.le_of_ble_eq_true rfl) zwd192 (by decide) (zk_5 _) rfl ?_
  refine s_iconst A dX10_linked_29 ?_
  refine s_callSN (host := "InkFolds") (M := mX2_doSteps) (n := 4) (d := 11 + 60) (mc := 0) (ms := 0) (av := [zR (some 128), zR (zr μ1 b2 0), zR (some 9), zI 0]) (st := []) A dX10_linked_30 zwr958 zwd959 zwd98 zcd_X2_doSteps (Nat.le_of_ble_eq_true rfl) (Nat.le_of_ble_eq_true rfl) (Nat.le_refl _) ⟨Nat.le_of_ble_eq_true rfl, Nat.le_of_ble_eq_true rfl⟩ zhn_X2_doSteps rfl (Nat.le_of_ble_eq_true rfl) rfl (z_contV (fun μ4 h => ?_) h)
  refine s_aload_n A dX10_linked_33 rfl ?_
  refine s_getf (k := 10) (j := 10) (sl := true) (v := zR (some 128)) A dX10_linked_34 rfl zuw_X10 (Nat.le_of_ble_eq_true rfl) zwd348 (by decide) (zk_0 _) rfl ?_
  refine s_callV (a := 128) (k := 2) (N := 1) (sl := true) (M := mX2_place) (n := 0) (d := 0) (mc := 0) (ms := 0) (av := []) (st := []) A dX10_linked_37 rfl (by decide) (zk_128 _) zwd888 zwd889 zwd890 zwd98 zcd_X2_place (Nat.le_of_ble_eq_true rfl) (Nat.le_of_ble_eq_true rfl) (Nat.le_refl _) ⟨Nat.le_of_ble_eq_true rfl, Nat.le_of_ble_eq_true rfl⟩ ⟨rfl, zhn_X2_place⟩ rfl (Nat.le_of_ble_eq_true rfl) rfl (z_contI (fun v5 μ5 h => ?_) h)
  exact s_iret A dX10_linked_40 hr hlk (Nat.le_of_ble_eq_true rfl) (Nat.le_of_ble_eq_true rfl) ⟨_, rfl, h⟩
theorem eX10_linked {G : zG} {F : Int → zM → Prop} {μ : zM} {x1 : Int} (h : ∀ J, zJ G true (72) 0 0 mX10_linked (zKI F) J → J 0 ([some (zR (some 0)), some (zI x1)], [], μ, 0, 0)) : qX10_linked G x1 μ F :=
  z_body (by decide +kernel) (Nat.le_of_ble_eq_true rfl) h
set_option maxRecDepth 20000 in
theorem rX10_prints_e {G : zG} {F : Int → zM → Prop} {J : Nat → zS → Prop} {μ : zM} (C : zJ G true (73) 0 0 mX10_prints (zKI F) J) (x1 : Int) (x2 : Int) (x3 : Int)
    (h : qX10_isColour G true x1 x2 x3 μ (fun v1 μ1 => zin v1 ∧ ((¬ v1 = 0 → qX10_refresh G μ1 (fun μ4 => qX10_foldOf G x1 x2 x3 μ4 (fun v5 μ5 => (0 ≤ (x1 + x2) + x3 ∧ (x1 + x2) + x3 < 2147483648) ∧ qX10_folded G true x1 (((x1 + x2) + x3) / 3) v5 μ5 (fun v6 μ6 => qX10_folded G true x2 (((x1 + x2) + x3) / 3) v5 μ6 (fun v7 μ7 => qX10_folded G true x3 (((x1 + x2) + x3) / 3) v5 μ7 (fun v8 μ8 => qX4_find G 5 105 v6 v7 v8 μ8 (fun v9 μ9 => qX10_linked G v9 μ9 (fun v10 μ10 => qX6_clear G μ10 (fun μ11 => qX10_tellColour G v10 μ11 (fun μ12 => qX0_distanceTo G 105 5 v10 x1 x2 x3 μ12 (fun v13 μ13 => zin v13 ∧ qX6_append G v13 μ13 (fun μ15 => qX10_codeOf G true v10 μ15 (fun v16 μ16 => F v16 μ16))))))))))))) ∧ (v1 = 0 → F (-1) μ1)))) : J 0 ([some (zR (some 0)), some (zI x1), some (zI x2), some (zI x3), none, none, none, none], [], μ, 0, 0) := by
  obtain ⟨p, e, s, m, args, below, meth, c, A, hml, hr, hlk, hnm, rfl⟩ := C
  refine s_iload_n A dX10_prints_0 rfl ?_
  refine s_iload_n A dX10_prints_1 rfl ?_
  refine s_iload_n A dX10_prints_2 rfl ?_
  refine s_callS (M := mX10_isColour) (n := 3) (d := 2) (mc := 0) (ms := 0) (av := [zI x1, zI x2, zI x3]) (st := []) A dX10_prints_3 zwd901 zwd770 zwd89 zcd_X10_isColour (Nat.le_of_ble_eq_true rfl) (Nat.le_of_ble_eq_true rfl) (Nat.le_refl _) ⟨Nat.le_of_ble_eq_true rfl, Nat.le_of_ble_eq_true rfl⟩ zhn_X10_isColour rfl (Nat.le_of_ble_eq_true rfl) rfl (z_contI (fun v1 μ1 h => ?_) h)
  obtain ⟨oz2, h⟩ := h
  refine z_if_ne (tgt := 11) A dX10_prints_6 (by decide) oz2 (fun c3 => ?_) (fun c3 => ?_)
  · have h := h.1 c3
    refine s_aload_n A dX10_prints_11 rfl ?_
    refine s_callV (a := 0) (k := 10) (N := 15) (sl := true) (M := mX10_refresh) (n := 0) (d := 11) (mc := 0) (ms := 0) (av := []) (st := []) A dX10_prints_12 rfl (by decide) (zk_0 _) zwd813 zwd815 zwd5 zwd89 zcd_X10_refresh (Nat.le_of_ble_eq_true rfl) (Nat.le_of_ble_eq_true rfl) (Nat.le_refl _) ⟨Nat.le_of_ble_eq_true rfl, Nat.le_of_ble_eq_true rfl⟩ ⟨rfl, zhn_X10_refresh⟩ rfl (Nat.le_of_ble_eq_true rfl) rfl (z_contV (fun μ4 h => ?_) h)
    refine s_aload_n A dX10_prints_15 rfl ?_
    refine s_iload_n A dX10_prints_16 rfl ?_
    refine s_iload_n A dX10_prints_17 rfl ?_
    refine s_iload_n A dX10_prints_18 rfl ?_
    refine s_callV (a := 0) (k := 10) (N := 15) (sl := true) (M := mX10_foldOf) (n := 3) (d := 10) (mc := 0) (ms := 0) (av := [zI x1, zI x2, zI x3]) (st := []) A dX10_prints_19 rfl (by decide) (zk_0 _) zwd937 zwd939 zwd12 zwd89 zcd_X10_foldOf (Nat.le_of_ble_eq_true rfl) (Nat.le_of_ble_eq_true rfl) (Nat.le_refl _) ⟨Nat.le_of_ble_eq_true rfl, Nat.le_of_ble_eq_true rfl⟩ ⟨rfl, zhn_X10_foldOf⟩ rfl (Nat.le_of_ble_eq_true rfl) rfl (z_contI (fun v5 μ5 h => ?_) h)
    refine s_istore (L' := [some (zR (some 0)), some (zI x1), some (zI x2), some (zI x3), some (zI v5), none, none, none]) A dX10_prints_22 (Nat.le_of_ble_eq_true rfl) rfl ?_
    refine s_iload_n A dX10_prints_24 rfl ?_
    refine s_iload_n A dX10_prints_25 rfl ?_
    refine s_iadd A dX10_prints_26 ?_
    refine s_iload_n A dX10_prints_27 rfl ?_
    refine s_iadd A dX10_prints_28 ?_
    refine s_iconst A dX10_prints_29 ?_
    obtain ⟨o1, h⟩ := h
    refine z_idiv A dX10_prints_30 o1 ⟨by decide, by decide⟩ ?_
    refine s_istore (L' := [some (zR (some 0)), some (zI x1), some (zI x2), some (zI x3), some (zI v5), some (zI (((x1 + x2) + x3) / 3)), none, none]) A dX10_prints_31 (Nat.le_of_ble_eq_true rfl) rfl ?_
    refine s_aload_n A dX10_prints_33 rfl ?_
    refine s_getf (k := 10) (j := 9) (sl := true) (v := zR (some 125)) A dX10_prints_34 rfl zuw_X10 (Nat.le_of_ble_eq_true rfl) zwd347 (by decide) (zk_0 _) rfl ?_
    refine s_aload_n A dX10_prints_37 rfl ?_
    refine s_getf (k := 10) (j := 2) (sl := true) (v := zR (some 5)) A dX10_prints_38 rfl zuw_X10 (Nat.le_of_ble_eq_true rfl) zwd340 (by decide) (zk_0 _) rfl ?_
    refine s_aload_n A dX10_prints_41 rfl ?_
    refine s_getf (k := 10) (j := 6) (sl := true) (v := zR (some 105)) A dX10_prints_42 rfl zuw_X10 (Nat.le_of_ble_eq_true rfl) zwd344 (by decide) (zk_0 _) rfl ?_
    refine s_iload_n A dX10_prints_45 rfl ?_
    refine s_iload A dX10_prints_46 rfl ?_
    refine s_iload A dX10_prints_48 rfl ?_
    refine s_callS (M := mX10_folded) (n := 3) (d := 0) (mc := 0) (ms := 0) (av := [zI x1, zI (((x1 + x2) + x3) / 3), zI v5]) (st := [zR (some 105), zR (some 5), zR (some 125)]) A dX10_prints_50 zwd946 zwd947 zwd89 zcd_X10_folded (Nat.le_of_ble_eq_true rfl) (Nat.le_of_ble_eq_true rfl) (Nat.le_refl _) ⟨Nat.le_of_ble_eq_true rfl, Nat.le_of_ble_eq_true rfl⟩ zhn_X10_folded rfl (Nat.le_of_ble_eq_true rfl) rfl (z_contI (fun v6 μ6 h => ?_) h)
    refine s_iload_n A dX10_prints_53 rfl ?_
    refine s_iload A dX10_prints_54 rfl ?_
    refine s_iload A dX10_prints_56 rfl ?_
    refine s_callS (M := mX10_folded) (n := 3) (d := 0) (mc := 0) (ms := 0) (av := [zI x2, zI (((x1 + x2) + x3) / 3), zI v5]) (st := [zI v6, zR (some 105), zR (some 5), zR (some 125)]) A dX10_prints_58 zwd946 zwd947 zwd89 zcd_X10_folded (Nat.le_of_ble_eq_true rfl) (Nat.le_of_ble_eq_true rfl) (Nat.le_refl _) ⟨Nat.le_of_ble_eq_true rfl, Nat.le_of_ble_eq_true rfl⟩ zhn_X10_folded rfl (Nat.le_of_ble_eq_true rfl) rfl (z_contI (fun v7 μ7 h => ?_) h)
    refine s_iload_n A dX10_prints_61 rfl ?_
    refine s_iload A dX10_prints_62 rfl ?_
    refine s_iload A dX10_prints_64 rfl ?_
    refine s_callS (M := mX10_folded) (n := 3) (d := 0) (mc := 0) (ms := 0) (av := [zI x3, zI (((x1 + x2) + x3) / 3), zI v5]) (st := [zI v7, zI v6, zR (some 105), zR (some 5), zR (some 125)]) A dX10_prints_66 zwd946 zwd947 zwd89 zcd_X10_folded (Nat.le_of_ble_eq_true rfl) (Nat.le_of_ble_eq_true rfl) (Nat.le_refl _) ⟨Nat.le_of_ble_eq_true rfl, Nat.le_of_ble_eq_true rfl⟩ zhn_X10_folded rfl (Nat.le_of_ble_eq_true rfl) rfl (z_contI (fun v8 μ8 h => ?_) h)
    refine s_callV (a := 125) (k := 4) (N := 9) (sl := true) (M := mX4_find) (n := 5) (d := 9) (mc := 0) (ms := 0) (av := [zR (some 5), zR (some 105), zI v6, zI v7, zI v8]) (st := []) A dX10_prints_69 rfl (by decide) (zk_125 _) zwd902 zwd903 zwd904 zwd97 zcd_X4_find (Nat.le_of_ble_eq_true rfl) (Nat.le_of_ble_eq_true rfl) (Nat.le_refl _) ⟨Nat.le_of_ble_eq_true rfl, Nat.le_of_ble_eq_true rfl⟩ ⟨rfl, zhn_X4_find⟩ rfl (Nat.le_of_ble_eq_true rfl) rfl (z_contI (fun v9 μ9 h => ?_) h)
    refine s_istore (L' := [some (zR (some 0)), some (zI x1), some (zI x2), some (zI x3), some (zI v5), some (zI (((x1 + x2) + x3) / 3)), some (zI v9), none]) A dX10_prints_72 (Nat.le_of_ble_eq_true rfl) rfl ?_
    refine s_aload_n A dX10_prints_74 rfl ?_
    refine s_iload A dX10_prints_75 rfl ?_
    refine s_callV (a := 0) (k := 10) (N := 15) (sl := true) (M := mX10_linked) (n := 1) (d := 72) (mc := 0) (ms := 0) (av := [zI v9]) (st := []) A dX10_prints_77 rfl (by decide) (zk_0 _) zwd954 zwd956 zwd14 zwd89 zcd_X10_linked (Nat.le_of_ble_eq_true rfl) (Nat.le_of_ble_eq_true rfl) (Nat.le_refl _) ⟨Nat.le_of_ble_eq_true rfl, Nat.le_of_ble_eq_true rfl⟩ ⟨rfl, zhn_X10_linked⟩ rfl (Nat.le_of_ble_eq_true rfl) rfl (z_contI (fun v10 μ10 h => ?_) h)
    refine s_istore (L' := [some (zR (some 0)), some (zI x1), some (zI x2), some (zI x3), some (zI v5), some (zI (((x1 + x2) + x3) / 3)), some (zI v9), some (zI v10)]) A dX10_prints_80 (Nat.le_of_ble_eq_true rfl) rfl ?_
    refine s_aload_n A dX10_prints_82 rfl ?_
    refine s_getf (k := 10) (j := 1) (sl := true) (v := zR (some 3)) A dX10_prints_83 rfl zuw_X10 (Nat.le_of_ble_eq_true rfl) zwd339 (by decide) (zk_0 _) rfl ?_
    refine s_callV (a := 3) (k := 6) (N := 2) (sl := true) (M := mX6_clear) (n := 0) (d := 0) (mc := 0) (ms := 0) (av := []) (st := []) A dX10_prints_86 rfl (by decide) (zk_3 _) zwd786 zwd787 zwd788 zwd91 zcd_X6_clear (Nat.le_of_ble_eq_true rfl) (Nat.le_of_ble_eq_true rfl) (Nat.le_refl _) ⟨Nat.le_of_ble_eq_true rfl, Nat.le_of_ble_eq_true rfl⟩ ⟨rfl, zhn_X6_clear⟩ rfl (Nat.le_of_ble_eq_true rfl) rfl (z_contV (fun μ11 h => ?_) h)
    refine s_aload_n A dX10_prints_89 rfl ?_
    refine s_iload A dX10_prints_90 rfl ?_
    refine s_callV (a := 0) (k := 10) (N := 15) (sl := true) (M := mX10_tellColour) (n := 1) (d := 2) (mc := 0) (ms := 0) (av := [zI v10]) (st := []) A dX10_prints_92 rfl (by decide) (zk_0 _) zwd859 zwd861 zwd8 zwd89 zcd_X10_tellColour (Nat.le_of_ble_eq_true rfl) (Nat.le_of_ble_eq_true rfl) (Nat.le_refl _) ⟨Nat.le_of_ble_eq_true rfl, Nat.le_of_ble_eq_true rfl⟩ ⟨rfl, zhn_X10_tellColour⟩ rfl (Nat.le_of_ble_eq_true rfl) rfl (z_contV (fun μ12 h => ?_) h)
    refine s_aload_n A dX10_prints_95 rfl ?_
    refine s_getf (k := 10) (j := 1) (sl := true) (v := zR (some 3)) A dX10_prints_96 rfl zuw_X10 (Nat.le_of_ble_eq_true rfl) zwd339 (by decide) (zk_0 _) rfl ?_
    refine s_aload_n A dX10_prints_99 rfl ?_
    refine s_getf (k := 10) (j := 6) (sl := true) (v := zR (some 105)) A dX10_prints_100 rfl zuw_X10 (Nat.le_of_ble_eq_true rfl) zwd344 (by decide) (zk_0 _) rfl ?_
    refine s_aload_n A dX10_prints_103 rfl ?_
    refine s_getf (k := 10) (j := 2) (sl := true) (v := zR (some 5)) A dX10_prints_104 rfl zuw_X10 (Nat.le_of_ble_eq_true rfl) zwd340 (by decide) (zk_0 _) rfl ?_
    refine s_iload A dX10_prints_107 rfl ?_
    refine s_iload_n A dX10_prints_109 rfl ?_
    refine s_iload_n A dX10_prints_110 rfl ?_
    refine s_iload_n A dX10_prints_111 rfl ?_
    refine s_callV (a := 105) (k := 0) (N := 5) (sl := true) (M := mX0_distanceTo) (n := 5) (d := 2) (mc := 0) (ms := 0) (av := [zR (some 5), zI v10, zI x1, zI x2, zI x3]) (st := [zR (some 3)]) A dX10_prints_112 rfl (by decide) (zk_105 _) zwd992 zwd912 zwd913 zwd95 zcd_X0_distanceTo (Nat.le_of_ble_eq_true rfl) (Nat.le_of_ble_eq_true rfl) (Nat.le_refl _) ⟨Nat.le_of_ble_eq_true rfl, Nat.le_of_ble_eq_true rfl⟩ ⟨rfl, zhn_X0_distanceTo⟩ rfl (Nat.le_of_ble_eq_true rfl) rfl (z_contI (fun v13 μ13 h => ?_) h)
    obtain ⟨oz14, h⟩ := h
    refine z_i2l2 A dX10_prints_115 oz14 ?_
    refine s_callV (a := 3) (k := 6) (N := 2) (sl := true) (M := mX6_append) (n := 1) (d := 0) (mc := 0) (ms := 0) (av := [zL v13]) (st := []) A dX10_prints_116 rfl (by decide) (zk_3 _) zwd790 zwd791 zwd792 zwd91 zcd_X6_append (Nat.le_of_ble_eq_true rfl) (Nat.le_of_ble_eq_true rfl) (Nat.le_refl _) ⟨Nat.le_of_ble_eq_true rfl, Nat.le_of_ble_eq_true rfl⟩ ⟨rfl, zhn_X6_append⟩ rfl (Nat.le_of_ble_eq_true rfl) rfl (z_contV (fun μ15 h => ?_) h)
    refine s_iload A dX10_prints_119 rfl ?_
    refine s_callS (M := mX10_codeOf) (n := 1) (d := 2) (mc := 0) (ms := 0) (av := [zI v10]) (st := []) A dX10_prints_121 zwd893 zwd894 zwd89 zcd_X10_codeOf (Nat.le_of_ble_eq_true rfl) (Nat.le_of_ble_eq_true rfl) (Nat.le_refl _) ⟨Nat.le_of_ble_eq_true rfl, Nat.le_of_ble_eq_true rfl⟩ zhn_X10_codeOf rfl (Nat.le_of_ble_eq_true rfl) rfl (z_contI (fun v16 μ16 h => ?_) h)
    exact s_iret A dX10_prints_124 hr hlk (Nat.le_of_ble_eq_true rfl) (Nat.le_of_ble_eq_true rfl) ⟨_, rfl, h⟩
  · have h := h.2 c3
    refine s_iconst A dX10_prints_9 ?_
    exact s_iret A dX10_prints_10 hr hlk (Nat.le_of_ble_eq_true rfl) (Nat.le_of_ble_eq_true rfl) ⟨_, rfl, h⟩
theorem eX10_prints {G : zG} {F : Int → zM → Prop} {μ : zM} {x1 : Int} {x2 : Int} {x3 : Int} (h : ∀ J, zJ G true (73) 0 0 mX10_prints (zKI F) J → J 0 ([some (zR (some 0)), some (zI x1), some (zI x2), some (zI x3), none, none, none, none], [], μ, 0, 0)) : qX10_prints G x1 x2 x3 μ F :=
  z_body (by decide +kernel) (Nat.le_of_ble_eq_true rfl) h
set_option maxRecDepth 20000 in
theorem rX10_greatestChange_e {G : zG} {ph : Bool} {F : Int → zM → Prop} {J : Nat → zS → Prop} {μ : zM} (C : zJ G ph (8) 0 0 mX10_greatestChange (zKI F) J) (x0 : Int) (x1 : Int)
    (h : J 4 ([some (zI x0), some (zI x1), some (zI 0), some (zI 0)], [], μ, 0, 0)) : J 0 ([some (zI x0), some (zI x1), none, none], [], μ, 0, 0) := by
  obtain ⟨p, e, s, m, args, below, meth, c, A, hml, hr, hlk, hnm, rfl⟩ := C
  refine s_iconst A dX10_greatestChange_0 ?_
  refine s_istore_n (L' := [some (zI x0), some (zI x1), some (zI 0), none]) A dX10_greatestChange_1 (Nat.le_of_ble_eq_true rfl) rfl ?_
  refine s_iconst A dX10_greatestChange_2 ?_
  refine s_istore_n (L' := [some (zI x0), some (zI x1), some (zI 0), some (zI 0)]) A dX10_greatestChange_3 (Nat.le_of_ble_eq_true rfl) rfl ?_
  exact h
set_option maxRecDepth 20000 in
theorem rX10_greatestChange_4 {G : zG} {ph : Bool} {F : Int → zM → Prop} {J : Nat → zS → Prop} {μ : zM} (C : zJ G ph (8) 0 0 mX10_greatestChange (zKI F) J) (x0 : Int) (x1 : Int) (x2 : Int) (x3 : Int)
    (h : zin x3 ∧ ((4 ≤ x3 → F x2 μ) ∧ (¬ (4 ≤ x3) → qX10_amountOf G ph x0 x3 μ (fun v3 μ3 => qX10_amountOf G ph x1 x3 μ3 (fun v4 μ4 => zin (v3 - v4) ∧ zin x2 ∧ zin (max (v3 - v4) (-(v3 - v4))) ∧ J 4 ([some (zI x0), some (zI x1), some (zI (max x2 (max (v3 - v4) (-(v3 - v4))))), some (zI (x3 + 1))], [], μ4, 0, 0)))))) : J 4 ([some (zI x0), some (zI x1), some (zI x2), some (zI x3)], [], μ, 0, 0) := by
  obtain ⟨p, e, s, m, args, below, meth, c, A, hml, hr, hlk, hnm, rfl⟩ := C
  refine s_iload_n A dX10_greatestChange_4 rfl ?_
  refine s_iconst A dX10_greatestChange_5 ?_
  obtain ⟨oz1, h⟩ := h
  refine z_icmp_ge (tgt := 34) A dX10_greatestChange_6 (by decide) oz1 ⟨by decide, by decide⟩ (fun c2 => ?_) (fun c2 => ?_)
  · have h := h.1 c2
    refine s_iload_n A dX10_greatestChange_34 rfl ?_
    exact s_iret A dX10_greatestChange_35 hr hlk (Nat.le_of_ble_eq_true rfl) (Nat.le_of_ble_eq_true rfl) ⟨_, rfl, h⟩
  · have h := h.2 c2
    refine s_iload_n A dX10_greatestChange_9 rfl ?_
    refine s_iload_n A dX10_greatestChange_10 rfl ?_
    refine s_iload_n A dX10_greatestChange_11 rfl ?_
    refine s_callS (M := mX10_amountOf) (n := 2) (d := 0) (mc := 0) (ms := 0) (av := [zI x0, zI x3]) (st := [zI x2]) A dX10_greatestChange_12 zwd896 zwd840 zwd89 zcd_X10_amountOf (Nat.le_of_ble_eq_true rfl) (Nat.le_of_ble_eq_true rfl) (Nat.le_refl _) ⟨Nat.le_of_ble_eq_true rfl, Nat.le_of_ble_eq_true rfl⟩ zhn_X10_amountOf rfl (Nat.le_of_ble_eq_true rfl) rfl (z_contI (fun v3 μ3 h => ?_) h)
    refine s_iload_n A dX10_greatestChange_15 rfl ?_
    refine s_iload_n A dX10_greatestChange_16 rfl ?_
    refine s_callS (M := mX10_amountOf) (n := 2) (d := 0) (mc := 0) (ms := 0) (av := [zI x1, zI x3]) (st := [zI v3, zI x2]) A dX10_greatestChange_17 zwd896 zwd840 zwd89 zcd_X10_amountOf (Nat.le_of_ble_eq_true rfl) (Nat.le_of_ble_eq_true rfl) (Nat.le_refl _) ⟨Nat.le_of_ble_eq_true rfl, Nat.le_of_ble_eq_true rfl⟩ zhn_X10_amountOf rfl (Nat.le_of_ble_eq_true rfl) rfl (z_contI (fun v4 μ4 h => ?_) h)
    refine s_isub A dX10_greatestChange_20 ?_
    obtain ⟨oz5, h⟩ := h
    refine z_mabs A dX10_greatestChange_21 zwd1004 zwd638 zwd105 zwd639 (Nat.le_of_ble_eq_true rfl) (Nat.le_of_ble_eq_true rfl) ⟨Nat.le_of_ble_eq_true rfl, Nat.le_of_ble_eq_true rfl⟩ oz5 ?_
    obtain ⟨oz6, h⟩ := h
    obtain ⟨oz7, h⟩ := h
    refine z_mmax A dX10_greatestChange_24 zwd736 zwd506 zwd105 zwd507 (Nat.le_of_ble_eq_true rfl) (Nat.le_of_ble_eq_true rfl) ⟨Nat.le_of_ble_eq_true rfl, Nat.le_of_ble_eq_true rfl⟩ oz6 oz7 ?_
    refine s_istore_n (L' := [some (zI x0), some (zI x1), some (zI (max x2 (max (v3 - v4) (-(v3 - v4))))), some (zI x3)]) A dX10_greatestChange_27 (Nat.le_of_ble_eq_true rfl) rfl ?_
    refine s_iinc (L' := [some (zI x0), some (zI x1), some (zI (max x2 (max (v3 - v4) (-(v3 - v4))))), some (zI (x3 + 1))]) A dX10_greatestChange_28 rfl rfl ?_
    refine s_goto (tgt := 4) A dX10_greatestChange_31 (by decide) ?_
    exact h
theorem eX10_greatestChange {G : zG} {ph : Bool} {F : Int → zM → Prop} {μ : zM} {x0 : Int} {x1 : Int} (h : ∀ J, zJ G ph (8) 0 0 mX10_greatestChange (zKI F) J → J 0 ([some (zI x0), some (zI x1), none, none], [], μ, 0, 0)) : qX10_greatestChange G ph x0 x1 μ F :=
  z_body (by decide +kernel) (Nat.le_of_ble_eq_true rfl) h
set_option maxRecDepth 20000 in
theorem rX10_ramp_e {G : zG} {F : Int → zM → Prop} {J : Nat → zS → Prop} {μ : zM} (C : zJ G true (12) 0 0 mX10_ramp (zKI F) J) (x1 : Int) (x2 : Int)
    (h : qX10_placeOf G true x1 μ (fun v1 μ1 => qX10_placeOf G true x2 μ1 (fun v2 μ2 => zin v1 ∧ ((v1 < 0 → F (-1) μ2) ∧ (¬ (v1 < 0) → zin v2 ∧ ((0 ≤ v2 → qX10_refresh G μ2 (fun μ7 => qX6_clear G μ7 (fun μ8 => J 42 ([some (zR (some 0)), none, none, some (zI v1), some (zI v2), some (zI 0), some (zI (-1)), some (zI 0), none], [], μ8, 0, 0)))) ∧ (¬ (0 ≤ v2) → F (-1) μ2))))))) : J 0 ([some (zR (some 0)), some (zI x1), some (zI x2), none, none, none, none, none, none], [], μ, 0, 0) := by
  obtain ⟨p, e, s, m, args, below, meth, c, A, hml, hr, hlk, hnm, rfl⟩ := C
  refine s_iload_n A dX10_ramp_0 rfl ?_
  refine s_callS (M := mX10_placeOf) (n := 1) (d := 2) (mc := 0) (ms := 0) (av := [zI x1]) (st := []) A dX10_ramp_1 zwd806 zwd807 zwd89 zcd_X10_placeOf (Nat.le_of_ble_eq_true rfl) (Nat.le_of_ble_eq_true rfl) (Nat.le_refl _) ⟨Nat.le_of_ble_eq_true rfl, Nat.le_of_ble_eq_true rfl⟩ zhn_X10_placeOf rfl (Nat.le_of_ble_eq_true rfl) rfl (z_contI (fun v1 μ1 h => ?_) h)
  refine s_istore_n (L' := [some (zR (some 0)), some (zI x1), some (zI x2), some (zI v1), none, none, none, none, none]) A dX10_ramp_4 (Nat.le_of_ble_eq_true rfl) rfl ?_
  refine s_iload_n A dX10_ramp_5 rfl ?_
  refine s_callS (M := mX10_placeOf) (n := 1) (d := 2) (mc := 0) (ms := 0) (av := [zI x2]) (st := []) A dX10_ramp_6 zwd806 zwd807 zwd89 zcd_X10_placeOf (Nat.le_of_ble_eq_true rfl) (Nat.le_of_ble_eq_true rfl) (Nat.le_refl _) ⟨Nat.le_of_ble_eq_true rfl, Nat.le_of_ble_eq_true rfl⟩ zhn_X10_placeOf rfl (Nat.le_of_ble_eq_true rfl) rfl (z_contI (fun v2 μ2 h => ?_) h)
  refine s_istore (L' := [some (zR (some 0)), some (zI x1), some (zI x2), some (zI v1), some (zI v2), none, none, none, none]) A dX10_ramp_9 (Nat.le_of_ble_eq_true rfl) rfl ?_
  refine s_iload_n A dX10_ramp_11 rfl ?_
  obtain ⟨oz3, h⟩ := h
  refine z_if_lt (tgt := 20) A dX10_ramp_12 (by decide) oz3 (fun c4 => ?_) (fun c4 => ?_)
  · have h := h.1 c4
    refine s_iconst A dX10_ramp_20 ?_
    exact s_iret A dX10_ramp_21 hr hlk (Nat.le_of_ble_eq_true rfl) (Nat.le_of_ble_eq_true rfl) ⟨_, rfl, h⟩
  · have h := h.2 c4
    refine s_iload A dX10_ramp_15 rfl ?_
    obtain ⟨oz5, h⟩ := h
    refine z_if_ge (tgt := 22) A dX10_ramp_17 (by decide) oz5 (fun c6 => ?_) (fun c6 => ?_)
    · have h := h.1 c6
      refine s_aload_n A dX10_ramp_22 rfl ?_
      refine s_callV (a := 0) (k := 10) (N := 15) (sl := true) (M := mX10_refresh) (n := 0) (d := 11) (mc := 0) (ms := 0) (av := []) (st := []) A dX10_ramp_23 rfl (by decide) (zk_0 _) zwd813 zwd815 zwd5 zwd89 zcd_X10_refresh (Nat.le_of_ble_eq_true rfl) (Nat.le_of_ble_eq_true rfl) (Nat.le_refl _) ⟨Nat.le_of_ble_eq_true rfl, Nat.le_of_ble_eq_true rfl⟩ ⟨rfl, zhn_X10_refresh⟩ rfl (Nat.le_of_ble_eq_true rfl) rfl (z_contV (fun μ7 h => ?_) h)
      refine s_aload_n A dX10_ramp_26 rfl ?_
      refine s_getf (k := 10) (j := 1) (sl := true) (v := zR (some 3)) A dX10_ramp_27 rfl zuw_X10 (Nat.le_of_ble_eq_true rfl) zwd339 (by decide) (zk_0 _) rfl ?_
      refine s_callV (a := 3) (k := 6) (N := 2) (sl := true) (M := mX6_clear) (n := 0) (d := 0) (mc := 0) (ms := 0) (av := []) (st := []) A dX10_ramp_30 rfl (by decide) (zk_3 _) zwd786 zwd787 zwd788 zwd91 zcd_X6_clear (Nat.le_of_ble_eq_true rfl) (Nat.le_of_ble_eq_true rfl) (Nat.le_refl _) ⟨Nat.le_of_ble_eq_true rfl, Nat.le_of_ble_eq_true rfl⟩ ⟨rfl, zhn_X6_clear⟩ rfl (Nat.le_of_ble_eq_true rfl) rfl (z_contV (fun μ8 h => ?_) h)
      refine s_iconst A dX10_ramp_33 ?_
      refine s_istore (L' := [some (zR (some 0)), some (zI x1), some (zI x2), some (zI v1), some (zI v2), some (zI 0), none, none, none]) A dX10_ramp_34 (Nat.le_of_ble_eq_true rfl) rfl ?_
      refine s_iconst A dX10_ramp_36 ?_
      refine s_istore (L' := [some (zR (some 0)), some (zI x1), some (zI x2), some (zI v1), some (zI v2), some (zI 0), some (zI (-1)), none, none]) A dX10_ramp_37 (Nat.le_of_ble_eq_true rfl) rfl ?_
      refine s_iconst A dX10_ramp_39 ?_
      refine s_istore (L' := [some (zR (some 0)), some (zI x1), some (zI x2), some (zI v1), some (zI v2), some (zI 0), some (zI (-1)), some (zI 0), none]) A dX10_ramp_40 (Nat.le_of_ble_eq_true rfl) rfl ?_
      exact z_wk (L' := [some (zR (some 0)), none, none, some (zI v1), some (zI v2), some (zI 0), some (zI (-1)), some (zI 0), none]) ⟨rfl, rfl, rfl, rfl, rfl, rfl, trivial⟩ h
    · have h := h.2 c6
      refine s_iconst A dX10_ramp_20 ?_
      exact s_iret A dX10_ramp_21 hr hlk (Nat.le_of_ble_eq_true rfl) (Nat.le_of_ble_eq_true rfl) ⟨_, rfl, h⟩
set_option maxRecDepth 20000 in
theorem rX10_ramp_42 {G : zG} {F : Int → zM → Prop} {J : Nat → zS → Prop} {μ : zM} (C : zJ G true (12) 0 0 mX10_ramp (zKI F) J) (x3 : Int) (x4 : Int) (x5 : Int) (x6 : Int) (x7 : Int)
    (h : zin x7 ∧ ((8 < x7 → F x5 μ) ∧ (¬ (8 < x7) → qX0_onTheWay G 105 x3 x4 0 x7 μ (fun v3 μ3 => qX0_onTheWay G 105 x3 x4 1 x7 μ3 (fun v4 μ4 => qX0_onTheWay G 105 x3 x4 2 x7 μ4 (fun v5 μ5 => qX4_find G 5 105 v3 v4 v5 μ5 (fun v6 μ6 => zin x6 ∧ ((x6 < 0 → qX10_codeOf G true v6 μ6 (fun v9 μ9 => zin v9 ∧ qX6_append G v9 μ9 (fun μ11 => J 42 ([some (zR (some 0)), none, none, some (zI x3), some (zI x4), some (zI x5), some (zI v6), some (zI (x7 + 1)), none], [], μ11, 0, 0)))) ∧ (¬ (x6 < 0) → qX10_greatestChange G true x6 v6 μ6 (fun v12 μ12 => zin x5 ∧ zin v12 ∧ qX10_codeOf G true v6 μ12 (fun v15 μ15 => zin v15 ∧ qX6_append G v15 μ15 (fun μ17 => J 42 ([some (zR (some 0)), none, none, some (zI x3), some (zI x4), some (zI (max x5 v12)), some (zI v6), some (zI (x7 + 1)), none], [], μ17, 0, 0))))))))))))) : J 42 ([some (zR (some 0)), none, none, some (zI x3), some (zI x4), some (zI x5), some (zI x6), some (zI x7), none], [], μ, 0, 0) := by
  obtain ⟨p, e, s, m, args, below, meth, c, A, hml, hr, hlk, hnm, rfl⟩ := C
  refine s_iload A dX10_ramp_42 rfl ?_
  refine s_bipush A dX10_ramp_44 rfl ?_
  obtain ⟨oz1, h⟩ := h
  refine z_icmp_gt (tgt := 147) A dX10_ramp_46 (by decide) oz1 ⟨by decide, by decide⟩ (fun c2 => ?_) (fun c2 => ?_)
  · have h := h.1 c2
    refine s_iload A dX10_ramp_147 rfl ?_
    exact s_iret A dX10_ramp_149 hr hlk (Nat.le_of_ble_eq_true rfl) (Nat.le_of_ble_eq_true rfl) ⟨_, rfl, h⟩
  · have h := h.2 c2
    refine s_aload_n A dX10_ramp_49 rfl ?_
    refine s_getf (k := 10) (j := 9) (sl := true) (v := zR (some 125)) A dX10_ramp_50 rfl zuw_X10 (Nat.le_of_ble_eq_true rfl) zwd347 (by decide) (zk_0 _) rfl ?_
    refine s_aload_n A dX10_ramp_53 rfl ?_
    refine s_getf (k := 10) (j := 2) (sl := true) (v := zR (some 5)) A dX10_ramp_54 rfl zuw_X10 (Nat.le_of_ble_eq_true rfl) zwd340 (by decide) (zk_0 _) rfl ?_
    refine s_aload_n A dX10_ramp_57 rfl ?_
    refine s_getf (k := 10) (j := 6) (sl := true) (v := zR (some 105)) A dX10_ramp_58 rfl zuw_X10 (Nat.le_of_ble_eq_true rfl) zwd344 (by decide) (zk_0 _) rfl ?_
    refine s_aload_n A dX10_ramp_61 rfl ?_
    refine s_getf (k := 10) (j := 6) (sl := true) (v := zR (some 105)) A dX10_ramp_62 rfl zuw_X10 (Nat.le_of_ble_eq_true rfl) zwd344 (by decide) (zk_0 _) rfl ?_
    refine s_iload_n A dX10_ramp_65 rfl ?_
    refine s_iload A dX10_ramp_66 rfl ?_
    refine s_iconst A dX10_ramp_68 ?_
    refine s_iload A dX10_ramp_69 rfl ?_
    refine s_callV (a := 105) (k := 0) (N := 5) (sl := true) (M := mX0_onTheWay) (n := 4) (d := 2) (mc := 0) (ms := 0) (av := [zI x3, zI x4, zI 0, zI x7]) (st := [zR (some 105), zR (some 5), zR (some 125)]) A dX10_ramp_71 rfl (by decide) (zk_105 _) zwd997 zwd998 zwd999 zwd95 zcd_X0_onTheWay (Nat.le_of_ble_eq_true rfl) (Nat.le_of_ble_eq_true rfl) (Nat.le_refl _) ⟨Nat.le_of_ble_eq_true rfl, Nat.le_of_ble_eq_true rfl⟩ ⟨rfl, zhn_X0_onTheWay⟩ rfl (Nat.le_of_ble_eq_true rfl) rfl (z_contI (fun v3 μ3 h => ?_) h)
    refine s_aload_n A dX10_ramp_74 rfl ?_
    refine s_getf (k := 10) (j := 6) (sl := true) (v := zR (some 105)) A dX10_ramp_75 rfl zuw_X10 (Nat.le_of_ble_eq_true rfl) zwd344 (by decide) (zk_0 _) rfl ?_
    refine s_iload_n A dX10_ramp_78 rfl ?_
    refine s_iload A dX10_ramp_79 rfl ?_
    refine s_iconst A dX10_ramp_81 ?_
    refine s_iload A dX10_ramp_82 rfl ?_
    refine s_callV (a := 105) (k := 0) (N := 5) (sl := true) (M := mX0_onTheWay) (n := 4) (d := 2) (mc := 0) (ms := 0) (av := [zI x3, zI x4, zI 1, zI x7]) (st := [zI v3, zR (some 105), zR (some 5), zR (some 125)]) A dX10_ramp_84 rfl (by decide) (zk_105 _) zwd997 zwd998 zwd999 zwd95 zcd_X0_onTheWay (Nat.le_of_ble_eq_true rfl) (Nat.le_of_ble_eq_true rfl) (Nat.le_refl _) ⟨Nat.le_of_ble_eq_true rfl, Nat.le_of_ble_eq_true rfl⟩ ⟨rfl, zhn_X0_onTheWay⟩ rfl (Nat.le_of_ble_eq_true rfl) rfl (z_contI (fun v4 μ4 h => ?_) h)
    refine s_aload_n A dX10_ramp_87 rfl ?_
    refine s_getf (k := 10) (j := 6) (sl := true) (v := zR (some 105)) A dX10_ramp_88 rfl zuw_X10 (Nat.le_of_ble_eq_true rfl) zwd344 (by decide) (zk_0 _) rfl ?_
    refine s_iload_n A dX10_ramp_91 rfl ?_
    refine s_iload A dX10_ramp_92 rfl ?_
    refine s_iconst A dX10_ramp_94 ?_
    refine s_iload A dX10_ramp_95 rfl ?_
    refine s_callV (a := 105) (k := 0) (N := 5) (sl := true) (M := mX0_onTheWay) (n := 4) (d := 2) (mc := 0) (ms := 0) (av := [zI x3, zI x4, zI 2, zI x7]) (st := [zI v4, zI v3, zR (some 105), zR (some 5), zR (some 125)]) A dX10_ramp_97 rfl (by decide) (zk_105 _) zwd997 zwd998 zwd999 zwd95 zcd_X0_onTheWay (Nat.le_of_ble_eq_true rfl) (Nat.le_of_ble_eq_true rfl) (Nat.le_refl _) ⟨Nat.le_of_ble_eq_true rfl, Nat.le_of_ble_eq_true rfl⟩ ⟨rfl, zhn_X0_onTheWay⟩ rfl (Nat.le_of_ble_eq_true rfl) rfl (z_contI (fun v5 μ5 h => ?_) h)
    refine s_callV (a := 125) (k := 4) (N := 9) (sl := true) (M := mX4_find) (n := 5) (d := 9) (mc := 0) (ms := 0) (av := [zR (some 5), zR (some 105), zI v3, zI v4, zI v5]) (st := []) A dX10_ramp_100 rfl (by decide) (zk_125 _) zwd902 zwd903 zwd904 zwd97 zcd_X4_find (Nat.le_of_ble_eq_true rfl) (Nat.le_of_ble_eq_true rfl) (Nat.le_refl _) ⟨Nat.le_of_ble_eq_true rfl, Nat.le_of_ble_eq_true rfl⟩ ⟨rfl, zhn_X4_find⟩ rfl (Nat.le_of_ble_eq_true rfl) rfl (z_contI (fun v6 μ6 h => ?_) h)
    refine s_istore (L' := [some (zR (some 0)), none, none, some (zI x3), some (zI x4), some (zI x5), some (zI x6), some (zI x7), some (zI v6)]) A dX10_ramp_103 (Nat.le_of_ble_eq_true rfl) rfl ?_
    refine s_iload A dX10_ramp_105 rfl ?_
    obtain ⟨oz7, h⟩ := h
    refine z_if_lt (tgt := 124) A dX10_ramp_107 (by decide) oz7 (fun c8 => ?_) (fun c8 => ?_)
    · have h := h.1 c8
      refine s_aload_n A dX10_ramp_124 rfl ?_
      refine s_getf (k := 10) (j := 1) (sl := true) (v := zR (some 3)) A dX10_ramp_125 rfl zuw_X10 (Nat.le_of_ble_eq_true rfl) zwd339 (by decide) (zk_0 _) rfl ?_
      refine s_iload A dX10_ramp_128 rfl ?_
      refine s_callS (M := mX10_codeOf) (n := 1) (d := 2) (mc := 0) (ms := 0) (av := [zI v6]) (st := [zR (some 3)]) A dX10_ramp_130 zwd893 zwd894 zwd89 zcd_X10_codeOf (Nat.le_of_ble_eq_true rfl) (Nat.le_of_ble_eq_true rfl) (Nat.le_refl _) ⟨Nat.le_of_ble_eq_true rfl, Nat.le_of_ble_eq_true rfl⟩ zhn_X10_codeOf rfl (Nat.le_of_ble_eq_true rfl) rfl (z_contI (fun v9 μ9 h => ?_) h)
      obtain ⟨oz10, h⟩ := h
      refine z_i2l2 A dX10_ramp_133 oz10 ?_
      refine s_callV (a := 3) (k := 6) (N := 2) (sl := true) (M := mX6_append) (n := 1) (d := 0) (mc := 0) (ms := 0) (av := [zL v9]) (st := []) A dX10_ramp_134 rfl (by decide) (zk_3 _) zwd790 zwd791 zwd792 zwd91 zcd_X6_append (Nat.le_of_ble_eq_true rfl) (Nat.le_of_ble_eq_true rfl) (Nat.le_refl _) ⟨Nat.le_of_ble_eq_true rfl, Nat.le_of_ble_eq_true rfl⟩ ⟨rfl, zhn_X6_append⟩ rfl (Nat.le_of_ble_eq_true rfl) rfl (z_contV (fun μ11 h => ?_) h)
      refine s_iload A dX10_ramp_137 rfl ?_
      refine s_istore (L' := [some (zR (some 0)), none, none, some (zI x3), some (zI x4), some (zI x5), some (zI v6), some (zI x7), some (zI v6)]) A dX10_ramp_139 (Nat.le_of_ble_eq_true rfl) rfl ?_
      refine s_iinc (L' := [some (zR (some 0)), none, none, some (zI x3), some (zI x4), some (zI x5), some (zI v6), some (zI (x7 + 1)), some (zI v6)]) A dX10_ramp_141 rfl rfl ?_
      refine s_goto (tgt := 42) A dX10_ramp_144 (by decide) ?_
      exact z_wk (L' := [some (zR (some 0)), none, none, some (zI x3), some (zI x4), some (zI x5), some (zI v6), some (zI (x7 + 1)), none]) ⟨rfl, rfl, rfl, rfl, rfl, rfl, trivial⟩ h
    · have h := h.2 c8
      refine s_iload A dX10_ramp_110 rfl ?_
      refine s_iload A dX10_ramp_112 rfl ?_
      refine s_iload A dX10_ramp_114 rfl ?_
      refine s_callS (M := mX10_greatestChange) (n := 2) (d := 8) (mc := 0) (ms := 0) (av := [zI x6, zI v6]) (st := [zI x5]) A dX10_ramp_116 zwd1001 zwd1002 zwd89 zcd_X10_greatestChange (Nat.le_of_ble_eq_true rfl) (Nat.le_of_ble_eq_true rfl) (Nat.le_refl _) ⟨Nat.le_of_ble_eq_true rfl, Nat.le_of_ble_eq_true rfl⟩ zhn_X10_greatestChange rfl (Nat.le_of_ble_eq_true rfl) rfl (z_contI (fun v12 μ12 h => ?_) h)
      obtain ⟨oz13, h⟩ := h
      obtain ⟨oz14, h⟩ := h
      refine z_mmax A dX10_ramp_119 zwd736 zwd506 zwd105 zwd507 (Nat.le_of_ble_eq_true rfl) (Nat.le_of_ble_eq_true rfl) ⟨Nat.le_of_ble_eq_true rfl, Nat.le_of_ble_eq_true rfl⟩ oz13 oz14 ?_
      refine s_istore (L' := [some (zR (some 0)), none, none, some (zI x3), some (zI x4), some (zI (max x5 v12)), some (zI x6), some (zI x7), some (zI v6)]) A dX10_ramp_122 (Nat.le_of_ble_eq_true rfl) rfl ?_
      refine s_aload_n A dX10_ramp_124 rfl ?_
      refine s_getf (k := 10) (j := 1) (sl := true) (v := zR (some 3)) A dX10_ramp_125 rfl zuw_X10 (Nat.le_of_ble_eq_true rfl) zwd339 (by decide) (zk_0 _) rfl ?_
      refine s_iload A dX10_ramp_128 rfl ?_
      refine s_callS (M := mX10_codeOf) (n := 1) (d := 2) (mc := 0) (ms := 0) (av := [zI v6]) (st := [zR (some 3)]) A dX10_ramp_130 zwd893 zwd894 zwd89 zcd_X10_codeOf (Nat.le_of_ble_eq_true rfl) (Nat.le_of_ble_eq_true rfl) (Nat.le_refl _) ⟨Nat.le_of_ble_eq_true rfl, Nat.le_of_ble_eq_true rfl⟩ zhn_X10_codeOf rfl (Nat.le_of_ble_eq_true rfl) rfl (z_contI (fun v15 μ15 h => ?_) h)
      obtain ⟨oz16, h⟩ := h
      refine z_i2l2 A dX10_ramp_133 oz16 ?_
      refine s_callV (a := 3) (k := 6) (N := 2) (sl := true) (M := mX6_append) (n := 1) (d := 0) (mc := 0) (ms := 0) (av := [zL v15]) (st := []) A dX10_ramp_134 rfl (by decide) (zk_3 _) zwd790 zwd791 zwd792 zwd91 zcd_X6_append (Nat.le_of_ble_eq_true rfl) (Nat.le_of_ble_eq_true rfl) (Nat.le_refl _) ⟨Nat.le_of_ble_eq_true rfl, Nat.le_of_ble_eq_true rfl⟩ ⟨rfl, zhn_X6_append⟩ rfl (Nat.le_of_ble_eq_true rfl) rfl (z_contV (fun μ17 h => ?_) h)
      refine s_iload A dX10_ramp_137 rfl ?_
      refine s_istore (L' := [some (zR (some 0)), none, none, some (zI x3), some (zI x4), some (zI (max x5 v12)), some (zI v6), some (zI x7), some (zI v6)]) A dX10_ramp_139 (Nat.le_of_ble_eq_true rfl) rfl ?_
      refine s_iinc (L' := [some (zR (some 0)), none, none, some (zI x3), some (zI x4), some (zI (max x5 v12)), some (zI v6), some (zI (x7 + 1)), some (zI v6)]) A dX10_ramp_141 rfl rfl ?_
      refine s_goto (tgt := 42) A dX10_ramp_144 (by decide) ?_
      exact z_wk (L' := [some (zR (some 0)), none, none, some (zI x3), some (zI x4), some (zI (max x5 v12)), some (zI v6), some (zI (x7 + 1)), none]) ⟨rfl, rfl, rfl, rfl, rfl, rfl, trivial⟩ h
theorem eX10_ramp {G : zG} {F : Int → zM → Prop} {μ : zM} {x1 : Int} {x2 : Int} (h : ∀ J, zJ G true (12) 0 0 mX10_ramp (zKI F) J → J 0 ([some (zR (some 0)), some (zI x1), some (zI x2), none, none, none, none, none, none], [], μ, 0, 0)) : qX10_ramp G x1 x2 μ F :=
  z_body (by decide +kernel) (Nat.le_of_ble_eq_true rfl) h
set_option maxRecDepth 20000 in
theorem rX10_changed_e {G : zG} {ph : Bool} {F : Int → zM → Prop} {J : Nat → zS → Prop} {μ : zM} (C : zJ G ph (2) 0 0 mX10_changed (zKI F) J) (x0 : Int) (x1 : Int)
    (h : (0 ≤ x1 ∧ x1 < 2147483648) ∧ zin x1 ∧ ((4 ≤ x1 → qX10_amountOf G ph x0 (x1 % 4) μ (fun v3 μ3 => qX10_isIn G ph (v3 + 1) 0 8 μ3 (fun v4 μ4 => zin v4 ∧ ((¬ v4 = 0 → (0 ≤ x1 % 4 ∧ x1 % 4 < 4) ∧ F (x0 + (1 * (zta 1 (x1 % 4)))) μ4) ∧ (v4 = 0 → F (-1) μ4))))) ∧ (¬ (4 ≤ x1) → qX10_amountOf G ph x0 (x1 % 4) μ (fun v8 μ8 => qX10_isIn G ph (v8 + (-1)) 0 8 μ8 (fun v9 μ9 => zin v9 ∧ ((¬ v9 = 0 → (0 ≤ x1 % 4 ∧ x1 % 4 < 4) ∧ F (x0 + ((-1) * (zta 1 (x1 % 4)))) μ9) ∧ (v9 = 0 → F (-1) μ9))))))) : J 0 ([some (zI x0), some (zI x1), none, none], [], μ, 0, 0) := by
  obtain ⟨p, e, s, m, args, below, meth, c, A, hml, hr, hlk, hnm, rfl⟩ := C
  refine s_iload_n A dX10_changed_0 rfl ?_
  refine s_iconst A dX10_changed_1 ?_
  obtain ⟨o1, h⟩ := h
  refine z_irem A dX10_changed_2 o1 ⟨by decide, by decide⟩ ?_
  refine s_istore_n (L' := [some (zI x0), some (zI x1), some (zI (x1 % 4)), none]) A dX10_changed_3 (Nat.le_of_ble_eq_true rfl) rfl ?_
  refine s_iload_n A dX10_changed_4 rfl ?_
  refine s_iconst A dX10_changed_5 ?_
  obtain ⟨oz1, h⟩ := h
  refine z_icmp_ge (tgt := 13) A dX10_changed_6 (by decide) oz1 ⟨by decide, by decide⟩ (fun c2 => ?_) (fun c2 => ?_)
  · have h := h.1 c2
    refine s_iconst A dX10_changed_13 ?_
    refine s_istore_n (L' := [some (zI x0), some (zI x1), some (zI (x1 % 4)), some (zI 1)]) A dX10_changed_14 (Nat.le_of_ble_eq_true rfl) rfl ?_
    refine s_iload_n A dX10_changed_15 rfl ?_
    refine s_iload_n A dX10_changed_16 rfl ?_
    refine s_callS (M := mX10_amountOf) (n := 2) (d := 0) (mc := 0) (ms := 0) (av := [zI x0, zI (x1 % 4)]) (st := []) A dX10_changed_17 zwd896 zwd840 zwd89 zcd_X10_amountOf (Nat.le_of_ble_eq_true rfl) (Nat.le_of_ble_eq_true rfl) (Nat.le_refl _) ⟨Nat.le_of_ble_eq_true rfl, Nat.le_of_ble_eq_true rfl⟩ zhn_X10_amountOf rfl (Nat.le_of_ble_eq_true rfl) rfl (z_contI (fun v3 μ3 h => ?_) h)
    refine s_iload_n A dX10_changed_20 rfl ?_
    refine s_iadd A dX10_changed_21 ?_
    refine s_iconst A dX10_changed_22 ?_
    refine s_bipush A dX10_changed_23 rfl ?_
    refine s_callS (M := mX10_isIn) (n := 3) (d := 0) (mc := 0) (ms := 0) (av := [zI (v3 + 1), zI 0, zI 8]) (st := []) A dX10_changed_25 zwd597 zwd598 zwd89 zcd_X10_isIn (Nat.le_of_ble_eq_true rfl) (Nat.le_of_ble_eq_true rfl) (Nat.le_refl _) ⟨Nat.le_of_ble_eq_true rfl, Nat.le_of_ble_eq_true rfl⟩ zhn_X10_isIn rfl (Nat.le_of_ble_eq_true rfl) rfl (z_contI (fun v4 μ4 h => ?_) h)
    obtain ⟨oz5, h⟩ := h
    refine z_if_ne (tgt := 33) A dX10_changed_28 (by decide) oz5 (fun c6 => ?_) (fun c6 => ?_)
    · have h := h.1 c6
      refine s_iload_n A dX10_changed_33 rfl ?_
      refine s_iload_n A dX10_changed_34 rfl ?_
      refine s_getsT (t := 1) A dX10_changed_35 (by decide) zwd811 ?_
      refine s_iload_n A dX10_changed_38 rfl ?_
      obtain ⟨ox7, h⟩ := h
      refine z_tald A dX10_changed_39 (by decide) (Nat.le_of_ble_eq_true rfl) ox7 ?_
      refine s_imul A dX10_changed_40 ?_
      refine s_iadd A dX10_changed_41 ?_
      exact s_iret A dX10_changed_42 hr hlk (Nat.le_of_ble_eq_true rfl) (Nat.le_of_ble_eq_true rfl) ⟨_, rfl, h⟩
    · have h := h.2 c6
      refine s_iconst A dX10_changed_31 ?_
      exact s_iret A dX10_changed_32 hr hlk (Nat.le_of_ble_eq_true rfl) (Nat.le_of_ble_eq_true rfl) ⟨_, rfl, h⟩
  · have h := h.2 c2
    refine s_iconst A dX10_changed_9 ?_
    refine s_goto (tgt := 14) A dX10_changed_10 (by decide) ?_
    refine s_istore_n (L' := [some (zI x0), some (zI x1), some (zI (x1 % 4)), some (zI (-1))]) A dX10_changed_14 (Nat.le_of_ble_eq_true rfl) rfl ?_
    refine s_iload_n A dX10_changed_15 rfl ?_
    refine s_iload_n A dX10_changed_16 rfl ?_
    refine s_callS (M := mX10_amountOf) (n := 2) (d := 0) (mc := 0) (ms := 0) (av := [zI x0, zI (x1 % 4)]) (st := []) A dX10_changed_17 zwd896 zwd840 zwd89 zcd_X10_amountOf (Nat.le_of_ble_eq_true rfl) (Nat.le_of_ble_eq_true rfl) (Nat.le_refl _) ⟨Nat.le_of_ble_eq_true rfl, Nat.le_of_ble_eq_true rfl⟩ zhn_X10_amountOf rfl (Nat.le_of_ble_eq_true rfl) rfl (z_contI (fun v8 μ8 h => ?_) h)
    refine s_iload_n A dX10_changed_20 rfl ?_
    refine s_iadd A dX10_changed_21 ?_
    refine s_iconst A dX10_changed_22 ?_
    refine s_bipush A dX10_changed_23 rfl ?_
    refine s_callS (M := mX10_isIn) (n := 3) (d := 0) (mc := 0) (ms := 0) (av := [zI (v8 + (-1)), zI 0, zI 8]) (st := []) A dX10_changed_25 zwd597 zwd598 zwd89 zcd_X10_isIn (Nat.le_of_ble_eq_true rfl) (Nat.le_of_ble_eq_true rfl) (Nat.le_refl _) ⟨Nat.le_of_ble_eq_true rfl, Nat.le_of_ble_eq_true rfl⟩ zhn_X10_isIn rfl (Nat.le_of_ble_eq_true rfl) rfl (z_contI (fun v9 μ9 h => ?_) h)
    obtain ⟨oz10, h⟩ := h
    refine z_if_ne (tgt := 33) A dX10_changed_28 (by decide) oz10 (fun c11 => ?_) (fun c11 => ?_)
    · have h := h.1 c11
      refine s_iload_n A dX10_changed_33 rfl ?_
      refine s_iload_n A dX10_changed_34 rfl ?_
      refine s_getsT (t := 1) A dX10_changed_35 (by decide) zwd811 ?_
      refine s_iload_n A dX10_changed_38 rfl ?_
      obtain ⟨ox12, h⟩ := h
      refine z_tald A dX10_changed_39 (by decide) (Nat.le_of_ble_eq_true rfl) ox12 ?_
      refine s_imul A dX10_changed_40 ?_
      refine s_iadd A dX10_changed_41 ?_
      exact s_iret A dX10_changed_42 hr hlk (Nat.le_of_ble_eq_true rfl) (Nat.le_of_ble_eq_true rfl) ⟨_, rfl, h⟩
    · have h := h.2 c11
      refine s_iconst A dX10_changed_31 ?_
      exact s_iret A dX10_changed_32 hr hlk (Nat.le_of_ble_eq_true rfl) (Nat.le_of_ble_eq_true rfl) ⟨_, rfl, h⟩
theorem eX10_changed {G : zG} {ph : Bool} {F : Int → zM → Prop} {μ : zM} {x0 : Int} {x1 : Int} (h : ∀ J, zJ G ph (2) 0 0 mX10_changed (zKI F) J → J 0 ([some (zI x0), some (zI x1), none, none], [], μ, 0, 0)) : qX10_changed G ph x0 x1 μ F :=
  z_body (by decide +kernel) (Nat.le_of_ble_eq_true rfl) h
set_option maxRecDepth 20000 in
theorem rX10_markChangesTo_e {G : zG} {F : zM → Prop} {J : Nat → zS → Prop} {μ : zM} (C : zJ G true (4) 0 0 mX10_markChangesTo (zKV F) J) (x1 : Int) (x2 : Int)
    (h : qJ7_fill_53178 G true 134 (-1) μ (fun μ1 => (0 ≤ x1 ∧ x1 < 6561) ∧ J 27 ([some (zR (some 0)), none, some (zI x2), some (zI 1), some (zI 0), none, none, none], [], zup (zup μ1 134 x1 0) 135 0 x1, 0, 0))) : J 0 ([some (zR (some 0)), some (zI x1), some (zI x2), none, none, none, none, none], [], μ, 0, 0) := by
  obtain ⟨p, e, s, m, args, below, meth, c, A, hml, hr, hlk, hnm, rfl⟩ := C
  refine s_aload_n A dX10_markChangesTo_0 rfl ?_
  refine s_getf (k := 10) (j := 12) (sl := true) (v := zR (some 134)) A dX10_markChangesTo_1 rfl zuw_X10 (Nat.le_of_ble_eq_true rfl) zwd350 (by decide) (zk_0 _) rfl ?_
  refine s_iconst A dX10_markChangesTo_4 ?_
  refine s_callS (M := mJ7_fill_53178) (n := 2) (d := 0) (mc := 0) (ms := 0) (av := [zR (some 134), zI (-1)]) (st := []) A dX10_markChangesTo_5 zwd1014 zwd251 zwd96 zcd_J7_fill_53178 (Nat.le_of_ble_eq_true rfl) (Nat.le_of_ble_eq_true rfl) (Nat.le_refl _) ⟨Nat.le_of_ble_eq_true rfl, Nat.le_of_ble_eq_true rfl⟩ zhn_J7_fill_53178 rfl (Nat.le_of_ble_eq_true rfl) rfl (z_contV (fun μ1 h => ?_) h)
  refine s_aload_n A dX10_markChangesTo_8 rfl ?_
  refine s_getf (k := 10) (j := 12) (sl := true) (v := zR (some 134)) A dX10_markChangesTo_9 rfl zuw_X10 (Nat.le_of_ble_eq_true rfl) zwd350 (by decide) (zk_0 _) rfl ?_
  refine s_iload_n A dX10_markChangesTo_12 rfl ?_
  refine s_iconst A dX10_markChangesTo_13 ?_
  obtain ⟨ox2, h⟩ := h
  refine z_iast A dX10_markChangesTo_14 (zk_134 _) (Nat.le_of_ble_eq_true rfl) ox2 ?_
  refine s_aload_n A dX10_markChangesTo_15 rfl ?_
  refine s_getf (k := 10) (j := 13) (sl := true) (v := zR (some 135)) A dX10_markChangesTo_16 rfl zuw_X10 (Nat.le_of_ble_eq_true rfl) zwd351 (by decide) (zk_0 _) rfl ?_
  refine s_iconst A dX10_markChangesTo_19 ?_
  refine s_iload_n A dX10_markChangesTo_20 rfl ?_
  refine z_iast A dX10_markChangesTo_21 (zk_135 _) (Nat.le_of_ble_eq_true rfl) ⟨by decide, by decide⟩ ?_
  refine s_iconst A dX10_markChangesTo_22 ?_
  refine s_istore_n (L' := [some (zR (some 0)), some (zI x1), some (zI x2), some (zI 1), none, none, none, none]) A dX10_markChangesTo_23 (Nat.le_of_ble_eq_true rfl) rfl ?_
  refine s_iconst A dX10_markChangesTo_24 ?_
  refine s_istore (L' := [some (zR (some 0)), some (zI x1), some (zI x2), some (zI 1), some (zI 0), none, none, none]) A dX10_markChangesTo_25 (Nat.le_of_ble_eq_true rfl) rfl ?_
  exact z_wk (L' := [some (zR (some 0)), none, some (zI x2), some (zI 1), some (zI 0), none, none, none]) ⟨rfl, rfl, rfl, rfl, trivial⟩ h
set_option maxRecDepth 20000 in
theorem rX10_markChangesTo_27 {G : zG} {F : zM → Prop} {J : Nat → zS → Prop} {μ : zM} (C : zJ G true (4) 0 0 mX10_markChangesTo (zKV F) J) (x2 : Int) (x3 : Int) (x4 : Int)
    (h : zin x4 ∧ zin x3 ∧ ((x3 ≤ x4 → F μ) ∧ (¬ (x3 ≤ x4) → ((6561 ≤ x4 → F μ) ∧ (¬ (6561 ≤ x4) → (0 ≤ x4 ∧ x4 < 6561) ∧ J 53 ([some (zR (some 0)), none, some (zI x2), some (zI x3), some (zI x4), some (zI (zi μ 135 x4)), some (zI 0), none], [], μ, 0, 0)))))) : J 27 ([some (zR (some 0)), none, some (zI x2), some (zI x3), some (zI x4), none, none, none], [], μ, 0, 0) := by
  obtain ⟨p, e, s, m, args, below, meth, c, A, hml, hr, hlk, hnm, rfl⟩ := C
  refine s_iload A dX10_markChangesTo_27 rfl ?_
  refine s_iload_n A dX10_markChangesTo_29 rfl ?_
  obtain ⟨oz1, h⟩ := h
  obtain ⟨oz2, h⟩ := h
  refine z_icmp_ge (tgt := 154) A dX10_markChangesTo_30 (by decide) oz1 oz2 (fun c3 => ?_) (fun c3 => ?_)
  · have h := h.1 c3
    exact s_vret A dX10_markChangesTo_154 hr hlk (Nat.le_of_ble_eq_true rfl) (Nat.le_of_ble_eq_true rfl) ⟨rfl, h⟩
  · have h := h.2 c3
    refine s_iload A dX10_markChangesTo_33 rfl ?_
    refine s_sipush A dX10_markChangesTo_35 rfl ?_
    refine z_icmp_ge (tgt := 154) A dX10_markChangesTo_38 (by decide) oz1 ⟨by decide, by decide⟩ (fun c4 => ?_) (fun c4 => ?_)
    · have h := h.1 c4
      exact s_vret A dX10_markChangesTo_154 hr hlk (Nat.le_of_ble_eq_true rfl) (Nat.le_of_ble_eq_true rfl) ⟨rfl, h⟩
    · have h := h.2 c4
      refine s_aload_n A dX10_markChangesTo_41 rfl ?_
      refine s_getf (k := 10) (j := 13) (sl := true) (v := zR (some 135)) A dX10_markChangesTo_42 rfl zuw_X10 (Nat.le_of_ble_eq_true rfl) zwd351 (by decide) (zk_0 _) rfl ?_
      refine s_iload A dX10_markChangesTo_45 rfl ?_
      obtain ⟨ox5, h⟩ := h
      refine z_iald A dX10_markChangesTo_47 (zk_135 _) (Nat.le_of_ble_eq_true rfl) ox5 ?_
      refine s_istore (L' := [some (zR (some 0)), none, some (zI x2), some (zI x3), some (zI x4), some (zI (zi μ 135 x4)), none, none]) A dX10_markChangesTo_48 (Nat.le_of_ble_eq_true rfl) rfl ?_
      refine s_iconst A dX10_markChangesTo_50 ?_
      refine s_istore (L' := [some (zR (some 0)), none, some (zI x2), some (zI x3), some (zI x4), some (zI (zi μ 135 x4)), some (zI 0), none]) A dX10_markChangesTo_51 (Nat.le_of_ble_eq_true rfl) rfl ?_
      exact h
set_option maxRecDepth 20000 in
theorem rX10_markChangesTo_53 {G : zG} {F : zM → Prop} {J : Nat → zS → Prop} {μ : zM} (C : zJ G true (4) 0 0 mX10_markChangesTo (zKV F) J) (x2 : Int) (x3 : Int) (x4 : Int) (x5 : Int) (x6 : Int)
    (h : zin x6 ∧ ((8 ≤ x6 → J 27 ([some (zR (some 0)), none, some (zI x2), some (zI x3), some (zI (x4 + 1)), none, none, none], [], μ, 0, 0)) ∧ (¬ (8 ≤ x6) → qX10_changed G true x5 x6 μ (fun v3 μ3 => zin v3 ∧ ((v3 < 0 → J 53 ([some (zR (some 0)), none, some (zI x2), some (zI x3), some (zI x4), some (zI x5), some (zI (x6 + 1)), none], [], μ3, 0, 0)) ∧ (¬ (v3 < 0) → (0 ≤ v3 ∧ v3 < 6561) ∧ zin (zi μ3 134 v3) ∧ ((0 ≤ zi μ3 134 v3 → J 53 ([some (zR (some 0)), none, some (zI x2), some (zI x3), some (zI x4), some (zI x5), some (zI (x6 + 1)), none], [], μ3, 0, 0)) ∧ (¬ (0 ≤ zi μ3 134 v3) → qX7_isOpen G 5 v3 μ3 (fun v9 μ9 => zin v9 ∧ ((v9 = 0 → J 53 ([some (zR (some 0)), none, some (zI x2), some (zI x3), some (zI x4), some (zI x5), some (zI (x6 + 1)), none], [], μ9, 0, 0)) ∧ (¬ (v9 = 0) → qX0_distanceOf G 105 5 x5 v3 μ9 (fun v12 μ12 => zin v12 ∧ zin x2 ∧ ((x2 < v12 → J 53 ([some (zR (some 0)), none, some (zI x2), some (zI x3), some (zI x4), some (zI x5), some (zI (x6 + 1)), none], [], μ12, 0, 0)) ∧ (¬ (x2 < v12) → (0 ≤ x5 ∧ x5 < 6561) ∧ (0 ≤ x3 ∧ x3 < 6561) ∧ J 53 ([some (zR (some 0)), none, some (zI x2), some (zI (x3 + 1)), some (zI x4), some (zI x5), some (zI (x6 + 1)), none], [], zup (zup μ12 134 v3 ((zi μ12 134 x5) + 1)) 135 x3 v3, 0, 0))))))))))))))) : J 53 ([some (zR (some 0)), none, some (zI x2), some (zI x3), some (zI x4), some (zI x5), some (zI x6), none], [], μ, 0, 0) := by
  obtain ⟨p, e, s, m, args, below, meth, c, A, hml, hr, hlk, hnm, rfl⟩ := C
  refine s_iload A dX10_markChangesTo_53 rfl ?_
  refine s_bipush A dX10_markChangesTo_55 rfl ?_
  obtain ⟨oz1, h⟩ := h
  refine z_icmp_ge (tgt := 148) A dX10_markChangesTo_57 (by decide) oz1 ⟨by decide, by decide⟩ (fun c2 => ?_) (fun c2 => ?_)
  · have h := h.1 c2
    refine s_iinc (L' := [some (zR (some 0)), none, some (zI x2), some (zI x3), some (zI (x4 + 1)), some (zI x5), some (zI x6), none]) A dX10_markChangesTo_148 rfl rfl ?_
    refine s_goto (tgt := 27) A dX10_markChangesTo_151 (by decide) ?_
    exact z_wk (L' := [some (zR (some 0)), none, some (zI x2), some (zI x3), some (zI (x4 + 1)), none, none, none]) ⟨rfl, rfl, rfl, rfl, trivial⟩ h
  · have h := h.2 c2
    refine s_iload A dX10_markChangesTo_60 rfl ?_
    refine s_iload A dX10_markChangesTo_62 rfl ?_
    refine s_callS (M := mX10_changed) (n := 2) (d := 2) (mc := 0) (ms := 0) (av := [zI x5, zI x6]) (st := []) A dX10_markChangesTo_64 zwd1015 zwd1016 zwd89 zcd_X10_changed (Nat.le_of_ble_eq_true rfl) (Nat.le_of_ble_eq_true rfl) (Nat.le_refl _) ⟨Nat.le_of_ble_eq_true rfl, Nat.le_of_ble_eq_true rfl⟩ zhn_X10_changed rfl (Nat.le_of_ble_eq_true rfl) rfl (z_contI (fun v3 μ3 h => ?_) h)
    refine s_istore (L' := [some (zR (some 0)), none, some (zI x2), some (zI x3), some (zI x4), some (zI x5), some (zI x6), some (zI v3)]) A dX10_markChangesTo_67 (Nat.le_of_ble_eq_true rfl) rfl ?_
    refine s_iload A dX10_markChangesTo_69 rfl ?_
    obtain ⟨oz4, h⟩ := h
    refine z_if_lt (tgt := 142) A dX10_markChangesTo_71 (by decide) oz4 (fun c5 => ?_) (fun c5 => ?_)
    · have h := h.1 c5
      refine s_iinc (L' := [some (zR (some 0)), none, some (zI x2), some (zI x3), some (zI x4), some (zI x5), some (zI (x6 + 1)), some (zI v3)]) A dX10_markChangesTo_142 rfl rfl ?_
      refine s_goto (tgt := 53) A dX10_markChangesTo_145 (by decide) ?_
      exact z_wk (L' := [some (zR (some 0)), none, some (zI x2), some (zI x3), some (zI x4), some (zI x5), some (zI (x6 + 1)), none]) ⟨rfl, rfl, rfl, rfl, rfl, rfl, trivial⟩ h
    · have h := h.2 c5
      refine s_aload_n A dX10_markChangesTo_74 rfl ?_
      refine s_getf (k := 10) (j := 12) (sl := true) (v := zR (some 134)) A dX10_markChangesTo_75 rfl zuw_X10 (Nat.le_of_ble_eq_true rfl) zwd350 (by decide) (zk_0 _) rfl ?_
      refine s_iload A dX10_markChangesTo_78 rfl ?_
      obtain ⟨ox6, h⟩ := h
      refine z_iald A dX10_markChangesTo_80 (zk_134 _) (Nat.le_of_ble_eq_true rfl) ox6 ?_
      obtain ⟨oz7, h⟩ := h
      refine z_if_ge (tgt := 142) A dX10_markChangesTo_81 (by decide) oz7 (fun c8 => ?_) (fun c8 => ?_)
      · have h := h.1 c8
        refine s_iinc (L' := [some (zR (some 0)), none, some (zI x2), some (zI x3), some (zI x4), some (zI x5), some (zI (x6 + 1)), some (zI v3)]) A dX10_markChangesTo_142 rfl rfl ?_
        refine s_goto (tgt := 53) A dX10_markChangesTo_145 (by decide) ?_
        exact z_wk (L' := [some (zR (some 0)), none, some (zI x2), some (zI x3), some (zI x4), some (zI x5), some (zI (x6 + 1)), none]) ⟨rfl, rfl, rfl, rfl, rfl, rfl, trivial⟩ h
      · have h := h.2 c8
        refine s_aload_n A dX10_markChangesTo_84 rfl ?_
        refine s_getf (k := 10) (j := 2) (sl := true) (v := zR (some 5)) A dX10_markChangesTo_85 rfl zuw_X10 (Nat.le_of_ble_eq_true rfl) zwd340 (by decide) (zk_0 _) rfl ?_
        refine s_iload A dX10_markChangesTo_88 rfl ?_
        refine s_callV (a := 5) (k := 7) (N := 9) (sl := true) (M := mX7_isOpen) (n := 1) (d := 2) (mc := 0) (ms := 0) (av := [zI v3]) (st := []) A dX10_markChangesTo_90 rfl (by decide) (zk_5 _) zwd1009 zwd852 zwd853 zwd92 zcd_X7_isOpen (Nat.le_of_ble_eq_true rfl) (Nat.le_of_ble_eq_true rfl) (Nat.le_refl _) ⟨Nat.le_of_ble_eq_true rfl, Nat.le_of_ble_eq_true rfl⟩ ⟨rfl, zhn_X7_isOpen⟩ rfl (Nat.le_of_ble_eq_true rfl) rfl (z_contI (fun v9 μ9 h => ?_) h)
        obtain ⟨oz10, h⟩ := h
        refine z_if_eq (tgt := 142) A dX10_markChangesTo_93 (by decide) oz10 (fun c11 => ?_) (fun c11 => ?_)
        · have h := h.1 c11
          refine s_iinc (L' := [some (zR (some 0)), none, some (zI x2), some (zI x3), some (zI x4), some (zI x5), some (zI (x6 + 1)), some (zI v3)]) A dX10_markChangesTo_142 rfl rfl ?_
          refine s_goto (tgt := 53) A dX10_markChangesTo_145 (by decide) ?_
          exact z_wk (L' := [some (zR (some 0)), none, some (zI x2), some (zI x3), some (zI x4), some (zI x5), some (zI (x6 + 1)), none]) ⟨rfl, rfl, rfl, rfl, rfl, rfl, trivial⟩ h
        · have h := h.2 c11
          refine s_aload_n A dX10_markChangesTo_96 rfl ?_
          refine s_getf (k := 10) (j := 6) (sl := true) (v := zR (some 105)) A dX10_markChangesTo_97 rfl zuw_X10 (Nat.le_of_ble_eq_true rfl) zwd344 (by decide) (zk_0 _) rfl ?_
          refine s_aload_n A dX10_markChangesTo_100 rfl ?_
          refine s_getf (k := 10) (j := 2) (sl := true) (v := zR (some 5)) A dX10_markChangesTo_101 rfl zuw_X10 (Nat.le_of_ble_eq_true rfl) zwd340 (by decide) (zk_0 _) rfl ?_
          refine s_iload A dX10_markChangesTo_104 rfl ?_
          refine s_iload A dX10_markChangesTo_106 rfl ?_
          refine s_callV (a := 105) (k := 0) (N := 5) (sl := true) (M := mX0_distanceOf) (n := 3) (d := 3) (mc := 0) (ms := 0) (av := [zR (some 5), zI x5, zI v3]) (st := []) A dX10_markChangesTo_108 rfl (by decide) (zk_105 _) zwd1018 zwd1019 zwd1020 zwd95 zcd_X0_distanceOf (Nat.le_of_ble_eq_true rfl) (Nat.le_of_ble_eq_true rfl) (Nat.le_refl _) ⟨Nat.le_of_ble_eq_true rfl, Nat.le_of_ble_eq_true rfl⟩ ⟨rfl, zhn_X0_distanceOf⟩ rfl (Nat.le_of_ble_eq_true rfl) rfl (z_contI (fun v12 μ12 h => ?_) h)
          refine s_iload_n A dX10_markChangesTo_111 rfl ?_
          obtain ⟨oz13, h⟩ := h
          obtain ⟨oz14, h⟩ := h
          refine z_icmp_gt (tgt := 142) A dX10_markChangesTo_112 (by decide) oz13 oz14 (fun c15 => ?_) (fun c15 => ?_)
          · have h := h.1 c15
            refine s_iinc (L' := [some (zR (some 0)), none, some (zI x2), some (zI x3), some (zI x4), some (zI x5), some (zI (x6 + 1)), some (zI v3)]) A dX10_markChangesTo_142 rfl rfl ?_
            refine s_goto (tgt := 53) A dX10_markChangesTo_145 (by decide) ?_
            exact z_wk (L' := [some (zR (some 0)), none, some (zI x2), some (zI x3), some (zI x4), some (zI x5), some (zI (x6 + 1)), none]) ⟨rfl, rfl, rfl, rfl, rfl, rfl, trivial⟩ h
          · have h := h.2 c15
            refine s_aload_n A dX10_markChangesTo_115 rfl ?_
            refine s_getf (k := 10) (j := 12) (sl := true) (v := zR (some 134)) A dX10_markChangesTo_116 rfl zuw_X10 (Nat.le_of_ble_eq_true rfl) zwd350 (by decide) (zk_0 _) rfl ?_
            refine s_iload A dX10_markChangesTo_119 rfl ?_
            refine s_aload_n A dX10_markChangesTo_121 rfl ?_
            refine s_getf (k := 10) (j := 12) (sl := true) (v := zR (some 134)) A dX10_markChangesTo_122 rfl zuw_X10 (Nat.le_of_ble_eq_true rfl) zwd350 (by decide) (zk_0 _) rfl ?_
            refine s_iload A dX10_markChangesTo_125 rfl ?_
            obtain ⟨ox16, h⟩ := h
            refine z_iald A dX10_markChangesTo_127 (zk_134 _) (Nat.le_of_ble_eq_true rfl) ox16 ?_
            refine s_iconst A dX10_markChangesTo_128 ?_
            refine s_iadd A dX10_markChangesTo_129 ?_
            refine z_iast A dX10_markChangesTo_130 (zk_134 _) (Nat.le_of_ble_eq_true rfl) ox6 ?_
            refine s_aload_n A dX10_markChangesTo_131 rfl ?_
            refine s_getf (k := 10) (j := 13) (sl := true) (v := zR (some 135)) A dX10_markChangesTo_132 rfl zuw_X10 (Nat.le_of_ble_eq_true rfl) zwd351 (by decide) (zk_0 _) rfl ?_
            refine s_iload_n A dX10_markChangesTo_135 rfl ?_
            refine s_iload A dX10_markChangesTo_136 rfl ?_
            obtain ⟨ox17, h⟩ := h
            refine z_iast A dX10_markChangesTo_138 (zk_135 _) (Nat.le_of_ble_eq_true rfl) ox17 ?_
            refine s_iinc (L' := [some (zR (some 0)), none, some (zI x2), some (zI (x3 + 1)), some (zI x4), some (zI x5), some (zI x6), some (zI v3)]) A dX10_markChangesTo_139 rfl rfl ?_
            refine s_iinc (L' := [some (zR (some 0)), none, some (zI x2), some (zI (x3 + 1)), some (zI x4), some (zI x5), some (zI (x6 + 1)), some (zI v3)]) A dX10_markChangesTo_142 rfl rfl ?_
            refine s_goto (tgt := 53) A dX10_markChangesTo_145 (by decide) ?_
            exact z_wk (L' := [some (zR (some 0)), none, some (zI x2), some (zI (x3 + 1)), some (zI x4), some (zI x5), some (zI (x6 + 1)), none]) ⟨rfl, rfl, rfl, rfl, rfl, rfl, trivial⟩ h
theorem eX10_markChangesTo {G : zG} {F : zM → Prop} {μ : zM} {x1 : Int} {x2 : Int} (h : ∀ J, zJ G true (4) 0 0 mX10_markChangesTo (zKV F) J → J 0 ([some (zR (some 0)), some (zI x1), some (zI x2), none, none, none, none, none], [], μ, 0, 0)) : qX10_markChangesTo G x1 x2 μ F :=
  z_body (by decide +kernel) (Nat.le_of_ble_eq_true rfl) h
set_option maxRecDepth 20000 in
theorem rX10_firstOfTheWay_e {G : zG} {F : Int → zM → Prop} {J : Nat → zS → Prop} {μ : zM} (C : zJ G true (4) 0 0 mX10_firstOfTheWay (zKI F) J) (x1 : Int) (x2 : Int)
    (h : J 7 ([some (zR (some 0)), some (zI x1), some (zI x2), some (zI 6561), some (zI 0), none], [], μ, 0, 0)) : J 0 ([some (zR (some 0)), some (zI x1), some (zI x2), none, none, none], [], μ, 0, 0) := by
  obtain ⟨p, e, s, m, args, below, meth, c, A, hml, hr, hlk, hnm, rfl⟩ := C
  refine s_sipush A dX10_firstOfTheWay_0 rfl ?_
  refine s_istore_n (L' := [some (zR (some 0)), some (zI x1), some (zI x2), some (zI 6561), none, none]) A dX10_firstOfTheWay_3 (Nat.le_of_ble_eq_true rfl) rfl ?_
  refine s_iconst A dX10_firstOfTheWay_4 ?_
  refine s_istore (L' := [some (zR (some 0)), some (zI x1), some (zI x2), some (zI 6561), some (zI 0), none]) A dX10_firstOfTheWay_5 (Nat.le_of_ble_eq_true rfl) rfl ?_
  exact h
set_option maxRecDepth 20000 in
theorem rX10_firstOfTheWay_7 {G : zG} {F : Int → zM → Prop} {J : Nat → zS → Prop} {μ : zM} (C : zJ G true (4) 0 0 mX10_firstOfTheWay (zKI F) J) (x1 : Int) (x2 : Int) (x3 : Int) (x4 : Int)
    (h : zin x4 ∧ ((8 ≤ x4 → F x3 μ) ∧ (¬ (8 ≤ x4) → qX10_changed G true x1 x4 μ (fun v3 μ3 => zin v3 ∧ ((v3 < 0 → J 7 ([some (zR (some 0)), some (zI x1), some (zI x2), some (zI x3), some (zI (x4 + 1)), none], [], μ3, 0, 0)) ∧ (¬ (v3 < 0) → zin x3 ∧ ((x3 ≤ v3 → J 7 ([some (zR (some 0)), some (zI x1), some (zI x2), some (zI x3), some (zI (x4 + 1)), none], [], μ3, 0, 0)) ∧ (¬ (x3 ≤ v3) → (0 ≤ v3 ∧ v3 < 6561) ∧ (0 ≤ x1 ∧ x1 < 6561) ∧ zin (zi μ3 134 v3) ∧ zin ((zi μ3 134 x1) - 1) ∧ ((¬ zi μ3 134 v3 = (zi μ3 134 x1) - 1 → J 7 ([some (zR (some 0)), some (zI x1), some (zI x2), some (zI x3), some (zI (x4 + 1)), none], [], μ3, 0, 0)) ∧ (zi μ3 134 v3 = (zi μ3 134 x1) - 1 → qX0_distanceOf G 105 5 x1 v3 μ3 (fun v13 μ13 => zin v13 ∧ zin x2 ∧ ((x2 < v13 → J 7 ([some (zR (some 0)), some (zI x1), some (zI x2), some (zI x3), some (zI (x4 + 1)), none], [], μ13, 0, 0)) ∧ (¬ (x2 < v13) → J 7 ([some (zR (some 0)), some (zI x1), some (zI x2), some (zI v3), some (zI (x4 + 1)), none], [], μ13, 0, 0)))))))))))))) : J 7 ([some (zR (some 0)), some (zI x1), some (zI x2), some (zI x3), some (zI x4), none], [], μ, 0, 0) := by
  obtain ⟨p, e, s, m, args, below, meth, c, A, hml, hr, hlk, hnm, rfl⟩ := C
  refine s_iload A dX10_firstOfTheWay_7 rfl ?_
  refine s_bipush A dX10_firstOfTheWay_9 rfl ?_
  obtain ⟨oz1, h⟩ := h
  refine z_icmp_ge (tgt := 78) A dX10_firstOfTheWay_11 (by decide) oz1 ⟨by decide, by decide⟩ (fun c2 => ?_) (fun c2 => ?_)
  · have h := h.1 c2
    refine s_iload_n A dX10_firstOfTheWay_78 rfl ?_
    exact s_iret A dX10_firstOfTheWay_79 hr hlk (Nat.le_of_ble_eq_true rfl) (Nat.le_of_ble_eq_true rfl) ⟨_, rfl, h⟩
  · have h := h.2 c2
    refine s_iload_n A dX10_firstOfTheWay_14 rfl ?_
    refine s_iload A dX10_firstOfTheWay_15 rfl ?_
    refine s_callS (M := mX10_changed) (n := 2) (d := 2) (mc := 0) (ms := 0) (av := [zI x1, zI x4]) (st := []) A dX10_firstOfTheWay_17 zwd1015 zwd1016 zwd89 zcd_X10_changed (Nat.le_of_ble_eq_true rfl) (Nat.le_of_ble_eq_true rfl) (Nat.le_refl _) ⟨Nat.le_of_ble_eq_true rfl, Nat.le_of_ble_eq_true rfl⟩ zhn_X10_changed rfl (Nat.le_of_ble_eq_true rfl) rfl (z_contI (fun v3 μ3 h => ?_) h)
    refine s_istore (L' := [some (zR (some 0)), some (zI x1), some (zI x2), some (zI x3), some (zI x4), some (zI v3)]) A dX10_firstOfTheWay_20 (Nat.le_of_ble_eq_true rfl) rfl ?_
    refine s_iload A dX10_firstOfTheWay_22 rfl ?_
    obtain ⟨oz4, h⟩ := h
    refine z_if_lt (tgt := 72) A dX10_firstOfTheWay_24 (by decide) oz4 (fun c5 => ?_) (fun c5 => ?_)
    · have h := h.1 c5
      refine s_iinc (L' := [some (zR (some 0)), some (zI x1), some (zI x2), some (zI x3), some (zI (x4 + 1)), some (zI v3)]) A dX10_firstOfTheWay_72 rfl rfl ?_
      refine s_goto (tgt := 7) A dX10_firstOfTheWay_75 (by decide) ?_
      exact z_wk (L' := [some (zR (some 0)), some (zI x1), some (zI x2), some (zI x3), some (zI (x4 + 1)), none]) ⟨rfl, rfl, rfl, rfl, rfl, trivial⟩ h
    · have h := h.2 c5
      refine s_iload A dX10_firstOfTheWay_27 rfl ?_
      refine s_iload_n A dX10_firstOfTheWay_29 rfl ?_
      obtain ⟨oz6, h⟩ := h
      refine z_icmp_ge (tgt := 72) A dX10_firstOfTheWay_30 (by decide) oz4 oz6 (fun c7 => ?_) (fun c7 => ?_)
      · have h := h.1 c7
        refine s_iinc (L' := [some (zR (some 0)), some (zI x1), some (zI x2), some (zI x3), some (zI (x4 + 1)), some (zI v3)]) A dX10_firstOfTheWay_72 rfl rfl ?_
        refine s_goto (tgt := 7) A dX10_firstOfTheWay_75 (by decide) ?_
        exact z_wk (L' := [some (zR (some 0)), some (zI x1), some (zI x2), some (zI x3), some (zI (x4 + 1)), none]) ⟨rfl, rfl, rfl, rfl, rfl, trivial⟩ h
      · have h := h.2 c7
        refine s_aload_n A dX10_firstOfTheWay_33 rfl ?_
        refine s_getf (k := 10) (j := 12) (sl := true) (v := zR (some 134)) A dX10_firstOfTheWay_34 rfl zuw_X10 (Nat.le_of_ble_eq_true rfl) zwd350 (by decide) (zk_0 _) rfl ?_
        refine s_iload A dX10_firstOfTheWay_37 rfl ?_
        obtain ⟨ox8, h⟩ := h
        refine z_iald A dX10_firstOfTheWay_39 (zk_134 _) (Nat.le_of_ble_eq_true rfl) ox8 ?_
        refine s_aload_n A dX10_firstOfTheWay_40 rfl ?_
        refine s_getf (k := 10) (j := 12) (sl := true) (v := zR (some 134)) A dX10_firstOfTheWay_41 rfl zuw_X10 (Nat.le_of_ble_eq_true rfl) zwd350 (by decide) (zk_0 _) rfl ?_
        refine s_iload_n A dX10_firstOfTheWay_44 rfl ?_
        obtain ⟨ox9, h⟩ := h
        refine z_iald A dX10_firstOfTheWay_45 (zk_134 _) (Nat.le_of_ble_eq_true rfl) ox9 ?_
        refine s_iconst A dX10_firstOfTheWay_46 ?_
        refine s_isub A dX10_firstOfTheWay_47 ?_
        obtain ⟨oz10, h⟩ := h
        obtain ⟨oz11, h⟩ := h
        refine z_icmp_ne (tgt := 72) A dX10_firstOfTheWay_48 (by decide) oz10 oz11 (fun c12 => ?_) (fun c12 => ?_)
        · have h := h.1 c12
          refine s_iinc (L' := [some (zR (some 0)), some (zI x1), some (zI x2), some (zI x3), some (zI (x4 + 1)), some (zI v3)]) A dX10_firstOfTheWay_72 rfl rfl ?_
          refine s_goto (tgt := 7) A dX10_firstOfTheWay_75 (by decide) ?_
          exact z_wk (L' := [some (zR (some 0)), some (zI x1), some (zI x2), some (zI x3), some (zI (x4 + 1)), none]) ⟨rfl, rfl, rfl, rfl, rfl, trivial⟩ h
        · have h := h.2 c12
          refine s_aload_n A dX10_firstOfTheWay_51 rfl ?_
          refine s_getf (k := 10) (j := 6) (sl := true) (v := zR (some 105)) A dX10_firstOfTheWay_52 rfl zuw_X10 (Nat.le_of_ble_eq_true rfl) zwd344 (by decide) (zk_0 _) rfl ?_
          refine s_aload_n A dX10_firstOfTheWay_55 rfl ?_
          refine s_getf (k := 10) (j := 2) (sl := true) (v := zR (some 5)) A dX10_firstOfTheWay_56 rfl zuw_X10 (Nat.le_of_ble_eq_true rfl) zwd340 (by decide) (zk_0 _) rfl ?_
          refine s_iload_n A dX10_firstOfTheWay_59 rfl ?_
          refine s_iload A dX10_firstOfTheWay_60 rfl ?_
          refine s_callV (a := 105) (k := 0) (N := 5) (sl := true) (M := mX0_distanceOf) (n := 3) (d := 3) (mc := 0) (ms := 0) (av := [zR (some 5), zI x1, zI v3]) (st := []) A dX10_firstOfTheWay_62 rfl (by decide) (zk_105 _) zwd1018 zwd1019 zwd1020 zwd95 zcd_X0_distanceOf (Nat.le_of_ble_eq_true rfl) (Nat.le_of_ble_eq_true rfl) (Nat.le_refl _) ⟨Nat.le_of_ble_eq_true rfl, Nat.le_of_ble_eq_true rfl⟩ ⟨rfl, zhn_X0_distanceOf⟩ rfl (Nat.le_of_ble_eq_true rfl) rfl (z_contI (fun v13 μ13 h => ?_) h)
          refine s_iload_n A dX10_firstOfTheWay_65 rfl ?_
          obtain ⟨oz14, h⟩ := h
          obtain ⟨oz15, h⟩ := h
          refine z_icmp_gt (tgt := 72) A dX10_firstOfTheWay_66 (by decide) oz14 oz15 (fun c16 => ?_) (fun c16 => ?_)
          · have h := h.1 c16
            refine s_iinc (L' := [some (zR (some 0)), some (zI x1), some (zI x2), some (zI x3), some (zI (x4 + 1)), some (zI v3)]) A dX10_firstOfTheWay_72 rfl rfl ?_
            refine s_goto (tgt := 7) A dX10_firstOfTheWay_75 (by decide) ?_
            exact z_wk (L' := [some (zR (some 0)), some (zI x1), some (zI x2), some (zI x3), some (zI (x4 + 1)), none]) ⟨rfl, rfl, rfl, rfl, rfl, trivial⟩ h
          · have h := h.2 c16
            refine s_iload A dX10_firstOfTheWay_69 rfl ?_
            refine s_istore_n (L' := [some (zR (some 0)), some (zI x1), some (zI x2), some (zI v3), some (zI x4), some (zI v3)]) A dX10_firstOfTheWay_71 (Nat.le_of_ble_eq_true rfl) rfl ?_
            refine s_iinc (L' := [some (zR (some 0)), some (zI x1), some (zI x2), some (zI v3), some (zI (x4 + 1)), some (zI v3)]) A dX10_firstOfTheWay_72 rfl rfl ?_
            refine s_goto (tgt := 7) A dX10_firstOfTheWay_75 (by decide) ?_
            exact z_wk (L' := [some (zR (some 0)), some (zI x1), some (zI x2), some (zI v3), some (zI (x4 + 1)), none]) ⟨rfl, rfl, rfl, rfl, rfl, trivial⟩ h
theorem eX10_firstOfTheWay {G : zG} {F : Int → zM → Prop} {μ : zM} {x1 : Int} {x2 : Int} (h : ∀ J, zJ G true (4) 0 0 mX10_firstOfTheWay (zKI F) J → J 0 ([some (zR (some 0)), some (zI x1), some (zI x2), none, none, none], [], μ, 0, 0)) : qX10_firstOfTheWay G x1 x2 μ F :=
  z_body (by decide +kernel) (Nat.le_of_ble_eq_true rfl) h
