set_option maxRecDepth 20000 in
theorem rX11_goes_e {G : zG} {dd : Nat} {F : zM → Prop} {J : Nat → zS → Prop} {μ : zM} (C : zJ G true (10 + dd) 0 0 mX11_goes (zKV F) J) (x1 : Int) (x2 : Int) (x3 : Int)
    (h : J 13 ([some (zR (some 153)), some (zI x1), none, some (zI x3), some (zI (360 + (40 * x1))), some (zI x2), none, none, none, none, none], [], μ, 0, 0)) : J 0 ([some (zR (some 153)), some (zI x1), some (zI x2), some (zI x3), none, none, none, none, none, none, none], [], μ, 0, 0) := by
  obtain ⟨p, e, s, m, args, below, meth, c, A, hml, hr, hlk, hnm, rfl⟩ := C
  refine s_sipush A dX11_goes_0 rfl ?_
  refine s_bipush A dX11_goes_3 rfl ?_
  refine s_iload_n A dX11_goes_5 rfl ?_
  refine s_imul A dX11_goes_6 ?_
  refine s_iadd A dX11_goes_7 ?_
  refine s_istore (L' := [some (zR (some 153)), some (zI x1), some (zI x2), some (zI x3), some (zI (360 + (40 * x1))), none, none, none, none, none, none]) A dX11_goes_8 (Nat.le_of_ble_eq_true rfl) rfl ?_
  refine s_iload_n A dX11_goes_10 rfl ?_
  refine s_istore (L' := [some (zR (some 153)), some (zI x1), some (zI x2), some (zI x3), some (zI (360 + (40 * x1))), some (zI x2), none, none, none, none, none]) A dX11_goes_11 (Nat.le_of_ble_eq_true rfl) rfl ?_
  exact z_wk (L' := [some (zR (some 153)), some (zI x1), none, some (zI x3), some (zI (360 + (40 * x1))), some (zI x2), none, none, none, none, none]) ⟨rfl, rfl, rfl, rfl, rfl, trivial⟩ h
set_option maxRecDepth 20000 in
theorem rX11_goes_13 {G : zG} {dd : Nat} {F : zM → Prop} {J : Nat → zS → Prop} {μ : zM} (C : zJ G true (10 + dd) 0 0 mX11_goes (zKV F) J) (x1 : Int) (x3 : Int) (x4 : Int) (x5 : Int)
    (h : zin x5 ∧ zin x3 ∧ ((x3 ≤ x5 → F μ) ∧ (¬ (x3 ≤ x5) → (0 ≤ x4 + x5 ∧ x4 + x5 < 711) ∧ qX11_isAround G true (zi μ 154 (x4 + x5)) μ (fun v5 μ5 => zin v5 ∧ ((v5 = 0 → ∃ d8, d8 < dd ∧ qX11_does G d8 (zi μ 154 (x4 + x5)) x1 (x4 + x5) μ5 (fun μ8 => zin (zi μ 154 (x4 + x5)) ∧ ((zi μ 154 (x4 + x5) = 103 → J 13 ([some (zR (some 153)), some (zI x1), none, some (zI x3), some (zI x4), some (zI (x5 + 2)), none, none, none, none, none], [], μ8, 0, 0)) ∧ (¬ (zi μ 154 (x4 + x5) = 103) → ((zi μ 154 (x4 + x5) = 117 → J 13 ([some (zR (some 153)), some (zI x1), none, some (zI x3), some (zI x4), some (zI (x5 + 2)), none, none, none, none, none], [], μ8, 0, 0)) ∧ (¬ (zi μ 154 (x4 + x5) = 117) → ((¬ zi μ 154 (x4 + x5) = 104 → ((zi μ 154 (x4 + x5) = 97 → J 13 ([some (zR (some 153)), some (zI x1), none, some (zI x3), some (zI x4), some (zI (x5 + 3)), none, none, none, none, none], [], μ8, 0, 0)) ∧ (¬ (zi μ 154 (x4 + x5) = 97) → ((zi μ 154 (x4 + x5) = 115 → J 13 ([some (zR (some 153)), some (zI x1), none, some (zI x3), some (zI x4), some (zI (x5 + 3)), none, none, none, none, none], [], μ8, 0, 0)) ∧ (¬ (zi μ 154 (x4 + x5) = 115) → ((zi μ 154 (x4 + x5) = 119 → J 13 ([some (zR (some 153)), some (zI x1), none, some (zI x3), some (zI x4), some (zI (x5 + 3)), none, none, none, none, none], [], μ8, 0, 0)) ∧ (¬ (zi μ 154 (x4 + x5) = 119) → ((¬ zi μ 154 (x4 + x5) = 120 → J 13 ([some (zR (some 153)), some (zI x1), none, some (zI x3), some (zI x4), some (zI (x5 + 1)), none, none, none, none, none], [], μ8, 0, 0)) ∧ (zi μ 154 (x4 + x5) = 120 → J 13 ([some (zR (some 153)), some (zI x1), none, some (zI x3), some (zI x4), some (zI (x5 + 3)), none, none, none, none, none], [], μ8, 0, 0)))))))))) ∧ (zi μ 154 (x4 + x5) = 104 → J 13 ([some (zR (some 153)), some (zI x1), none, some (zI x3), some (zI x4), some (zI (x5 + 2)), none, none, none, none, none], [], μ8, 0, 0))))))))) ∧ (¬ (v5 = 0) → J 43 ([some (zR (some 153)), some (zI x1), none, some (zI x3), some (zI x4), some (zI x5), some (zI (zi μ 154 (x4 + x5))), some (zI x5), none, none, none], [], μ5, 0, 0))))))) : J 13 ([some (zR (some 153)), some (zI x1), none, some (zI x3), some (zI x4), some (zI x5), none, none, none, none, none], [], μ, 0, 0) := by
  obtain ⟨p, e, s, m, args, below, meth, c, A, hml, hr, hlk, hnm, rfl⟩ := C
  refine s_iload A dX11_goes_13 rfl ?_
  refine s_iload_n A dX11_goes_15 rfl ?_
  obtain ⟨oz1, h⟩ := h
  obtain ⟨oz2, h⟩ := h
  refine z_icmp_ge (tgt := 206) A dX11_goes_16 (by decide) oz1 oz2 (fun c3 => ?_) (fun c3 => ?_)
  · have h := h.1 c3
    exact s_vret A dX11_goes_206 hr hlk (Nat.le_of_ble_eq_true rfl) (Nat.le_of_ble_eq_true rfl) ⟨rfl, h⟩
  · have h := h.2 c3
    refine s_aload_n A dX11_goes_19 rfl ?_
    refine s_getf (k := 11) (j := 0) (sl := true) (v := zR (some 154)) A dX11_goes_20 rfl zuw_X11 (Nat.le_of_ble_eq_true rfl) zwd1308 (by decide) (zk_153 _) rfl ?_
    refine s_iload A dX11_goes_23 rfl ?_
    refine s_iload A dX11_goes_25 rfl ?_
    refine s_iadd A dX11_goes_27 ?_
    obtain ⟨ox4, h⟩ := h
    refine z_iald A dX11_goes_28 (zk_154 _) (Nat.le_of_ble_eq_true rfl) ox4 ?_
    refine s_istore (L' := [some (zR (some 153)), some (zI x1), none, some (zI x3), some (zI x4), some (zI x5), some (zI (zi μ 154 (x4 + x5))), none, none, none, none]) A dX11_goes_29 (Nat.le_of_ble_eq_true rfl) rfl ?_
    refine s_iload A dX11_goes_31 rfl ?_
    refine s_callS (M := mX11_isAround) (n := 1) (d := 0) (mc := 0) (ms := 0) (av := [zI (zi μ 154 (x4 + x5))]) (st := []) A dX11_goes_33 zwd1536 zwd1537 zwd100 zcd_X11_isAround (by show 0 + 1 ≤ 10 + dd; omega) (Nat.le_of_ble_eq_true rfl) (Nat.le_refl _) ⟨Nat.le_of_ble_eq_true rfl, Nat.le_of_ble_eq_true rfl⟩ zhn_X11_isAround rfl (Nat.le_of_ble_eq_true rfl) rfl (z_contI (fun v5 μ5 h => ?_) h)
    obtain ⟨oz6, h⟩ := h
    refine z_if_eq (tgt := 128) A dX11_goes_36 (by decide) oz6 (fun c7 => ?_) (fun c7 => ?_)
    · have h := h.1 c7
      refine s_aload_n A dX11_goes_128 rfl ?_
      refine s_iload A dX11_goes_129 rfl ?_
      refine s_iload_n A dX11_goes_131 rfl ?_
      refine s_iload A dX11_goes_132 rfl ?_
      refine s_iload A dX11_goes_134 rfl ?_
      refine s_iadd A dX11_goes_136 ?_
      obtain ⟨d8, hd8, h⟩ := h
      refine s_callV (a := 153) (k := 11) (N := 45) (sl := true) (M := mX11_does) (n := 3) (d := 10 + d8) (mc := 0) (ms := 0) (av := [zI (zi μ 154 (x4 + x5)), zI x1, zI (x4 + x5)]) (st := []) A dX11_goes_137 rfl (by decide) (zk_153 _) zwd1705 zwd1707 zwd67 zwd100 zcd_X11_does (by show 10 + d8 + 1 ≤ 10 + dd; omega) (Nat.le_of_ble_eq_true rfl) (Nat.le_refl _) ⟨Nat.le_of_ble_eq_true rfl, Nat.le_of_ble_eq_true rfl⟩ ⟨rfl, zhn_X11_does⟩ rfl (Nat.le_of_ble_eq_true rfl) rfl (z_contV (fun μ8 h => ?_) h)
      refine s_iload A dX11_goes_140 rfl ?_
      refine s_iload A dX11_goes_142 rfl ?_
      refine s_bipush A dX11_goes_144 rfl ?_
      obtain ⟨oz9, h⟩ := h
      refine z_icmp_eq (tgt := 163) A dX11_goes_146 (by decide) oz9 ⟨by decide, by decide⟩ (fun c10 => ?_) (fun c10 => ?_)
      · have h := h.1 c10
        refine s_iconst A dX11_goes_163 ?_
        refine s_goto (tgt := 200) A dX11_goes_164 (by decide) ?_
        refine s_iadd A dX11_goes_200 ?_
        refine s_istore (L' := [some (zR (some 153)), some (zI x1), none, some (zI x3), some (zI x4), some (zI (x5 + 2)), some (zI (zi μ 154 (x4 + x5))), none, none, none, none]) A dX11_goes_201 (Nat.le_of_ble_eq_true rfl) rfl ?_
        refine s_goto (tgt := 13) A dX11_goes_203 (by decide) ?_
        exact z_wk (L' := [some (zR (some 153)), some (zI x1), none, some (zI x3), some (zI x4), some (zI (x5 + 2)), none, none, none, none, none]) ⟨rfl, rfl, rfl, rfl, rfl, trivial⟩ h
      · have h := h.2 c10
        refine s_iload A dX11_goes_149 rfl ?_
        refine s_bipush A dX11_goes_151 rfl ?_
        refine z_icmp_eq (tgt := 163) A dX11_goes_153 (by decide) oz9 ⟨by decide, by decide⟩ (fun c11 => ?_) (fun c11 => ?_)
        · have h := h.1 c11
          refine s_iconst A dX11_goes_163 ?_
          refine s_goto (tgt := 200) A dX11_goes_164 (by decide) ?_
          refine s_iadd A dX11_goes_200 ?_
          refine s_istore (L' := [some (zR (some 153)), some (zI x1), none, some (zI x3), some (zI x4), some (zI (x5 + 2)), some (zI (zi μ 154 (x4 + x5))), none, none, none, none]) A dX11_goes_201 (Nat.le_of_ble_eq_true rfl) rfl ?_
          refine s_goto (tgt := 13) A dX11_goes_203 (by decide) ?_
          exact z_wk (L' := [some (zR (some 153)), some (zI x1), none, some (zI x3), some (zI x4), some (zI (x5 + 2)), none, none, none, none, none]) ⟨rfl, rfl, rfl, rfl, rfl, trivial⟩ h
        · have h := h.2 c11
          refine s_iload A dX11_goes_156 rfl ?_
          refine s_bipush A dX11_goes_158 rfl ?_
          refine z_icmp_ne (tgt := 167) A dX11_goes_160 (by decide) oz9 ⟨by decide, by decide⟩ (fun c12 => ?_) (fun c12 => ?_)
          · have h := h.1 c12
            refine s_iload A dX11_goes_167 rfl ?_
            refine s_bipush A dX11_goes_169 rfl ?_
            refine z_icmp_eq (tgt := 195) A dX11_goes_171 (by decide) oz9 ⟨by decide, by decide⟩ (fun c13 => ?_) (fun c13 => ?_)
            · have h := h.1 c13
              refine s_iconst A dX11_goes_195 ?_
              refine s_goto (tgt := 200) A dX11_goes_196 (by decide) ?_
              refine s_iadd A dX11_goes_200 ?_
              refine s_istore (L' := [some (zR (some 153)), some (zI x1), none, some (zI x3), some (zI x4), some (zI (x5 + 3)), some (zI (zi μ 154 (x4 + x5))), none, none, none, none]) A dX11_goes_201 (Nat.le_of_ble_eq_true rfl) rfl ?_
              refine s_goto (tgt := 13) A dX11_goes_203 (by decide) ?_
              exact z_wk (L' := [some (zR (some 153)), some (zI x1), none, some (zI x3), some (zI x4), some (zI (x5 + 3)), none, none, none, none, none]) ⟨rfl, rfl, rfl, rfl, rfl, trivial⟩ h
            · have h := h.2 c13
              refine s_iload A dX11_goes_174 rfl ?_
              refine s_bipush A dX11_goes_176 rfl ?_
              refine z_icmp_eq (tgt := 195) A dX11_goes_178 (by decide) oz9 ⟨by decide, by decide⟩ (fun c14 => ?_) (fun c14 => ?_)
              · have h := h.1 c14
                refine s_iconst A dX11_goes_195 ?_
                refine s_goto (tgt := 200) A dX11_goes_196 (by decide) ?_
                refine s_iadd A dX11_goes_200 ?_
                refine s_istore (L' := [some (zR (some 153)), some (zI x1), none, some (zI x3), some (zI x4), some (zI (x5 + 3)), some (zI (zi μ 154 (x4 + x5))), none, none, none, none]) A dX11_goes_201 (Nat.le_of_ble_eq_true rfl) rfl ?_
                refine s_goto (tgt := 13) A dX11_goes_203 (by decide) ?_
                exact z_wk (L' := [some (zR (some 153)), some (zI x1), none, some (zI x3), some (zI x4), some (zI (x5 + 3)), none, none, none, none, none]) ⟨rfl, rfl, rfl, rfl, rfl, trivial⟩ h
              · have h := h.2 c14
                refine s_iload A dX11_goes_181 rfl ?_
                refine s_bipush A dX11_goes_183 rfl ?_
                refine z_icmp_eq (tgt := 195) A dX11_goes_185 (by decide) oz9 ⟨by decide, by decide⟩ (fun c15 => ?_) (fun c15 => ?_)
                · have h := h.1 c15
                  refine s_iconst A dX11_goes_195 ?_
                  refine s_goto (tgt := 200) A dX11_goes_196 (by decide) ?_
                  refine s_iadd A dX11_goes_200 ?_
                  refine s_istore (L' := [some (zR (some 153)), some (zI x1), none, some (zI x3), some (zI x4), some (zI (x5 + 3)), some (zI (zi μ 154 (x4 + x5))), none, none, none, none]) A dX11_goes_201 (Nat.le_of_ble_eq_true rfl) rfl ?_
                  refine s_goto (tgt := 13) A dX11_goes_203 (by decide) ?_
                  exact z_wk (L' := [some (zR (some 153)), some (zI x1), none, some (zI x3), some (zI x4), some (zI (x5 + 3)), none, none, none, none, none]) ⟨rfl, rfl, rfl, rfl, rfl, trivial⟩ h
                · have h := h.2 c15
                  refine s_iload A dX11_goes_188 rfl ?_
                  refine s_bipush A dX11_goes_190 rfl ?_
                  refine z_icmp_ne (tgt := 199) A dX11_goes_192 (by decide) oz9 ⟨by decide, by decide⟩ (fun c16 => ?_) (fun c16 => ?_)
                  · have h := h.1 c16
                    refine s_iconst A dX11_goes_199 ?_
                    refine s_iadd A dX11_goes_200 ?_
                    refine s_istore (L' := [some (zR (some 153)), some (zI x1), none, some (zI x3), some (zI x4), some (zI (x5 + 1)), some (zI (zi μ 154 (x4 + x5))), none, none, none, none]) A dX11_goes_201 (Nat.le_of_ble_eq_true rfl) rfl ?_
                    refine s_goto (tgt := 13) A dX11_goes_203 (by decide) ?_
                    exact z_wk (L' := [some (zR (some 153)), some (zI x1), none, some (zI x3), some (zI x4), some (zI (x5 + 1)), none, none, none, none, none]) ⟨rfl, rfl, rfl, rfl, rfl, trivial⟩ h
                  · have h := h.2 c16
                    refine s_iconst A dX11_goes_195 ?_
                    refine s_goto (tgt := 200) A dX11_goes_196 (by decide) ?_
                    refine s_iadd A dX11_goes_200 ?_
                    refine s_istore (L' := [some (zR (some 153)), some (zI x1), none, some (zI x3), some (zI x4), some (zI (x5 + 3)), some (zI (zi μ 154 (x4 + x5))), none, none, none, none]) A dX11_goes_201 (Nat.le_of_ble_eq_true rfl) rfl ?_
                    refine s_goto (tgt := 13) A dX11_goes_203 (by decide) ?_
                    exact z_wk (L' := [some (zR (some 153)), some (zI x1), none, some (zI x3), some (zI x4), some (zI (x5 + 3)), none, none, none, none, none]) ⟨rfl, rfl, rfl, rfl, rfl, trivial⟩ h
          · have h := h.2 c12
            refine s_iconst A dX11_goes_163 ?_
            refine s_goto (tgt := 200) A dX11_goes_164 (by decide) ?_
            refine s_iadd A dX11_goes_200 ?_
            refine s_istore (L' := [some (zR (some 153)), some (zI x1), none, some (zI x3), some (zI x4), some (zI (x5 + 2)), some (zI (zi μ 154 (x4 + x5))), none, none, none, none]) A dX11_goes_201 (Nat.le_of_ble_eq_true rfl) rfl ?_
            refine s_goto (tgt := 13) A dX11_goes_203 (by decide) ?_
            exact z_wk (L' := [some (zR (some 153)), some (zI x1), none, some (zI x3), some (zI x4), some (zI (x5 + 2)), none, none, none, none, none]) ⟨rfl, rfl, rfl, rfl, rfl, trivial⟩ h
    · have h := h.2 c7
      refine s_iload A dX11_goes_39 rfl ?_
      refine s_istore (L' := [some (zR (some 153)), some (zI x1), none, some (zI x3), some (zI x4), some (zI x5), some (zI (zi μ 154 (x4 + x5))), some (zI x5), none, none, none]) A dX11_goes_41 (Nat.le_of_ble_eq_true rfl) rfl ?_
      exact h
set_option maxRecDepth 20000 in
theorem rX11_goes_43 {G : zG} {dd : Nat} {F : zM → Prop} {J : Nat → zS → Prop} {μ : zM} (C : zJ G true (10 + dd) 0 0 mX11_goes (zKV F) J) (x1 : Int) (x3 : Int) (x4 : Int) (x5 : Int) (x6 : Int) (x7 : Int)
    (h : (0 ≤ x4 + x7 ∧ x4 + x7 < 711) ∧ zin (zi μ 154 (x4 + x7)) ∧ ((zi μ 154 (x4 + x7) = 40 → qX11_closing G 154 x4 (x7 + 1) μ (fun v4 μ4 => qX11_timesOf G x6 (x4 + x5) μ4 (fun v5 μ5 => J 95 ([some (zR (some 153)), some (zI x1), none, some (zI x3), some (zI x4), none, none, some (zI x7), some (zI v4), some (zI v5), some (zI 0)], [], μ5, 0, 0)))) ∧ (¬ (zi μ 154 (x4 + x7) = 40) → J 43 ([some (zR (some 153)), some (zI x1), none, some (zI x3), some (zI x4), some (zI x5), some (zI x6), some (zI (x7 + 1)), none, none, none], [], μ, 0, 0)))) : J 43 ([some (zR (some 153)), some (zI x1), none, some (zI x3), some (zI x4), some (zI x5), some (zI x6), some (zI x7), none, none, none], [], μ, 0, 0) := by
  obtain ⟨p, e, s, m, args, below, meth, c, A, hml, hr, hlk, hnm, rfl⟩ := C
  refine s_aload_n A dX11_goes_43 rfl ?_
  refine s_getf (k := 11) (j := 0) (sl := true) (v := zR (some 154)) A dX11_goes_44 rfl zuw_X11 (Nat.le_of_ble_eq_true rfl) zwd1308 (by decide) (zk_153 _) rfl ?_
  refine s_iload A dX11_goes_47 rfl ?_
  refine s_iload A dX11_goes_49 rfl ?_
  refine s_iadd A dX11_goes_51 ?_
  obtain ⟨ox1, h⟩ := h
  refine z_iald A dX11_goes_52 (zk_154 _) (Nat.le_of_ble_eq_true rfl) ox1 ?_
  refine s_bipush A dX11_goes_53 rfl ?_
  obtain ⟨oz2, h⟩ := h
  refine z_icmp_eq (tgt := 64) A dX11_goes_55 (by decide) oz2 ⟨by decide, by decide⟩ (fun c3 => ?_) (fun c3 => ?_)
  · have h := h.1 c3
    refine s_aload_n A dX11_goes_64 rfl ?_
    refine s_getf (k := 11) (j := 0) (sl := true) (v := zR (some 154)) A dX11_goes_65 rfl zuw_X11 (Nat.le_of_ble_eq_true rfl) zwd1308 (by decide) (zk_153 _) rfl ?_
    refine s_iload A dX11_goes_68 rfl ?_
    refine s_iload A dX11_goes_70 rfl ?_
    refine s_iconst A dX11_goes_72 ?_
    refine s_iadd A dX11_goes_73 ?_
    refine s_callS (M := mX11_closing) (n := 3) (d := 0) (mc := 0) (ms := 0) (av := [zR (some 154), zI x4, zI (x7 + 1)]) (st := []) A dX11_goes_74 zwd1698 zwd1699 zwd100 zcd_X11_closing (by show 0 + 1 ≤ 10 + dd; omega) (Nat.le_of_ble_eq_true rfl) (Nat.le_refl _) ⟨Nat.le_of_ble_eq_true rfl, Nat.le_of_ble_eq_true rfl⟩ zhn_X11_closing rfl (Nat.le_of_ble_eq_true rfl) rfl (z_contI (fun v4 μ4 h => ?_) h)
    refine s_istore (L' := [some (zR (some 153)), some (zI x1), none, some (zI x3), some (zI x4), some (zI x5), some (zI x6), some (zI x7), some (zI v4), none, none]) A dX11_goes_77 (Nat.le_of_ble_eq_true rfl) rfl ?_
    refine s_aload_n A dX11_goes_79 rfl ?_
    refine s_iload A dX11_goes_80 rfl ?_
    refine s_iload A dX11_goes_82 rfl ?_
    refine s_iload A dX11_goes_84 rfl ?_
    refine s_iadd A dX11_goes_86 ?_
    refine s_callV (a := 153) (k := 11) (N := 45) (sl := true) (M := mX11_timesOf) (n := 2) (d := 2) (mc := 0) (ms := 0) (av := [zI x6, zI (x4 + x5)]) (st := []) A dX11_goes_87 rfl (by decide) (zk_153 _) zwd1701 zwd1703 zwd66 zwd100 zcd_X11_timesOf (by show 2 + 1 ≤ 10 + dd; omega) (Nat.le_of_ble_eq_true rfl) (Nat.le_refl _) ⟨Nat.le_of_ble_eq_true rfl, Nat.le_of_ble_eq_true rfl⟩ ⟨rfl, zhn_X11_timesOf⟩ rfl (Nat.le_of_ble_eq_true rfl) rfl (z_contI (fun v5 μ5 h => ?_) h)
    refine s_istore (L' := [some (zR (some 153)), some (zI x1), none, some (zI x3), some (zI x4), some (zI x5), some (zI x6), some (zI x7), some (zI v4), some (zI v5), none]) A dX11_goes_90 (Nat.le_of_ble_eq_true rfl) rfl ?_
    refine s_iconst A dX11_goes_92 ?_
    refine s_istore (L' := [some (zR (some 153)), some (zI x1), none, some (zI x3), some (zI x4), some (zI x5), some (zI x6), some (zI x7), some (zI v4), some (zI v5), some (zI 0)]) A dX11_goes_93 (Nat.le_of_ble_eq_true rfl) rfl ?_
    exact z_wk (L' := [some (zR (some 153)), some (zI x1), none, some (zI x3), some (zI x4), none, none, some (zI x7), some (zI v4), some (zI v5), some (zI 0)]) ⟨rfl, rfl, rfl, rfl, rfl, rfl, rfl, rfl, trivial⟩ h
  · have h := h.2 c3
    refine s_iinc (L' := [some (zR (some 153)), some (zI x1), none, some (zI x3), some (zI x4), some (zI x5), some (zI x6), some (zI (x7 + 1)), none, none, none]) A dX11_goes_58 rfl rfl ?_
    refine s_goto (tgt := 43) A dX11_goes_61 (by decide) ?_
    exact h
set_option maxRecDepth 20000 in
theorem rX11_goes_95 {G : zG} {dd : Nat} {F : zM → Prop} {J : Nat → zS → Prop} {μ : zM} (C : zJ G true (10 + dd) 0 0 mX11_goes (zKV F) J) (x1 : Int) (x3 : Int) (x4 : Int) (x7 : Int) (x8 : Int) (x9 : Int) (x10 : Int)
    (h : zin x10 ∧ zin x9 ∧ ((x9 ≤ x10 → J 13 ([some (zR (some 153)), some (zI x1), none, some (zI x3), some (zI x4), some (zI (x8 + 1)), none, none, none, none, none], [], μ, 0, 0)) ∧ (¬ (x9 ≤ x10) → ∃ d4, d4 < dd ∧ qX11_goes G d4 x1 (x7 + 1) x8 μ (fun μ4 => J 95 ([some (zR (some 153)), some (zI x1), none, some (zI x3), some (zI x4), none, none, some (zI x7), some (zI x8), some (zI x9), some (zI (x10 + 1))], [], μ4, 0, 0))))) : J 95 ([some (zR (some 153)), some (zI x1), none, some (zI x3), some (zI x4), none, none, some (zI x7), some (zI x8), some (zI x9), some (zI x10)], [], μ, 0, 0) := by
  obtain ⟨p, e, s, m, args, below, meth, c, A, hml, hr, hlk, hnm, rfl⟩ := C
  refine s_iload A dX11_goes_95 rfl ?_
  refine s_iload A dX11_goes_97 rfl ?_
  obtain ⟨oz1, h⟩ := h
  obtain ⟨oz2, h⟩ := h
  refine z_icmp_ge (tgt := 119) A dX11_goes_99 (by decide) oz1 oz2 (fun c3 => ?_) (fun c3 => ?_)
  · have h := h.1 c3
    refine s_iload A dX11_goes_119 rfl ?_
    refine s_iconst A dX11_goes_121 ?_
    refine s_iadd A dX11_goes_122 ?_
    refine s_istore (L' := [some (zR (some 153)), some (zI x1), none, some (zI x3), some (zI x4), some (zI (x8 + 1)), none, some (zI x7), some (zI x8), some (zI x9), some (zI x10)]) A dX11_goes_123 (Nat.le_of_ble_eq_true rfl) rfl ?_
    refine s_goto (tgt := 13) A dX11_goes_125 (by decide) ?_
    exact z_wk (L' := [some (zR (some 153)), some (zI x1), none, some (zI x3), some (zI x4), some (zI (x8 + 1)), none, none, none, none, none]) ⟨rfl, rfl, rfl, rfl, rfl, trivial⟩ h
  · have h := h.2 c3
    refine s_aload_n A dX11_goes_102 rfl ?_
    refine s_iload_n A dX11_goes_103 rfl ?_
    refine s_iload A dX11_goes_104 rfl ?_
    refine s_iconst A dX11_goes_106 ?_
    refine s_iadd A dX11_goes_107 ?_
    refine s_iload A dX11_goes_108 rfl ?_
    obtain ⟨d4, hd4, h⟩ := h
    refine s_callV (a := 153) (k := 11) (N := 45) (sl := true) (M := mX11_goes) (n := 3) (d := 10 + d4) (mc := 0) (ms := 0) (av := [zI x1, zI (x7 + 1), zI x8]) (st := []) A dX11_goes_110 rfl (by decide) (zk_153 _) zwd1694 zwd1696 zwd65 zwd100 zcd_X11_goes (by show 10 + d4 + 1 ≤ 10 + dd; omega) (Nat.le_of_ble_eq_true rfl) (Nat.le_refl _) ⟨Nat.le_of_ble_eq_true rfl, Nat.le_of_ble_eq_true rfl⟩ ⟨rfl, zhn_X11_goes⟩ rfl (Nat.le_of_ble_eq_true rfl) rfl (z_contV (fun μ4 h => ?_) h)
    refine s_iinc (L' := [some (zR (some 153)), some (zI x1), none, some (zI x3), some (zI x4), none, none, some (zI x7), some (zI x8), some (zI x9), some (zI (x10 + 1))]) A dX11_goes_113 rfl rfl ?_
    refine s_goto (tgt := 95) A dX11_goes_116 (by decide) ?_
    exact h
theorem eX11_goes {G : zG} {dd : Nat} {F : zM → Prop} {μ : zM} {x1 : Int} {x2 : Int} {x3 : Int} (h : ∀ J, zJ G true (10 + dd) 0 0 mX11_goes (zKV F) J → J 0 ([some (zR (some 153)), some (zI x1), some (zI x2), some (zI x3), none, none, none, none, none, none, none], [], μ, 0, 0)) : qX11_goes G dd x1 x2 x3 μ F :=
  z_body (by decide +kernel) (Nat.le_of_ble_eq_true rfl) h
set_option maxRecDepth 20000 in
theorem rX11_linked_e {G : zG} {F : Int → zM → Prop} {J : Nat → zS → Prop} {μ : zM} (C : zJ G true (111) 0 0 mX11_linked (zKI F) J) (x1 : Int)
    (h : qX11_take G x1 μ (fun μ1 => zin (zi μ1 154 612) ∧ ((zi μ1 154 612 ≤ 0 → qX11_codeNow G μ1 (fun v4 μ4 => F v4 μ4)) ∧ (¬ (zi μ1 154 612 ≤ 0) → (0 ≤ (600 + (zi μ1 154 612)) - 1 ∧ (600 + (zi μ1 154 612)) - 1 < 711) ∧ qX11_goes G 100 ((zi μ1 154 612) - 1) 0 (zi μ1 154 ((600 + (zi μ1 154 612)) - 1)) μ1 (fun μ6 => qX11_codeNow G μ6 (fun v7 μ7 => F v7 μ7)))))) : J 0 ([some (zR (some 153)), some (zI x1)], [], μ, 0, 0) := by
  obtain ⟨p, e, s, m, args, below, meth, c, A, hml, hr, hlk, hnm, rfl⟩ := C
  refine s_aload_n A dX11_linked_0 rfl ?_
  refine s_iload_n A dX11_linked_1 rfl ?_
  refine s_callV (a := 153) (k := 11) (N := 45) (sl := true) (M := mX11_take) (n := 1) (d := 2) (mc := 0) (ms := 0) (av := [zI x1]) (st := []) A dX11_linked_2 rfl (by decide) (zk_153 _) zwd1624 zwd1626 zwd52 zwd100 zcd_X11_take (Nat.le_of_ble_eq_true rfl) (Nat.le_of_ble_eq_true rfl) (Nat.le_refl _) ⟨Nat.le_of_ble_eq_true rfl, Nat.le_of_ble_eq_true rfl⟩ ⟨rfl, zhn_X11_take⟩ rfl (Nat.le_of_ble_eq_true rfl) rfl (z_contV (fun μ1 h => ?_) h)
  refine s_aload_n A dX11_linked_5 rfl ?_
  refine s_getf (k := 11) (j := 0) (sl := true) (v := zR (some 154)) A dX11_linked_6 rfl zuw_X11 (Nat.le_of_ble_eq_true rfl) zwd1308 (by decide) (zk_153 _) rfl ?_
  refine s_sipush A dX11_linked_9 rfl ?_
  refine z_iald A dX11_linked_12 (zk_154 _) (Nat.le_of_ble_eq_true rfl) ⟨by decide, by decide⟩ ?_
  obtain ⟨oz2, h⟩ := h
  refine z_if_le (tgt := 50) A dX11_linked_13 (by decide) oz2 (fun c3 => ?_) (fun c3 => ?_)
  · have h := h.1 c3
    refine s_aload_n A dX11_linked_50 rfl ?_
    refine s_callV (a := 153) (k := 11) (N := 45) (sl := true) (M := mX11_codeNow) (n := 0) (d := 0) (mc := 0) (ms := 0) (av := []) (st := []) A dX11_linked_51 rfl (by decide) (zk_153 _) zwd1632 zwd1634 zwd54 zwd100 zcd_X11_codeNow (Nat.le_of_ble_eq_true rfl) (Nat.le_of_ble_eq_true rfl) (Nat.le_refl _) ⟨Nat.le_of_ble_eq_true rfl, Nat.le_of_ble_eq_true rfl⟩ ⟨rfl, zhn_X11_codeNow⟩ rfl (Nat.le_of_ble_eq_true rfl) rfl (z_contI (fun v4 μ4 h => ?_) h)
    exact s_iret A dX11_linked_54 hr hlk (Nat.le_of_ble_eq_true rfl) (Nat.le_of_ble_eq_true rfl) ⟨_, rfl, h⟩
  · have h := h.2 c3
    refine s_aload_n A dX11_linked_16 rfl ?_
    refine s_aload_n A dX11_linked_17 rfl ?_
    refine s_getf (k := 11) (j := 0) (sl := true) (v := zR (some 154)) A dX11_linked_18 rfl zuw_X11 (Nat.le_of_ble_eq_true rfl) zwd1308 (by decide) (zk_153 _) rfl ?_
    refine s_sipush A dX11_linked_21 rfl ?_
    refine z_iald A dX11_linked_24 (zk_154 _) (Nat.le_of_ble_eq_true rfl) ⟨by decide, by decide⟩ ?_
    refine s_iconst A dX11_linked_25 ?_
    refine s_isub A dX11_linked_26 ?_
    refine s_iconst A dX11_linked_27 ?_
    refine s_aload_n A dX11_linked_28 rfl ?_
    refine s_getf (k := 11) (j := 0) (sl := true) (v := zR (some 154)) A dX11_linked_29 rfl zuw_X11 (Nat.le_of_ble_eq_true rfl) zwd1308 (by decide) (zk_153 _) rfl ?_
    refine s_sipush A dX11_linked_32 rfl ?_
    refine s_aload_n A dX11_linked_35 rfl ?_
    refine s_getf (k := 11) (j := 0) (sl := true) (v := zR (some 154)) A dX11_linked_36 rfl zuw_X11 (Nat.le_of_ble_eq_true rfl) zwd1308 (by decide) (zk_153 _) rfl ?_
    refine s_sipush A dX11_linked_39 rfl ?_
    refine z_iald A dX11_linked_42 (zk_154 _) (Nat.le_of_ble_eq_true rfl) ⟨by decide, by decide⟩ ?_
    refine s_iadd A dX11_linked_43 ?_
    refine s_iconst A dX11_linked_44 ?_
    refine s_isub A dX11_linked_45 ?_
    obtain ⟨ox5, h⟩ := h
    refine z_iald A dX11_linked_46 (zk_154 _) (Nat.le_of_ble_eq_true rfl) ox5 ?_
    refine s_callV (a := 153) (k := 11) (N := 45) (sl := true) (M := mX11_goes) (n := 3) (d := 10 + 100) (mc := 0) (ms := 0) (av := [zI ((zi μ1 154 612) - 1), zI 0, zI (zi μ1 154 ((600 + (zi μ1 154 612)) - 1))]) (st := []) A dX11_linked_47 rfl (by decide) (zk_153 _) zwd1694 zwd1696 zwd65 zwd100 zcd_X11_goes (Nat.le_of_ble_eq_true rfl) (Nat.le_of_ble_eq_true rfl) (Nat.le_refl _) ⟨Nat.le_of_ble_eq_true rfl, Nat.le_of_ble_eq_true rfl⟩ ⟨rfl, zhn_X11_goes⟩ rfl (Nat.le_of_ble_eq_true rfl) rfl (z_contV (fun μ6 h => ?_) h)
    refine s_aload_n A dX11_linked_50 rfl ?_
    refine s_callV (a := 153) (k := 11) (N := 45) (sl := true) (M := mX11_codeNow) (n := 0) (d := 0) (mc := 0) (ms := 0) (av := []) (st := []) A dX11_linked_51 rfl (by decide) (zk_153 _) zwd1632 zwd1634 zwd54 zwd100 zcd_X11_codeNow (Nat.le_of_ble_eq_true rfl) (Nat.le_of_ble_eq_true rfl) (Nat.le_refl _) ⟨Nat.le_of_ble_eq_true rfl, Nat.le_of_ble_eq_true rfl⟩ ⟨rfl, zhn_X11_codeNow⟩ rfl (Nat.le_of_ble_eq_true rfl) rfl (z_contI (fun v7 μ7 h => ?_) h)
    exact s_iret A dX11_linked_54 hr hlk (Nat.le_of_ble_eq_true rfl) (Nat.le_of_ble_eq_true rfl) ⟨_, rfl, h⟩
theorem eX11_linked {G : zG} {F : Int → zM → Prop} {μ : zM} {x1 : Int} (h : ∀ J, zJ G true (111) 0 0 mX11_linked (zKI F) J → J 0 ([some (zR (some 153)), some (zI x1)], [], μ, 0, 0)) : qX11_linked G x1 μ F :=
  z_body (by decide +kernel) (Nat.le_of_ble_eq_true rfl) h
set_option maxRecDepth 20000 in
theorem rX11_prints_e {G : zG} {F : Int → zM → Prop} {J : Nat → zS → Prop} {μ : zM} (C : zJ G true (112) 0 0 mX11_prints (zKI F) J) (x1 : Int) (x2 : Int) (x3 : Int)
    (h : qX11_isWanted G true x1 x2 x3 (zup μ 153 5 0) (fun v1 μ1 => zin v1 ∧ ((¬ v1 = 0 → qX11_layColours G 154 μ1 (fun μ4 => qX11_foldOf G x1 x2 x3 μ4 (fun v5 μ5 => qX11_matchOf G (zi μ5 166 0) (zi μ5 166 1) (zi μ5 166 2) μ5 (fun v6 μ6 => qX11_linked G v6 μ6 (fun v7 μ7 => qX11_numberOf G true v7 μ7 (fun v8 μ8 => J 75 ([some (zR (some 153)), some (zI x1), some (zI x2), some (zI x3), some (zI v7), some (zI v8), some (zI 0)], [], zup μ8 153 4 0, 0, 0))))))) ∧ (v1 = 0 → F (-1) μ1)))) : J 0 ([some (zR (some 153)), some (zI x1), some (zI x2), some (zI x3), none, none, none], [], μ, 0, 0) := by
  obtain ⟨p, e, s, m, args, below, meth, c, A, hml, hr, hlk, hnm, rfl⟩ := C
  refine s_aload_n A dX11_prints_0 rfl ?_
  refine s_iconst A dX11_prints_1 ?_
  refine z_putI (k := 11) (j := 5) (sl := true) A dX11_prints_2 rfl zuw_X11 (Nat.le_of_ble_eq_true rfl) zwd1313 (by decide) (zk_153 _) tyX11 tyX11_ok nmX11 rfl rfl rfl ?_
  refine s_iload_n A dX11_prints_5 rfl ?_
  refine s_iload_n A dX11_prints_6 rfl ?_
  refine s_iload_n A dX11_prints_7 rfl ?_
  refine s_callS (M := mX11_isWanted) (n := 3) (d := 2) (mc := 0) (ms := 0) (av := [zI x1, zI x2, zI x3]) (st := []) A dX11_prints_8 zwd1640 zwd1641 zwd100 zcd_X11_isWanted (Nat.le_of_ble_eq_true rfl) (Nat.le_of_ble_eq_true rfl) (Nat.le_refl _) ⟨Nat.le_of_ble_eq_true rfl, Nat.le_of_ble_eq_true rfl⟩ zhn_X11_isWanted rfl (Nat.le_of_ble_eq_true rfl) rfl (z_contI (fun v1 μ1 h => ?_) h)
  obtain ⟨oz2, h⟩ := h
  refine z_if_ne (tgt := 16) A dX11_prints_11 (by decide) oz2 (fun c3 => ?_) (fun c3 => ?_)
  · have h := h.1 c3
    refine s_aload_n A dX11_prints_16 rfl ?_
    refine s_aload_n A dX11_prints_17 rfl ?_
    refine s_getf (k := 11) (j := 0) (sl := true) (v := zR (some 154)) A dX11_prints_18 rfl zuw_X11 (Nat.le_of_ble_eq_true rfl) zwd1308 (by decide) (zk_153 _) rfl ?_
    refine s_callV (a := 153) (k := 11) (N := 45) (sl := true) (M := mX11_layColours) (n := 1) (d := 11) (mc := 0) (ms := 0) (av := [zR (some 154)]) (st := []) A dX11_prints_21 rfl (by decide) (zk_153 _) zwd1643 zwd1645 zwd55 zwd100 zcd_X11_layColours (Nat.le_of_ble_eq_true rfl) (Nat.le_of_ble_eq_true rfl) (Nat.le_refl _) ⟨Nat.le_of_ble_eq_true rfl, Nat.le_of_ble_eq_true rfl⟩ ⟨rfl, zhn_X11_layColours⟩ rfl (Nat.le_of_ble_eq_true rfl) rfl (z_contV (fun μ4 h => ?_) h)
    refine s_aload_n A dX11_prints_24 rfl ?_
    refine s_iload_n A dX11_prints_25 rfl ?_
    refine s_iload_n A dX11_prints_26 rfl ?_
    refine s_iload_n A dX11_prints_27 rfl ?_
    refine s_callV (a := 153) (k := 11) (N := 45) (sl := true) (M := mX11_foldOf) (n := 3) (d := 4) (mc := 0) (ms := 0) (av := [zI x1, zI x2, zI x3]) (st := []) A dX11_prints_28 rfl (by decide) (zk_153 _) zwd1678 zwd1680 zwd62 zwd100 zcd_X11_foldOf (Nat.le_of_ble_eq_true rfl) (Nat.le_of_ble_eq_true rfl) (Nat.le_refl _) ⟨Nat.le_of_ble_eq_true rfl, Nat.le_of_ble_eq_true rfl⟩ ⟨rfl, zhn_X11_foldOf⟩ rfl (Nat.le_of_ble_eq_true rfl) rfl (z_contI (fun v5 μ5 h => ?_) h)
    refine s_pop A dX11_prints_31 rfl ?_
    refine s_aload_n A dX11_prints_32 rfl ?_
    refine s_aload_n A dX11_prints_33 rfl ?_
    refine s_aload_n A dX11_prints_34 rfl ?_
    refine s_getf (k := 11) (j := 25) (sl := true) (v := zR (some 166)) A dX11_prints_35 rfl zuw_X11 (Nat.le_of_ble_eq_true rfl) zwd1333 (by decide) (zk_153 _) rfl ?_
    refine s_iconst A dX11_prints_38 ?_
    refine z_iald A dX11_prints_39 (zk_166 _) (Nat.le_of_ble_eq_true rfl) ⟨by decide, by decide⟩ ?_
    refine s_aload_n A dX11_prints_40 rfl ?_
    refine s_getf (k := 11) (j := 25) (sl := true) (v := zR (some 166)) A dX11_prints_41 rfl zuw_X11 (Nat.le_of_ble_eq_true rfl) zwd1333 (by decide) (zk_153 _) rfl ?_
    refine s_iconst A dX11_prints_44 ?_
    refine z_iald A dX11_prints_45 (zk_166 _) (Nat.le_of_ble_eq_true rfl) ⟨by decide, by decide⟩ ?_
    refine s_aload_n A dX11_prints_46 rfl ?_
    refine s_getf (k := 11) (j := 25) (sl := true) (v := zR (some 166)) A dX11_prints_47 rfl zuw_X11 (Nat.le_of_ble_eq_true rfl) zwd1333 (by decide) (zk_153 _) rfl ?_
    refine s_iconst A dX11_prints_50 ?_
    refine z_iald A dX11_prints_51 (zk_166 _) (Nat.le_of_ble_eq_true rfl) ⟨by decide, by decide⟩ ?_
    refine s_callV (a := 153) (k := 11) (N := 45) (sl := true) (M := mX11_matchOf) (n := 3) (d := 9) (mc := 0) (ms := 0) (av := [zI (zi μ5 166 0), zI (zi μ5 166 1), zI (zi μ5 166 2)]) (st := [zR (some 153)]) A dX11_prints_52 rfl (by decide) (zk_153 _) zwd1651 zwd1653 zwd57 zwd100 zcd_X11_matchOf (Nat.le_of_ble_eq_true rfl) (Nat.le_of_ble_eq_true rfl) (Nat.le_refl _) ⟨Nat.le_of_ble_eq_true rfl, Nat.le_of_ble_eq_true rfl⟩ ⟨rfl, zhn_X11_matchOf⟩ rfl (Nat.le_of_ble_eq_true rfl) rfl (z_contI (fun v6 μ6 h => ?_) h)
    refine s_callV (a := 153) (k := 11) (N := 45) (sl := true) (M := mX11_linked) (n := 1) (d := 111) (mc := 0) (ms := 0) (av := [zI v6]) (st := []) A dX11_prints_55 rfl (by decide) (zk_153 _) zwd1690 zwd1692 zwd64 zwd100 zcd_X11_linked (Nat.le_of_ble_eq_true rfl) (Nat.le_of_ble_eq_true rfl) (Nat.le_refl _) ⟨Nat.le_of_ble_eq_true rfl, Nat.le_of_ble_eq_true rfl⟩ ⟨rfl, zhn_X11_linked⟩ rfl (Nat.le_of_ble_eq_true rfl) rfl (z_contI (fun v7 μ7 h => ?_) h)
    refine s_istore (L' := [some (zR (some 153)), some (zI x1), some (zI x2), some (zI x3), some (zI v7), none, none]) A dX11_prints_58 (Nat.le_of_ble_eq_true rfl) rfl ?_
    refine s_iload A dX11_prints_60 rfl ?_
    refine s_callS (M := mX11_numberOf) (n := 1) (d := 2) (mc := 0) (ms := 0) (av := [zI v7]) (st := []) A dX11_prints_62 zwd1671 zwd1672 zwd100 zcd_X11_numberOf (Nat.le_of_ble_eq_true rfl) (Nat.le_of_ble_eq_true rfl) (Nat.le_refl _) ⟨Nat.le_of_ble_eq_true rfl, Nat.le_of_ble_eq_true rfl⟩ zhn_X11_numberOf rfl (Nat.le_of_ble_eq_true rfl) rfl (z_contI (fun v8 μ8 h => ?_) h)
    refine s_istore (L' := [some (zR (some 153)), some (zI x1), some (zI x2), some (zI x3), some (zI v7), some (zI v8), none]) A dX11_prints_65 (Nat.le_of_ble_eq_true rfl) rfl ?_
    refine s_aload_n A dX11_prints_67 rfl ?_
    refine s_iconst A dX11_prints_68 ?_
    refine z_putI (k := 11) (j := 4) (sl := true) A dX11_prints_69 rfl zuw_X11 (Nat.le_of_ble_eq_true rfl) zwd1312 (by decide) (zk_153 _) tyX11 tyX11_ok nmX11 rfl rfl rfl ?_
    refine s_iconst A dX11_prints_72 ?_
    refine s_istore (L' := [some (zR (some 153)), some (zI x1), some (zI x2), some (zI x3), some (zI v7), some (zI v8), some (zI 0)]) A dX11_prints_73 (Nat.le_of_ble_eq_true rfl) rfl ?_
    exact h
  · have h := h.2 c3
    refine s_iconst A dX11_prints_14 ?_
    exact s_iret A dX11_prints_15 hr hlk (Nat.le_of_ble_eq_true rfl) (Nat.le_of_ble_eq_true rfl) ⟨_, rfl, h⟩
set_option maxRecDepth 20000 in
theorem rX11_prints_75 {G : zG} {F : Int → zM → Prop} {J : Nat → zS → Prop} {μ : zM} (C : zJ G true (112) 0 0 mX11_prints (zKI F) J) (x1 : Int) (x2 : Int) (x3 : Int) (x4 : Int) (x5 : Int) (x6 : Int)
    (h : zin x6 ∧ ((3 ≤ x6 → qX11_apartOf G x5 x1 x2 x3 μ (fun v3 μ3 => zin v3 ∧ qX11_tell G v3 μ3 (fun μ5 => F x4 μ5))) ∧ (¬ (3 ≤ x6) → (0 ≤ (3 * x5) + x6 ∧ (3 * x5) + x6 < 19683) ∧ zin (zi μ 159 ((3 * x5) + x6)) ∧ qX11_tell G (zi μ 159 ((3 * x5) + x6)) μ (fun μ8 => J 75 ([some (zR (some 153)), some (zI x1), some (zI x2), some (zI x3), some (zI x4), some (zI x5), some (zI (x6 + 1))], [], μ8, 0, 0))))) : J 75 ([some (zR (some 153)), some (zI x1), some (zI x2), some (zI x3), some (zI x4), some (zI x5), some (zI x6)], [], μ, 0, 0) := by
  obtain ⟨p, e, s, m, args, below, meth, c, A, hml, hr, hlk, hnm, rfl⟩ := C
  refine s_iload A dX11_prints_75 rfl ?_
  refine s_iconst A dX11_prints_77 ?_
  obtain ⟨oz1, h⟩ := h
  refine z_icmp_ge (tgt := 104) A dX11_prints_78 (by decide) oz1 ⟨by decide, by decide⟩ (fun c2 => ?_) (fun c2 => ?_)
  · have h := h.1 c2
    refine s_aload_n A dX11_prints_104 rfl ?_
    refine s_aload_n A dX11_prints_105 rfl ?_
    refine s_iload A dX11_prints_106 rfl ?_
    refine s_iload_n A dX11_prints_108 rfl ?_
    refine s_iload_n A dX11_prints_109 rfl ?_
    refine s_iload_n A dX11_prints_110 rfl ?_
    refine s_callV (a := 153) (k := 11) (N := 45) (sl := true) (M := mX11_apartOf) (n := 4) (d := 2) (mc := 0) (ms := 0) (av := [zI x5, zI x1, zI x2, zI x3]) (st := [zR (some 153)]) A dX11_prints_111 rfl (by decide) (zk_153 _) zwd1659 zwd1661 zwd59 zwd100 zcd_X11_apartOf (Nat.le_of_ble_eq_true rfl) (Nat.le_of_ble_eq_true rfl) (Nat.le_refl _) ⟨Nat.le_of_ble_eq_true rfl, Nat.le_of_ble_eq_true rfl⟩ ⟨rfl, zhn_X11_apartOf⟩ rfl (Nat.le_of_ble_eq_true rfl) rfl (z_contI (fun v3 μ3 h => ?_) h)
    obtain ⟨oz4, h⟩ := h
    refine z_i2l2 A dX11_prints_114 oz4 ?_
    refine s_callV (a := 153) (k := 11) (N := 45) (sl := true) (M := mX11_tell) (n := 1) (d := 0) (mc := 0) (ms := 0) (av := [zL v3]) (st := []) A dX11_prints_115 rfl (by decide) (zk_153 _) zwd1613 zwd1615 zwd51 zwd100 zcd_X11_tell (Nat.le_of_ble_eq_true rfl) (Nat.le_of_ble_eq_true rfl) (Nat.le_refl _) ⟨Nat.le_of_ble_eq_true rfl, Nat.le_of_ble_eq_true rfl⟩ ⟨rfl, zhn_X11_tell⟩ rfl (Nat.le_of_ble_eq_true rfl) rfl (z_contV (fun μ5 h => ?_) h)
    refine s_iload A dX11_prints_118 rfl ?_
    exact s_iret A dX11_prints_120 hr hlk (Nat.le_of_ble_eq_true rfl) (Nat.le_of_ble_eq_true rfl) ⟨_, rfl, h⟩
  · have h := h.2 c2
    refine s_aload_n A dX11_prints_81 rfl ?_
    refine s_aload_n A dX11_prints_82 rfl ?_
    refine s_getf (k := 11) (j := 13) (sl := true) (v := zR (some 159)) A dX11_prints_83 rfl zuw_X11 (Nat.le_of_ble_eq_true rfl) zwd1321 (by decide) (zk_153 _) rfl ?_
    refine s_iconst A dX11_prints_86 ?_
    refine s_iload A dX11_prints_87 rfl ?_
    refine s_imul A dX11_prints_89 ?_
    refine s_iload A dX11_prints_90 rfl ?_
    refine s_iadd A dX11_prints_92 ?_
    obtain ⟨ox6, h⟩ := h
    refine z_iald A dX11_prints_93 (zk_159 _) (Nat.le_of_ble_eq_true rfl) ox6 ?_
    obtain ⟨oz7, h⟩ := h
    refine z_i2l2 A dX11_prints_94 oz7 ?_
    refine s_callV (a := 153) (k := 11) (N := 45) (sl := true) (M := mX11_tell) (n := 1) (d := 0) (mc := 0) (ms := 0) (av := [zL (zi μ 159 ((3 * x5) + x6))]) (st := []) A dX11_prints_95 rfl (by decide) (zk_153 _) zwd1613 zwd1615 zwd51 zwd100 zcd_X11_tell (Nat.le_of_ble_eq_true rfl) (Nat.le_of_ble_eq_true rfl) (Nat.le_refl _) ⟨Nat.le_of_ble_eq_true rfl, Nat.le_of_ble_eq_true rfl⟩ ⟨rfl, zhn_X11_tell⟩ rfl (Nat.le_of_ble_eq_true rfl) rfl (z_contV (fun μ8 h => ?_) h)
    refine s_iinc (L' := [some (zR (some 153)), some (zI x1), some (zI x2), some (zI x3), some (zI x4), some (zI x5), some (zI (x6 + 1))]) A dX11_prints_98 rfl rfl ?_
    refine s_goto (tgt := 75) A dX11_prints_101 (by decide) ?_
    exact h
theorem eX11_prints {G : zG} {F : Int → zM → Prop} {μ : zM} {x1 : Int} {x2 : Int} {x3 : Int} (h : ∀ J, zJ G true (112) 0 0 mX11_prints (zKI F) J → J 0 ([some (zR (some 153)), some (zI x1), some (zI x2), some (zI x3), none, none, none], [], μ, 0, 0)) : qX11_prints G x1 x2 x3 μ F :=
  z_body (by decide +kernel) (Nat.le_of_ble_eq_true rfl) h
set_option maxRecDepth 20000 in
theorem rX11_through_e {G : zG} {F : Int → zM → Prop} {J : Nat → zS → Prop} {μ : zM} (C : zJ G true (112) 0 0 mX11_through (zKI F) J) (x1 : Int)
    (h : qX11_isCode G true x1 (zup μ 153 5 0) (fun v1 μ1 => zin v1 ∧ ((v1 = 0 → F (-1) μ1) ∧ (¬ (v1 = 0) → qX11_linked G x1 μ1 (fun v4 μ4 => F v4 μ4))))) : J 0 ([some (zR (some 153)), some (zI x1)], [], μ, 0, 0) := by
  obtain ⟨p, e, s, m, args, below, meth, c, A, hml, hr, hlk, hnm, rfl⟩ := C
  refine s_aload_n A dX11_through_0 rfl ?_
  refine s_iconst A dX11_through_1 ?_
  refine z_putI (k := 11) (j := 5) (sl := true) A dX11_through_2 rfl zuw_X11 (Nat.le_of_ble_eq_true rfl) zwd1313 (by decide) (zk_153 _) tyX11 tyX11_ok nmX11 rfl rfl rfl ?_
  refine s_iload_n A dX11_through_5 rfl ?_
  refine s_callS (M := mX11_isCode) (n := 1) (d := 2) (mc := 0) (ms := 0) (av := [zI x1]) (st := []) A dX11_through_6 zwd1595 zwd1596 zwd100 zcd_X11_isCode (Nat.le_of_ble_eq_true rfl) (Nat.le_of_ble_eq_true rfl) (Nat.le_refl _) ⟨Nat.le_of_ble_eq_true rfl, Nat.le_of_ble_eq_true rfl⟩ zhn_X11_isCode rfl (Nat.le_of_ble_eq_true rfl) rfl (z_contI (fun v1 μ1 h => ?_) h)
  obtain ⟨oz2, h⟩ := h
  refine z_if_eq (tgt := 20) A dX11_through_9 (by decide) oz2 (fun c3 => ?_) (fun c3 => ?_)
  · have h := h.1 c3
    refine s_iconst A dX11_through_20 ?_
    exact s_iret A dX11_through_21 hr hlk (Nat.le_of_ble_eq_true rfl) (Nat.le_of_ble_eq_true rfl) ⟨_, rfl, h⟩
  · have h := h.2 c3
    refine s_aload_n A dX11_through_12 rfl ?_
    refine s_iload_n A dX11_through_13 rfl ?_
    refine s_callV (a := 153) (k := 11) (N := 45) (sl := true) (M := mX11_linked) (n := 1) (d := 111) (mc := 0) (ms := 0) (av := [zI x1]) (st := []) A dX11_through_14 rfl (by decide) (zk_153 _) zwd1690 zwd1692 zwd64 zwd100 zcd_X11_linked (Nat.le_of_ble_eq_true rfl) (Nat.le_of_ble_eq_true rfl) (Nat.le_refl _) ⟨Nat.le_of_ble_eq_true rfl, Nat.le_of_ble_eq_true rfl⟩ ⟨rfl, zhn_X11_linked⟩ rfl (Nat.le_of_ble_eq_true rfl) rfl (z_contI (fun v4 μ4 h => ?_) h)
    refine s_goto (tgt := 21) A dX11_through_17 (by decide) ?_
    exact s_iret A dX11_through_21 hr hlk (Nat.le_of_ble_eq_true rfl) (Nat.le_of_ble_eq_true rfl) ⟨_, rfl, h⟩
theorem eX11_through {G : zG} {F : Int → zM → Prop} {μ : zM} {x1 : Int} (h : ∀ J, zJ G true (112) 0 0 mX11_through (zKI F) J → J 0 ([some (zR (some 153)), some (zI x1)], [], μ, 0, 0)) : qX11_through G x1 μ F :=
  z_body (by decide +kernel) (Nat.le_of_ble_eq_true rfl) h
set_option maxRecDepth 20000 in
theorem rX11_sources_e {G : zG} {F : Int → zM → Prop} {J : Nat → zS → Prop} {μ : zM} (C : zJ G true (112) 0 0 mX11_sources (zKI F) J) (x1 : Int)
    (h : qX11_isCode G true x1 (zup μ 153 5 0) (fun v1 μ1 => zin v1 ∧ ((¬ v1 = 0 → J 24 ([some (zR (some 153)), some (zI x1), some (zI 0), some (zI 0), some (zI 0), some (zI 0)], [], μ1, 0, 0)) ∧ (v1 = 0 → F (-1) μ1)))) : J 0 ([some (zR (some 153)), some (zI x1), none, none, none, none], [], μ, 0, 0) := by
  obtain ⟨p, e, s, m, args, below, meth, c, A, hml, hr, hlk, hnm, rfl⟩ := C
  refine s_aload_n A dX11_sources_0 rfl ?_
  refine s_iconst A dX11_sources_1 ?_
  refine z_putI (k := 11) (j := 5) (sl := true) A dX11_sources_2 rfl zuw_X11 (Nat.le_of_ble_eq_true rfl) zwd1313 (by decide) (zk_153 _) tyX11 tyX11_ok nmX11 rfl rfl rfl ?_
  refine s_iload_n A dX11_sources_5 rfl ?_
  refine s_callS (M := mX11_isCode) (n := 1) (d := 2) (mc := 0) (ms := 0) (av := [zI x1]) (st := []) A dX11_sources_6 zwd1595 zwd1596 zwd100 zcd_X11_isCode (Nat.le_of_ble_eq_true rfl) (Nat.le_of_ble_eq_true rfl) (Nat.le_refl _) ⟨Nat.le_of_ble_eq_true rfl, Nat.le_of_ble_eq_true rfl⟩ zhn_X11_isCode rfl (Nat.le_of_ble_eq_true rfl) rfl (z_contI (fun v1 μ1 h => ?_) h)
  obtain ⟨oz2, h⟩ := h
  refine z_if_ne (tgt := 14) A dX11_sources_9 (by decide) oz2 (fun c3 => ?_) (fun c3 => ?_)
  · have h := h.1 c3
    refine s_iconst A dX11_sources_14 ?_
    refine s_istore_n (L' := [some (zR (some 153)), some (zI x1), some (zI 0), none, none, none]) A dX11_sources_15 (Nat.le_of_ble_eq_true rfl) rfl ?_
    refine s_iconst A dX11_sources_16 ?_
    refine s_istore_n (L' := [some (zR (some 153)), some (zI x1), some (zI 0), some (zI 0), none, none]) A dX11_sources_17 (Nat.le_of_ble_eq_true rfl) rfl ?_
    refine s_iconst A dX11_sources_18 ?_
    refine s_istore (L' := [some (zR (some 153)), some (zI x1), some (zI 0), some (zI 0), some (zI 0), none]) A dX11_sources_19 (Nat.le_of_ble_eq_true rfl) rfl ?_
    refine s_iconst A dX11_sources_21 ?_
    refine s_istore (L' := [some (zR (some 153)), some (zI x1), some (zI 0), some (zI 0), some (zI 0), some (zI 0)]) A dX11_sources_22 (Nat.le_of_ble_eq_true rfl) rfl ?_
    exact h
  · have h := h.2 c3
    refine s_iconst A dX11_sources_12 ?_
    exact s_iret A dX11_sources_13 hr hlk (Nat.le_of_ble_eq_true rfl) (Nat.le_of_ble_eq_true rfl) ⟨_, rfl, h⟩
set_option maxRecDepth 20000 in
theorem rX11_sources_24 {G : zG} {F : Int → zM → Prop} {J : Nat → zS → Prop} {μ : zM} (C : zJ G true (112) 0 0 mX11_sources (zKI F) J) (x1 : Int) (x2 : Int) (x3 : Int) (x4 : Int) (x5 : Int)
    (h : zin x5 ∧ ((6561 ≤ x5 → zin x2 ∧ ((x2 ≤ 0 → F x2 (zup μ 153 4 0)) ∧ (¬ (x2 ≤ 0) → zin x3 ∧ qX11_tell G x3 (zup μ 153 4 0) (fun μ6 => zin x4 ∧ qX11_tell G x4 μ6 (fun μ8 => F x2 μ8))))) ∧ (¬ (6561 ≤ x5) → qX11_codeOf G true x5 μ (fun v9 μ9 => qX11_linked G v9 μ9 (fun v10 μ10 => zin v10 ∧ zin x1 ∧ ((v10 = x1 → zin x2 ∧ ((¬ x2 = 0 → qX11_codeOf G true x5 μ10 (fun v16 μ16 => J 24 ([some (zR (some 153)), some (zI x1), some (zI (x2 + 1)), some (zI x3), some (zI v16), some (zI (x5 + 1))], [], μ16, 0, 0))) ∧ (x2 = 0 → qX11_codeOf G true x5 μ10 (fun v17 μ17 => qX11_codeOf G true x5 μ17 (fun v18 μ18 => J 24 ([some (zR (some 153)), some (zI x1), some (zI (x2 + 1)), some (zI v17), some (zI v18), some (zI (x5 + 1))], [], μ18, 0, 0)))))) ∧ (¬ (v10 = x1) → J 24 ([some (zR (some 153)), some (zI x1), some (zI x2), some (zI x3), some (zI x4), some (zI (x5 + 1))], [], μ10, 0, 0)))))))) : J 24 ([some (zR (some 153)), some (zI x1), some (zI x2), some (zI x3), some (zI x4), some (zI x5)], [], μ, 0, 0) := by
  obtain ⟨p, e, s, m, args, below, meth, c, A, hml, hr, hlk, hnm, rfl⟩ := C
  refine s_iload A dX11_sources_24 rfl ?_
  refine s_sipush A dX11_sources_26 rfl ?_
  obtain ⟨oz1, h⟩ := h
  refine z_icmp_ge (tgt := 74) A dX11_sources_29 (by decide) oz1 ⟨by decide, by decide⟩ (fun c2 => ?_) (fun c2 => ?_)
  · have h := h.1 c2
    refine s_aload_n A dX11_sources_74 rfl ?_
    refine s_iconst A dX11_sources_75 ?_
    refine z_putI (k := 11) (j := 4) (sl := true) A dX11_sources_76 rfl zuw_X11 (Nat.le_of_ble_eq_true rfl) zwd1312 (by decide) (zk_153 _) tyX11 tyX11_ok nmX11 rfl rfl rfl ?_
    refine s_iload_n A dX11_sources_79 rfl ?_
    obtain ⟨oz3, h⟩ := h
    refine z_if_le (tgt := 96) A dX11_sources_80 (by decide) oz3 (fun c4 => ?_) (fun c4 => ?_)
    · have h := h.1 c4
      refine s_iload_n A dX11_sources_96 rfl ?_
      exact s_iret A dX11_sources_97 hr hlk (Nat.le_of_ble_eq_true rfl) (Nat.le_of_ble_eq_true rfl) ⟨_, rfl, h⟩
    · have h := h.2 c4
      refine s_aload_n A dX11_sources_83 rfl ?_
      refine s_iload_n A dX11_sources_84 rfl ?_
      obtain ⟨oz5, h⟩ := h
      refine z_i2l2 A dX11_sources_85 oz5 ?_
      refine s_callV (a := 153) (k := 11) (N := 45) (sl := true) (M := mX11_tell) (n := 1) (d := 0) (mc := 0) (ms := 0) (av := [zL x3]) (st := []) A dX11_sources_86 rfl (by decide) (zk_153 _) zwd1613 zwd1615 zwd51 zwd100 zcd_X11_tell (Nat.le_of_ble_eq_true rfl) (Nat.le_of_ble_eq_true rfl) (Nat.le_refl _) ⟨Nat.le_of_ble_eq_true rfl, Nat.le_of_ble_eq_true rfl⟩ ⟨rfl, zhn_X11_tell⟩ rfl (Nat.le_of_ble_eq_true rfl) rfl (z_contV (fun μ6 h => ?_) h)
      refine s_aload_n A dX11_sources_89 rfl ?_
      refine s_iload A dX11_sources_90 rfl ?_
      obtain ⟨oz7, h⟩ := h
      refine z_i2l2 A dX11_sources_92 oz7 ?_
      refine s_callV (a := 153) (k := 11) (N := 45) (sl := true) (M := mX11_tell) (n := 1) (d := 0) (mc := 0) (ms := 0) (av := [zL x4]) (st := []) A dX11_sources_93 rfl (by decide) (zk_153 _) zwd1613 zwd1615 zwd51 zwd100 zcd_X11_tell (Nat.le_of_ble_eq_true rfl) (Nat.le_of_ble_eq_true rfl) (Nat.le_refl _) ⟨Nat.le_of_ble_eq_true rfl, Nat.le_of_ble_eq_true rfl⟩ ⟨rfl, zhn_X11_tell⟩ rfl (Nat.le_of_ble_eq_true rfl) rfl (z_contV (fun μ8 h => ?_) h)
      refine s_iload_n A dX11_sources_96 rfl ?_
      exact s_iret A dX11_sources_97 hr hlk (Nat.le_of_ble_eq_true rfl) (Nat.le_of_ble_eq_true rfl) ⟨_, rfl, h⟩
  · have h := h.2 c2
    refine s_aload_n A dX11_sources_32 rfl ?_
    refine s_iload A dX11_sources_33 rfl ?_
    refine s_callS (M := mX11_codeOf) (n := 1) (d := 0) (mc := 0) (ms := 0) (av := [zI x5]) (st := [zR (some 153)]) A dX11_sources_35 zwd1303 zwd1304 zwd100 zcd_X11_codeOf (Nat.le_of_ble_eq_true rfl) (Nat.le_of_ble_eq_true rfl) (Nat.le_refl _) ⟨Nat.le_of_ble_eq_true rfl, Nat.le_of_ble_eq_true rfl⟩ zhn_X11_codeOf rfl (Nat.le_of_ble_eq_true rfl) rfl (z_contI (fun v9 μ9 h => ?_) h)
    refine s_callV (a := 153) (k := 11) (N := 45) (sl := true) (M := mX11_linked) (n := 1) (d := 111) (mc := 0) (ms := 0) (av := [zI v9]) (st := []) A dX11_sources_38 rfl (by decide) (zk_153 _) zwd1690 zwd1692 zwd64 zwd100 zcd_X11_linked (Nat.le_of_ble_eq_true rfl) (Nat.le_of_ble_eq_true rfl) (Nat.le_refl _) ⟨Nat.le_of_ble_eq_true rfl, Nat.le_of_ble_eq_true rfl⟩ ⟨rfl, zhn_X11_linked⟩ rfl (Nat.le_of_ble_eq_true rfl) rfl (z_contI (fun v10 μ10 h => ?_) h)
    refine s_iload_n A dX11_sources_41 rfl ?_
    obtain ⟨oz11, h⟩ := h
    obtain ⟨oz12, h⟩ := h
    refine z_icmp_eq (tgt := 48) A dX11_sources_42 (by decide) oz11 oz12 (fun c13 => ?_) (fun c13 => ?_)
    · have h := h.1 c13
      refine s_iload_n A dX11_sources_48 rfl ?_
      obtain ⟨oz14, h⟩ := h
      refine z_if_ne (tgt := 58) A dX11_sources_49 (by decide) oz14 (fun c15 => ?_) (fun c15 => ?_)
      · have h := h.1 c15
        refine s_iload A dX11_sources_58 rfl ?_
        refine s_callS (M := mX11_codeOf) (n := 1) (d := 0) (mc := 0) (ms := 0) (av := [zI x5]) (st := []) A dX11_sources_60 zwd1303 zwd1304 zwd100 zcd_X11_codeOf (Nat.le_of_ble_eq_true rfl) (Nat.le_of_ble_eq_true rfl) (Nat.le_refl _) ⟨Nat.le_of_ble_eq_true rfl, Nat.le_of_ble_eq_true rfl⟩ zhn_X11_codeOf rfl (Nat.le_of_ble_eq_true rfl) rfl (z_contI (fun v16 μ16 h => ?_) h)
        refine s_istore (L' := [some (zR (some 153)), some (zI x1), some (zI x2), some (zI x3), some (zI v16), some (zI x5)]) A dX11_sources_63 (Nat.le_of_ble_eq_true rfl) rfl ?_
        refine s_iinc (L' := [some (zR (some 153)), some (zI x1), some (zI (x2 + 1)), some (zI x3), some (zI v16), some (zI x5)]) A dX11_sources_65 rfl rfl ?_
        refine s_iinc (L' := [some (zR (some 153)), some (zI x1), some (zI (x2 + 1)), some (zI x3), some (zI v16), some (zI (x5 + 1))]) A dX11_sources_68 rfl rfl ?_
        refine s_goto (tgt := 24) A dX11_sources_71 (by decide) ?_
        exact h
      · have h := h.2 c15
        refine s_iload A dX11_sources_52 rfl ?_
        refine s_callS (M := mX11_codeOf) (n := 1) (d := 0) (mc := 0) (ms := 0) (av := [zI x5]) (st := []) A dX11_sources_54 zwd1303 zwd1304 zwd100 zcd_X11_codeOf (Nat.le_of_ble_eq_true rfl) (Nat.le_of_ble_eq_true rfl) (Nat.le_refl _) ⟨Nat.le_of_ble_eq_true rfl, Nat.le_of_ble_eq_true rfl⟩ zhn_X11_codeOf rfl (Nat.le_of_ble_eq_true rfl) rfl (z_contI (fun v17 μ17 h => ?_) h)
        refine s_istore_n (L' := [some (zR (some 153)), some (zI x1), some (zI x2), some (zI v17), some (zI x4), some (zI x5)]) A dX11_sources_57 (Nat.le_of_ble_eq_true rfl) rfl ?_
        refine s_iload A dX11_sources_58 rfl ?_
        refine s_callS (M := mX11_codeOf) (n := 1) (d := 0) (mc := 0) (ms := 0) (av := [zI x5]) (st := []) A dX11_sources_60 zwd1303 zwd1304 zwd100 zcd_X11_codeOf (Nat.le_of_ble_eq_true rfl) (Nat.le_of_ble_eq_true rfl) (Nat.le_refl _) ⟨Nat.le_of_ble_eq_true rfl, Nat.le_of_ble_eq_true rfl⟩ zhn_X11_codeOf rfl (Nat.le_of_ble_eq_true rfl) rfl (z_contI (fun v18 μ18 h => ?_) h)
        refine s_istore (L' := [some (zR (some 153)), some (zI x1), some (zI x2), some (zI v17), some (zI v18), some (zI x5)]) A dX11_sources_63 (Nat.le_of_ble_eq_true rfl) rfl ?_
        refine s_iinc (L' := [some (zR (some 153)), some (zI x1), some (zI (x2 + 1)), some (zI v17), some (zI v18), some (zI x5)]) A dX11_sources_65 rfl rfl ?_
        refine s_iinc (L' := [some (zR (some 153)), some (zI x1), some (zI (x2 + 1)), some (zI v17), some (zI v18), some (zI (x5 + 1))]) A dX11_sources_68 rfl rfl ?_
        refine s_goto (tgt := 24) A dX11_sources_71 (by decide) ?_
        exact h
    · have h := h.2 c13
      refine s_goto (tgt := 68) A dX11_sources_45 (by decide) ?_
      refine s_iinc (L' := [some (zR (some 153)), some (zI x1), some (zI x2), some (zI x3), some (zI x4), some (zI (x5 + 1))]) A dX11_sources_68 rfl rfl ?_
      refine s_goto (tgt := 24) A dX11_sources_71 (by decide) ?_
      exact h
theorem eX11_sources {G : zG} {F : Int → zM → Prop} {μ : zM} {x1 : Int} (h : ∀ J, zJ G true (112) 0 0 mX11_sources (zKI F) J → J 0 ([some (zR (some 153)), some (zI x1), none, none, none, none], [], μ, 0, 0)) : qX11_sources G x1 μ F :=
  z_body (by decide +kernel) (Nat.le_of_ble_eq_true rfl) h
set_option maxRecDepth 20000 in
theorem rX11_rounds_e {G : zG} {F : Int → zM → Prop} {J : Nat → zS → Prop} {μ : zM} (C : zJ G true (112) 0 0 mX11_rounds (zKI F) J) (x1 : Int)
    (h : qX11_isCode G true x1 (zup μ 153 5 0) (fun v1 μ1 => zin v1 ∧ ((¬ v1 = 0 → J 16 ([some (zR (some 153)), some (zI x1), some (zI 0), none, none, none, none, none], [], μ1, 0, 0)) ∧ (v1 = 0 → F (-1) μ1)))) : J 0 ([some (zR (some 153)), some (zI x1), none, none, none, none, none, none], [], μ, 0, 0) := by
  obtain ⟨p, e, s, m, args, below, meth, c, A, hml, hr, hlk, hnm, rfl⟩ := C
  refine s_aload_n A dX11_rounds_0 rfl ?_
  refine s_iconst A dX11_rounds_1 ?_
  refine z_putI (k := 11) (j := 5) (sl := true) A dX11_rounds_2 rfl zuw_X11 (Nat.le_of_ble_eq_true rfl) zwd1313 (by decide) (zk_153 _) tyX11 tyX11_ok nmX11 rfl rfl rfl ?_
  refine s_iload_n A dX11_rounds_5 rfl ?_
  refine s_callS (M := mX11_isCode) (n := 1) (d := 2) (mc := 0) (ms := 0) (av := [zI x1]) (st := []) A dX11_rounds_6 zwd1595 zwd1596 zwd100 zcd_X11_isCode (Nat.le_of_ble_eq_true rfl) (Nat.le_of_ble_eq_true rfl) (Nat.le_refl _) ⟨Nat.le_of_ble_eq_true rfl, Nat.le_of_ble_eq_true rfl⟩ zhn_X11_isCode rfl (Nat.le_of_ble_eq_true rfl) rfl (z_contI (fun v1 μ1 h => ?_) h)
  obtain ⟨oz2, h⟩ := h
  refine z_if_ne (tgt := 14) A dX11_rounds_9 (by decide) oz2 (fun c3 => ?_) (fun c3 => ?_)
  · have h := h.1 c3
    refine s_iconst A dX11_rounds_14 ?_
    refine s_istore_n (L' := [some (zR (some 153)), some (zI x1), some (zI 0), none, none, none, none, none]) A dX11_rounds_15 (Nat.le_of_ble_eq_true rfl) rfl ?_
    exact h
  · have h := h.2 c3
    refine s_iconst A dX11_rounds_12 ?_
    exact s_iret A dX11_rounds_13 hr hlk (Nat.le_of_ble_eq_true rfl) (Nat.le_of_ble_eq_true rfl) ⟨_, rfl, h⟩
set_option maxRecDepth 20000 in
theorem rX11_rounds_16 {G : zG} {F : Int → zM → Prop} {J : Nat → zS → Prop} {μ : zM} (C : zJ G true (112) 0 0 mX11_rounds (zKI F) J) (x1 : Int) (x2 : Int)
    (h : zin x2 ∧ ((6561 ≤ x2 → J 40 ([some (zR (some 153)), none, some (zI x1), some (zI 0), none, none, none, none], [], μ, 0, 0)) ∧ (¬ (6561 ≤ x2) → (0 ≤ x2 ∧ x2 < 6561) ∧ J 16 ([some (zR (some 153)), some (zI x1), some (zI (x2 + 1)), none, none, none, none, none], [], zup μ 167 x2 (-1), 0, 0)))) : J 16 ([some (zR (some 153)), some (zI x1), some (zI x2), none, none, none, none, none], [], μ, 0, 0) := by
  obtain ⟨p, e, s, m, args, below, meth, c, A, hml, hr, hlk, hnm, rfl⟩ := C
  refine s_iload_n A dX11_rounds_16 rfl ?_
  refine s_sipush A dX11_rounds_17 rfl ?_
  obtain ⟨oz1, h⟩ := h
  refine z_icmp_ge (tgt := 36) A dX11_rounds_20 (by decide) oz1 ⟨by decide, by decide⟩ (fun c2 => ?_) (fun c2 => ?_)
  · have h := h.1 c2
    refine s_iload_n A dX11_rounds_36 rfl ?_
    refine s_istore_n (L' := [some (zR (some 153)), some (zI x1), some (zI x1), none, none, none, none, none]) A dX11_rounds_37 (Nat.le_of_ble_eq_true rfl) rfl ?_
    refine s_iconst A dX11_rounds_38 ?_
    refine s_istore_n (L' := [some (zR (some 153)), some (zI x1), some (zI x1), some (zI 0), none, none, none, none]) A dX11_rounds_39 (Nat.le_of_ble_eq_true rfl) rfl ?_
    exact z_wk (L' := [some (zR (some 153)), none, some (zI x1), some (zI 0), none, none, none, none]) ⟨rfl, rfl, rfl, trivial⟩ h
  · have h := h.2 c2
    refine s_aload_n A dX11_rounds_23 rfl ?_
    refine s_getf (k := 11) (j := 27) (sl := true) (v := zR (some 167)) A dX11_rounds_24 rfl zuw_X11 (Nat.le_of_ble_eq_true rfl) zwd1335 (by decide) (zk_153 _) rfl ?_
    refine s_iload_n A dX11_rounds_27 rfl ?_
    refine s_iconst A dX11_rounds_28 ?_
    obtain ⟨ox3, h⟩ := h
    refine z_iast A dX11_rounds_29 (zk_167 _) (Nat.le_of_ble_eq_true rfl) ox3 ?_
    refine s_iinc (L' := [some (zR (some 153)), some (zI x1), some (zI (x2 + 1)), none, none, none, none, none]) A dX11_rounds_30 rfl rfl ?_
    refine s_goto (tgt := 16) A dX11_rounds_33 (by decide) ?_
    exact h
set_option maxRecDepth 20000 in
theorem rX11_rounds_40 {G : zG} {F : Int → zM → Prop} {J : Nat → zS → Prop} {μ : zM} (C : zJ G true (112) 0 0 mX11_rounds (zKI F) J) (x2 : Int) (x3 : Int)
    (h : qX11_numberOf G true x2 μ (fun v1 μ1 => (0 ≤ v1 ∧ v1 < 6561) ∧ zin (zi μ1 167 v1) ∧ ((¬ zi μ1 167 v1 = -1 → qX11_numberOf G true x2 μ1 (fun v5 μ5 => (0 ≤ v5 ∧ v5 < 6561) ∧ J 98 ([some (zR (some 153)), none, some (zI x2), none, some (zI (zi μ5 167 v5)), some (zI x2), some (zI (x3 - (zi μ5 167 v5))), some (zI 0)], [], μ5, 0, 0))) ∧ (zi μ1 167 v1 = -1 → qX11_numberOf G true x2 μ1 (fun v7 μ7 => (0 ≤ v7 ∧ v7 < 6561) ∧ qX11_linked G x2 (zup μ7 167 v7 x3) (fun v9 μ9 => J 40 ([some (zR (some 153)), none, some (zI v9), some (zI (x3 + 1)), none, none, none, none], [], μ9, 0, 0))))))) : J 40 ([some (zR (some 153)), none, some (zI x2), some (zI x3), none, none, none, none], [], μ, 0, 0) := by
  obtain ⟨p, e, s, m, args, below, meth, c, A, hml, hr, hlk, hnm, rfl⟩ := C
  refine s_aload_n A dX11_rounds_40 rfl ?_
  refine s_getf (k := 11) (j := 27) (sl := true) (v := zR (some 167)) A dX11_rounds_41 rfl zuw_X11 (Nat.le_of_ble_eq_true rfl) zwd1335 (by decide) (zk_153 _) rfl ?_
  refine s_iload_n A dX11_rounds_44 rfl ?_
  refine s_callS (M := mX11_numberOf) (n := 1) (d := 2) (mc := 0) (ms := 0) (av := [zI x2]) (st := [zR (some 167)]) A dX11_rounds_45 zwd1671 zwd1672 zwd100 zcd_X11_numberOf (Nat.le_of_ble_eq_true rfl) (Nat.le_of_ble_eq_true rfl) (Nat.le_refl _) ⟨Nat.le_of_ble_eq_true rfl, Nat.le_of_ble_eq_true rfl⟩ zhn_X11_numberOf rfl (Nat.le_of_ble_eq_true rfl) rfl (z_contI (fun v1 μ1 h => ?_) h)
  obtain ⟨ox2, h⟩ := h
  refine z_iald A dX11_rounds_48 (zk_167 _) (Nat.le_of_ble_eq_true rfl) ox2 ?_
  refine s_iconst A dX11_rounds_49 ?_
  obtain ⟨oz3, h⟩ := h
  refine z_icmp_ne (tgt := 75) A dX11_rounds_50 (by decide) oz3 ⟨by decide, by decide⟩ (fun c4 => ?_) (fun c4 => ?_)
  · have h := h.1 c4
    refine s_aload_n A dX11_rounds_75 rfl ?_
    refine s_getf (k := 11) (j := 27) (sl := true) (v := zR (some 167)) A dX11_rounds_76 rfl zuw_X11 (Nat.le_of_ble_eq_true rfl) zwd1335 (by decide) (zk_153 _) rfl ?_
    refine s_iload_n A dX11_rounds_79 rfl ?_
    refine s_callS (M := mX11_numberOf) (n := 1) (d := 2) (mc := 0) (ms := 0) (av := [zI x2]) (st := [zR (some 167)]) A dX11_rounds_80 zwd1671 zwd1672 zwd100 zcd_X11_numberOf (Nat.le_of_ble_eq_true rfl) (Nat.le_of_ble_eq_true rfl) (Nat.le_refl _) ⟨Nat.le_of_ble_eq_true rfl, Nat.le_of_ble_eq_true rfl⟩ zhn_X11_numberOf rfl (Nat.le_of_ble_eq_true rfl) rfl (z_contI (fun v5 μ5 h => ?_) h)
    obtain ⟨ox6, h⟩ := h
    refine z_iald A dX11_rounds_83 (zk_167 _) (Nat.le_of_ble_eq_true rfl) ox6 ?_
    refine s_istore (L' := [some (zR (some 153)), none, some (zI x2), some (zI x3), some (zI (zi μ5 167 v5)), none, none, none]) A dX11_rounds_84 (Nat.le_of_ble_eq_true rfl) rfl ?_
    refine s_iload_n A dX11_rounds_86 rfl ?_
    refine s_istore (L' := [some (zR (some 153)), none, some (zI x2), some (zI x3), some (zI (zi μ5 167 v5)), some (zI x2), none, none]) A dX11_rounds_87 (Nat.le_of_ble_eq_true rfl) rfl ?_
    refine s_iload_n A dX11_rounds_89 rfl ?_
    refine s_iload A dX11_rounds_90 rfl ?_
    refine s_isub A dX11_rounds_92 ?_
    refine s_istore (L' := [some (zR (some 153)), none, some (zI x2), some (zI x3), some (zI (zi μ5 167 v5)), some (zI x2), some (zI (x3 - (zi μ5 167 v5))), none]) A dX11_rounds_93 (Nat.le_of_ble_eq_true rfl) rfl ?_
    refine s_iconst A dX11_rounds_95 ?_
    refine s_istore (L' := [some (zR (some 153)), none, some (zI x2), some (zI x3), some (zI (zi μ5 167 v5)), some (zI x2), some (zI (x3 - (zi μ5 167 v5))), some (zI 0)]) A dX11_rounds_96 (Nat.le_of_ble_eq_true rfl) rfl ?_
    exact z_wk (L' := [some (zR (some 153)), none, some (zI x2), none, some (zI (zi μ5 167 v5)), some (zI x2), some (zI (x3 - (zi μ5 167 v5))), some (zI 0)]) ⟨rfl, rfl, rfl, rfl, rfl, rfl, trivial⟩ h
  · have h := h.2 c4
    refine s_aload_n A dX11_rounds_53 rfl ?_
    refine s_getf (k := 11) (j := 27) (sl := true) (v := zR (some 167)) A dX11_rounds_54 rfl zuw_X11 (Nat.le_of_ble_eq_true rfl) zwd1335 (by decide) (zk_153 _) rfl ?_
    refine s_iload_n A dX11_rounds_57 rfl ?_
    refine s_callS (M := mX11_numberOf) (n := 1) (d := 2) (mc := 0) (ms := 0) (av := [zI x2]) (st := [zR (some 167)]) A dX11_rounds_58 zwd1671 zwd1672 zwd100 zcd_X11_numberOf (Nat.le_of_ble_eq_true rfl) (Nat.le_of_ble_eq_true rfl) (Nat.le_refl _) ⟨Nat.le_of_ble_eq_true rfl, Nat.le_of_ble_eq_true rfl⟩ zhn_X11_numberOf rfl (Nat.le_of_ble_eq_true rfl) rfl (z_contI (fun v7 μ7 h => ?_) h)
    refine s_iload_n A dX11_rounds_61 rfl ?_
    obtain ⟨ox8, h⟩ := h
    refine z_iast A dX11_rounds_62 (zk_167 _) (Nat.le_of_ble_eq_true rfl) ox8 ?_
    refine s_aload_n A dX11_rounds_63 rfl ?_
    refine s_iload_n A dX11_rounds_64 rfl ?_
    refine s_callV (a := 153) (k := 11) (N := 45) (sl := true) (M := mX11_linked) (n := 1) (d := 111) (mc := 0) (ms := 0) (av := [zI x2]) (st := []) A dX11_rounds_65 rfl (by decide) (zk_153 _) zwd1690 zwd1692 zwd64 zwd100 zcd_X11_linked (Nat.le_of_ble_eq_true rfl) (Nat.le_of_ble_eq_true rfl) (Nat.le_refl _) ⟨Nat.le_of_ble_eq_true rfl, Nat.le_of_ble_eq_true rfl⟩ ⟨rfl, zhn_X11_linked⟩ rfl (Nat.le_of_ble_eq_true rfl) rfl (z_contI (fun v9 μ9 h => ?_) h)
    refine s_istore_n (L' := [some (zR (some 153)), none, some (zI v9), some (zI x3), none, none, none, none]) A dX11_rounds_68 (Nat.le_of_ble_eq_true rfl) rfl ?_
    refine s_iinc (L' := [some (zR (some 153)), none, some (zI v9), some (zI (x3 + 1)), none, none, none, none]) A dX11_rounds_69 rfl rfl ?_
    refine s_goto (tgt := 40) A dX11_rounds_72 (by decide) ?_
    exact h
set_option maxRecDepth 20000 in
theorem rX11_rounds_98 {G : zG} {F : Int → zM → Prop} {J : Nat → zS → Prop} {μ : zM} (C : zJ G true (112) 0 0 mX11_rounds (zKI F) J) (x2 : Int) (x4 : Int) (x5 : Int) (x6 : Int) (x7 : Int)
    (h : zin x7 ∧ zin x6 ∧ ((x6 ≤ x7 → qX11_tell G x6 (zup μ 153 4 0) (fun μ4 => zin x5 ∧ qX11_tell G x5 μ4 (fun μ6 => F x4 μ6))) ∧ (¬ (x6 ≤ x7) → zin x5 ∧ zin x2 ∧ qX11_linked G x2 μ (fun v9 μ9 => J 98 ([some (zR (some 153)), none, some (zI v9), none, some (zI x4), some (zI (min x5 x2)), some (zI x6), some (zI (x7 + 1))], [], μ9, 0, 0))))) : J 98 ([some (zR (some 153)), none, some (zI x2), none, some (zI x4), some (zI x5), some (zI x6), some (zI x7)], [], μ, 0, 0) := by
  obtain ⟨p, e, s, m, args, below, meth, c, A, hml, hr, hlk, hnm, rfl⟩ := C
  refine s_iload A dX11_rounds_98 rfl ?_
  refine s_iload A dX11_rounds_100 rfl ?_
  obtain ⟨oz1, h⟩ := h
  obtain ⟨oz2, h⟩ := h
  refine z_icmp_ge (tgt := 125) A dX11_rounds_102 (by decide) oz1 oz2 (fun c3 => ?_) (fun c3 => ?_)
  · have h := h.1 c3
    refine s_aload_n A dX11_rounds_125 rfl ?_
    refine s_iconst A dX11_rounds_126 ?_
    refine z_putI (k := 11) (j := 4) (sl := true) A dX11_rounds_127 rfl zuw_X11 (Nat.le_of_ble_eq_true rfl) zwd1312 (by decide) (zk_153 _) tyX11 tyX11_ok nmX11 rfl rfl rfl ?_
    refine s_aload_n A dX11_rounds_130 rfl ?_
    refine s_iload A dX11_rounds_131 rfl ?_
    refine z_i2l2 A dX11_rounds_133 oz2 ?_
    refine s_callV (a := 153) (k := 11) (N := 45) (sl := true) (M := mX11_tell) (n := 1) (d := 0) (mc := 0) (ms := 0) (av := [zL x6]) (st := []) A dX11_rounds_134 rfl (by decide) (zk_153 _) zwd1613 zwd1615 zwd51 zwd100 zcd_X11_tell (Nat.le_of_ble_eq_true rfl) (Nat.le_of_ble_eq_true rfl) (Nat.le_refl _) ⟨Nat.le_of_ble_eq_true rfl, Nat.le_of_ble_eq_true rfl⟩ ⟨rfl, zhn_X11_tell⟩ rfl (Nat.le_of_ble_eq_true rfl) rfl (z_contV (fun μ4 h => ?_) h)
    refine s_aload_n A dX11_rounds_137 rfl ?_
    refine s_iload A dX11_rounds_138 rfl ?_
    obtain ⟨oz5, h⟩ := h
    refine z_i2l2 A dX11_rounds_140 oz5 ?_
    refine s_callV (a := 153) (k := 11) (N := 45) (sl := true) (M := mX11_tell) (n := 1) (d := 0) (mc := 0) (ms := 0) (av := [zL x5]) (st := []) A dX11_rounds_141 rfl (by decide) (zk_153 _) zwd1613 zwd1615 zwd51 zwd100 zcd_X11_tell (Nat.le_of_ble_eq_true rfl) (Nat.le_of_ble_eq_true rfl) (Nat.le_refl _) ⟨Nat.le_of_ble_eq_true rfl, Nat.le_of_ble_eq_true rfl⟩ ⟨rfl, zhn_X11_tell⟩ rfl (Nat.le_of_ble_eq_true rfl) rfl (z_contV (fun μ6 h => ?_) h)
    refine s_iload A dX11_rounds_144 rfl ?_
    exact s_iret A dX11_rounds_146 hr hlk (Nat.le_of_ble_eq_true rfl) (Nat.le_of_ble_eq_true rfl) ⟨_, rfl, h⟩
  · have h := h.2 c3
    refine s_iload A dX11_rounds_105 rfl ?_
    refine s_iload_n A dX11_rounds_107 rfl ?_
    obtain ⟨oz7, h⟩ := h
    obtain ⟨oz8, h⟩ := h
    refine z_mmin A dX11_rounds_108 zwd1575 zwd509 zwd105 zwd510 (Nat.le_of_ble_eq_true rfl) (Nat.le_of_ble_eq_true rfl) ⟨Nat.le_of_ble_eq_true rfl, Nat.le_of_ble_eq_true rfl⟩ oz7 oz8 ?_
    refine s_istore (L' := [some (zR (some 153)), none, some (zI x2), none, some (zI x4), some (zI (min x5 x2)), some (zI x6), some (zI x7)]) A dX11_rounds_111 (Nat.le_of_ble_eq_true rfl) rfl ?_
    refine s_aload_n A dX11_rounds_113 rfl ?_
    refine s_iload_n A dX11_rounds_114 rfl ?_
    refine s_callV (a := 153) (k := 11) (N := 45) (sl := true) (M := mX11_linked) (n := 1) (d := 111) (mc := 0) (ms := 0) (av := [zI x2]) (st := []) A dX11_rounds_115 rfl (by decide) (zk_153 _) zwd1690 zwd1692 zwd64 zwd100 zcd_X11_linked (Nat.le_of_ble_eq_true rfl) (Nat.le_of_ble_eq_true rfl) (Nat.le_refl _) ⟨Nat.le_of_ble_eq_true rfl, Nat.le_of_ble_eq_true rfl⟩ ⟨rfl, zhn_X11_linked⟩ rfl (Nat.le_of_ble_eq_true rfl) rfl (z_contI (fun v9 μ9 h => ?_) h)
    refine s_istore_n (L' := [some (zR (some 153)), none, some (zI v9), none, some (zI x4), some (zI (min x5 x2)), some (zI x6), some (zI x7)]) A dX11_rounds_118 (Nat.le_of_ble_eq_true rfl) rfl ?_
    refine s_iinc (L' := [some (zR (some 153)), none, some (zI v9), none, some (zI x4), some (zI (min x5 x2)), some (zI x6), some (zI (x7 + 1))]) A dX11_rounds_119 rfl rfl ?_
    refine s_goto (tgt := 98) A dX11_rounds_122 (by decide) ?_
    exact h
theorem eX11_rounds {G : zG} {F : Int → zM → Prop} {μ : zM} {x1 : Int} (h : ∀ J, zJ G true (112) 0 0 mX11_rounds (zKI F) J → J 0 ([some (zR (some 153)), some (zI x1), none, none, none, none, none, none], [], μ, 0, 0)) : qX11_rounds G x1 μ F :=
  z_body (by decide +kernel) (Nat.le_of_ble_eq_true rfl) h
set_option maxRecDepth 20000 in
theorem rX11_ramp_e {G : zG} {F : Int → zM → Prop} {J : Nat → zS → Prop} {μ : zM} (C : zJ G true (12) 0 0 mX11_ramp (zKI F) J) (x1 : Int) (x2 : Int)
    (h : qX11_isCode G true x1 (zup μ 153 5 0) (fun v1 μ1 => zin v1 ∧ ((v1 = 0 → F (-1) μ1) ∧ (¬ (v1 = 0) → qX11_isCode G true x2 μ1 (fun v4 μ4 => zin v4 ∧ ((¬ v4 = 0 → qX11_layColours G 154 μ4 (fun μ7 => qX11_numberOf G true x1 μ7 (fun v8 μ8 => qX11_numberOf G true x2 μ8 (fun v9 μ9 => J 50 ([some (zR (some 153)), none, none, some (zI (3 * v8)), some (zI (3 * v9)), some (zI 0), some (zI 0), none], [], μ9, 0, 0))))) ∧ (v4 = 0 → F (-1) μ4))))))) : J 0 ([some (zR (some 153)), some (zI x1), some (zI x2), none, none, none, none, none], [], μ, 0, 0) := by
  obtain ⟨p, e, s, m, args, below, meth, c, A, hml, hr, hlk, hnm, rfl⟩ := C
  refine s_aload_n A dX11_ramp_0 rfl ?_
  refine s_iconst A dX11_ramp_1 ?_
  refine z_putI (k := 11) (j := 5) (sl := true) A dX11_ramp_2 rfl zuw_X11 (Nat.le_of_ble_eq_true rfl) zwd1313 (by decide) (zk_153 _) tyX11 tyX11_ok nmX11 rfl rfl rfl ?_
  refine s_iload_n A dX11_ramp_5 rfl ?_
  refine s_callS (M := mX11_isCode) (n := 1) (d := 2) (mc := 0) (ms := 0) (av := [zI x1]) (st := []) A dX11_ramp_6 zwd1595 zwd1596 zwd100 zcd_X11_isCode (Nat.le_of_ble_eq_true rfl) (Nat.le_of_ble_eq_true rfl) (Nat.le_refl _) ⟨Nat.le_of_ble_eq_true rfl, Nat.le_of_ble_eq_true rfl⟩ zhn_X11_isCode rfl (Nat.le_of_ble_eq_true rfl) rfl (z_contI (fun v1 μ1 h => ?_) h)
  obtain ⟨oz2, h⟩ := h
  refine z_if_eq (tgt := 19) A dX11_ramp_9 (by decide) oz2 (fun c3 => ?_) (fun c3 => ?_)
  · have h := h.1 c3
    refine s_iconst A dX11_ramp_19 ?_
    exact s_iret A dX11_ramp_20 hr hlk (Nat.le_of_ble_eq_true rfl) (Nat.le_of_ble_eq_true rfl) ⟨_, rfl, h⟩
  · have h := h.2 c3
    refine s_iload_n A dX11_ramp_12 rfl ?_
    refine s_callS (M := mX11_isCode) (n := 1) (d := 2) (mc := 0) (ms := 0) (av := [zI x2]) (st := []) A dX11_ramp_13 zwd1595 zwd1596 zwd100 zcd_X11_isCode (Nat.le_of_ble_eq_true rfl) (Nat.le_of_ble_eq_true rfl) (Nat.le_refl _) ⟨Nat.le_of_ble_eq_true rfl, Nat.le_of_ble_eq_true rfl⟩ zhn_X11_isCode rfl (Nat.le_of_ble_eq_true rfl) rfl (z_contI (fun v4 μ4 h => ?_) h)
    obtain ⟨oz5, h⟩ := h
    refine z_if_ne (tgt := 21) A dX11_ramp_16 (by decide) oz5 (fun c6 => ?_) (fun c6 => ?_)
    · have h := h.1 c6
      refine s_aload_n A dX11_ramp_21 rfl ?_
      refine s_aload_n A dX11_ramp_22 rfl ?_
      refine s_getf (k := 11) (j := 0) (sl := true) (v := zR (some 154)) A dX11_ramp_23 rfl zuw_X11 (Nat.le_of_ble_eq_true rfl) zwd1308 (by decide) (zk_153 _) rfl ?_
      refine s_callV (a := 153) (k := 11) (N := 45) (sl := true) (M := mX11_layColours) (n := 1) (d := 11) (mc := 0) (ms := 0) (av := [zR (some 154)]) (st := []) A dX11_ramp_26 rfl (by decide) (zk_153 _) zwd1643 zwd1645 zwd55 zwd100 zcd_X11_layColours (Nat.le_of_ble_eq_true rfl) (Nat.le_of_ble_eq_true rfl) (Nat.le_refl _) ⟨Nat.le_of_ble_eq_true rfl, Nat.le_of_ble_eq_true rfl⟩ ⟨rfl, zhn_X11_layColours⟩ rfl (Nat.le_of_ble_eq_true rfl) rfl (z_contV (fun μ7 h => ?_) h)
      refine s_iconst A dX11_ramp_29 ?_
      refine s_iload_n A dX11_ramp_30 rfl ?_
      refine s_callS (M := mX11_numberOf) (n := 1) (d := 2) (mc := 0) (ms := 0) (av := [zI x1]) (st := [zI 3]) A dX11_ramp_31 zwd1671 zwd1672 zwd100 zcd_X11_numberOf (Nat.le_of_ble_eq_true rfl) (Nat.le_of_ble_eq_true rfl) (Nat.le_refl _) ⟨Nat.le_of_ble_eq_true rfl, Nat.le_of_ble_eq_true rfl⟩ zhn_X11_numberOf rfl (Nat.le_of_ble_eq_true rfl) rfl (z_contI (fun v8 μ8 h => ?_) h)
      refine s_imul A dX11_ramp_34 ?_
      refine s_istore_n (L' := [some (zR (some 153)), some (zI x1), some (zI x2), some (zI (3 * v8)), none, none, none, none]) A dX11_ramp_35 (Nat.le_of_ble_eq_true rfl) rfl ?_
      refine s_iconst A dX11_ramp_36 ?_
      refine s_iload_n A dX11_ramp_37 rfl ?_
      refine s_callS (M := mX11_numberOf) (n := 1) (d := 2) (mc := 0) (ms := 0) (av := [zI x2]) (st := [zI 3]) A dX11_ramp_38 zwd1671 zwd1672 zwd100 zcd_X11_numberOf (Nat.le_of_ble_eq_true rfl) (Nat.le_of_ble_eq_true rfl) (Nat.le_refl _) ⟨Nat.le_of_ble_eq_true rfl, Nat.le_of_ble_eq_true rfl⟩ zhn_X11_numberOf rfl (Nat.le_of_ble_eq_true rfl) rfl (z_contI (fun v9 μ9 h => ?_) h)
      refine s_imul A dX11_ramp_41 ?_
      refine s_istore (L' := [some (zR (some 153)), some (zI x1), some (zI x2), some (zI (3 * v8)), some (zI (3 * v9)), none, none, none]) A dX11_ramp_42 (Nat.le_of_ble_eq_true rfl) rfl ?_
      refine s_iconst A dX11_ramp_44 ?_
      refine s_istore (L' := [some (zR (some 153)), some (zI x1), some (zI x2), some (zI (3 * v8)), some (zI (3 * v9)), some (zI 0), none, none]) A dX11_ramp_45 (Nat.le_of_ble_eq_true rfl) rfl ?_
      refine s_iconst A dX11_ramp_47 ?_
      refine s_istore (L' := [some (zR (some 153)), some (zI x1), some (zI x2), some (zI (3 * v8)), some (zI (3 * v9)), some (zI 0), some (zI 0), none]) A dX11_ramp_48 (Nat.le_of_ble_eq_true rfl) rfl ?_
      exact z_wk (L' := [some (zR (some 153)), none, none, some (zI (3 * v8)), some (zI (3 * v9)), some (zI 0), some (zI 0), none]) ⟨rfl, rfl, rfl, rfl, rfl, trivial⟩ h
    · have h := h.2 c6
      refine s_iconst A dX11_ramp_19 ?_
      exact s_iret A dX11_ramp_20 hr hlk (Nat.le_of_ble_eq_true rfl) (Nat.le_of_ble_eq_true rfl) ⟨_, rfl, h⟩
set_option maxRecDepth 20000 in
theorem rX11_ramp_50 {G : zG} {F : Int → zM → Prop} {J : Nat → zS → Prop} {μ : zM} (C : zJ G true (12) 0 0 mX11_ramp (zKI F) J) (x3 : Int) (x4 : Int) (x5 : Int) (x6 : Int)
    (h : zin x6 ∧ ((8 < x6 → J 232 ([some (zR (some 153)), none, none, none, none, some (zI x5), some (zI 0), none], [], zup μ 153 4 0, 0, 0)) ∧ (¬ (8 < x6) → (0 ≤ x3 ∧ x3 < 19683) ∧ (0 ≤ x4 ∧ x4 < 19683) ∧ (zin (((zi μ 159 x4) - (zi μ 159 x3)) * x6)) ∧ (0 ≤ x3 + 1 ∧ x3 + 1 < 19683) ∧ (0 ≤ x4 + 1 ∧ x4 + 1 < 19683) ∧ (zin (((zi μ 159 (x4 + 1)) - (zi μ 159 (x3 + 1))) * x6)) ∧ (0 ≤ x3 + 2 ∧ x3 + 2 < 19683) ∧ (0 ≤ x4 + 2 ∧ x4 + 2 < 19683) ∧ (zin (((zi μ 159 (x4 + 2)) - (zi μ 159 (x3 + 2))) * x6)) ∧ qX11_matchOf G ((zi μ 159 x3) + ((((zi μ 159 x4) - (zi μ 159 x3)) * x6).tdiv 8)) ((zi μ 159 (x3 + 1)) + ((((zi μ 159 (x4 + 1)) - (zi μ 159 (x3 + 1))) * x6).tdiv 8)) ((zi μ 159 (x3 + 2)) + ((((zi μ 159 (x4 + 2)) - (zi μ 159 (x3 + 2))) * x6).tdiv 8)) μ (fun v9 μ9 => (0 ≤ x6 ∧ x6 < 320) ∧ J 164 ([some (zR (some 153)), none, none, some (zI x3), some (zI x4), some (zI x5), some (zI x6), some (zI 0)], [], zup μ9 157 x6 v9, 0, 0))))) : J 50 ([some (zR (some 153)), none, none, some (zI x3), some (zI x4), some (zI x5), some (zI x6), none], [], μ, 0, 0) := by
  obtain ⟨p, e, s, m, args, below, meth, c, A, hml, hr, hlk, hnm, rfl⟩ := C
  refine s_iload A dX11_ramp_50 rfl ?_
  refine s_bipush A dX11_ramp_52 rfl ?_
  obtain ⟨oz1, h⟩ := h
  refine z_icmp_gt (tgt := 224) A dX11_ramp_54 (by decide) oz1 ⟨by decide, by decide⟩ (fun c2 => ?_) (fun c2 => ?_)
  · have h := h.1 c2
    refine s_aload_n A dX11_ramp_224 rfl ?_
    refine s_iconst A dX11_ramp_225 ?_
    refine z_putI (k := 11) (j := 4) (sl := true) A dX11_ramp_226 rfl zuw_X11 (Nat.le_of_ble_eq_true rfl) zwd1312 (by decide) (zk_153 _) tyX11 tyX11_ok nmX11 rfl rfl rfl ?_
    refine s_iconst A dX11_ramp_229 ?_
    refine s_istore (L' := [some (zR (some 153)), none, none, some (zI x3), some (zI x4), some (zI x5), some (zI 0), none]) A dX11_ramp_230 (Nat.le_of_ble_eq_true rfl) rfl ?_
    exact z_wk (L' := [some (zR (some 153)), none, none, none, none, some (zI x5), some (zI 0), none]) ⟨rfl, rfl, rfl, trivial⟩ h
  · have h := h.2 c2
    refine s_aload_n A dX11_ramp_57 rfl ?_
    refine s_getf (k := 11) (j := 10) (sl := true) (v := zR (some 157)) A dX11_ramp_58 rfl zuw_X11 (Nat.le_of_ble_eq_true rfl) zwd1318 (by decide) (zk_153 _) rfl ?_
    refine s_iload A dX11_ramp_61 rfl ?_
    refine s_aload_n A dX11_ramp_63 rfl ?_
    refine s_aload_n A dX11_ramp_64 rfl ?_
    refine s_getf (k := 11) (j := 13) (sl := true) (v := zR (some 159)) A dX11_ramp_65 rfl zuw_X11 (Nat.le_of_ble_eq_true rfl) zwd1321 (by decide) (zk_153 _) rfl ?_
    refine s_iload_n A dX11_ramp_68 rfl ?_
    obtain ⟨ox3, h⟩ := h
    refine z_iald A dX11_ramp_69 (zk_159 _) (Nat.le_of_ble_eq_true rfl) ox3 ?_
    refine s_aload_n A dX11_ramp_70 rfl ?_
    refine s_getf (k := 11) (j := 13) (sl := true) (v := zR (some 159)) A dX11_ramp_71 rfl zuw_X11 (Nat.le_of_ble_eq_true rfl) zwd1321 (by decide) (zk_153 _) rfl ?_
    refine s_iload A dX11_ramp_74 rfl ?_
    obtain ⟨ox4, h⟩ := h
    refine z_iald A dX11_ramp_76 (zk_159 _) (Nat.le_of_ble_eq_true rfl) ox4 ?_
    refine s_aload_n A dX11_ramp_77 rfl ?_
    refine s_getf (k := 11) (j := 13) (sl := true) (v := zR (some 159)) A dX11_ramp_78 rfl zuw_X11 (Nat.le_of_ble_eq_true rfl) zwd1321 (by decide) (zk_153 _) rfl ?_
    refine s_iload_n A dX11_ramp_81 rfl ?_
    refine z_iald A dX11_ramp_82 (zk_159 _) (Nat.le_of_ble_eq_true rfl) ox3 ?_
    refine s_isub A dX11_ramp_83 ?_
    refine s_iload A dX11_ramp_84 rfl ?_
    refine s_imul A dX11_ramp_86 ?_
    refine s_bipush A dX11_ramp_87 rfl ?_
    obtain ⟨o1, h⟩ := h
    refine z_idivt A dX11_ramp_89 o1 ⟨by decide, by decide⟩ ?_
    refine s_iadd A dX11_ramp_90 ?_
    refine s_aload_n A dX11_ramp_91 rfl ?_
    refine s_getf (k := 11) (j := 13) (sl := true) (v := zR (some 159)) A dX11_ramp_92 rfl zuw_X11 (Nat.le_of_ble_eq_true rfl) zwd1321 (by decide) (zk_153 _) rfl ?_
    refine s_iload_n A dX11_ramp_95 rfl ?_
    refine s_iconst A dX11_ramp_96 ?_
    refine s_iadd A dX11_ramp_97 ?_
    obtain ⟨ox5, h⟩ := h
    refine z_iald A dX11_ramp_98 (zk_159 _) (Nat.le_of_ble_eq_true rfl) ox5 ?_
    refine s_aload_n A dX11_ramp_99 rfl ?_
    refine s_getf (k := 11) (j := 13) (sl := true) (v := zR (some 159)) A dX11_ramp_100 rfl zuw_X11 (Nat.le_of_ble_eq_true rfl) zwd1321 (by decide) (zk_153 _) rfl ?_
    refine s_iload A dX11_ramp_103 rfl ?_
    refine s_iconst A dX11_ramp_105 ?_
    refine s_iadd A dX11_ramp_106 ?_
    obtain ⟨ox6, h⟩ := h
    refine z_iald A dX11_ramp_107 (zk_159 _) (Nat.le_of_ble_eq_true rfl) ox6 ?_
    refine s_aload_n A dX11_ramp_108 rfl ?_
    refine s_getf (k := 11) (j := 13) (sl := true) (v := zR (some 159)) A dX11_ramp_109 rfl zuw_X11 (Nat.le_of_ble_eq_true rfl) zwd1321 (by decide) (zk_153 _) rfl ?_
    refine s_iload_n A dX11_ramp_112 rfl ?_
    refine s_iconst A dX11_ramp_113 ?_
    refine s_iadd A dX11_ramp_114 ?_
    refine z_iald A dX11_ramp_115 (zk_159 _) (Nat.le_of_ble_eq_true rfl) ox5 ?_
    refine s_isub A dX11_ramp_116 ?_
    refine s_iload A dX11_ramp_117 rfl ?_
    refine s_imul A dX11_ramp_119 ?_
    refine s_bipush A dX11_ramp_120 rfl ?_
    obtain ⟨o1, h⟩ := h
    refine z_idivt A dX11_ramp_122 o1 ⟨by decide, by decide⟩ ?_
    refine s_iadd A dX11_ramp_123 ?_
    refine s_aload_n A dX11_ramp_124 rfl ?_
    refine s_getf (k := 11) (j := 13) (sl := true) (v := zR (some 159)) A dX11_ramp_125 rfl zuw_X11 (Nat.le_of_ble_eq_true rfl) zwd1321 (by decide) (zk_153 _) rfl ?_
    refine s_iload_n A dX11_ramp_128 rfl ?_
    refine s_iconst A dX11_ramp_129 ?_
    refine s_iadd A dX11_ramp_130 ?_
    obtain ⟨ox7, h⟩ := h
    refine z_iald A dX11_ramp_131 (zk_159 _) (Nat.le_of_ble_eq_true rfl) ox7 ?_
    refine s_aload_n A dX11_ramp_132 rfl ?_
    refine s_getf (k := 11) (j := 13) (sl := true) (v := zR (some 159)) A dX11_ramp_133 rfl zuw_X11 (Nat.le_of_ble_eq_true rfl) zwd1321 (by decide) (zk_153 _) rfl ?_
    refine s_iload A dX11_ramp_136 rfl ?_
    refine s_iconst A dX11_ramp_138 ?_
    refine s_iadd A dX11_ramp_139 ?_
    obtain ⟨ox8, h⟩ := h
    refine z_iald A dX11_ramp_140 (zk_159 _) (Nat.le_of_ble_eq_true rfl) ox8 ?_
    refine s_aload_n A dX11_ramp_141 rfl ?_
    refine s_getf (k := 11) (j := 13) (sl := true) (v := zR (some 159)) A dX11_ramp_142 rfl zuw_X11 (Nat.le_of_ble_eq_true rfl) zwd1321 (by decide) (zk_153 _) rfl ?_
    refine s_iload_n A dX11_ramp_145 rfl ?_
    refine s_iconst A dX11_ramp_146 ?_
    refine s_iadd A dX11_ramp_147 ?_
    refine z_iald A dX11_ramp_148 (zk_159 _) (Nat.le_of_ble_eq_true rfl) ox7 ?_
    refine s_isub A dX11_ramp_149 ?_
    refine s_iload A dX11_ramp_150 rfl ?_
    refine s_imul A dX11_ramp_152 ?_
    refine s_bipush A dX11_ramp_153 rfl ?_
    obtain ⟨o1, h⟩ := h
    refine z_idivt A dX11_ramp_155 o1 ⟨by decide, by decide⟩ ?_
    refine s_iadd A dX11_ramp_156 ?_
    refine s_callV (a := 153) (k := 11) (N := 45) (sl := true) (M := mX11_matchOf) (n := 3) (d := 9) (mc := 0) (ms := 0) (av := [zI ((zi μ 159 x3) + ((((zi μ 159 x4) - (zi μ 159 x3)) * x6).tdiv 8)), zI ((zi μ 159 (x3 + 1)) + ((((zi μ 159 (x4 + 1)) - (zi μ 159 (x3 + 1))) * x6).tdiv 8)), zI ((zi μ 159 (x3 + 2)) + ((((zi μ 159 (x4 + 2)) - (zi μ 159 (x3 + 2))) * x6).tdiv 8))]) (st := [zI x6, zR (some 157)]) A dX11_ramp_157 rfl (by decide) (zk_153 _) zwd1651 zwd1653 zwd57 zwd100 zcd_X11_matchOf (Nat.le_of_ble_eq_true rfl) (Nat.le_of_ble_eq_true rfl) (Nat.le_refl _) ⟨Nat.le_of_ble_eq_true rfl, Nat.le_of_ble_eq_true rfl⟩ ⟨rfl, zhn_X11_matchOf⟩ rfl (Nat.le_of_ble_eq_true rfl) rfl (z_contI (fun v9 μ9 h => ?_) h)
    obtain ⟨ox10, h⟩ := h
    refine z_iast A dX11_ramp_160 (zk_157 _) (Nat.le_of_ble_eq_true rfl) ox10 ?_
    refine s_iconst A dX11_ramp_161 ?_
    refine s_istore (L' := [some (zR (some 153)), none, none, some (zI x3), some (zI x4), some (zI x5), some (zI x6), some (zI 0)]) A dX11_ramp_162 (Nat.le_of_ble_eq_true rfl) rfl ?_
    exact h
set_option maxRecDepth 20000 in
theorem rX11_ramp_164 {G : zG} {F : Int → zM → Prop} {J : Nat → zS → Prop} {μ : zM} (C : zJ G true (12) 0 0 mX11_ramp (zKI F) J) (x3 : Int) (x4 : Int) (x5 : Int) (x6 : Int) (x7 : Int)
    (h : zin x7 ∧ ((4 ≤ x7 → J 50 ([some (zR (some 153)), none, none, some (zI x3), some (zI x4), some (zI x5), some (zI (x6 + 1)), none], [], μ, 0, 0)) ∧ (¬ (4 ≤ x7) → zin x6 ∧ ((x6 ≤ 0 → J 50 ([some (zR (some 153)), none, none, some (zI x3), some (zI x4), some (zI x5), some (zI (x6 + 1)), none], [], μ, 0, 0)) ∧ (¬ (x6 ≤ 0) → (0 ≤ x6 ∧ x6 < 320) ∧ qX11_amountOf G true (zi μ 157 x6) x7 μ (fun v6 μ6 => (0 ≤ x6 - 1 ∧ x6 - 1 < 320) ∧ qX11_amountOf G true (zi μ6 157 (x6 - 1)) x7 μ6 (fun v8 μ8 => zin (v6 - v8) ∧ zin x5 ∧ zin (max (v6 - v8) (-(v6 - v8))) ∧ J 164 ([some (zR (some 153)), none, none, some (zI x3), some (zI x4), some (zI (max x5 (max (v6 - v8) (-(v6 - v8))))), some (zI x6), some (zI (x7 + 1))], [], μ8, 0, 0)))))))) : J 164 ([some (zR (some 153)), none, none, some (zI x3), some (zI x4), some (zI x5), some (zI x6), some (zI x7)], [], μ, 0, 0) := by
  obtain ⟨p, e, s, m, args, below, meth, c, A, hml, hr, hlk, hnm, rfl⟩ := C
  refine s_iload A dX11_ramp_164 rfl ?_
  refine s_iconst A dX11_ramp_166 ?_
  obtain ⟨oz1, h⟩ := h
  refine z_icmp_ge (tgt := 218) A dX11_ramp_167 (by decide) oz1 ⟨by decide, by decide⟩ (fun c2 => ?_) (fun c2 => ?_)
  · have h := h.1 c2
    refine s_iinc (L' := [some (zR (some 153)), none, none, some (zI x3), some (zI x4), some (zI x5), some (zI (x6 + 1)), some (zI x7)]) A dX11_ramp_218 rfl rfl ?_
    refine s_goto (tgt := 50) A dX11_ramp_221 (by decide) ?_
    exact z_wk (L' := [some (zR (some 153)), none, none, some (zI x3), some (zI x4), some (zI x5), some (zI (x6 + 1)), none]) ⟨rfl, rfl, rfl, rfl, rfl, trivial⟩ h
  · have h := h.2 c2
    refine s_iload A dX11_ramp_170 rfl ?_
    obtain ⟨oz3, h⟩ := h
    refine z_if_le (tgt := 218) A dX11_ramp_172 (by decide) oz3 (fun c4 => ?_) (fun c4 => ?_)
    · have h := h.1 c4
      refine s_iinc (L' := [some (zR (some 153)), none, none, some (zI x3), some (zI x4), some (zI x5), some (zI (x6 + 1)), some (zI x7)]) A dX11_ramp_218 rfl rfl ?_
      refine s_goto (tgt := 50) A dX11_ramp_221 (by decide) ?_
      exact z_wk (L' := [some (zR (some 153)), none, none, some (zI x3), some (zI x4), some (zI x5), some (zI (x6 + 1)), none]) ⟨rfl, rfl, rfl, rfl, rfl, trivial⟩ h
    · have h := h.2 c4
      refine s_iload A dX11_ramp_175 rfl ?_
      refine s_aload_n A dX11_ramp_177 rfl ?_
      refine s_getf (k := 11) (j := 10) (sl := true) (v := zR (some 157)) A dX11_ramp_178 rfl zuw_X11 (Nat.le_of_ble_eq_true rfl) zwd1318 (by decide) (zk_153 _) rfl ?_
      refine s_iload A dX11_ramp_181 rfl ?_
      obtain ⟨ox5, h⟩ := h
      refine z_iald A dX11_ramp_183 (zk_157 _) (Nat.le_of_ble_eq_true rfl) ox5 ?_
      refine s_iload A dX11_ramp_184 rfl ?_
      refine s_callS (M := mX11_amountOf) (n := 2) (d := 0) (mc := 0) (ms := 0) (av := [zI (zi μ 157 x6), zI x7]) (st := [zI x5]) A dX11_ramp_186 zwd1610 zwd1611 zwd100 zcd_X11_amountOf (Nat.le_of_ble_eq_true rfl) (Nat.le_of_ble_eq_true rfl) (Nat.le_refl _) ⟨Nat.le_of_ble_eq_true rfl, Nat.le_of_ble_eq_true rfl⟩ zhn_X11_amountOf rfl (Nat.le_of_ble_eq_true rfl) rfl (z_contI (fun v6 μ6 h => ?_) h)
      refine s_aload_n A dX11_ramp_189 rfl ?_
      refine s_getf (k := 11) (j := 10) (sl := true) (v := zR (some 157)) A dX11_ramp_190 rfl zuw_X11 (Nat.le_of_ble_eq_true rfl) zwd1318 (by decide) (zk_153 _) rfl ?_
      refine s_iload A dX11_ramp_193 rfl ?_
      refine s_iconst A dX11_ramp_195 ?_
      refine s_isub A dX11_ramp_196 ?_
      obtain ⟨ox7, h⟩ := h
      refine z_iald A dX11_ramp_197 (zk_157 _) (Nat.le_of_ble_eq_true rfl) ox7 ?_
      refine s_iload A dX11_ramp_198 rfl ?_
      refine s_callS (M := mX11_amountOf) (n := 2) (d := 0) (mc := 0) (ms := 0) (av := [zI (zi μ6 157 (x6 - 1)), zI x7]) (st := [zI v6, zI x5]) A dX11_ramp_200 zwd1610 zwd1611 zwd100 zcd_X11_amountOf (Nat.le_of_ble_eq_true rfl) (Nat.le_of_ble_eq_true rfl) (Nat.le_refl _) ⟨Nat.le_of_ble_eq_true rfl, Nat.le_of_ble_eq_true rfl⟩ zhn_X11_amountOf rfl (Nat.le_of_ble_eq_true rfl) rfl (z_contI (fun v8 μ8 h => ?_) h)
      refine s_isub A dX11_ramp_203 ?_
      obtain ⟨oz9, h⟩ := h
      refine z_mabs A dX11_ramp_204 zwd1524 zwd638 zwd105 zwd639 (Nat.le_of_ble_eq_true rfl) (Nat.le_of_ble_eq_true rfl) ⟨Nat.le_of_ble_eq_true rfl, Nat.le_of_ble_eq_true rfl⟩ oz9 ?_
      obtain ⟨oz10, h⟩ := h
      obtain ⟨oz11, h⟩ := h
      refine z_mmax A dX11_ramp_207 zwd1590 zwd506 zwd105 zwd507 (Nat.le_of_ble_eq_true rfl) (Nat.le_of_ble_eq_true rfl) ⟨Nat.le_of_ble_eq_true rfl, Nat.le_of_ble_eq_true rfl⟩ oz10 oz11 ?_
      refine s_istore (L' := [some (zR (some 153)), none, none, some (zI x3), some (zI x4), some (zI (max x5 (max (v6 - v8) (-(v6 - v8))))), some (zI x6), some (zI x7)]) A dX11_ramp_210 (Nat.le_of_ble_eq_true rfl) rfl ?_
      refine s_iinc (L' := [some (zR (some 153)), none, none, some (zI x3), some (zI x4), some (zI (max x5 (max (v6 - v8) (-(v6 - v8))))), some (zI x6), some (zI (x7 + 1))]) A dX11_ramp_212 rfl rfl ?_
      refine s_goto (tgt := 164) A dX11_ramp_215 (by decide) ?_
      exact h
set_option maxRecDepth 20000 in
theorem rX11_ramp_232 {G : zG} {F : Int → zM → Prop} {J : Nat → zS → Prop} {μ : zM} (C : zJ G true (12) 0 0 mX11_ramp (zKI F) J) (x5 : Int) (x6 : Int)
    (h : zin x6 ∧ ((8 < x6 → F x5 μ) ∧ (¬ (8 < x6) → (0 ≤ x6 ∧ x6 < 320) ∧ zin (zi μ 157 x6) ∧ qX11_tell G (zi μ 157 x6) μ (fun μ5 => J 232 ([some (zR (some 153)), none, none, none, none, some (zI x5), some (zI (x6 + 1)), none], [], μ5, 0, 0))))) : J 232 ([some (zR (some 153)), none, none, none, none, some (zI x5), some (zI x6), none], [], μ, 0, 0) := by
  obtain ⟨p, e, s, m, args, below, meth, c, A, hml, hr, hlk, hnm, rfl⟩ := C
  refine s_iload A dX11_ramp_232 rfl ?_
  refine s_bipush A dX11_ramp_234 rfl ?_
  obtain ⟨oz1, h⟩ := h
  refine z_icmp_gt (tgt := 257) A dX11_ramp_236 (by decide) oz1 ⟨by decide, by decide⟩ (fun c2 => ?_) (fun c2 => ?_)
  · have h := h.1 c2
    refine s_iload A dX11_ramp_257 rfl ?_
    exact s_iret A dX11_ramp_259 hr hlk (Nat.le_of_ble_eq_true rfl) (Nat.le_of_ble_eq_true rfl) ⟨_, rfl, h⟩
  · have h := h.2 c2
    refine s_aload_n A dX11_ramp_239 rfl ?_
    refine s_aload_n A dX11_ramp_240 rfl ?_
    refine s_getf (k := 11) (j := 10) (sl := true) (v := zR (some 157)) A dX11_ramp_241 rfl zuw_X11 (Nat.le_of_ble_eq_true rfl) zwd1318 (by decide) (zk_153 _) rfl ?_
    refine s_iload A dX11_ramp_244 rfl ?_
    obtain ⟨ox3, h⟩ := h
    refine z_iald A dX11_ramp_246 (zk_157 _) (Nat.le_of_ble_eq_true rfl) ox3 ?_
    obtain ⟨oz4, h⟩ := h
    refine z_i2l2 A dX11_ramp_247 oz4 ?_
    refine s_callV (a := 153) (k := 11) (N := 45) (sl := true) (M := mX11_tell) (n := 1) (d := 0) (mc := 0) (ms := 0) (av := [zL (zi μ 157 x6)]) (st := []) A dX11_ramp_248 rfl (by decide) (zk_153 _) zwd1613 zwd1615 zwd51 zwd100 zcd_X11_tell (Nat.le_of_ble_eq_true rfl) (Nat.le_of_ble_eq_true rfl) (Nat.le_refl _) ⟨Nat.le_of_ble_eq_true rfl, Nat.le_of_ble_eq_true rfl⟩ ⟨rfl, zhn_X11_tell⟩ rfl (Nat.le_of_ble_eq_true rfl) rfl (z_contV (fun μ5 h => ?_) h)
    refine s_iinc (L' := [some (zR (some 153)), none, none, none, none, some (zI x5), some (zI (x6 + 1)), none]) A dX11_ramp_251 rfl rfl ?_
    refine s_goto (tgt := 232) A dX11_ramp_254 (by decide) ?_
    exact h
theorem eX11_ramp {G : zG} {F : Int → zM → Prop} {μ : zM} {x1 : Int} {x2 : Int} (h : ∀ J, zJ G true (12) 0 0 mX11_ramp (zKI F) J → J 0 ([some (zR (some 153)), some (zI x1), some (zI x2), none, none, none, none, none], [], μ, 0, 0)) : qX11_ramp G x1 x2 μ F :=
  z_body (by decide +kernel) (Nat.le_of_ble_eq_true rfl) h
set_option maxRecDepth 20000 in
theorem rX11_neighbour_e {G : zG} {ph : Bool} {F : Int → zM → Prop} {J : Nat → zS → Prop} {μ : zM} (C : zJ G ph (2) 0 0 mX11_neighbour (zKI F) J) (x0 : Int) (x1 : Int)
    (h : zin x1 ∧ ((4 ≤ x1 → qX11_amountOf G ph x0 (7 - x1) μ (fun v3 μ3 => ((4 ≤ x1 → zin v3 ∧ ((¬ v3 = 8 → (0 ≤ 7 - x1 ∧ 7 - x1 < 4) ∧ F (x0 + (zta 8 (7 - x1))) μ3) ∧ (v3 = 8 → F (-1) μ3))) ∧ (¬ (4 ≤ x1) → zin v3 ∧ ((¬ v3 = 0 → (0 ≤ 7 - x1 ∧ 7 - x1 < 4) ∧ F (x0 - (zta 8 (7 - x1))) μ3) ∧ (v3 = 0 → F (-1) μ3)))))) ∧ (¬ (4 ≤ x1) → qX11_amountOf G ph x0 x1 μ (fun v11 μ11 => ((4 ≤ x1 → zin v11 ∧ ((¬ v11 = 8 → (0 ≤ x1 ∧ x1 < 4) ∧ F (x0 + (zta 8 x1)) μ11) ∧ (v11 = 8 → F (-1) μ11))) ∧ (¬ (4 ≤ x1) → zin v11 ∧ ((¬ v11 = 0 → (0 ≤ x1 ∧ x1 < 4) ∧ F (x0 - (zta 8 x1)) μ11) ∧ (v11 = 0 → F (-1) μ11)))))))) : J 0 ([some (zI x0), some (zI x1), none, none], [], μ, 0, 0) := by
  obtain ⟨p, e, s, m, args, below, meth, c, A, hml, hr, hlk, hnm, rfl⟩ := C
  refine s_iload_n A dX11_neighbour_0 rfl ?_
  refine s_iconst A dX11_neighbour_1 ?_
  obtain ⟨oz1, h⟩ := h
  refine z_icmp_ge (tgt := 9) A dX11_neighbour_2 (by decide) oz1 ⟨by decide, by decide⟩ (fun c2 => ?_) (fun c2 => ?_)
  · have h := h.1 c2
    refine s_bipush A dX11_neighbour_9 rfl ?_
    refine s_iload_n A dX11_neighbour_11 rfl ?_
    refine s_isub A dX11_neighbour_12 ?_
    refine s_istore_n (L' := [some (zI x0), some (zI x1), some (zI (7 - x1)), none]) A dX11_neighbour_13 (Nat.le_of_ble_eq_true rfl) rfl ?_
    refine s_iload_n A dX11_neighbour_14 rfl ?_
    refine s_iload_n A dX11_neighbour_15 rfl ?_
    refine s_callS (M := mX11_amountOf) (n := 2) (d := 0) (mc := 0) (ms := 0) (av := [zI x0, zI (7 - x1)]) (st := []) A dX11_neighbour_16 zwd1610 zwd1611 zwd100 zcd_X11_amountOf (Nat.le_of_ble_eq_true rfl) (Nat.le_of_ble_eq_true rfl) (Nat.le_refl _) ⟨Nat.le_of_ble_eq_true rfl, Nat.le_of_ble_eq_true rfl⟩ zhn_X11_amountOf rfl (Nat.le_of_ble_eq_true rfl) rfl (z_contI (fun v3 μ3 h => ?_) h)
    refine s_istore_n (L' := [some (zI x0), some (zI x1), some (zI (7 - x1)), some (zI v3)]) A dX11_neighbour_19 (Nat.le_of_ble_eq_true rfl) rfl ?_
    refine s_iload_n A dX11_neighbour_20 rfl ?_
    refine s_iconst A dX11_neighbour_21 ?_
    refine z_icmp_ge (tgt := 41) A dX11_neighbour_22 (by decide) oz1 ⟨by decide, by decide⟩ (fun c4 => ?_) (fun c4 => ?_)
    · have h := h.1 c4
      refine s_iload_n A dX11_neighbour_41 rfl ?_
      refine s_bipush A dX11_neighbour_42 rfl ?_
      obtain ⟨oz5, h⟩ := h
      refine z_icmp_ne (tgt := 51) A dX11_neighbour_44 (by decide) oz5 ⟨by decide, by decide⟩ (fun c6 => ?_) (fun c6 => ?_)
      · have h := h.1 c6
        refine s_iload_n A dX11_neighbour_51 rfl ?_
        refine s_getsT (t := 8) A dX11_neighbour_52 (by decide) zwd1306 ?_
        refine s_iload_n A dX11_neighbour_55 rfl ?_
        obtain ⟨ox7, h⟩ := h
        refine z_tald A dX11_neighbour_56 (by decide) (Nat.le_of_ble_eq_true rfl) ox7 ?_
        refine s_iadd A dX11_neighbour_57 ?_
        exact s_iret A dX11_neighbour_58 hr hlk (Nat.le_of_ble_eq_true rfl) (Nat.le_of_ble_eq_true rfl) ⟨_, rfl, h⟩
      · have h := h.2 c6
        refine s_iconst A dX11_neighbour_47 ?_
        refine s_goto (tgt := 58) A dX11_neighbour_48 (by decide) ?_
        exact s_iret A dX11_neighbour_58 hr hlk (Nat.le_of_ble_eq_true rfl) (Nat.le_of_ble_eq_true rfl) ⟨_, rfl, h⟩
    · have h := h.2 c4
      refine s_iload_n A dX11_neighbour_25 rfl ?_
      obtain ⟨oz8, h⟩ := h
      refine z_if_ne (tgt := 33) A dX11_neighbour_26 (by decide) oz8 (fun c9 => ?_) (fun c9 => ?_)
      · have h := h.1 c9
        refine s_iload_n A dX11_neighbour_33 rfl ?_
        refine s_getsT (t := 8) A dX11_neighbour_34 (by decide) zwd1306 ?_
        refine s_iload_n A dX11_neighbour_37 rfl ?_
        obtain ⟨ox10, h⟩ := h
        refine z_tald A dX11_neighbour_38 (by decide) (Nat.le_of_ble_eq_true rfl) ox10 ?_
        refine s_isub A dX11_neighbour_39 ?_
        exact s_iret A dX11_neighbour_40 hr hlk (Nat.le_of_ble_eq_true rfl) (Nat.le_of_ble_eq_true rfl) ⟨_, rfl, h⟩
      · have h := h.2 c9
        refine s_iconst A dX11_neighbour_29 ?_
        refine s_goto (tgt := 40) A dX11_neighbour_30 (by decide) ?_
        exact s_iret A dX11_neighbour_40 hr hlk (Nat.le_of_ble_eq_true rfl) (Nat.le_of_ble_eq_true rfl) ⟨_, rfl, h⟩
  · have h := h.2 c2
    refine s_iload_n A dX11_neighbour_5 rfl ?_
    refine s_goto (tgt := 13) A dX11_neighbour_6 (by decide) ?_
    refine s_istore_n (L' := [some (zI x0), some (zI x1), some (zI x1), none]) A dX11_neighbour_13 (Nat.le_of_ble_eq_true rfl) rfl ?_
    refine s_iload_n A dX11_neighbour_14 rfl ?_
    refine s_iload_n A dX11_neighbour_15 rfl ?_
    refine s_callS (M := mX11_amountOf) (n := 2) (d := 0) (mc := 0) (ms := 0) (av := [zI x0, zI x1]) (st := []) A dX11_neighbour_16 zwd1610 zwd1611 zwd100 zcd_X11_amountOf (Nat.le_of_ble_eq_true rfl) (Nat.le_of_ble_eq_true rfl) (Nat.le_refl _) ⟨Nat.le_of_ble_eq_true rfl, Nat.le_of_ble_eq_true rfl⟩ zhn_X11_amountOf rfl (Nat.le_of_ble_eq_true rfl) rfl (z_contI (fun v11 μ11 h => ?_) h)
    refine s_istore_n (L' := [some (zI x0), some (zI x1), some (zI x1), some (zI v11)]) A dX11_neighbour_19 (Nat.le_of_ble_eq_true rfl) rfl ?_
    refine s_iload_n A dX11_neighbour_20 rfl ?_
    refine s_iconst A dX11_neighbour_21 ?_
    refine z_icmp_ge (tgt := 41) A dX11_neighbour_22 (by decide) oz1 ⟨by decide, by decide⟩ (fun c12 => ?_) (fun c12 => ?_)
    · have h := h.1 c12
      refine s_iload_n A dX11_neighbour_41 rfl ?_
      refine s_bipush A dX11_neighbour_42 rfl ?_
      obtain ⟨oz13, h⟩ := h
      refine z_icmp_ne (tgt := 51) A dX11_neighbour_44 (by decide) oz13 ⟨by decide, by decide⟩ (fun c14 => ?_) (fun c14 => ?_)
      · have h := h.1 c14
        refine s_iload_n A dX11_neighbour_51 rfl ?_
        refine s_getsT (t := 8) A dX11_neighbour_52 (by decide) zwd1306 ?_
        refine s_iload_n A dX11_neighbour_55 rfl ?_
        obtain ⟨ox15, h⟩ := h
        refine z_tald A dX11_neighbour_56 (by decide) (Nat.le_of_ble_eq_true rfl) ox15 ?_
        refine s_iadd A dX11_neighbour_57 ?_
        exact s_iret A dX11_neighbour_58 hr hlk (Nat.le_of_ble_eq_true rfl) (Nat.le_of_ble_eq_true rfl) ⟨_, rfl, h⟩
      · have h := h.2 c14
        refine s_iconst A dX11_neighbour_47 ?_
        refine s_goto (tgt := 58) A dX11_neighbour_48 (by decide) ?_
        exact s_iret A dX11_neighbour_58 hr hlk (Nat.le_of_ble_eq_true rfl) (Nat.le_of_ble_eq_true rfl) ⟨_, rfl, h⟩
    · have h := h.2 c12
      refine s_iload_n A dX11_neighbour_25 rfl ?_
      obtain ⟨oz16, h⟩ := h
      refine z_if_ne (tgt := 33) A dX11_neighbour_26 (by decide) oz16 (fun c17 => ?_) (fun c17 => ?_)
      · have h := h.1 c17
        refine s_iload_n A dX11_neighbour_33 rfl ?_
        refine s_getsT (t := 8) A dX11_neighbour_34 (by decide) zwd1306 ?_
        refine s_iload_n A dX11_neighbour_37 rfl ?_
        obtain ⟨ox18, h⟩ := h
        refine z_tald A dX11_neighbour_38 (by decide) (Nat.le_of_ble_eq_true rfl) ox18 ?_
        refine s_isub A dX11_neighbour_39 ?_
        exact s_iret A dX11_neighbour_40 hr hlk (Nat.le_of_ble_eq_true rfl) (Nat.le_of_ble_eq_true rfl) ⟨_, rfl, h⟩
      · have h := h.2 c17
        refine s_iconst A dX11_neighbour_29 ?_
        refine s_goto (tgt := 40) A dX11_neighbour_30 (by decide) ?_
        exact s_iret A dX11_neighbour_40 hr hlk (Nat.le_of_ble_eq_true rfl) (Nat.le_of_ble_eq_true rfl) ⟨_, rfl, h⟩
theorem eX11_neighbour {G : zG} {ph : Bool} {F : Int → zM → Prop} {μ : zM} {x0 : Int} {x1 : Int} (h : ∀ J, zJ G ph (2) 0 0 mX11_neighbour (zKI F) J → J 0 ([some (zI x0), some (zI x1), none, none], [], μ, 0, 0)) : qX11_neighbour G ph x0 x1 μ F :=
  z_body (by decide +kernel) (Nat.le_of_ble_eq_true rfl) h
set_option maxRecDepth 20000 in
theorem rX11_layWays_e {G : zG} {F : zM → Prop} {J : Nat → zS → Prop} {μ : zM} (C : zJ G true (4) 0 0 mX11_layWays (zKV F) J) (x1 : Int) (x2 : Int)
    (h : J 2 ([some (zR (some 153)), some (zI x1), some (zI x2), some (zI 0), none, none, none], [], μ, 0, 0)) : J 0 ([some (zR (some 153)), some (zI x1), some (zI x2), none, none, none, none], [], μ, 0, 0) := by
  obtain ⟨p, e, s, m, args, below, meth, c, A, hml, hr, hlk, hnm, rfl⟩ := C
  refine s_iconst A dX11_layWays_0 ?_
  refine s_istore_n (L' := [some (zR (some 153)), some (zI x1), some (zI x2), some (zI 0), none, none, none]) A dX11_layWays_1 (Nat.le_of_ble_eq_true rfl) rfl ?_
  exact h
set_option maxRecDepth 20000 in
theorem rX11_layWays_2 {G : zG} {F : zM → Prop} {J : Nat → zS → Prop} {μ : zM} (C : zJ G true (4) 0 0 mX11_layWays (zKV F) J) (x1 : Int) (x2 : Int) (x3 : Int)
    (h : zin x3 ∧ ((6561 ≤ x3 → qX11_numberOf G true x1 (zup μ 168 0 x1) (fun v3 μ3 => (0 ≤ v3 ∧ v3 < 6561) ∧ J 44 ([some (zR (some 153)), none, some (zI x2), some (zI 1), some (zI 0), none, none], [], zup μ3 167 v3 0, 0, 0))) ∧ (¬ (6561 ≤ x3) → (0 ≤ x3 ∧ x3 < 6561) ∧ J 2 ([some (zR (some 153)), some (zI x1), some (zI x2), some (zI (x3 + 1)), none, none, none], [], zup μ 167 x3 (-1), 0, 0)))) : J 2 ([some (zR (some 153)), some (zI x1), some (zI x2), some (zI x3), none, none, none], [], μ, 0, 0) := by
  obtain ⟨p, e, s, m, args, below, meth, c, A, hml, hr, hlk, hnm, rfl⟩ := C
  refine s_iload_n A dX11_layWays_2 rfl ?_
  refine s_sipush A dX11_layWays_3 rfl ?_
  obtain ⟨oz1, h⟩ := h
  refine z_icmp_ge (tgt := 22) A dX11_layWays_6 (by decide) oz1 ⟨by decide, by decide⟩ (fun c2 => ?_) (fun c2 => ?_)
  · have h := h.1 c2
    refine s_iconst A dX11_layWays_22 ?_
    refine s_istore_n (L' := [some (zR (some 153)), some (zI x1), some (zI x2), some (zI 1), none, none, none]) A dX11_layWays_23 (Nat.le_of_ble_eq_true rfl) rfl ?_
    refine s_aload_n A dX11_layWays_24 rfl ?_
    refine s_getf (k := 11) (j := 28) (sl := true) (v := zR (some 168)) A dX11_layWays_25 rfl zuw_X11 (Nat.le_of_ble_eq_true rfl) zwd1336 (by decide) (zk_153 _) rfl ?_
    refine s_iconst A dX11_layWays_28 ?_
    refine s_iload_n A dX11_layWays_29 rfl ?_
    refine z_iast A dX11_layWays_30 (zk_168 _) (Nat.le_of_ble_eq_true rfl) ⟨by decide, by decide⟩ ?_
    refine s_aload_n A dX11_layWays_31 rfl ?_
    refine s_getf (k := 11) (j := 27) (sl := true) (v := zR (some 167)) A dX11_layWays_32 rfl zuw_X11 (Nat.le_of_ble_eq_true rfl) zwd1335 (by decide) (zk_153 _) rfl ?_
    refine s_iload_n A dX11_layWays_35 rfl ?_
    refine s_callS (M := mX11_numberOf) (n := 1) (d := 2) (mc := 0) (ms := 0) (av := [zI x1]) (st := [zR (some 167)]) A dX11_layWays_36 zwd1671 zwd1672 zwd100 zcd_X11_numberOf (Nat.le_of_ble_eq_true rfl) (Nat.le_of_ble_eq_true rfl) (Nat.le_refl _) ⟨Nat.le_of_ble_eq_true rfl, Nat.le_of_ble_eq_true rfl⟩ zhn_X11_numberOf rfl (Nat.le_of_ble_eq_true rfl) rfl (z_contI (fun v3 μ3 h => ?_) h)
    refine s_iconst A dX11_layWays_39 ?_
    obtain ⟨ox4, h⟩ := h
    refine z_iast A dX11_layWays_40 (zk_167 _) (Nat.le_of_ble_eq_true rfl) ox4 ?_
    refine s_iconst A dX11_layWays_41 ?_
    refine s_istore (L' := [some (zR (some 153)), some (zI x1), some (zI x2), some (zI 1), some (zI 0), none, none]) A dX11_layWays_42 (Nat.le_of_ble_eq_true rfl) rfl ?_
    exact z_wk (L' := [some (zR (some 153)), none, some (zI x2), some (zI 1), some (zI 0), none, none]) ⟨rfl, rfl, rfl, rfl, trivial⟩ h
  · have h := h.2 c2
    refine s_aload_n A dX11_layWays_9 rfl ?_
    refine s_getf (k := 11) (j := 27) (sl := true) (v := zR (some 167)) A dX11_layWays_10 rfl zuw_X11 (Nat.le_of_ble_eq_true rfl) zwd1335 (by decide) (zk_153 _) rfl ?_
    refine s_iload_n A dX11_layWays_13 rfl ?_
    refine s_iconst A dX11_layWays_14 ?_
    obtain ⟨ox5, h⟩ := h
    refine z_iast A dX11_layWays_15 (zk_167 _) (Nat.le_of_ble_eq_true rfl) ox5 ?_
    refine s_iinc (L' := [some (zR (some 153)), some (zI x1), some (zI x2), some (zI (x3 + 1)), none, none, none]) A dX11_layWays_16 rfl rfl ?_
    refine s_goto (tgt := 2) A dX11_layWays_19 (by decide) ?_
    exact h
set_option maxRecDepth 20000 in
theorem rX11_layWays_44 {G : zG} {F : zM → Prop} {J : Nat → zS → Prop} {μ : zM} (C : zJ G true (4) 0 0 mX11_layWays (zKV F) J) (x2 : Int) (x3 : Int) (x4 : Int)
    (h : zin x4 ∧ zin x3 ∧ ((x3 ≤ x4 → F μ) ∧ (¬ (x3 ≤ x4) → J 53 ([some (zR (some 153)), none, some (zI x2), some (zI x3), some (zI x4), some (zI 0), none], [], μ, 0, 0)))) : J 44 ([some (zR (some 153)), none, some (zI x2), some (zI x3), some (zI x4), none, none], [], μ, 0, 0) := by
  obtain ⟨p, e, s, m, args, below, meth, c, A, hml, hr, hlk, hnm, rfl⟩ := C
  refine s_iload A dX11_layWays_44 rfl ?_
  refine s_iload_n A dX11_layWays_46 rfl ?_
  obtain ⟨oz1, h⟩ := h
  obtain ⟨oz2, h⟩ := h
  refine z_icmp_ge (tgt := 179) A dX11_layWays_47 (by decide) oz1 oz2 (fun c3 => ?_) (fun c3 => ?_)
  · have h := h.1 c3
    exact s_vret A dX11_layWays_179 hr hlk (Nat.le_of_ble_eq_true rfl) (Nat.le_of_ble_eq_true rfl) ⟨rfl, h⟩
  · have h := h.2 c3
    refine s_iconst A dX11_layWays_50 ?_
    refine s_istore (L' := [some (zR (some 153)), none, some (zI x2), some (zI x3), some (zI x4), some (zI 0), none]) A dX11_layWays_51 (Nat.le_of_ble_eq_true rfl) rfl ?_
    exact h
set_option maxRecDepth 20000 in
theorem rX11_layWays_53 {G : zG} {F : zM → Prop} {J : Nat → zS → Prop} {μ : zM} (C : zJ G true (4) 0 0 mX11_layWays (zKV F) J) (x2 : Int) (x3 : Int) (x4 : Int) (x5 : Int)
    (h : zin x5 ∧ ((8 ≤ x5 → J 44 ([some (zR (some 153)), none, some (zI x2), some (zI x3), some (zI (x4 + 1)), none, none], [], μ, 0, 0)) ∧ (¬ (8 ≤ x5) → (0 ≤ x4 ∧ x4 < 6561) ∧ qX11_neighbour G true (zi μ 168 x4) x5 μ (fun v4 μ4 => zin v4 ∧ ((v4 = -1 → J 53 ([some (zR (some 153)), none, some (zI x2), some (zI x3), some (zI x4), some (zI (x5 + 1)), none], [], μ4, 0, 0)) ∧ (¬ (v4 = -1) → qX11_open G v4 μ4 (fun v7 μ7 => zin v7 ∧ ((v7 = 0 → J 53 ([some (zR (some 153)), none, some (zI x2), some (zI x3), some (zI x4), some (zI (x5 + 1)), none], [], μ7, 0, 0)) ∧ (¬ (v7 = 0) → qX11_numberOf G true v4 μ7 (fun v10 μ10 => (0 ≤ v10 ∧ v10 < 6561) ∧ zin (zi μ10 167 v10) ∧ ((¬ zi μ10 167 v10 = -1 → J 53 ([some (zR (some 153)), none, some (zI x2), some (zI x3), some (zI x4), some (zI (x5 + 1)), none], [], μ10, 0, 0)) ∧ (zi μ10 167 v10 = -1 → qX11_numberOf G true v4 μ10 (fun v14 μ14 => qX11_numberOf G true (zi μ14 168 x4) μ14 (fun v15 μ15 => qX11_between G v14 v15 μ15 (fun v16 μ16 => zin v16 ∧ zin x2 ∧ ((v16 ≤ x2 → qX11_numberOf G true v4 μ16 (fun v20 μ20 => qX11_numberOf G true (zi μ20 168 x4) μ20 (fun v21 μ21 => (0 ≤ v21 ∧ v21 < 6561) ∧ (0 ≤ v20 ∧ v20 < 6561) ∧ (0 ≤ x3 ∧ x3 < 6561) ∧ J 53 ([some (zR (some 153)), none, some (zI x2), some (zI (x3 + 1)), some (zI x4), some (zI (x5 + 1)), none], [], zup (zup μ21 167 v20 ((zi μ21 167 v21) + 1)) 168 x3 v4, 0, 0)))) ∧ (¬ (v16 ≤ x2) → J 53 ([some (zR (some 153)), none, some (zI x2), some (zI x3), some (zI x4), some (zI (x5 + 1)), none], [], μ16, 0, 0)))))))))))))))))) : J 53 ([some (zR (some 153)), none, some (zI x2), some (zI x3), some (zI x4), some (zI x5), none], [], μ, 0, 0) := by
  obtain ⟨p, e, s, m, args, below, meth, c, A, hml, hr, hlk, hnm, rfl⟩ := C
  refine s_iload A dX11_layWays_53 rfl ?_
  refine s_bipush A dX11_layWays_55 rfl ?_
  obtain ⟨oz1, h⟩ := h
  refine z_icmp_ge (tgt := 173) A dX11_layWays_57 (by decide) oz1 ⟨by decide, by decide⟩ (fun c2 => ?_) (fun c2 => ?_)
  · have h := h.1 c2
    refine s_iinc (L' := [some (zR (some 153)), none, some (zI x2), some (zI x3), some (zI (x4 + 1)), some (zI x5), none]) A dX11_layWays_173 rfl rfl ?_
    refine s_goto (tgt := 44) A dX11_layWays_176 (by decide) ?_
    exact z_wk (L' := [some (zR (some 153)), none, some (zI x2), some (zI x3), some (zI (x4 + 1)), none, none]) ⟨rfl, rfl, rfl, rfl, trivial⟩ h
  · have h := h.2 c2
    refine s_aload_n A dX11_layWays_60 rfl ?_
    refine s_getf (k := 11) (j := 28) (sl := true) (v := zR (some 168)) A dX11_layWays_61 rfl zuw_X11 (Nat.le_of_ble_eq_true rfl) zwd1336 (by decide) (zk_153 _) rfl ?_
    refine s_iload A dX11_layWays_64 rfl ?_
    obtain ⟨ox3, h⟩ := h
    refine z_iald A dX11_layWays_66 (zk_168 _) (Nat.le_of_ble_eq_true rfl) ox3 ?_
    refine s_iload A dX11_layWays_67 rfl ?_
    refine s_callS (M := mX11_neighbour) (n := 2) (d := 2) (mc := 0) (ms := 0) (av := [zI (zi μ 168 x4), zI x5]) (st := []) A dX11_layWays_69 zwd1745 zwd1746 zwd100 zcd_X11_neighbour (Nat.le_of_ble_eq_true rfl) (Nat.le_of_ble_eq_true rfl) (Nat.le_refl _) ⟨Nat.le_of_ble_eq_true rfl, Nat.le_of_ble_eq_true rfl⟩ zhn_X11_neighbour rfl (Nat.le_of_ble_eq_true rfl) rfl (z_contI (fun v4 μ4 h => ?_) h)
    refine s_istore (L' := [some (zR (some 153)), none, some (zI x2), some (zI x3), some (zI x4), some (zI x5), some (zI v4)]) A dX11_layWays_72 (Nat.le_of_ble_eq_true rfl) rfl ?_
    refine s_iload A dX11_layWays_74 rfl ?_
    refine s_iconst A dX11_layWays_76 ?_
    obtain ⟨oz5, h⟩ := h
    refine z_icmp_eq (tgt := 167) A dX11_layWays_77 (by decide) oz5 ⟨by decide, by decide⟩ (fun c6 => ?_) (fun c6 => ?_)
    · have h := h.1 c6
      refine s_iinc (L' := [some (zR (some 153)), none, some (zI x2), some (zI x3), some (zI x4), some (zI (x5 + 1)), some (zI v4)]) A dX11_layWays_167 rfl rfl ?_
      refine s_goto (tgt := 53) A dX11_layWays_170 (by decide) ?_
      exact z_wk (L' := [some (zR (some 153)), none, some (zI x2), some (zI x3), some (zI x4), some (zI (x5 + 1)), none]) ⟨rfl, rfl, rfl, rfl, rfl, trivial⟩ h
    · have h := h.2 c6
      refine s_aload_n A dX11_layWays_80 rfl ?_
      refine s_iload A dX11_layWays_81 rfl ?_
      refine s_callV (a := 153) (k := 11) (N := 45) (sl := true) (M := mX11_open) (n := 1) (d := 3) (mc := 0) (ms := 0) (av := [zI v4]) (st := []) A dX11_layWays_83 rfl (by decide) (zk_153 _) zwd1647 zwd1649 zwd56 zwd100 zcd_X11_open (Nat.le_of_ble_eq_true rfl) (Nat.le_of_ble_eq_true rfl) (Nat.le_refl _) ⟨Nat.le_of_ble_eq_true rfl, Nat.le_of_ble_eq_true rfl⟩ ⟨rfl, zhn_X11_open⟩ rfl (Nat.le_of_ble_eq_true rfl) rfl (z_contI (fun v7 μ7 h => ?_) h)
      obtain ⟨oz8, h⟩ := h
      refine z_if_eq (tgt := 167) A dX11_layWays_86 (by decide) oz8 (fun c9 => ?_) (fun c9 => ?_)
      · have h := h.1 c9
        refine s_iinc (L' := [some (zR (some 153)), none, some (zI x2), some (zI x3), some (zI x4), some (zI (x5 + 1)), some (zI v4)]) A dX11_layWays_167 rfl rfl ?_
        refine s_goto (tgt := 53) A dX11_layWays_170 (by decide) ?_
        exact z_wk (L' := [some (zR (some 153)), none, some (zI x2), some (zI x3), some (zI x4), some (zI (x5 + 1)), none]) ⟨rfl, rfl, rfl, rfl, rfl, trivial⟩ h
      · have h := h.2 c9
        refine s_aload_n A dX11_layWays_89 rfl ?_
        refine s_getf (k := 11) (j := 27) (sl := true) (v := zR (some 167)) A dX11_layWays_90 rfl zuw_X11 (Nat.le_of_ble_eq_true rfl) zwd1335 (by decide) (zk_153 _) rfl ?_
        refine s_iload A dX11_layWays_93 rfl ?_
        refine s_callS (M := mX11_numberOf) (n := 1) (d := 2) (mc := 0) (ms := 0) (av := [zI v4]) (st := [zR (some 167)]) A dX11_layWays_95 zwd1671 zwd1672 zwd100 zcd_X11_numberOf (Nat.le_of_ble_eq_true rfl) (Nat.le_of_ble_eq_true rfl) (Nat.le_refl _) ⟨Nat.le_of_ble_eq_true rfl, Nat.le_of_ble_eq_true rfl⟩ zhn_X11_numberOf rfl (Nat.le_of_ble_eq_true rfl) rfl (z_contI (fun v10 μ10 h => ?_) h)
        obtain ⟨ox11, h⟩ := h
        refine z_iald A dX11_layWays_98 (zk_167 _) (Nat.le_of_ble_eq_true rfl) ox11 ?_
        refine s_iconst A dX11_layWays_99 ?_
        obtain ⟨oz12, h⟩ := h
        refine z_icmp_ne (tgt := 167) A dX11_layWays_100 (by decide) oz12 ⟨by decide, by decide⟩ (fun c13 => ?_) (fun c13 => ?_)
        · have h := h.1 c13
          refine s_iinc (L' := [some (zR (some 153)), none, some (zI x2), some (zI x3), some (zI x4), some (zI (x5 + 1)), some (zI v4)]) A dX11_layWays_167 rfl rfl ?_
          refine s_goto (tgt := 53) A dX11_layWays_170 (by decide) ?_
          exact z_wk (L' := [some (zR (some 153)), none, some (zI x2), some (zI x3), some (zI x4), some (zI (x5 + 1)), none]) ⟨rfl, rfl, rfl, rfl, rfl, trivial⟩ h
        · have h := h.2 c13
          refine s_aload_n A dX11_layWays_103 rfl ?_
          refine s_iload A dX11_layWays_104 rfl ?_
          refine s_callS (M := mX11_numberOf) (n := 1) (d := 2) (mc := 0) (ms := 0) (av := [zI v4]) (st := [zR (some 153)]) A dX11_layWays_106 zwd1671 zwd1672 zwd100 zcd_X11_numberOf (Nat.le_of_ble_eq_true rfl) (Nat.le_of_ble_eq_true rfl) (Nat.le_refl _) ⟨Nat.le_of_ble_eq_true rfl, Nat.le_of_ble_eq_true rfl⟩ zhn_X11_numberOf rfl (Nat.le_of_ble_eq_true rfl) rfl (z_contI (fun v14 μ14 h => ?_) h)
          refine s_aload_n A dX11_layWays_109 rfl ?_
          refine s_getf (k := 11) (j := 28) (sl := true) (v := zR (some 168)) A dX11_layWays_110 rfl zuw_X11 (Nat.le_of_ble_eq_true rfl) zwd1336 (by decide) (zk_153 _) rfl ?_
          refine s_iload A dX11_layWays_113 rfl ?_
          refine z_iald A dX11_layWays_115 (zk_168 _) (Nat.le_of_ble_eq_true rfl) ox3 ?_
          refine s_callS (M := mX11_numberOf) (n := 1) (d := 2) (mc := 0) (ms := 0) (av := [zI (zi μ14 168 x4)]) (st := [zI v14, zR (some 153)]) A dX11_layWays_116 zwd1671 zwd1672 zwd100 zcd_X11_numberOf (Nat.le_of_ble_eq_true rfl) (Nat.le_of_ble_eq_true rfl) (Nat.le_refl _) ⟨Nat.le_of_ble_eq_true rfl, Nat.le_of_ble_eq_true rfl⟩ zhn_X11_numberOf rfl (Nat.le_of_ble_eq_true rfl) rfl (z_contI (fun v15 μ15 h => ?_) h)
          refine s_callV (a := 153) (k := 11) (N := 45) (sl := true) (M := mX11_between) (n := 2) (d := 3) (mc := 0) (ms := 0) (av := [zI v14, zI v15]) (st := []) A dX11_layWays_119 rfl (by decide) (zk_153 _) zwd1748 zwd1750 zwd72 zwd100 zcd_X11_between (Nat.le_of_ble_eq_true rfl) (Nat.le_of_ble_eq_true rfl) (Nat.le_refl _) ⟨Nat.le_of_ble_eq_true rfl, Nat.le_of_ble_eq_true rfl⟩ ⟨rfl, zhn_X11_between⟩ rfl (Nat.le_of_ble_eq_true rfl) rfl (z_contI (fun v16 μ16 h => ?_) h)
          refine s_iload_n A dX11_layWays_122 rfl ?_
          obtain ⟨oz17, h⟩ := h
          obtain ⟨oz18, h⟩ := h
          refine z_icmp_le (tgt := 129) A dX11_layWays_123 (by decide) oz17 oz18 (fun c19 => ?_) (fun c19 => ?_)
          · have h := h.1 c19
            refine s_aload_n A dX11_layWays_129 rfl ?_
            refine s_getf (k := 11) (j := 27) (sl := true) (v := zR (some 167)) A dX11_layWays_130 rfl zuw_X11 (Nat.le_of_ble_eq_true rfl) zwd1335 (by decide) (zk_153 _) rfl ?_
            refine s_iload A dX11_layWays_133 rfl ?_
            refine s_callS (M := mX11_numberOf) (n := 1) (d := 2) (mc := 0) (ms := 0) (av := [zI v4]) (st := [zR (some 167)]) A dX11_layWays_135 zwd1671 zwd1672 zwd100 zcd_X11_numberOf (Nat.le_of_ble_eq_true rfl) (Nat.le_of_ble_eq_true rfl) (Nat.le_refl _) ⟨Nat.le_of_ble_eq_true rfl, Nat.le_of_ble_eq_true rfl⟩ zhn_X11_numberOf rfl (Nat.le_of_ble_eq_true rfl) rfl (z_contI (fun v20 μ20 h => ?_) h)
            refine s_aload_n A dX11_layWays_138 rfl ?_
            refine s_getf (k := 11) (j := 27) (sl := true) (v := zR (some 167)) A dX11_layWays_139 rfl zuw_X11 (Nat.le_of_ble_eq_true rfl) zwd1335 (by decide) (zk_153 _) rfl ?_
            refine s_aload_n A dX11_layWays_142 rfl ?_
            refine s_getf (k := 11) (j := 28) (sl := true) (v := zR (some 168)) A dX11_layWays_143 rfl zuw_X11 (Nat.le_of_ble_eq_true rfl) zwd1336 (by decide) (zk_153 _) rfl ?_
            refine s_iload A dX11_layWays_146 rfl ?_
            refine z_iald A dX11_layWays_148 (zk_168 _) (Nat.le_of_ble_eq_true rfl) ox3 ?_
            refine s_callS (M := mX11_numberOf) (n := 1) (d := 2) (mc := 0) (ms := 0) (av := [zI (zi μ20 168 x4)]) (st := [zR (some 167), zI v20, zR (some 167)]) A dX11_layWays_149 zwd1671 zwd1672 zwd100 zcd_X11_numberOf (Nat.le_of_ble_eq_true rfl) (Nat.le_of_ble_eq_true rfl) (Nat.le_refl _) ⟨Nat.le_of_ble_eq_true rfl, Nat.le_of_ble_eq_true rfl⟩ zhn_X11_numberOf rfl (Nat.le_of_ble_eq_true rfl) rfl (z_contI (fun v21 μ21 h => ?_) h)
            obtain ⟨ox22, h⟩ := h
            refine z_iald A dX11_layWays_152 (zk_167 _) (Nat.le_of_ble_eq_true rfl) ox22 ?_
            refine s_iconst A dX11_layWays_153 ?_
            refine s_iadd A dX11_layWays_154 ?_
            obtain ⟨ox23, h⟩ := h
            refine z_iast A dX11_layWays_155 (zk_167 _) (Nat.le_of_ble_eq_true rfl) ox23 ?_
            refine s_aload_n A dX11_layWays_156 rfl ?_
            refine s_getf (k := 11) (j := 28) (sl := true) (v := zR (some 168)) A dX11_layWays_157 rfl zuw_X11 (Nat.le_of_ble_eq_true rfl) zwd1336 (by decide) (zk_153 _) rfl ?_
            refine s_iload_n A dX11_layWays_160 rfl ?_
            refine s_iload A dX11_layWays_161 rfl ?_
            obtain ⟨ox24, h⟩ := h
            refine z_iast A dX11_layWays_163 (zk_168 _) (Nat.le_of_ble_eq_true rfl) ox24 ?_
            refine s_iinc (L' := [some (zR (some 153)), none, some (zI x2), some (zI (x3 + 1)), some (zI x4), some (zI x5), some (zI v4)]) A dX11_layWays_164 rfl rfl ?_
            refine s_iinc (L' := [some (zR (some 153)), none, some (zI x2), some (zI (x3 + 1)), some (zI x4), some (zI (x5 + 1)), some (zI v4)]) A dX11_layWays_167 rfl rfl ?_
            refine s_goto (tgt := 53) A dX11_layWays_170 (by decide) ?_
            exact z_wk (L' := [some (zR (some 153)), none, some (zI x2), some (zI (x3 + 1)), some (zI x4), some (zI (x5 + 1)), none]) ⟨rfl, rfl, rfl, rfl, rfl, trivial⟩ h
          · have h := h.2 c19
            refine s_goto (tgt := 167) A dX11_layWays_126 (by decide) ?_
            refine s_iinc (L' := [some (zR (some 153)), none, some (zI x2), some (zI x3), some (zI x4), some (zI (x5 + 1)), some (zI v4)]) A dX11_layWays_167 rfl rfl ?_
            refine s_goto (tgt := 53) A dX11_layWays_170 (by decide) ?_
            exact z_wk (L' := [some (zR (some 153)), none, some (zI x2), some (zI x3), some (zI x4), some (zI (x5 + 1)), none]) ⟨rfl, rfl, rfl, rfl, rfl, trivial⟩ h
theorem eX11_layWays {G : zG} {F : zM → Prop} {μ : zM} {x1 : Int} {x2 : Int} (h : ∀ J, zJ G true (4) 0 0 mX11_layWays (zKV F) J → J 0 ([some (zR (some 153)), some (zI x1), some (zI x2), none, none, none, none], [], μ, 0, 0)) : qX11_layWays G x1 x2 μ F :=
  z_body (by decide +kernel) (Nat.le_of_ble_eq_true rfl) h
set_option maxRecDepth 20000 in
theorem rX11_way_e {G : zG} {F : Int → zM → Prop} {J : Nat → zS → Prop} {μ : zM} (C : zJ G true (12) 0 0 mX11_way (zKI F) J) (x1 : Int) (x2 : Int) (x3 : Int)
    (h : qX11_isCode G true x1 (zup μ 153 5 0) (fun v1 μ1 => zin v1 ∧ ((v1 = 0 → F (-1) μ1) ∧ (¬ (v1 = 0) → qX11_isCode G true x2 μ1 (fun v4 μ4 => zin v4 ∧ ((¬ v4 = 0 → qX11_open G x1 μ4 (fun v7 μ7 => zin v7 ∧ ((v7 = 0 → F (-2) μ7) ∧ (¬ (v7 = 0) → qX11_open G x2 μ7 (fun v10 μ10 => zin v10 ∧ ((¬ v10 = 0 → qX11_layColours G 154 μ10 (fun μ13 => qX11_layWays G x2 x3 μ13 (fun μ14 => qX11_numberOf G true x1 μ14 (fun v15 μ15 => (0 ≤ v15 ∧ v15 < 6561) ∧ zin (zi μ15 167 v15) ∧ ((¬ zi μ15 167 v15 = -1 → J 82 ([some (zR (some 153)), some (zI x1), none, some (zI x3), some (zI (zi μ15 167 v15)), some (zI 0), none], [], zup μ15 153 4 0, 0, 0)) ∧ (zi μ15 167 v15 = -1 → F (-2) μ15)))))) ∧ (v10 = 0 → F (-2) μ10))))))) ∧ (v4 = 0 → F (-1) μ4))))))) : J 0 ([some (zR (some 153)), some (zI x1), some (zI x2), some (zI x3), none, none, none], [], μ, 0, 0) := by
  obtain ⟨p, e, s, m, args, below, meth, c, A, hml, hr, hlk, hnm, rfl⟩ := C
  refine s_aload_n A dX11_way_0 rfl ?_
  refine s_iconst A dX11_way_1 ?_
  refine z_putI (k := 11) (j := 5) (sl := true) A dX11_way_2 rfl zuw_X11 (Nat.le_of_ble_eq_true rfl) zwd1313 (by decide) (zk_153 _) tyX11 tyX11_ok nmX11 rfl rfl rfl ?_
  refine s_iload_n A dX11_way_5 rfl ?_
  refine s_callS (M := mX11_isCode) (n := 1) (d := 2) (mc := 0) (ms := 0) (av := [zI x1]) (st := []) A dX11_way_6 zwd1595 zwd1596 zwd100 zcd_X11_isCode (Nat.le_of_ble_eq_true rfl) (Nat.le_of_ble_eq_true rfl) (Nat.le_refl _) ⟨Nat.le_of_ble_eq_true rfl, Nat.le_of_ble_eq_true rfl⟩ zhn_X11_isCode rfl (Nat.le_of_ble_eq_true rfl) rfl (z_contI (fun v1 μ1 h => ?_) h)
  obtain ⟨oz2, h⟩ := h
  refine z_if_eq (tgt := 19) A dX11_way_9 (by decide) oz2 (fun c3 => ?_) (fun c3 => ?_)
  · have h := h.1 c3
    refine s_iconst A dX11_way_19 ?_
    exact s_iret A dX11_way_20 hr hlk (Nat.le_of_ble_eq_true rfl) (Nat.le_of_ble_eq_true rfl) ⟨_, rfl, h⟩
  · have h := h.2 c3
    refine s_iload_n A dX11_way_12 rfl ?_
    refine s_callS (M := mX11_isCode) (n := 1) (d := 2) (mc := 0) (ms := 0) (av := [zI x2]) (st := []) A dX11_way_13 zwd1595 zwd1596 zwd100 zcd_X11_isCode (Nat.le_of_ble_eq_true rfl) (Nat.le_of_ble_eq_true rfl) (Nat.le_refl _) ⟨Nat.le_of_ble_eq_true rfl, Nat.le_of_ble_eq_true rfl⟩ zhn_X11_isCode rfl (Nat.le_of_ble_eq_true rfl) rfl (z_contI (fun v4 μ4 h => ?_) h)
    obtain ⟨oz5, h⟩ := h
    refine z_if_ne (tgt := 21) A dX11_way_16 (by decide) oz5 (fun c6 => ?_) (fun c6 => ?_)
    · have h := h.1 c6
      refine s_aload_n A dX11_way_21 rfl ?_
      refine s_iload_n A dX11_way_22 rfl ?_
      refine s_callV (a := 153) (k := 11) (N := 45) (sl := true) (M := mX11_open) (n := 1) (d := 3) (mc := 0) (ms := 0) (av := [zI x1]) (st := []) A dX11_way_23 rfl (by decide) (zk_153 _) zwd1647 zwd1649 zwd56 zwd100 zcd_X11_open (Nat.le_of_ble_eq_true rfl) (Nat.le_of_ble_eq_true rfl) (Nat.le_refl _) ⟨Nat.le_of_ble_eq_true rfl, Nat.le_of_ble_eq_true rfl⟩ ⟨rfl, zhn_X11_open⟩ rfl (Nat.le_of_ble_eq_true rfl) rfl (z_contI (fun v7 μ7 h => ?_) h)
      obtain ⟨oz8, h⟩ := h
      refine z_if_eq (tgt := 37) A dX11_way_26 (by decide) oz8 (fun c9 => ?_) (fun c9 => ?_)
      · have h := h.1 c9
        refine s_bipush A dX11_way_37 rfl ?_
        exact s_iret A dX11_way_39 hr hlk (Nat.le_of_ble_eq_true rfl) (Nat.le_of_ble_eq_true rfl) ⟨_, rfl, h⟩
      · have h := h.2 c9
        refine s_aload_n A dX11_way_29 rfl ?_
        refine s_iload_n A dX11_way_30 rfl ?_
        refine s_callV (a := 153) (k := 11) (N := 45) (sl := true) (M := mX11_open) (n := 1) (d := 3) (mc := 0) (ms := 0) (av := [zI x2]) (st := []) A dX11_way_31 rfl (by decide) (zk_153 _) zwd1647 zwd1649 zwd56 zwd100 zcd_X11_open (Nat.le_of_ble_eq_true rfl) (Nat.le_of_ble_eq_true rfl) (Nat.le_refl _) ⟨Nat.le_of_ble_eq_true rfl, Nat.le_of_ble_eq_true rfl⟩ ⟨rfl, zhn_X11_open⟩ rfl (Nat.le_of_ble_eq_true rfl) rfl (z_contI (fun v10 μ10 h => ?_) h)
        obtain ⟨oz11, h⟩ := h
        refine z_if_ne (tgt := 40) A dX11_way_34 (by decide) oz11 (fun c12 => ?_) (fun c12 => ?_)
        · have h := h.1 c12
          refine s_aload_n A dX11_way_40 rfl ?_
          refine s_aload_n A dX11_way_41 rfl ?_
          refine s_getf (k := 11) (j := 0) (sl := true) (v := zR (some 154)) A dX11_way_42 rfl zuw_X11 (Nat.le_of_ble_eq_true rfl) zwd1308 (by decide) (zk_153 _) rfl ?_
          refine s_callV (a := 153) (k := 11) (N := 45) (sl := true) (M := mX11_layColours) (n := 1) (d := 11) (mc := 0) (ms := 0) (av := [zR (some 154)]) (st := []) A dX11_way_45 rfl (by decide) (zk_153 _) zwd1643 zwd1645 zwd55 zwd100 zcd_X11_layColours (Nat.le_of_ble_eq_true rfl) (Nat.le_of_ble_eq_true rfl) (Nat.le_refl _) ⟨Nat.le_of_ble_eq_true rfl, Nat.le_of_ble_eq_true rfl⟩ ⟨rfl, zhn_X11_layColours⟩ rfl (Nat.le_of_ble_eq_true rfl) rfl (z_contV (fun μ13 h => ?_) h)
          refine s_aload_n A dX11_way_48 rfl ?_
          refine s_iload_n A dX11_way_49 rfl ?_
          refine s_iload_n A dX11_way_50 rfl ?_
          refine s_callV (a := 153) (k := 11) (N := 45) (sl := true) (M := mX11_layWays) (n := 2) (d := 4) (mc := 0) (ms := 0) (av := [zI x2, zI x3]) (st := []) A dX11_way_51 rfl (by decide) (zk_153 _) zwd1741 zwd1743 zwd71 zwd100 zcd_X11_layWays (Nat.le_of_ble_eq_true rfl) (Nat.le_of_ble_eq_true rfl) (Nat.le_refl _) ⟨Nat.le_of_ble_eq_true rfl, Nat.le_of_ble_eq_true rfl⟩ ⟨rfl, zhn_X11_layWays⟩ rfl (Nat.le_of_ble_eq_true rfl) rfl (z_contV (fun μ14 h => ?_) h)
          refine s_aload_n A dX11_way_54 rfl ?_
          refine s_getf (k := 11) (j := 27) (sl := true) (v := zR (some 167)) A dX11_way_55 rfl zuw_X11 (Nat.le_of_ble_eq_true rfl) zwd1335 (by decide) (zk_153 _) rfl ?_
          refine s_iload_n A dX11_way_58 rfl ?_
          refine s_callS (M := mX11_numberOf) (n := 1) (d := 2) (mc := 0) (ms := 0) (av := [zI x1]) (st := [zR (some 167)]) A dX11_way_59 zwd1671 zwd1672 zwd100 zcd_X11_numberOf (Nat.le_of_ble_eq_true rfl) (Nat.le_of_ble_eq_true rfl) (Nat.le_refl _) ⟨Nat.le_of_ble_eq_true rfl, Nat.le_of_ble_eq_true rfl⟩ zhn_X11_numberOf rfl (Nat.le_of_ble_eq_true rfl) rfl (z_contI (fun v15 μ15 h => ?_) h)
          obtain ⟨ox16, h⟩ := h
          refine z_iald A dX11_way_62 (zk_167 _) (Nat.le_of_ble_eq_true rfl) ox16 ?_
          refine s_istore (L' := [some (zR (some 153)), some (zI x1), some (zI x2), some (zI x3), some (zI (zi μ15 167 v15)), none, none]) A dX11_way_63 (Nat.le_of_ble_eq_true rfl) rfl ?_
          refine s_iload A dX11_way_65 rfl ?_
          refine s_iconst A dX11_way_67 ?_
          obtain ⟨oz17, h⟩ := h
          refine z_icmp_ne (tgt := 74) A dX11_way_68 (by decide) oz17 ⟨by decide, by decide⟩ (fun c18 => ?_) (fun c18 => ?_)
          · have h := h.1 c18
            refine s_aload_n A dX11_way_74 rfl ?_
            refine s_iconst A dX11_way_75 ?_
            refine z_putI (k := 11) (j := 4) (sl := true) A dX11_way_76 rfl zuw_X11 (Nat.le_of_ble_eq_true rfl) zwd1312 (by decide) (zk_153 _) tyX11 tyX11_ok nmX11 rfl rfl rfl ?_
            refine s_iconst A dX11_way_79 ?_
            refine s_istore (L' := [some (zR (some 153)), some (zI x1), some (zI x2), some (zI x3), some (zI (zi μ15 167 v15)), some (zI 0), none]) A dX11_way_80 (Nat.le_of_ble_eq_true rfl) rfl ?_
            exact z_wk (L' := [some (zR (some 153)), some (zI x1), none, some (zI x3), some (zI (zi μ15 167 v15)), some (zI 0), none]) ⟨rfl, rfl, rfl, rfl, rfl, trivial⟩ h
          · have h := h.2 c18
            refine s_bipush A dX11_way_71 rfl ?_
            exact s_iret A dX11_way_73 hr hlk (Nat.le_of_ble_eq_true rfl) (Nat.le_of_ble_eq_true rfl) ⟨_, rfl, h⟩
        · have h := h.2 c12
          refine s_bipush A dX11_way_37 rfl ?_
          exact s_iret A dX11_way_39 hr hlk (Nat.le_of_ble_eq_true rfl) (Nat.le_of_ble_eq_true rfl) ⟨_, rfl, h⟩
    · have h := h.2 c6
      refine s_iconst A dX11_way_19 ?_
      exact s_iret A dX11_way_20 hr hlk (Nat.le_of_ble_eq_true rfl) (Nat.le_of_ble_eq_true rfl) ⟨_, rfl, h⟩
set_option maxRecDepth 20000 in
theorem rX11_way_82 {G : zG} {F : Int → zM → Prop} {J : Nat → zS → Prop} {μ : zM} (C : zJ G true (12) 0 0 mX11_way (zKI F) J) (x1 : Int) (x3 : Int) (x4 : Int) (x5 : Int)
    (h : zin x5 ∧ ((8 ≤ x5 → F x4 μ) ∧ (¬ (8 ≤ x5) → zin x4 ∧ ((x4 ≤ 0 → F x4 μ) ∧ (¬ (x4 ≤ 0) → zin (zi μ 153 4) ∧ ((¬ zi μ 153 4 = 0 → F x4 μ) ∧ (zi μ 153 4 = 0 → qX11_neighbour G true x1 x5 μ (fun v7 μ7 => zin v7 ∧ ((v7 = -1 → J 82 ([some (zR (some 153)), some (zI x1), none, some (zI x3), some (zI x4), some (zI (x5 + 1)), none], [], μ7, 0, 0)) ∧ (¬ (v7 = -1) → qX11_open G v7 μ7 (fun v10 μ10 => zin v10 ∧ ((v10 = 0 → J 82 ([some (zR (some 153)), some (zI x1), none, some (zI x3), some (zI x4), some (zI (x5 + 1)), none], [], μ10, 0, 0)) ∧ (¬ (v10 = 0) → qX11_numberOf G true v7 μ10 (fun v13 μ13 => (0 ≤ v13 ∧ v13 < 6561) ∧ zin (zi μ13 167 v13) ∧ zin (x4 - 1) ∧ ((¬ zi μ13 167 v13 = x4 - 1 → J 82 ([some (zR (some 153)), some (zI x1), none, some (zI x3), some (zI x4), some (zI (x5 + 1)), none], [], μ13, 0, 0)) ∧ (zi μ13 167 v13 = x4 - 1 → qX11_numberOf G true v7 μ13 (fun v18 μ18 => qX11_numberOf G true x1 μ18 (fun v19 μ19 => qX11_between G v18 v19 μ19 (fun v20 μ20 => zin v20 ∧ zin x3 ∧ ((v20 ≤ x3 → qX11_tell G v7 μ20 (fun μ24 => J 82 ([some (zR (some 153)), some (zI x1), none, some (zI x3), some (zI x4), some (zI (x5 + 1)), none], [], μ24, 0, 0))) ∧ (¬ (v20 ≤ x3) → J 82 ([some (zR (some 153)), some (zI x1), none, some (zI x3), some (zI x4), some (zI (x5 + 1)), none], [], μ20, 0, 0)))))))))))))))))))))) : J 82 ([some (zR (some 153)), some (zI x1), none, some (zI x3), some (zI x4), some (zI x5), none], [], μ, 0, 0) := by
  obtain ⟨p, e, s, m, args, below, meth, c, A, hml, hr, hlk, hnm, rfl⟩ := C
  refine s_iload A dX11_way_82 rfl ?_
  refine s_bipush A dX11_way_84 rfl ?_
  obtain ⟨oz1, h⟩ := h
  refine z_icmp_ge (tgt := 174) A dX11_way_86 (by decide) oz1 ⟨by decide, by decide⟩ (fun c2 => ?_) (fun c2 => ?_)
  · have h := h.1 c2
    refine s_iload A dX11_way_174 rfl ?_
    exact s_iret A dX11_way_176 hr hlk (Nat.le_of_ble_eq_true rfl) (Nat.le_of_ble_eq_true rfl) ⟨_, rfl, h⟩
  · have h := h.2 c2
    refine s_iload A dX11_way_89 rfl ?_
    obtain ⟨oz3, h⟩ := h
    refine z_if_le (tgt := 174) A dX11_way_91 (by decide) oz3 (fun c4 => ?_) (fun c4 => ?_)
    · have h := h.1 c4
      refine s_iload A dX11_way_174 rfl ?_
      exact s_iret A dX11_way_176 hr hlk (Nat.le_of_ble_eq_true rfl) (Nat.le_of_ble_eq_true rfl) ⟨_, rfl, h⟩
    · have h := h.2 c4
      refine s_aload_n A dX11_way_94 rfl ?_
      refine s_getf (k := 11) (j := 4) (sl := true) (v := zI (zi μ 153 4)) A dX11_way_95 rfl zuw_X11 (Nat.le_of_ble_eq_true rfl) zwd1312 (by decide) (zk_153 _) rfl ?_
      obtain ⟨oz5, h⟩ := h
      refine z_if_ne (tgt := 174) A dX11_way_98 (by decide) oz5 (fun c6 => ?_) (fun c6 => ?_)
      · have h := h.1 c6
        refine s_iload A dX11_way_174 rfl ?_
        exact s_iret A dX11_way_176 hr hlk (Nat.le_of_ble_eq_true rfl) (Nat.le_of_ble_eq_true rfl) ⟨_, rfl, h⟩
      · have h := h.2 c6
        refine s_iload_n A dX11_way_101 rfl ?_
        refine s_iload A dX11_way_102 rfl ?_
        refine s_callS (M := mX11_neighbour) (n := 2) (d := 2) (mc := 0) (ms := 0) (av := [zI x1, zI x5]) (st := []) A dX11_way_104 zwd1745 zwd1746 zwd100 zcd_X11_neighbour (Nat.le_of_ble_eq_true rfl) (Nat.le_of_ble_eq_true rfl) (Nat.le_refl _) ⟨Nat.le_of_ble_eq_true rfl, Nat.le_of_ble_eq_true rfl⟩ zhn_X11_neighbour rfl (Nat.le_of_ble_eq_true rfl) rfl (z_contI (fun v7 μ7 h => ?_) h)
        refine s_istore (L' := [some (zR (some 153)), some (zI x1), none, some (zI x3), some (zI x4), some (zI x5), some (zI v7)]) A dX11_way_107 (Nat.le_of_ble_eq_true rfl) rfl ?_
        refine s_iload A dX11_way_109 rfl ?_
        refine s_iconst A dX11_way_111 ?_
        obtain ⟨oz8, h⟩ := h
        refine z_icmp_eq (tgt := 168) A dX11_way_112 (by decide) oz8 ⟨by decide, by decide⟩ (fun c9 => ?_) (fun c9 => ?_)
        · have h := h.1 c9
          refine s_iinc (L' := [some (zR (some 153)), some (zI x1), none, some (zI x3), some (zI x4), some (zI (x5 + 1)), some (zI v7)]) A dX11_way_168 rfl rfl ?_
          refine s_goto (tgt := 82) A dX11_way_171 (by decide) ?_
          exact z_wk (L' := [some (zR (some 153)), some (zI x1), none, some (zI x3), some (zI x4), some (zI (x5 + 1)), none]) ⟨rfl, rfl, rfl, rfl, rfl, trivial⟩ h
        · have h := h.2 c9
          refine s_aload_n A dX11_way_115 rfl ?_
          refine s_iload A dX11_way_116 rfl ?_
          refine s_callV (a := 153) (k := 11) (N := 45) (sl := true) (M := mX11_open) (n := 1) (d := 3) (mc := 0) (ms := 0) (av := [zI v7]) (st := []) A dX11_way_118 rfl (by decide) (zk_153 _) zwd1647 zwd1649 zwd56 zwd100 zcd_X11_open (Nat.le_of_ble_eq_true rfl) (Nat.le_of_ble_eq_true rfl) (Nat.le_refl _) ⟨Nat.le_of_ble_eq_true rfl, Nat.le_of_ble_eq_true rfl⟩ ⟨rfl, zhn_X11_open⟩ rfl (Nat.le_of_ble_eq_true rfl) rfl (z_contI (fun v10 μ10 h => ?_) h)
          obtain ⟨oz11, h⟩ := h
          refine z_if_eq (tgt := 168) A dX11_way_121 (by decide) oz11 (fun c12 => ?_) (fun c12 => ?_)
          · have h := h.1 c12
            refine s_iinc (L' := [some (zR (some 153)), some (zI x1), none, some (zI x3), some (zI x4), some (zI (x5 + 1)), some (zI v7)]) A dX11_way_168 rfl rfl ?_
            refine s_goto (tgt := 82) A dX11_way_171 (by decide) ?_
            exact z_wk (L' := [some (zR (some 153)), some (zI x1), none, some (zI x3), some (zI x4), some (zI (x5 + 1)), none]) ⟨rfl, rfl, rfl, rfl, rfl, trivial⟩ h
          · have h := h.2 c12
            refine s_aload_n A dX11_way_124 rfl ?_
            refine s_getf (k := 11) (j := 27) (sl := true) (v := zR (some 167)) A dX11_way_125 rfl zuw_X11 (Nat.le_of_ble_eq_true rfl) zwd1335 (by decide) (zk_153 _) rfl ?_
            refine s_iload A dX11_way_128 rfl ?_
            refine s_callS (M := mX11_numberOf) (n := 1) (d := 2) (mc := 0) (ms := 0) (av := [zI v7]) (st := [zR (some 167)]) A dX11_way_130 zwd1671 zwd1672 zwd100 zcd_X11_numberOf (Nat.le_of_ble_eq_true rfl) (Nat.le_of_ble_eq_true rfl) (Nat.le_refl _) ⟨Nat.le_of_ble_eq_true rfl, Nat.le_of_ble_eq_true rfl⟩ zhn_X11_numberOf rfl (Nat.le_of_ble_eq_true rfl) rfl (z_contI (fun v13 μ13 h => ?_) h)
            obtain ⟨ox14, h⟩ := h
            refine z_iald A dX11_way_133 (zk_167 _) (Nat.le_of_ble_eq_true rfl) ox14 ?_
            refine s_iload A dX11_way_134 rfl ?_
            refine s_iconst A dX11_way_136 ?_
            refine s_isub A dX11_way_137 ?_
            obtain ⟨oz15, h⟩ := h
            obtain ⟨oz16, h⟩ := h
            refine z_icmp_ne (tgt := 168) A dX11_way_138 (by decide) oz15 oz16 (fun c17 => ?_) (fun c17 => ?_)
            · have h := h.1 c17
              refine s_iinc (L' := [some (zR (some 153)), some (zI x1), none, some (zI x3), some (zI x4), some (zI (x5 + 1)), some (zI v7)]) A dX11_way_168 rfl rfl ?_
              refine s_goto (tgt := 82) A dX11_way_171 (by decide) ?_
              exact z_wk (L' := [some (zR (some 153)), some (zI x1), none, some (zI x3), some (zI x4), some (zI (x5 + 1)), none]) ⟨rfl, rfl, rfl, rfl, rfl, trivial⟩ h
            · have h := h.2 c17
              refine s_aload_n A dX11_way_141 rfl ?_
              refine s_iload A dX11_way_142 rfl ?_
              refine s_callS (M := mX11_numberOf) (n := 1) (d := 2) (mc := 0) (ms := 0) (av := [zI v7]) (st := [zR (some 153)]) A dX11_way_144 zwd1671 zwd1672 zwd100 zcd_X11_numberOf (Nat.le_of_ble_eq_true rfl) (Nat.le_of_ble_eq_true rfl) (Nat.le_refl _) ⟨Nat.le_of_ble_eq_true rfl, Nat.le_of_ble_eq_true rfl⟩ zhn_X11_numberOf rfl (Nat.le_of_ble_eq_true rfl) rfl (z_contI (fun v18 μ18 h => ?_) h)
              refine s_iload_n A dX11_way_147 rfl ?_
              refine s_callS (M := mX11_numberOf) (n := 1) (d := 2) (mc := 0) (ms := 0) (av := [zI x1]) (st := [zI v18, zR (some 153)]) A dX11_way_148 zwd1671 zwd1672 zwd100 zcd_X11_numberOf (Nat.le_of_ble_eq_true rfl) (Nat.le_of_ble_eq_true rfl) (Nat.le_refl _) ⟨Nat.le_of_ble_eq_true rfl, Nat.le_of_ble_eq_true rfl⟩ zhn_X11_numberOf rfl (Nat.le_of_ble_eq_true rfl) rfl (z_contI (fun v19 μ19 h => ?_) h)
              refine s_callV (a := 153) (k := 11) (N := 45) (sl := true) (M := mX11_between) (n := 2) (d := 3) (mc := 0) (ms := 0) (av := [zI v18, zI v19]) (st := []) A dX11_way_151 rfl (by decide) (zk_153 _) zwd1748 zwd1750 zwd72 zwd100 zcd_X11_between (Nat.le_of_ble_eq_true rfl) (Nat.le_of_ble_eq_true rfl) (Nat.le_refl _) ⟨Nat.le_of_ble_eq_true rfl, Nat.le_of_ble_eq_true rfl⟩ ⟨rfl, zhn_X11_between⟩ rfl (Nat.le_of_ble_eq_true rfl) rfl (z_contI (fun v20 μ20 h => ?_) h)
              refine s_iload_n A dX11_way_154 rfl ?_
              obtain ⟨oz21, h⟩ := h
              obtain ⟨oz22, h⟩ := h
              refine z_icmp_le (tgt := 161) A dX11_way_155 (by decide) oz21 oz22 (fun c23 => ?_) (fun c23 => ?_)
              · have h := h.1 c23
                refine s_aload_n A dX11_way_161 rfl ?_
                refine s_iload A dX11_way_162 rfl ?_
                refine z_i2l2 A dX11_way_164 oz8 ?_
                refine s_callV (a := 153) (k := 11) (N := 45) (sl := true) (M := mX11_tell) (n := 1) (d := 0) (mc := 0) (ms := 0) (av := [zL v7]) (st := []) A dX11_way_165 rfl (by decide) (zk_153 _) zwd1613 zwd1615 zwd51 zwd100 zcd_X11_tell (Nat.le_of_ble_eq_true rfl) (Nat.le_of_ble_eq_true rfl) (Nat.le_refl _) ⟨Nat.le_of_ble_eq_true rfl, Nat.le_of_ble_eq_true rfl⟩ ⟨rfl, zhn_X11_tell⟩ rfl (Nat.le_of_ble_eq_true rfl) rfl (z_contV (fun μ24 h => ?_) h)
                refine s_iinc (L' := [some (zR (some 153)), some (zI x1), none, some (zI x3), some (zI x4), some (zI (x5 + 1)), some (zI v7)]) A dX11_way_168 rfl rfl ?_
                refine s_goto (tgt := 82) A dX11_way_171 (by decide) ?_
                exact z_wk (L' := [some (zR (some 153)), some (zI x1), none, some (zI x3), some (zI x4), some (zI (x5 + 1)), none]) ⟨rfl, rfl, rfl, rfl, rfl, trivial⟩ h
              · have h := h.2 c23
                refine s_goto (tgt := 168) A dX11_way_158 (by decide) ?_
                refine s_iinc (L' := [some (zR (some 153)), some (zI x1), none, some (zI x3), some (zI x4), some (zI (x5 + 1)), some (zI v7)]) A dX11_way_168 rfl rfl ?_
                refine s_goto (tgt := 82) A dX11_way_171 (by decide) ?_
                exact z_wk (L' := [some (zR (some 153)), some (zI x1), none, some (zI x3), some (zI x4), some (zI (x5 + 1)), none]) ⟨rfl, rfl, rfl, rfl, rfl, trivial⟩ h
theorem eX11_way {G : zG} {F : Int → zM → Prop} {μ : zM} {x1 : Int} {x2 : Int} {x3 : Int} (h : ∀ J, zJ G true (12) 0 0 mX11_way (zKI F) J → J 0 ([some (zR (some 153)), some (zI x1), some (zI x2), some (zI x3), none, none, none], [], μ, 0, 0)) : qX11_way G x1 x2 x3 μ F :=
  z_body (by decide +kernel) (Nat.le_of_ble_eq_true rfl) h
set_option maxRecDepth 20000 in
theorem rX11_risesOf_e {G : zG} {F : Int → zM → Prop} {J : Nat → zS → Prop} {μ : zM} (C : zJ G true (10) 0 0 mX11_risesOf (zKI F) J) {a1 n1 : Nat} (ha1 : zIsAr a1 n1) (hn1 : n1 < 2147483648) (x2 : Int)
    (h : J 5 ([some (zR (some 153)), some (zR (some a1)), some (zI x2), some (zI 0), some (zI 0), none], [], μ, 0, 0)) : J 0 ([some (zR (some 153)), some (zR (some a1)), some (zI x2), none, none, none], [], μ, 0, 0) := by
  obtain ⟨p, e, s, m, args, below, meth, c, A, hml, hr, hlk, hnm, rfl⟩ := C
  refine s_iconst A dX11_risesOf_0 ?_
  refine s_istore_n (L' := [some (zR (some 153)), some (zR (some a1)), some (zI x2), some (zI 0), none, none]) A dX11_risesOf_1 (Nat.le_of_ble_eq_true rfl) rfl ?_
  refine s_iconst A dX11_risesOf_2 ?_
  refine s_istore (L' := [some (zR (some 153)), some (zR (some a1)), some (zI x2), some (zI 0), some (zI 0), none]) A dX11_risesOf_3 (Nat.le_of_ble_eq_true rfl) rfl ?_
  exact h
set_option maxRecDepth 20000 in
theorem rX11_risesOf_5 {G : zG} {F : Int → zM → Prop} {J : Nat → zS → Prop} {μ : zM} (C : zJ G true (10) 0 0 mX11_risesOf (zKI F) J) {a1 n1 : Nat} (ha1 : zIsAr a1 n1) (hn1 : n1 < 2147483648) (x2 : Int) (x3 : Int) (x4 : Int)
    (h : zin x4 ∧ ((81 ≤ x4 → F x3 μ) ∧ (¬ (81 ≤ x4) → qX11_levelOf G true x4 x2 μ (fun v3 μ3 => zin v3 ∧ ((¬ v3 = 2 → J 28 ([some (zR (some 153)), some (zR (some a1)), some (zI x2), some (zI x3), some (zI x4), some (zI 0)], [], μ3, 0, 0)) ∧ (v3 = 2 → J 5 ([some (zR (some 153)), some (zR (some a1)), some (zI x2), some (zI x3), some (zI (x4 + 1)), none], [], μ3, 0, 0))))))) : J 5 ([some (zR (some 153)), some (zR (some a1)), some (zI x2), some (zI x3), some (zI x4), none], [], μ, 0, 0) := by
  obtain ⟨p, e, s, m, args, below, meth, c, A, hml, hr, hlk, hnm, rfl⟩ := C
  refine s_iload A dX11_risesOf_5 rfl ?_
  refine s_bipush A dX11_risesOf_7 rfl ?_
  obtain ⟨oz1, h⟩ := h
  refine z_icmp_ge (tgt := 93) A dX11_risesOf_9 (by decide) oz1 ⟨by decide, by decide⟩ (fun c2 => ?_) (fun c2 => ?_)
  · have h := h.1 c2
    refine s_iload_n A dX11_risesOf_93 rfl ?_
    exact s_iret A dX11_risesOf_94 hr hlk (Nat.le_of_ble_eq_true rfl) (Nat.le_of_ble_eq_true rfl) ⟨_, rfl, h⟩
  · have h := h.2 c2
    refine s_iload A dX11_risesOf_12 rfl ?_
    refine s_iload_n A dX11_risesOf_14 rfl ?_
    refine s_callS (M := mX11_levelOf) (n := 2) (d := 0) (mc := 0) (ms := 0) (av := [zI x4, zI x2]) (st := []) A dX11_risesOf_15 zwd1514 zwd1515 zwd100 zcd_X11_levelOf (Nat.le_of_ble_eq_true rfl) (Nat.le_of_ble_eq_true rfl) (Nat.le_refl _) ⟨Nat.le_of_ble_eq_true rfl, Nat.le_of_ble_eq_true rfl⟩ zhn_X11_levelOf rfl (Nat.le_of_ble_eq_true rfl) rfl (z_contI (fun v3 μ3 h => ?_) h)
    refine s_iconst A dX11_risesOf_18 ?_
    obtain ⟨oz4, h⟩ := h
    refine z_icmp_ne (tgt := 25) A dX11_risesOf_19 (by decide) oz4 ⟨by decide, by decide⟩ (fun c5 => ?_) (fun c5 => ?_)
    · have h := h.1 c5
      refine s_iconst A dX11_risesOf_25 ?_
      refine s_istore (L' := [some (zR (some 153)), some (zR (some a1)), some (zI x2), some (zI x3), some (zI x4), some (zI 0)]) A dX11_risesOf_26 (Nat.le_of_ble_eq_true rfl) rfl ?_
      exact h
    · have h := h.2 c5
      refine s_goto (tgt := 87) A dX11_risesOf_22 (by decide) ?_
      refine s_iinc (L' := [some (zR (some 153)), some (zR (some a1)), some (zI x2), some (zI x3), some (zI (x4 + 1)), none]) A dX11_risesOf_87 rfl rfl ?_
      refine s_goto (tgt := 5) A dX11_risesOf_90 (by decide) ?_
      exact h
set_option maxRecDepth 20000 in
theorem rX11_risesOf_28 {G : zG} {F : Int → zM → Prop} {J : Nat → zS → Prop} {μ : zM} (C : zJ G true (10) 0 0 mX11_risesOf (zKI F) J) {a1 n1 : Nat} (ha1 : zIsAr a1 n1) (hn1 : n1 < 2147483648) (x2 : Int) (x3 : Int) (x4 : Int) (x5 : Int)
    (h : zin x5 ∧ ((3 ≤ x5 → J 5 ([some (zR (some 153)), some (zR (some a1)), some (zI x2), some (zI x3), some (zI (x4 + 1)), none], [], μ, 0, 0)) ∧ (¬ (3 ≤ x5) → (0 ≤ x2 ∧ x2 < 4) ∧ qX11_lightOf G a1 (x4 + (zta 7 x2)) x5 μ (fun v4 μ4 => qX11_lightOf G a1 x4 x5 μ4 (fun v5 μ5 => zin v4 ∧ zin v5 ∧ ((v5 < v4 → zin x3 ∧ ((¬ x3 = 0 → J 28 ([some (zR (some 153)), some (zR (some a1)), some (zI x2), some (zI (x3 + 1)), some (zI x4), some (zI (x5 + 1))], [], μ5, 0, 0)) ∧ (x3 = 0 → J 28 ([some (zR (some 153)), some (zR (some a1)), some (zI x2), some (zI (x3 + 1)), some (zI x4), some (zI (x5 + 1))], [], zup (zup μ5 153 29 x4) 153 30 x5, 0, 0)))) ∧ (¬ (v5 < v4) → J 28 ([some (zR (some 153)), some (zR (some a1)), some (zI x2), some (zI x3), some (zI x4), some (zI (x5 + 1))], [], μ5, 0, 0)))))))) : J 28 ([some (zR (some 153)), some (zR (some a1)), some (zI x2), some (zI x3), some (zI x4), some (zI x5)], [], μ, 0, 0) := by
  obtain ⟨p, e, s, m, args, below, meth, c, A, hml, hr, hlk, hnm, rfl⟩ := C
  refine s_iload A dX11_risesOf_28 rfl ?_
  refine s_iconst A dX11_risesOf_30 ?_
  obtain ⟨oz1, h⟩ := h
  refine z_icmp_ge (tgt := 87) A dX11_risesOf_31 (by decide) oz1 ⟨by decide, by decide⟩ (fun c2 => ?_) (fun c2 => ?_)
  · have h := h.1 c2
    refine s_iinc (L' := [some (zR (some 153)), some (zR (some a1)), some (zI x2), some (zI x3), some (zI (x4 + 1)), some (zI x5)]) A dX11_risesOf_87 rfl rfl ?_
    refine s_goto (tgt := 5) A dX11_risesOf_90 (by decide) ?_
    exact z_wk (L' := [some (zR (some 153)), some (zR (some a1)), some (zI x2), some (zI x3), some (zI (x4 + 1)), none]) ⟨rfl, rfl, rfl, rfl, rfl, trivial⟩ h
  · have h := h.2 c2
    refine s_aload_n A dX11_risesOf_34 rfl ?_
    refine s_iload A dX11_risesOf_35 rfl ?_
    refine s_getsT (t := 7) A dX11_risesOf_37 (by decide) zwd1297 ?_
    refine s_iload_n A dX11_risesOf_40 rfl ?_
    obtain ⟨ox3, h⟩ := h
    refine z_tald A dX11_risesOf_41 (by decide) (Nat.le_of_ble_eq_true rfl) ox3 ?_
    refine s_iadd A dX11_risesOf_42 ?_
    refine s_iload A dX11_risesOf_43 rfl ?_
    refine s_callS (M := mX11_lightOf) (n := 3) (d := 9) (mc := 0) (ms := 0) (av := [zR (some a1), zI (x4 + (zta 7 x2)), zI x5]) (st := []) A dX11_risesOf_45 zwd1566 zwd1567 zwd100 zcd_X11_lightOf (Nat.le_of_ble_eq_true rfl) (Nat.le_of_ble_eq_true rfl) (Nat.le_refl _) ⟨Nat.le_of_ble_eq_true rfl, Nat.le_of_ble_eq_true rfl⟩ zhn_X11_lightOf rfl (Nat.le_of_ble_eq_true rfl) rfl (z_contI (fun v4 μ4 h => ?_) h)
    refine s_aload_n A dX11_risesOf_48 rfl ?_
    refine s_iload A dX11_risesOf_49 rfl ?_
    refine s_iload A dX11_risesOf_51 rfl ?_
    refine s_callS (M := mX11_lightOf) (n := 3) (d := 9) (mc := 0) (ms := 0) (av := [zR (some a1), zI x4, zI x5]) (st := [zI v4]) A dX11_risesOf_53 zwd1566 zwd1567 zwd100 zcd_X11_lightOf (Nat.le_of_ble_eq_true rfl) (Nat.le_of_ble_eq_true rfl) (Nat.le_refl _) ⟨Nat.le_of_ble_eq_true rfl, Nat.le_of_ble_eq_true rfl⟩ zhn_X11_lightOf rfl (Nat.le_of_ble_eq_true rfl) rfl (z_contI (fun v5 μ5 h => ?_) h)
    obtain ⟨oz6, h⟩ := h
    obtain ⟨oz7, h⟩ := h
    refine z_icmp_gt (tgt := 62) A dX11_risesOf_56 (by decide) oz6 oz7 (fun c8 => ?_) (fun c8 => ?_)
    · have h := h.1 c8
      refine s_iload_n A dX11_risesOf_62 rfl ?_
      obtain ⟨oz9, h⟩ := h
      refine z_if_ne (tgt := 78) A dX11_risesOf_63 (by decide) oz9 (fun c10 => ?_) (fun c10 => ?_)
      · have h := h.1 c10
        refine s_iinc (L' := [some (zR (some 153)), some (zR (some a1)), some (zI x2), some (zI (x3 + 1)), some (zI x4), some (zI x5)]) A dX11_risesOf_78 rfl rfl ?_
        refine s_iinc (L' := [some (zR (some 153)), some (zR (some a1)), some (zI x2), some (zI (x3 + 1)), some (zI x4), some (zI (x5 + 1))]) A dX11_risesOf_81 rfl rfl ?_
        refine s_goto (tgt := 28) A dX11_risesOf_84 (by decide) ?_
        exact h
      · have h := h.2 c10
        refine s_aload_n A dX11_risesOf_66 rfl ?_
        refine s_iload A dX11_risesOf_67 rfl ?_
        refine z_putI (k := 11) (j := 29) (sl := true) A dX11_risesOf_69 rfl zuw_X11 (Nat.le_of_ble_eq_true rfl) zwd1337 (by decide) (zk_153 _) tyX11 tyX11_ok nmX11 rfl rfl rfl ?_
        refine s_aload_n A dX11_risesOf_72 rfl ?_
        refine s_iload A dX11_risesOf_73 rfl ?_
        refine z_putI (k := 11) (j := 30) (sl := true) A dX11_risesOf_75 rfl zuw_X11 (Nat.le_of_ble_eq_true rfl) zwd1338 (by decide) (zk_153 _) tyX11 tyX11_ok nmX11 rfl rfl rfl ?_
        refine s_iinc (L' := [some (zR (some 153)), some (zR (some a1)), some (zI x2), some (zI (x3 + 1)), some (zI x4), some (zI x5)]) A dX11_risesOf_78 rfl rfl ?_
        refine s_iinc (L' := [some (zR (some 153)), some (zR (some a1)), some (zI x2), some (zI (x3 + 1)), some (zI x4), some (zI (x5 + 1))]) A dX11_risesOf_81 rfl rfl ?_
        refine s_goto (tgt := 28) A dX11_risesOf_84 (by decide) ?_
        exact h
    · have h := h.2 c8
      refine s_goto (tgt := 81) A dX11_risesOf_59 (by decide) ?_
      refine s_iinc (L' := [some (zR (some 153)), some (zR (some a1)), some (zI x2), some (zI x3), some (zI x4), some (zI (x5 + 1))]) A dX11_risesOf_81 rfl rfl ?_
      refine s_goto (tgt := 28) A dX11_risesOf_84 (by decide) ?_
      exact h
theorem eX11_risesOf {G : zG} {F : Int → zM → Prop} {μ : zM} {a1 : Nat} {x2 : Int} (h : ∀ J, zJ G true (10) 0 0 mX11_risesOf (zKI F) J → J 0 ([some (zR (some 153)), some (zR (some a1)), some (zI x2), none, none, none], [], μ, 0, 0)) : qX11_risesOf G a1 x2 μ F :=
  z_body (by decide +kernel) (Nat.le_of_ble_eq_true rfl) h
set_option maxRecDepth 20000 in
theorem rX11_rises_e {G : zG} {F : Int → zM → Prop} {J : Nat → zS → Prop} {μ : zM} (C : zJ G true (11) 0 0 mX11_rises (zKI F) J) (x1 : Int)
    (h : qX11_isInk G true x1 (zup μ 153 5 0) (fun v1 μ1 => zin v1 ∧ ((¬ v1 = 0 → qX11_risesOf G 154 x1 μ1 (fun v4 μ4 => zin v4 ∧ ((v4 ≤ 0 → F v4 (zup μ4 153 4 0)) ∧ (¬ (v4 ≤ 0) → zin (zi (zup μ4 153 4 0) 153 29) ∧ qX11_tell G (zi (zup μ4 153 4 0) 153 29) (zup μ4 153 4 0) (fun μ8 => zin (zi μ8 153 30) ∧ qX11_tell G (zi μ8 153 30) μ8 (fun μ10 => F v4 μ10)))))) ∧ (v1 = 0 → F (-1) μ1)))) : J 0 ([some (zR (some 153)), some (zI x1), none], [], μ, 0, 0) := by
  obtain ⟨p, e, s, m, args, below, meth, c, A, hml, hr, hlk, hnm, rfl⟩ := C
  refine s_aload_n A dX11_rises_0 rfl ?_
  refine s_iconst A dX11_rises_1 ?_
  refine z_putI (k := 11) (j := 5) (sl := true) A dX11_rises_2 rfl zuw_X11 (Nat.le_of_ble_eq_true rfl) zwd1313 (by decide) (zk_153 _) tyX11 tyX11_ok nmX11 rfl rfl rfl ?_
  refine s_iload_n A dX11_rises_5 rfl ?_
  refine s_callS (M := mX11_isInk) (n := 1) (d := 2) (mc := 0) (ms := 0) (av := [zI x1]) (st := []) A dX11_rises_6 zwd1521 zwd1522 zwd100 zcd_X11_isInk (Nat.le_of_ble_eq_true rfl) (Nat.le_of_ble_eq_true rfl) (Nat.le_refl _) ⟨Nat.le_of_ble_eq_true rfl, Nat.le_of_ble_eq_true rfl⟩ zhn_X11_isInk rfl (Nat.le_of_ble_eq_true rfl) rfl (z_contI (fun v1 μ1 h => ?_) h)
  obtain ⟨oz2, h⟩ := h
  refine z_if_ne (tgt := 14) A dX11_rises_9 (by decide) oz2 (fun c3 => ?_) (fun c3 => ?_)
  · have h := h.1 c3
    refine s_aload_n A dX11_rises_14 rfl ?_
    refine s_aload_n A dX11_rises_15 rfl ?_
    refine s_getf (k := 11) (j := 0) (sl := true) (v := zR (some 154)) A dX11_rises_16 rfl zuw_X11 (Nat.le_of_ble_eq_true rfl) zwd1308 (by decide) (zk_153 _) rfl ?_
    refine s_iload_n A dX11_rises_19 rfl ?_
    refine s_callV (a := 153) (k := 11) (N := 45) (sl := true) (M := mX11_risesOf) (n := 2) (d := 10) (mc := 0) (ms := 0) (av := [zR (some 154), zI x1]) (st := []) A dX11_rises_20 rfl (by decide) (zk_153 _) zwd1756 zwd1758 zwd73 zwd100 zcd_X11_risesOf (Nat.le_of_ble_eq_true rfl) (Nat.le_of_ble_eq_true rfl) (Nat.le_refl _) ⟨Nat.le_of_ble_eq_true rfl, Nat.le_of_ble_eq_true rfl⟩ ⟨rfl, zhn_X11_risesOf⟩ rfl (Nat.le_of_ble_eq_true rfl) rfl (z_contI (fun v4 μ4 h => ?_) h)
    refine s_istore_n (L' := [some (zR (some 153)), some (zI x1), some (zI v4)]) A dX11_rises_23 (Nat.le_of_ble_eq_true rfl) rfl ?_
    refine s_aload_n A dX11_rises_24 rfl ?_
    refine s_iconst A dX11_rises_25 ?_
    refine z_putI (k := 11) (j := 4) (sl := true) A dX11_rises_26 rfl zuw_X11 (Nat.le_of_ble_eq_true rfl) zwd1312 (by decide) (zk_153 _) tyX11 tyX11_ok nmX11 rfl rfl rfl ?_
    refine s_iload_n A dX11_rises_29 rfl ?_
    obtain ⟨oz5, h⟩ := h
    refine z_if_le (tgt := 51) A dX11_rises_30 (by decide) oz5 (fun c6 => ?_) (fun c6 => ?_)
    · have h := h.1 c6
      refine s_iload_n A dX11_rises_51 rfl ?_
      exact s_iret A dX11_rises_52 hr hlk (Nat.le_of_ble_eq_true rfl) (Nat.le_of_ble_eq_true rfl) ⟨_, rfl, h⟩
    · have h := h.2 c6
      refine s_aload_n A dX11_rises_33 rfl ?_
      refine s_aload_n A dX11_rises_34 rfl ?_
      refine s_getf (k := 11) (j := 29) (sl := true) (v := zI (zi (zup μ4 153 4 0) 153 29)) A dX11_rises_35 rfl zuw_X11 (Nat.le_of_ble_eq_true rfl) zwd1337 (by decide) (zk_153 _) rfl ?_
      obtain ⟨oz7, h⟩ := h
      refine z_i2l2 A dX11_rises_38 oz7 ?_
      refine s_callV (a := 153) (k := 11) (N := 45) (sl := true) (M := mX11_tell) (n := 1) (d := 0) (mc := 0) (ms := 0) (av := [zL (zi (zup μ4 153 4 0) 153 29)]) (st := []) A dX11_rises_39 rfl (by decide) (zk_153 _) zwd1613 zwd1615 zwd51 zwd100 zcd_X11_tell (Nat.le_of_ble_eq_true rfl) (Nat.le_of_ble_eq_true rfl) (Nat.le_refl _) ⟨Nat.le_of_ble_eq_true rfl, Nat.le_of_ble_eq_true rfl⟩ ⟨rfl, zhn_X11_tell⟩ rfl (Nat.le_of_ble_eq_true rfl) rfl (z_contV (fun μ8 h => ?_) h)
      refine s_aload_n A dX11_rises_42 rfl ?_
      refine s_aload_n A dX11_rises_43 rfl ?_
      refine s_getf (k := 11) (j := 30) (sl := true) (v := zI (zi μ8 153 30)) A dX11_rises_44 rfl zuw_X11 (Nat.le_of_ble_eq_true rfl) zwd1338 (by decide) (zk_153 _) rfl ?_
      obtain ⟨oz9, h⟩ := h
      refine z_i2l2 A dX11_rises_47 oz9 ?_
      refine s_callV (a := 153) (k := 11) (N := 45) (sl := true) (M := mX11_tell) (n := 1) (d := 0) (mc := 0) (ms := 0) (av := [zL (zi μ8 153 30)]) (st := []) A dX11_rises_48 rfl (by decide) (zk_153 _) zwd1613 zwd1615 zwd51 zwd100 zcd_X11_tell (Nat.le_of_ble_eq_true rfl) (Nat.le_of_ble_eq_true rfl) (Nat.le_refl _) ⟨Nat.le_of_ble_eq_true rfl, Nat.le_of_ble_eq_true rfl⟩ ⟨rfl, zhn_X11_tell⟩ rfl (Nat.le_of_ble_eq_true rfl) rfl (z_contV (fun μ10 h => ?_) h)
      refine s_iload_n A dX11_rises_51 rfl ?_
      exact s_iret A dX11_rises_52 hr hlk (Nat.le_of_ble_eq_true rfl) (Nat.le_of_ble_eq_true rfl) ⟨_, rfl, h⟩
  · have h := h.2 c3
    refine s_iconst A dX11_rises_12 ?_
    exact s_iret A dX11_rises_13 hr hlk (Nat.le_of_ble_eq_true rfl) (Nat.le_of_ble_eq_true rfl) ⟨_, rfl, h⟩
theorem eX11_rises {G : zG} {F : Int → zM → Prop} {μ : zM} {x1 : Int} (h : ∀ J, zJ G true (11) 0 0 mX11_rises (zKI F) J → J 0 ([some (zR (some 153)), some (zI x1), none], [], μ, 0, 0)) : qX11_rises G x1 μ F :=
  z_body (by decide +kernel) (Nat.le_of_ble_eq_true rfl) h
set_option maxRecDepth 20000 in
theorem rX11_reach_e {G : zG} {F : Int → zM → Prop} {J : Nat → zS → Prop} {μ : zM} (C : zJ G true (12) 0 0 mX11_reach (zKI F) J) (x1 : Int)
    (h : qX11_in G true x1 0 2 (zup μ 153 5 0) (fun v1 μ1 => zin v1 ∧ ((¬ v1 = 0 → qX11_layColours G 154 μ1 (fun μ4 => J 31 ([some (zR (some 153)), some (zI x1), some (zI (-1)), some (zI (-1)), some (zI 0), none], [], μ4, 0, 0))) ∧ (v1 = 0 → F (-1) μ1)))) : J 0 ([some (zR (some 153)), some (zI x1), none, none, none, none], [], μ, 0, 0) := by
  obtain ⟨p, e, s, m, args, below, meth, c, A, hml, hr, hlk, hnm, rfl⟩ := C
  refine s_aload_n A dX11_reach_0 rfl ?_
  refine s_iconst A dX11_reach_1 ?_
  refine z_putI (k := 11) (j := 5) (sl := true) A dX11_reach_2 rfl zuw_X11 (Nat.le_of_ble_eq_true rfl) zwd1313 (by decide) (zk_153 _) tyX11 tyX11_ok nmX11 rfl rfl rfl ?_
  refine s_iload_n A dX11_reach_5 rfl ?_
  refine s_iconst A dX11_reach_6 ?_
  refine s_iconst A dX11_reach_7 ?_
  refine s_callS (M := mX11_in) (n := 3) (d := 0) (mc := 0) (ms := 0) (av := [zI x1, zI 0, zI 2]) (st := []) A dX11_reach_8 zwd1456 zwd1457 zwd100 zcd_X11_in (Nat.le_of_ble_eq_true rfl) (Nat.le_of_ble_eq_true rfl) (Nat.le_refl _) ⟨Nat.le_of_ble_eq_true rfl, Nat.le_of_ble_eq_true rfl⟩ zhn_X11_in rfl (Nat.le_of_ble_eq_true rfl) rfl (z_contI (fun v1 μ1 h => ?_) h)
  obtain ⟨oz2, h⟩ := h
  refine z_if_ne (tgt := 16) A dX11_reach_11 (by decide) oz2 (fun c3 => ?_) (fun c3 => ?_)
  · have h := h.1 c3
    refine s_aload_n A dX11_reach_16 rfl ?_
    refine s_aload_n A dX11_reach_17 rfl ?_
    refine s_getf (k := 11) (j := 0) (sl := true) (v := zR (some 154)) A dX11_reach_18 rfl zuw_X11 (Nat.le_of_ble_eq_true rfl) zwd1308 (by decide) (zk_153 _) rfl ?_
    refine s_callV (a := 153) (k := 11) (N := 45) (sl := true) (M := mX11_layColours) (n := 1) (d := 11) (mc := 0) (ms := 0) (av := [zR (some 154)]) (st := []) A dX11_reach_21 rfl (by decide) (zk_153 _) zwd1643 zwd1645 zwd55 zwd100 zcd_X11_layColours (Nat.le_of_ble_eq_true rfl) (Nat.le_of_ble_eq_true rfl) (Nat.le_refl _) ⟨Nat.le_of_ble_eq_true rfl, Nat.le_of_ble_eq_true rfl⟩ ⟨rfl, zhn_X11_layColours⟩ rfl (Nat.le_of_ble_eq_true rfl) rfl (z_contV (fun μ4 h => ?_) h)
    refine s_iconst A dX11_reach_24 ?_
    refine s_istore_n (L' := [some (zR (some 153)), some (zI x1), some (zI (-1)), none, none, none]) A dX11_reach_25 (Nat.le_of_ble_eq_true rfl) rfl ?_
    refine s_iconst A dX11_reach_26 ?_
    refine s_istore_n (L' := [some (zR (some 153)), some (zI x1), some (zI (-1)), some (zI (-1)), none, none]) A dX11_reach_27 (Nat.le_of_ble_eq_true rfl) rfl ?_
    refine s_iconst A dX11_reach_28 ?_
    refine s_istore (L' := [some (zR (some 153)), some (zI x1), some (zI (-1)), some (zI (-1)), some (zI 0), none]) A dX11_reach_29 (Nat.le_of_ble_eq_true rfl) rfl ?_
    exact h
  · have h := h.2 c3
    refine s_iconst A dX11_reach_14 ?_
    exact s_iret A dX11_reach_15 hr hlk (Nat.le_of_ble_eq_true rfl) (Nat.le_of_ble_eq_true rfl) ⟨_, rfl, h⟩
set_option maxRecDepth 20000 in
theorem rX11_reach_31 {G : zG} {F : Int → zM → Prop} {J : Nat → zS → Prop} {μ : zM} (C : zJ G true (12) 0 0 mX11_reach (zKI F) J) (x1 : Int) (x2 : Int) (x3 : Int) (x4 : Int)
    (h : zin x4 ∧ ((6561 ≤ x4 → (0 ≤ (3 * x2) + x1 ∧ (3 * x2) + x1 < 19683) ∧ (0 ≤ (3 * x3) + x1 ∧ (3 * x3) + x1 < 19683) ∧ zin (zi μ 159 ((3 * x2) + x1)) ∧ qX11_tell G (zi μ 159 ((3 * x2) + x1)) (zup μ 153 4 0) (fun μ6 => qX11_codeOf G true x2 μ6 (fun v7 μ7 => zin v7 ∧ qX11_tell G v7 μ7 (fun μ9 => zin (zi μ 159 ((3 * x3) + x1)) ∧ qX11_tell G (zi μ 159 ((3 * x3) + x1)) μ9 (fun μ11 => qX11_codeOf G true x3 μ11 (fun v12 μ12 => zin v12 ∧ qX11_tell G v12 μ12 (fun μ14 => F ((zi μ 159 ((3 * x3) + x1)) - (zi μ 159 ((3 * x2) + x1))) μ14))))))) ∧ (¬ (6561 ≤ x4) → qX11_codeOf G true x4 μ (fun v15 μ15 => qX11_open G v15 μ15 (fun v16 μ16 => zin v16 ∧ ((¬ v16 = 0 → zin x2 ∧ ((x2 = -1 → J 86 ([some (zR (some 153)), some (zI x1), some (zI x4), some (zI x3), some (zI x4), none], [], μ16, 0, 0)) ∧ (¬ (x2 = -1) → (0 ≤ (3 * x4) + x1 ∧ (3 * x4) + x1 < 19683) ∧ (0 ≤ (3 * x2) + x1 ∧ (3 * x2) + x1 < 19683) ∧ zin (zi μ16 159 ((3 * x4) + x1)) ∧ zin (zi μ16 159 ((3 * x2) + x1)) ∧ ((zi μ16 159 ((3 * x2) + x1) ≤ zi μ16 159 ((3 * x4) + x1) → J 86 ([some (zR (some 153)), some (zI x1), some (zI x2), some (zI x3), some (zI x4), none], [], μ16, 0, 0)) ∧ (¬ (zi μ16 159 ((3 * x2) + x1) ≤ zi μ16 159 ((3 * x4) + x1)) → J 86 ([some (zR (some 153)), some (zI x1), some (zI x4), some (zI x3), some (zI x4), none], [], μ16, 0, 0)))))) ∧ (v16 = 0 → J 31 ([some (zR (some 153)), some (zI x1), some (zI x2), some (zI x3), some (zI (x4 + 1)), none], [], μ16, 0, 0)))))))) : J 31 ([some (zR (some 153)), some (zI x1), some (zI x2), some (zI x3), some (zI x4), none], [], μ, 0, 0) := by
  obtain ⟨p, e, s, m, args, below, meth, c, A, hml, hr, hlk, hnm, rfl⟩ := C
  refine s_iload A dX11_reach_31 rfl ?_
  refine s_sipush A dX11_reach_33 rfl ?_
  obtain ⟨oz1, h⟩ := h
  refine z_icmp_ge (tgt := 124) A dX11_reach_36 (by decide) oz1 ⟨by decide, by decide⟩ (fun c2 => ?_) (fun c2 => ?_)
  · have h := h.1 c2
    refine s_aload_n A dX11_reach_124 rfl ?_
    refine s_getf (k := 11) (j := 13) (sl := true) (v := zR (some 159)) A dX11_reach_125 rfl zuw_X11 (Nat.le_of_ble_eq_true rfl) zwd1321 (by decide) (zk_153 _) rfl ?_
    refine s_iconst A dX11_reach_128 ?_
    refine s_iload_n A dX11_reach_129 rfl ?_
    refine s_imul A dX11_reach_130 ?_
    refine s_iload_n A dX11_reach_131 rfl ?_
    refine s_iadd A dX11_reach_132 ?_
    obtain ⟨ox3, h⟩ := h
    refine z_iald A dX11_reach_133 (zk_159 _) (Nat.le_of_ble_eq_true rfl) ox3 ?_
    refine s_istore (L' := [some (zR (some 153)), some (zI x1), some (zI x2), some (zI x3), some (zI (zi μ 159 ((3 * x2) + x1))), none]) A dX11_reach_134 (Nat.le_of_ble_eq_true rfl) rfl ?_
    refine s_aload_n A dX11_reach_136 rfl ?_
    refine s_getf (k := 11) (j := 13) (sl := true) (v := zR (some 159)) A dX11_reach_137 rfl zuw_X11 (Nat.le_of_ble_eq_true rfl) zwd1321 (by decide) (zk_153 _) rfl ?_
    refine s_iconst A dX11_reach_140 ?_
    refine s_iload_n A dX11_reach_141 rfl ?_
    refine s_imul A dX11_reach_142 ?_
    refine s_iload_n A dX11_reach_143 rfl ?_
    refine s_iadd A dX11_reach_144 ?_
    obtain ⟨ox4, h⟩ := h
    refine z_iald A dX11_reach_145 (zk_159 _) (Nat.le_of_ble_eq_true rfl) ox4 ?_
    refine s_istore (L' := [some (zR (some 153)), some (zI x1), some (zI x2), some (zI x3), some (zI (zi μ 159 ((3 * x2) + x1))), some (zI (zi μ 159 ((3 * x3) + x1)))]) A dX11_reach_146 (Nat.le_of_ble_eq_true rfl) rfl ?_
    refine s_aload_n A dX11_reach_148 rfl ?_
    refine s_iconst A dX11_reach_149 ?_
    refine z_putI (k := 11) (j := 4) (sl := true) A dX11_reach_150 rfl zuw_X11 (Nat.le_of_ble_eq_true rfl) zwd1312 (by decide) (zk_153 _) tyX11 tyX11_ok nmX11 rfl rfl rfl ?_
    refine s_aload_n A dX11_reach_153 rfl ?_
    refine s_iload A dX11_reach_154 rfl ?_
    obtain ⟨oz5, h⟩ := h
    refine z_i2l2 A dX11_reach_156 oz5 ?_
    refine s_callV (a := 153) (k := 11) (N := 45) (sl := true) (M := mX11_tell) (n := 1) (d := 0) (mc := 0) (ms := 0) (av := [zL (zi μ 159 ((3 * x2) + x1))]) (st := []) A dX11_reach_157 rfl (by decide) (zk_153 _) zwd1613 zwd1615 zwd51 zwd100 zcd_X11_tell (Nat.le_of_ble_eq_true rfl) (Nat.le_of_ble_eq_true rfl) (Nat.le_refl _) ⟨Nat.le_of_ble_eq_true rfl, Nat.le_of_ble_eq_true rfl⟩ ⟨rfl, zhn_X11_tell⟩ rfl (Nat.le_of_ble_eq_true rfl) rfl (z_contV (fun μ6 h => ?_) h)
    refine s_aload_n A dX11_reach_160 rfl ?_
    refine s_iload_n A dX11_reach_161 rfl ?_
    refine s_callS (M := mX11_codeOf) (n := 1) (d := 0) (mc := 0) (ms := 0) (av := [zI x2]) (st := [zR (some 153)]) A dX11_reach_162 zwd1303 zwd1304 zwd100 zcd_X11_codeOf (Nat.le_of_ble_eq_true rfl) (Nat.le_of_ble_eq_true rfl) (Nat.le_refl _) ⟨Nat.le_of_ble_eq_true rfl, Nat.le_of_ble_eq_true rfl⟩ zhn_X11_codeOf rfl (Nat.le_of_ble_eq_true rfl) rfl (z_contI (fun v7 μ7 h => ?_) h)
    obtain ⟨oz8, h⟩ := h
    refine z_i2l2 A dX11_reach_165 oz8 ?_
    refine s_callV (a := 153) (k := 11) (N := 45) (sl := true) (M := mX11_tell) (n := 1) (d := 0) (mc := 0) (ms := 0) (av := [zL v7]) (st := []) A dX11_reach_166 rfl (by decide) (zk_153 _) zwd1613 zwd1615 zwd51 zwd100 zcd_X11_tell (Nat.le_of_ble_eq_true rfl) (Nat.le_of_ble_eq_true rfl) (Nat.le_refl _) ⟨Nat.le_of_ble_eq_true rfl, Nat.le_of_ble_eq_true rfl⟩ ⟨rfl, zhn_X11_tell⟩ rfl (Nat.le_of_ble_eq_true rfl) rfl (z_contV (fun μ9 h => ?_) h)
    refine s_aload_n A dX11_reach_169 rfl ?_
    refine s_iload A dX11_reach_170 rfl ?_
    obtain ⟨oz10, h⟩ := h
    refine z_i2l2 A dX11_reach_172 oz10 ?_
    refine s_callV (a := 153) (k := 11) (N := 45) (sl := true) (M := mX11_tell) (n := 1) (d := 0) (mc := 0) (ms := 0) (av := [zL (zi μ 159 ((3 * x3) + x1))]) (st := []) A dX11_reach_173 rfl (by decide) (zk_153 _) zwd1613 zwd1615 zwd51 zwd100 zcd_X11_tell (Nat.le_of_ble_eq_true rfl) (Nat.le_of_ble_eq_true rfl) (Nat.le_refl _) ⟨Nat.le_of_ble_eq_true rfl, Nat.le_of_ble_eq_true rfl⟩ ⟨rfl, zhn_X11_tell⟩ rfl (Nat.le_of_ble_eq_true rfl) rfl (z_contV (fun μ11 h => ?_) h)
    refine s_aload_n A dX11_reach_176 rfl ?_
    refine s_iload_n A dX11_reach_177 rfl ?_
    refine s_callS (M := mX11_codeOf) (n := 1) (d := 0) (mc := 0) (ms := 0) (av := [zI x3]) (st := [zR (some 153)]) A dX11_reach_178 zwd1303 zwd1304 zwd100 zcd_X11_codeOf (Nat.le_of_ble_eq_true rfl) (Nat.le_of_ble_eq_true rfl) (Nat.le_refl _) ⟨Nat.le_of_ble_eq_true rfl, Nat.le_of_ble_eq_true rfl⟩ zhn_X11_codeOf rfl (Nat.le_of_ble_eq_true rfl) rfl (z_contI (fun v12 μ12 h => ?_) h)
    obtain ⟨oz13, h⟩ := h
    refine z_i2l2 A dX11_reach_181 oz13 ?_
    refine s_callV (a := 153) (k := 11) (N := 45) (sl := true) (M := mX11_tell) (n := 1) (d := 0) (mc := 0) (ms := 0) (av := [zL v12]) (st := []) A dX11_reach_182 rfl (by decide) (zk_153 _) zwd1613 zwd1615 zwd51 zwd100 zcd_X11_tell (Nat.le_of_ble_eq_true rfl) (Nat.le_of_ble_eq_true rfl) (Nat.le_refl _) ⟨Nat.le_of_ble_eq_true rfl, Nat.le_of_ble_eq_true rfl⟩ ⟨rfl, zhn_X11_tell⟩ rfl (Nat.le_of_ble_eq_true rfl) rfl (z_contV (fun μ14 h => ?_) h)
    refine s_iload A dX11_reach_185 rfl ?_
    refine s_iload A dX11_reach_187 rfl ?_
    refine s_isub A dX11_reach_189 ?_
    exact s_iret A dX11_reach_190 hr hlk (Nat.le_of_ble_eq_true rfl) (Nat.le_of_ble_eq_true rfl) ⟨_, rfl, h⟩
  · have h := h.2 c2
    refine s_aload_n A dX11_reach_39 rfl ?_
    refine s_iload A dX11_reach_40 rfl ?_
    refine s_callS (M := mX11_codeOf) (n := 1) (d := 0) (mc := 0) (ms := 0) (av := [zI x4]) (st := [zR (some 153)]) A dX11_reach_42 zwd1303 zwd1304 zwd100 zcd_X11_codeOf (Nat.le_of_ble_eq_true rfl) (Nat.le_of_ble_eq_true rfl) (Nat.le_refl _) ⟨Nat.le_of_ble_eq_true rfl, Nat.le_of_ble_eq_true rfl⟩ zhn_X11_codeOf rfl (Nat.le_of_ble_eq_true rfl) rfl (z_contI (fun v15 μ15 h => ?_) h)
    refine s_callV (a := 153) (k := 11) (N := 45) (sl := true) (M := mX11_open) (n := 1) (d := 3) (mc := 0) (ms := 0) (av := [zI v15]) (st := []) A dX11_reach_45 rfl (by decide) (zk_153 _) zwd1647 zwd1649 zwd56 zwd100 zcd_X11_open (Nat.le_of_ble_eq_true rfl) (Nat.le_of_ble_eq_true rfl) (Nat.le_refl _) ⟨Nat.le_of_ble_eq_true rfl, Nat.le_of_ble_eq_true rfl⟩ ⟨rfl, zhn_X11_open⟩ rfl (Nat.le_of_ble_eq_true rfl) rfl (z_contI (fun v16 μ16 h => ?_) h)
    obtain ⟨oz17, h⟩ := h
    refine z_if_ne (tgt := 54) A dX11_reach_48 (by decide) oz17 (fun c18 => ?_) (fun c18 => ?_)
    · have h := h.1 c18
      refine s_iload_n A dX11_reach_54 rfl ?_
      refine s_iconst A dX11_reach_55 ?_
      obtain ⟨oz19, h⟩ := h
      refine z_icmp_eq (tgt := 83) A dX11_reach_56 (by decide) oz19 ⟨by decide, by decide⟩ (fun c20 => ?_) (fun c20 => ?_)
      · have h := h.1 c20
        refine s_iload A dX11_reach_83 rfl ?_
        refine s_istore_n (L' := [some (zR (some 153)), some (zI x1), some (zI x4), some (zI x3), some (zI x4), none]) A dX11_reach_85 (Nat.le_of_ble_eq_true rfl) rfl ?_
        exact h
      · have h := h.2 c20
        refine s_aload_n A dX11_reach_59 rfl ?_
        refine s_getf (k := 11) (j := 13) (sl := true) (v := zR (some 159)) A dX11_reach_60 rfl zuw_X11 (Nat.le_of_ble_eq_true rfl) zwd1321 (by decide) (zk_153 _) rfl ?_
        refine s_iconst A dX11_reach_63 ?_
        refine s_iload A dX11_reach_64 rfl ?_
        refine s_imul A dX11_reach_66 ?_
        refine s_iload_n A dX11_reach_67 rfl ?_
        refine s_iadd A dX11_reach_68 ?_
        obtain ⟨ox21, h⟩ := h
        refine z_iald A dX11_reach_69 (zk_159 _) (Nat.le_of_ble_eq_true rfl) ox21 ?_
        refine s_aload_n A dX11_reach_70 rfl ?_
        refine s_getf (k := 11) (j := 13) (sl := true) (v := zR (some 159)) A dX11_reach_71 rfl zuw_X11 (Nat.le_of_ble_eq_true rfl) zwd1321 (by decide) (zk_153 _) rfl ?_
        refine s_iconst A dX11_reach_74 ?_
        refine s_iload_n A dX11_reach_75 rfl ?_
        refine s_imul A dX11_reach_76 ?_
        refine s_iload_n A dX11_reach_77 rfl ?_
        refine s_iadd A dX11_reach_78 ?_
        obtain ⟨ox22, h⟩ := h
        refine z_iald A dX11_reach_79 (zk_159 _) (Nat.le_of_ble_eq_true rfl) ox22 ?_
        obtain ⟨oz23, h⟩ := h
        obtain ⟨oz24, h⟩ := h
        refine z_icmp_ge (tgt := 86) A dX11_reach_80 (by decide) oz23 oz24 (fun c25 => ?_) (fun c25 => ?_)
        · have h := h.1 c25
          exact h
        · have h := h.2 c25
          refine s_iload A dX11_reach_83 rfl ?_
          refine s_istore_n (L' := [some (zR (some 153)), some (zI x1), some (zI x4), some (zI x3), some (zI x4), none]) A dX11_reach_85 (Nat.le_of_ble_eq_true rfl) rfl ?_
          exact h
    · have h := h.2 c18
      refine s_goto (tgt := 118) A dX11_reach_51 (by decide) ?_
      refine s_iinc (L' := [some (zR (some 153)), some (zI x1), some (zI x2), some (zI x3), some (zI (x4 + 1)), none]) A dX11_reach_118 rfl rfl ?_
      refine s_goto (tgt := 31) A dX11_reach_121 (by decide) ?_
      exact h
set_option maxRecDepth 20000 in
theorem rX11_reach_86 {G : zG} {F : Int → zM → Prop} {J : Nat → zS → Prop} {μ : zM} (C : zJ G true (12) 0 0 mX11_reach (zKI F) J) (x1 : Int) (x2 : Int) (x3 : Int) (x4 : Int)
    (h : zin x3 ∧ ((x3 = -1 → J 31 ([some (zR (some 153)), some (zI x1), some (zI x2), some (zI x4), some (zI (x4 + 1)), none], [], μ, 0, 0)) ∧ (¬ (x3 = -1) → (0 ≤ (3 * x4) + x1 ∧ (3 * x4) + x1 < 19683) ∧ (0 ≤ (3 * x3) + x1 ∧ (3 * x3) + x1 < 19683) ∧ zin (zi μ 159 ((3 * x4) + x1)) ∧ zin (zi μ 159 ((3 * x3) + x1)) ∧ ((zi μ 159 ((3 * x4) + x1) ≤ zi μ 159 ((3 * x3) + x1) → J 31 ([some (zR (some 153)), some (zI x1), some (zI x2), some (zI x3), some (zI (x4 + 1)), none], [], μ, 0, 0)) ∧ (¬ (zi μ 159 ((3 * x4) + x1) ≤ zi μ 159 ((3 * x3) + x1)) → J 31 ([some (zR (some 153)), some (zI x1), some (zI x2), some (zI x4), some (zI (x4 + 1)), none], [], μ, 0, 0)))))) : J 86 ([some (zR (some 153)), some (zI x1), some (zI x2), some (zI x3), some (zI x4), none], [], μ, 0, 0) := by
  obtain ⟨p, e, s, m, args, below, meth, c, A, hml, hr, hlk, hnm, rfl⟩ := C
  refine s_iload_n A dX11_reach_86 rfl ?_
  refine s_iconst A dX11_reach_87 ?_
  obtain ⟨oz1, h⟩ := h
  refine z_icmp_eq (tgt := 115) A dX11_reach_88 (by decide) oz1 ⟨by decide, by decide⟩ (fun c2 => ?_) (fun c2 => ?_)
  · have h := h.1 c2
    refine s_iload A dX11_reach_115 rfl ?_
    refine s_istore_n (L' := [some (zR (some 153)), some (zI x1), some (zI x2), some (zI x4), some (zI x4), none]) A dX11_reach_117 (Nat.le_of_ble_eq_true rfl) rfl ?_
    refine s_iinc (L' := [some (zR (some 153)), some (zI x1), some (zI x2), some (zI x4), some (zI (x4 + 1)), none]) A dX11_reach_118 rfl rfl ?_
    refine s_goto (tgt := 31) A dX11_reach_121 (by decide) ?_
    exact h
  · have h := h.2 c2
    refine s_aload_n A dX11_reach_91 rfl ?_
    refine s_getf (k := 11) (j := 13) (sl := true) (v := zR (some 159)) A dX11_reach_92 rfl zuw_X11 (Nat.le_of_ble_eq_true rfl) zwd1321 (by decide) (zk_153 _) rfl ?_
    refine s_iconst A dX11_reach_95 ?_
    refine s_iload A dX11_reach_96 rfl ?_
    refine s_imul A dX11_reach_98 ?_
    refine s_iload_n A dX11_reach_99 rfl ?_
    refine s_iadd A dX11_reach_100 ?_
    obtain ⟨ox3, h⟩ := h
    refine z_iald A dX11_reach_101 (zk_159 _) (Nat.le_of_ble_eq_true rfl) ox3 ?_
    refine s_aload_n A dX11_reach_102 rfl ?_
    refine s_getf (k := 11) (j := 13) (sl := true) (v := zR (some 159)) A dX11_reach_103 rfl zuw_X11 (Nat.le_of_ble_eq_true rfl) zwd1321 (by decide) (zk_153 _) rfl ?_
    refine s_iconst A dX11_reach_106 ?_
    refine s_iload_n A dX11_reach_107 rfl ?_
    refine s_imul A dX11_reach_108 ?_
    refine s_iload_n A dX11_reach_109 rfl ?_
    refine s_iadd A dX11_reach_110 ?_
    obtain ⟨ox4, h⟩ := h
    refine z_iald A dX11_reach_111 (zk_159 _) (Nat.le_of_ble_eq_true rfl) ox4 ?_
    obtain ⟨oz5, h⟩ := h
    obtain ⟨oz6, h⟩ := h
    refine z_icmp_le (tgt := 118) A dX11_reach_112 (by decide) oz5 oz6 (fun c7 => ?_) (fun c7 => ?_)
    · have h := h.1 c7
      refine s_iinc (L' := [some (zR (some 153)), some (zI x1), some (zI x2), some (zI x3), some (zI (x4 + 1)), none]) A dX11_reach_118 rfl rfl ?_
      refine s_goto (tgt := 31) A dX11_reach_121 (by decide) ?_
      exact h
    · have h := h.2 c7
      refine s_iload A dX11_reach_115 rfl ?_
      refine s_istore_n (L' := [some (zR (some 153)), some (zI x1), some (zI x2), some (zI x4), some (zI x4), none]) A dX11_reach_117 (Nat.le_of_ble_eq_true rfl) rfl ?_
      refine s_iinc (L' := [some (zR (some 153)), some (zI x1), some (zI x2), some (zI x4), some (zI (x4 + 1)), none]) A dX11_reach_118 rfl rfl ?_
      refine s_goto (tgt := 31) A dX11_reach_121 (by decide) ?_
      exact h
theorem eX11_reach {G : zG} {F : Int → zM → Prop} {μ : zM} {x1 : Int} (h : ∀ J, zJ G true (12) 0 0 mX11_reach (zKI F) J → J 0 ([some (zR (some 153)), some (zI x1), none, none, none, none], [], μ, 0, 0)) : qX11_reach G x1 μ F :=
  z_body (by decide +kernel) (Nat.le_of_ble_eq_true rfl) h
set_option maxRecDepth 20000 in
theorem rX11_sort_e {G : zG} {F : zM → Prop} {J : Nat → zS → Prop} {μ : zM} (C : zJ G true (8) 0 0 mX11_sort (zKV F) J) (x1 : Int)
    (h : J 2 ([some (zR (some 153)), some (zI x1), some (zI 1), none, none, none, none, none, none, none], [], μ, 0, 0)) : J 0 ([some (zR (some 153)), some (zI x1), none, none, none, none, none, none, none, none], [], μ, 0, 0) := by
  obtain ⟨p, e, s, m, args, below, meth, c, A, hml, hr, hlk, hnm, rfl⟩ := C
  refine s_iconst A dX11_sort_0 ?_
  refine s_istore_n (L' := [some (zR (some 153)), some (zI x1), some (zI 1), none, none, none, none, none, none, none]) A dX11_sort_1 (Nat.le_of_ble_eq_true rfl) rfl ?_
  exact h
set_option maxRecDepth 20000 in
theorem rX11_sort_2 {G : zG} {F : zM → Prop} {J : Nat → zS → Prop} {μ : zM} (C : zJ G true (8) 0 0 mX11_sort (zKV F) J) (x1 : Int) (x2 : Int)
    (h : zin x2 ∧ zin x1 ∧ ((x1 ≤ x2 → F μ) ∧ (¬ (x1 ≤ x2) → J 9 ([some (zR (some 153)), some (zI x1), some (zI x2), some (zI 0), none, none, none, none, none, none], [], μ, 0, 0)))) : J 2 ([some (zR (some 153)), some (zI x1), some (zI x2), none, none, none, none, none, none, none], [], μ, 0, 0) := by
  obtain ⟨p, e, s, m, args, below, meth, c, A, hml, hr, hlk, hnm, rfl⟩ := C
  refine s_iload_n A dX11_sort_2 rfl ?_
  refine s_iload_n A dX11_sort_3 rfl ?_
  obtain ⟨oz1, h⟩ := h
  obtain ⟨oz2, h⟩ := h
  refine z_icmp_ge (tgt := 175) A dX11_sort_4 (by decide) oz1 oz2 (fun c3 => ?_) (fun c3 => ?_)
  · have h := h.1 c3
    exact s_vret A dX11_sort_175 hr hlk (Nat.le_of_ble_eq_true rfl) (Nat.le_of_ble_eq_true rfl) ⟨rfl, h⟩
  · have h := h.2 c3
    refine s_iconst A dX11_sort_7 ?_
    refine s_istore_n (L' := [some (zR (some 153)), some (zI x1), some (zI x2), some (zI 0), none, none, none, none, none, none]) A dX11_sort_8 (Nat.le_of_ble_eq_true rfl) rfl ?_
    exact h
set_option maxRecDepth 20000 in
theorem rX11_sort_9 {G : zG} {F : zM → Prop} {J : Nat → zS → Prop} {μ : zM} (C : zJ G true (8) 0 0 mX11_sort (zKV F) J) (x1 : Int) (x2 : Int) (x3 : Int)
    (h : zin x3 ∧ zin x1 ∧ ((x1 ≤ x3 → J 145 ([some (zR (some 153)), some (zI x1), some (zI x2), some (zI 0), none, none, none, none, none, none], [], μ, 0, 0)) ∧ (¬ (x1 ≤ x3) → zin (x3 + x2) ∧ zin (x3 + (2 * x2)) ∧ J 44 ([some (zR (some 153)), some (zI x1), some (zI x2), some (zI x3), some (zI (min x1 (x3 + x2))), some (zI (min x1 (x3 + (2 * x2)))), some (zI x3), some (zI (min x1 (x3 + x2))), some (zI x3), none], [], μ, 0, 0)))) : J 9 ([some (zR (some 153)), some (zI x1), some (zI x2), some (zI x3), none, none, none, none, none, none], [], μ, 0, 0) := by
  obtain ⟨p, e, s, m, args, below, meth, c, A, hml, hr, hlk, hnm, rfl⟩ := C
  refine s_iload_n A dX11_sort_9 rfl ?_
  refine s_iload_n A dX11_sort_10 rfl ?_
  obtain ⟨oz1, h⟩ := h
  obtain ⟨oz2, h⟩ := h
  refine z_icmp_ge (tgt := 143) A dX11_sort_11 (by decide) oz1 oz2 (fun c3 => ?_) (fun c3 => ?_)
  · have h := h.1 c3
    refine s_iconst A dX11_sort_143 ?_
    refine s_istore_n (L' := [some (zR (some 153)), some (zI x1), some (zI x2), some (zI 0), none, none, none, none, none, none]) A dX11_sort_144 (Nat.le_of_ble_eq_true rfl) rfl ?_
    exact h
  · have h := h.2 c3
    refine s_iload_n A dX11_sort_14 rfl ?_
    refine s_iload_n A dX11_sort_15 rfl ?_
    refine s_iload_n A dX11_sort_16 rfl ?_
    refine s_iadd A dX11_sort_17 ?_
    obtain ⟨oz4, h⟩ := h
    refine z_mmin A dX11_sort_18 zwd1575 zwd509 zwd105 zwd510 (Nat.le_of_ble_eq_true rfl) (Nat.le_of_ble_eq_true rfl) ⟨Nat.le_of_ble_eq_true rfl, Nat.le_of_ble_eq_true rfl⟩ oz2 oz4 ?_
    refine s_istore (L' := [some (zR (some 153)), some (zI x1), some (zI x2), some (zI x3), some (zI (min x1 (x3 + x2))), none, none, none, none, none]) A dX11_sort_21 (Nat.le_of_ble_eq_true rfl) rfl ?_
    refine s_iload_n A dX11_sort_23 rfl ?_
    refine s_iload_n A dX11_sort_24 rfl ?_
    refine s_iconst A dX11_sort_25 ?_
    refine s_iload_n A dX11_sort_26 rfl ?_
    refine s_imul A dX11_sort_27 ?_
    refine s_iadd A dX11_sort_28 ?_
    obtain ⟨oz5, h⟩ := h
    refine z_mmin A dX11_sort_29 zwd1575 zwd509 zwd105 zwd510 (Nat.le_of_ble_eq_true rfl) (Nat.le_of_ble_eq_true rfl) ⟨Nat.le_of_ble_eq_true rfl, Nat.le_of_ble_eq_true rfl⟩ oz2 oz5 ?_
    refine s_istore (L' := [some (zR (some 153)), some (zI x1), some (zI x2), some (zI x3), some (zI (min x1 (x3 + x2))), some (zI (min x1 (x3 + (2 * x2)))), none, none, none, none]) A dX11_sort_32 (Nat.le_of_ble_eq_true rfl) rfl ?_
    refine s_iload_n A dX11_sort_34 rfl ?_
    refine s_istore (L' := [some (zR (some 153)), some (zI x1), some (zI x2), some (zI x3), some (zI (min x1 (x3 + x2))), some (zI (min x1 (x3 + (2 * x2)))), some (zI x3), none, none, none]) A dX11_sort_35 (Nat.le_of_ble_eq_true rfl) rfl ?_
    refine s_iload A dX11_sort_37 rfl ?_
    refine s_istore (L' := [some (zR (some 153)), some (zI x1), some (zI x2), some (zI x3), some (zI (min x1 (x3 + x2))), some (zI (min x1 (x3 + (2 * x2)))), some (zI x3), some (zI (min x1 (x3 + x2))), none, none]) A dX11_sort_39 (Nat.le_of_ble_eq_true rfl) rfl ?_
    refine s_iload_n A dX11_sort_41 rfl ?_
    refine s_istore (L' := [some (zR (some 153)), some (zI x1), some (zI x2), some (zI x3), some (zI (min x1 (x3 + x2))), some (zI (min x1 (x3 + (2 * x2)))), some (zI x3), some (zI (min x1 (x3 + x2))), some (zI x3), none]) A dX11_sort_42 (Nat.le_of_ble_eq_true rfl) rfl ?_
    exact h
set_option maxRecDepth 20000 in
theorem rX11_sort_44 {G : zG} {F : zM → Prop} {J : Nat → zS → Prop} {μ : zM} (C : zJ G true (8) 0 0 mX11_sort (zKV F) J) (x1 : Int) (x2 : Int) (x3 : Int) (x4 : Int) (x5 : Int) (x6 : Int) (x7 : Int) (x8 : Int)
    (h : zin x8 ∧ zin x5 ∧ ((x5 ≤ x8 → J 9 ([some (zR (some 153)), some (zI x1), some (zI x2), some (zI (x3 + (2 * x2))), none, none, none, none, none, none], [], μ, 0, 0)) ∧ (¬ (x5 ≤ x8) → zin x7 ∧ ((x7 = x5 → J 88 ([some (zR (some 153)), some (zI x1), some (zI x2), some (zI x3), some (zI x4), some (zI x5), some (zI x6), some (zI x7), some (zI x8), none], [zI 1], μ, 0, 0)) ∧ (¬ (x7 = x5) → zin x6 ∧ zin x4 ∧ ((x4 ≤ x6 → J 88 ([some (zR (some 153)), some (zI x1), some (zI x2), some (zI x3), some (zI x4), some (zI x5), some (zI x6), some (zI x7), some (zI x8), none], [zI 0], μ, 0, 0)) ∧ (¬ (x4 ≤ x6) → (0 ≤ x6 ∧ x6 < 6561) ∧ (0 ≤ x7 ∧ x7 < 6561) ∧ zin64 (zi μ 169 x6) ∧ zin64 (zi μ 169 x7) ∧ ((zi μ 169 x7 < zi μ 169 x6 → J 88 ([some (zR (some 153)), some (zI x1), some (zI x2), some (zI x3), some (zI x4), some (zI x5), some (zI x6), some (zI x7), some (zI x8), none], [zI 0], μ, 0, 0)) ∧ (¬ (zi μ 169 x7 < zi μ 169 x6) → J 88 ([some (zR (some 153)), some (zI x1), some (zI x2), some (zI x3), some (zI x4), some (zI x5), some (zI x6), some (zI x7), some (zI x8), none], [zI 1], μ, 0, 0)))))))))) : J 44 ([some (zR (some 153)), some (zI x1), some (zI x2), some (zI x3), some (zI x4), some (zI x5), some (zI x6), some (zI x7), some (zI x8), none], [], μ, 0, 0) := by
  obtain ⟨p, e, s, m, args, below, meth, c, A, hml, hr, hlk, hnm, rfl⟩ := C
  refine s_iload A dX11_sort_44 rfl ?_
  refine s_iload A dX11_sort_46 rfl ?_
  obtain ⟨oz1, h⟩ := h
  obtain ⟨oz2, h⟩ := h
  refine z_icmp_ge (tgt := 134) A dX11_sort_48 (by decide) oz1 oz2 (fun c3 => ?_) (fun c3 => ?_)
  · have h := h.1 c3
    refine s_iload_n A dX11_sort_134 rfl ?_
    refine s_iconst A dX11_sort_135 ?_
    refine s_iload_n A dX11_sort_136 rfl ?_
    refine s_imul A dX11_sort_137 ?_
    refine s_iadd A dX11_sort_138 ?_
    refine s_istore_n (L' := [some (zR (some 153)), some (zI x1), some (zI x2), some (zI (x3 + (2 * x2))), some (zI x4), some (zI x5), some (zI x6), some (zI x7), some (zI x8), none]) A dX11_sort_139 (Nat.le_of_ble_eq_true rfl) rfl ?_
    refine s_goto (tgt := 9) A dX11_sort_140 (by decide) ?_
    exact z_wk (L' := [some (zR (some 153)), some (zI x1), some (zI x2), some (zI (x3 + (2 * x2))), none, none, none, none, none, none]) ⟨rfl, rfl, rfl, rfl, trivial⟩ h
  · have h := h.2 c3
    refine s_iload A dX11_sort_51 rfl ?_
    refine s_iload A dX11_sort_53 rfl ?_
    obtain ⟨oz4, h⟩ := h
    refine z_icmp_eq (tgt := 83) A dX11_sort_55 (by decide) oz4 oz2 (fun c5 => ?_) (fun c5 => ?_)
    · have h := h.1 c5
      refine s_iconst A dX11_sort_83 ?_
      refine s_goto (tgt := 88) A dX11_sort_84 (by decide) ?_
      exact h
    · have h := h.2 c5
      refine s_iload A dX11_sort_58 rfl ?_
      refine s_iload A dX11_sort_60 rfl ?_
      obtain ⟨oz6, h⟩ := h
      obtain ⟨oz7, h⟩ := h
      refine z_icmp_ge (tgt := 87) A dX11_sort_62 (by decide) oz6 oz7 (fun c8 => ?_) (fun c8 => ?_)
      · have h := h.1 c8
        refine s_iconst A dX11_sort_87 ?_
        exact h
      · have h := h.2 c8
        refine s_aload_n A dX11_sort_65 rfl ?_
        refine s_getf (k := 11) (j := 31) (sl := true) (v := zR (some 169)) A dX11_sort_66 rfl zuw_X11 (Nat.le_of_ble_eq_true rfl) zwd1339 (by decide) (zk_153 _) rfl ?_
        refine s_iload A dX11_sort_69 rfl ?_
        obtain ⟨ox9, h⟩ := h
        refine z_lald A dX11_sort_71 (zk_169 _) (Nat.le_of_ble_eq_true rfl) ox9 ?_
        refine s_aload_n A dX11_sort_72 rfl ?_
        refine s_getf (k := 11) (j := 31) (sl := true) (v := zR (some 169)) A dX11_sort_73 rfl zuw_X11 (Nat.le_of_ble_eq_true rfl) zwd1339 (by decide) (zk_153 _) rfl ?_
        refine s_iload A dX11_sort_76 rfl ?_
        obtain ⟨ox10, h⟩ := h
        refine z_lald A dX11_sort_78 (zk_169 _) (Nat.le_of_ble_eq_true rfl) ox10 ?_
        obtain ⟨oz11, h⟩ := h
        obtain ⟨oz12, h⟩ := h
        refine z_lc_gt (tgt := 87) A dX11_sort_79 dX11_sort_80 (by decide) oz11 oz12 (fun c13 => ?_) (fun c13 => ?_)
        · have h := h.1 c13
          refine s_iconst A dX11_sort_87 ?_
          exact h
        · have h := h.2 c13
          refine s_iconst A dX11_sort_83 ?_
          refine s_goto (tgt := 88) A dX11_sort_84 (by decide) ?_
          exact h
set_option maxRecDepth 20000 in
theorem rX11_sort_88 {G : zG} {F : zM → Prop} {J : Nat → zS → Prop} {μ : zM} (C : zJ G true (8) 0 0 mX11_sort (zKV F) J) (x1 : Int) (x2 : Int) (x3 : Int) (x4 : Int) (x5 : Int) (x6 : Int) (x7 : Int) (x8 : Int) (xs0 : Int)
    (h : zin xs0 ∧ ((xs0 = 0 → (0 ≤ x7 ∧ x7 < 6561) ∧ (0 ≤ x8 ∧ x8 < 6561) ∧ ((xs0 = 0 → J 44 ([some (zR (some 153)), some (zI x1), some (zI x2), some (zI x3), some (zI x4), some (zI x5), some (zI x6), some (zI (x7 + 1)), some (zI (x8 + 1)), none], [], zup μ 170 x8 (zi μ 169 x7), 0, 0)) ∧ (¬ (xs0 = 0) → J 44 ([some (zR (some 153)), some (zI x1), some (zI x2), some (zI x3), some (zI x4), some (zI x5), some (zI (x6 + 1)), some (zI x7), some (zI (x8 + 1)), none], [], zup μ 170 x8 (zi μ 169 x7), 0, 0)))) ∧ (¬ (xs0 = 0) → (0 ≤ x6 ∧ x6 < 6561) ∧ (0 ≤ x8 ∧ x8 < 6561) ∧ ((xs0 = 0 → J 44 ([some (zR (some 153)), some (zI x1), some (zI x2), some (zI x3), some (zI x4), some (zI x5), some (zI x6), some (zI (x7 + 1)), some (zI (x8 + 1)), none], [], zup μ 170 x8 (zi μ 169 x6), 0, 0)) ∧ (¬ (xs0 = 0) → J 44 ([some (zR (some 153)), some (zI x1), some (zI x2), some (zI x3), some (zI x4), some (zI x5), some (zI (x6 + 1)), some (zI x7), some (zI (x8 + 1)), none], [], zup μ 170 x8 (zi μ 169 x6), 0, 0)))))) : J 88 ([some (zR (some 153)), some (zI x1), some (zI x2), some (zI x3), some (zI x4), some (zI x5), some (zI x6), some (zI x7), some (zI x8), none], [zI xs0], μ, 0, 0) := by
  obtain ⟨p, e, s, m, args, below, meth, c, A, hml, hr, hlk, hnm, rfl⟩ := C
  refine s_istore (L' := [some (zR (some 153)), some (zI x1), some (zI x2), some (zI x3), some (zI x4), some (zI x5), some (zI x6), some (zI x7), some (zI x8), some (zI xs0)]) A dX11_sort_88 (Nat.le_of_ble_eq_true rfl) rfl ?_
  refine s_aload_n A dX11_sort_90 rfl ?_
  refine s_getf (k := 11) (j := 32) (sl := true) (v := zR (some 170)) A dX11_sort_91 rfl zuw_X11 (Nat.le_of_ble_eq_true rfl) zwd1340 (by decide) (zk_153 _) rfl ?_
  refine s_iload A dX11_sort_94 rfl ?_
  refine s_aload_n A dX11_sort_96 rfl ?_
  refine s_getf (k := 11) (j := 31) (sl := true) (v := zR (some 169)) A dX11_sort_97 rfl zuw_X11 (Nat.le_of_ble_eq_true rfl) zwd1339 (by decide) (zk_153 _) rfl ?_
  refine s_iload A dX11_sort_100 rfl ?_
  obtain ⟨oz1, h⟩ := h
  refine z_if_eq (tgt := 110) A dX11_sort_102 (by decide) oz1 (fun c2 => ?_) (fun c2 => ?_)
  · have h := h.1 c2
    refine s_iload A dX11_sort_110 rfl ?_
    obtain ⟨ox3, h⟩ := h
    refine z_lald A dX11_sort_112 (zk_169 _) (Nat.le_of_ble_eq_true rfl) ox3 ?_
    obtain ⟨ox4, h⟩ := h
    refine z_last A dX11_sort_113 (zk_170 _) (Nat.le_of_ble_eq_true rfl) ox4 ?_
    refine s_iload A dX11_sort_114 rfl ?_
    refine z_if_eq (tgt := 125) A dX11_sort_116 (by decide) oz1 (fun c5 => ?_) (fun c5 => ?_)
    · have h := h.1 c5
      refine s_iinc (L' := [some (zR (some 153)), some (zI x1), some (zI x2), some (zI x3), some (zI x4), some (zI x5), some (zI x6), some (zI (x7 + 1)), some (zI x8), some (zI xs0)]) A dX11_sort_125 rfl rfl ?_
      refine s_iinc (L' := [some (zR (some 153)), some (zI x1), some (zI x2), some (zI x3), some (zI x4), some (zI x5), some (zI x6), some (zI (x7 + 1)), some (zI (x8 + 1)), some (zI xs0)]) A dX11_sort_128 rfl rfl ?_
      refine s_goto (tgt := 44) A dX11_sort_131 (by decide) ?_
      exact z_wk (L' := [some (zR (some 153)), some (zI x1), some (zI x2), some (zI x3), some (zI x4), some (zI x5), some (zI x6), some (zI (x7 + 1)), some (zI (x8 + 1)), none]) ⟨rfl, rfl, rfl, rfl, rfl, rfl, rfl, rfl, rfl, trivial⟩ h
    · have h := h.2 c5
      refine s_iinc (L' := [some (zR (some 153)), some (zI x1), some (zI x2), some (zI x3), some (zI x4), some (zI x5), some (zI (x6 + 1)), some (zI x7), some (zI x8), some (zI xs0)]) A dX11_sort_119 rfl rfl ?_
      refine s_goto (tgt := 128) A dX11_sort_122 (by decide) ?_
      refine s_iinc (L' := [some (zR (some 153)), some (zI x1), some (zI x2), some (zI x3), some (zI x4), some (zI x5), some (zI (x6 + 1)), some (zI x7), some (zI (x8 + 1)), some (zI xs0)]) A dX11_sort_128 rfl rfl ?_
      refine s_goto (tgt := 44) A dX11_sort_131 (by decide) ?_
      exact z_wk (L' := [some (zR (some 153)), some (zI x1), some (zI x2), some (zI x3), some (zI x4), some (zI x5), some (zI (x6 + 1)), some (zI x7), some (zI (x8 + 1)), none]) ⟨rfl, rfl, rfl, rfl, rfl, rfl, rfl, rfl, rfl, trivial⟩ h
  · have h := h.2 c2
    refine s_iload A dX11_sort_105 rfl ?_
    refine s_goto (tgt := 112) A dX11_sort_107 (by decide) ?_
    obtain ⟨ox6, h⟩ := h
    refine z_lald A dX11_sort_112 (zk_169 _) (Nat.le_of_ble_eq_true rfl) ox6 ?_
    obtain ⟨ox7, h⟩ := h
    refine z_last A dX11_sort_113 (zk_170 _) (Nat.le_of_ble_eq_true rfl) ox7 ?_
    refine s_iload A dX11_sort_114 rfl ?_
    refine z_if_eq (tgt := 125) A dX11_sort_116 (by decide) oz1 (fun c8 => ?_) (fun c8 => ?_)
    · have h := h.1 c8
      refine s_iinc (L' := [some (zR (some 153)), some (zI x1), some (zI x2), some (zI x3), some (zI x4), some (zI x5), some (zI x6), some (zI (x7 + 1)), some (zI x8), some (zI xs0)]) A dX11_sort_125 rfl rfl ?_
      refine s_iinc (L' := [some (zR (some 153)), some (zI x1), some (zI x2), some (zI x3), some (zI x4), some (zI x5), some (zI x6), some (zI (x7 + 1)), some (zI (x8 + 1)), some (zI xs0)]) A dX11_sort_128 rfl rfl ?_
      refine s_goto (tgt := 44) A dX11_sort_131 (by decide) ?_
      exact z_wk (L' := [some (zR (some 153)), some (zI x1), some (zI x2), some (zI x3), some (zI x4), some (zI x5), some (zI x6), some (zI (x7 + 1)), some (zI (x8 + 1)), none]) ⟨rfl, rfl, rfl, rfl, rfl, rfl, rfl, rfl, rfl, trivial⟩ h
    · have h := h.2 c8
      refine s_iinc (L' := [some (zR (some 153)), some (zI x1), some (zI x2), some (zI x3), some (zI x4), some (zI x5), some (zI (x6 + 1)), some (zI x7), some (zI x8), some (zI xs0)]) A dX11_sort_119 rfl rfl ?_
      refine s_goto (tgt := 128) A dX11_sort_122 (by decide) ?_
      refine s_iinc (L' := [some (zR (some 153)), some (zI x1), some (zI x2), some (zI x3), some (zI x4), some (zI x5), some (zI (x6 + 1)), some (zI x7), some (zI (x8 + 1)), some (zI xs0)]) A dX11_sort_128 rfl rfl ?_
      refine s_goto (tgt := 44) A dX11_sort_131 (by decide) ?_
      exact z_wk (L' := [some (zR (some 153)), some (zI x1), some (zI x2), some (zI x3), some (zI x4), some (zI x5), some (zI (x6 + 1)), some (zI x7), some (zI (x8 + 1)), none]) ⟨rfl, rfl, rfl, rfl, rfl, rfl, rfl, rfl, rfl, trivial⟩ h
set_option maxRecDepth 20000 in
theorem rX11_sort_145 {G : zG} {F : zM → Prop} {J : Nat → zS → Prop} {μ : zM} (C : zJ G true (8) 0 0 mX11_sort (zKV F) J) (x1 : Int) (x2 : Int) (x3 : Int)
    (h : zin x3 ∧ zin x1 ∧ ((x1 ≤ x3 → J 2 ([some (zR (some 153)), some (zI x1), some (zI (x2 * 2)), none, none, none, none, none, none, none], [], μ, 0, 0)) ∧ (¬ (x1 ≤ x3) → (0 ≤ x3 ∧ x3 < 6561) ∧ J 145 ([some (zR (some 153)), some (zI x1), some (zI x2), some (zI (x3 + 1)), none, none, none, none, none, none], [], zup μ 169 x3 (zi μ 170 x3), 0, 0)))) : J 145 ([some (zR (some 153)), some (zI x1), some (zI x2), some (zI x3), none, none, none, none, none, none], [], μ, 0, 0) := by
  obtain ⟨p, e, s, m, args, below, meth, c, A, hml, hr, hlk, hnm, rfl⟩ := C
  refine s_iload_n A dX11_sort_145 rfl ?_
  refine s_iload_n A dX11_sort_146 rfl ?_
  obtain ⟨oz1, h⟩ := h
  obtain ⟨oz2, h⟩ := h
  refine z_icmp_ge (tgt := 168) A dX11_sort_147 (by decide) oz1 oz2 (fun c3 => ?_) (fun c3 => ?_)
  · have h := h.1 c3
    refine s_iload_n A dX11_sort_168 rfl ?_
    refine s_iconst A dX11_sort_169 ?_
    refine s_imul A dX11_sort_170 ?_
    refine s_istore_n (L' := [some (zR (some 153)), some (zI x1), some (zI (x2 * 2)), some (zI x3), none, none, none, none, none, none]) A dX11_sort_171 (Nat.le_of_ble_eq_true rfl) rfl ?_
    refine s_goto (tgt := 2) A dX11_sort_172 (by decide) ?_
    exact z_wk (L' := [some (zR (some 153)), some (zI x1), some (zI (x2 * 2)), none, none, none, none, none, none, none]) ⟨rfl, rfl, rfl, trivial⟩ h
  · have h := h.2 c3
    refine s_aload_n A dX11_sort_150 rfl ?_
    refine s_getf (k := 11) (j := 31) (sl := true) (v := zR (some 169)) A dX11_sort_151 rfl zuw_X11 (Nat.le_of_ble_eq_true rfl) zwd1339 (by decide) (zk_153 _) rfl ?_
    refine s_iload_n A dX11_sort_154 rfl ?_
    refine s_aload_n A dX11_sort_155 rfl ?_
    refine s_getf (k := 11) (j := 32) (sl := true) (v := zR (some 170)) A dX11_sort_156 rfl zuw_X11 (Nat.le_of_ble_eq_true rfl) zwd1340 (by decide) (zk_153 _) rfl ?_
    refine s_iload_n A dX11_sort_159 rfl ?_
    obtain ⟨ox4, h⟩ := h
    refine z_lald A dX11_sort_160 (zk_170 _) (Nat.le_of_ble_eq_true rfl) ox4 ?_
    refine z_last A dX11_sort_161 (zk_169 _) (Nat.le_of_ble_eq_true rfl) ox4 ?_
    refine s_iinc (L' := [some (zR (some 153)), some (zI x1), some (zI x2), some (zI (x3 + 1)), none, none, none, none, none, none]) A dX11_sort_162 rfl rfl ?_
    refine s_goto (tgt := 145) A dX11_sort_165 (by decide) ?_
    exact h
theorem eX11_sort {G : zG} {F : zM → Prop} {μ : zM} {x1 : Int} (h : ∀ J, zJ G true (8) 0 0 mX11_sort (zKV F) J → J 0 ([some (zR (some 153)), some (zI x1), none, none, none, none, none, none, none, none], [], μ, 0, 0)) : qX11_sort G x1 μ F :=
  z_body (by decide +kernel) (Nat.le_of_ble_eq_true rfl) h
set_option maxRecDepth 20000 in
theorem rX11_spread_e {G : zG} {F : Int → zM → Prop} {J : Nat → zS → Prop} {μ : zM} (C : zJ G true (12) 0 0 mX11_spread (zKI F) J) 
    (h : qX11_layColours G 154 (zup μ 153 5 0) (fun μ1 => J 17 ([some (zR (some 153)), some (zI 0), some (zI 0), none, none, none, none, none, none, none], [], μ1, 0, 0))) : J 0 ([some (zR (some 153)), none, none, none, none, none, none, none, none, none], [], μ, 0, 0) := by
  obtain ⟨p, e, s, m, args, below, meth, c, A, hml, hr, hlk, hnm, rfl⟩ := C
  refine s_aload_n A dX11_spread_0 rfl ?_
  refine s_iconst A dX11_spread_1 ?_
  refine z_putI (k := 11) (j := 5) (sl := true) A dX11_spread_2 rfl zuw_X11 (Nat.le_of_ble_eq_true rfl) zwd1313 (by decide) (zk_153 _) tyX11 tyX11_ok nmX11 rfl rfl rfl ?_
  refine s_aload_n A dX11_spread_5 rfl ?_
  refine s_aload_n A dX11_spread_6 rfl ?_
  refine s_getf (k := 11) (j := 0) (sl := true) (v := zR (some 154)) A dX11_spread_7 rfl zuw_X11 (Nat.le_of_ble_eq_true rfl) zwd1308 (by decide) (zk_153 _) rfl ?_
  refine s_callV (a := 153) (k := 11) (N := 45) (sl := true) (M := mX11_layColours) (n := 1) (d := 11) (mc := 0) (ms := 0) (av := [zR (some 154)]) (st := []) A dX11_spread_10 rfl (by decide) (zk_153 _) zwd1643 zwd1645 zwd55 zwd100 zcd_X11_layColours (Nat.le_of_ble_eq_true rfl) (Nat.le_of_ble_eq_true rfl) (Nat.le_refl _) ⟨Nat.le_of_ble_eq_true rfl, Nat.le_of_ble_eq_true rfl⟩ ⟨rfl, zhn_X11_layColours⟩ rfl (Nat.le_of_ble_eq_true rfl) rfl (z_contV (fun μ1 h => ?_) h)
  refine s_iconst A dX11_spread_13 ?_
  refine s_istore_n (L' := [some (zR (some 153)), some (zI 0), none, none, none, none, none, none, none, none]) A dX11_spread_14 (Nat.le_of_ble_eq_true rfl) rfl ?_
  refine s_iconst A dX11_spread_15 ?_
  refine s_istore_n (L' := [some (zR (some 153)), some (zI 0), some (zI 0), none, none, none, none, none, none, none]) A dX11_spread_16 (Nat.le_of_ble_eq_true rfl) rfl ?_
  exact h
set_option maxRecDepth 20000 in
theorem rX11_spread_17 {G : zG} {F : Int → zM → Prop} {J : Nat → zS → Prop} {μ : zM} (C : zJ G true (12) 0 0 mX11_spread (zKI F) J) (x1 : Int) (x2 : Int)
    (h : zin x2 ∧ ((6561 ≤ x2 → qX11_sort G x1 μ (fun μ3 => J 121 ([some (zR (some 153)), some (zI x1), some (zI 0), some (zI 0), some (zL 0), none, some (zI 0), none, none, none], [], μ3, 0, 0))) ∧ (¬ (6561 ≤ x2) → qX11_codeOf G true x2 μ (fun v4 μ4 => qX11_open G v4 μ4 (fun v5 μ5 => zin v5 ∧ ((¬ v5 = 0 → (0 ≤ 3 * x2 ∧ 3 * x2 < 19683) ∧ zin (zi μ5 159 (3 * x2)) ∧ (0 ≤ (3 * x2) + 1 ∧ (3 * x2) + 1 < 19683) ∧ zin (zi μ5 159 ((3 * x2) + 1)) ∧ (0 ≤ (3 * x2) + 2 ∧ (3 * x2) + 2 < 19683) ∧ zin (zi μ5 159 ((3 * x2) + 2)) ∧ qX11_codeOf G true x2 μ5 (fun v14 μ14 => zin v14 ∧ (0 ≤ x1 ∧ x1 < 6561) ∧ J 17 ([some (zR (some 153)), some (zI (x1 + 1)), some (zI (x2 + 1)), none, none, none, none, none, none, none], [], zup μ14 169 x1 ((10000 * ((((401 * (zi μ5 159 (3 * x2))) + (zi μ5 159 ((3 * x2) + 1))) * 401) + (zi μ5 159 ((3 * x2) + 2)))) + v14), 0, 0))) ∧ (v5 = 0 → J 17 ([some (zR (some 153)), some (zI x1), some (zI (x2 + 1)), none, none, none, none, none, none, none], [], μ5, 0, 0)))))))) : J 17 ([some (zR (some 153)), some (zI x1), some (zI x2), none, none, none, none, none, none, none], [], μ, 0, 0) := by
  obtain ⟨p, e, s, m, args, below, meth, c, A, hml, hr, hlk, hnm, rfl⟩ := C
  refine s_iload_n A dX11_spread_17 rfl ?_
  refine s_sipush A dX11_spread_18 rfl ?_
  obtain ⟨oz1, h⟩ := h
  refine z_icmp_ge (tgt := 106) A dX11_spread_21 (by decide) oz1 ⟨by decide, by decide⟩ (fun c2 => ?_) (fun c2 => ?_)
  · have h := h.1 c2
    refine s_aload_n A dX11_spread_106 rfl ?_
    refine s_iload_n A dX11_spread_107 rfl ?_
    refine s_callV (a := 153) (k := 11) (N := 45) (sl := true) (M := mX11_sort) (n := 1) (d := 8) (mc := 0) (ms := 0) (av := [zI x1]) (st := []) A dX11_spread_108 rfl (by decide) (zk_153 _) zwd1770 zwd1772 zwd74 zwd100 zcd_X11_sort (Nat.le_of_ble_eq_true rfl) (Nat.le_of_ble_eq_true rfl) (Nat.le_refl _) ⟨Nat.le_of_ble_eq_true rfl, Nat.le_of_ble_eq_true rfl⟩ ⟨rfl, zhn_X11_sort⟩ rfl (Nat.le_of_ble_eq_true rfl) rfl (z_contV (fun μ3 h => ?_) h)
    refine s_iconst A dX11_spread_111 ?_
    refine s_istore_n (L' := [some (zR (some 153)), some (zI x1), some (zI 0), none, none, none, none, none, none, none]) A dX11_spread_112 (Nat.le_of_ble_eq_true rfl) rfl ?_
    refine s_iconst A dX11_spread_113 ?_
    refine s_istore_n (L' := [some (zR (some 153)), some (zI x1), some (zI 0), some (zI 0), none, none, none, none, none, none]) A dX11_spread_114 (Nat.le_of_ble_eq_true rfl) rfl ?_
    refine s_lconst (z := 0) A dX11_spread_115 rfl ?_
    refine s_lstore (L' := [some (zR (some 153)), some (zI x1), some (zI 0), some (zI 0), some (zL 0), none, none, none, none, none]) A dX11_spread_116 (Nat.le_of_ble_eq_true rfl) rfl ?_
    refine s_iconst A dX11_spread_118 ?_
    refine s_istore (L' := [some (zR (some 153)), some (zI x1), some (zI 0), some (zI 0), some (zL 0), none, some (zI 0), none, none, none]) A dX11_spread_119 (Nat.le_of_ble_eq_true rfl) rfl ?_
    exact h
  · have h := h.2 c2
    refine s_aload_n A dX11_spread_24 rfl ?_
    refine s_iload_n A dX11_spread_25 rfl ?_
    refine s_callS (M := mX11_codeOf) (n := 1) (d := 0) (mc := 0) (ms := 0) (av := [zI x2]) (st := [zR (some 153)]) A dX11_spread_26 zwd1303 zwd1304 zwd100 zcd_X11_codeOf (Nat.le_of_ble_eq_true rfl) (Nat.le_of_ble_eq_true rfl) (Nat.le_refl _) ⟨Nat.le_of_ble_eq_true rfl, Nat.le_of_ble_eq_true rfl⟩ zhn_X11_codeOf rfl (Nat.le_of_ble_eq_true rfl) rfl (z_contI (fun v4 μ4 h => ?_) h)
    refine s_callV (a := 153) (k := 11) (N := 45) (sl := true) (M := mX11_open) (n := 1) (d := 3) (mc := 0) (ms := 0) (av := [zI v4]) (st := []) A dX11_spread_29 rfl (by decide) (zk_153 _) zwd1647 zwd1649 zwd56 zwd100 zcd_X11_open (Nat.le_of_ble_eq_true rfl) (Nat.le_of_ble_eq_true rfl) (Nat.le_refl _) ⟨Nat.le_of_ble_eq_true rfl, Nat.le_of_ble_eq_true rfl⟩ ⟨rfl, zhn_X11_open⟩ rfl (Nat.le_of_ble_eq_true rfl) rfl (z_contI (fun v5 μ5 h => ?_) h)
    obtain ⟨oz6, h⟩ := h
    refine z_if_ne (tgt := 38) A dX11_spread_32 (by decide) oz6 (fun c7 => ?_) (fun c7 => ?_)
    · have h := h.1 c7
      refine s_ldc2 (z := 401) A dX11_spread_38 zwd1768 (by decide +kernel) ?_
      refine s_aload_n A dX11_spread_41 rfl ?_
      refine s_getf (k := 11) (j := 13) (sl := true) (v := zR (some 159)) A dX11_spread_42 rfl zuw_X11 (Nat.le_of_ble_eq_true rfl) zwd1321 (by decide) (zk_153 _) rfl ?_
      refine s_iconst A dX11_spread_45 ?_
      refine s_iload_n A dX11_spread_46 rfl ?_
      refine s_imul A dX11_spread_47 ?_
      obtain ⟨ox8, h⟩ := h
      refine z_iald A dX11_spread_48 (zk_159 _) (Nat.le_of_ble_eq_true rfl) ox8 ?_
      obtain ⟨oz9, h⟩ := h
      refine z_i2l2 A dX11_spread_49 oz9 ?_
      refine s_lmul A dX11_spread_50 ?_
      refine s_aload_n A dX11_spread_51 rfl ?_
      refine s_getf (k := 11) (j := 13) (sl := true) (v := zR (some 159)) A dX11_spread_52 rfl zuw_X11 (Nat.le_of_ble_eq_true rfl) zwd1321 (by decide) (zk_153 _) rfl ?_
      refine s_iconst A dX11_spread_55 ?_
      refine s_iload_n A dX11_spread_56 rfl ?_
      refine s_imul A dX11_spread_57 ?_
      refine s_iconst A dX11_spread_58 ?_
      refine s_iadd A dX11_spread_59 ?_
      obtain ⟨ox10, h⟩ := h
      refine z_iald A dX11_spread_60 (zk_159 _) (Nat.le_of_ble_eq_true rfl) ox10 ?_
      obtain ⟨oz11, h⟩ := h
      refine z_i2l2 A dX11_spread_61 oz11 ?_
      refine s_ladd A dX11_spread_62 ?_
      refine s_ldc2 (z := 401) A dX11_spread_63 zwd1768 (by decide +kernel) ?_
      refine s_lmul A dX11_spread_66 ?_
      refine s_aload_n A dX11_spread_67 rfl ?_
      refine s_getf (k := 11) (j := 13) (sl := true) (v := zR (some 159)) A dX11_spread_68 rfl zuw_X11 (Nat.le_of_ble_eq_true rfl) zwd1321 (by decide) (zk_153 _) rfl ?_
      refine s_iconst A dX11_spread_71 ?_
      refine s_iload_n A dX11_spread_72 rfl ?_
      refine s_imul A dX11_spread_73 ?_
      refine s_iconst A dX11_spread_74 ?_
      refine s_iadd A dX11_spread_75 ?_
      obtain ⟨ox12, h⟩ := h
      refine z_iald A dX11_spread_76 (zk_159 _) (Nat.le_of_ble_eq_true rfl) ox12 ?_
      obtain ⟨oz13, h⟩ := h
      refine z_i2l2 A dX11_spread_77 oz13 ?_
      refine s_ladd A dX11_spread_78 ?_
      refine s_lstore_n (L' := [some (zR (some 153)), some (zI x1), some (zI x2), some (zL ((((401 * (zi μ5 159 (3 * x2))) + (zi μ5 159 ((3 * x2) + 1))) * 401) + (zi μ5 159 ((3 * x2) + 2)))), none, none, none, none, none, none]) A dX11_spread_79 (Nat.le_of_ble_eq_true rfl) rfl ?_
      refine s_aload_n A dX11_spread_80 rfl ?_
      refine s_getf (k := 11) (j := 31) (sl := true) (v := zR (some 169)) A dX11_spread_81 rfl zuw_X11 (Nat.le_of_ble_eq_true rfl) zwd1339 (by decide) (zk_153 _) rfl ?_
      refine s_iload_n A dX11_spread_84 rfl ?_
      refine s_ldc2 (z := 10000) A dX11_spread_85 zwd1769 (by decide +kernel) ?_
      refine s_lload_n A dX11_spread_88 rfl ?_
      refine s_lmul A dX11_spread_89 ?_
      refine s_iload_n A dX11_spread_90 rfl ?_
      refine s_callS (M := mX11_codeOf) (n := 1) (d := 0) (mc := 0) (ms := 0) (av := [zI x2]) (st := [zL (10000 * ((((401 * (zi μ5 159 (3 * x2))) + (zi μ5 159 ((3 * x2) + 1))) * 401) + (zi μ5 159 ((3 * x2) + 2)))), zI x1, zR (some 169)]) A dX11_spread_91 zwd1303 zwd1304 zwd100 zcd_X11_codeOf (Nat.le_of_ble_eq_true rfl) (Nat.le_of_ble_eq_true rfl) (Nat.le_refl _) ⟨Nat.le_of_ble_eq_true rfl, Nat.le_of_ble_eq_true rfl⟩ zhn_X11_codeOf rfl (Nat.le_of_ble_eq_true rfl) rfl (z_contI (fun v14 μ14 h => ?_) h)
      obtain ⟨oz15, h⟩ := h
      refine z_i2l2 A dX11_spread_94 oz15 ?_
      refine s_ladd A dX11_spread_95 ?_
      obtain ⟨ox16, h⟩ := h
      refine z_last A dX11_spread_96 (zk_169 _) (Nat.le_of_ble_eq_true rfl) ox16 ?_
      refine s_iinc (L' := [some (zR (some 153)), some (zI (x1 + 1)), some (zI x2), some (zL ((((401 * (zi μ5 159 (3 * x2))) + (zi μ5 159 ((3 * x2) + 1))) * 401) + (zi μ5 159 ((3 * x2) + 2)))), none, none, none, none, none, none]) A dX11_spread_97 rfl rfl ?_
      refine s_iinc (L' := [some (zR (some 153)), some (zI (x1 + 1)), some (zI (x2 + 1)), some (zL ((((401 * (zi μ5 159 (3 * x2))) + (zi μ5 159 ((3 * x2) + 1))) * 401) + (zi μ5 159 ((3 * x2) + 2)))), none, none, none, none, none, none]) A dX11_spread_100 rfl rfl ?_
      refine s_goto (tgt := 17) A dX11_spread_103 (by decide) ?_
      exact z_wk (L' := [some (zR (some 153)), some (zI (x1 + 1)), some (zI (x2 + 1)), none, none, none, none, none, none, none]) ⟨rfl, rfl, rfl, trivial⟩ h
    · have h := h.2 c7
      refine s_goto (tgt := 100) A dX11_spread_35 (by decide) ?_
      refine s_iinc (L' := [some (zR (some 153)), some (zI x1), some (zI (x2 + 1)), none, none, none, none, none, none, none]) A dX11_spread_100 rfl rfl ?_
      refine s_goto (tgt := 17) A dX11_spread_103 (by decide) ?_
      exact h
set_option maxRecDepth 20000 in
theorem rX11_spread_121 {G : zG} {F : Int → zM → Prop} {J : Nat → zS → Prop} {μ : zM} (C : zJ G true (12) 0 0 mX11_spread (zKI F) J) (x1 : Int) (x2 : Int) (x3 : Int) (y4 : Int) (x6 : Int)
    (h : zin x6 ∧ zin x1 ∧ ((x1 ≤ x6 → zin x3 ∧ qX11_tell G x3 (zup μ 153 4 0) (fun μ5 => qX11_tell G y4 μ5 (fun μ6 => qX11_tell G x1 μ6 (fun μ7 => F x2 μ7)))) ∧ (¬ (x1 ≤ x6) → J 131 ([some (zR (some 153)), some (zI x1), some (zI x2), some (zI x3), some (zL y4), none, some (zI x6), some (zI x6), none, none], [], μ, 0, 0)))) : J 121 ([some (zR (some 153)), some (zI x1), some (zI x2), some (zI x3), some (zL y4), none, some (zI x6), none, none, none], [], μ, 0, 0) := by
  obtain ⟨p, e, s, m, args, below, meth, c, A, hml, hr, hlk, hnm, rfl⟩ := C
  refine s_iload A dX11_spread_121 rfl ?_
  refine s_iload_n A dX11_spread_123 rfl ?_
  obtain ⟨oz1, h⟩ := h
  obtain ⟨oz2, h⟩ := h
  refine z_icmp_ge (tgt := 228) A dX11_spread_124 (by decide) oz1 oz2 (fun c3 => ?_) (fun c3 => ?_)
  · have h := h.1 c3
    refine s_aload_n A dX11_spread_228 rfl ?_
    refine s_iconst A dX11_spread_229 ?_
    refine z_putI (k := 11) (j := 4) (sl := true) A dX11_spread_230 rfl zuw_X11 (Nat.le_of_ble_eq_true rfl) zwd1312 (by decide) (zk_153 _) tyX11 tyX11_ok nmX11 rfl rfl rfl ?_
    refine s_aload_n A dX11_spread_233 rfl ?_
    refine s_iload_n A dX11_spread_234 rfl ?_
    obtain ⟨oz4, h⟩ := h
    refine z_i2l2 A dX11_spread_235 oz4 ?_
    refine s_callV (a := 153) (k := 11) (N := 45) (sl := true) (M := mX11_tell) (n := 1) (d := 0) (mc := 0) (ms := 0) (av := [zL x3]) (st := []) A dX11_spread_236 rfl (by decide) (zk_153 _) zwd1613 zwd1615 zwd51 zwd100 zcd_X11_tell (Nat.le_of_ble_eq_true rfl) (Nat.le_of_ble_eq_true rfl) (Nat.le_refl _) ⟨Nat.le_of_ble_eq_true rfl, Nat.le_of_ble_eq_true rfl⟩ ⟨rfl, zhn_X11_tell⟩ rfl (Nat.le_of_ble_eq_true rfl) rfl (z_contV (fun μ5 h => ?_) h)
    refine s_aload_n A dX11_spread_239 rfl ?_
    refine s_lload A dX11_spread_240 rfl ?_
    refine s_callV (a := 153) (k := 11) (N := 45) (sl := true) (M := mX11_tell) (n := 1) (d := 0) (mc := 0) (ms := 0) (av := [zL y4]) (st := []) A dX11_spread_242 rfl (by decide) (zk_153 _) zwd1613 zwd1615 zwd51 zwd100 zcd_X11_tell (Nat.le_of_ble_eq_true rfl) (Nat.le_of_ble_eq_true rfl) (Nat.le_refl _) ⟨Nat.le_of_ble_eq_true rfl, Nat.le_of_ble_eq_true rfl⟩ ⟨rfl, zhn_X11_tell⟩ rfl (Nat.le_of_ble_eq_true rfl) rfl (z_contV (fun μ6 h => ?_) h)
    refine s_aload_n A dX11_spread_245 rfl ?_
    refine s_iload_n A dX11_spread_246 rfl ?_
    refine z_i2l2 A dX11_spread_247 oz2 ?_
    refine s_callV (a := 153) (k := 11) (N := 45) (sl := true) (M := mX11_tell) (n := 1) (d := 0) (mc := 0) (ms := 0) (av := [zL x1]) (st := []) A dX11_spread_248 rfl (by decide) (zk_153 _) zwd1613 zwd1615 zwd51 zwd100 zcd_X11_tell (Nat.le_of_ble_eq_true rfl) (Nat.le_of_ble_eq_true rfl) (Nat.le_refl _) ⟨Nat.le_of_ble_eq_true rfl, Nat.le_of_ble_eq_true rfl⟩ ⟨rfl, zhn_X11_tell⟩ rfl (Nat.le_of_ble_eq_true rfl) rfl (z_contV (fun μ7 h => ?_) h)
    refine s_iload_n A dX11_spread_251 rfl ?_
    exact s_iret A dX11_spread_252 hr hlk (Nat.le_of_ble_eq_true rfl) (Nat.le_of_ble_eq_true rfl) ⟨_, rfl, h⟩
  · have h := h.2 c3
    refine s_iload A dX11_spread_127 rfl ?_
    refine s_istore (L' := [some (zR (some 153)), some (zI x1), some (zI x2), some (zI x3), some (zL y4), none, some (zI x6), some (zI x6), none, none]) A dX11_spread_129 (Nat.le_of_ble_eq_true rfl) rfl ?_
    exact h
set_option maxRecDepth 20000 in
theorem rX11_spread_131 {G : zG} {F : Int → zM → Prop} {J : Nat → zS → Prop} {μ : zM} (C : zJ G true (12) 0 0 mX11_spread (zKI F) J) (x1 : Int) (x2 : Int) (x3 : Int) (y4 : Int) (x6 : Int) (x7 : Int)
    (h : zin x7 ∧ zin x1 ∧ ((x1 ≤ x7 → J 169 ([some (zR (some 153)), some (zI x1), some (zI x2), some (zI x3), some (zL y4), none, some (zI x6), some (zI x7), none, none], [], μ, 0, 0)) ∧ (¬ (x1 ≤ x7) → (0 ≤ x7 ∧ x7 < 6561) ∧ (0 ≤ zi μ 169 x7 ∧ zi μ 169 x7 < 9223372036854775808) ∧ (0 ≤ x6 ∧ x6 < 6561) ∧ (0 ≤ zi μ 169 x6 ∧ zi μ 169 x6 < 9223372036854775808) ∧ zin64 ((zi μ 169 x7) / 10000) ∧ zin64 ((zi μ 169 x6) / 10000) ∧ ((¬ (zi μ 169 x7) / 10000 = (zi μ 169 x6) / 10000 → J 169 ([some (zR (some 153)), some (zI x1), some (zI x2), some (zI x3), some (zL y4), none, some (zI x6), some (zI x7), none, none], [], μ, 0, 0)) ∧ ((zi μ 169 x7) / 10000 = (zi μ 169 x6) / 10000 → J 131 ([some (zR (some 153)), some (zI x1), some (zI x2), some (zI x3), some (zL y4), none, some (zI x6), some (zI (x7 + 1)), none, none], [], μ, 0, 0)))))) : J 131 ([some (zR (some 153)), some (zI x1), some (zI x2), some (zI x3), some (zL y4), none, some (zI x6), some (zI x7), none, none], [], μ, 0, 0) := by
  obtain ⟨p, e, s, m, args, below, meth, c, A, hml, hr, hlk, hnm, rfl⟩ := C
  refine s_iload A dX11_spread_131 rfl ?_
  refine s_iload_n A dX11_spread_133 rfl ?_
  obtain ⟨oz1, h⟩ := h
  obtain ⟨oz2, h⟩ := h
  refine z_icmp_ge (tgt := 169) A dX11_spread_134 (by decide) oz1 oz2 (fun c3 => ?_) (fun c3 => ?_)
  · have h := h.1 c3
    exact h
  · have h := h.2 c3
    refine s_aload_n A dX11_spread_137 rfl ?_
    refine s_getf (k := 11) (j := 31) (sl := true) (v := zR (some 169)) A dX11_spread_138 rfl zuw_X11 (Nat.le_of_ble_eq_true rfl) zwd1339 (by decide) (zk_153 _) rfl ?_
    refine s_iload A dX11_spread_141 rfl ?_
    obtain ⟨ox4, h⟩ := h
    refine z_lald A dX11_spread_143 (zk_169 _) (Nat.le_of_ble_eq_true rfl) ox4 ?_
    refine s_ldc2 (z := 10000) A dX11_spread_144 zwd1769 (by decide +kernel) ?_
    obtain ⟨o1, h⟩ := h
    refine z_ldiv A dX11_spread_147 o1 ⟨by decide, by decide⟩ ?_
    refine s_aload_n A dX11_spread_148 rfl ?_
    refine s_getf (k := 11) (j := 31) (sl := true) (v := zR (some 169)) A dX11_spread_149 rfl zuw_X11 (Nat.le_of_ble_eq_true rfl) zwd1339 (by decide) (zk_153 _) rfl ?_
    refine s_iload A dX11_spread_152 rfl ?_
    obtain ⟨ox5, h⟩ := h
    refine z_lald A dX11_spread_154 (zk_169 _) (Nat.le_of_ble_eq_true rfl) ox5 ?_
    refine s_ldc2 (z := 10000) A dX11_spread_155 zwd1769 (by decide +kernel) ?_
    obtain ⟨o1, h⟩ := h
    refine z_ldiv A dX11_spread_158 o1 ⟨by decide, by decide⟩ ?_
    obtain ⟨oz6, h⟩ := h
    obtain ⟨oz7, h⟩ := h
    refine z_lc_ne (tgt := 169) A dX11_spread_159 dX11_spread_160 (by decide) oz6 oz7 (fun c8 => ?_) (fun c8 => ?_)
    · have h := h.1 c8
      exact h
    · have h := h.2 c8
      refine s_iinc (L' := [some (zR (some 153)), some (zI x1), some (zI x2), some (zI x3), some (zL y4), none, some (zI x6), some (zI (x7 + 1)), none, none]) A dX11_spread_163 rfl rfl ?_
      refine s_goto (tgt := 131) A dX11_spread_166 (by decide) ?_
      exact h
set_option maxRecDepth 20000 in
theorem rX11_spread_169 {G : zG} {F : Int → zM → Prop} {J : Nat → zS → Prop} {μ : zM} (C : zJ G true (12) 0 0 mX11_spread (zKI F) J) (x1 : Int) (x2 : Int) (x3 : Int) (y4 : Int) (x6 : Int) (x7 : Int)
    (h : (0 ≤ x6 ∧ x6 < 6561) ∧ (0 ≤ zi μ 169 x6 ∧ zi μ 169 x6 < 9223372036854775808) ∧ zin (x7 - x6) ∧ zin x3 ∧ ((x3 < x7 - x6 → J 121 ([some (zR (some 153)), some (zI x1), some (zI (x2 + 1)), some (zI (x7 - x6)), some (zL ((zi μ 169 x6) % 10000)), none, some (zI x7), none, none, none], [], μ, 0, 0)) ∧ (¬ (x3 < x7 - x6) → ((¬ x7 - x6 = x3 → J 121 ([some (zR (some 153)), some (zI x1), some (zI (x2 + 1)), some (zI x3), some (zL y4), none, some (zI x7), none, none, none], [], μ, 0, 0)) ∧ (x7 - x6 = x3 → zin64 ((zi μ 169 x6) % 10000) ∧ zin64 y4 ∧ ((y4 ≤ (zi μ 169 x6) % 10000 → J 121 ([some (zR (some 153)), some (zI x1), some (zI (x2 + 1)), some (zI x3), some (zL y4), none, some (zI x7), none, none, none], [], μ, 0, 0)) ∧ (¬ (y4 ≤ (zi μ 169 x6) % 10000) → J 121 ([some (zR (some 153)), some (zI x1), some (zI (x2 + 1)), some (zI (x7 - x6)), some (zL ((zi μ 169 x6) % 10000)), none, some (zI x7), none, none, none], [], μ, 0, 0)))))))) : J 169 ([some (zR (some 153)), some (zI x1), some (zI x2), some (zI x3), some (zL y4), none, some (zI x6), some (zI x7), none, none], [], μ, 0, 0) := by
  obtain ⟨p, e, s, m, args, below, meth, c, A, hml, hr, hlk, hnm, rfl⟩ := C
  refine s_aload_n A dX11_spread_169 rfl ?_
  refine s_getf (k := 11) (j := 31) (sl := true) (v := zR (some 169)) A dX11_spread_170 rfl zuw_X11 (Nat.le_of_ble_eq_true rfl) zwd1339 (by decide) (zk_153 _) rfl ?_
  refine s_iload A dX11_spread_173 rfl ?_
  obtain ⟨ox1, h⟩ := h
  refine z_lald A dX11_spread_175 (zk_169 _) (Nat.le_of_ble_eq_true rfl) ox1 ?_
  refine s_ldc2 (z := 10000) A dX11_spread_176 zwd1769 (by decide +kernel) ?_
  obtain ⟨o1, h⟩ := h
  refine z_lrem A dX11_spread_179 o1 ⟨by decide, by decide⟩ ?_
  refine s_lstore (L' := [some (zR (some 153)), some (zI x1), some (zI x2), some (zI x3), some (zL y4), none, some (zI x6), some (zI x7), some (zL ((zi μ 169 x6) % 10000)), none]) A dX11_spread_180 (Nat.le_of_ble_eq_true rfl) rfl ?_
  refine s_iload A dX11_spread_182 rfl ?_
  refine s_iload A dX11_spread_184 rfl ?_
  refine s_isub A dX11_spread_186 ?_
  refine s_iload_n A dX11_spread_187 rfl ?_
  obtain ⟨oz2, h⟩ := h
  obtain ⟨oz3, h⟩ := h
  refine z_icmp_gt (tgt := 208) A dX11_spread_188 (by decide) oz2 oz3 (fun c4 => ?_) (fun c4 => ?_)
  · have h := h.1 c4
    refine s_iload A dX11_spread_208 rfl ?_
    refine s_iload A dX11_spread_210 rfl ?_
    refine s_isub A dX11_spread_212 ?_
    refine s_istore_n (L' := [some (zR (some 153)), some (zI x1), some (zI x2), some (zI (x7 - x6)), some (zL y4), none, some (zI x6), some (zI x7), some (zL ((zi μ 169 x6) % 10000)), none]) A dX11_spread_213 (Nat.le_of_ble_eq_true rfl) rfl ?_
    refine s_lload A dX11_spread_214 rfl ?_
    refine s_lstore (L' := [some (zR (some 153)), some (zI x1), some (zI x2), some (zI (x7 - x6)), some (zL ((zi μ 169 x6) % 10000)), none, some (zI x6), some (zI x7), some (zL ((zi μ 169 x6) % 10000)), none]) A dX11_spread_216 (Nat.le_of_ble_eq_true rfl) rfl ?_
    refine s_iinc (L' := [some (zR (some 153)), some (zI x1), some (zI (x2 + 1)), some (zI (x7 - x6)), some (zL ((zi μ 169 x6) % 10000)), none, some (zI x6), some (zI x7), some (zL ((zi μ 169 x6) % 10000)), none]) A dX11_spread_218 rfl rfl ?_
    refine s_iload A dX11_spread_221 rfl ?_
    refine s_istore (L' := [some (zR (some 153)), some (zI x1), some (zI (x2 + 1)), some (zI (x7 - x6)), some (zL ((zi μ 169 x6) % 10000)), none, some (zI x7), some (zI x7), some (zL ((zi μ 169 x6) % 10000)), none]) A dX11_spread_223 (Nat.le_of_ble_eq_true rfl) rfl ?_
    refine s_goto (tgt := 121) A dX11_spread_225 (by decide) ?_
    exact z_wk (L' := [some (zR (some 153)), some (zI x1), some (zI (x2 + 1)), some (zI (x7 - x6)), some (zL ((zi μ 169 x6) % 10000)), none, some (zI x7), none, none, none]) ⟨rfl, rfl, rfl, rfl, rfl, rfl, trivial⟩ h
  · have h := h.2 c4
    refine s_iload A dX11_spread_191 rfl ?_
    refine s_iload A dX11_spread_193 rfl ?_
    refine s_isub A dX11_spread_195 ?_
    refine s_iload_n A dX11_spread_196 rfl ?_
    refine z_icmp_ne (tgt := 218) A dX11_spread_197 (by decide) oz2 oz3 (fun c5 => ?_) (fun c5 => ?_)
    · have h := h.1 c5
      refine s_iinc (L' := [some (zR (some 153)), some (zI x1), some (zI (x2 + 1)), some (zI x3), some (zL y4), none, some (zI x6), some (zI x7), some (zL ((zi μ 169 x6) % 10000)), none]) A dX11_spread_218 rfl rfl ?_
      refine s_iload A dX11_spread_221 rfl ?_
      refine s_istore (L' := [some (zR (some 153)), some (zI x1), some (zI (x2 + 1)), some (zI x3), some (zL y4), none, some (zI x7), some (zI x7), some (zL ((zi μ 169 x6) % 10000)), none]) A dX11_spread_223 (Nat.le_of_ble_eq_true rfl) rfl ?_
      refine s_goto (tgt := 121) A dX11_spread_225 (by decide) ?_
      exact z_wk (L' := [some (zR (some 153)), some (zI x1), some (zI (x2 + 1)), some (zI x3), some (zL y4), none, some (zI x7), none, none, none]) ⟨rfl, rfl, rfl, rfl, rfl, rfl, trivial⟩ h
    · have h := h.2 c5
      refine s_lload A dX11_spread_200 rfl ?_
      refine s_lload A dX11_spread_202 rfl ?_
      obtain ⟨oz6, h⟩ := h
      obtain ⟨oz7, h⟩ := h
      refine z_lc_ge (tgt := 218) A dX11_spread_204 dX11_spread_205 (by decide) oz6 oz7 (fun c8 => ?_) (fun c8 => ?_)
      · have h := h.1 c8
        refine s_iinc (L' := [some (zR (some 153)), some (zI x1), some (zI (x2 + 1)), some (zI x3), some (zL y4), none, some (zI x6), some (zI x7), some (zL ((zi μ 169 x6) % 10000)), none]) A dX11_spread_218 rfl rfl ?_
        refine s_iload A dX11_spread_221 rfl ?_
        refine s_istore (L' := [some (zR (some 153)), some (zI x1), some (zI (x2 + 1)), some (zI x3), some (zL y4), none, some (zI x7), some (zI x7), some (zL ((zi μ 169 x6) % 10000)), none]) A dX11_spread_223 (Nat.le_of_ble_eq_true rfl) rfl ?_
        refine s_goto (tgt := 121) A dX11_spread_225 (by decide) ?_
        exact z_wk (L' := [some (zR (some 153)), some (zI x1), some (zI (x2 + 1)), some (zI x3), some (zL y4), none, some (zI x7), none, none, none]) ⟨rfl, rfl, rfl, rfl, rfl, rfl, trivial⟩ h
      · have h := h.2 c8
        refine s_iload A dX11_spread_208 rfl ?_
        refine s_iload A dX11_spread_210 rfl ?_
        refine s_isub A dX11_spread_212 ?_
        refine s_istore_n (L' := [some (zR (some 153)), some (zI x1), some (zI x2), some (zI (x7 - x6)), some (zL y4), none, some (zI x6), some (zI x7), some (zL ((zi μ 169 x6) % 10000)), none]) A dX11_spread_213 (Nat.le_of_ble_eq_true rfl) rfl ?_
        refine s_lload A dX11_spread_214 rfl ?_
        refine s_lstore (L' := [some (zR (some 153)), some (zI x1), some (zI x2), some (zI (x7 - x6)), some (zL ((zi μ 169 x6) % 10000)), none, some (zI x6), some (zI x7), some (zL ((zi μ 169 x6) % 10000)), none]) A dX11_spread_216 (Nat.le_of_ble_eq_true rfl) rfl ?_
        refine s_iinc (L' := [some (zR (some 153)), some (zI x1), some (zI (x2 + 1)), some (zI (x7 - x6)), some (zL ((zi μ 169 x6) % 10000)), none, some (zI x6), some (zI x7), some (zL ((zi μ 169 x6) % 10000)), none]) A dX11_spread_218 rfl rfl ?_
        refine s_iload A dX11_spread_221 rfl ?_
        refine s_istore (L' := [some (zR (some 153)), some (zI x1), some (zI (x2 + 1)), some (zI (x7 - x6)), some (zL ((zi μ 169 x6) % 10000)), none, some (zI x7), some (zI x7), some (zL ((zi μ 169 x6) % 10000)), none]) A dX11_spread_223 (Nat.le_of_ble_eq_true rfl) rfl ?_
        refine s_goto (tgt := 121) A dX11_spread_225 (by decide) ?_
        exact z_wk (L' := [some (zR (some 153)), some (zI x1), some (zI (x2 + 1)), some (zI (x7 - x6)), some (zL ((zi μ 169 x6) % 10000)), none, some (zI x7), none, none, none]) ⟨rfl, rfl, rfl, rfl, rfl, rfl, trivial⟩ h
theorem eX11_spread {G : zG} {F : Int → zM → Prop} {μ : zM}  (h : ∀ J, zJ G true (12) 0 0 mX11_spread (zKI F) J → J 0 ([some (zR (some 153)), none, none, none, none, none, none, none, none, none], [], μ, 0, 0)) : qX11_spread G  μ F :=
  z_body (by decide +kernel) (Nat.le_of_ble_eq_true rfl) h
set_option maxRecDepth 20000 in
theorem rX11_common_e {G : zG} {ph : Bool} {dd : Nat} {F : Int → zM → Prop} {J : Nat → zS → Prop} {μ : zM} (C : zJ G ph (2 + dd) 0 0 mX11_common (zKL F) J) (y0 : Int) (y2 : Int)
    (h : zin64 y2 ∧ ((¬ y2 = 0 → (0 ≤ y0 ∧ y0 < 9223372036854775808) ∧ (0 < y2 ∧ y2 < 9223372036854775808) ∧ ∃ d3, d3 < dd ∧ qX11_common G ph d3 y2 (y0 % y2) μ (fun v3 μ3 => F v3 μ3)) ∧ (y2 = 0 → F y0 μ))) : J 0 ([some (zL y0), none, some (zL y2), none], [], μ, 0, 0) := by
  obtain ⟨p, e, s, m, args, below, meth, c, A, hml, hr, hlk, hnm, rfl⟩ := C
  refine s_lload_n A dX11_common_0 rfl ?_
  refine s_lconst (z := 0) A dX11_common_1 rfl ?_
  obtain ⟨oz1, h⟩ := h
  refine z_lc_ne (tgt := 10) A dX11_common_2 dX11_common_3 (by decide) oz1 ⟨by decide, by decide⟩ (fun c2 => ?_) (fun c2 => ?_)
  · have h := h.1 c2
    refine s_lload_n A dX11_common_10 rfl ?_
    refine s_lload_n A dX11_common_11 rfl ?_
    refine s_lload_n A dX11_common_12 rfl ?_
    obtain ⟨o1, h⟩ := h
    obtain ⟨o2, h⟩ := h
    refine z_lrem A dX11_common_13 o1 o2 ?_
    obtain ⟨d3, hd3, h⟩ := h
    refine s_callS (M := mX11_common) (n := 2) (d := 2 + d3) (mc := 0) (ms := 0) (av := [zL y2, zL (y0 % y2)]) (st := []) A dX11_common_14 zwd1778 zwd1779 zwd100 zcd_X11_common (by show 2 + d3 + 1 ≤ 2 + dd; omega) (Nat.le_of_ble_eq_true rfl) (Nat.le_refl _) ⟨Nat.le_of_ble_eq_true rfl, Nat.le_of_ble_eq_true rfl⟩ zhn_X11_common rfl (Nat.le_of_ble_eq_true rfl) rfl (z_contL (fun v3 μ3 h => ?_) h)
    exact s_lret A dX11_common_17 hr hlk (Nat.le_of_ble_eq_true rfl) (Nat.le_of_ble_eq_true rfl) ⟨_, rfl, h⟩
  · have h := h.2 c2
    refine s_lload_n A dX11_common_6 rfl ?_
    refine s_goto (tgt := 17) A dX11_common_7 (by decide) ?_
    exact s_lret A dX11_common_17 hr hlk (Nat.le_of_ble_eq_true rfl) (Nat.le_of_ble_eq_true rfl) ⟨_, rfl, h⟩
theorem eX11_common {G : zG} {ph : Bool} {dd : Nat} {F : Int → zM → Prop} {μ : zM} {y0 : Int} {y2 : Int} (h : ∀ J, zJ G ph (2 + dd) 0 0 mX11_common (zKL F) J → J 0 ([some (zL y0), none, some (zL y2), none], [], μ, 0, 0)) : qX11_common G ph dd y0 y2 μ F :=
  z_body (by decide +kernel) (Nat.le_of_ble_eq_true rfl) h
set_option maxRecDepth 20000 in
theorem rX11_odds_e {G : zG} {F : Int → zM → Prop} {J : Nat → zS → Prop} {μ : zM} (C : zJ G true (63) 0 0 mX11_odds (zKI F) J) (x1 : Int) (x2 : Int) (x3 : Int) (x4 : Int)
    (h : qX11_isWanted G true x1 x2 x3 (zup μ 153 5 0) (fun v1 μ1 => zin v1 ∧ ((¬ v1 = 0 → qX11_layColours G 154 μ1 (fun μ4 => J 33 ([some (zR (some 153)), some (zI x1), some (zI x2), some (zI x3), some (zI x4), some (zL 0), none, some (zL 0), none, some (zI 0), none], [], μ4, 0, 0))) ∧ (v1 = 0 → F (-1) μ1)))) : J 0 ([some (zR (some 153)), some (zI x1), some (zI x2), some (zI x3), some (zI x4), none, none, none, none, none, none], [], μ, 0, 0) := by
  obtain ⟨p, e, s, m, args, below, meth, c, A, hml, hr, hlk, hnm, rfl⟩ := C
  refine s_aload_n A dX11_odds_0 rfl ?_
  refine s_iconst A dX11_odds_1 ?_
  refine z_putI (k := 11) (j := 5) (sl := true) A dX11_odds_2 rfl zuw_X11 (Nat.le_of_ble_eq_true rfl) zwd1313 (by decide) (zk_153 _) tyX11 tyX11_ok nmX11 rfl rfl rfl ?_
  refine s_iload_n A dX11_odds_5 rfl ?_
  refine s_iload_n A dX11_odds_6 rfl ?_
  refine s_iload_n A dX11_odds_7 rfl ?_
  refine s_callS (M := mX11_isWanted) (n := 3) (d := 2) (mc := 0) (ms := 0) (av := [zI x1, zI x2, zI x3]) (st := []) A dX11_odds_8 zwd1640 zwd1641 zwd100 zcd_X11_isWanted (Nat.le_of_ble_eq_true rfl) (Nat.le_of_ble_eq_true rfl) (Nat.le_refl _) ⟨Nat.le_of_ble_eq_true rfl, Nat.le_of_ble_eq_true rfl⟩ zhn_X11_isWanted rfl (Nat.le_of_ble_eq_true rfl) rfl (z_contI (fun v1 μ1 h => ?_) h)
  obtain ⟨oz2, h⟩ := h
  refine z_if_ne (tgt := 16) A dX11_odds_11 (by decide) oz2 (fun c3 => ?_) (fun c3 => ?_)
  · have h := h.1 c3
    refine s_aload_n A dX11_odds_16 rfl ?_
    refine s_aload_n A dX11_odds_17 rfl ?_
    refine s_getf (k := 11) (j := 0) (sl := true) (v := zR (some 154)) A dX11_odds_18 rfl zuw_X11 (Nat.le_of_ble_eq_true rfl) zwd1308 (by decide) (zk_153 _) rfl ?_
    refine s_callV (a := 153) (k := 11) (N := 45) (sl := true) (M := mX11_layColours) (n := 1) (d := 11) (mc := 0) (ms := 0) (av := [zR (some 154)]) (st := []) A dX11_odds_21 rfl (by decide) (zk_153 _) zwd1643 zwd1645 zwd55 zwd100 zcd_X11_layColours (Nat.le_of_ble_eq_true rfl) (Nat.le_of_ble_eq_true rfl) (Nat.le_refl _) ⟨Nat.le_of_ble_eq_true rfl, Nat.le_of_ble_eq_true rfl⟩ ⟨rfl, zhn_X11_layColours⟩ rfl (Nat.le_of_ble_eq_true rfl) rfl (z_contV (fun μ4 h => ?_) h)
    refine s_lconst (z := 0) A dX11_odds_24 rfl ?_
    refine s_lstore (L' := [some (zR (some 153)), some (zI x1), some (zI x2), some (zI x3), some (zI x4), some (zL 0), none, none, none, none, none]) A dX11_odds_25 (Nat.le_of_ble_eq_true rfl) rfl ?_
    refine s_lconst (z := 0) A dX11_odds_27 rfl ?_
    refine s_lstore (L' := [some (zR (some 153)), some (zI x1), some (zI x2), some (zI x3), some (zI x4), some (zL 0), none, some (zL 0), none, none, none]) A dX11_odds_28 (Nat.le_of_ble_eq_true rfl) rfl ?_
    refine s_iconst A dX11_odds_30 ?_
    refine s_istore (L' := [some (zR (some 153)), some (zI x1), some (zI x2), some (zI x3), some (zI x4), some (zL 0), none, some (zL 0), none, some (zI 0), none]) A dX11_odds_31 (Nat.le_of_ble_eq_true rfl) rfl ?_
    exact h
  · have h := h.2 c3
    refine s_iconst A dX11_odds_14 ?_
    exact s_iret A dX11_odds_15 hr hlk (Nat.le_of_ble_eq_true rfl) (Nat.le_of_ble_eq_true rfl) ⟨_, rfl, h⟩
set_option maxRecDepth 20000 in
theorem rX11_odds_33 {G : zG} {F : Int → zM → Prop} {J : Nat → zS → Prop} {μ : zM} (C : zJ G true (63) 0 0 mX11_odds (zKI F) J) (x1 : Int) (x2 : Int) (x3 : Int) (x4 : Int) (y5 : Int) (y7 : Int) (x9 : Int)
    (h : zin x9 ∧ ((6561 ≤ x9 → qX11_common G true 60 y7 y5 μ (fun v3 μ3 => (0 ≤ y7 ∧ y7 < 9223372036854775808) ∧ (0 < v3 ∧ v3 < 9223372036854775808) ∧ qX11_tell G (y7 / v3) (zup μ3 153 4 0) (fun μ4 => (0 ≤ y5 ∧ y5 < 9223372036854775808) ∧ (0 < v3 ∧ v3 < 9223372036854775808) ∧ qX11_tell G (y5 / v3) μ4 (fun μ5 => F 0 μ5)))) ∧ (¬ (6561 ≤ x9) → qX11_codeOf G true x9 μ (fun v6 μ6 => qX11_open G v6 μ6 (fun v7 μ7 => zin v7 ∧ ((¬ v7 = 0 → qX11_apartOf G x9 x1 x2 x3 μ7 (fun v10 μ10 => zin v10 ∧ zin x4 ∧ ((x4 < v10 → J 33 ([some (zR (some 153)), some (zI x1), some (zI x2), some (zI x3), some (zI x4), some (zL (y5 + 1)), none, some (zL y7), none, some (zI (x9 + 1)), none], [], μ10, 0, 0)) ∧ (¬ (x4 < v10) → J 33 ([some (zR (some 153)), some (zI x1), some (zI x2), some (zI x3), some (zI x4), some (zL (y5 + 1)), none, some (zL (y7 + 1)), none, some (zI (x9 + 1)), none], [], μ10, 0, 0))))) ∧ (v7 = 0 → J 33 ([some (zR (some 153)), some (zI x1), some (zI x2), some (zI x3), some (zI x4), some (zL y5), none, some (zL y7), none, some (zI (x9 + 1)), none], [], μ7, 0, 0)))))))) : J 33 ([some (zR (some 153)), some (zI x1), some (zI x2), some (zI x3), some (zI x4), some (zL y5), none, some (zL y7), none, some (zI x9), none], [], μ, 0, 0) := by
  obtain ⟨p, e, s, m, args, below, meth, c, A, hml, hr, hlk, hnm, rfl⟩ := C
  refine s_iload A dX11_odds_33 rfl ?_
  refine s_sipush A dX11_odds_35 rfl ?_
  obtain ⟨oz1, h⟩ := h
  refine z_icmp_ge (tgt := 88) A dX11_odds_38 (by decide) oz1 ⟨by decide, by decide⟩ (fun c2 => ?_) (fun c2 => ?_)
  · have h := h.1 c2
    refine s_lload A dX11_odds_88 rfl ?_
    refine s_lload A dX11_odds_90 rfl ?_
    refine s_callS (M := mX11_common) (n := 2) (d := 2 + 60) (mc := 0) (ms := 0) (av := [zL y7, zL y5]) (st := []) A dX11_odds_92 zwd1778 zwd1779 zwd100 zcd_X11_common (Nat.le_of_ble_eq_true rfl) (Nat.le_of_ble_eq_true rfl) (Nat.le_refl _) ⟨Nat.le_of_ble_eq_true rfl, Nat.le_of_ble_eq_true rfl⟩ zhn_X11_common rfl (Nat.le_of_ble_eq_true rfl) rfl (z_contL (fun v3 μ3 h => ?_) h)
    refine s_lstore (L' := [some (zR (some 153)), some (zI x1), some (zI x2), some (zI x3), some (zI x4), some (zL y5), none, some (zL y7), none, some (zL v3), none]) A dX11_odds_95 (Nat.le_of_ble_eq_true rfl) rfl ?_
    refine s_aload_n A dX11_odds_97 rfl ?_
    refine s_iconst A dX11_odds_98 ?_
    refine z_putI (k := 11) (j := 4) (sl := true) A dX11_odds_99 rfl zuw_X11 (Nat.le_of_ble_eq_true rfl) zwd1312 (by decide) (zk_153 _) tyX11 tyX11_ok nmX11 rfl rfl rfl ?_
    refine s_aload_n A dX11_odds_102 rfl ?_
    refine s_lload A dX11_odds_103 rfl ?_
    refine s_lload A dX11_odds_105 rfl ?_
    obtain ⟨o1, h⟩ := h
    obtain ⟨o2, h⟩ := h
    refine z_ldiv A dX11_odds_107 o1 o2 ?_
    refine s_callV (a := 153) (k := 11) (N := 45) (sl := true) (M := mX11_tell) (n := 1) (d := 0) (mc := 0) (ms := 0) (av := [zL (y7 / v3)]) (st := []) A dX11_odds_108 rfl (by decide) (zk_153 _) zwd1613 zwd1615 zwd51 zwd100 zcd_X11_tell (Nat.le_of_ble_eq_true rfl) (Nat.le_of_ble_eq_true rfl) (Nat.le_refl _) ⟨Nat.le_of_ble_eq_true rfl, Nat.le_of_ble_eq_true rfl⟩ ⟨rfl, zhn_X11_tell⟩ rfl (Nat.le_of_ble_eq_true rfl) rfl (z_contV (fun μ4 h => ?_) h)
    refine s_aload_n A dX11_odds_111 rfl ?_
    refine s_lload A dX11_odds_112 rfl ?_
    refine s_lload A dX11_odds_114 rfl ?_
    obtain ⟨o1, h⟩ := h
    obtain ⟨o2, h⟩ := h
    refine z_ldiv A dX11_odds_116 o1 o2 ?_
    refine s_callV (a := 153) (k := 11) (N := 45) (sl := true) (M := mX11_tell) (n := 1) (d := 0) (mc := 0) (ms := 0) (av := [zL (y5 / v3)]) (st := []) A dX11_odds_117 rfl (by decide) (zk_153 _) zwd1613 zwd1615 zwd51 zwd100 zcd_X11_tell (Nat.le_of_ble_eq_true rfl) (Nat.le_of_ble_eq_true rfl) (Nat.le_refl _) ⟨Nat.le_of_ble_eq_true rfl, Nat.le_of_ble_eq_true rfl⟩ ⟨rfl, zhn_X11_tell⟩ rfl (Nat.le_of_ble_eq_true rfl) rfl (z_contV (fun μ5 h => ?_) h)
    refine s_iconst A dX11_odds_120 ?_
    exact s_iret A dX11_odds_121 hr hlk (Nat.le_of_ble_eq_true rfl) (Nat.le_of_ble_eq_true rfl) ⟨_, rfl, h⟩
  · have h := h.2 c2
    refine s_aload_n A dX11_odds_41 rfl ?_
    refine s_iload A dX11_odds_42 rfl ?_
    refine s_callS (M := mX11_codeOf) (n := 1) (d := 0) (mc := 0) (ms := 0) (av := [zI x9]) (st := [zR (some 153)]) A dX11_odds_44 zwd1303 zwd1304 zwd100 zcd_X11_codeOf (Nat.le_of_ble_eq_true rfl) (Nat.le_of_ble_eq_true rfl) (Nat.le_refl _) ⟨Nat.le_of_ble_eq_true rfl, Nat.le_of_ble_eq_true rfl⟩ zhn_X11_codeOf rfl (Nat.le_of_ble_eq_true rfl) rfl (z_contI (fun v6 μ6 h => ?_) h)
    refine s_callV (a := 153) (k := 11) (N := 45) (sl := true) (M := mX11_open) (n := 1) (d := 3) (mc := 0) (ms := 0) (av := [zI v6]) (st := []) A dX11_odds_47 rfl (by decide) (zk_153 _) zwd1647 zwd1649 zwd56 zwd100 zcd_X11_open (Nat.le_of_ble_eq_true rfl) (Nat.le_of_ble_eq_true rfl) (Nat.le_refl _) ⟨Nat.le_of_ble_eq_true rfl, Nat.le_of_ble_eq_true rfl⟩ ⟨rfl, zhn_X11_open⟩ rfl (Nat.le_of_ble_eq_true rfl) rfl (z_contI (fun v7 μ7 h => ?_) h)
    obtain ⟨oz8, h⟩ := h
    refine z_if_ne (tgt := 56) A dX11_odds_50 (by decide) oz8 (fun c9 => ?_) (fun c9 => ?_)
    · have h := h.1 c9
      refine s_lload A dX11_odds_56 rfl ?_
      refine s_lconst (z := 1) A dX11_odds_58 rfl ?_
      refine s_ladd A dX11_odds_59 ?_
      refine s_lstore (L' := [some (zR (some 153)), some (zI x1), some (zI x2), some (zI x3), some (zI x4), some (zL (y5 + 1)), none, some (zL y7), none, some (zI x9), none]) A dX11_odds_60 (Nat.le_of_ble_eq_true rfl) rfl ?_
      refine s_aload_n A dX11_odds_62 rfl ?_
      refine s_iload A dX11_odds_63 rfl ?_
      refine s_iload_n A dX11_odds_65 rfl ?_
      refine s_iload_n A dX11_odds_66 rfl ?_
      refine s_iload_n A dX11_odds_67 rfl ?_
      refine s_callV (a := 153) (k := 11) (N := 45) (sl := true) (M := mX11_apartOf) (n := 4) (d := 2) (mc := 0) (ms := 0) (av := [zI x9, zI x1, zI x2, zI x3]) (st := []) A dX11_odds_68 rfl (by decide) (zk_153 _) zwd1659 zwd1661 zwd59 zwd100 zcd_X11_apartOf (Nat.le_of_ble_eq_true rfl) (Nat.le_of_ble_eq_true rfl) (Nat.le_refl _) ⟨Nat.le_of_ble_eq_true rfl, Nat.le_of_ble_eq_true rfl⟩ ⟨rfl, zhn_X11_apartOf⟩ rfl (Nat.le_of_ble_eq_true rfl) rfl (z_contI (fun v10 μ10 h => ?_) h)
      refine s_iload A dX11_odds_71 rfl ?_
      obtain ⟨oz11, h⟩ := h
      obtain ⟨oz12, h⟩ := h
      refine z_icmp_gt (tgt := 82) A dX11_odds_73 (by decide) oz11 oz12 (fun c13 => ?_) (fun c13 => ?_)
      · have h := h.1 c13
        refine s_iinc (L' := [some (zR (some 153)), some (zI x1), some (zI x2), some (zI x3), some (zI x4), some (zL (y5 + 1)), none, some (zL y7), none, some (zI (x9 + 1)), none]) A dX11_odds_82 rfl rfl ?_
        refine s_goto (tgt := 33) A dX11_odds_85 (by decide) ?_
        exact h
      · have h := h.2 c13
        refine s_lload A dX11_odds_76 rfl ?_
        refine s_lconst (z := 1) A dX11_odds_78 rfl ?_
        refine s_ladd A dX11_odds_79 ?_
        refine s_lstore (L' := [some (zR (some 153)), some (zI x1), some (zI x2), some (zI x3), some (zI x4), some (zL (y5 + 1)), none, some (zL (y7 + 1)), none, some (zI x9), none]) A dX11_odds_80 (Nat.le_of_ble_eq_true rfl) rfl ?_
        refine s_iinc (L' := [some (zR (some 153)), some (zI x1), some (zI x2), some (zI x3), some (zI x4), some (zL (y5 + 1)), none, some (zL (y7 + 1)), none, some (zI (x9 + 1)), none]) A dX11_odds_82 rfl rfl ?_
        refine s_goto (tgt := 33) A dX11_odds_85 (by decide) ?_
        exact h
    · have h := h.2 c9
      refine s_goto (tgt := 82) A dX11_odds_53 (by decide) ?_
      refine s_iinc (L' := [some (zR (some 153)), some (zI x1), some (zI x2), some (zI x3), some (zI x4), some (zL y5), none, some (zL y7), none, some (zI (x9 + 1)), none]) A dX11_odds_82 rfl rfl ?_
      refine s_goto (tgt := 33) A dX11_odds_85 (by decide) ?_
      exact h
theorem eX11_odds {G : zG} {F : Int → zM → Prop} {μ : zM} {x1 : Int} {x2 : Int} {x3 : Int} {x4 : Int} (h : ∀ J, zJ G true (63) 0 0 mX11_odds (zKI F) J → J 0 ([some (zR (some 153)), some (zI x1), some (zI x2), some (zI x3), some (zI x4), none, none, none, none, none, none], [], μ, 0, 0)) : qX11_odds G x1 x2 x3 x4 μ F :=
  z_body (by decide +kernel) (Nat.le_of_ble_eq_true rfl) h
set_option maxRecDepth 20000 in
theorem rX11_cells_e {G : zG} {F : Int → zM → Prop} {J : Nat → zS → Prop} {μ : zM} (C : zJ G true (0) 0 0 mX11_cells (zKI F) J) 
    (h : F ((zi μ 154 702) * (zi μ 154 703)) μ) : J 0 ([some (zR (some 153))], [], μ, 0, 0) := by
  obtain ⟨p, e, s, m, args, below, meth, c, A, hml, hr, hlk, hnm, rfl⟩ := C
  refine s_aload_n A dX11_cells_0 rfl ?_
  refine s_getf (k := 11) (j := 0) (sl := true) (v := zR (some 154)) A dX11_cells_1 rfl zuw_X11 (Nat.le_of_ble_eq_true rfl) zwd1308 (by decide) (zk_153 _) rfl ?_
  refine s_sipush A dX11_cells_4 rfl ?_
  refine z_iald A dX11_cells_7 (zk_154 _) (Nat.le_of_ble_eq_true rfl) ⟨by decide, by decide⟩ ?_
  refine s_aload_n A dX11_cells_8 rfl ?_
  refine s_getf (k := 11) (j := 0) (sl := true) (v := zR (some 154)) A dX11_cells_9 rfl zuw_X11 (Nat.le_of_ble_eq_true rfl) zwd1308 (by decide) (zk_153 _) rfl ?_
  refine s_sipush A dX11_cells_12 rfl ?_
  refine z_iald A dX11_cells_15 (zk_154 _) (Nat.le_of_ble_eq_true rfl) ⟨by decide, by decide⟩ ?_
  refine s_imul A dX11_cells_16 ?_
  exact s_iret A dX11_cells_17 hr hlk (Nat.le_of_ble_eq_true rfl) (Nat.le_of_ble_eq_true rfl) ⟨_, rfl, h⟩
theorem eX11_cells {G : zG} {F : Int → zM → Prop} {μ : zM}  (h : ∀ J, zJ G true (0) 0 0 mX11_cells (zKI F) J → J 0 ([some (zR (some 153))], [], μ, 0, 0)) : qX11_cells G  μ F :=
  z_body (by decide +kernel) (Nat.le_of_ble_eq_true rfl) h
set_option maxRecDepth 20000 in
theorem rX11_within_e {G : zG} {ph : Bool} {F : Int → zM → Prop} {J : Nat → zS → Prop} {μ : zM} (C : zJ G ph (8) 0 0 mX11_within (zKI F) J) (x0 : Int)
    (h : zin x0 ∧ zin (min 400 x0) ∧ F (max 0 (min 400 x0)) μ) : J 0 ([some (zI x0)], [], μ, 0, 0) := by
  obtain ⟨p, e, s, m, args, below, meth, c, A, hml, hr, hlk, hnm, rfl⟩ := C
  refine s_iconst A dX11_within_0 ?_
  refine s_sipush A dX11_within_1 rfl ?_
  refine s_iload_n A dX11_within_4 rfl ?_
  obtain ⟨oz1, h⟩ := h
  refine z_mmin A dX11_within_5 zwd1575 zwd509 zwd105 zwd510 (Nat.le_of_ble_eq_true rfl) (Nat.le_of_ble_eq_true rfl) ⟨Nat.le_of_ble_eq_true rfl, Nat.le_of_ble_eq_true rfl⟩ ⟨by decide, by decide⟩ oz1 ?_
  obtain ⟨oz2, h⟩ := h
  refine z_mmax A dX11_within_8 zwd1590 zwd506 zwd105 zwd507 (Nat.le_of_ble_eq_true rfl) (Nat.le_of_ble_eq_true rfl) ⟨Nat.le_of_ble_eq_true rfl, Nat.le_of_ble_eq_true rfl⟩ ⟨by decide, by decide⟩ oz2 ?_
  exact s_iret A dX11_within_11 hr hlk (Nat.le_of_ble_eq_true rfl) (Nat.le_of_ble_eq_true rfl) ⟨_, rfl, h⟩
theorem eX11_within {G : zG} {ph : Bool} {F : Int → zM → Prop} {μ : zM} {x0 : Int} (h : ∀ J, zJ G ph (8) 0 0 mX11_within (zKI F) J → J 0 ([some (zI x0)], [], μ, 0, 0)) : qX11_within G ph x0 μ F :=
  z_body (by decide +kernel) (Nat.le_of_ble_eq_true rfl) h
set_option maxRecDepth 20000 in
theorem rX11_sameAhead_e {G : zG} {F : Int → zM → Prop} {J : Nat → zS → Prop} {μ : zM} (C : zJ G true (0) 0 0 mX11_sameAhead (zKI F) J) (x1 : Int)
    (h : J 2 ([some (zR (some 153)), some (zI x1), some (zI 0)], [], μ, 0, 0)) : J 0 ([some (zR (some 153)), some (zI x1), none], [], μ, 0, 0) := by
  obtain ⟨p, e, s, m, args, below, meth, c, A, hml, hr, hlk, hnm, rfl⟩ := C
  refine s_iconst A dX11_sameAhead_0 ?_
  refine s_istore_n (L' := [some (zR (some 153)), some (zI x1), some (zI 0)]) A dX11_sameAhead_1 (Nat.le_of_ble_eq_true rfl) rfl ?_
  exact h
set_option maxRecDepth 20000 in
theorem rX11_sameAhead_2 {G : zG} {F : Int → zM → Prop} {J : Nat → zS → Prop} {μ : zM} (C : zJ G true (0) 0 0 mX11_sameAhead (zKI F) J) (x1 : Int) (x2 : Int)
    (h : zin x2 ∧ zin x1 ∧ ((x1 ≤ x2 → F (-1) μ) ∧ (¬ (x1 ≤ x2) → (0 ≤ 638 + x2 ∧ 638 + x2 < 711) ∧ (0 ≤ 638 + x1 ∧ 638 + x1 < 711) ∧ zin (zi μ 154 (638 + x2)) ∧ zin (zi μ 154 (638 + x1)) ∧ ((¬ zi μ 154 (638 + x2) = zi μ 154 (638 + x1) → J 2 ([some (zR (some 153)), some (zI x1), some (zI (x2 + 1))], [], μ, 0, 0)) ∧ (zi μ 154 (638 + x2) = zi μ 154 (638 + x1) → F x2 μ))))) : J 2 ([some (zR (some 153)), some (zI x1), some (zI x2)], [], μ, 0, 0) := by
  obtain ⟨p, e, s, m, args, below, meth, c, A, hml, hr, hlk, hnm, rfl⟩ := C
  refine s_iload_n A dX11_sameAhead_2 rfl ?_
  refine s_iload_n A dX11_sameAhead_3 rfl ?_
  obtain ⟨oz1, h⟩ := h
  obtain ⟨oz2, h⟩ := h
  refine z_icmp_ge (tgt := 38) A dX11_sameAhead_4 (by decide) oz1 oz2 (fun c3 => ?_) (fun c3 => ?_)
  · have h := h.1 c3
    refine s_iconst A dX11_sameAhead_38 ?_
    exact s_iret A dX11_sameAhead_39 hr hlk (Nat.le_of_ble_eq_true rfl) (Nat.le_of_ble_eq_true rfl) ⟨_, rfl, h⟩
  · have h := h.2 c3
    refine s_aload_n A dX11_sameAhead_7 rfl ?_
    refine s_getf (k := 11) (j := 0) (sl := true) (v := zR (some 154)) A dX11_sameAhead_8 rfl zuw_X11 (Nat.le_of_ble_eq_true rfl) zwd1308 (by decide) (zk_153 _) rfl ?_
    refine s_sipush A dX11_sameAhead_11 rfl ?_
    refine s_iload_n A dX11_sameAhead_14 rfl ?_
    refine s_iadd A dX11_sameAhead_15 ?_
    obtain ⟨ox4, h⟩ := h
    refine z_iald A dX11_sameAhead_16 (zk_154 _) (Nat.le_of_ble_eq_true rfl) ox4 ?_
    refine s_aload_n A dX11_sameAhead_17 rfl ?_
    refine s_getf (k := 11) (j := 0) (sl := true) (v := zR (some 154)) A dX11_sameAhead_18 rfl zuw_X11 (Nat.le_of_ble_eq_true rfl) zwd1308 (by decide) (zk_153 _) rfl ?_
    refine s_sipush A dX11_sameAhead_21 rfl ?_
    refine s_iload_n A dX11_sameAhead_24 rfl ?_
    refine s_iadd A dX11_sameAhead_25 ?_
    obtain ⟨ox5, h⟩ := h
    refine z_iald A dX11_sameAhead_26 (zk_154 _) (Nat.le_of_ble_eq_true rfl) ox5 ?_
    obtain ⟨oz6, h⟩ := h
    obtain ⟨oz7, h⟩ := h
    refine z_icmp_ne (tgt := 32) A dX11_sameAhead_27 (by decide) oz6 oz7 (fun c8 => ?_) (fun c8 => ?_)
    · have h := h.1 c8
      refine s_iinc (L' := [some (zR (some 153)), some (zI x1), some (zI (x2 + 1))]) A dX11_sameAhead_32 rfl rfl ?_
      refine s_goto (tgt := 2) A dX11_sameAhead_35 (by decide) ?_
      exact h
    · have h := h.2 c8
      refine s_iload_n A dX11_sameAhead_30 rfl ?_
      exact s_iret A dX11_sameAhead_31 hr hlk (Nat.le_of_ble_eq_true rfl) (Nat.le_of_ble_eq_true rfl) ⟨_, rfl, h⟩
theorem eX11_sameAhead {G : zG} {F : Int → zM → Prop} {μ : zM} {x1 : Int} (h : ∀ J, zJ G true (0) 0 0 mX11_sameAhead (zKI F) J → J 0 ([some (zR (some 153)), some (zI x1), none], [], μ, 0, 0)) : qX11_sameAhead G x1 μ F :=
  z_body (by decide +kernel) (Nat.le_of_ble_eq_true rfl) h
set_option maxRecDepth 20000 in
theorem rX11_layPress_e {G : zG} {F : zM → Prop} {J : Nat → zS → Prop} {μ : zM} (C : zJ G true (10) 0 0 mX11_layPress (zKV F) J) (x1 : Int)
    (h : J 11 ([some (zR (some 153)), some (zI x1), some (zI (zi μ 154 702)), some (zI 0), none, none, none, none], [], μ, 0, 0)) : J 0 ([some (zR (some 153)), some (zI x1), none, none, none, none, none, none], [], μ, 0, 0) := by
  obtain ⟨p, e, s, m, args, below, meth, c, A, hml, hr, hlk, hnm, rfl⟩ := C
  refine s_aload_n A dX11_layPress_0 rfl ?_
  refine s_getf (k := 11) (j := 0) (sl := true) (v := zR (some 154)) A dX11_layPress_1 rfl zuw_X11 (Nat.le_of_ble_eq_true rfl) zwd1308 (by decide) (zk_153 _) rfl ?_
  refine s_sipush A dX11_layPress_4 rfl ?_
  refine z_iald A dX11_layPress_7 (zk_154 _) (Nat.le_of_ble_eq_true rfl) ⟨by decide, by decide⟩ ?_
  refine s_istore_n (L' := [some (zR (some 153)), some (zI x1), some (zI (zi μ 154 702)), none, none, none, none, none]) A dX11_layPress_8 (Nat.le_of_ble_eq_true rfl) rfl ?_
  refine s_iconst A dX11_layPress_9 ?_
  refine s_istore_n (L' := [some (zR (some 153)), some (zI x1), some (zI (zi μ 154 702)), some (zI 0), none, none, none, none]) A dX11_layPress_10 (Nat.le_of_ble_eq_true rfl) rfl ?_
  exact h
set_option maxRecDepth 20000 in
theorem rX11_layPress_11 {G : zG} {F : zM → Prop} {J : Nat → zS → Prop} {μ : zM} (C : zJ G true (10) 0 0 mX11_layPress (zKV F) J) (x1 : Int) (x2 : Int) (x3 : Int)
    (h : zin x3 ∧ ((192 ≤ x3 → J 35 ([some (zR (some 153)), some (zI x1), some (zI x2), some (zI 0), none, none, none, none], [], μ, 0, 0)) ∧ (¬ (192 ≤ x3) → (0 ≤ x3 ∧ x3 < 192) ∧ J 11 ([some (zR (some 153)), some (zI x1), some (zI x2), some (zI (x3 + 1)), none, none, none, none], [], zup μ 172 x3 0, 0, 0)))) : J 11 ([some (zR (some 153)), some (zI x1), some (zI x2), some (zI x3), none, none, none, none], [], μ, 0, 0) := by
  obtain ⟨p, e, s, m, args, below, meth, c, A, hml, hr, hlk, hnm, rfl⟩ := C
  refine s_iload_n A dX11_layPress_11 rfl ?_
  refine s_aload_n A dX11_layPress_12 rfl ?_
  refine s_getf (k := 11) (j := 34) (sl := true) (v := zR (some 172)) A dX11_layPress_13 rfl zuw_X11 (Nat.le_of_ble_eq_true rfl) zwd1342 (by decide) (zk_153 _) rfl ?_
  refine s_alen A dX11_layPress_16 (by decide) (zk_172 _) ?_
  obtain ⟨oz1, h⟩ := h
  refine z_icmp_ge (tgt := 33) A dX11_layPress_17 (by decide) oz1 ⟨by decide, by decide⟩ (fun c2 => ?_) (fun c2 => ?_)
  · have h := h.1 c2
    refine s_iconst A dX11_layPress_33 ?_
    refine s_istore_n (L' := [some (zR (some 153)), some (zI x1), some (zI x2), some (zI 0), none, none, none, none]) A dX11_layPress_34 (Nat.le_of_ble_eq_true rfl) rfl ?_
    exact h
  · have h := h.2 c2
    refine s_aload_n A dX11_layPress_20 rfl ?_
    refine s_getf (k := 11) (j := 34) (sl := true) (v := zR (some 172)) A dX11_layPress_21 rfl zuw_X11 (Nat.le_of_ble_eq_true rfl) zwd1342 (by decide) (zk_153 _) rfl ?_
    refine s_iload_n A dX11_layPress_24 rfl ?_
    refine s_iconst A dX11_layPress_25 ?_
    obtain ⟨ox3, h⟩ := h
    refine z_iast A dX11_layPress_26 (zk_172 _) (Nat.le_of_ble_eq_true rfl) ox3 ?_
    refine s_iinc (L' := [some (zR (some 153)), some (zI x1), some (zI x2), some (zI (x3 + 1)), none, none, none, none]) A dX11_layPress_27 rfl rfl ?_
    refine s_goto (tgt := 11) A dX11_layPress_30 (by decide) ?_
    exact h
set_option maxRecDepth 20000 in
theorem rX11_layPress_35 {G : zG} {F : zM → Prop} {J : Nat → zS → Prop} {μ : zM} (C : zJ G true (10) 0 0 mX11_layPress (zKV F) J) (x1 : Int) (x2 : Int) (x3 : Int)
    (h : qX11_cells G μ (fun v1 μ1 => zin x3 ∧ zin v1 ∧ ((v1 ≤ x3 → F μ1) ∧ (¬ (v1 ≤ x3) → (0 ≤ 638 + x3 ∧ 638 + x3 < 711) ∧ J 64 ([some (zR (some 153)), some (zI x1), some (zI x2), some (zI x3), some (zI (614 + (3 * (zi μ1 154 (638 + x3))))), some (zI 0), none, none], [], μ1, 0, 0))))) : J 35 ([some (zR (some 153)), some (zI x1), some (zI x2), some (zI x3), none, none, none, none], [], μ, 0, 0) := by
  obtain ⟨p, e, s, m, args, below, meth, c, A, hml, hr, hlk, hnm, rfl⟩ := C
  refine s_iload_n A dX11_layPress_35 rfl ?_
  refine s_aload_n A dX11_layPress_36 rfl ?_
  refine s_callV (a := 153) (k := 11) (N := 45) (sl := true) (M := mX11_cells) (n := 0) (d := 0) (mc := 0) (ms := 0) (av := []) (st := [zI x3]) A dX11_layPress_37 rfl (by decide) (zk_153 _) zwd1785 zwd1787 zwd75 zwd100 zcd_X11_cells (Nat.le_of_ble_eq_true rfl) (Nat.le_of_ble_eq_true rfl) (Nat.le_refl _) ⟨Nat.le_of_ble_eq_true rfl, Nat.le_of_ble_eq_true rfl⟩ ⟨rfl, zhn_X11_cells⟩ rfl (Nat.le_of_ble_eq_true rfl) rfl (z_contI (fun v1 μ1 h => ?_) h)
  obtain ⟨oz2, h⟩ := h
  obtain ⟨oz3, h⟩ := h
  refine z_icmp_ge (tgt := 286) A dX11_layPress_40 (by decide) oz2 oz3 (fun c4 => ?_) (fun c4 => ?_)
  · have h := h.1 c4
    exact s_vret A dX11_layPress_286 hr hlk (Nat.le_of_ble_eq_true rfl) (Nat.le_of_ble_eq_true rfl) ⟨rfl, h⟩
  · have h := h.2 c4
    refine s_sipush A dX11_layPress_43 rfl ?_
    refine s_iconst A dX11_layPress_46 ?_
    refine s_aload_n A dX11_layPress_47 rfl ?_
    refine s_getf (k := 11) (j := 0) (sl := true) (v := zR (some 154)) A dX11_layPress_48 rfl zuw_X11 (Nat.le_of_ble_eq_true rfl) zwd1308 (by decide) (zk_153 _) rfl ?_
    refine s_sipush A dX11_layPress_51 rfl ?_
    refine s_iload_n A dX11_layPress_54 rfl ?_
    refine s_iadd A dX11_layPress_55 ?_
    obtain ⟨ox5, h⟩ := h
    refine z_iald A dX11_layPress_56 (zk_154 _) (Nat.le_of_ble_eq_true rfl) ox5 ?_
    refine s_imul A dX11_layPress_57 ?_
    refine s_iadd A dX11_layPress_58 ?_
    refine s_istore (L' := [some (zR (some 153)), some (zI x1), some (zI x2), some (zI x3), some (zI (614 + (3 * (zi μ1 154 (638 + x3))))), none, none, none]) A dX11_layPress_59 (Nat.le_of_ble_eq_true rfl) rfl ?_
    refine s_iconst A dX11_layPress_61 ?_
    refine s_istore (L' := [some (zR (some 153)), some (zI x1), some (zI x2), some (zI x3), some (zI (614 + (3 * (zi μ1 154 (638 + x3))))), some (zI 0), none, none]) A dX11_layPress_62 (Nat.le_of_ble_eq_true rfl) rfl ?_
    exact h
set_option maxRecDepth 20000 in
theorem rX11_layPress_64 {G : zG} {F : zM → Prop} {J : Nat → zS → Prop} {μ : zM} (C : zJ G true (10) 0 0 mX11_layPress (zKV F) J) (x1 : Int) (x2 : Int) (x3 : Int) (x4 : Int) (x5 : Int)
    (h : zin x5 ∧ ((3 ≤ x5 → zin x1 ∧ ((¬ x1 = 0 → J 121 ([some (zR (some 153)), some (zI x1), some (zI x2), some (zI x3), none, none, none, none], [zI (-1)], μ, 0, 0)) ∧ (x1 = 0 → qX11_sameAhead G x3 μ (fun v5 μ5 => J 121 ([some (zR (some 153)), some (zI x1), some (zI x2), some (zI x3), none, none, none, none], [zI v5], μ5, 0, 0))))) ∧ (¬ (3 ≤ x5) → (0 ≤ x4 + x5 ∧ x4 + x5 < 711) ∧ (0 ≤ (3 * x3) + x5 ∧ (3 * x3) + x5 < 192) ∧ qX11_within G true ((zi μ 154 (x4 + x5)) + (zi μ 172 ((3 * x3) + x5))) μ (fun v8 μ8 => (0 ≤ x5 ∧ x5 < 3) ∧ J 64 ([some (zR (some 153)), some (zI x1), some (zI x2), some (zI x3), some (zI x4), some (zI (x5 + 1)), none, none], [], zup μ8 166 x5 v8, 0, 0))))) : J 64 ([some (zR (some 153)), some (zI x1), some (zI x2), some (zI x3), some (zI x4), some (zI x5), none, none], [], μ, 0, 0) := by
  obtain ⟨p, e, s, m, args, below, meth, c, A, hml, hr, hlk, hnm, rfl⟩ := C
  refine s_iload A dX11_layPress_64 rfl ?_
  refine s_iconst A dX11_layPress_66 ?_
  obtain ⟨oz1, h⟩ := h
  refine z_icmp_ge (tgt := 108) A dX11_layPress_67 (by decide) oz1 ⟨by decide, by decide⟩ (fun c2 => ?_) (fun c2 => ?_)
  · have h := h.1 c2
    refine s_iload_n A dX11_layPress_108 rfl ?_
    obtain ⟨oz3, h⟩ := h
    refine z_if_ne (tgt := 120) A dX11_layPress_109 (by decide) oz3 (fun c4 => ?_) (fun c4 => ?_)
    · have h := h.1 c4
      refine s_iconst A dX11_layPress_120 ?_
      exact z_wk (L' := [some (zR (some 153)), some (zI x1), some (zI x2), some (zI x3), none, none, none, none]) ⟨rfl, rfl, rfl, rfl, trivial⟩ h
    · have h := h.2 c4
      refine s_aload_n A dX11_layPress_112 rfl ?_
      refine s_iload_n A dX11_layPress_113 rfl ?_
      refine s_callV (a := 153) (k := 11) (N := 45) (sl := true) (M := mX11_sameAhead) (n := 1) (d := 0) (mc := 0) (ms := 0) (av := [zI x3]) (st := []) A dX11_layPress_114 rfl (by decide) (zk_153 _) zwd1796 zwd1798 zwd77 zwd100 zcd_X11_sameAhead (Nat.le_of_ble_eq_true rfl) (Nat.le_of_ble_eq_true rfl) (Nat.le_refl _) ⟨Nat.le_of_ble_eq_true rfl, Nat.le_of_ble_eq_true rfl⟩ ⟨rfl, zhn_X11_sameAhead⟩ rfl (Nat.le_of_ble_eq_true rfl) rfl (z_contI (fun v5 μ5 h => ?_) h)
      refine s_goto (tgt := 121) A dX11_layPress_117 (by decide) ?_
      exact z_wk (L' := [some (zR (some 153)), some (zI x1), some (zI x2), some (zI x3), none, none, none, none]) ⟨rfl, rfl, rfl, rfl, trivial⟩ h
  · have h := h.2 c2
    refine s_aload_n A dX11_layPress_70 rfl ?_
    refine s_getf (k := 11) (j := 25) (sl := true) (v := zR (some 166)) A dX11_layPress_71 rfl zuw_X11 (Nat.le_of_ble_eq_true rfl) zwd1333 (by decide) (zk_153 _) rfl ?_
    refine s_iload A dX11_layPress_74 rfl ?_
    refine s_aload_n A dX11_layPress_76 rfl ?_
    refine s_getf (k := 11) (j := 0) (sl := true) (v := zR (some 154)) A dX11_layPress_77 rfl zuw_X11 (Nat.le_of_ble_eq_true rfl) zwd1308 (by decide) (zk_153 _) rfl ?_
    refine s_iload A dX11_layPress_80 rfl ?_
    refine s_iload A dX11_layPress_82 rfl ?_
    refine s_iadd A dX11_layPress_84 ?_
    obtain ⟨ox6, h⟩ := h
    refine z_iald A dX11_layPress_85 (zk_154 _) (Nat.le_of_ble_eq_true rfl) ox6 ?_
    refine s_aload_n A dX11_layPress_86 rfl ?_
    refine s_getf (k := 11) (j := 34) (sl := true) (v := zR (some 172)) A dX11_layPress_87 rfl zuw_X11 (Nat.le_of_ble_eq_true rfl) zwd1342 (by decide) (zk_153 _) rfl ?_
    refine s_iconst A dX11_layPress_90 ?_
    refine s_iload_n A dX11_layPress_91 rfl ?_
    refine s_imul A dX11_layPress_92 ?_
    refine s_iload A dX11_layPress_93 rfl ?_
    refine s_iadd A dX11_layPress_95 ?_
    obtain ⟨ox7, h⟩ := h
    refine z_iald A dX11_layPress_96 (zk_172 _) (Nat.le_of_ble_eq_true rfl) ox7 ?_
    refine s_iadd A dX11_layPress_97 ?_
    refine s_callS (M := mX11_within) (n := 1) (d := 8) (mc := 0) (ms := 0) (av := [zI ((zi μ 154 (x4 + x5)) + (zi μ 172 ((3 * x3) + x5)))]) (st := [zI x5, zR (some 166)]) A dX11_layPress_98 zwd1793 zwd1794 zwd100 zcd_X11_within (Nat.le_of_ble_eq_true rfl) (Nat.le_of_ble_eq_true rfl) (Nat.le_refl _) ⟨Nat.le_of_ble_eq_true rfl, Nat.le_of_ble_eq_true rfl⟩ zhn_X11_within rfl (Nat.le_of_ble_eq_true rfl) rfl (z_contI (fun v8 μ8 h => ?_) h)
    obtain ⟨ox9, h⟩ := h
    refine z_iast A dX11_layPress_101 (zk_166 _) (Nat.le_of_ble_eq_true rfl) ox9 ?_
    refine s_iinc (L' := [some (zR (some 153)), some (zI x1), some (zI x2), some (zI x3), some (zI x4), some (zI (x5 + 1)), none, none]) A dX11_layPress_102 rfl rfl ?_
    refine s_goto (tgt := 64) A dX11_layPress_105 (by decide) ?_
    exact h
set_option maxRecDepth 20000 in
theorem rX11_layPress_121 {G : zG} {F : zM → Prop} {J : Nat → zS → Prop} {μ : zM} (C : zJ G true (10) 0 0 mX11_layPress (zKV F) J) (x1 : Int) (x2 : Int) (x3 : Int) (xs0 : Int)
    (h : zin xs0 ∧ ((¬ xs0 = -1 → (0 ≤ xs0 ∧ xs0 < 64) ∧ (0 ≤ x3 ∧ x3 < 64) ∧ zin x1 ∧ ((¬ x1 = 0 → J 177 ([some (zR (some 153)), some (zI x1), some (zI x2), some (zI x3), none, none, some (zI 0), none], [], zup μ 171 x3 (zi μ 171 xs0), 0, 0)) ∧ (x1 = 0 → J 35 ([some (zR (some 153)), some (zI x1), some (zI x2), some (zI (x3 + 1)), none, none, none, none], [], zup μ 171 x3 (zi μ 171 xs0), 0, 0)))) ∧ (xs0 = -1 → qX11_matchOf G (zi μ 166 0) (zi μ 166 1) (zi μ 166 2) μ (fun v7 μ7 => (0 ≤ x3 ∧ x3 < 64) ∧ zin x1 ∧ ((¬ x1 = 0 → J 177 ([some (zR (some 153)), some (zI x1), some (zI x2), some (zI x3), none, none, some (zI 0), none], [], zup μ7 171 x3 v7, 0, 0)) ∧ (x1 = 0 → J 35 ([some (zR (some 153)), some (zI x1), some (zI x2), some (zI (x3 + 1)), none, none, none, none], [], zup μ7 171 x3 v7, 0, 0))))))) : J 121 ([some (zR (some 153)), some (zI x1), some (zI x2), some (zI x3), none, none, none, none], [zI xs0], μ, 0, 0) := by
  obtain ⟨p, e, s, m, args, below, meth, c, A, hml, hr, hlk, hnm, rfl⟩ := C
  refine s_istore (L' := [some (zR (some 153)), some (zI x1), some (zI x2), some (zI x3), none, some (zI xs0), none, none]) A dX11_layPress_121 (Nat.le_of_ble_eq_true rfl) rfl ?_
  refine s_aload_n A dX11_layPress_123 rfl ?_
  refine s_getf (k := 11) (j := 33) (sl := true) (v := zR (some 171)) A dX11_layPress_124 rfl zuw_X11 (Nat.le_of_ble_eq_true rfl) zwd1341 (by decide) (zk_153 _) rfl ?_
  refine s_iload_n A dX11_layPress_127 rfl ?_
  refine s_iload A dX11_layPress_128 rfl ?_
  refine s_iconst A dX11_layPress_130 ?_
  obtain ⟨oz1, h⟩ := h
  refine z_icmp_ne (tgt := 159) A dX11_layPress_131 (by decide) oz1 ⟨by decide, by decide⟩ (fun c2 => ?_) (fun c2 => ?_)
  · have h := h.1 c2
    refine s_aload_n A dX11_layPress_159 rfl ?_
    refine s_getf (k := 11) (j := 33) (sl := true) (v := zR (some 171)) A dX11_layPress_160 rfl zuw_X11 (Nat.le_of_ble_eq_true rfl) zwd1341 (by decide) (zk_153 _) rfl ?_
    refine s_iload A dX11_layPress_163 rfl ?_
    obtain ⟨ox3, h⟩ := h
    refine z_iald A dX11_layPress_165 (zk_171 _) (Nat.le_of_ble_eq_true rfl) ox3 ?_
    obtain ⟨ox4, h⟩ := h
    refine z_iast A dX11_layPress_166 (zk_171 _) (Nat.le_of_ble_eq_true rfl) ox4 ?_
    refine s_iload_n A dX11_layPress_167 rfl ?_
    obtain ⟨oz5, h⟩ := h
    refine z_if_ne (tgt := 174) A dX11_layPress_168 (by decide) oz5 (fun c6 => ?_) (fun c6 => ?_)
    · have h := h.1 c6
      refine s_iconst A dX11_layPress_174 ?_
      refine s_istore (L' := [some (zR (some 153)), some (zI x1), some (zI x2), some (zI x3), none, some (zI xs0), some (zI 0), none]) A dX11_layPress_175 (Nat.le_of_ble_eq_true rfl) rfl ?_
      exact z_wk (L' := [some (zR (some 153)), some (zI x1), some (zI x2), some (zI x3), none, none, some (zI 0), none]) ⟨rfl, rfl, rfl, rfl, rfl, trivial⟩ h
    · have h := h.2 c6
      refine s_goto (tgt := 280) A dX11_layPress_171 (by decide) ?_
      refine s_iinc (L' := [some (zR (some 153)), some (zI x1), some (zI x2), some (zI (x3 + 1)), none, some (zI xs0), none, none]) A dX11_layPress_280 rfl rfl ?_
      refine s_goto (tgt := 35) A dX11_layPress_283 (by decide) ?_
      exact z_wk (L' := [some (zR (some 153)), some (zI x1), some (zI x2), some (zI (x3 + 1)), none, none, none, none]) ⟨rfl, rfl, rfl, rfl, trivial⟩ h
  · have h := h.2 c2
    refine s_aload_n A dX11_layPress_134 rfl ?_
    refine s_aload_n A dX11_layPress_135 rfl ?_
    refine s_getf (k := 11) (j := 25) (sl := true) (v := zR (some 166)) A dX11_layPress_136 rfl zuw_X11 (Nat.le_of_ble_eq_true rfl) zwd1333 (by decide) (zk_153 _) rfl ?_
    refine s_iconst A dX11_layPress_139 ?_
    refine z_iald A dX11_layPress_140 (zk_166 _) (Nat.le_of_ble_eq_true rfl) ⟨by decide, by decide⟩ ?_
    refine s_aload_n A dX11_layPress_141 rfl ?_
    refine s_getf (k := 11) (j := 25) (sl := true) (v := zR (some 166)) A dX11_layPress_142 rfl zuw_X11 (Nat.le_of_ble_eq_true rfl) zwd1333 (by decide) (zk_153 _) rfl ?_
    refine s_iconst A dX11_layPress_145 ?_
    refine z_iald A dX11_layPress_146 (zk_166 _) (Nat.le_of_ble_eq_true rfl) ⟨by decide, by decide⟩ ?_
    refine s_aload_n A dX11_layPress_147 rfl ?_
    refine s_getf (k := 11) (j := 25) (sl := true) (v := zR (some 166)) A dX11_layPress_148 rfl zuw_X11 (Nat.le_of_ble_eq_true rfl) zwd1333 (by decide) (zk_153 _) rfl ?_
    refine s_iconst A dX11_layPress_151 ?_
    refine z_iald A dX11_layPress_152 (zk_166 _) (Nat.le_of_ble_eq_true rfl) ⟨by decide, by decide⟩ ?_
    refine s_callV (a := 153) (k := 11) (N := 45) (sl := true) (M := mX11_matchOf) (n := 3) (d := 9) (mc := 0) (ms := 0) (av := [zI (zi μ 166 0), zI (zi μ 166 1), zI (zi μ 166 2)]) (st := [zI x3, zR (some 171)]) A dX11_layPress_153 rfl (by decide) (zk_153 _) zwd1651 zwd1653 zwd57 zwd100 zcd_X11_matchOf (Nat.le_of_ble_eq_true rfl) (Nat.le_of_ble_eq_true rfl) (Nat.le_refl _) ⟨Nat.le_of_ble_eq_true rfl, Nat.le_of_ble_eq_true rfl⟩ ⟨rfl, zhn_X11_matchOf⟩ rfl (Nat.le_of_ble_eq_true rfl) rfl (z_contI (fun v7 μ7 h => ?_) h)
    refine s_goto (tgt := 166) A dX11_layPress_156 (by decide) ?_
    obtain ⟨ox8, h⟩ := h
    refine z_iast A dX11_layPress_166 (zk_171 _) (Nat.le_of_ble_eq_true rfl) ox8 ?_
    refine s_iload_n A dX11_layPress_167 rfl ?_
    obtain ⟨oz9, h⟩ := h
    refine z_if_ne (tgt := 174) A dX11_layPress_168 (by decide) oz9 (fun c10 => ?_) (fun c10 => ?_)
    · have h := h.1 c10
      refine s_iconst A dX11_layPress_174 ?_
      refine s_istore (L' := [some (zR (some 153)), some (zI x1), some (zI x2), some (zI x3), none, some (zI xs0), some (zI 0), none]) A dX11_layPress_175 (Nat.le_of_ble_eq_true rfl) rfl ?_
      exact z_wk (L' := [some (zR (some 153)), some (zI x1), some (zI x2), some (zI x3), none, none, some (zI 0), none]) ⟨rfl, rfl, rfl, rfl, rfl, trivial⟩ h
    · have h := h.2 c10
      refine s_goto (tgt := 280) A dX11_layPress_171 (by decide) ?_
      refine s_iinc (L' := [some (zR (some 153)), some (zI x1), some (zI x2), some (zI (x3 + 1)), none, some (zI xs0), none, none]) A dX11_layPress_280 rfl rfl ?_
      refine s_goto (tgt := 35) A dX11_layPress_283 (by decide) ?_
      exact z_wk (L' := [some (zR (some 153)), some (zI x1), some (zI x2), some (zI (x3 + 1)), none, none, none, none]) ⟨rfl, rfl, rfl, rfl, trivial⟩ h
set_option maxRecDepth 20000 in
theorem rX11_layPress_177 {G : zG} {F : zM → Prop} {J : Nat → zS → Prop} {μ : zM} (C : zJ G true (10) 0 0 mX11_layPress (zKV F) J) (x1 : Int) (x2 : Int) (x3 : Int) (x6 : Int)
    (h : zin x6 ∧ ((3 ≤ x6 → J 35 ([some (zR (some 153)), some (zI x1), some (zI x2), some (zI (x3 + 1)), none, none, none, none], [], μ, 0, 0)) ∧ (¬ (3 ≤ x6) → (0 ≤ x6 ∧ x6 < 3) ∧ (0 ≤ x3 ∧ x3 < 64) ∧ qX11_numberOf G true (zi μ 171 x3) μ (fun v5 μ5 => (0 ≤ (3 * v5) + x6 ∧ (3 * v5) + x6 < 19683) ∧ (0 ≤ x3 ∧ x3 < 2147483648) ∧ (0 < x2 ∧ x2 < 2147483648) ∧ zin (x3 % x2) ∧ zin (x2 - 1) ∧ ((x2 - 1 ≤ x3 % x2 → qX11_cells G μ5 (fun v10 μ10 => zin (x3 + x2) ∧ zin v10 ∧ ((v10 ≤ x3 + x2 → J 177 ([some (zR (some 153)), some (zI x1), some (zI x2), some (zI x3), none, none, some (zI (x6 + 1)), none], [], μ10, 0, 0)) ∧ (¬ (v10 ≤ x3 + x2) → (0 ≤ (3 * (x3 + x2)) + x6 ∧ (3 * (x3 + x2)) + x6 < 192) ∧ (zin ((zi μ 166 x6) - (zi μ5 159 ((3 * v5) + x6)))) ∧ J 177 ([some (zR (some 153)), some (zI x1), some (zI x2), some (zI x3), none, none, some (zI (x6 + 1)), none], [], zup μ10 172 ((3 * (x3 + x2)) + x6) ((zi μ10 172 ((3 * (x3 + x2)) + x6)) + (((zi μ 166 x6) - (zi μ5 159 ((3 * v5) + x6))) - (((zi μ 166 x6) - (zi μ5 159 ((3 * v5) + x6))).tdiv 2))), 0, 0))))) ∧ (¬ (x2 - 1 ≤ x3 % x2) → (0 ≤ (3 * (x3 + 1)) + x6 ∧ (3 * (x3 + 1)) + x6 < 192) ∧ (zin ((zi μ 166 x6) - (zi μ5 159 ((3 * v5) + x6)))) ∧ qX11_cells G (zup μ5 172 ((3 * (x3 + 1)) + x6) ((zi μ5 172 ((3 * (x3 + 1)) + x6)) + (((zi μ 166 x6) - (zi μ5 159 ((3 * v5) + x6))).tdiv 2))) (fun v16 μ16 => zin (x3 + x2) ∧ zin v16 ∧ ((v16 ≤ x3 + x2 → J 177 ([some (zR (some 153)), some (zI x1), some (zI x2), some (zI x3), none, none, some (zI (x6 + 1)), none], [], μ16, 0, 0)) ∧ (¬ (v16 ≤ x3 + x2) → (0 ≤ (3 * (x3 + x2)) + x6 ∧ (3 * (x3 + x2)) + x6 < 192) ∧ (zin ((zi μ 166 x6) - (zi μ5 159 ((3 * v5) + x6)))) ∧ J 177 ([some (zR (some 153)), some (zI x1), some (zI x2), some (zI x3), none, none, some (zI (x6 + 1)), none], [], zup μ16 172 ((3 * (x3 + x2)) + x6) ((zi μ16 172 ((3 * (x3 + x2)) + x6)) + (((zi μ 166 x6) - (zi μ5 159 ((3 * v5) + x6))) - (((zi μ 166 x6) - (zi μ5 159 ((3 * v5) + x6))).tdiv 2))), 0, 0)))))))))) : J 177 ([some (zR (some 153)), some (zI x1), some (zI x2), some (zI x3), none, none, some (zI x6), none], [], μ, 0, 0) := by
  obtain ⟨p, e, s, m, args, below, meth, c, A, hml, hr, hlk, hnm, rfl⟩ := C
  refine s_iload A dX11_layPress_177 rfl ?_
  refine s_iconst A dX11_layPress_179 ?_
  obtain ⟨oz1, h⟩ := h
  refine z_icmp_ge (tgt := 280) A dX11_layPress_180 (by decide) oz1 ⟨by decide, by decide⟩ (fun c2 => ?_) (fun c2 => ?_)
  · have h := h.1 c2
    refine s_iinc (L' := [some (zR (some 153)), some (zI x1), some (zI x2), some (zI (x3 + 1)), none, none, some (zI x6), none]) A dX11_layPress_280 rfl rfl ?_
    refine s_goto (tgt := 35) A dX11_layPress_283 (by decide) ?_
    exact z_wk (L' := [some (zR (some 153)), some (zI x1), some (zI x2), some (zI (x3 + 1)), none, none, none, none]) ⟨rfl, rfl, rfl, rfl, trivial⟩ h
  · have h := h.2 c2
    refine s_aload_n A dX11_layPress_183 rfl ?_
    refine s_getf (k := 11) (j := 25) (sl := true) (v := zR (some 166)) A dX11_layPress_184 rfl zuw_X11 (Nat.le_of_ble_eq_true rfl) zwd1333 (by decide) (zk_153 _) rfl ?_
    refine s_iload A dX11_layPress_187 rfl ?_
    obtain ⟨ox3, h⟩ := h
    refine z_iald A dX11_layPress_189 (zk_166 _) (Nat.le_of_ble_eq_true rfl) ox3 ?_
    refine s_aload_n A dX11_layPress_190 rfl ?_
    refine s_getf (k := 11) (j := 13) (sl := true) (v := zR (some 159)) A dX11_layPress_191 rfl zuw_X11 (Nat.le_of_ble_eq_true rfl) zwd1321 (by decide) (zk_153 _) rfl ?_
    refine s_iconst A dX11_layPress_194 ?_
    refine s_aload_n A dX11_layPress_195 rfl ?_
    refine s_getf (k := 11) (j := 33) (sl := true) (v := zR (some 171)) A dX11_layPress_196 rfl zuw_X11 (Nat.le_of_ble_eq_true rfl) zwd1341 (by decide) (zk_153 _) rfl ?_
    refine s_iload_n A dX11_layPress_199 rfl ?_
    obtain ⟨ox4, h⟩ := h
    refine z_iald A dX11_layPress_200 (zk_171 _) (Nat.le_of_ble_eq_true rfl) ox4 ?_
    refine s_callS (M := mX11_numberOf) (n := 1) (d := 2) (mc := 0) (ms := 0) (av := [zI (zi μ 171 x3)]) (st := [zI 3, zR (some 159), zI (zi μ 166 x6)]) A dX11_layPress_201 zwd1671 zwd1672 zwd100 zcd_X11_numberOf (Nat.le_of_ble_eq_true rfl) (Nat.le_of_ble_eq_true rfl) (Nat.le_refl _) ⟨Nat.le_of_ble_eq_true rfl, Nat.le_of_ble_eq_true rfl⟩ zhn_X11_numberOf rfl (Nat.le_of_ble_eq_true rfl) rfl (z_contI (fun v5 μ5 h => ?_) h)
    refine s_imul A dX11_layPress_204 ?_
    refine s_iload A dX11_layPress_205 rfl ?_
    refine s_iadd A dX11_layPress_207 ?_
    obtain ⟨ox6, h⟩ := h
    refine z_iald A dX11_layPress_208 (zk_159 _) (Nat.le_of_ble_eq_true rfl) ox6 ?_
    refine s_isub A dX11_layPress_209 ?_
    refine s_istore (L' := [some (zR (some 153)), some (zI x1), some (zI x2), some (zI x3), none, none, some (zI x6), some (zI ((zi μ 166 x6) - (zi μ5 159 ((3 * v5) + x6))))]) A dX11_layPress_210 (Nat.le_of_ble_eq_true rfl) rfl ?_
    refine s_iload_n A dX11_layPress_212 rfl ?_
    refine s_iload_n A dX11_layPress_213 rfl ?_
    obtain ⟨o1, h⟩ := h
    obtain ⟨o2, h⟩ := h
    refine z_irem A dX11_layPress_214 o1 o2 ?_
    refine s_iload_n A dX11_layPress_215 rfl ?_
    refine s_iconst A dX11_layPress_216 ?_
    refine s_isub A dX11_layPress_217 ?_
    obtain ⟨oz7, h⟩ := h
    obtain ⟨oz8, h⟩ := h
    refine z_icmp_ge (tgt := 241) A dX11_layPress_218 (by decide) oz7 oz8 (fun c9 => ?_) (fun c9 => ?_)
    · have h := h.1 c9
      refine s_iload_n A dX11_layPress_241 rfl ?_
      refine s_iload_n A dX11_layPress_242 rfl ?_
      refine s_iadd A dX11_layPress_243 ?_
      refine s_aload_n A dX11_layPress_244 rfl ?_
      refine s_callV (a := 153) (k := 11) (N := 45) (sl := true) (M := mX11_cells) (n := 0) (d := 0) (mc := 0) (ms := 0) (av := []) (st := [zI (x3 + x2)]) A dX11_layPress_245 rfl (by decide) (zk_153 _) zwd1785 zwd1787 zwd75 zwd100 zcd_X11_cells (Nat.le_of_ble_eq_true rfl) (Nat.le_of_ble_eq_true rfl) (Nat.le_refl _) ⟨Nat.le_of_ble_eq_true rfl, Nat.le_of_ble_eq_true rfl⟩ ⟨rfl, zhn_X11_cells⟩ rfl (Nat.le_of_ble_eq_true rfl) rfl (z_contI (fun v10 μ10 h => ?_) h)
      obtain ⟨oz11, h⟩ := h
      obtain ⟨oz12, h⟩ := h
      refine z_icmp_ge (tgt := 274) A dX11_layPress_248 (by decide) oz11 oz12 (fun c13 => ?_) (fun c13 => ?_)
      · have h := h.1 c13
        refine s_iinc (L' := [some (zR (some 153)), some (zI x1), some (zI x2), some (zI x3), none, none, some (zI (x6 + 1)), some (zI ((zi μ 166 x6) - (zi μ5 159 ((3 * v5) + x6))))]) A dX11_layPress_274 rfl rfl ?_
        refine s_goto (tgt := 177) A dX11_layPress_277 (by decide) ?_
        exact z_wk (L' := [some (zR (some 153)), some (zI x1), some (zI x2), some (zI x3), none, none, some (zI (x6 + 1)), none]) ⟨rfl, rfl, rfl, rfl, rfl, trivial⟩ h
      · have h := h.2 c13
        refine s_aload_n A dX11_layPress_251 rfl ?_
        refine s_getf (k := 11) (j := 34) (sl := true) (v := zR (some 172)) A dX11_layPress_252 rfl zuw_X11 (Nat.le_of_ble_eq_true rfl) zwd1342 (by decide) (zk_153 _) rfl ?_
        refine s_iconst A dX11_layPress_255 ?_
        refine s_iload_n A dX11_layPress_256 rfl ?_
        refine s_iload_n A dX11_layPress_257 rfl ?_
        refine s_iadd A dX11_layPress_258 ?_
        refine s_imul A dX11_layPress_259 ?_
        refine s_iload A dX11_layPress_260 rfl ?_
        refine s_iadd A dX11_layPress_262 ?_
        refine s_dup2 A dX11_layPress_263 rfl rfl ?_
        obtain ⟨ox14, h⟩ := h
        refine z_iald A dX11_layPress_264 (zk_172 _) (Nat.le_of_ble_eq_true rfl) ox14 ?_
        refine s_iload A dX11_layPress_265 rfl ?_
        refine s_iload A dX11_layPress_267 rfl ?_
        refine s_iconst A dX11_layPress_269 ?_
        obtain ⟨o1, h⟩ := h
        refine z_idivt A dX11_layPress_270 o1 ⟨by decide, by decide⟩ ?_
        refine s_isub A dX11_layPress_271 ?_
        refine s_iadd A dX11_layPress_272 ?_
        refine z_iast A dX11_layPress_273 (zk_172 _) (Nat.le_of_ble_eq_true rfl) ox14 ?_
        refine s_iinc (L' := [some (zR (some 153)), some (zI x1), some (zI x2), some (zI x3), none, none, some (zI (x6 + 1)), some (zI ((zi μ 166 x6) - (zi μ5 159 ((3 * v5) + x6))))]) A dX11_layPress_274 rfl rfl ?_
        refine s_goto (tgt := 177) A dX11_layPress_277 (by decide) ?_
        exact z_wk (L' := [some (zR (some 153)), some (zI x1), some (zI x2), some (zI x3), none, none, some (zI (x6 + 1)), none]) ⟨rfl, rfl, rfl, rfl, rfl, trivial⟩ h
    · have h := h.2 c9
      refine s_aload_n A dX11_layPress_221 rfl ?_
      refine s_getf (k := 11) (j := 34) (sl := true) (v := zR (some 172)) A dX11_layPress_222 rfl zuw_X11 (Nat.le_of_ble_eq_true rfl) zwd1342 (by decide) (zk_153 _) rfl ?_
      refine s_iconst A dX11_layPress_225 ?_
      refine s_iload_n A dX11_layPress_226 rfl ?_
      refine s_iconst A dX11_layPress_227 ?_
      refine s_iadd A dX11_layPress_228 ?_
      refine s_imul A dX11_layPress_229 ?_
      refine s_iload A dX11_layPress_230 rfl ?_
      refine s_iadd A dX11_layPress_232 ?_
      refine s_dup2 A dX11_layPress_233 rfl rfl ?_
      obtain ⟨ox15, h⟩ := h
      refine z_iald A dX11_layPress_234 (zk_172 _) (Nat.le_of_ble_eq_true rfl) ox15 ?_
      refine s_iload A dX11_layPress_235 rfl ?_
      refine s_iconst A dX11_layPress_237 ?_
      obtain ⟨o1, h⟩ := h
      refine z_idivt A dX11_layPress_238 o1 ⟨by decide, by decide⟩ ?_
      refine s_iadd A dX11_layPress_239 ?_
      refine z_iast A dX11_layPress_240 (zk_172 _) (Nat.le_of_ble_eq_true rfl) ox15 ?_
      refine s_iload_n A dX11_layPress_241 rfl ?_
      refine s_iload_n A dX11_layPress_242 rfl ?_
      refine s_iadd A dX11_layPress_243 ?_
      refine s_aload_n A dX11_layPress_244 rfl ?_
      refine s_callV (a := 153) (k := 11) (N := 45) (sl := true) (M := mX11_cells) (n := 0) (d := 0) (mc := 0) (ms := 0) (av := []) (st := [zI (x3 + x2)]) A dX11_layPress_245 rfl (by decide) (zk_153 _) zwd1785 zwd1787 zwd75 zwd100 zcd_X11_cells (Nat.le_of_ble_eq_true rfl) (Nat.le_of_ble_eq_true rfl) (Nat.le_refl _) ⟨Nat.le_of_ble_eq_true rfl, Nat.le_of_ble_eq_true rfl⟩ ⟨rfl, zhn_X11_cells⟩ rfl (Nat.le_of_ble_eq_true rfl) rfl (z_contI (fun v16 μ16 h => ?_) h)
      obtain ⟨oz17, h⟩ := h
      obtain ⟨oz18, h⟩ := h
      refine z_icmp_ge (tgt := 274) A dX11_layPress_248 (by decide) oz17 oz18 (fun c19 => ?_) (fun c19 => ?_)
      · have h := h.1 c19
        refine s_iinc (L' := [some (zR (some 153)), some (zI x1), some (zI x2), some (zI x3), none, none, some (zI (x6 + 1)), some (zI ((zi μ 166 x6) - (zi μ5 159 ((3 * v5) + x6))))]) A dX11_layPress_274 rfl rfl ?_
        refine s_goto (tgt := 177) A dX11_layPress_277 (by decide) ?_
        exact z_wk (L' := [some (zR (some 153)), some (zI x1), some (zI x2), some (zI x3), none, none, some (zI (x6 + 1)), none]) ⟨rfl, rfl, rfl, rfl, rfl, trivial⟩ h
      · have h := h.2 c19
        refine s_aload_n A dX11_layPress_251 rfl ?_
        refine s_getf (k := 11) (j := 34) (sl := true) (v := zR (some 172)) A dX11_layPress_252 rfl zuw_X11 (Nat.le_of_ble_eq_true rfl) zwd1342 (by decide) (zk_153 _) rfl ?_
        refine s_iconst A dX11_layPress_255 ?_
        refine s_iload_n A dX11_layPress_256 rfl ?_
        refine s_iload_n A dX11_layPress_257 rfl ?_
        refine s_iadd A dX11_layPress_258 ?_
        refine s_imul A dX11_layPress_259 ?_
        refine s_iload A dX11_layPress_260 rfl ?_
        refine s_iadd A dX11_layPress_262 ?_
        refine s_dup2 A dX11_layPress_263 rfl rfl ?_
        obtain ⟨ox20, h⟩ := h
        refine z_iald A dX11_layPress_264 (zk_172 _) (Nat.le_of_ble_eq_true rfl) ox20 ?_
        refine s_iload A dX11_layPress_265 rfl ?_
        refine s_iload A dX11_layPress_267 rfl ?_
        refine s_iconst A dX11_layPress_269 ?_
        obtain ⟨o1, h⟩ := h
        refine z_idivt A dX11_layPress_270 o1 ⟨by decide, by decide⟩ ?_
        refine s_isub A dX11_layPress_271 ?_
        refine s_iadd A dX11_layPress_272 ?_
        refine z_iast A dX11_layPress_273 (zk_172 _) (Nat.le_of_ble_eq_true rfl) ox20 ?_
        refine s_iinc (L' := [some (zR (some 153)), some (zI x1), some (zI x2), some (zI x3), none, none, some (zI (x6 + 1)), some (zI ((zi μ 166 x6) - (zi μ5 159 ((3 * v5) + x6))))]) A dX11_layPress_274 rfl rfl ?_
        refine s_goto (tgt := 177) A dX11_layPress_277 (by decide) ?_
        exact z_wk (L' := [some (zR (some 153)), some (zI x1), some (zI x2), some (zI x3), none, none, some (zI (x6 + 1)), none]) ⟨rfl, rfl, rfl, rfl, rfl, trivial⟩ h
theorem eX11_layPress {G : zG} {F : zM → Prop} {μ : zM} {x1 : Int} (h : ∀ J, zJ G true (10) 0 0 mX11_layPress (zKV F) J → J 0 ([some (zR (some 153)), some (zI x1), none, none, none, none, none, none], [], μ, 0, 0)) : qX11_layPress G x1 μ F :=
  z_body (by decide +kernel) (Nat.le_of_ble_eq_true rfl) h
