/-! regions of methods that use Strings -/
theorem zwx405 : (Jvm.Cond.methodLink "InkFolds$Text" (79 : Nat) ({ cls := "java/lang/String", name := "length", desc := "()I" } : Jvm.MethodName)) ∈ zTw := zTw_mem (List.mem_of_getElem? (i := 405) (by decide +kernel)) rfl
theorem zwx441 : (Jvm.Cond.methodLink "InkFolds$Text" (87 : Nat) ({ cls := "java/lang/String", name := "isEmpty", desc := "()Z" } : Jvm.MethodName)) ∈ zTw := zTw_mem (List.mem_of_getElem? (i := 441) (by decide +kernel)) rfl
theorem zwx442 : (Jvm.Cond.instanceMethod ({ cls := "java/lang/String", name := "isEmpty", desc := "()Z" } : Jvm.MethodName)) ∈ zTw := zTw_mem (List.mem_of_getElem? (i := 442) (by decide +kernel)) rfl
theorem zwx443 : (Jvm.Cond.selects "java/lang/String" ({ cls := "java/lang/String", name := "isEmpty", desc := "()Z" } : Jvm.MethodName) ({ cls := "java/lang/String", name := "isEmpty", desc := "()Z" } : Jvm.MethodName)) ∈ zTw := zTw_mem (List.mem_of_getElem? (i := 443) (by decide +kernel)) rfl
theorem zwx445 : (Jvm.Cond.methodLink "InkFolds$Text" (91 : Nat) ({ cls := "java/lang/String", name := "charAt", desc := "(I)C" } : Jvm.MethodName)) ∈ zTw := zTw_mem (List.mem_of_getElem? (i := 445) (by decide +kernel)) rfl
theorem zwx446 : (Jvm.Cond.instanceMethod ({ cls := "java/lang/String", name := "charAt", desc := "(I)C" } : Jvm.MethodName)) ∈ zTw := zTw_mem (List.mem_of_getElem? (i := 446) (by decide +kernel)) rfl
theorem zwx447 : (Jvm.Cond.selects "java/lang/String" ({ cls := "java/lang/String", name := "charAt", desc := "(I)C" } : Jvm.MethodName) ({ cls := "java/lang/String", name := "charAt", desc := "(I)C" } : Jvm.MethodName)) ∈ zTw := zTw_mem (List.mem_of_getElem? (i := 447) (by decide +kernel)) rfl
theorem zwx490 : (Jvm.Cond.methodLink "InkFolds$Text" (31 : Nat) ({ cls := "java/lang/String", name := "indexOf", desc := "(I)I" } : Jvm.MethodName)) ∈ zTw := zTw_mem (List.mem_of_getElem? (i := 490) (by decide +kernel)) rfl
theorem zwx491 : (Jvm.Cond.instanceMethod ({ cls := "java/lang/String", name := "indexOf", desc := "(I)I" } : Jvm.MethodName)) ∈ zTw := zTw_mem (List.mem_of_getElem? (i := 491) (by decide +kernel)) rfl
theorem zwx492 : (Jvm.Cond.selects "java/lang/String" ({ cls := "java/lang/String", name := "indexOf", desc := "(I)I" } : Jvm.MethodName) ({ cls := "java/lang/String", name := "indexOf", desc := "(I)I" } : Jvm.MethodName)) ∈ zTw := zTw_mem (List.mem_of_getElem? (i := 492) (by decide +kernel)) rfl
theorem zwx569 : (Jvm.Cond.methodLink "InkFolds" (111 : Nat) ({ cls := "java/lang/String", name := "length", desc := "()I" } : Jvm.MethodName)) ∈ zTw := zTw_mem (List.mem_of_getElem? (i := 569) (by decide +kernel)) rfl
theorem zwx694 : (Jvm.Cond.methodLink "InkFolds$Link" (60 : Nat) ({ cls := "java/lang/String", name := "length", desc := "()I" } : Jvm.MethodName)) ∈ zTw := zTw_mem (List.mem_of_getElem? (i := 694) (by decide +kernel)) rfl
theorem zwd4 : (Cond.selects "InkFolds" { cls := "InkFolds", name := "doAct", desc := "(I)I" } { cls := "InkFolds", name := "doAct", desc := "(I)I" }) ∈ zTw := zTw_mem (List.mem_of_getElem? (i := 4) (by decide +kernel)) rfl
theorem zwd130 : (Jvm.Cond.fieldLink "InkFolds$Link" (27 : Nat) "InkFolds$Text" "count" "I") ∈ zTw := zTw_mem (List.mem_of_getElem? (i := 130) (by decide +kernel)) rfl
theorem zwd415 : (Jvm.Cond.methodLink "InkFolds$Text" (83 : Nat) ({ cls := "InkFolds$Text", name := "formOf", desc := "(II)Ljava/lang/String;" } : Jvm.MethodName)) ∈ zTw := zTw_mem (List.mem_of_getElem? (i := 415) (by decide +kernel)) rfl
theorem zwd416 : (Jvm.Cond.static ({ cls := "InkFolds$Text", name := "formOf", desc := "(II)Ljava/lang/String;" } : Jvm.MethodName)) ∈ zTw := zTw_mem (List.mem_of_getElem? (i := 416) (by decide +kernel)) rfl
theorem zwd419 : (Jvm.Cond.methodLink "InkFolds$Text" (72 : Nat) ({ cls := "InkFolds$Text", name := "stepForm", desc := "(I)Ljava/lang/String;" } : Jvm.MethodName)) ∈ zTw := zTw_mem (List.mem_of_getElem? (i := 419) (by decide +kernel)) rfl
theorem zwd420 : (Jvm.Cond.static ({ cls := "InkFolds$Text", name := "stepForm", desc := "(I)Ljava/lang/String;" } : Jvm.MethodName)) ∈ zTw := zTw_mem (List.mem_of_getElem? (i := 420) (by decide +kernel)) rfl
theorem zwd432 : (Jvm.Cond.methodLink "InkFolds$Text" (76 : Nat) ({ cls := "InkFolds$Text", name := "actForm", desc := "(I)Ljava/lang/String;" } : Jvm.MethodName)) ∈ zTw := zTw_mem (List.mem_of_getElem? (i := 432) (by decide +kernel)) rfl
theorem zwd433 : (Jvm.Cond.static ({ cls := "InkFolds$Text", name := "actForm", desc := "(I)Ljava/lang/String;" } : Jvm.MethodName)) ∈ zTw := zTw_mem (List.mem_of_getElem? (i := 433) (by decide +kernel)) rfl
theorem zwd654 : (Jvm.Cond.fieldLink "InkFolds$Link" (50 : Nat) "InkFolds$Step" "kind" "I") ∈ zTw := zTw_mem (List.mem_of_getElem? (i := 654) (by decide +kernel)) rfl
theorem zwr679 : (Jvm.Cond.arrayOver (Jvm.ClassFile.FieldType.object "InkFolds$Step")) ∈ lw_tbl := List.mem_of_getElem? (i := 679) (by decide +kernel)
theorem zwd681 : (Jvm.Cond.methodLink "InkFolds$Link" (36 : Nat) ({ cls := "java/lang/Math", name := "max", desc := "(II)I" } : Jvm.MethodName)) ∈ zTw := zTw_mem (List.mem_of_getElem? (i := 681) (by decide +kernel)) rfl
theorem zwd682 : (Jvm.Cond.methodLink "InkFolds$Link" (42 : Nat) ({ cls := "InkFolds$Text", name := "stepForm", desc := "(I)Ljava/lang/String;" } : Jvm.MethodName)) ∈ zTw := zTw_mem (List.mem_of_getElem? (i := 682) (by decide +kernel)) rfl
theorem zwd683 : (Jvm.Cond.methodLink "InkFolds$Link" (46 : Nat) ({ cls := "InkFolds$Link", name := "readStep", desc := "(LInkFolds$Text;ILInkFolds$Link;I)LInkFolds$Step;" } : Jvm.MethodName)) ∈ zTw := zTw_mem (List.mem_of_getElem? (i := 683) (by decide +kernel)) rfl
theorem zwd684 : (Jvm.Cond.static ({ cls := "InkFolds$Link", name := "readStep", desc := "(LInkFolds$Text;ILInkFolds$Link;I)LInkFolds$Step;" } : Jvm.MethodName)) ∈ zTw := zTw_mem (List.mem_of_getElem? (i := 684) (by decide +kernel)) rfl
theorem zwd690 : (Jvm.Cond.methodLink "InkFolds$Link" (56 : Nat) ({ cls := "InkFolds$Step", name := "append", desc := "(LInkFolds$Step;)V" } : Jvm.MethodName)) ∈ zTw := zTw_mem (List.mem_of_getElem? (i := 690) (by decide +kernel)) rfl
theorem zwd691 : (Jvm.Cond.instanceMethod ({ cls := "InkFolds$Step", name := "append", desc := "(LInkFolds$Step;)V" } : Jvm.MethodName)) ∈ zTw := zTw_mem (List.mem_of_getElem? (i := 691) (by decide +kernel)) rfl
theorem zwd692 : (Jvm.Cond.selects "InkFolds$Step" ({ cls := "InkFolds$Step", name := "append", desc := "(LInkFolds$Step;)V" } : Jvm.MethodName) ({ cls := "InkFolds$Step", name := "append", desc := "(LInkFolds$Step;)V" } : Jvm.MethodName)) ∈ zTw := zTw_mem (List.mem_of_getElem? (i := 692) (by decide +kernel)) rfl
theorem zwd695 : (Jvm.Cond.methodLink "InkFolds$Link" (65 : Nat) ({ cls := "InkFolds$Text", name := "has", desc := "(I)Z" } : Jvm.MethodName)) ∈ zTw := zTw_mem (List.mem_of_getElem? (i := 695) (by decide +kernel)) rfl
theorem zwd696 : (Jvm.Cond.instanceMethod ({ cls := "InkFolds$Text", name := "has", desc := "(I)Z" } : Jvm.MethodName)) ∈ zTw := zTw_mem (List.mem_of_getElem? (i := 696) (by decide +kernel)) rfl
theorem zwd697 : (Jvm.Cond.selects "InkFolds$Text" ({ cls := "InkFolds$Text", name := "has", desc := "(I)Z" } : Jvm.MethodName) ({ cls := "InkFolds$Text", name := "has", desc := "(I)Z" } : Jvm.MethodName)) ∈ zTw := zTw_mem (List.mem_of_getElem? (i := 697) (by decide +kernel)) rfl
theorem zwd699 : (Jvm.Cond.methodLink "InkFolds$Link" (69 : Nat) ({ cls := "java/lang/Math", name := "min", desc := "(II)I" } : Jvm.MethodName)) ∈ zTw := zTw_mem (List.mem_of_getElem? (i := 699) (by decide +kernel)) rfl
theorem zwd700 : (Jvm.Cond.classLink "InkFolds$Link" (10 : Nat) "InkFolds$Link") ∈ zTw := zTw_mem (List.mem_of_getElem? (i := 700) (by decide +kernel)) rfl
theorem zwr701 : (Jvm.Cond.methodLinkNest "InkFolds$Link" (72 : Nat) ({ cls := "InkFolds$Step", name := "longOf", desc := "(LInkFolds$Step;I)I" } : Jvm.MethodName) "InkFolds") ∈ lw_tbl := List.mem_of_getElem? (i := 701) (by decide +kernel)
theorem zwd705 : (Jvm.Cond.methodLink "InkFolds$Link" (76 : Nat) ({ cls := "InkFolds$Link", name := "<init>", desc := "(LInkFolds$Step;II)V" } : Jvm.MethodName)) ∈ zTw := zTw_mem (List.mem_of_getElem? (i := 705) (by decide +kernel)) rfl
theorem zwd780 : (Jvm.Cond.methodLink "InkFolds" (214 : Nat) ({ cls := "InkFolds", name := "doAct", desc := "(I)I" } : Jvm.MethodName)) ∈ zTw := zTw_mem (List.mem_of_getElem? (i := 780) (by decide +kernel)) rfl
theorem zwd782 : (Jvm.Cond.instanceMethod ({ cls := "InkFolds", name := "doAct", desc := "(I)I" } : Jvm.MethodName)) ∈ zTw := zTw_mem (List.mem_of_getElem? (i := 782) (by decide +kernel)) rfl
theorem zwd785 : (Jvm.Cond.methodLink "InkFolds" (220 : Nat) ({ cls := "InkFolds$Text", name := "actForm", desc := "(I)Ljava/lang/String;" } : Jvm.MethodName)) ∈ zTw := zTw_mem (List.mem_of_getElem? (i := 785) (by decide +kernel)) rfl
set_option maxRecDepth 20000 in
theorem rX9_stepForm_e {G : zG} {F : Nat → zM → Prop} {J : Nat → zS → Prop} {μ : zM} (C : zJ G true (0) 0 0 mX9_stepForm (zKT F) J) (x0 : Int)
    (h : zin x0 ∧ ((x0 = 97 ∨ x0 = 115 ∨ x0 = 119 → F (60 + 5) μ) ∧ (x0 = 103 → F (60 + 3) μ) ∧ (x0 = 104 → F (60 + 6) μ) ∧ (x0 = 105 → F (60 + 10) μ) ∧ (x0 = 106 → F (60 + 11) μ) ∧ (x0 = 108 ∨ x0 = 112 ∨ x0 = 118 → F (60 + 2) μ) ∧ (x0 = 110 → F (60 + 8) μ) ∧ (x0 = 111 → F (60 + 9) μ) ∧ (x0 = 117 → F (60 + 4) μ) ∧ (x0 = 120 → F (60 + 7) μ) ∧ (x0 ≠ 97 ∧ x0 ≠ 103 ∧ x0 ≠ 104 ∧ x0 ≠ 105 ∧ x0 ≠ 106 ∧ x0 ≠ 108 ∧ x0 ≠ 110 ∧ x0 ≠ 111 ∧ x0 ≠ 112 ∧ x0 ≠ 115 ∧ x0 ≠ 117 ∧ x0 ≠ 118 ∧ x0 ≠ 119 ∧ x0 ≠ 120 → F (60 + 0) μ))) : J 0 ([some (zI x0)], [], μ, 0, 0) := by
  obtain ⟨p, e, s, m, args, below, meth, c, A, hml, hr, hlk, hnm, rfl⟩ := C
  refine s_iload_n A dX9_stepForm_0 rfl ?_
  obtain ⟨oz1, h⟩ := h
  refine z_tsw A dX9_stepForm_1 oz1 (by decide +kernel) ⟨142, by decide⟩ (fun tg2 ht2 => ?_)
  have hx2 : (x0 = 97 ∨ x0 = 98 ∨ x0 = 99 ∨ x0 = 100 ∨ x0 = 101 ∨ x0 = 102 ∨ x0 = 103 ∨ x0 = 104 ∨ x0 = 105 ∨ x0 = 106 ∨ x0 = 107 ∨ x0 = 108 ∨ x0 = 109 ∨ x0 = 110 ∨ x0 = 111 ∨ x0 = 112 ∨ x0 = 113 ∨ x0 = 114 ∨ x0 = 115 ∨ x0 = 116 ∨ x0 = 117 ∨ x0 = 118 ∨ x0 = 119 ∨ x0 = 120) ∨ (x0 < 97 ∨ 120 < x0) := by omega
  rcases hx2 with (hq | hq | hq | hq | hq | hq | hq | hq | hq | hq | hq | hq | hq | hq | hq | hq | hq | hq | hq | hq | hq | hq | hq | hq) | hq
  · obtain rfl := ztg_in (t := 121) ht2 97 hq (by decide) (by decide +kernel)
    have h := h.1 (by omega)
    refine z_ldcT (i := 5) A dX9_stepForm_121 (by decide) rfl rfl ?_
    exact s_aretT A dX9_stepForm_123 hr (Or.inl ⟨_, rfl⟩) hlk (Nat.le_of_ble_eq_true rfl) (Nat.le_of_ble_eq_true rfl) ⟨_, rfl, h⟩
  · obtain rfl := ztg_in (t := 142) ht2 98 hq (by decide) (by decide +kernel)
    have h := h.2.2.2.2.2.2.2.2.2.2 (by omega)
    refine z_ldcT (i := 0) A dX9_stepForm_142 (by decide) rfl rfl ?_
    exact s_aretT A dX9_stepForm_144 hr (Or.inl ⟨_, rfl⟩) hlk (Nat.le_of_ble_eq_true rfl) (Nat.le_of_ble_eq_true rfl) ⟨_, rfl, h⟩
  · obtain rfl := ztg_in (t := 142) ht2 99 hq (by decide) (by decide +kernel)
    have h := h.2.2.2.2.2.2.2.2.2.2 (by omega)
    refine z_ldcT (i := 0) A dX9_stepForm_142 (by decide) rfl rfl ?_
    exact s_aretT A dX9_stepForm_144 hr (Or.inl ⟨_, rfl⟩) hlk (Nat.le_of_ble_eq_true rfl) (Nat.le_of_ble_eq_true rfl) ⟨_, rfl, h⟩
  · obtain rfl := ztg_in (t := 142) ht2 100 hq (by decide) (by decide +kernel)
    have h := h.2.2.2.2.2.2.2.2.2.2 (by omega)
    refine z_ldcT (i := 0) A dX9_stepForm_142 (by decide) rfl rfl ?_
    exact s_aretT A dX9_stepForm_144 hr (Or.inl ⟨_, rfl⟩) hlk (Nat.le_of_ble_eq_true rfl) (Nat.le_of_ble_eq_true rfl) ⟨_, rfl, h⟩
  · obtain rfl := ztg_in (t := 142) ht2 101 hq (by decide) (by decide +kernel)
    have h := h.2.2.2.2.2.2.2.2.2.2 (by omega)
    refine z_ldcT (i := 0) A dX9_stepForm_142 (by decide) rfl rfl ?_
    exact s_aretT A dX9_stepForm_144 hr (Or.inl ⟨_, rfl⟩) hlk (Nat.le_of_ble_eq_true rfl) (Nat.le_of_ble_eq_true rfl) ⟨_, rfl, h⟩
  · obtain rfl := ztg_in (t := 142) ht2 102 hq (by decide) (by decide +kernel)
    have h := h.2.2.2.2.2.2.2.2.2.2 (by omega)
    refine z_ldcT (i := 0) A dX9_stepForm_142 (by decide) rfl rfl ?_
    exact s_aretT A dX9_stepForm_144 hr (Or.inl ⟨_, rfl⟩) hlk (Nat.le_of_ble_eq_true rfl) (Nat.le_of_ble_eq_true rfl) ⟨_, rfl, h⟩
  · obtain rfl := ztg_in (t := 115) ht2 103 hq (by decide) (by decide +kernel)
    have h := h.2.1 (by omega)
    refine z_ldcT (i := 3) A dX9_stepForm_115 (by decide) rfl rfl ?_
    exact s_aretT A dX9_stepForm_117 hr (Or.inl ⟨_, rfl⟩) hlk (Nat.le_of_ble_eq_true rfl) (Nat.le_of_ble_eq_true rfl) ⟨_, rfl, h⟩
  · obtain rfl := ztg_in (t := 124) ht2 104 hq (by decide) (by decide +kernel)
    have h := h.2.2.1 (by omega)
    refine z_ldcT (i := 6) A dX9_stepForm_124 (by decide) rfl rfl ?_
    exact s_aretT A dX9_stepForm_126 hr (Or.inl ⟨_, rfl⟩) hlk (Nat.le_of_ble_eq_true rfl) (Nat.le_of_ble_eq_true rfl) ⟨_, rfl, h⟩
  · obtain rfl := ztg_in (t := 136) ht2 105 hq (by decide) (by decide +kernel)
    have h := h.2.2.2.1 (by omega)
    refine z_ldcT (i := 10) A dX9_stepForm_136 (by decide) rfl rfl ?_
    exact s_aretT A dX9_stepForm_138 hr (Or.inl ⟨_, rfl⟩) hlk (Nat.le_of_ble_eq_true rfl) (Nat.le_of_ble_eq_true rfl) ⟨_, rfl, h⟩
  · obtain rfl := ztg_in (t := 139) ht2 106 hq (by decide) (by decide +kernel)
    have h := h.2.2.2.2.1 (by omega)
    refine z_ldcT (i := 11) A dX9_stepForm_139 (by decide) rfl rfl ?_
    exact s_aretT A dX9_stepForm_141 hr (Or.inl ⟨_, rfl⟩) hlk (Nat.le_of_ble_eq_true rfl) (Nat.le_of_ble_eq_true rfl) ⟨_, rfl, h⟩
  · obtain rfl := ztg_in (t := 142) ht2 107 hq (by decide) (by decide +kernel)
    have h := h.2.2.2.2.2.2.2.2.2.2 (by omega)
    refine z_ldcT (i := 0) A dX9_stepForm_142 (by decide) rfl rfl ?_
    exact s_aretT A dX9_stepForm_144 hr (Or.inl ⟨_, rfl⟩) hlk (Nat.le_of_ble_eq_true rfl) (Nat.le_of_ble_eq_true rfl) ⟨_, rfl, h⟩
  · obtain rfl := ztg_in (t := 112) ht2 108 hq (by decide) (by decide +kernel)
    have h := h.2.2.2.2.2.1 (by omega)
    refine z_ldcT (i := 2) A dX9_stepForm_112 (by decide) rfl rfl ?_
    exact s_aretT A dX9_stepForm_114 hr (Or.inl ⟨_, rfl⟩) hlk (Nat.le_of_ble_eq_true rfl) (Nat.le_of_ble_eq_true rfl) ⟨_, rfl, h⟩
  · obtain rfl := ztg_in (t := 142) ht2 109 hq (by decide) (by decide +kernel)
    have h := h.2.2.2.2.2.2.2.2.2.2 (by omega)
    refine z_ldcT (i := 0) A dX9_stepForm_142 (by decide) rfl rfl ?_
    exact s_aretT A dX9_stepForm_144 hr (Or.inl ⟨_, rfl⟩) hlk (Nat.le_of_ble_eq_true rfl) (Nat.le_of_ble_eq_true rfl) ⟨_, rfl, h⟩
  · obtain rfl := ztg_in (t := 130) ht2 110 hq (by decide) (by decide +kernel)
    have h := h.2.2.2.2.2.2.1 (by omega)
    refine z_ldcT (i := 8) A dX9_stepForm_130 (by decide) rfl rfl ?_
    exact s_aretT A dX9_stepForm_132 hr (Or.inl ⟨_, rfl⟩) hlk (Nat.le_of_ble_eq_true rfl) (Nat.le_of_ble_eq_true rfl) ⟨_, rfl, h⟩
  · obtain rfl := ztg_in (t := 133) ht2 111 hq (by decide) (by decide +kernel)
    have h := h.2.2.2.2.2.2.2.1 (by omega)
    refine z_ldcT (i := 9) A dX9_stepForm_133 (by decide) rfl rfl ?_
    exact s_aretT A dX9_stepForm_135 hr (Or.inl ⟨_, rfl⟩) hlk (Nat.le_of_ble_eq_true rfl) (Nat.le_of_ble_eq_true rfl) ⟨_, rfl, h⟩
  · obtain rfl := ztg_in (t := 112) ht2 112 hq (by decide) (by decide +kernel)
    have h := h.2.2.2.2.2.1 (by omega)
    refine z_ldcT (i := 2) A dX9_stepForm_112 (by decide) rfl rfl ?_
    exact s_aretT A dX9_stepForm_114 hr (Or.inl ⟨_, rfl⟩) hlk (Nat.le_of_ble_eq_true rfl) (Nat.le_of_ble_eq_true rfl) ⟨_, rfl, h⟩
  · obtain rfl := ztg_in (t := 142) ht2 113 hq (by decide) (by decide +kernel)
    have h := h.2.2.2.2.2.2.2.2.2.2 (by omega)
    refine z_ldcT (i := 0) A dX9_stepForm_142 (by decide) rfl rfl ?_
    exact s_aretT A dX9_stepForm_144 hr (Or.inl ⟨_, rfl⟩) hlk (Nat.le_of_ble_eq_true rfl) (Nat.le_of_ble_eq_true rfl) ⟨_, rfl, h⟩
  · obtain rfl := ztg_in (t := 142) ht2 114 hq (by decide) (by decide +kernel)
    have h := h.2.2.2.2.2.2.2.2.2.2 (by omega)
    refine z_ldcT (i := 0) A dX9_stepForm_142 (by decide) rfl rfl ?_
    exact s_aretT A dX9_stepForm_144 hr (Or.inl ⟨_, rfl⟩) hlk (Nat.le_of_ble_eq_true rfl) (Nat.le_of_ble_eq_true rfl) ⟨_, rfl, h⟩
  · obtain rfl := ztg_in (t := 121) ht2 115 hq (by decide) (by decide +kernel)
    have h := h.1 (by omega)
    refine z_ldcT (i := 5) A dX9_stepForm_121 (by decide) rfl rfl ?_
    exact s_aretT A dX9_stepForm_123 hr (Or.inl ⟨_, rfl⟩) hlk (Nat.le_of_ble_eq_true rfl) (Nat.le_of_ble_eq_true rfl) ⟨_, rfl, h⟩
  · obtain rfl := ztg_in (t := 142) ht2 116 hq (by decide) (by decide +kernel)
    have h := h.2.2.2.2.2.2.2.2.2.2 (by omega)
    refine z_ldcT (i := 0) A dX9_stepForm_142 (by decide) rfl rfl ?_
    exact s_aretT A dX9_stepForm_144 hr (Or.inl ⟨_, rfl⟩) hlk (Nat.le_of_ble_eq_true rfl) (Nat.le_of_ble_eq_true rfl) ⟨_, rfl, h⟩
  · obtain rfl := ztg_in (t := 118) ht2 117 hq (by decide) (by decide +kernel)
    have h := h.2.2.2.2.2.2.2.2.1 (by omega)
    refine z_ldcT (i := 4) A dX9_stepForm_118 (by decide) rfl rfl ?_
    exact s_aretT A dX9_stepForm_120 hr (Or.inl ⟨_, rfl⟩) hlk (Nat.le_of_ble_eq_true rfl) (Nat.le_of_ble_eq_true rfl) ⟨_, rfl, h⟩
  · obtain rfl := ztg_in (t := 112) ht2 118 hq (by decide) (by decide +kernel)
    have h := h.2.2.2.2.2.1 (by omega)
    refine z_ldcT (i := 2) A dX9_stepForm_112 (by decide) rfl rfl ?_
    exact s_aretT A dX9_stepForm_114 hr (Or.inl ⟨_, rfl⟩) hlk (Nat.le_of_ble_eq_true rfl) (Nat.le_of_ble_eq_true rfl) ⟨_, rfl, h⟩
  · obtain rfl := ztg_in (t := 121) ht2 119 hq (by decide) (by decide +kernel)
    have h := h.1 (by omega)
    refine z_ldcT (i := 5) A dX9_stepForm_121 (by decide) rfl rfl ?_
    exact s_aretT A dX9_stepForm_123 hr (Or.inl ⟨_, rfl⟩) hlk (Nat.le_of_ble_eq_true rfl) (Nat.le_of_ble_eq_true rfl) ⟨_, rfl, h⟩
  · obtain rfl := ztg_in (t := 127) ht2 120 hq (by decide) (by decide +kernel)
    have h := h.2.2.2.2.2.2.2.2.2.1 (by omega)
    refine z_ldcT (i := 7) A dX9_stepForm_127 (by decide) rfl rfl ?_
    exact s_aretT A dX9_stepForm_129 hr (Or.inl ⟨_, rfl⟩) hlk (Nat.le_of_ble_eq_true rfl) (Nat.le_of_ble_eq_true rfl) ⟨_, rfl, h⟩
  · obtain rfl := ztg_out (t := 142) ht2 hq (by decide)
    have h := h.2.2.2.2.2.2.2.2.2.2 (by omega)
    refine z_ldcT (i := 0) A dX9_stepForm_142 (by decide) rfl rfl ?_
    exact s_aretT A dX9_stepForm_144 hr (Or.inl ⟨_, rfl⟩) hlk (Nat.le_of_ble_eq_true rfl) (Nat.le_of_ble_eq_true rfl) ⟨_, rfl, h⟩
theorem eX9_stepForm {G : zG} {F : Nat → zM → Prop} {μ : zM} {x0 : Int} (h : ∀ J, zJ G true (0) 0 0 mX9_stepForm (zKT F) J → J 0 ([some (zI x0)], [], μ, 0, 0)) : qX9_stepForm G x0 μ F :=
  z_body (by decide +kernel) (Nat.le_of_ble_eq_true rfl) h
set_option maxRecDepth 20000 in
theorem rX9_actForm_e {G : zG} {F : Nat → zM → Prop} {J : Nat → zS → Prop} {μ : zM} (C : zJ G true (0) 0 0 mX9_actForm (zKT F) J) (x0 : Int)
    (h : zin x0 ∧ ((x0 = 101 → F (60 + 17) μ) ∧ (x0 = 102 → F (60 + 13) μ) ∧ (x0 = 103 ∨ x0 = 116 → F (60 + 15) μ) ∧ (x0 = 108 → F (60 + 14) μ) ∧ (x0 = 109 → F (60 + 12) μ) ∧ (x0 = 119 → F (60 + 16) μ) ∧ (x0 ≠ 101 ∧ x0 ≠ 102 ∧ x0 ≠ 103 ∧ x0 ≠ 108 ∧ x0 ≠ 109 ∧ x0 ≠ 116 ∧ x0 ≠ 119 → F (60 + 0) μ))) : J 0 ([some (zI x0)], [], μ, 0, 0) := by
  obtain ⟨p, e, s, m, args, below, meth, c, A, hml, hr, hlk, hnm, rfl⟩ := C
  refine s_iload_n A dX9_actForm_0 rfl ?_
  obtain ⟨oz1, h⟩ := h
  refine z_tsw A dX9_actForm_1 oz1 (by decide +kernel) ⟨110, by decide⟩ (fun tg2 ht2 => ?_)
  have hx2 : (x0 = 101 ∨ x0 = 102 ∨ x0 = 103 ∨ x0 = 104 ∨ x0 = 105 ∨ x0 = 106 ∨ x0 = 107 ∨ x0 = 108 ∨ x0 = 109 ∨ x0 = 110 ∨ x0 = 111 ∨ x0 = 112 ∨ x0 = 113 ∨ x0 = 114 ∨ x0 = 115 ∨ x0 = 116 ∨ x0 = 117 ∨ x0 = 118 ∨ x0 = 119) ∨ (x0 < 101 ∨ 119 < x0) := by omega
  rcases hx2 with (hq | hq | hq | hq | hq | hq | hq | hq | hq | hq | hq | hq | hq | hq | hq | hq | hq | hq | hq) | hq
  · obtain rfl := ztg_in (t := 107) ht2 101 hq (by decide) (by decide +kernel)
    have h := h.1 (by omega)
    refine z_ldcT (i := 17) A dX9_actForm_107 (by decide) rfl rfl ?_
    exact s_aretT A dX9_actForm_109 hr (Or.inl ⟨_, rfl⟩) hlk (Nat.le_of_ble_eq_true rfl) (Nat.le_of_ble_eq_true rfl) ⟨_, rfl, h⟩
  · obtain rfl := ztg_in (t := 95) ht2 102 hq (by decide) (by decide +kernel)
    have h := h.2.1 (by omega)
    refine z_ldcT (i := 13) A dX9_actForm_95 (by decide) rfl rfl ?_
    exact s_aretT A dX9_actForm_97 hr (Or.inl ⟨_, rfl⟩) hlk (Nat.le_of_ble_eq_true rfl) (Nat.le_of_ble_eq_true rfl) ⟨_, rfl, h⟩
  · obtain rfl := ztg_in (t := 101) ht2 103 hq (by decide) (by decide +kernel)
    have h := h.2.2.1 (by omega)
    refine z_ldcT (i := 15) A dX9_actForm_101 (by decide) rfl rfl ?_
    exact s_aretT A dX9_actForm_103 hr (Or.inl ⟨_, rfl⟩) hlk (Nat.le_of_ble_eq_true rfl) (Nat.le_of_ble_eq_true rfl) ⟨_, rfl, h⟩
  · obtain rfl := ztg_in (t := 110) ht2 104 hq (by decide) (by decide +kernel)
    have h := h.2.2.2.2.2.2 (by omega)
    refine z_ldcT (i := 0) A dX9_actForm_110 (by decide) rfl rfl ?_
    exact s_aretT A dX9_actForm_112 hr (Or.inl ⟨_, rfl⟩) hlk (Nat.le_of_ble_eq_true rfl) (Nat.le_of_ble_eq_true rfl) ⟨_, rfl, h⟩
  · obtain rfl := ztg_in (t := 110) ht2 105 hq (by decide) (by decide +kernel)
    have h := h.2.2.2.2.2.2 (by omega)
    refine z_ldcT (i := 0) A dX9_actForm_110 (by decide) rfl rfl ?_
    exact s_aretT A dX9_actForm_112 hr (Or.inl ⟨_, rfl⟩) hlk (Nat.le_of_ble_eq_true rfl) (Nat.le_of_ble_eq_true rfl) ⟨_, rfl, h⟩
  · obtain rfl := ztg_in (t := 110) ht2 106 hq (by decide) (by decide +kernel)
    have h := h.2.2.2.2.2.2 (by omega)
    refine z_ldcT (i := 0) A dX9_actForm_110 (by decide) rfl rfl ?_
    exact s_aretT A dX9_actForm_112 hr (Or.inl ⟨_, rfl⟩) hlk (Nat.le_of_ble_eq_true rfl) (Nat.le_of_ble_eq_true rfl) ⟨_, rfl, h⟩
  · obtain rfl := ztg_in (t := 110) ht2 107 hq (by decide) (by decide +kernel)
    have h := h.2.2.2.2.2.2 (by omega)
    refine z_ldcT (i := 0) A dX9_actForm_110 (by decide) rfl rfl ?_
    exact s_aretT A dX9_actForm_112 hr (Or.inl ⟨_, rfl⟩) hlk (Nat.le_of_ble_eq_true rfl) (Nat.le_of_ble_eq_true rfl) ⟨_, rfl, h⟩
  · obtain rfl := ztg_in (t := 98) ht2 108 hq (by decide) (by decide +kernel)
    have h := h.2.2.2.1 (by omega)
    refine z_ldcT (i := 14) A dX9_actForm_98 (by decide) rfl rfl ?_
    exact s_aretT A dX9_actForm_100 hr (Or.inl ⟨_, rfl⟩) hlk (Nat.le_of_ble_eq_true rfl) (Nat.le_of_ble_eq_true rfl) ⟨_, rfl, h⟩
  · obtain rfl := ztg_in (t := 92) ht2 109 hq (by decide) (by decide +kernel)
    have h := h.2.2.2.2.1 (by omega)
    refine z_ldcT (i := 12) A dX9_actForm_92 (by decide) rfl rfl ?_
    exact s_aretT A dX9_actForm_94 hr (Or.inl ⟨_, rfl⟩) hlk (Nat.le_of_ble_eq_true rfl) (Nat.le_of_ble_eq_true rfl) ⟨_, rfl, h⟩
  · obtain rfl := ztg_in (t := 110) ht2 110 hq (by decide) (by decide +kernel)
    have h := h.2.2.2.2.2.2 (by omega)
    refine z_ldcT (i := 0) A dX9_actForm_110 (by decide) rfl rfl ?_
    exact s_aretT A dX9_actForm_112 hr (Or.inl ⟨_, rfl⟩) hlk (Nat.le_of_ble_eq_true rfl) (Nat.le_of_ble_eq_true rfl) ⟨_, rfl, h⟩
  · obtain rfl := ztg_in (t := 110) ht2 111 hq (by decide) (by decide +kernel)
    have h := h.2.2.2.2.2.2 (by omega)
    refine z_ldcT (i := 0) A dX9_actForm_110 (by decide) rfl rfl ?_
    exact s_aretT A dX9_actForm_112 hr (Or.inl ⟨_, rfl⟩) hlk (Nat.le_of_ble_eq_true rfl) (Nat.le_of_ble_eq_true rfl) ⟨_, rfl, h⟩
  · obtain rfl := ztg_in (t := 110) ht2 112 hq (by decide) (by decide +kernel)
    have h := h.2.2.2.2.2.2 (by omega)
    refine z_ldcT (i := 0) A dX9_actForm_110 (by decide) rfl rfl ?_
    exact s_aretT A dX9_actForm_112 hr (Or.inl ⟨_, rfl⟩) hlk (Nat.le_of_ble_eq_true rfl) (Nat.le_of_ble_eq_true rfl) ⟨_, rfl, h⟩
  · obtain rfl := ztg_in (t := 110) ht2 113 hq (by decide) (by decide +kernel)
    have h := h.2.2.2.2.2.2 (by omega)
    refine z_ldcT (i := 0) A dX9_actForm_110 (by decide) rfl rfl ?_
    exact s_aretT A dX9_actForm_112 hr (Or.inl ⟨_, rfl⟩) hlk (Nat.le_of_ble_eq_true rfl) (Nat.le_of_ble_eq_true rfl) ⟨_, rfl, h⟩
  · obtain rfl := ztg_in (t := 110) ht2 114 hq (by decide) (by decide +kernel)
    have h := h.2.2.2.2.2.2 (by omega)
    refine z_ldcT (i := 0) A dX9_actForm_110 (by decide) rfl rfl ?_
    exact s_aretT A dX9_actForm_112 hr (Or.inl ⟨_, rfl⟩) hlk (Nat.le_of_ble_eq_true rfl) (Nat.le_of_ble_eq_true rfl) ⟨_, rfl, h⟩
  · obtain rfl := ztg_in (t := 110) ht2 115 hq (by decide) (by decide +kernel)
    have h := h.2.2.2.2.2.2 (by omega)
    refine z_ldcT (i := 0) A dX9_actForm_110 (by decide) rfl rfl ?_
    exact s_aretT A dX9_actForm_112 hr (Or.inl ⟨_, rfl⟩) hlk (Nat.le_of_ble_eq_true rfl) (Nat.le_of_ble_eq_true rfl) ⟨_, rfl, h⟩
  · obtain rfl := ztg_in (t := 101) ht2 116 hq (by decide) (by decide +kernel)
    have h := h.2.2.1 (by omega)
    refine z_ldcT (i := 15) A dX9_actForm_101 (by decide) rfl rfl ?_
    exact s_aretT A dX9_actForm_103 hr (Or.inl ⟨_, rfl⟩) hlk (Nat.le_of_ble_eq_true rfl) (Nat.le_of_ble_eq_true rfl) ⟨_, rfl, h⟩
  · obtain rfl := ztg_in (t := 110) ht2 117 hq (by decide) (by decide +kernel)
    have h := h.2.2.2.2.2.2 (by omega)
    refine z_ldcT (i := 0) A dX9_actForm_110 (by decide) rfl rfl ?_
    exact s_aretT A dX9_actForm_112 hr (Or.inl ⟨_, rfl⟩) hlk (Nat.le_of_ble_eq_true rfl) (Nat.le_of_ble_eq_true rfl) ⟨_, rfl, h⟩
  · obtain rfl := ztg_in (t := 110) ht2 118 hq (by decide) (by decide +kernel)
    have h := h.2.2.2.2.2.2 (by omega)
    refine z_ldcT (i := 0) A dX9_actForm_110 (by decide) rfl rfl ?_
    exact s_aretT A dX9_actForm_112 hr (Or.inl ⟨_, rfl⟩) hlk (Nat.le_of_ble_eq_true rfl) (Nat.le_of_ble_eq_true rfl) ⟨_, rfl, h⟩
  · obtain rfl := ztg_in (t := 104) ht2 119 hq (by decide) (by decide +kernel)
    have h := h.2.2.2.2.2.1 (by omega)
    refine z_ldcT (i := 16) A dX9_actForm_104 (by decide) rfl rfl ?_
    exact s_aretT A dX9_actForm_106 hr (Or.inl ⟨_, rfl⟩) hlk (Nat.le_of_ble_eq_true rfl) (Nat.le_of_ble_eq_true rfl) ⟨_, rfl, h⟩
  · obtain rfl := ztg_out (t := 110) ht2 hq (by decide)
    have h := h.2.2.2.2.2.2 (by omega)
    refine z_ldcT (i := 0) A dX9_actForm_110 (by decide) rfl rfl ?_
    exact s_aretT A dX9_actForm_112 hr (Or.inl ⟨_, rfl⟩) hlk (Nat.le_of_ble_eq_true rfl) (Nat.le_of_ble_eq_true rfl) ⟨_, rfl, h⟩
theorem eX9_actForm {G : zG} {F : Nat → zM → Prop} {μ : zM} {x0 : Int} (h : ∀ J, zJ G true (0) 0 0 mX9_actForm (zKT F) J → J 0 ([some (zI x0)], [], μ, 0, 0)) : qX9_actForm G x0 μ F :=
  z_body (by decide +kernel) (Nat.le_of_ble_eq_true rfl) h
set_option maxRecDepth 20000 in
theorem rX9_formOf_e {G : zG} {F : Nat → zM → Prop} {J : Nat → zS → Prop} {μ : zM} (C : zJ G true (2) 0 0 mX9_formOf (zKT F) J) (x0 : Int) (x1 : Int)
    (h : zin x0 ∧ ((¬ x0 = 0 → ((¬ x0 = 1 → qX9_actForm G x1 μ (fun v4 μ4 => ∃ t4, t4 < 20 ∧ v4 = 60 + t4 ∧ F (60 + t4) μ4)) ∧ (x0 = 1 → qX9_stepForm G x1 μ (fun v5 μ5 => ∃ t5, t5 < 20 ∧ v5 = 60 + t5 ∧ F (60 + t5) μ5)))) ∧ (x0 = 0 → F (60 + 1) μ))) : J 0 ([some (zI x0), some (zI x1)], [], μ, 0, 0) := by
  obtain ⟨p, e, s, m, args, below, meth, c, A, hml, hr, hlk, hnm, rfl⟩ := C
  refine s_iload_n A dX9_formOf_0 rfl ?_
  obtain ⟨oz1, h⟩ := h
  refine z_if_ne (tgt := 7) A dX9_formOf_1 (by decide) oz1 (fun c2 => ?_) (fun c2 => ?_)
  · have h := h.1 c2
    refine s_iload_n A dX9_formOf_7 rfl ?_
    refine s_iconst A dX9_formOf_8 ?_
    refine z_icmp_ne (tgt := 19) A dX9_formOf_9 (by decide) oz1 ⟨by decide, by decide⟩ (fun c3 => ?_) (fun c3 => ?_)
    · have h := h.1 c3
      refine s_iload_n A dX9_formOf_19 rfl ?_
      refine s_callS (M := mX9_actForm) (n := 1) (d := 0) (mc := 0) (ms := 0) (av := [zI x1]) (st := []) A dX9_formOf_20 zwd432 zwd433 zwd90 zcd_X9_actForm (Nat.le_of_ble_eq_true rfl) (Nat.le_of_ble_eq_true rfl) (Nat.le_refl _) ⟨Nat.le_of_ble_eq_true rfl, Nat.le_of_ble_eq_true rfl⟩ zhn_X9_actForm rfl (Nat.le_of_ble_eq_true rfl) rfl (z_contT (fun v4 μ4 h => ?_) h)
      obtain ⟨t4, ht4, rfl, h⟩ := h
      exact s_aretT A dX9_formOf_23 hr (Or.inl ⟨_, rfl⟩) hlk (Nat.le_of_ble_eq_true rfl) (Nat.le_of_ble_eq_true rfl) ⟨_, rfl, h⟩
    · have h := h.2 c3
      refine s_iload_n A dX9_formOf_12 rfl ?_
      refine s_callS (M := mX9_stepForm) (n := 1) (d := 0) (mc := 0) (ms := 0) (av := [zI x1]) (st := []) A dX9_formOf_13 zwd419 zwd420 zwd90 zcd_X9_stepForm (Nat.le_of_ble_eq_true rfl) (Nat.le_of_ble_eq_true rfl) (Nat.le_refl _) ⟨Nat.le_of_ble_eq_true rfl, Nat.le_of_ble_eq_true rfl⟩ zhn_X9_stepForm rfl (Nat.le_of_ble_eq_true rfl) rfl (z_contT (fun v5 μ5 h => ?_) h)
      obtain ⟨t5, ht5, rfl, h⟩ := h
      refine s_goto (tgt := 23) A dX9_formOf_16 (by decide) ?_
      exact s_aretT A dX9_formOf_23 hr (Or.inl ⟨_, rfl⟩) hlk (Nat.le_of_ble_eq_true rfl) (Nat.le_of_ble_eq_true rfl) ⟨_, rfl, h⟩
  · have h := h.2 c2
    refine z_ldcT (i := 1) A dX9_formOf_4 (by decide) rfl rfl ?_
    exact s_aretT A dX9_formOf_6 hr (Or.inl ⟨_, rfl⟩) hlk (Nat.le_of_ble_eq_true rfl) (Nat.le_of_ble_eq_true rfl) ⟨_, rfl, h⟩
theorem eX9_formOf {G : zG} {F : Nat → zM → Prop} {μ : zM} {x0 : Int} {x1 : Int} (h : ∀ J, zJ G true (2) 0 0 mX9_formOf (zKT F) J → J 0 ([some (zI x0), some (zI x1)], [], μ, 0, 0)) : qX9_formOf G x0 x1 μ F :=
  z_body (by decide +kernel) (Nat.le_of_ble_eq_true rfl) h
set_option maxRecDepth 20000 in
theorem rX9_inkOf_e {G : zG} {F : Int → zM → Prop} {J : Nat → zS → Prop} {μ : zM} (C : zJ G true (8) 0 0 mX9_inkOf (zKI F) J) (x0 : Int)
    (h : zin x0 ∧ ((x0 ≤ 0 → F (-1) μ) ∧ (¬ (x0 ≤ 0) → zin (x0 % 65536) ∧ F (zix 18 (x0 % 65536)) μ))) : J 0 ([some (zI x0)], [], μ, 0, 0) := by
  obtain ⟨p, e, s, m, args, below, meth, c, A, hml, hr, hlk, hnm, rfl⟩ := C
  refine s_iload_n A dX9_inkOf_0 rfl ?_
  obtain ⟨oz1, h⟩ := h
  refine z_if_le (tgt := 14) A dX9_inkOf_1 (by decide) oz1 (fun c2 => ?_) (fun c2 => ?_)
  · have h := h.1 c2
    refine s_iconst A dX9_inkOf_14 ?_
    exact s_iret A dX9_inkOf_15 hr hlk (Nat.le_of_ble_eq_true rfl) (Nat.le_of_ble_eq_true rfl) ⟨_, rfl, h⟩
  · have h := h.2 c2
    refine z_ldcT (i := 18) A dX9_inkOf_4 (by decide) rfl rfl ?_
    refine s_iload_n A dX9_inkOf_6 rfl ?_
    refine s_i2c A dX9_inkOf_7 ?_
    obtain ⟨oz3, h⟩ := h
    refine s_callVT (M := mJ0_indexOf_0f7a4) (n := 1) (d := 4) (mc := 0) (ms := 0) (av := [zI (x0 % 65536)]) (st := []) A dX9_inkOf_8 (by decide) zwx490 zwx491 zwx492 zwx101 zcd_J0_indexOf_0f7a4 (Nat.le_of_ble_eq_true rfl) (Nat.le_of_ble_eq_true rfl) (Nat.le_refl _) ⟨Nat.le_of_ble_eq_true rfl, Nat.le_of_ble_eq_true rfl⟩ ⟨rfl, zhn_J0_indexOf_0f7a4⟩ rfl (Nat.le_of_ble_eq_true rfl) rfl (z_contI (fun v9 μ9 hv9 => ?_) (zj_indexOf (F := fun v μ9 => v = zix 18 (x0 % 65536) ∧ μ9 = μ) (by decide) oz3 ⟨rfl, rfl⟩))
    rw [hv9.1, hv9.2]
    refine s_goto (tgt := 15) A dX9_inkOf_11 (by decide) ?_
    exact s_iret A dX9_inkOf_15 hr hlk (Nat.le_of_ble_eq_true rfl) (Nat.le_of_ble_eq_true rfl) ⟨_, rfl, h⟩
theorem eX9_inkOf {G : zG} {F : Int → zM → Prop} {μ : zM} {x0 : Int} (h : ∀ J, zJ G true (8) 0 0 mX9_inkOf (zKI F) J → J 0 ([some (zI x0)], [], μ, 0, 0)) : qX9_inkOf G x0 μ F :=
  z_body (by decide +kernel) (Nat.le_of_ble_eq_true rfl) h
set_option maxRecDepth 20000 in
theorem rX9_wrongAt_e {G : zG} {F : Int → zM → Prop} {J : Nat → zS → Prop} {μ : zM} (C : zJ G true (10) 0 0 mX9_wrongAt (zKI F) J) (x1 : Int) (x2 : Int)
    (h : J 12 ([some (zR (some 1)), some (zI x1), some (zI x2), some (zT (60 + 0)), some (zI 0), some (zI 0), some (zI 0), none], [], μ, 0, 0)) : J 0 ([some (zR (some 1)), some (zI x1), some (zI x2), none, none, none, none, none], [], μ, 0, 0) := by
  obtain ⟨p, e, s, m, args, below, meth, c, A, hml, hr, hlk, hnm, rfl⟩ := C
  refine z_ldcT (i := 0) A dX9_wrongAt_0 (by decide) rfl rfl ?_
  refine s_astore_nT (L' := [some (zR (some 1)), some (zI x1), some (zI x2), some (zT (60 + 0)), none, none, none, none]) A dX9_wrongAt_2 (Nat.le_of_ble_eq_true rfl) rfl ?_
  refine s_iconst A dX9_wrongAt_3 ?_
  refine s_istore (L' := [some (zR (some 1)), some (zI x1), some (zI x2), some (zT (60 + 0)), some (zI 0), none, none, none]) A dX9_wrongAt_4 (Nat.le_of_ble_eq_true rfl) rfl ?_
  refine s_iconst A dX9_wrongAt_6 ?_
  refine s_istore (L' := [some (zR (some 1)), some (zI x1), some (zI x2), some (zT (60 + 0)), some (zI 0), some (zI 0), none, none]) A dX9_wrongAt_7 (Nat.le_of_ble_eq_true rfl) rfl ?_
  refine s_iconst A dX9_wrongAt_9 ?_
  refine s_istore (L' := [some (zR (some 1)), some (zI x1), some (zI x2), some (zT (60 + 0)), some (zI 0), some (zI 0), some (zI 0), none]) A dX9_wrongAt_10 (Nat.le_of_ble_eq_true rfl) rfl ?_
  exact h
set_option maxRecDepth 20000 in
theorem rX9_wrongAt_12 {G : zG} {F : Int → zM → Prop} {J : Nat → zS → Prop} {μ : zM} (C : zJ G true (10) 0 0 mX9_wrongAt (zKI F) J) (x1 : Int) (x2 : Int) {t3 : Nat} (ht3 : t3 < 20) (x4 : Int) (x5 : Int) (x6 : Int)
    (h : zin x6 ∧ zin (zi μ 1 1) ∧ ((zi μ 1 1 ≤ x6 → J 122 ([some (zR (some 1)), none, some (zI x2), some (zT (60 + t3)), some (zI x4), some (zI x5), none, none], [], μ, 0, 0)) ∧ (¬ (zi μ 1 1 ≤ x6) → zin x2 ∧ ((x2 ≤ x6 → J 122 ([some (zR (some 1)), none, some (zI x2), some (zT (60 + t3)), some (zI x4), some (zI x5), none, none], [], μ, 0, 0)) ∧ (¬ (x2 ≤ x6) → (0 ≤ x6 ∧ x6 < 80) ∧ zin x4 ∧ zin (((zstx t3).length : Int)) ∧ ((¬ x4 = ((zstx t3).length : Int) → J 73 ([some (zR (some 1)), some (zI x1), some (zI x2), some (zT (60 + t3)), some (zI x4), some (zI x5), some (zI x6), some (zI (zi μ 2 x6))], [], μ, 0, 0)) ∧ (x4 = ((zstx t3).length : Int) → zin (zi μ 2 x6) ∧ ((¬ zi μ 2 x6 = 41 → qX9_formOf G x1 (zi μ 2 x6) μ (fun v12 μ12 => ∃ t12, t12 < 20 ∧ v12 = 60 + t12 ∧ J 73 ([some (zR (some 1)), some (zI x1), some (zI x2), some (zT (60 + t12)), some (zI 0), some (zI x5), some (zI x6), some (zI (zi μ 2 x6))], [], μ12, 0, 0))) ∧ (zi μ 2 x6 = 41 → zin x5 ∧ ((x5 ≤ 0 → qX9_formOf G x1 (zi μ 2 x6) μ (fun v15 μ15 => ∃ t15, t15 < 20 ∧ v15 = 60 + t15 ∧ J 73 ([some (zR (some 1)), some (zI x1), some (zI x2), some (zT (60 + t15)), some (zI 0), some (zI x5), some (zI x6), some (zI (zi μ 2 x6))], [], μ15, 0, 0))) ∧ (¬ (x5 ≤ 0) → J 12 ([some (zR (some 1)), some (zI x1), some (zI x2), some (zT (60 + t3)), some (zI x4), some (zI (x5 + (-1))), some (zI (x6 + 1)), none], [], μ, 0, 0)))))))))))) : J 12 ([some (zR (some 1)), some (zI x1), some (zI x2), some (zT (60 + t3)), some (zI x4), some (zI x5), some (zI x6), none], [], μ, 0, 0) := by
  obtain ⟨p, e, s, m, args, below, meth, c, A, hml, hr, hlk, hnm, rfl⟩ := C
  refine s_iload A dX9_wrongAt_12 rfl ?_
  refine s_aload_n A dX9_wrongAt_14 rfl ?_
  refine s_getf (k := 9) (j := 1) (sl := true) (v := zI (zi μ 1 1)) A dX9_wrongAt_15 rfl zuw_X9 (Nat.le_of_ble_eq_true rfl) zwd128 (by decide) (zk_1 _) rfl ?_
  obtain ⟨oz1, h⟩ := h
  obtain ⟨oz2, h⟩ := h
  refine z_icmp_ge (tgt := 122) A dX9_wrongAt_18 (by decide) oz1 oz2 (fun c3 => ?_) (fun c3 => ?_)
  · have h := h.1 c3
    exact z_wk (L' := [some (zR (some 1)), none, some (zI x2), some (zT (60 + t3)), some (zI x4), some (zI x5), none, none]) ⟨rfl, rfl, rfl, rfl, rfl, trivial⟩ h
  · have h := h.2 c3
    refine s_iload A dX9_wrongAt_21 rfl ?_
    refine s_iload_n A dX9_wrongAt_23 rfl ?_
    obtain ⟨oz4, h⟩ := h
    refine z_icmp_ge (tgt := 122) A dX9_wrongAt_24 (by decide) oz1 oz4 (fun c5 => ?_) (fun c5 => ?_)
    · have h := h.1 c5
      exact z_wk (L' := [some (zR (some 1)), none, some (zI x2), some (zT (60 + t3)), some (zI x4), some (zI x5), none, none]) ⟨rfl, rfl, rfl, rfl, rfl, trivial⟩ h
    · have h := h.2 c5
      refine s_aload_n A dX9_wrongAt_27 rfl ?_
      refine s_getf (k := 9) (j := 0) (sl := true) (v := zR (some 2)) A dX9_wrongAt_28 rfl zuw_X9 (Nat.le_of_ble_eq_true rfl) zwd127 (by decide) (zk_1 _) rfl ?_
      refine s_iload A dX9_wrongAt_31 rfl ?_
      obtain ⟨ox6, h⟩ := h
      refine z_iald A dX9_wrongAt_33 (zk_2 _) (Nat.le_of_ble_eq_true rfl) ox6 ?_
      refine s_istore (L' := [some (zR (some 1)), some (zI x1), some (zI x2), some (zT (60 + t3)), some (zI x4), some (zI x5), some (zI x6), some (zI (zi μ 2 x6))]) A dX9_wrongAt_34 (Nat.le_of_ble_eq_true rfl) rfl ?_
      refine s_iload A dX9_wrongAt_36 rfl ?_
      refine s_aload_nT A dX9_wrongAt_38 rfl ?_
      refine s_callVT (M := mJ0_length_8abf5) (n := 0) (d := 2) (mc := 0) (ms := 0) (av := []) (st := [zI x4]) A dX9_wrongAt_39 ht3 zwx405 zwx406 zwx407 zwx101 zcd_J0_length_8abf5 (Nat.le_of_ble_eq_true rfl) (Nat.le_of_ble_eq_true rfl) (Nat.le_refl _) ⟨Nat.le_of_ble_eq_true rfl, Nat.le_of_ble_eq_true rfl⟩ ⟨rfl, zhn_J0_length_8abf5⟩ rfl (Nat.le_of_ble_eq_true rfl) rfl (z_contI (fun v9 μ9 hv9 => ?_) (zj_length (F := fun v μ9 => v = ((zstx t3).length : Int) ∧ μ9 = μ) ht3 ⟨rfl, rfl⟩))
      rw [hv9.1, hv9.2]
      obtain ⟨oz7, h⟩ := h
      obtain ⟨oz8, h⟩ := h
      refine z_icmp_ne (tgt := 73) A dX9_wrongAt_42 (by decide) oz7 oz8 (fun c9 => ?_) (fun c9 => ?_)
      · have h := h.1 c9
        exact h
      · have h := h.2 c9
        refine s_iload A dX9_wrongAt_45 rfl ?_
        refine s_bipush A dX9_wrongAt_47 rfl ?_
        obtain ⟨oz10, h⟩ := h
        refine z_icmp_ne (tgt := 63) A dX9_wrongAt_49 (by decide) oz10 ⟨by decide, by decide⟩ (fun c11 => ?_) (fun c11 => ?_)
        · have h := h.1 c11
          refine s_iload_n A dX9_wrongAt_63 rfl ?_
          refine s_iload A dX9_wrongAt_64 rfl ?_
          refine s_callS (M := mX9_formOf) (n := 2) (d := 2) (mc := 0) (ms := 0) (av := [zI x1, zI (zi μ 2 x6)]) (st := []) A dX9_wrongAt_66 zwd415 zwd416 zwd90 zcd_X9_formOf (Nat.le_of_ble_eq_true rfl) (Nat.le_of_ble_eq_true rfl) (Nat.le_refl _) ⟨Nat.le_of_ble_eq_true rfl, Nat.le_of_ble_eq_true rfl⟩ zhn_X9_formOf rfl (Nat.le_of_ble_eq_true rfl) rfl (z_contT (fun v12 μ12 h => ?_) h)
          obtain ⟨t12, ht12, rfl, h⟩ := h
          refine s_astore_nT (L' := [some (zR (some 1)), some (zI x1), some (zI x2), some (zT (60 + t12)), some (zI x4), some (zI x5), some (zI x6), some (zI (zi μ 2 x6))]) A dX9_wrongAt_69 (Nat.le_of_ble_eq_true rfl) rfl ?_
          refine s_iconst A dX9_wrongAt_70 ?_
          refine s_istore (L' := [some (zR (some 1)), some (zI x1), some (zI x2), some (zT (60 + t12)), some (zI 0), some (zI x5), some (zI x6), some (zI (zi μ 2 x6))]) A dX9_wrongAt_71 (Nat.le_of_ble_eq_true rfl) rfl ?_
          exact h
        · have h := h.2 c11
          refine s_iload A dX9_wrongAt_52 rfl ?_
          obtain ⟨oz13, h⟩ := h
          refine z_if_le (tgt := 63) A dX9_wrongAt_54 (by decide) oz13 (fun c14 => ?_) (fun c14 => ?_)
          · have h := h.1 c14
            refine s_iload_n A dX9_wrongAt_63 rfl ?_
            refine s_iload A dX9_wrongAt_64 rfl ?_
            refine s_callS (M := mX9_formOf) (n := 2) (d := 2) (mc := 0) (ms := 0) (av := [zI x1, zI (zi μ 2 x6)]) (st := []) A dX9_wrongAt_66 zwd415 zwd416 zwd90 zcd_X9_formOf (Nat.le_of_ble_eq_true rfl) (Nat.le_of_ble_eq_true rfl) (Nat.le_refl _) ⟨Nat.le_of_ble_eq_true rfl, Nat.le_of_ble_eq_true rfl⟩ zhn_X9_formOf rfl (Nat.le_of_ble_eq_true rfl) rfl (z_contT (fun v15 μ15 h => ?_) h)
            obtain ⟨t15, ht15, rfl, h⟩ := h
            refine s_astore_nT (L' := [some (zR (some 1)), some (zI x1), some (zI x2), some (zT (60 + t15)), some (zI x4), some (zI x5), some (zI x6), some (zI (zi μ 2 x6))]) A dX9_wrongAt_69 (Nat.le_of_ble_eq_true rfl) rfl ?_
            refine s_iconst A dX9_wrongAt_70 ?_
            refine s_istore (L' := [some (zR (some 1)), some (zI x1), some (zI x2), some (zT (60 + t15)), some (zI 0), some (zI x5), some (zI x6), some (zI (zi μ 2 x6))]) A dX9_wrongAt_71 (Nat.le_of_ble_eq_true rfl) rfl ?_
            exact h
          · have h := h.2 c14
            refine s_iinc (L' := [some (zR (some 1)), some (zI x1), some (zI x2), some (zT (60 + t3)), some (zI x4), some (zI (x5 + (-1))), some (zI x6), some (zI (zi μ 2 x6))]) A dX9_wrongAt_57 rfl rfl ?_
            refine s_goto (tgt := 116) A dX9_wrongAt_60 (by decide) ?_
            refine s_iinc (L' := [some (zR (some 1)), some (zI x1), some (zI x2), some (zT (60 + t3)), some (zI x4), some (zI (x5 + (-1))), some (zI (x6 + 1)), some (zI (zi μ 2 x6))]) A dX9_wrongAt_116 rfl rfl ?_
            refine s_goto (tgt := 12) A dX9_wrongAt_119 (by decide) ?_
            exact z_wk (L' := [some (zR (some 1)), some (zI x1), some (zI x2), some (zT (60 + t3)), some (zI x4), some (zI (x5 + (-1))), some (zI (x6 + 1)), none]) ⟨rfl, rfl, rfl, rfl, rfl, rfl, rfl, trivial⟩ h
set_option maxRecDepth 20000 in
theorem rX9_wrongAt_73 {G : zG} {F : Int → zM → Prop} {J : Nat → zS → Prop} {μ : zM} (C : zJ G true (10) 0 0 mX9_wrongAt (zKI F) J) (x1 : Int) (x2 : Int) {t3 : Nat} (ht3 : t3 < 20) (x4 : Int) (x5 : Int) (x6 : Int) (x7 : Int)
    (h : zin ((if (zstx t3).length = 0 then (1 : Int) else 0)) ∧ ((¬ (if (zstx t3).length = 0 then (1 : Int) else 0) = 0 → F x6 μ) ∧ ((if (zstx t3).length = 0 then (1 : Int) else 0) = 0 → (0 ≤ x4 ∧ x4 < ((zstx t3).length : Int)) ∧ qX9_canStand G x7 ((zstx t3).getD (x4).toNat 0) x5 μ (fun v3 μ3 => zin v3 ∧ ((¬ v3 = 0 → (0 ≤ x4 ∧ x4 < ((zstx t3).length : Int)) ∧ zin ((zstx t3).getD (x4).toNat 0) ∧ ((¬ (zstx t3).getD (x4).toNat 0 = 40 → J 12 ([some (zR (some 1)), some (zI x1), some (zI x2), some (zT (60 + t3)), some (zI (x4 + 1)), some (zI x5), some (zI (x6 + 1)), none], [], μ3, 0, 0)) ∧ ((zstx t3).getD (x4).toNat 0 = 40 → J 12 ([some (zR (some 1)), some (zI x1), some (zI x2), some (zT (60 + t3)), some (zI (x4 + 1)), some (zI (x5 + 1)), some (zI (x6 + 1)), none], [], μ3, 0, 0)))) ∧ (v3 = 0 → F x6 μ3)))))) : J 73 ([some (zR (some 1)), some (zI x1), some (zI x2), some (zT (60 + t3)), some (zI x4), some (zI x5), some (zI x6), some (zI x7)], [], μ, 0, 0) := by
  obtain ⟨p, e, s, m, args, below, meth, c, A, hml, hr, hlk, hnm, rfl⟩ := C
  refine s_aload_nT A dX9_wrongAt_73 rfl ?_
  refine s_callVT (M := mJ0_isEmpty_aae02) (n := 0) (d := 0) (mc := 0) (ms := 0) (av := []) (st := []) A dX9_wrongAt_74 ht3 zwx441 zwx442 zwx443 zwx101 zcd_J0_isEmpty_aae02 (Nat.le_of_ble_eq_true rfl) (Nat.le_of_ble_eq_true rfl) (Nat.le_refl _) ⟨Nat.le_of_ble_eq_true rfl, Nat.le_of_ble_eq_true rfl⟩ ⟨rfl, zhn_J0_isEmpty_aae02⟩ rfl (Nat.le_of_ble_eq_true rfl) rfl (z_contI (fun v9 μ9 hv9 => ?_) (zj_isEmpty (F := fun v μ9 => v = (if (zstx t3).length = 0 then (1 : Int) else 0) ∧ μ9 = μ) ht3 ⟨rfl, rfl⟩))
  rw [hv9.1, hv9.2]
  obtain ⟨oz1, h⟩ := h
  refine z_if_ne (tgt := 96) A dX9_wrongAt_77 (by decide) oz1 (fun c2 => ?_) (fun c2 => ?_)
  · have h := h.1 c2
    refine s_iload A dX9_wrongAt_96 rfl ?_
    exact s_iret A dX9_wrongAt_98 hr hlk (Nat.le_of_ble_eq_true rfl) (Nat.le_of_ble_eq_true rfl) ⟨_, rfl, h⟩
  · have h := h.2 c2
    refine s_iload A dX9_wrongAt_80 rfl ?_
    refine s_aload_nT A dX9_wrongAt_82 rfl ?_
    refine s_iload A dX9_wrongAt_83 rfl ?_
    obtain ⟨o8, h⟩ := h
    refine s_callVT (M := mJ0_charAt_5068e) (n := 1) (d := 4) (mc := 0) (ms := 0) (av := [zI x4]) (st := [zI x7]) A dX9_wrongAt_85 ht3 zwx445 zwx446 zwx447 zwx101 zcd_J0_charAt_5068e (Nat.le_of_ble_eq_true rfl) (Nat.le_of_ble_eq_true rfl) (Nat.le_refl _) ⟨Nat.le_of_ble_eq_true rfl, Nat.le_of_ble_eq_true rfl⟩ ⟨rfl, zhn_J0_charAt_5068e⟩ rfl (Nat.le_of_ble_eq_true rfl) rfl (z_contI (fun v9 μ9 hv9 => ?_) (zj_charAt (F := fun v μ9 => v = (zstx t3).getD (x4).toNat 0 ∧ μ9 = μ) ht3 o8 ⟨rfl, rfl⟩))
    rw [hv9.1, hv9.2]
    refine s_iload A dX9_wrongAt_88 rfl ?_
    refine s_callS (M := mX9_canStand) (n := 3) (d := 9) (mc := 0) (ms := 0) (av := [zI x7, zI ((zstx t3).getD (x4).toNat 0), zI x5]) (st := []) A dX9_wrongAt_90 zwd483 zwd484 zwd90 zcd_X9_canStand (Nat.le_of_ble_eq_true rfl) (Nat.le_of_ble_eq_true rfl) (Nat.le_refl _) ⟨Nat.le_of_ble_eq_true rfl, Nat.le_of_ble_eq_true rfl⟩ zhn_X9_canStand rfl (Nat.le_of_ble_eq_true rfl) rfl (z_contI (fun v3 μ3 h => ?_) h)
    obtain ⟨oz4, h⟩ := h
    refine z_if_ne (tgt := 99) A dX9_wrongAt_93 (by decide) oz4 (fun c5 => ?_) (fun c5 => ?_)
    · have h := h.1 c5
      refine s_aload_nT A dX9_wrongAt_99 rfl ?_
      refine s_iload A dX9_wrongAt_100 rfl ?_
      obtain ⟨o8, h⟩ := h
      refine s_callVT (M := mJ0_charAt_5068e) (n := 1) (d := 4) (mc := 0) (ms := 0) (av := [zI x4]) (st := []) A dX9_wrongAt_102 ht3 zwx445 zwx446 zwx447 zwx101 zcd_J0_charAt_5068e (Nat.le_of_ble_eq_true rfl) (Nat.le_of_ble_eq_true rfl) (Nat.le_refl _) ⟨Nat.le_of_ble_eq_true rfl, Nat.le_of_ble_eq_true rfl⟩ ⟨rfl, zhn_J0_charAt_5068e⟩ rfl (Nat.le_of_ble_eq_true rfl) rfl (z_contI (fun v9 μ9 hv9 => ?_) (zj_charAt (F := fun v μ9 => v = (zstx t3).getD (x4).toNat 0 ∧ μ9 = μ3) ht3 o8 ⟨rfl, rfl⟩))
      rw [hv9.1, hv9.2]
      refine s_bipush A dX9_wrongAt_105 rfl ?_
      obtain ⟨oz6, h⟩ := h
      refine z_icmp_ne (tgt := 113) A dX9_wrongAt_107 (by decide) oz6 ⟨by decide, by decide⟩ (fun c7 => ?_) (fun c7 => ?_)
      · have h := h.1 c7
        refine s_iinc (L' := [some (zR (some 1)), some (zI x1), some (zI x2), some (zT (60 + t3)), some (zI (x4 + 1)), some (zI x5), some (zI x6), some (zI x7)]) A dX9_wrongAt_113 rfl rfl ?_
        refine s_iinc (L' := [some (zR (some 1)), some (zI x1), some (zI x2), some (zT (60 + t3)), some (zI (x4 + 1)), some (zI x5), some (zI (x6 + 1)), some (zI x7)]) A dX9_wrongAt_116 rfl rfl ?_
        refine s_goto (tgt := 12) A dX9_wrongAt_119 (by decide) ?_
        exact z_wk (L' := [some (zR (some 1)), some (zI x1), some (zI x2), some (zT (60 + t3)), some (zI (x4 + 1)), some (zI x5), some (zI (x6 + 1)), none]) ⟨rfl, rfl, rfl, rfl, rfl, rfl, rfl, trivial⟩ h
      · have h := h.2 c7
        refine s_iinc (L' := [some (zR (some 1)), some (zI x1), some (zI x2), some (zT (60 + t3)), some (zI x4), some (zI (x5 + 1)), some (zI x6), some (zI x7)]) A dX9_wrongAt_110 rfl rfl ?_
        refine s_iinc (L' := [some (zR (some 1)), some (zI x1), some (zI x2), some (zT (60 + t3)), some (zI (x4 + 1)), some (zI (x5 + 1)), some (zI x6), some (zI x7)]) A dX9_wrongAt_113 rfl rfl ?_
        refine s_iinc (L' := [some (zR (some 1)), some (zI x1), some (zI x2), some (zT (60 + t3)), some (zI (x4 + 1)), some (zI (x5 + 1)), some (zI (x6 + 1)), some (zI x7)]) A dX9_wrongAt_116 rfl rfl ?_
        refine s_goto (tgt := 12) A dX9_wrongAt_119 (by decide) ?_
        exact z_wk (L' := [some (zR (some 1)), some (zI x1), some (zI x2), some (zT (60 + t3)), some (zI (x4 + 1)), some (zI (x5 + 1)), some (zI (x6 + 1)), none]) ⟨rfl, rfl, rfl, rfl, rfl, rfl, rfl, trivial⟩ h
    · have h := h.2 c5
      refine s_iload A dX9_wrongAt_96 rfl ?_
      exact s_iret A dX9_wrongAt_98 hr hlk (Nat.le_of_ble_eq_true rfl) (Nat.le_of_ble_eq_true rfl) ⟨_, rfl, h⟩
set_option maxRecDepth 20000 in
theorem rX9_wrongAt_122 {G : zG} {F : Int → zM → Prop} {J : Nat → zS → Prop} {μ : zM} (C : zJ G true (10) 0 0 mX9_wrongAt (zKI F) J) (x2 : Int) {t3 : Nat} (ht3 : t3 < 20) (x4 : Int) (x5 : Int)
    (h : zin (zi μ 1 1) ∧ zin x2 ∧ ((zi μ 1 1 ≤ x2 → zin x4 ∧ zin (((zstx t3).length : Int)) ∧ ((x4 < ((zstx t3).length : Int) → F (zi μ 1 1) μ) ∧ (¬ (x4 < ((zstx t3).length : Int)) → zin x5 ∧ ((x5 ≤ 0 → F (-1) μ) ∧ (¬ (x5 ≤ 0) → F (zi μ 1 1) μ))))) ∧ (¬ (zi μ 1 1 ≤ x2) → F x2 μ))) : J 122 ([some (zR (some 1)), none, some (zI x2), some (zT (60 + t3)), some (zI x4), some (zI x5), none, none], [], μ, 0, 0) := by
  obtain ⟨p, e, s, m, args, below, meth, c, A, hml, hr, hlk, hnm, rfl⟩ := C
  refine s_aload_n A dX9_wrongAt_122 rfl ?_
  refine s_getf (k := 9) (j := 1) (sl := true) (v := zI (zi μ 1 1)) A dX9_wrongAt_123 rfl zuw_X9 (Nat.le_of_ble_eq_true rfl) zwd128 (by decide) (zk_1 _) rfl ?_
  refine s_iload_n A dX9_wrongAt_126 rfl ?_
  obtain ⟨oz1, h⟩ := h
  obtain ⟨oz2, h⟩ := h
  refine z_icmp_le (tgt := 132) A dX9_wrongAt_127 (by decide) oz1 oz2 (fun c3 => ?_) (fun c3 => ?_)
  · have h := h.1 c3
    refine s_iload A dX9_wrongAt_132 rfl ?_
    refine s_aload_nT A dX9_wrongAt_134 rfl ?_
    refine s_callVT (M := mJ0_length_8abf5) (n := 0) (d := 2) (mc := 0) (ms := 0) (av := []) (st := [zI x4]) A dX9_wrongAt_135 ht3 zwx405 zwx406 zwx407 zwx101 zcd_J0_length_8abf5 (Nat.le_of_ble_eq_true rfl) (Nat.le_of_ble_eq_true rfl) (Nat.le_refl _) ⟨Nat.le_of_ble_eq_true rfl, Nat.le_of_ble_eq_true rfl⟩ ⟨rfl, zhn_J0_length_8abf5⟩ rfl (Nat.le_of_ble_eq_true rfl) rfl (z_contI (fun v9 μ9 hv9 => ?_) (zj_length (F := fun v μ9 => v = ((zstx t3).length : Int) ∧ μ9 = μ) ht3 ⟨rfl, rfl⟩))
    rw [hv9.1, hv9.2]
    obtain ⟨oz4, h⟩ := h
    obtain ⟨oz5, h⟩ := h
    refine z_icmp_lt (tgt := 146) A dX9_wrongAt_138 (by decide) oz4 oz5 (fun c6 => ?_) (fun c6 => ?_)
    · have h := h.1 c6
      refine s_aload_n A dX9_wrongAt_146 rfl ?_
      refine s_getf (k := 9) (j := 1) (sl := true) (v := zI (zi μ 1 1)) A dX9_wrongAt_147 rfl zuw_X9 (Nat.le_of_ble_eq_true rfl) zwd128 (by decide) (zk_1 _) rfl ?_
      refine s_goto (tgt := 154) A dX9_wrongAt_150 (by decide) ?_
      exact s_iret A dX9_wrongAt_154 hr hlk (Nat.le_of_ble_eq_true rfl) (Nat.le_of_ble_eq_true rfl) ⟨_, rfl, h⟩
    · have h := h.2 c6
      refine s_iload A dX9_wrongAt_141 rfl ?_
      obtain ⟨oz7, h⟩ := h
      refine z_if_le (tgt := 153) A dX9_wrongAt_143 (by decide) oz7 (fun c8 => ?_) (fun c8 => ?_)
      · have h := h.1 c8
        refine s_iconst A dX9_wrongAt_153 ?_
        exact s_iret A dX9_wrongAt_154 hr hlk (Nat.le_of_ble_eq_true rfl) (Nat.le_of_ble_eq_true rfl) ⟨_, rfl, h⟩
      · have h := h.2 c8
        refine s_aload_n A dX9_wrongAt_146 rfl ?_
        refine s_getf (k := 9) (j := 1) (sl := true) (v := zI (zi μ 1 1)) A dX9_wrongAt_147 rfl zuw_X9 (Nat.le_of_ble_eq_true rfl) zwd128 (by decide) (zk_1 _) rfl ?_
        refine s_goto (tgt := 154) A dX9_wrongAt_150 (by decide) ?_
        exact s_iret A dX9_wrongAt_154 hr hlk (Nat.le_of_ble_eq_true rfl) (Nat.le_of_ble_eq_true rfl) ⟨_, rfl, h⟩
  · have h := h.2 c3
    refine s_iload_n A dX9_wrongAt_130 rfl ?_
    exact s_iret A dX9_wrongAt_131 hr hlk (Nat.le_of_ble_eq_true rfl) (Nat.le_of_ble_eq_true rfl) ⟨_, rfl, h⟩
theorem eX9_wrongAt {G : zG} {F : Int → zM → Prop} {μ : zM} {x1 : Int} {x2 : Int} (h : ∀ J, zJ G true (10) 0 0 mX9_wrongAt (zKI F) J → J 0 ([some (zR (some 1)), some (zI x1), some (zI x2), none, none, none, none, none], [], μ, 0, 0)) : qX9_wrongAt G x1 x2 μ F :=
  z_body (by decide +kernel) (Nat.le_of_ble_eq_true rfl) h
set_option maxRecDepth 20000 in
theorem rX3_read_e {G : zG} {F : Option Nat → zM → Prop} {J : Nat → zS → Prop} {μ : zM} (C : zJ G true (23) 43 253 mX3_read (zKR F) J) (r1 : Option Nat) (x2 : Int)
    (h : zs true (znew μ (8, 6)) (zn μ) = (8, 6) ∧ ∀ b1 μ1, b1 = zn μ → μ1 = znew μ (8, 6) → qX8_init G true b1 110 1 0 μ1 (fun μ2 => zs true (znew μ2 (45, 4)) (zn μ2) = (45, 4) ∧ ∀ b3 μ3, b3 = zn μ2 → μ3 = znew μ2 (45, 4) → zok true μ3 b3 (45, 4) ∧ zok true μ3 b1 (8, 6) ∧ J 29 ([some (zR (some 1)), some (zR r1), some (zI x2), some (zR (some b1)), some (zR (some b3)), some (zI 0), some (zI 0), none, none], [], zupr μ3 b3 0 (some b1), 0 + 1 + 1, 0 + 6 + 4))) : J 0 ([some (zR (some 1)), some (zR r1), some (zI x2), none, none, none, none, none, none], [], μ, 0, 0) := by
  obtain ⟨p, e, s, m, args, below, meth, c, A, hml, hr, hlk, hnm, rfl⟩ := C
  obtain ⟨o1, h⟩ := h
  refine z_new (k := 8) (N := 6) A dX3_read_0 rfl zuw_X8 tyX8 tyX8_ok zdf_X8 (by decide) zwd647 zwd648 zwd108 o1 (Nat.le_of_ble_eq_true rfl) (Nat.le_of_ble_eq_true rfl) (fun b1 μ1 eb1 em1 => ?_)
  have h := h b1 μ1 eb1 em1
  refine s_dup A dX3_read_3 rfl ?_
  refine s_bipush A dX3_read_4 rfl ?_
  refine s_iconst A dX3_read_6 ?_
  refine s_iconst A dX3_read_7 ?_
  refine s_callI (a := b1) (M := mX8_init) (n := 3) (d := 2) (mc := 0) (ms := 0) (av := [zI 110, zI 1, zI 0]) (st := [zR (some b1)]) A dX3_read_8 rfl zwd649 zwd650 zwd108 zcd_X8_init rfl (Nat.le_of_ble_eq_true rfl) (Nat.le_of_ble_eq_true rfl) (Nat.le_refl _) ⟨Nat.le_of_ble_eq_true rfl, Nat.le_of_ble_eq_true rfl⟩ zhn_X8_init rfl (Nat.le_of_ble_eq_true rfl) rfl (z_contV (fun μ2 h => ?_) h)
  refine s_astore_n (L' := [some (zR (some 1)), some (zR r1), some (zI x2), some (zR (some b1)), none, none, none, none, none]) A dX3_read_11 (Nat.le_of_ble_eq_true rfl) rfl ?_
  refine s_iconst A dX3_read_12 ?_
  obtain ⟨o3, h⟩ := h
  refine z_anew_Step (n := 4) A dX3_read_13 rfl (by decide) zwd647 zwr679 o3 (Nat.le_of_ble_eq_true rfl) (Nat.le_of_ble_eq_true rfl) (fun b3 μ3 eb3 em3 => ?_)
  have h := h b3 μ3 eb3 em3
  refine s_astore (L' := [some (zR (some 1)), some (zR r1), some (zI x2), some (zR (some b1)), some (zR (some b3)), none, none, none, none]) A dX3_read_16 (Nat.le_of_ble_eq_true rfl) rfl ?_
  refine s_aload A dX3_read_18 rfl ?_
  refine s_iconst A dX3_read_20 ?_
  refine s_aload_n A dX3_read_21 rfl ?_
  obtain ⟨o4, h⟩ := h
  obtain ⟨o5, h⟩ := h
  refine z_aastT (sl := false) A dX3_read_22 o4 (Nat.le_of_ble_eq_true rfl) ⟨by decide, by decide⟩ o5 ?_
  refine s_iconst A dX3_read_23 ?_
  refine s_istore (L' := [some (zR (some 1)), some (zR r1), some (zI x2), some (zR (some b1)), some (zR (some b3)), some (zI 0), none, none, none]) A dX3_read_24 (Nat.le_of_ble_eq_true rfl) rfl ?_
  refine s_iconst A dX3_read_26 ?_
  refine s_istore (L' := [some (zR (some 1)), some (zR r1), some (zI x2), some (zR (some b1)), some (zR (some b3)), some (zI 0), some (zI 0), none, none]) A dX3_read_27 (Nat.le_of_ble_eq_true rfl) rfl ?_
  exact h
set_option maxRecDepth 20000 in
theorem rX3_read_29 {G : zG} {F : Option Nat → zM → Prop} {J : Nat → zS → Prop} {μ : zM} (C : zJ G true (23) 43 253 mX3_read (zKR F) J) (r1 : Option Nat) (x2 : Int) (a3 : Nat) (a4 : Nat) (x5 : Int) (x6 : Int) {cn un : Nat}
    (h : zin x6 ∧ zin (zi μ 1 1) ∧ ((zi μ 1 1 ≤ x6 → (cn + 0 ≤ 43 ∧ un + 0 ≤ 253) ∧ qX9_has G 112 μ (fun v4 μ4 => zin v4 ∧ ((v4 = 0 → zin (zi μ4 1 1) ∧ (cn + 0 ≤ 43 ∧ un + 0 ≤ 253) ∧ zs true (znew μ4 (3, 3)) (zn μ4) = (3, 3) ∧ (cn + 1 ≤ 43 ∧ un + 3 ≤ 253) ∧ ∀ b9 μ9, b9 = zn μ4 → μ9 = znew μ4 (3, 3) → zok true μ9 a3 (8, 6) ∧ zok true μ9 a3 (8, 6) ∧ (cn + 1 + 0 ≤ 43 ∧ un + 3 + 0 ≤ 253) ∧ qX8_longOf G 20 (zr μ9 a3 3) 0 μ9 (fun v12 μ12 => (cn + 1 + 0 ≤ 43 ∧ un + 3 + 0 ≤ 253) ∧ qX3_init G true b9 (zr μ9 a3 3) v12 (min (zi μ4 1 1) 1) μ12 (fun μ13 => (cn + 1 ≤ 43 ∧ un + 3 ≤ 253) ∧ F (some b9) μ13))) ∧ (¬ (v4 = 0) → ∃ b14, r1 = some b14 ∧ zok true μ4 b14 (3, 3) ∧ zs true (znew μ4 (3, 3)) (zn μ4) = (3, 3) ∧ (cn + 1 ≤ 43 ∧ un + 3 ≤ 253) ∧ ∀ b16 μ16, b16 = zn μ4 → μ16 = znew μ4 (3, 3) → zok true μ16 a3 (8, 6) ∧ zok true μ16 a3 (8, 6) ∧ (cn + 1 + 0 ≤ 43 ∧ un + 3 + 0 ≤ 253) ∧ qX8_longOf G 20 (zr μ16 a3 3) 0 μ16 (fun v19 μ19 => (cn + 1 + 0 ≤ 43 ∧ un + 3 + 0 ≤ 253) ∧ qX3_init G true b16 (zr μ16 a3 3) v19 ((zi μ4 b14 2) + 1) μ19 (fun μ20 => (cn + 1 ≤ 43 ∧ un + 3 ≤ 253) ∧ F (some b16) μ20)))))) ∧ (¬ (zi μ 1 1 ≤ x6) → (cn + 0 ≤ 43 ∧ un + 0 ≤ 253) ∧ qX9_at G x6 μ (fun v21 μ21 => zin v21 ∧ ((¬ v21 = 41 → (cn + 0 ≤ 43 ∧ un + 0 ≤ 253) ∧ qX9_at G x6 μ21 (fun v24 μ24 => (cn + 0 ≤ 43 ∧ un + 0 ≤ 253) ∧ qX9_stepForm G v24 μ24 (fun v25 μ25 => ∃ t25, t25 < 20 ∧ v25 = 60 + t25 ∧ (cn + 1 ≤ 43 ∧ un + 6 ≤ 253) ∧ qX3_readStep G x6 r1 x2 μ25 (fun v26 μ26 => ∃ b27, v26 = some b27 ∧ zok true μ26 b27 (8, 6) ∧ zin (zi μ26 b27 0) ∧ ((¬ zi μ26 b27 0 = 112 → zok true μ26 a4 (45, 4) ∧ (0 ≤ x5 ∧ x5 < 4) ∧ ∃ b33, zr μ26 a4 x5 = some b33 ∧ zok true μ26 b33 (8, 6) ∧ (cn + 1 + 0 ≤ 43 ∧ un + 6 + 0 ≤ 253) ∧ qX8_append G b33 v26 μ26 (fun μ35 => J 111 ([some (zR (some 1)), some (zR r1), some (zI x2), some (zR (some a3)), some (zR (some a4)), some (zI x5), some (zI x6), some (zT (60 + t25)), some (zR v26)], [], μ35, cn + 1, un + 6))) ∧ (zi μ26 b27 0 = 112 → zok true μ26 b27 (8, 6) ∧ (zr μ26 b27 3 = none → J 111 ([some (zR (some 1)), some (zR r1), some (zI x2), some (zR (some a3)), some (zR (some a4)), some (zI x5), some (zI x6), some (zT (60 + t25)), some (zR v26)], [], μ26, cn + 1, un + 6)) ∧ (∀ b37, zr μ26 b27 3 = some b37 → zok true μ26 a4 (45, 4) ∧ (0 ≤ x5 ∧ x5 < 4) ∧ ∃ b40, zr μ26 a4 x5 = some b40 ∧ zok true μ26 b40 (8, 6) ∧ (cn + 1 + 0 ≤ 43 ∧ un + 6 + 0 ≤ 253) ∧ qX8_append G b40 v26 μ26 (fun μ42 => J 111 ([some (zR (some 1)), some (zR r1), some (zI x2), some (zR (some a3)), some (zR (some a4)), some (zI x5), some (zI x6), some (zT (60 + t25)), some (zR v26)], [], μ42, cn + 1, un + 6))))))))) ∧ (v21 = 41 → zin (x5 - 1) ∧ (cn + 0 ≤ 43 ∧ un + 0 ≤ 253) ∧ J 29 ([some (zR (some 1)), some (zR r1), some (zI x2), some (zR (some a3)), some (zR (some a4)), some (zI (max 0 (x5 - 1))), some (zI (x6 + 1)), none, none], [], μ21, cn, un))))))) : J 29 ([some (zR (some 1)), some (zR r1), some (zI x2), some (zR (some a3)), some (zR (some a4)), some (zI x5), some (zI x6), none, none], [], μ, cn, un) := by
  obtain ⟨p, e, s, m, args, below, meth, c, A, hml, hr, hlk, hnm, rfl⟩ := C
  refine s_iload A dX3_read_29 rfl ?_
  refine s_aload_n A dX3_read_31 rfl ?_
  refine s_getf (k := 9) (j := 1) (sl := true) (v := zI (zi μ 1 1)) A dX3_read_32 rfl zuw_X9 (Nat.le_of_ble_eq_true rfl) zwd130 (by decide) (zk_1 _) rfl ?_
  obtain ⟨oz1, h⟩ := h
  obtain ⟨oz2, h⟩ := h
  refine z_icmp_ge (tgt := 160) A dX3_read_35 (by decide) oz1 oz2 (fun c3 => ?_) (fun c3 => ?_)
  · have h := h.1 c3
    refine s_aload_n A dX3_read_160 rfl ?_
    refine s_bipush A dX3_read_161 rfl ?_
    obtain ⟨ob4, h⟩ := h
    refine s_callV (a := 1) (k := 9) (N := 2) (sl := true) (M := mX9_has) (n := 1) (d := 0) (mc := 0) (ms := 0) (av := [zI 112]) (st := []) A dX3_read_163 rfl (by decide) (zk_1 _) zwd695 zwd696 zwd697 zwd90 zcd_X9_has (Nat.le_of_ble_eq_true rfl) (Nat.le_of_ble_eq_true rfl) (Nat.le_refl _) ob4 ⟨rfl, zhn_X9_has⟩ rfl (Nat.le_of_ble_eq_true rfl) rfl (z_contI (fun v4 μ4 h => ?_) h)
    obtain ⟨oz5, h⟩ := h
    refine z_if_eq (tgt := 178) A dX3_read_166 (by decide) oz5 (fun c6 => ?_) (fun c6 => ?_)
    · have h := h.1 c6
      refine s_aload_n A dX3_read_178 rfl ?_
      refine s_getf (k := 9) (j := 1) (sl := true) (v := zI (zi μ4 1 1)) A dX3_read_179 rfl zuw_X9 (Nat.le_of_ble_eq_true rfl) zwd130 (by decide) (zk_1 _) rfl ?_
      refine s_iconst A dX3_read_182 ?_
      obtain ⟨oz7, h⟩ := h
      obtain ⟨oc8, h⟩ := h
      refine z_mmin A dX3_read_183 zwd699 zwd509 zwd105 zwd510 (Nat.le_of_ble_eq_true rfl) (Nat.le_of_ble_eq_true rfl) oc8 oz7 ⟨by decide, by decide⟩ ?_
      refine s_istore (L' := [some (zR (some 1)), some (zR r1), some (zI x2), some (zR (some a3)), some (zR (some a4)), some (zI x5), some (zI (min (zi μ4 1 1) 1)), none, none]) A dX3_read_186 (Nat.le_of_ble_eq_true rfl) rfl ?_
      obtain ⟨o9, h⟩ := h
      obtain ⟨o9c, h⟩ := h
      refine z_new (k := 3) (N := 3) A dX3_read_188 rfl zuw_X3 tyX3 tyX3_ok zdf_X3 (by decide) zwd700 zwd165 zwd93 o9 o9c.1 o9c.2 (fun b9 μ9 eb9 em9 => ?_)
      have h := h b9 μ9 eb9 em9
      refine s_dup A dX3_read_191 rfl ?_
      refine s_aload_n A dX3_read_192 rfl ?_
      obtain ⟨o10, h⟩ := h
      refine s_getf (k := 8) (j := 3) (sl := false) (v := zR (zr μ9 a3 3)) A dX3_read_193 rfl zuw_X8 (Nat.le_of_ble_eq_true rfl) zwd661 (by decide) o10 rfl ?_
      refine s_aload_n A dX3_read_196 rfl ?_
      obtain ⟨o11, h⟩ := h
      refine s_getf (k := 8) (j := 3) (sl := false) (v := zR (zr μ9 a3 3)) A dX3_read_197 rfl zuw_X8 (Nat.le_of_ble_eq_true rfl) zwd661 (by decide) o11 rfl ?_
      refine s_iconst A dX3_read_200 ?_
      obtain ⟨ob12, h⟩ := h
      refine s_callSN (host := "InkFolds") (M := mX8_longOf) (n := 2) (d := 2 + 20) (mc := 0) (ms := 0) (av := [zR (zr μ9 a3 3), zI 0]) (st := [zR (zr μ9 a3 3), zR (some b9), zR (some b9)]) A dX3_read_201 zwr701 zwd702 zwd108 zcd_X8_longOf (Nat.le_of_ble_eq_true rfl) (Nat.le_of_ble_eq_true rfl) (Nat.le_refl _) ob12 zhn_X8_longOf rfl (Nat.le_of_ble_eq_true rfl) rfl (z_contI (fun v12 μ12 h => ?_) h)
      refine s_iload A dX3_read_204 rfl ?_
      obtain ⟨ob13, h⟩ := h
      refine s_callI (a := b9) (M := mX3_init) (n := 3) (d := 2) (mc := 0) (ms := 0) (av := [zR (zr μ9 a3 3), zI v12, zI (min (zi μ4 1 1) 1)]) (st := [zR (some b9)]) A dX3_read_206 rfl zwd705 zwd167 zwd93 zcd_X3_init rfl (Nat.le_of_ble_eq_true rfl) (Nat.le_of_ble_eq_true rfl) (Nat.le_refl _) ob13 zhn_X3_init rfl (Nat.le_of_ble_eq_true rfl) rfl (z_contV (fun μ13 h => ?_) h)
      obtain ⟨o9, h⟩ := h
      exact s_aret A dX3_read_209 hr (Or.inl ⟨_, rfl⟩) hlk o9.1 o9.2 ⟨_, rfl, h⟩
    · have h := h.2 c6
      refine s_aload_n A dX3_read_169 rfl ?_
      obtain ⟨b14, c14, h⟩ := h
      refine z_eqS (st' := [zR (some b14)]) (by rw [c14] <;> rfl) ?_
      obtain ⟨o15, h⟩ := h
      refine s_getf (k := 3) (j := 2) (sl := false) (v := zI (zi μ4 b14 2)) A dX3_read_170 rfl zuw_X3 (Nat.le_of_ble_eq_true rfl) zwd174 (by decide) o15 rfl ?_
      refine s_iconst A dX3_read_173 ?_
      refine s_iadd A dX3_read_174 ?_
      refine s_goto (tgt := 186) A dX3_read_175 (by decide) ?_
      refine s_istore (L' := [some (zR (some 1)), some (zR r1), some (zI x2), some (zR (some a3)), some (zR (some a4)), some (zI x5), some (zI ((zi μ4 b14 2) + 1)), none, none]) A dX3_read_186 (Nat.le_of_ble_eq_true rfl) rfl ?_
      obtain ⟨o16, h⟩ := h
      obtain ⟨o16c, h⟩ := h
      refine z_new (k := 3) (N := 3) A dX3_read_188 rfl zuw_X3 tyX3 tyX3_ok zdf_X3 (by decide) zwd700 zwd165 zwd93 o16 o16c.1 o16c.2 (fun b16 μ16 eb16 em16 => ?_)
      have h := h b16 μ16 eb16 em16
      refine s_dup A dX3_read_191 rfl ?_
      refine s_aload_n A dX3_read_192 rfl ?_
      obtain ⟨o17, h⟩ := h
      refine s_getf (k := 8) (j := 3) (sl := false) (v := zR (zr μ16 a3 3)) A dX3_read_193 rfl zuw_X8 (Nat.le_of_ble_eq_true rfl) zwd661 (by decide) o17 rfl ?_
      refine s_aload_n A dX3_read_196 rfl ?_
      obtain ⟨o18, h⟩ := h
      refine s_getf (k := 8) (j := 3) (sl := false) (v := zR (zr μ16 a3 3)) A dX3_read_197 rfl zuw_X8 (Nat.le_of_ble_eq_true rfl) zwd661 (by decide) o18 rfl ?_
      refine s_iconst A dX3_read_200 ?_
      obtain ⟨ob19, h⟩ := h
      refine s_callSN (host := "InkFolds") (M := mX8_longOf) (n := 2) (d := 2 + 20) (mc := 0) (ms := 0) (av := [zR (zr μ16 a3 3), zI 0]) (st := [zR (zr μ16 a3 3), zR (some b16), zR (some b16)]) A dX3_read_201 zwr701 zwd702 zwd108 zcd_X8_longOf (Nat.le_of_ble_eq_true rfl) (Nat.le_of_ble_eq_true rfl) (Nat.le_refl _) ob19 zhn_X8_longOf rfl (Nat.le_of_ble_eq_true rfl) rfl (z_contI (fun v19 μ19 h => ?_) h)
      refine s_iload A dX3_read_204 rfl ?_
      obtain ⟨ob20, h⟩ := h
      refine s_callI (a := b16) (M := mX3_init) (n := 3) (d := 2) (mc := 0) (ms := 0) (av := [zR (zr μ16 a3 3), zI v19, zI ((zi μ4 b14 2) + 1)]) (st := [zR (some b16)]) A dX3_read_206 rfl zwd705 zwd167 zwd93 zcd_X3_init rfl (Nat.le_of_ble_eq_true rfl) (Nat.le_of_ble_eq_true rfl) (Nat.le_refl _) ob20 zhn_X3_init rfl (Nat.le_of_ble_eq_true rfl) rfl (z_contV (fun μ20 h => ?_) h)
      obtain ⟨o9, h⟩ := h
      exact s_aret A dX3_read_209 hr (Or.inl ⟨_, rfl⟩) hlk o9.1 o9.2 ⟨_, rfl, h⟩
  · have h := h.2 c3
    refine s_aload_n A dX3_read_38 rfl ?_
    refine s_iload A dX3_read_39 rfl ?_
    obtain ⟨ob21, h⟩ := h
    refine s_callV (a := 1) (k := 9) (N := 2) (sl := true) (M := mX9_at) (n := 1) (d := 0) (mc := 0) (ms := 0) (av := [zI x6]) (st := []) A dX3_read_41 rfl (by decide) (zk_1 _) zwd680 zwd583 zwd584 zwd90 zcd_X9_at (Nat.le_of_ble_eq_true rfl) (Nat.le_of_ble_eq_true rfl) (Nat.le_refl _) ob21 ⟨rfl, zhn_X9_at⟩ rfl (Nat.le_of_ble_eq_true rfl) rfl (z_contI (fun v21 μ21 h => ?_) h)
    refine s_bipush A dX3_read_44 rfl ?_
    obtain ⟨oz22, h⟩ := h
    refine z_icmp_ne (tgt := 62) A dX3_read_46 (by decide) oz22 ⟨by decide, by decide⟩ (fun c23 => ?_) (fun c23 => ?_)
    · have h := h.1 c23
      refine s_aload_n A dX3_read_62 rfl ?_
      refine s_iload A dX3_read_63 rfl ?_
      obtain ⟨ob24, h⟩ := h
      refine s_callV (a := 1) (k := 9) (N := 2) (sl := true) (M := mX9_at) (n := 1) (d := 0) (mc := 0) (ms := 0) (av := [zI x6]) (st := []) A dX3_read_65 rfl (by decide) (zk_1 _) zwd680 zwd583 zwd584 zwd90 zcd_X9_at (Nat.le_of_ble_eq_true rfl) (Nat.le_of_ble_eq_true rfl) (Nat.le_refl _) ob24 ⟨rfl, zhn_X9_at⟩ rfl (Nat.le_of_ble_eq_true rfl) rfl (z_contI (fun v24 μ24 h => ?_) h)
      obtain ⟨ob25, h⟩ := h
      refine s_callS (M := mX9_stepForm) (n := 1) (d := 0) (mc := 0) (ms := 0) (av := [zI v24]) (st := []) A dX3_read_68 zwd682 zwd420 zwd90 zcd_X9_stepForm (Nat.le_of_ble_eq_true rfl) (Nat.le_of_ble_eq_true rfl) (Nat.le_refl _) ob25 zhn_X9_stepForm rfl (Nat.le_of_ble_eq_true rfl) rfl (z_contT (fun v25 μ25 h => ?_) h)
      obtain ⟨t25, ht25, rfl, h⟩ := h
      refine s_astoreT (L' := [some (zR (some 1)), some (zR r1), some (zI x2), some (zR (some a3)), some (zR (some a4)), some (zI x5), some (zI x6), some (zT (60 + t25)), none]) A dX3_read_71 (Nat.le_of_ble_eq_true rfl) rfl ?_
      refine s_aload_n A dX3_read_73 rfl ?_
      refine s_iload A dX3_read_74 rfl ?_
      refine s_aload_n A dX3_read_76 rfl ?_
      refine s_iload_n A dX3_read_77 rfl ?_
      obtain ⟨ob26, h⟩ := h
      refine s_callS (M := mX3_readStep) (n := 4) (d := 10) (mc := 1) (ms := 6) (av := [zR (some 1), zI x6, zR r1, zI x2]) (st := []) A dX3_read_78 zwd683 zwd684 zwd93 zcd_X3_readStep (Nat.le_of_ble_eq_true rfl) (Nat.le_of_ble_eq_true rfl) (Nat.le_refl _) ob26 zhn_X3_readStep rfl (Nat.le_of_ble_eq_true rfl) rfl (z_contR (fun v26 μ26 h => ?_) h)
      refine s_astore (L' := [some (zR (some 1)), some (zR r1), some (zI x2), some (zR (some a3)), some (zR (some a4)), some (zI x5), some (zI x6), some (zT (60 + t25)), some (zR v26)]) A dX3_read_81 (Nat.le_of_ble_eq_true rfl) rfl ?_
      refine s_aload A dX3_read_83 rfl ?_
      obtain ⟨b27, c27, h⟩ := h
      refine z_eqS (st' := [zR (some b27)]) (by rw [c27] <;> rfl) ?_
      obtain ⟨o28, h⟩ := h
      refine s_getf (k := 8) (j := 0) (sl := false) (v := zI (zi μ26 b27 0)) A dX3_read_85 rfl zuw_X8 (Nat.le_of_ble_eq_true rfl) zwd654 (by decide) o28 rfl ?_
      refine s_bipush A dX3_read_88 rfl ?_
      obtain ⟨oz29, h⟩ := h
      refine z_icmp_ne (tgt := 101) A dX3_read_90 (by decide) oz29 ⟨by decide, by decide⟩ (fun c30 => ?_) (fun c30 => ?_)
      · have h := h.1 c30
        refine s_aload A dX3_read_101 rfl ?_
        refine s_iload A dX3_read_103 rfl ?_
        obtain ⟨o31, h⟩ := h
        obtain ⟨ox32, h⟩ := h
        refine z_aald (r := zr μ26 a4 x5) A dX3_read_105 (by decide) o31 (Nat.le_of_ble_eq_true rfl) ox32 (zel_45 _ _ ox32) ?_
        refine s_aload A dX3_read_106 rfl ?_
        obtain ⟨b33, c33, h⟩ := h
        refine z_eqS (st' := [zR v26, zR (some b33)]) (by rw [c33] <;> rfl) ?_
        obtain ⟨o34, h⟩ := h
        obtain ⟨ob35, h⟩ := h
        refine s_callV (a := b33) (k := 8) (N := 6) (sl := false) (M := mX8_append) (n := 1) (d := 0) (mc := 0) (ms := 0) (av := [zR v26]) (st := []) A dX3_read_108 rfl (by decide) o34 zwd690 zwd691 zwd692 zwd108 zcd_X8_append (Nat.le_of_ble_eq_true rfl) (Nat.le_of_ble_eq_true rfl) (Nat.le_refl _) ob35 ⟨rfl, zhn_X8_append⟩ rfl (Nat.le_of_ble_eq_true rfl) rfl (z_contV (fun μ35 h => ?_) h)
        exact h
      · have h := h.2 c30
        refine s_aload A dX3_read_93 rfl ?_
        refine z_eqS (st' := [zR (some b27)]) (by rw [c27] <;> rfl) ?_
        obtain ⟨o36, h⟩ := h
        refine s_getf (k := 8) (j := 3) (sl := false) (v := zR (zr μ26 b27 3)) A dX3_read_95 rfl zuw_X8 (Nat.le_of_ble_eq_true rfl) zwd661 (by decide) o36 rfl ?_
        refine s_ifnull (tgt := 111) A dX3_read_98 (by decide) (fun c37 => ?_) (fun b37 c37 => ?_)
        · have h := h.1 c37
          exact h
        · have h := h.2 b37 c37
          refine s_aload A dX3_read_101 rfl ?_
          refine s_iload A dX3_read_103 rfl ?_
          obtain ⟨o38, h⟩ := h
          obtain ⟨ox39, h⟩ := h
          refine z_aald (r := zr μ26 a4 x5) A dX3_read_105 (by decide) o38 (Nat.le_of_ble_eq_true rfl) ox39 (zel_45 _ _ ox39) ?_
          refine s_aload A dX3_read_106 rfl ?_
          obtain ⟨b40, c40, h⟩ := h
          refine z_eqS (st' := [zR v26, zR (some b40)]) (by rw [c40] <;> rfl) ?_
          obtain ⟨o41, h⟩ := h
          obtain ⟨ob42, h⟩ := h
          refine s_callV (a := b40) (k := 8) (N := 6) (sl := false) (M := mX8_append) (n := 1) (d := 0) (mc := 0) (ms := 0) (av := [zR v26]) (st := []) A dX3_read_108 rfl (by decide) o41 zwd690 zwd691 zwd692 zwd108 zcd_X8_append (Nat.le_of_ble_eq_true rfl) (Nat.le_of_ble_eq_true rfl) (Nat.le_refl _) ob42 ⟨rfl, zhn_X8_append⟩ rfl (Nat.le_of_ble_eq_true rfl) rfl (z_contV (fun μ42 h => ?_) h)
          exact h
    · have h := h.2 c23
      refine s_iconst A dX3_read_49 ?_
      refine s_iload A dX3_read_50 rfl ?_
      refine s_iconst A dX3_read_52 ?_
      refine s_isub A dX3_read_53 ?_
      obtain ⟨oz43, h⟩ := h
      obtain ⟨oc44, h⟩ := h
      refine z_mmax A dX3_read_54 zwd681 zwd506 zwd105 zwd507 (Nat.le_of_ble_eq_true rfl) (Nat.le_of_ble_eq_true rfl) oc44 ⟨by decide, by decide⟩ oz43 ?_
      refine s_istore (L' := [some (zR (some 1)), some (zR r1), some (zI x2), some (zR (some a3)), some (zR (some a4)), some (zI (max 0 (x5 - 1))), some (zI x6), none, none]) A dX3_read_57 (Nat.le_of_ble_eq_true rfl) rfl ?_
      refine s_goto (tgt := 154) A dX3_read_59 (by decide) ?_
      refine s_iinc (L' := [some (zR (some 1)), some (zR r1), some (zI x2), some (zR (some a3)), some (zR (some a4)), some (zI (max 0 (x5 - 1))), some (zI (x6 + 1)), none, none]) A dX3_read_154 rfl rfl ?_
      refine s_goto (tgt := 29) A dX3_read_157 (by decide) ?_
      exact h
set_option maxRecDepth 20000 in
theorem rX3_read_111 {G : zG} {F : Option Nat → zM → Prop} {J : Nat → zS → Prop} {μ : zM} (C : zJ G true (23) 43 253 mX3_read (zKR F) J) (r1 : Option Nat) (x2 : Int) (a3 : Nat) (a4 : Nat) (x5 : Int) (x6 : Int) {t7 : Nat} (ht7 : t7 < 20) (r8 : Option Nat) {cn un : Nat}
    (h : (cn + 0 ≤ 43 ∧ un + 0 ≤ 253) ∧ zin ((((zstx t7).length : Int)) - 1) ∧ (cn + 0 ≤ 43 ∧ un + 0 ≤ 253) ∧ (cn + 0 ≤ 43 ∧ un + 0 ≤ 253) ∧ qX9_at G (x6 + (max 0 ((((zstx t7).length : Int)) - 1))) μ (fun v4 μ4 => zin v4 ∧ ((¬ v4 = 40 → J 29 ([some (zR (some 1)), some (zR r1), some (zI x2), some (zR (some a3)), some (zR (some a4)), some (zI x5), some (zI ((x6 + (max 0 ((((zstx t7).length : Int)) - 1))) + 1)), none, none], [], μ4, cn, un)) ∧ (v4 = 40 → zin x5 ∧ ((3 ≤ x5 → J 29 ([some (zR (some 1)), some (zR r1), some (zI x2), some (zR (some a3)), some (zR (some a4)), some (zI x5), some (zI ((x6 + (max 0 ((((zstx t7).length : Int)) - 1))) + 1)), none, none], [], μ4, cn, un)) ∧ (¬ (3 ≤ x5) → zok true μ4 a4 (45, 4) ∧ (0 ≤ x5 + 1 ∧ x5 + 1 < 4) ∧ ∃ b11, r8 = some b11 ∧ zok true μ4 b11 (8, 6) ∧ J 29 ([some (zR (some 1)), some (zR r1), some (zI x2), some (zR (some a3)), some (zR (some a4)), some (zI (x5 + 1)), some (zI ((x6 + (max 0 ((((zstx t7).length : Int)) - 1))) + 1)), none, none], [], zupr μ4 a4 (x5 + 1) (some b11), cn, un))))))) : J 111 ([some (zR (some 1)), some (zR r1), some (zI x2), some (zR (some a3)), some (zR (some a4)), some (zI x5), some (zI x6), some (zT (60 + t7)), some (zR r8)], [], μ, cn, un) := by
  obtain ⟨p, e, s, m, args, below, meth, c, A, hml, hr, hlk, hnm, rfl⟩ := C
  refine s_iload A dX3_read_111 rfl ?_
  refine s_iconst A dX3_read_113 ?_
  refine s_aloadT A dX3_read_114 rfl ?_
  obtain ⟨oc1, h⟩ := h
  refine s_callVT (M := mJ0_length_8abf5) (n := 0) (d := 2) (mc := 0) (ms := 0) (av := []) (st := [zI 0, zI x6]) A dX3_read_116 ht7 zwx694 zwx406 zwx407 zwx101 zcd_J0_length_8abf5 (Nat.le_of_ble_eq_true rfl) (Nat.le_of_ble_eq_true rfl) (Nat.le_refl _) oc1 ⟨rfl, zhn_J0_length_8abf5⟩ rfl (Nat.le_of_ble_eq_true rfl) rfl (z_contI (fun v9 μ9 hv9 => ?_) (zj_length (F := fun v μ9 => v = ((zstx t7).length : Int) ∧ μ9 = μ) ht7 ⟨rfl, rfl⟩))
  rw [hv9.1, hv9.2]
  refine s_iconst A dX3_read_119 ?_
  refine s_isub A dX3_read_120 ?_
  obtain ⟨oz2, h⟩ := h
  obtain ⟨oc3, h⟩ := h
  refine z_mmax A dX3_read_121 zwd681 zwd506 zwd105 zwd507 (Nat.le_of_ble_eq_true rfl) (Nat.le_of_ble_eq_true rfl) oc3 ⟨by decide, by decide⟩ oz2 ?_
  refine s_iadd A dX3_read_124 ?_
  refine s_istore (L' := [some (zR (some 1)), some (zR r1), some (zI x2), some (zR (some a3)), some (zR (some a4)), some (zI x5), some (zI (x6 + (max 0 ((((zstx t7).length : Int)) - 1)))), some (zT (60 + t7)), some (zR r8)]) A dX3_read_125 (Nat.le_of_ble_eq_true rfl) rfl ?_
  refine s_aload_n A dX3_read_127 rfl ?_
  refine s_iload A dX3_read_128 rfl ?_
  obtain ⟨ob4, h⟩ := h
  refine s_callV (a := 1) (k := 9) (N := 2) (sl := true) (M := mX9_at) (n := 1) (d := 0) (mc := 0) (ms := 0) (av := [zI (x6 + (max 0 ((((zstx t7).length : Int)) - 1)))]) (st := []) A dX3_read_130 rfl (by decide) (zk_1 _) zwd680 zwd583 zwd584 zwd90 zcd_X9_at (Nat.le_of_ble_eq_true rfl) (Nat.le_of_ble_eq_true rfl) (Nat.le_refl _) ob4 ⟨rfl, zhn_X9_at⟩ rfl (Nat.le_of_ble_eq_true rfl) rfl (z_contI (fun v4 μ4 h => ?_) h)
  refine s_bipush A dX3_read_133 rfl ?_
  obtain ⟨oz5, h⟩ := h
  refine z_icmp_ne (tgt := 154) A dX3_read_135 (by decide) oz5 ⟨by decide, by decide⟩ (fun c6 => ?_) (fun c6 => ?_)
  · have h := h.1 c6
    refine s_iinc (L' := [some (zR (some 1)), some (zR r1), some (zI x2), some (zR (some a3)), some (zR (some a4)), some (zI x5), some (zI ((x6 + (max 0 ((((zstx t7).length : Int)) - 1))) + 1)), some (zT (60 + t7)), some (zR r8)]) A dX3_read_154 rfl rfl ?_
    refine s_goto (tgt := 29) A dX3_read_157 (by decide) ?_
    exact z_wk (L' := [some (zR (some 1)), some (zR r1), some (zI x2), some (zR (some a3)), some (zR (some a4)), some (zI x5), some (zI ((x6 + (max 0 ((((zstx t7).length : Int)) - 1))) + 1)), none, none]) ⟨rfl, rfl, rfl, rfl, rfl, rfl, rfl, trivial⟩ h
  · have h := h.2 c6
    refine s_iload A dX3_read_138 rfl ?_
    refine s_iconst A dX3_read_140 ?_
    obtain ⟨oz7, h⟩ := h
    refine z_icmp_ge (tgt := 154) A dX3_read_141 (by decide) oz7 ⟨by decide, by decide⟩ (fun c8 => ?_) (fun c8 => ?_)
    · have h := h.1 c8
      refine s_iinc (L' := [some (zR (some 1)), some (zR r1), some (zI x2), some (zR (some a3)), some (zR (some a4)), some (zI x5), some (zI ((x6 + (max 0 ((((zstx t7).length : Int)) - 1))) + 1)), some (zT (60 + t7)), some (zR r8)]) A dX3_read_154 rfl rfl ?_
      refine s_goto (tgt := 29) A dX3_read_157 (by decide) ?_
      exact z_wk (L' := [some (zR (some 1)), some (zR r1), some (zI x2), some (zR (some a3)), some (zR (some a4)), some (zI x5), some (zI ((x6 + (max 0 ((((zstx t7).length : Int)) - 1))) + 1)), none, none]) ⟨rfl, rfl, rfl, rfl, rfl, rfl, rfl, trivial⟩ h
    · have h := h.2 c8
      refine s_iinc (L' := [some (zR (some 1)), some (zR r1), some (zI x2), some (zR (some a3)), some (zR (some a4)), some (zI (x5 + 1)), some (zI (x6 + (max 0 ((((zstx t7).length : Int)) - 1)))), some (zT (60 + t7)), some (zR r8)]) A dX3_read_144 rfl rfl ?_
      refine s_aload A dX3_read_147 rfl ?_
      refine s_iload A dX3_read_149 rfl ?_
      refine s_aload A dX3_read_151 rfl ?_
      obtain ⟨o9, h⟩ := h
      obtain ⟨ox10, h⟩ := h
      obtain ⟨b11, c11, h⟩ := h
      refine z_eqS (st' := [zR (some b11), zI (x5 + 1), zR (some a4)]) (by rw [c11] <;> rfl) ?_
      obtain ⟨o12, h⟩ := h
      refine z_aastT (sl := false) A dX3_read_153 o9 (Nat.le_of_ble_eq_true rfl) ox10 o12 ?_
      refine s_iinc (L' := [some (zR (some 1)), some (zR r1), some (zI x2), some (zR (some a3)), some (zR (some a4)), some (zI (x5 + 1)), some (zI ((x6 + (max 0 ((((zstx t7).length : Int)) - 1))) + 1)), some (zT (60 + t7)), some (zR r8)]) A dX3_read_154 rfl rfl ?_
      refine s_goto (tgt := 29) A dX3_read_157 (by decide) ?_
      exact z_wk (L' := [some (zR (some 1)), some (zR r1), some (zI x2), some (zR (some a3)), some (zR (some a4)), some (zI (x5 + 1)), some (zI ((x6 + (max 0 ((((zstx t7).length : Int)) - 1))) + 1)), none, none]) ⟨rfl, rfl, rfl, rfl, rfl, rfl, rfl, trivial⟩ h
theorem eX3_read {G : zG} {F : Option Nat → zM → Prop} {μ : zM} {r1 : Option Nat} {x2 : Int} (h : ∀ J, zJ G true (23) 43 253 mX3_read (zKR F) J → J 0 ([some (zR (some 1)), some (zR r1), some (zI x2), none, none, none, none, none, none], [], μ, 0, 0)) : qX3_read G r1 x2 μ F :=
  z_body (by decide +kernel) (Nat.le_of_ble_eq_true rfl) h
set_option maxRecDepth 20000 in
theorem rX10_patches_e {G : zG} {F : Int → zM → Prop} {J : Nat → zS → Prop} {μ : zM} (C : zJ G true (11) 0 0 mX10_patches (zKI F) J) 
    (h : qX9_wrongAt G 0 80 μ (fun v1 μ1 => zin v1 ∧ ((v1 < 0 → qX1_draft G 5 μ1 (fun μ4 => J 36 ([some (zR (some 0)), none, some (zI 0), some (zI 0)], [], μ4, 0, 0))) ∧ (¬ (v1 < 0) → qX10_refusedText G v1 μ1 (fun v5 μ5 => F v5 μ5))))) : J 0 ([some (zR (some 0)), none, none, none], [], μ, 0, 0) := by
  obtain ⟨p, e, s, m, args, below, meth, c, A, hml, hr, hlk, hnm, rfl⟩ := C
  refine s_aload_n A dX10_patches_0 rfl ?_
  refine s_getf (k := 10) (j := 0) (sl := true) (v := zR (some 1)) A dX10_patches_1 rfl zuw_X10 (Nat.le_of_ble_eq_true rfl) zwd338 (by decide) (zk_0 _) rfl ?_
  refine s_iconst A dX10_patches_4 ?_
  refine s_bipush A dX10_patches_5 rfl ?_
  refine s_callV (a := 1) (k := 9) (N := 2) (sl := true) (M := mX9_wrongAt) (n := 2) (d := 10) (mc := 0) (ms := 0) (av := [zI 0, zI 80]) (st := []) A dX10_patches_7 rfl (by decide) (zk_1 _) zwd400 zwd401 zwd402 zwd90 zcd_X9_wrongAt (Nat.le_of_ble_eq_true rfl) (Nat.le_of_ble_eq_true rfl) (Nat.le_refl _) ⟨Nat.le_of_ble_eq_true rfl, Nat.le_of_ble_eq_true rfl⟩ ⟨rfl, zhn_X9_wrongAt⟩ rfl (Nat.le_of_ble_eq_true rfl) rfl (z_contI (fun v1 μ1 h => ?_) h)
  refine s_istore_n (L' := [some (zR (some 0)), some (zI v1), none, none]) A dX10_patches_10 (Nat.le_of_ble_eq_true rfl) rfl ?_
  refine s_iload_n A dX10_patches_11 rfl ?_
  obtain ⟨oz2, h⟩ := h
  refine z_if_lt (tgt := 21) A dX10_patches_12 (by decide) oz2 (fun c3 => ?_) (fun c3 => ?_)
  · have h := h.1 c3
    refine s_aload_n A dX10_patches_21 rfl ?_
    refine s_getf (k := 10) (j := 3) (sl := true) (v := zR (some 13)) A dX10_patches_22 rfl zuw_X10 (Nat.le_of_ble_eq_true rfl) zwd341 (by decide) (zk_0 _) rfl ?_
    refine s_aload_n A dX10_patches_25 rfl ?_
    refine s_getf (k := 10) (j := 2) (sl := true) (v := zR (some 5)) A dX10_patches_26 rfl zuw_X10 (Nat.le_of_ble_eq_true rfl) zwd340 (by decide) (zk_0 _) rfl ?_
    refine s_callV (a := 13) (k := 1) (N := 3) (sl := true) (M := mX1_draft) (n := 1) (d := 3) (mc := 0) (ms := 0) (av := [zR (some 5)]) (st := []) A dX10_patches_29 rfl (by decide) (zk_13 _) zwd553 zwd554 zwd555 zwd94 zcd_X1_draft (Nat.le_of_ble_eq_true rfl) (Nat.le_of_ble_eq_true rfl) (Nat.le_refl _) ⟨Nat.le_of_ble_eq_true rfl, Nat.le_of_ble_eq_true rfl⟩ ⟨rfl, zhn_X1_draft⟩ rfl (Nat.le_of_ble_eq_true rfl) rfl (z_contV (fun μ4 h => ?_) h)
    refine s_iconst A dX10_patches_32 ?_
    refine s_istore_n (L' := [some (zR (some 0)), some (zI v1), some (zI 0), none]) A dX10_patches_33 (Nat.le_of_ble_eq_true rfl) rfl ?_
    refine s_iconst A dX10_patches_34 ?_
    refine s_istore_n (L' := [some (zR (some 0)), some (zI v1), some (zI 0), some (zI 0)]) A dX10_patches_35 (Nat.le_of_ble_eq_true rfl) rfl ?_
    exact z_wk (L' := [some (zR (some 0)), none, some (zI 0), some (zI 0)]) ⟨rfl, rfl, rfl, trivial⟩ h
  · have h := h.2 c3
    refine s_aload_n A dX10_patches_15 rfl ?_
    refine s_iload_n A dX10_patches_16 rfl ?_
    refine s_callV (a := 0) (k := 10) (N := 15) (sl := true) (M := mX10_refusedText) (n := 1) (d := 0) (mc := 0) (ms := 0) (av := [zI v1]) (st := []) A dX10_patches_17 rfl (by decide) (zk_0 _) zwd549 zwd551 zwd0 zwd89 zcd_X10_refusedText (Nat.le_of_ble_eq_true rfl) (Nat.le_of_ble_eq_true rfl) (Nat.le_refl _) ⟨Nat.le_of_ble_eq_true rfl, Nat.le_of_ble_eq_true rfl⟩ ⟨rfl, zhn_X10_refusedText⟩ rfl (Nat.le_of_ble_eq_true rfl) rfl (z_contI (fun v5 μ5 h => ?_) h)
    exact s_iret A dX10_patches_20 hr hlk (Nat.le_of_ble_eq_true rfl) (Nat.le_of_ble_eq_true rfl) ⟨_, rfl, h⟩
set_option maxRecDepth 20000 in
theorem rX10_patches_36 {G : zG} {F : Int → zM → Prop} {J : Nat → zS → Prop} {μ : zM} (C : zJ G true (11) 0 0 mX10_patches (zKI F) J) (x2 : Int) (x3 : Int)
    (h : zin (x3 + (((zstx 19).length : Int))) ∧ zin (zi μ 1 1) ∧ ((zi μ 1 1 < x3 + (((zstx 19).length : Int)) → qX10_settled G x2 (zup μ 1 1 0) (fun v4 μ4 => F v4 μ4)) ∧ (¬ (zi μ 1 1 < x3 + (((zstx 19).length : Int))) → qX10_tellPatchAt G x3 μ (fun v5 μ5 => J 36 ([some (zR (some 0)), none, some (zI (x2 + 1)), some (zI (x3 + (((zstx 19).length : Int))))], [], μ5, 0, 0))))) : J 36 ([some (zR (some 0)), none, some (zI x2), some (zI x3)], [], μ, 0, 0) := by
  obtain ⟨p, e, s, m, args, below, meth, c, A, hml, hr, hlk, hnm, rfl⟩ := C
  refine s_iload_n A dX10_patches_36 rfl ?_
  refine z_ldcT (i := 19) A dX10_patches_37 (by decide) rfl rfl ?_
  refine s_callVT (M := mJ0_length_8abf5) (n := 0) (d := 2) (mc := 0) (ms := 0) (av := []) (st := [zI x3]) A dX10_patches_39 (by decide) zwx569 zwx406 zwx407 zwx101 zcd_J0_length_8abf5 (Nat.le_of_ble_eq_true rfl) (Nat.le_of_ble_eq_true rfl) (Nat.le_refl _) ⟨Nat.le_of_ble_eq_true rfl, Nat.le_of_ble_eq_true rfl⟩ ⟨rfl, zhn_J0_length_8abf5⟩ rfl (Nat.le_of_ble_eq_true rfl) rfl (z_contI (fun v9 μ9 hv9 => ?_) (zj_length (F := fun v μ9 => v = ((zstx 19).length : Int) ∧ μ9 = μ) (by decide) ⟨rfl, rfl⟩))
  rw [hv9.1, hv9.2]
  refine s_iadd A dX10_patches_42 ?_
  refine s_aload_n A dX10_patches_43 rfl ?_
  refine s_getf (k := 10) (j := 0) (sl := true) (v := zR (some 1)) A dX10_patches_44 rfl zuw_X10 (Nat.le_of_ble_eq_true rfl) zwd338 (by decide) (zk_0 _) rfl ?_
  refine s_getf (k := 9) (j := 1) (sl := true) (v := zI (zi μ 1 1)) A dX10_patches_47 rfl zuw_X9 (Nat.le_of_ble_eq_true rfl) zwd129 (by decide) (zk_1 _) rfl ?_
  obtain ⟨oz1, h⟩ := h
  obtain ⟨oz2, h⟩ := h
  refine z_icmp_gt (tgt := 73) A dX10_patches_50 (by decide) oz1 oz2 (fun c3 => ?_) (fun c3 => ?_)
  · have h := h.1 c3
    refine s_aload_n A dX10_patches_73 rfl ?_
    refine s_getf (k := 10) (j := 0) (sl := true) (v := zR (some 1)) A dX10_patches_74 rfl zuw_X10 (Nat.le_of_ble_eq_true rfl) zwd338 (by decide) (zk_0 _) rfl ?_
    refine s_iconst A dX10_patches_77 ?_
    refine z_putI (k := 9) (j := 1) (sl := true) A dX10_patches_78 rfl zuw_X9 (Nat.le_of_ble_eq_true rfl) zwd129 (by decide) (zk_1 _) tyX9 tyX9_ok nmX9 rfl rfl rfl ?_
    refine s_aload_n A dX10_patches_81 rfl ?_
    refine s_iload_n A dX10_patches_82 rfl ?_
    refine s_callV (a := 0) (k := 10) (N := 15) (sl := true) (M := mX10_settled) (n := 1) (d := 2) (mc := 0) (ms := 0) (av := [zI x2]) (st := []) A dX10_patches_83 rfl (by decide) (zk_0 _) zwd612 zwd614 zwd3 zwd89 zcd_X10_settled (Nat.le_of_ble_eq_true rfl) (Nat.le_of_ble_eq_true rfl) (Nat.le_refl _) ⟨Nat.le_of_ble_eq_true rfl, Nat.le_of_ble_eq_true rfl⟩ ⟨rfl, zhn_X10_settled⟩ rfl (Nat.le_of_ble_eq_true rfl) rfl (z_contI (fun v4 μ4 h => ?_) h)
    exact s_iret A dX10_patches_86 hr hlk (Nat.le_of_ble_eq_true rfl) (Nat.le_of_ble_eq_true rfl) ⟨_, rfl, h⟩
  · have h := h.2 c3
    refine s_aload_n A dX10_patches_53 rfl ?_
    refine s_iload_n A dX10_patches_54 rfl ?_
    refine s_callV (a := 0) (k := 10) (N := 15) (sl := true) (M := mX10_tellPatchAt) (n := 1) (d := 4) (mc := 0) (ms := 0) (av := [zI x3]) (st := []) A dX10_patches_55 rfl (by decide) (zk_0 _) zwd570 zwd572 zwd2 zwd89 zcd_X10_tellPatchAt (Nat.le_of_ble_eq_true rfl) (Nat.le_of_ble_eq_true rfl) (Nat.le_refl _) ⟨Nat.le_of_ble_eq_true rfl, Nat.le_of_ble_eq_true rfl⟩ ⟨rfl, zhn_X10_tellPatchAt⟩ rfl (Nat.le_of_ble_eq_true rfl) rfl (z_contI (fun v5 μ5 h => ?_) h)
    refine s_pop A dX10_patches_58 rfl ?_
    refine s_iinc (L' := [some (zR (some 0)), none, some (zI (x2 + 1)), some (zI x3)]) A dX10_patches_59 rfl rfl ?_
    refine s_iload_n A dX10_patches_62 rfl ?_
    refine z_ldcT (i := 19) A dX10_patches_63 (by decide) rfl rfl ?_
    refine s_callVT (M := mJ0_length_8abf5) (n := 0) (d := 2) (mc := 0) (ms := 0) (av := []) (st := [zI x3]) A dX10_patches_65 (by decide) zwx569 zwx406 zwx407 zwx101 zcd_J0_length_8abf5 (Nat.le_of_ble_eq_true rfl) (Nat.le_of_ble_eq_true rfl) (Nat.le_refl _) ⟨Nat.le_of_ble_eq_true rfl, Nat.le_of_ble_eq_true rfl⟩ ⟨rfl, zhn_J0_length_8abf5⟩ rfl (Nat.le_of_ble_eq_true rfl) rfl (z_contI (fun v9 μ9 hv9 => ?_) (zj_length (F := fun v μ9 => v = ((zstx 19).length : Int) ∧ μ9 = μ5) (by decide) ⟨rfl, rfl⟩))
    rw [hv9.1, hv9.2]
    refine s_iadd A dX10_patches_68 ?_
    refine s_istore_n (L' := [some (zR (some 0)), none, some (zI (x2 + 1)), some (zI (x3 + (((zstx 19).length : Int))))]) A dX10_patches_69 (Nat.le_of_ble_eq_true rfl) rfl ?_
    refine s_goto (tgt := 36) A dX10_patches_70 (by decide) ?_
    exact h
theorem eX10_patches {G : zG} {F : Int → zM → Prop} {μ : zM}  (h : ∀ J, zJ G true (11) 0 0 mX10_patches (zKI F) J → J 0 ([some (zR (some 0)), none, none, none], [], μ, 0, 0)) : qX10_patches G  μ F :=
  z_body (by decide +kernel) (Nat.le_of_ble_eq_true rfl) h
set_option maxRecDepth 20000 in
theorem rX10_day_e {G : zG} {F : Int → zM → Prop} {J : Nat → zS → Prop} {μ : zM} (C : zJ G true (11) 0 0 mX10_day (zKI F) J) 
    (h : qX9_wrongAt G 2 60 μ (fun v1 μ1 => zin v1 ∧ ((v1 < 0 → qX1_draft G 5 μ1 (fun μ4 => J 39 ([some (zR (some 0)), none, some (zI 0), some (zI 0), some (zI 0)], [], μ4, 0, 0))) ∧ (¬ (v1 < 0) → qX10_refusedText G v1 μ1 (fun v5 μ5 => F v5 μ5))))) : J 0 ([some (zR (some 0)), none, none, none, none], [], μ, 0, 0) := by
  obtain ⟨p, e, s, m, args, below, meth, c, A, hml, hr, hlk, hnm, rfl⟩ := C
  refine s_aload_n A dX10_day_0 rfl ?_
  refine s_getf (k := 10) (j := 0) (sl := true) (v := zR (some 1)) A dX10_day_1 rfl zuw_X10 (Nat.le_of_ble_eq_true rfl) zwd338 (by decide) (zk_0 _) rfl ?_
  refine s_iconst A dX10_day_4 ?_
  refine s_bipush A dX10_day_5 rfl ?_
  refine s_callV (a := 1) (k := 9) (N := 2) (sl := true) (M := mX9_wrongAt) (n := 2) (d := 10) (mc := 0) (ms := 0) (av := [zI 2, zI 60]) (st := []) A dX10_day_7 rfl (by decide) (zk_1 _) zwd400 zwd401 zwd402 zwd90 zcd_X9_wrongAt (Nat.le_of_ble_eq_true rfl) (Nat.le_of_ble_eq_true rfl) (Nat.le_refl _) ⟨Nat.le_of_ble_eq_true rfl, Nat.le_of_ble_eq_true rfl⟩ ⟨rfl, zhn_X9_wrongAt⟩ rfl (Nat.le_of_ble_eq_true rfl) rfl (z_contI (fun v1 μ1 h => ?_) h)
  refine s_istore_n (L' := [some (zR (some 0)), some (zI v1), none, none, none]) A dX10_day_10 (Nat.le_of_ble_eq_true rfl) rfl ?_
  refine s_iload_n A dX10_day_11 rfl ?_
  obtain ⟨oz2, h⟩ := h
  refine z_if_lt (tgt := 21) A dX10_day_12 (by decide) oz2 (fun c3 => ?_) (fun c3 => ?_)
  · have h := h.1 c3
    refine s_aload_n A dX10_day_21 rfl ?_
    refine s_getf (k := 10) (j := 3) (sl := true) (v := zR (some 13)) A dX10_day_22 rfl zuw_X10 (Nat.le_of_ble_eq_true rfl) zwd341 (by decide) (zk_0 _) rfl ?_
    refine s_aload_n A dX10_day_25 rfl ?_
    refine s_getf (k := 10) (j := 2) (sl := true) (v := zR (some 5)) A dX10_day_26 rfl zuw_X10 (Nat.le_of_ble_eq_true rfl) zwd340 (by decide) (zk_0 _) rfl ?_
    refine s_callV (a := 13) (k := 1) (N := 3) (sl := true) (M := mX1_draft) (n := 1) (d := 3) (mc := 0) (ms := 0) (av := [zR (some 5)]) (st := []) A dX10_day_29 rfl (by decide) (zk_13 _) zwd553 zwd554 zwd555 zwd94 zcd_X1_draft (Nat.le_of_ble_eq_true rfl) (Nat.le_of_ble_eq_true rfl) (Nat.le_refl _) ⟨Nat.le_of_ble_eq_true rfl, Nat.le_of_ble_eq_true rfl⟩ ⟨rfl, zhn_X1_draft⟩ rfl (Nat.le_of_ble_eq_true rfl) rfl (z_contV (fun μ4 h => ?_) h)
    refine s_iconst A dX10_day_32 ?_
    refine s_istore_n (L' := [some (zR (some 0)), some (zI v1), some (zI 0), none, none]) A dX10_day_33 (Nat.le_of_ble_eq_true rfl) rfl ?_
    refine s_iconst A dX10_day_34 ?_
    refine s_istore_n (L' := [some (zR (some 0)), some (zI v1), some (zI 0), some (zI 0), none]) A dX10_day_35 (Nat.le_of_ble_eq_true rfl) rfl ?_
    refine s_iconst A dX10_day_36 ?_
    refine s_istore (L' := [some (zR (some 0)), some (zI v1), some (zI 0), some (zI 0), some (zI 0)]) A dX10_day_37 (Nat.le_of_ble_eq_true rfl) rfl ?_
    exact z_wk (L' := [some (zR (some 0)), none, some (zI 0), some (zI 0), some (zI 0)]) ⟨rfl, rfl, rfl, rfl, trivial⟩ h
  · have h := h.2 c3
    refine s_aload_n A dX10_day_15 rfl ?_
    refine s_iload_n A dX10_day_16 rfl ?_
    refine s_callV (a := 0) (k := 10) (N := 15) (sl := true) (M := mX10_refusedText) (n := 1) (d := 0) (mc := 0) (ms := 0) (av := [zI v1]) (st := []) A dX10_day_17 rfl (by decide) (zk_0 _) zwd549 zwd551 zwd0 zwd89 zcd_X10_refusedText (Nat.le_of_ble_eq_true rfl) (Nat.le_of_ble_eq_true rfl) (Nat.le_refl _) ⟨Nat.le_of_ble_eq_true rfl, Nat.le_of_ble_eq_true rfl⟩ ⟨rfl, zhn_X10_refusedText⟩ rfl (Nat.le_of_ble_eq_true rfl) rfl (z_contI (fun v5 μ5 h => ?_) h)
    exact s_iret A dX10_day_20 hr hlk (Nat.le_of_ble_eq_true rfl) (Nat.le_of_ble_eq_true rfl) ⟨_, rfl, h⟩
set_option maxRecDepth 20000 in
theorem rX10_day_39 {G : zG} {F : Int → zM → Prop} {J : Nat → zS → Prop} {μ : zM} (C : zJ G true (11) 0 0 mX10_day (zKI F) J) (x2 : Int) (x3 : Int) (x4 : Int)
    (h : zin x4 ∧ zin (zi μ 1 1) ∧ ((zi μ 1 1 ≤ x4 → J 104 ([some (zR (some 0)), none, some (zI x2), some (zI x3), none], [], μ, 0, 0)) ∧ (¬ (zi μ 1 1 ≤ x4) → zin x3 ∧ ((¬ x3 = 0 → J 104 ([some (zR (some 0)), none, some (zI x2), some (zI x3), none], [], μ, 0, 0)) ∧ (x3 = 0 → qX10_doAct G x4 μ (fun v6 μ6 => zin v6 ∧ ((0 ≤ v6 → qX9_at G x4 μ6 (fun v9 μ9 => qX9_actForm G v9 μ9 (fun v10 μ10 => ∃ t10, t10 < 20 ∧ v10 = 60 + t10 ∧ zin ((((zstx t10).length : Int)) - 1) ∧ J 39 ([some (zR (some 0)), none, some (zI (x2 + 1)), some (zI x3), some (zI ((x4 + (max 0 ((((zstx t10).length : Int)) - 1))) + 1))], [], μ10, 0, 0)))) ∧ (¬ (0 ≤ v6) → qX9_at G x4 μ6 (fun v12 μ12 => qX9_actForm G v12 μ12 (fun v13 μ13 => ∃ t13, t13 < 20 ∧ v13 = 60 + t13 ∧ zin ((((zstx t13).length : Int)) - 1) ∧ J 39 ([some (zR (some 0)), none, some (zI x2), some (zI 1), some (zI ((x4 + (max 0 ((((zstx t13).length : Int)) - 1))) + 1))], [], μ13, 0, 0))))))))))) : J 39 ([some (zR (some 0)), none, some (zI x2), some (zI x3), some (zI x4)], [], μ, 0, 0) := by
  obtain ⟨p, e, s, m, args, below, meth, c, A, hml, hr, hlk, hnm, rfl⟩ := C
  refine s_iload A dX10_day_39 rfl ?_
  refine s_aload_n A dX10_day_41 rfl ?_
  refine s_getf (k := 10) (j := 0) (sl := true) (v := zR (some 1)) A dX10_day_42 rfl zuw_X10 (Nat.le_of_ble_eq_true rfl) zwd338 (by decide) (zk_0 _) rfl ?_
  refine s_getf (k := 9) (j := 1) (sl := true) (v := zI (zi μ 1 1)) A dX10_day_45 rfl zuw_X9 (Nat.le_of_ble_eq_true rfl) zwd129 (by decide) (zk_1 _) rfl ?_
  obtain ⟨oz1, h⟩ := h
  obtain ⟨oz2, h⟩ := h
  refine z_icmp_ge (tgt := 104) A dX10_day_48 (by decide) oz1 oz2 (fun c3 => ?_) (fun c3 => ?_)
  · have h := h.1 c3
    exact z_wk (L' := [some (zR (some 0)), none, some (zI x2), some (zI x3), none]) ⟨rfl, rfl, rfl, trivial⟩ h
  · have h := h.2 c3
    refine s_iload_n A dX10_day_51 rfl ?_
    obtain ⟨oz4, h⟩ := h
    refine z_if_ne (tgt := 104) A dX10_day_52 (by decide) oz4 (fun c5 => ?_) (fun c5 => ?_)
    · have h := h.1 c5
      exact z_wk (L' := [some (zR (some 0)), none, some (zI x2), some (zI x3), none]) ⟨rfl, rfl, rfl, trivial⟩ h
    · have h := h.2 c5
      refine s_aload_n A dX10_day_55 rfl ?_
      refine s_iload A dX10_day_56 rfl ?_
      refine s_callV (a := 0) (k := 10) (N := 15) (sl := true) (M := mX10_doAct) (n := 1) (d := 5) (mc := 0) (ms := 0) (av := [zI x4]) (st := []) A dX10_day_58 rfl (by decide) (zk_0 _) zwd780 zwd782 zwd4 zwd89 zcd_X10_doAct (Nat.le_of_ble_eq_true rfl) (Nat.le_of_ble_eq_true rfl) (Nat.le_refl _) ⟨Nat.le_of_ble_eq_true rfl, Nat.le_of_ble_eq_true rfl⟩ ⟨rfl, zhn_X10_doAct⟩ rfl (Nat.le_of_ble_eq_true rfl) rfl (z_contI (fun v6 μ6 h => ?_) h)
      obtain ⟨oz7, h⟩ := h
      refine z_if_ge (tgt := 69) A dX10_day_61 (by decide) oz7 (fun c8 => ?_) (fun c8 => ?_)
      · have h := h.1 c8
        refine s_iinc (L' := [some (zR (some 0)), none, some (zI (x2 + 1)), some (zI x3), some (zI x4)]) A dX10_day_69 rfl rfl ?_
        refine s_iload A dX10_day_72 rfl ?_
        refine s_iconst A dX10_day_74 ?_
        refine s_aload_n A dX10_day_75 rfl ?_
        refine s_getf (k := 10) (j := 0) (sl := true) (v := zR (some 1)) A dX10_day_76 rfl zuw_X10 (Nat.le_of_ble_eq_true rfl) zwd338 (by decide) (zk_0 _) rfl ?_
        refine s_iload A dX10_day_79 rfl ?_
        refine s_callV (a := 1) (k := 9) (N := 2) (sl := true) (M := mX9_at) (n := 1) (d := 0) (mc := 0) (ms := 0) (av := [zI x4]) (st := [zI 0, zI x4]) A dX10_day_81 rfl (by decide) (zk_1 _) zwd784 zwd583 zwd584 zwd90 zcd_X9_at (Nat.le_of_ble_eq_true rfl) (Nat.le_of_ble_eq_true rfl) (Nat.le_refl _) ⟨Nat.le_of_ble_eq_true rfl, Nat.le_of_ble_eq_true rfl⟩ ⟨rfl, zhn_X9_at⟩ rfl (Nat.le_of_ble_eq_true rfl) rfl (z_contI (fun v9 μ9 h => ?_) h)
        refine s_callS (M := mX9_actForm) (n := 1) (d := 0) (mc := 0) (ms := 0) (av := [zI v9]) (st := [zI 0, zI x4]) A dX10_day_84 zwd785 zwd433 zwd90 zcd_X9_actForm (Nat.le_of_ble_eq_true rfl) (Nat.le_of_ble_eq_true rfl) (Nat.le_refl _) ⟨Nat.le_of_ble_eq_true rfl, Nat.le_of_ble_eq_true rfl⟩ zhn_X9_actForm rfl (Nat.le_of_ble_eq_true rfl) rfl (z_contT (fun v10 μ10 h => ?_) h)
        obtain ⟨t10, ht10, rfl, h⟩ := h
        refine s_callVT (M := mJ0_length_8abf5) (n := 0) (d := 2) (mc := 0) (ms := 0) (av := []) (st := [zI 0, zI x4]) A dX10_day_87 ht10 zwx569 zwx406 zwx407 zwx101 zcd_J0_length_8abf5 (Nat.le_of_ble_eq_true rfl) (Nat.le_of_ble_eq_true rfl) (Nat.le_refl _) ⟨Nat.le_of_ble_eq_true rfl, Nat.le_of_ble_eq_true rfl⟩ ⟨rfl, zhn_J0_length_8abf5⟩ rfl (Nat.le_of_ble_eq_true rfl) rfl (z_contI (fun v9 μ9 hv9 => ?_) (zj_length (F := fun v μ9 => v = ((zstx t10).length : Int) ∧ μ9 = μ10) ht10 ⟨rfl, rfl⟩))
        rw [hv9.1, hv9.2]
        refine s_iconst A dX10_day_90 ?_
        refine s_isub A dX10_day_91 ?_
        obtain ⟨oz11, h⟩ := h
        refine z_mmax A dX10_day_92 zwd736 zwd506 zwd105 zwd507 (Nat.le_of_ble_eq_true rfl) (Nat.le_of_ble_eq_true rfl) ⟨Nat.le_of_ble_eq_true rfl, Nat.le_of_ble_eq_true rfl⟩ ⟨by decide, by decide⟩ oz11 ?_
        refine s_iadd A dX10_day_95 ?_
        refine s_istore (L' := [some (zR (some 0)), none, some (zI (x2 + 1)), some (zI x3), some (zI (x4 + (max 0 ((((zstx t10).length : Int)) - 1))))]) A dX10_day_96 (Nat.le_of_ble_eq_true rfl) rfl ?_
        refine s_iinc (L' := [some (zR (some 0)), none, some (zI (x2 + 1)), some (zI x3), some (zI ((x4 + (max 0 ((((zstx t10).length : Int)) - 1))) + 1))]) A dX10_day_98 rfl rfl ?_
        refine s_goto (tgt := 39) A dX10_day_101 (by decide) ?_
        exact h
      · have h := h.2 c8
        refine s_iconst A dX10_day_64 ?_
        refine s_istore_n (L' := [some (zR (some 0)), none, some (zI x2), some (zI 1), some (zI x4)]) A dX10_day_65 (Nat.le_of_ble_eq_true rfl) rfl ?_
        refine s_goto (tgt := 72) A dX10_day_66 (by decide) ?_
        refine s_iload A dX10_day_72 rfl ?_
        refine s_iconst A dX10_day_74 ?_
        refine s_aload_n A dX10_day_75 rfl ?_
        refine s_getf (k := 10) (j := 0) (sl := true) (v := zR (some 1)) A dX10_day_76 rfl zuw_X10 (Nat.le_of_ble_eq_true rfl) zwd338 (by decide) (zk_0 _) rfl ?_
        refine s_iload A dX10_day_79 rfl ?_
        refine s_callV (a := 1) (k := 9) (N := 2) (sl := true) (M := mX9_at) (n := 1) (d := 0) (mc := 0) (ms := 0) (av := [zI x4]) (st := [zI 0, zI x4]) A dX10_day_81 rfl (by decide) (zk_1 _) zwd784 zwd583 zwd584 zwd90 zcd_X9_at (Nat.le_of_ble_eq_true rfl) (Nat.le_of_ble_eq_true rfl) (Nat.le_refl _) ⟨Nat.le_of_ble_eq_true rfl, Nat.le_of_ble_eq_true rfl⟩ ⟨rfl, zhn_X9_at⟩ rfl (Nat.le_of_ble_eq_true rfl) rfl (z_contI (fun v12 μ12 h => ?_) h)
        refine s_callS (M := mX9_actForm) (n := 1) (d := 0) (mc := 0) (ms := 0) (av := [zI v12]) (st := [zI 0, zI x4]) A dX10_day_84 zwd785 zwd433 zwd90 zcd_X9_actForm (Nat.le_of_ble_eq_true rfl) (Nat.le_of_ble_eq_true rfl) (Nat.le_refl _) ⟨Nat.le_of_ble_eq_true rfl, Nat.le_of_ble_eq_true rfl⟩ zhn_X9_actForm rfl (Nat.le_of_ble_eq_true rfl) rfl (z_contT (fun v13 μ13 h => ?_) h)
        obtain ⟨t13, ht13, rfl, h⟩ := h
        refine s_callVT (M := mJ0_length_8abf5) (n := 0) (d := 2) (mc := 0) (ms := 0) (av := []) (st := [zI 0, zI x4]) A dX10_day_87 ht13 zwx569 zwx406 zwx407 zwx101 zcd_J0_length_8abf5 (Nat.le_of_ble_eq_true rfl) (Nat.le_of_ble_eq_true rfl) (Nat.le_refl _) ⟨Nat.le_of_ble_eq_true rfl, Nat.le_of_ble_eq_true rfl⟩ ⟨rfl, zhn_J0_length_8abf5⟩ rfl (Nat.le_of_ble_eq_true rfl) rfl (z_contI (fun v9 μ9 hv9 => ?_) (zj_length (F := fun v μ9 => v = ((zstx t13).length : Int) ∧ μ9 = μ13) ht13 ⟨rfl, rfl⟩))
        rw [hv9.1, hv9.2]
        refine s_iconst A dX10_day_90 ?_
        refine s_isub A dX10_day_91 ?_
        obtain ⟨oz14, h⟩ := h
        refine z_mmax A dX10_day_92 zwd736 zwd506 zwd105 zwd507 (Nat.le_of_ble_eq_true rfl) (Nat.le_of_ble_eq_true rfl) ⟨Nat.le_of_ble_eq_true rfl, Nat.le_of_ble_eq_true rfl⟩ ⟨by decide, by decide⟩ oz14 ?_
        refine s_iadd A dX10_day_95 ?_
        refine s_istore (L' := [some (zR (some 0)), none, some (zI x2), some (zI 1), some (zI (x4 + (max 0 ((((zstx t13).length : Int)) - 1))))]) A dX10_day_96 (Nat.le_of_ble_eq_true rfl) rfl ?_
        refine s_iinc (L' := [some (zR (some 0)), none, some (zI x2), some (zI 1), some (zI ((x4 + (max 0 ((((zstx t13).length : Int)) - 1))) + 1))]) A dX10_day_98 rfl rfl ?_
        refine s_goto (tgt := 39) A dX10_day_101 (by decide) ?_
        exact h
set_option maxRecDepth 20000 in
theorem rX10_day_104 {G : zG} {F : Int → zM → Prop} {J : Nat → zS → Prop} {μ : zM} (C : zJ G true (11) 0 0 mX10_day (zKI F) J) (x2 : Int) (x3 : Int)
    (h : zin x2 ∧ ((x2 ≤ 0 → qX6_clear G (zup μ 1 1 0) (fun μ3 => zin x3 ∧ ((x3 = 0 → qX6_append G 0 μ3 (fun μ6 => F x2 μ6)) ∧ (¬ (x3 = 0) → qX6_append G 1 μ3 (fun μ7 => F x2 μ7))))) ∧ (¬ (x2 ≤ 0) → qX1_settle G (zup μ 1 1 0) (fun μ8 => qX6_clear G μ8 (fun μ9 => zin x3 ∧ ((x3 = 0 → qX6_append G 0 μ9 (fun μ12 => F x2 μ12)) ∧ (¬ (x3 = 0) → qX6_append G 1 μ9 (fun μ13 => F x2 μ13)))))))) : J 104 ([some (zR (some 0)), none, some (zI x2), some (zI x3), none], [], μ, 0, 0) := by
  obtain ⟨p, e, s, m, args, below, meth, c, A, hml, hr, hlk, hnm, rfl⟩ := C
  refine s_aload_n A dX10_day_104 rfl ?_
  refine s_getf (k := 10) (j := 0) (sl := true) (v := zR (some 1)) A dX10_day_105 rfl zuw_X10 (Nat.le_of_ble_eq_true rfl) zwd338 (by decide) (zk_0 _) rfl ?_
  refine s_iconst A dX10_day_108 ?_
  refine z_putI (k := 9) (j := 1) (sl := true) A dX10_day_109 rfl zuw_X9 (Nat.le_of_ble_eq_true rfl) zwd129 (by decide) (zk_1 _) tyX9 tyX9_ok nmX9 rfl rfl rfl ?_
  refine s_iload_n A dX10_day_112 rfl ?_
  obtain ⟨oz1, h⟩ := h
  refine z_if_le (tgt := 123) A dX10_day_113 (by decide) oz1 (fun c2 => ?_) (fun c2 => ?_)
  · have h := h.1 c2
    refine s_aload_n A dX10_day_123 rfl ?_
    refine s_getf (k := 10) (j := 1) (sl := true) (v := zR (some 3)) A dX10_day_124 rfl zuw_X10 (Nat.le_of_ble_eq_true rfl) zwd339 (by decide) (zk_0 _) rfl ?_
    refine s_callV (a := 3) (k := 6) (N := 2) (sl := true) (M := mX6_clear) (n := 0) (d := 0) (mc := 0) (ms := 0) (av := []) (st := []) A dX10_day_127 rfl (by decide) (zk_3 _) zwd786 zwd787 zwd788 zwd91 zcd_X6_clear (Nat.le_of_ble_eq_true rfl) (Nat.le_of_ble_eq_true rfl) (Nat.le_refl _) ⟨Nat.le_of_ble_eq_true rfl, Nat.le_of_ble_eq_true rfl⟩ ⟨rfl, zhn_X6_clear⟩ rfl (Nat.le_of_ble_eq_true rfl) rfl (z_contV (fun μ3 h => ?_) h)
    refine s_aload_n A dX10_day_130 rfl ?_
    refine s_getf (k := 10) (j := 1) (sl := true) (v := zR (some 3)) A dX10_day_131 rfl zuw_X10 (Nat.le_of_ble_eq_true rfl) zwd339 (by decide) (zk_0 _) rfl ?_
    refine s_iload_n A dX10_day_134 rfl ?_
    obtain ⟨oz4, h⟩ := h
    refine z_if_eq (tgt := 142) A dX10_day_135 (by decide) oz4 (fun c5 => ?_) (fun c5 => ?_)
    · have h := h.1 c5
      refine s_lconst (z := 0) A dX10_day_142 rfl ?_
      refine s_callV (a := 3) (k := 6) (N := 2) (sl := true) (M := mX6_append) (n := 1) (d := 0) (mc := 0) (ms := 0) (av := [zL 0]) (st := []) A dX10_day_143 rfl (by decide) (zk_3 _) zwd790 zwd791 zwd792 zwd91 zcd_X6_append (Nat.le_of_ble_eq_true rfl) (Nat.le_of_ble_eq_true rfl) (Nat.le_refl _) ⟨Nat.le_of_ble_eq_true rfl, Nat.le_of_ble_eq_true rfl⟩ ⟨rfl, zhn_X6_append⟩ rfl (Nat.le_of_ble_eq_true rfl) rfl (z_contV (fun μ6 h => ?_) h)
      refine s_iload_n A dX10_day_146 rfl ?_
      exact s_iret A dX10_day_147 hr hlk (Nat.le_of_ble_eq_true rfl) (Nat.le_of_ble_eq_true rfl) ⟨_, rfl, h⟩
    · have h := h.2 c5
      refine s_lconst (z := 1) A dX10_day_138 rfl ?_
      refine s_goto (tgt := 143) A dX10_day_139 (by decide) ?_
      refine s_callV (a := 3) (k := 6) (N := 2) (sl := true) (M := mX6_append) (n := 1) (d := 0) (mc := 0) (ms := 0) (av := [zL 1]) (st := []) A dX10_day_143 rfl (by decide) (zk_3 _) zwd790 zwd791 zwd792 zwd91 zcd_X6_append (Nat.le_of_ble_eq_true rfl) (Nat.le_of_ble_eq_true rfl) (Nat.le_refl _) ⟨Nat.le_of_ble_eq_true rfl, Nat.le_of_ble_eq_true rfl⟩ ⟨rfl, zhn_X6_append⟩ rfl (Nat.le_of_ble_eq_true rfl) rfl (z_contV (fun μ7 h => ?_) h)
      refine s_iload_n A dX10_day_146 rfl ?_
      exact s_iret A dX10_day_147 hr hlk (Nat.le_of_ble_eq_true rfl) (Nat.le_of_ble_eq_true rfl) ⟨_, rfl, h⟩
  · have h := h.2 c2
    refine s_aload_n A dX10_day_116 rfl ?_
    refine s_getf (k := 10) (j := 3) (sl := true) (v := zR (some 13)) A dX10_day_117 rfl zuw_X10 (Nat.le_of_ble_eq_true rfl) zwd341 (by decide) (zk_0 _) rfl ?_
    refine s_callV (a := 13) (k := 1) (N := 3) (sl := true) (M := mX1_settle) (n := 0) (d := 0) (mc := 0) (ms := 0) (av := []) (st := []) A dX10_day_120 rfl (by decide) (zk_13 _) zwd616 zwd617 zwd618 zwd94 zcd_X1_settle (Nat.le_of_ble_eq_true rfl) (Nat.le_of_ble_eq_true rfl) (Nat.le_refl _) ⟨Nat.le_of_ble_eq_true rfl, Nat.le_of_ble_eq_true rfl⟩ ⟨rfl, zhn_X1_settle⟩ rfl (Nat.le_of_ble_eq_true rfl) rfl (z_contV (fun μ8 h => ?_) h)
    refine s_aload_n A dX10_day_123 rfl ?_
    refine s_getf (k := 10) (j := 1) (sl := true) (v := zR (some 3)) A dX10_day_124 rfl zuw_X10 (Nat.le_of_ble_eq_true rfl) zwd339 (by decide) (zk_0 _) rfl ?_
    refine s_callV (a := 3) (k := 6) (N := 2) (sl := true) (M := mX6_clear) (n := 0) (d := 0) (mc := 0) (ms := 0) (av := []) (st := []) A dX10_day_127 rfl (by decide) (zk_3 _) zwd786 zwd787 zwd788 zwd91 zcd_X6_clear (Nat.le_of_ble_eq_true rfl) (Nat.le_of_ble_eq_true rfl) (Nat.le_refl _) ⟨Nat.le_of_ble_eq_true rfl, Nat.le_of_ble_eq_true rfl⟩ ⟨rfl, zhn_X6_clear⟩ rfl (Nat.le_of_ble_eq_true rfl) rfl (z_contV (fun μ9 h => ?_) h)
    refine s_aload_n A dX10_day_130 rfl ?_
    refine s_getf (k := 10) (j := 1) (sl := true) (v := zR (some 3)) A dX10_day_131 rfl zuw_X10 (Nat.le_of_ble_eq_true rfl) zwd339 (by decide) (zk_0 _) rfl ?_
    refine s_iload_n A dX10_day_134 rfl ?_
    obtain ⟨oz10, h⟩ := h
    refine z_if_eq (tgt := 142) A dX10_day_135 (by decide) oz10 (fun c11 => ?_) (fun c11 => ?_)
    · have h := h.1 c11
      refine s_lconst (z := 0) A dX10_day_142 rfl ?_
      refine s_callV (a := 3) (k := 6) (N := 2) (sl := true) (M := mX6_append) (n := 1) (d := 0) (mc := 0) (ms := 0) (av := [zL 0]) (st := []) A dX10_day_143 rfl (by decide) (zk_3 _) zwd790 zwd791 zwd792 zwd91 zcd_X6_append (Nat.le_of_ble_eq_true rfl) (Nat.le_of_ble_eq_true rfl) (Nat.le_refl _) ⟨Nat.le_of_ble_eq_true rfl, Nat.le_of_ble_eq_true rfl⟩ ⟨rfl, zhn_X6_append⟩ rfl (Nat.le_of_ble_eq_true rfl) rfl (z_contV (fun μ12 h => ?_) h)
      refine s_iload_n A dX10_day_146 rfl ?_
      exact s_iret A dX10_day_147 hr hlk (Nat.le_of_ble_eq_true rfl) (Nat.le_of_ble_eq_true rfl) ⟨_, rfl, h⟩
    · have h := h.2 c11
      refine s_lconst (z := 1) A dX10_day_138 rfl ?_
      refine s_goto (tgt := 143) A dX10_day_139 (by decide) ?_
      refine s_callV (a := 3) (k := 6) (N := 2) (sl := true) (M := mX6_append) (n := 1) (d := 0) (mc := 0) (ms := 0) (av := [zL 1]) (st := []) A dX10_day_143 rfl (by decide) (zk_3 _) zwd790 zwd791 zwd792 zwd91 zcd_X6_append (Nat.le_of_ble_eq_true rfl) (Nat.le_of_ble_eq_true rfl) (Nat.le_refl _) ⟨Nat.le_of_ble_eq_true rfl, Nat.le_of_ble_eq_true rfl⟩ ⟨rfl, zhn_X6_append⟩ rfl (Nat.le_of_ble_eq_true rfl) rfl (z_contV (fun μ13 h => ?_) h)
      refine s_iload_n A dX10_day_146 rfl ?_
      exact s_iret A dX10_day_147 hr hlk (Nat.le_of_ble_eq_true rfl) (Nat.le_of_ble_eq_true rfl) ⟨_, rfl, h⟩
theorem eX10_day {G : zG} {F : Int → zM → Prop} {μ : zM}  (h : ∀ J, zJ G true (11) 0 0 mX10_day (zKI F) J → J 0 ([some (zR (some 0)), none, none, none, none], [], μ, 0, 0)) : qX10_day G  μ F :=
  z_body (by decide +kernel) (Nat.le_of_ble_eq_true rfl) h
