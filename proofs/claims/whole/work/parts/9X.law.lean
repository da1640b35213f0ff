/-! the law: its judgement and its cases -/
section
variable {G : zG} {ph : Bool} {p : Program} {e : Env} {R : Room} {s : State} {m : MethodId} {args : Array Value} {below : List Frame} {meth : Method} {c : Code} {Q : State → Prop} {cc : ByteArray} {own : String} {Ts : List Cond} {pc : Nat} {L : List (Option zV)} {st : List zV} {μ : zM} {cn un : Nat}
theorem z_icmp_same (A : zAm G p s m args c cc own Ts) {x : Int} {off : Int} {tgt : Nat} (d : decode cc pc = .ok (.if_icmp .eq off, 3)) (ht : (pc : Int) + off = (tgt : Int)) (k : zJd G ph p e R s m args below meth c Q tgt (L, st, μ, cn, un)) : zJd G ph p e R s m args below meth c Q pc (L, zI x :: zI x :: st, μ, cn, un) :=
  s_icmp_eq A d ht (fun _ => k) (fun q => absurd rfl q)
theorem z_lc_same (A : zAm G p s m args c cc own Ts) {x : Int} {off : Int} {tgt : Nat} (d : decode cc pc = .ok (.lcmp, 1)) (d2 : decode cc (pc + 1) = .ok (.ifCond .eq off, 3)) (ht : (pc : Int) + 1 + off = (tgt : Int)) (k : zJd G ph p e R s m args below meth c Q tgt (L, st, μ, cn, un)) : zJd G ph p e R s m args below meth c Q pc (L, zL x :: zL x :: st, μ, cn, un) := by
  have e1 : zw (zlcmp x x) = 0 := by
    unfold zlcmp
    rw [if_neg (Int.lt_irrefl _), if_pos rfl]
    rfl
  exact s_lcmp A d (s_if_eq A d2 (by omega) (fun _ => k) (fun q => absurd e1 q))
end
theorem zwdLaw : (Jvm.Cond.initialized "InkFoldsLaw") ∈ zTw := zTw_mem (List.mem_of_getElem? (i := 88) (by decide +kernel)) rfl
theorem zhn_L_light : mL_light.1.cls ≠ "java/lang/invoke/MethodHandle" ∧ mL_light.1.cls ≠ "java/lang/invoke/VarHandle" ∧ (parseMethodDescriptor mL_light.1.desc).map (fun d => d.parameters.length) = some 4 := ⟨by decide +kernel, by decide +kernel, by decide +kernel⟩
theorem zhn_L_bent : mL_bent.1.cls ≠ "java/lang/invoke/MethodHandle" ∧ mL_bent.1.cls ≠ "java/lang/invoke/VarHandle" ∧ (parseMethodDescriptor mL_bent.1.desc).map (fun d => d.parameters.length) = some 4 := ⟨by decide +kernel, by decide +kernel, by decide +kernel⟩
theorem zhn_L_row : mL_row.1.cls ≠ "java/lang/invoke/MethodHandle" ∧ mL_row.1.cls ≠ "java/lang/invoke/VarHandle" ∧ (parseMethodDescriptor mL_row.1.desc).map (fun d => d.parameters.length) = some 3 := ⟨by decide +kernel, by decide +kernel, by decide +kernel⟩
def zJL (G : zG) (J : zG → Nat → zS → Prop) : Prop :=
  ∃ (p : Program) (e : Env) (s : State) (m : MethodId) (below : List Frame) (meth : Method) (c : Code) (args : Array Value) (Q : State → Prop), zAm G p s m args c cL_law RL zTw ∧ zXx G s ∧ J = fun G2 => zJd G2 true p e room_1 s m args below meth c Q
theorem zst_gx {G G2 : zG} (h : zGx G G2) : zst G2 = zst G := by rcases h with rfl | ⟨z, q, rfl, -⟩ <;> rfl
theorem zAm_gx {G G2 : zG} (h : zGx G G2) {p : Program} {s : State} {m : MethodId} {args : Array Value} {c : Code} {cc : ByteArray} {own : String} {Ts : List Cond} (A : zAm G p s m args c cc own Ts) : zAm G2 p s m args c cc own Ts := by
  rcases h with rfl | ⟨z, q, rfl, -⟩
  · exact A
  · exact zAm_gz A
theorem zJL.gx {G G2 : zG} {J : zG → Nat → zS → Prop} (h : zGx G G2) (C : zJL G J) : zJL G2 J := by
  obtain ⟨p, e, s, m, below, meth, c, args, Q, A, hX, hJ⟩ := C
  refine ⟨p, e, s, m, below, meth, c, args, Q, zAm_gx h A, ?_, hJ⟩
  rcases h with rfl | ⟨z, q, rfl, -⟩
  · exact hX
  · exact zXx_gz hX
/-- the script's numbers -/
def zsv (G : zG) (i : Int) : Int := (zst G 40).2 i.toNat
abbrev zLl (i : Int) (l5 l6 l7 : Option zV) : List (Option zV) := [some (zT 40), some (zR (some 0)), some (zR (some 153)), some (zR (some 181)), some (zI i), l5, l6, l7]
/-- what the law's last locals hold: numbers or nothing -/
def zLi (l : Option zV) : Prop := ∀ v, l = some v → (∃ x, v = zI x) ∨ ∃ x, v = zL x
theorem zLl_gx {G G2 : zG} (hg : zGx G G2) {i : Int} {l5 l6 l7 : Option zV} (h5 : zLi l5) (h6 : zLi l6) (h7 : zLi l7) : ∀ v, some v ∈ zLl i l5 l6 l7 → cv G2 v = cv G v := by
  obtain ⟨g1, g2, g3, g4⟩ := zGx_cv hg
  have hl : ∀ l, zLi l → ∀ v, some v = l → cv G2 v = cv G v := fun l hl v hv => by
    rcases hl v hv.symm with ⟨x, rfl⟩ | ⟨x, rfl⟩
    · exact g1 x
    · exact g2 x
  intro v hv
  simp only [zLl, List.mem_cons, List.not_mem_nil, or_false, Option.some.injEq] at hv
  rcases hv with rfl | rfl | rfl | rfl | rfl | hv | hv | hv
  · exact g4
  · exact g3 0 (by decide)
  · exact g3 153 (by decide)
  · exact g3 181 (by decide)
  · exact g1 i
  · exact hl _ h5 v hv
  · exact hl _ h6 v hv
  · exact hl _ h7 v hv
theorem zwd384 : (Jvm.Cond.methodLink "InkFoldsLaw" (26 : Nat) ({ cls := "InkFolds", name := "sign", desc := "(I)I" } : Jvm.MethodName)) ∈ zTw := zTw_mem (List.mem_of_getElem? (i := 384) (by decide +kernel)) rfl
theorem zwd385 : (Jvm.Cond.instanceMethod ({ cls := "InkFolds", name := "sign", desc := "(I)I" } : Jvm.MethodName)) ∈ zTw := zTw_mem (List.mem_of_getElem? (i := 385) (by decide +kernel)) rfl
theorem zwd386 : (Jvm.Cond.selects "InkFolds" ({ cls := "InkFolds", name := "sign", desc := "(I)I" } : Jvm.MethodName) ({ cls := "InkFolds", name := "sign", desc := "(I)I" } : Jvm.MethodName)) ∈ zTw := zTw_mem (List.mem_of_getElem? (i := 386) (by decide +kernel)) rfl
theorem zwd392 : (Jvm.Cond.methodLink "InkFoldsLaw" (31 : Nat) ({ cls := "InkFolds", name := "end", desc := "(I)Z" } : Jvm.MethodName)) ∈ zTw := zTw_mem (List.mem_of_getElem? (i := 392) (by decide +kernel)) rfl
theorem zwd393 : (Jvm.Cond.instanceMethod ({ cls := "InkFolds", name := "end", desc := "(I)Z" } : Jvm.MethodName)) ∈ zTw := zTw_mem (List.mem_of_getElem? (i := 393) (by decide +kernel)) rfl
theorem zwd394 : (Jvm.Cond.selects "InkFolds" ({ cls := "InkFolds", name := "end", desc := "(I)Z" } : Jvm.MethodName) ({ cls := "InkFolds", name := "end", desc := "(I)Z" } : Jvm.MethodName)) ∈ zTw := zTw_mem (List.mem_of_getElem? (i := 394) (by decide +kernel)) rfl
theorem zwd396 : (Jvm.Cond.methodLink "InkFoldsLaw" (36 : Nat) ({ cls := "InkFolds", name := "patches", desc := "()I" } : Jvm.MethodName)) ∈ zTw := zTw_mem (List.mem_of_getElem? (i := 396) (by decide +kernel)) rfl
theorem zwd397 : (Jvm.Cond.instanceMethod ({ cls := "InkFolds", name := "patches", desc := "()I" } : Jvm.MethodName)) ∈ zTw := zTw_mem (List.mem_of_getElem? (i := 397) (by decide +kernel)) rfl
theorem zwd398 : (Jvm.Cond.selects "InkFolds" ({ cls := "InkFolds", name := "patches", desc := "()I" } : Jvm.MethodName) ({ cls := "InkFolds", name := "patches", desc := "()I" } : Jvm.MethodName)) ∈ zTw := zTw_mem (List.mem_of_getElem? (i := 398) (by decide +kernel)) rfl
theorem zwd621 : (Jvm.Cond.methodLink "InkFoldsLaw" (41 : Nat) ({ cls := "InkFolds", name := "curve", desc := "(I)I" } : Jvm.MethodName)) ∈ zTw := zTw_mem (List.mem_of_getElem? (i := 621) (by decide +kernel)) rfl
theorem zwd622 : (Jvm.Cond.instanceMethod ({ cls := "InkFolds", name := "curve", desc := "(I)I" } : Jvm.MethodName)) ∈ zTw := zTw_mem (List.mem_of_getElem? (i := 622) (by decide +kernel)) rfl
theorem zwd623 : (Jvm.Cond.selects "InkFolds" ({ cls := "InkFolds", name := "curve", desc := "(I)I" } : Jvm.MethodName) ({ cls := "InkFolds", name := "curve", desc := "(I)I" } : Jvm.MethodName)) ∈ zTw := zTw_mem (List.mem_of_getElem? (i := 623) (by decide +kernel)) rfl
theorem zwd640 : (Jvm.Cond.methodLink "InkFoldsLaw" (45 : Nat) ({ cls := "InkFolds", name := "link", desc := "()I" } : Jvm.MethodName)) ∈ zTw := zTw_mem (List.mem_of_getElem? (i := 640) (by decide +kernel)) rfl
theorem zwd641 : (Jvm.Cond.instanceMethod ({ cls := "InkFolds", name := "link", desc := "()I" } : Jvm.MethodName)) ∈ zTw := zTw_mem (List.mem_of_getElem? (i := 641) (by decide +kernel)) rfl
theorem zwd642 : (Jvm.Cond.selects "InkFolds" ({ cls := "InkFolds", name := "link", desc := "()I" } : Jvm.MethodName) ({ cls := "InkFolds", name := "link", desc := "()I" } : Jvm.MethodName)) ∈ zTw := zTw_mem (List.mem_of_getElem? (i := 642) (by decide +kernel)) rfl
theorem zwd706 : (Jvm.Cond.methodLink "InkFoldsLaw" (49 : Nat) ({ cls := "InkFolds", name := "picture", desc := "()I" } : Jvm.MethodName)) ∈ zTw := zTw_mem (List.mem_of_getElem? (i := 706) (by decide +kernel)) rfl
theorem zwd707 : (Jvm.Cond.instanceMethod ({ cls := "InkFolds", name := "picture", desc := "()I" } : Jvm.MethodName)) ∈ zTw := zTw_mem (List.mem_of_getElem? (i := 707) (by decide +kernel)) rfl
theorem zwd708 : (Jvm.Cond.selects "InkFolds" ({ cls := "InkFolds", name := "picture", desc := "()I" } : Jvm.MethodName) ({ cls := "InkFolds", name := "picture", desc := "()I" } : Jvm.MethodName)) ∈ zTw := zTw_mem (List.mem_of_getElem? (i := 708) (by decide +kernel)) rfl
theorem zwd723 : (Jvm.Cond.methodLink "InkFoldsLaw" (65 : Nat) ({ cls := "InkFolds", name := "sheet", desc := "(IIII)I" } : Jvm.MethodName)) ∈ zTw := zTw_mem (List.mem_of_getElem? (i := 723) (by decide +kernel)) rfl
theorem zwd724 : (Jvm.Cond.instanceMethod ({ cls := "InkFolds", name := "sheet", desc := "(IIII)I" } : Jvm.MethodName)) ∈ zTw := zTw_mem (List.mem_of_getElem? (i := 724) (by decide +kernel)) rfl
theorem zwd725 : (Jvm.Cond.selects "InkFolds" ({ cls := "InkFolds", name := "sheet", desc := "(IIII)I" } : Jvm.MethodName) ({ cls := "InkFolds", name := "sheet", desc := "(IIII)I" } : Jvm.MethodName)) ∈ zTw := zTw_mem (List.mem_of_getElem? (i := 725) (by decide +kernel)) rfl
theorem zwd737 : (Jvm.Cond.methodLink "InkFoldsLaw" (70 : Nat) ({ cls := "InkFolds", name := "measure", desc := "(IIII)I" } : Jvm.MethodName)) ∈ zTw := zTw_mem (List.mem_of_getElem? (i := 737) (by decide +kernel)) rfl
theorem zwd738 : (Jvm.Cond.instanceMethod ({ cls := "InkFolds", name := "measure", desc := "(IIII)I" } : Jvm.MethodName)) ∈ zTw := zTw_mem (List.mem_of_getElem? (i := 738) (by decide +kernel)) rfl
theorem zwd739 : (Jvm.Cond.selects "InkFolds" ({ cls := "InkFolds", name := "measure", desc := "(IIII)I" } : Jvm.MethodName) ({ cls := "InkFolds", name := "measure", desc := "(IIII)I" } : Jvm.MethodName)) ∈ zTw := zTw_mem (List.mem_of_getElem? (i := 739) (by decide +kernel)) rfl
theorem zwd741 : (Jvm.Cond.methodLink "InkFoldsLaw" (74 : Nat) ({ cls := "InkFolds", name := "forgets", desc := "(I)I" } : Jvm.MethodName)) ∈ zTw := zTw_mem (List.mem_of_getElem? (i := 741) (by decide +kernel)) rfl
theorem zwd742 : (Jvm.Cond.instanceMethod ({ cls := "InkFolds", name := "forgets", desc := "(I)I" } : Jvm.MethodName)) ∈ zTw := zTw_mem (List.mem_of_getElem? (i := 742) (by decide +kernel)) rfl
theorem zwd743 : (Jvm.Cond.selects "InkFolds" ({ cls := "InkFolds", name := "forgets", desc := "(I)I" } : Jvm.MethodName) ({ cls := "InkFolds", name := "forgets", desc := "(I)I" } : Jvm.MethodName)) ∈ zTw := zTw_mem (List.mem_of_getElem? (i := 743) (by decide +kernel)) rfl
theorem zwd749 : (Jvm.Cond.methodLink "InkFoldsLaw" (78 : Nat) ({ cls := "InkFolds", name := "sets", desc := "(II)I" } : Jvm.MethodName)) ∈ zTw := zTw_mem (List.mem_of_getElem? (i := 749) (by decide +kernel)) rfl
theorem zwd750 : (Jvm.Cond.instanceMethod ({ cls := "InkFolds", name := "sets", desc := "(II)I" } : Jvm.MethodName)) ∈ zTw := zTw_mem (List.mem_of_getElem? (i := 750) (by decide +kernel)) rfl
theorem zwd751 : (Jvm.Cond.selects "InkFolds" ({ cls := "InkFolds", name := "sets", desc := "(II)I" } : Jvm.MethodName) ({ cls := "InkFolds", name := "sets", desc := "(II)I" } : Jvm.MethodName)) ∈ zTw := zTw_mem (List.mem_of_getElem? (i := 751) (by decide +kernel)) rfl
theorem zwd761 : (Jvm.Cond.methodLink "InkFoldsLaw" (82 : Nat) ({ cls := "InkFolds", name := "paints", desc := "(IIII)I" } : Jvm.MethodName)) ∈ zTw := zTw_mem (List.mem_of_getElem? (i := 761) (by decide +kernel)) rfl
theorem zwd762 : (Jvm.Cond.instanceMethod ({ cls := "InkFolds", name := "paints", desc := "(IIII)I" } : Jvm.MethodName)) ∈ zTw := zTw_mem (List.mem_of_getElem? (i := 762) (by decide +kernel)) rfl
theorem zwd763 : (Jvm.Cond.selects "InkFolds" ({ cls := "InkFolds", name := "paints", desc := "(IIII)I" } : Jvm.MethodName) ({ cls := "InkFolds", name := "paints", desc := "(IIII)I" } : Jvm.MethodName)) ∈ zTw := zTw_mem (List.mem_of_getElem? (i := 763) (by decide +kernel)) rfl
theorem zwd776 : (Jvm.Cond.methodLink "InkFoldsLaw" (86 : Nat) ({ cls := "InkFolds", name := "day", desc := "()I" } : Jvm.MethodName)) ∈ zTw := zTw_mem (List.mem_of_getElem? (i := 776) (by decide +kernel)) rfl
theorem zwd777 : (Jvm.Cond.instanceMethod ({ cls := "InkFolds", name := "day", desc := "()I" } : Jvm.MethodName)) ∈ zTw := zTw_mem (List.mem_of_getElem? (i := 777) (by decide +kernel)) rfl
theorem zwd778 : (Jvm.Cond.selects "InkFolds" ({ cls := "InkFolds", name := "day", desc := "()I" } : Jvm.MethodName) ({ cls := "InkFolds", name := "day", desc := "()I" } : Jvm.MethodName)) ∈ zTw := zTw_mem (List.mem_of_getElem? (i := 778) (by decide +kernel)) rfl
theorem zwd794 : (Jvm.Cond.methodLink "InkFoldsLaw" (90 : Nat) ({ cls := "InkFolds", name := "undo", desc := "()I" } : Jvm.MethodName)) ∈ zTw := zTw_mem (List.mem_of_getElem? (i := 794) (by decide +kernel)) rfl
theorem zwd795 : (Jvm.Cond.instanceMethod ({ cls := "InkFolds", name := "undo", desc := "()I" } : Jvm.MethodName)) ∈ zTw := zTw_mem (List.mem_of_getElem? (i := 795) (by decide +kernel)) rfl
theorem zwd796 : (Jvm.Cond.selects "InkFolds" ({ cls := "InkFolds", name := "undo", desc := "()I" } : Jvm.MethodName) ({ cls := "InkFolds", name := "undo", desc := "()I" } : Jvm.MethodName)) ∈ zTw := zTw_mem (List.mem_of_getElem? (i := 796) (by decide +kernel)) rfl
theorem zwd802 : (Jvm.Cond.methodLink "InkFoldsLaw" (94 : Nat) ({ cls := "InkFolds", name := "colour", desc := "(I)I" } : Jvm.MethodName)) ∈ zTw := zTw_mem (List.mem_of_getElem? (i := 802) (by decide +kernel)) rfl
theorem zwd803 : (Jvm.Cond.instanceMethod ({ cls := "InkFolds", name := "colour", desc := "(I)I" } : Jvm.MethodName)) ∈ zTw := zTw_mem (List.mem_of_getElem? (i := 803) (by decide +kernel)) rfl
theorem zwd804 : (Jvm.Cond.selects "InkFolds" ({ cls := "InkFolds", name := "colour", desc := "(I)I" } : Jvm.MethodName) ({ cls := "InkFolds", name := "colour", desc := "(I)I" } : Jvm.MethodName)) ∈ zTw := zTw_mem (List.mem_of_getElem? (i := 804) (by decide +kernel)) rfl
theorem zwd868 : (Jvm.Cond.methodLink "InkFoldsLaw" (98 : Nat) ({ cls := "InkFolds", name := "limited", desc := "(II)I" } : Jvm.MethodName)) ∈ zTw := zTw_mem (List.mem_of_getElem? (i := 868) (by decide +kernel)) rfl
theorem zwd869 : (Jvm.Cond.instanceMethod ({ cls := "InkFolds", name := "limited", desc := "(II)I" } : Jvm.MethodName)) ∈ zTw := zTw_mem (List.mem_of_getElem? (i := 869) (by decide +kernel)) rfl
theorem zwd870 : (Jvm.Cond.selects "InkFolds" ({ cls := "InkFolds", name := "limited", desc := "(II)I" } : Jvm.MethodName) ({ cls := "InkFolds", name := "limited", desc := "(II)I" } : Jvm.MethodName)) ∈ zTw := zTw_mem (List.mem_of_getElem? (i := 870) (by decide +kernel)) rfl
theorem zwd897 : (Jvm.Cond.methodLink "InkFoldsLaw" (102 : Nat) ({ cls := "InkFolds", name := "match", desc := "(III)I" } : Jvm.MethodName)) ∈ zTw := zTw_mem (List.mem_of_getElem? (i := 897) (by decide +kernel)) rfl
theorem zwd898 : (Jvm.Cond.instanceMethod ({ cls := "InkFolds", name := "match", desc := "(III)I" } : Jvm.MethodName)) ∈ zTw := zTw_mem (List.mem_of_getElem? (i := 898) (by decide +kernel)) rfl
theorem zwd899 : (Jvm.Cond.selects "InkFolds" ({ cls := "InkFolds", name := "match", desc := "(III)I" } : Jvm.MethodName) ({ cls := "InkFolds", name := "match", desc := "(III)I" } : Jvm.MethodName)) ∈ zTw := zTw_mem (List.mem_of_getElem? (i := 899) (by decide +kernel)) rfl
theorem zwd933 : (Jvm.Cond.methodLink "InkFoldsLaw" (107 : Nat) ({ cls := "InkFolds", name := "fold", desc := "(III)I" } : Jvm.MethodName)) ∈ zTw := zTw_mem (List.mem_of_getElem? (i := 933) (by decide +kernel)) rfl
theorem zwd934 : (Jvm.Cond.instanceMethod ({ cls := "InkFolds", name := "fold", desc := "(III)I" } : Jvm.MethodName)) ∈ zTw := zTw_mem (List.mem_of_getElem? (i := 934) (by decide +kernel)) rfl
theorem zwd935 : (Jvm.Cond.selects "InkFolds" ({ cls := "InkFolds", name := "fold", desc := "(III)I" } : Jvm.MethodName) ({ cls := "InkFolds", name := "fold", desc := "(III)I" } : Jvm.MethodName)) ∈ zTw := zTw_mem (List.mem_of_getElem? (i := 935) (by decide +kernel)) rfl
theorem zwd950 : (Jvm.Cond.methodLink "InkFoldsLaw" (111 : Nat) ({ cls := "InkFolds", name := "prints", desc := "(III)I" } : Jvm.MethodName)) ∈ zTw := zTw_mem (List.mem_of_getElem? (i := 950) (by decide +kernel)) rfl
theorem zwd951 : (Jvm.Cond.instanceMethod ({ cls := "InkFolds", name := "prints", desc := "(III)I" } : Jvm.MethodName)) ∈ zTw := zTw_mem (List.mem_of_getElem? (i := 951) (by decide +kernel)) rfl
theorem zwd952 : (Jvm.Cond.selects "InkFolds" ({ cls := "InkFolds", name := "prints", desc := "(III)I" } : Jvm.MethodName) ({ cls := "InkFolds", name := "prints", desc := "(III)I" } : Jvm.MethodName)) ∈ zTw := zTw_mem (List.mem_of_getElem? (i := 952) (by decide +kernel)) rfl
theorem zwd993 : (Jvm.Cond.methodLink "InkFoldsLaw" (115 : Nat) ({ cls := "InkFolds", name := "ramp", desc := "(II)I" } : Jvm.MethodName)) ∈ zTw := zTw_mem (List.mem_of_getElem? (i := 993) (by decide +kernel)) rfl
theorem zwd994 : (Jvm.Cond.instanceMethod ({ cls := "InkFolds", name := "ramp", desc := "(II)I" } : Jvm.MethodName)) ∈ zTw := zTw_mem (List.mem_of_getElem? (i := 994) (by decide +kernel)) rfl
theorem zwd995 : (Jvm.Cond.selects "InkFolds" ({ cls := "InkFolds", name := "ramp", desc := "(II)I" } : Jvm.MethodName) ({ cls := "InkFolds", name := "ramp", desc := "(II)I" } : Jvm.MethodName)) ∈ zTw := zTw_mem (List.mem_of_getElem? (i := 995) (by decide +kernel)) rfl
theorem zwd1005 : (Jvm.Cond.methodLink "InkFoldsLaw" (119 : Nat) ({ cls := "InkFolds", name := "way", desc := "(III)I" } : Jvm.MethodName)) ∈ zTw := zTw_mem (List.mem_of_getElem? (i := 1005) (by decide +kernel)) rfl
theorem zwd1006 : (Jvm.Cond.instanceMethod ({ cls := "InkFolds", name := "way", desc := "(III)I" } : Jvm.MethodName)) ∈ zTw := zTw_mem (List.mem_of_getElem? (i := 1006) (by decide +kernel)) rfl
theorem zwd1007 : (Jvm.Cond.selects "InkFolds" ({ cls := "InkFolds", name := "way", desc := "(III)I" } : Jvm.MethodName) ({ cls := "InkFolds", name := "way", desc := "(III)I" } : Jvm.MethodName)) ∈ zTw := zTw_mem (List.mem_of_getElem? (i := 1007) (by decide +kernel)) rfl
theorem zwd1027 : (Jvm.Cond.methodLink "InkFoldsLaw" (123 : Nat) ({ cls := "InkFolds", name := "rises", desc := "(I)I" } : Jvm.MethodName)) ∈ zTw := zTw_mem (List.mem_of_getElem? (i := 1027) (by decide +kernel)) rfl
theorem zwd1028 : (Jvm.Cond.instanceMethod ({ cls := "InkFolds", name := "rises", desc := "(I)I" } : Jvm.MethodName)) ∈ zTw := zTw_mem (List.mem_of_getElem? (i := 1028) (by decide +kernel)) rfl
theorem zwd1029 : (Jvm.Cond.selects "InkFolds" ({ cls := "InkFolds", name := "rises", desc := "(I)I" } : Jvm.MethodName) ({ cls := "InkFolds", name := "rises", desc := "(I)I" } : Jvm.MethodName)) ∈ zTw := zTw_mem (List.mem_of_getElem? (i := 1029) (by decide +kernel)) rfl
theorem zwd1044 : (Jvm.Cond.methodLink "InkFoldsLaw" (127 : Nat) ({ cls := "InkFolds", name := "reach", desc := "(I)I" } : Jvm.MethodName)) ∈ zTw := zTw_mem (List.mem_of_getElem? (i := 1044) (by decide +kernel)) rfl
theorem zwd1045 : (Jvm.Cond.instanceMethod ({ cls := "InkFolds", name := "reach", desc := "(I)I" } : Jvm.MethodName)) ∈ zTw := zTw_mem (List.mem_of_getElem? (i := 1045) (by decide +kernel)) rfl
theorem zwd1046 : (Jvm.Cond.selects "InkFolds" ({ cls := "InkFolds", name := "reach", desc := "(I)I" } : Jvm.MethodName) ({ cls := "InkFolds", name := "reach", desc := "(I)I" } : Jvm.MethodName)) ∈ zTw := zTw_mem (List.mem_of_getElem? (i := 1046) (by decide +kernel)) rfl
theorem zwd1051 : (Jvm.Cond.methodLink "InkFoldsLaw" (131 : Nat) ({ cls := "InkFolds", name := "spread", desc := "()I" } : Jvm.MethodName)) ∈ zTw := zTw_mem (List.mem_of_getElem? (i := 1051) (by decide +kernel)) rfl
theorem zwd1052 : (Jvm.Cond.instanceMethod ({ cls := "InkFolds", name := "spread", desc := "()I" } : Jvm.MethodName)) ∈ zTw := zTw_mem (List.mem_of_getElem? (i := 1052) (by decide +kernel)) rfl
theorem zwd1053 : (Jvm.Cond.selects "InkFolds" ({ cls := "InkFolds", name := "spread", desc := "()I" } : Jvm.MethodName) ({ cls := "InkFolds", name := "spread", desc := "()I" } : Jvm.MethodName)) ∈ zTw := zTw_mem (List.mem_of_getElem? (i := 1053) (by decide +kernel)) rfl
theorem zwd1063 : (Jvm.Cond.methodLink "InkFoldsLaw" (135 : Nat) ({ cls := "InkFolds", name := "odds", desc := "(IIII)I" } : Jvm.MethodName)) ∈ zTw := zTw_mem (List.mem_of_getElem? (i := 1063) (by decide +kernel)) rfl
theorem zwd1064 : (Jvm.Cond.instanceMethod ({ cls := "InkFolds", name := "odds", desc := "(IIII)I" } : Jvm.MethodName)) ∈ zTw := zTw_mem (List.mem_of_getElem? (i := 1064) (by decide +kernel)) rfl
theorem zwd1065 : (Jvm.Cond.selects "InkFolds" ({ cls := "InkFolds", name := "odds", desc := "(IIII)I" } : Jvm.MethodName) ({ cls := "InkFolds", name := "odds", desc := "(IIII)I" } : Jvm.MethodName)) ∈ zTw := zTw_mem (List.mem_of_getElem? (i := 1065) (by decide +kernel)) rfl
theorem zwd1074 : (Jvm.Cond.methodLink "InkFoldsLaw" (139 : Nat) ({ cls := "InkFolds", name := "through", desc := "(I)I" } : Jvm.MethodName)) ∈ zTw := zTw_mem (List.mem_of_getElem? (i := 1074) (by decide +kernel)) rfl
theorem zwd1075 : (Jvm.Cond.instanceMethod ({ cls := "InkFolds", name := "through", desc := "(I)I" } : Jvm.MethodName)) ∈ zTw := zTw_mem (List.mem_of_getElem? (i := 1075) (by decide +kernel)) rfl
theorem zwd1076 : (Jvm.Cond.selects "InkFolds" ({ cls := "InkFolds", name := "through", desc := "(I)I" } : Jvm.MethodName) ({ cls := "InkFolds", name := "through", desc := "(I)I" } : Jvm.MethodName)) ∈ zTw := zTw_mem (List.mem_of_getElem? (i := 1076) (by decide +kernel)) rfl
theorem zwd1078 : (Jvm.Cond.methodLink "InkFoldsLaw" (143 : Nat) ({ cls := "InkFolds", name := "sources", desc := "(I)I" } : Jvm.MethodName)) ∈ zTw := zTw_mem (List.mem_of_getElem? (i := 1078) (by decide +kernel)) rfl
theorem zwd1079 : (Jvm.Cond.instanceMethod ({ cls := "InkFolds", name := "sources", desc := "(I)I" } : Jvm.MethodName)) ∈ zTw := zTw_mem (List.mem_of_getElem? (i := 1079) (by decide +kernel)) rfl
theorem zwd1080 : (Jvm.Cond.selects "InkFolds" ({ cls := "InkFolds", name := "sources", desc := "(I)I" } : Jvm.MethodName) ({ cls := "InkFolds", name := "sources", desc := "(I)I" } : Jvm.MethodName)) ∈ zTw := zTw_mem (List.mem_of_getElem? (i := 1080) (by decide +kernel)) rfl
theorem zwd1082 : (Jvm.Cond.methodLink "InkFoldsLaw" (147 : Nat) ({ cls := "InkFolds", name := "rounds", desc := "(I)I" } : Jvm.MethodName)) ∈ zTw := zTw_mem (List.mem_of_getElem? (i := 1082) (by decide +kernel)) rfl
theorem zwd1083 : (Jvm.Cond.instanceMethod ({ cls := "InkFolds", name := "rounds", desc := "(I)I" } : Jvm.MethodName)) ∈ zTw := zTw_mem (List.mem_of_getElem? (i := 1083) (by decide +kernel)) rfl
theorem zwd1084 : (Jvm.Cond.selects "InkFolds" ({ cls := "InkFolds", name := "rounds", desc := "(I)I" } : Jvm.MethodName) ({ cls := "InkFolds", name := "rounds", desc := "(I)I" } : Jvm.MethodName)) ∈ zTw := zTw_mem (List.mem_of_getElem? (i := 1084) (by decide +kernel)) rfl
theorem zwd1086 : (Jvm.Cond.methodLink "InkFoldsLaw" (151 : Nat) ({ cls := "InkFolds", name := "press", desc := "(I)I" } : Jvm.MethodName)) ∈ zTw := zTw_mem (List.mem_of_getElem? (i := 1086) (by decide +kernel)) rfl
theorem zwd1087 : (Jvm.Cond.instanceMethod ({ cls := "InkFolds", name := "press", desc := "(I)I" } : Jvm.MethodName)) ∈ zTw := zTw_mem (List.mem_of_getElem? (i := 1087) (by decide +kernel)) rfl
theorem zwd1088 : (Jvm.Cond.selects "InkFolds" ({ cls := "InkFolds", name := "press", desc := "(I)I" } : Jvm.MethodName) ({ cls := "InkFolds", name := "press", desc := "(I)I" } : Jvm.MethodName)) ∈ zTw := zTw_mem (List.mem_of_getElem? (i := 1088) (by decide +kernel)) rfl
theorem zwd1123 : (Jvm.Cond.methodLink "InkFoldsLaw" (155 : Nat) ({ cls := "InkFolds", name := "cell", desc := "(II)I" } : Jvm.MethodName)) ∈ zTw := zTw_mem (List.mem_of_getElem? (i := 1123) (by decide +kernel)) rfl
theorem zwd1124 : (Jvm.Cond.instanceMethod ({ cls := "InkFolds", name := "cell", desc := "(II)I" } : Jvm.MethodName)) ∈ zTw := zTw_mem (List.mem_of_getElem? (i := 1124) (by decide +kernel)) rfl
theorem zwd1125 : (Jvm.Cond.selects "InkFolds" ({ cls := "InkFolds", name := "cell", desc := "(II)I" } : Jvm.MethodName) ({ cls := "InkFolds", name := "cell", desc := "(II)I" } : Jvm.MethodName)) ∈ zTw := zTw_mem (List.mem_of_getElem? (i := 1125) (by decide +kernel)) rfl
theorem zwd1127 : (Jvm.Cond.methodLink "InkFoldsLaw" (159 : Nat) ({ cls := "InkFolds", name := "slips", desc := "(III)I" } : Jvm.MethodName)) ∈ zTw := zTw_mem (List.mem_of_getElem? (i := 1127) (by decide +kernel)) rfl
theorem zwd1128 : (Jvm.Cond.instanceMethod ({ cls := "InkFolds", name := "slips", desc := "(III)I" } : Jvm.MethodName)) ∈ zTw := zTw_mem (List.mem_of_getElem? (i := 1128) (by decide +kernel)) rfl
theorem zwd1129 : (Jvm.Cond.selects "InkFolds" ({ cls := "InkFolds", name := "slips", desc := "(III)I" } : Jvm.MethodName) ({ cls := "InkFolds", name := "slips", desc := "(III)I" } : Jvm.MethodName)) ∈ zTw := zTw_mem (List.mem_of_getElem? (i := 1129) (by decide +kernel)) rfl
theorem zwd1137 : (Jvm.Cond.methodLink "InkFoldsLaw" (163 : Nat) ({ cls := "InkFolds", name := "greys", desc := "(II)I" } : Jvm.MethodName)) ∈ zTw := zTw_mem (List.mem_of_getElem? (i := 1137) (by decide +kernel)) rfl
theorem zwd1138 : (Jvm.Cond.instanceMethod ({ cls := "InkFolds", name := "greys", desc := "(II)I" } : Jvm.MethodName)) ∈ zTw := zTw_mem (List.mem_of_getElem? (i := 1138) (by decide +kernel)) rfl
theorem zwd1139 : (Jvm.Cond.selects "InkFolds" ({ cls := "InkFolds", name := "greys", desc := "(II)I" } : Jvm.MethodName) ({ cls := "InkFolds", name := "greys", desc := "(II)I" } : Jvm.MethodName)) ∈ zTw := zTw_mem (List.mem_of_getElem? (i := 1139) (by decide +kernel)) rfl
theorem zwd1151 : (Jvm.Cond.methodLink "InkFoldsLaw" (167 : Nat) ({ cls := "InkFolds", name := "replaces", desc := "(III)I" } : Jvm.MethodName)) ∈ zTw := zTw_mem (List.mem_of_getElem? (i := 1151) (by decide +kernel)) rfl
theorem zwd1152 : (Jvm.Cond.instanceMethod ({ cls := "InkFolds", name := "replaces", desc := "(III)I" } : Jvm.MethodName)) ∈ zTw := zTw_mem (List.mem_of_getElem? (i := 1152) (by decide +kernel)) rfl
theorem zwd1153 : (Jvm.Cond.selects "InkFolds" ({ cls := "InkFolds", name := "replaces", desc := "(III)I" } : Jvm.MethodName) ({ cls := "InkFolds", name := "replaces", desc := "(III)I" } : Jvm.MethodName)) ∈ zTw := zTw_mem (List.mem_of_getElem? (i := 1153) (by decide +kernel)) rfl
theorem zwd1158 : (Jvm.Cond.methodLink "InkFoldsLaw" (171 : Nat) ({ cls := "InkFolds", name := "doubt", desc := "()I" } : Jvm.MethodName)) ∈ zTw := zTw_mem (List.mem_of_getElem? (i := 1158) (by decide +kernel)) rfl
theorem zwd1159 : (Jvm.Cond.instanceMethod ({ cls := "InkFolds", name := "doubt", desc := "()I" } : Jvm.MethodName)) ∈ zTw := zTw_mem (List.mem_of_getElem? (i := 1159) (by decide +kernel)) rfl
theorem zwd1160 : (Jvm.Cond.selects "InkFolds" ({ cls := "InkFolds", name := "doubt", desc := "()I" } : Jvm.MethodName) ({ cls := "InkFolds", name := "doubt", desc := "()I" } : Jvm.MethodName)) ∈ zTw := zTw_mem (List.mem_of_getElem? (i := 1160) (by decide +kernel)) rfl
theorem zwd1167 : (Jvm.Cond.methodLink "InkFoldsLaw" (175 : Nat) ({ cls := "InkFolds", name := "asks", desc := "()I" } : Jvm.MethodName)) ∈ zTw := zTw_mem (List.mem_of_getElem? (i := 1167) (by decide +kernel)) rfl
theorem zwd1168 : (Jvm.Cond.instanceMethod ({ cls := "InkFolds", name := "asks", desc := "()I" } : Jvm.MethodName)) ∈ zTw := zTw_mem (List.mem_of_getElem? (i := 1168) (by decide +kernel)) rfl
theorem zwd1169 : (Jvm.Cond.selects "InkFolds" ({ cls := "InkFolds", name := "asks", desc := "()I" } : Jvm.MethodName) ({ cls := "InkFolds", name := "asks", desc := "()I" } : Jvm.MethodName)) ∈ zTw := zTw_mem (List.mem_of_getElem? (i := 1169) (by decide +kernel)) rfl
theorem zwd1173 : (Jvm.Cond.methodLink "InkFoldsLaw" (179 : Nat) ({ cls := "InkFolds", name := "other", desc := "(I)I" } : Jvm.MethodName)) ∈ zTw := zTw_mem (List.mem_of_getElem? (i := 1173) (by decide +kernel)) rfl
theorem zwd1174 : (Jvm.Cond.instanceMethod ({ cls := "InkFolds", name := "other", desc := "(I)I" } : Jvm.MethodName)) ∈ zTw := zTw_mem (List.mem_of_getElem? (i := 1174) (by decide +kernel)) rfl
theorem zwd1175 : (Jvm.Cond.selects "InkFolds" ({ cls := "InkFolds", name := "other", desc := "(I)I" } : Jvm.MethodName) ({ cls := "InkFolds", name := "other", desc := "(I)I" } : Jvm.MethodName)) ∈ zTw := zTw_mem (List.mem_of_getElem? (i := 1175) (by decide +kernel)) rfl
theorem zwd1177 : (Jvm.Cond.methodLink "InkFoldsLaw" (183 : Nat) ({ cls := "InkFolds", name := "carry", desc := "(II)I" } : Jvm.MethodName)) ∈ zTw := zTw_mem (List.mem_of_getElem? (i := 1177) (by decide +kernel)) rfl
theorem zwd1178 : (Jvm.Cond.instanceMethod ({ cls := "InkFolds", name := "carry", desc := "(II)I" } : Jvm.MethodName)) ∈ zTw := zTw_mem (List.mem_of_getElem? (i := 1178) (by decide +kernel)) rfl
theorem zwd1179 : (Jvm.Cond.selects "InkFolds" ({ cls := "InkFolds", name := "carry", desc := "(II)I" } : Jvm.MethodName) ({ cls := "InkFolds", name := "carry", desc := "(II)I" } : Jvm.MethodName)) ∈ zTw := zTw_mem (List.mem_of_getElem? (i := 1179) (by decide +kernel)) rfl
theorem zwd1181 : (Jvm.Cond.methodLink "InkFoldsLaw" (187 : Nat) ({ cls := "InkFolds", name := "drifts", desc := "(II)I" } : Jvm.MethodName)) ∈ zTw := zTw_mem (List.mem_of_getElem? (i := 1181) (by decide +kernel)) rfl
theorem zwd1182 : (Jvm.Cond.instanceMethod ({ cls := "InkFolds", name := "drifts", desc := "(II)I" } : Jvm.MethodName)) ∈ zTw := zTw_mem (List.mem_of_getElem? (i := 1182) (by decide +kernel)) rfl
theorem zwd1183 : (Jvm.Cond.selects "InkFolds" ({ cls := "InkFolds", name := "drifts", desc := "(II)I" } : Jvm.MethodName) ({ cls := "InkFolds", name := "drifts", desc := "(II)I" } : Jvm.MethodName)) ∈ zTw := zTw_mem (List.mem_of_getElem? (i := 1183) (by decide +kernel)) rfl
theorem zwd1193 : (Jvm.Cond.methodLink "InkFoldsLaw" (191 : Nat) ({ cls := "InkFolds", name := "keep", desc := "(I)Z" } : Jvm.MethodName)) ∈ zTw := zTw_mem (List.mem_of_getElem? (i := 1193) (by decide +kernel)) rfl
theorem zwd1194 : (Jvm.Cond.instanceMethod ({ cls := "InkFolds", name := "keep", desc := "(I)Z" } : Jvm.MethodName)) ∈ zTw := zTw_mem (List.mem_of_getElem? (i := 1194) (by decide +kernel)) rfl
theorem zwd1195 : (Jvm.Cond.selects "InkFolds" ({ cls := "InkFolds", name := "keep", desc := "(I)Z" } : Jvm.MethodName) ({ cls := "InkFolds", name := "keep", desc := "(I)Z" } : Jvm.MethodName)) ∈ zTw := zTw_mem (List.mem_of_getElem? (i := 1195) (by decide +kernel)) rfl
theorem zwd1197 : (Jvm.Cond.methodLink "InkFoldsLaw" (195 : Nat) ({ cls := "InkFolds", name := "again", desc := "(I)Z" } : Jvm.MethodName)) ∈ zTw := zTw_mem (List.mem_of_getElem? (i := 1197) (by decide +kernel)) rfl
theorem zwd1198 : (Jvm.Cond.instanceMethod ({ cls := "InkFolds", name := "again", desc := "(I)Z" } : Jvm.MethodName)) ∈ zTw := zTw_mem (List.mem_of_getElem? (i := 1198) (by decide +kernel)) rfl
theorem zwd1199 : (Jvm.Cond.selects "InkFolds" ({ cls := "InkFolds", name := "again", desc := "(I)Z" } : Jvm.MethodName) ({ cls := "InkFolds", name := "again", desc := "(I)Z" } : Jvm.MethodName)) ∈ zTw := zTw_mem (List.mem_of_getElem? (i := 1199) (by decide +kernel)) rfl
theorem zwd1201 : (Jvm.Cond.methodLink "InkFoldsLaw" (199 : Nat) ({ cls := "InkFolds", name := "count", desc := "(I)I" } : Jvm.MethodName)) ∈ zTw := zTw_mem (List.mem_of_getElem? (i := 1201) (by decide +kernel)) rfl
theorem zwd1202 : (Jvm.Cond.instanceMethod ({ cls := "InkFolds", name := "count", desc := "(I)I" } : Jvm.MethodName)) ∈ zTw := zTw_mem (List.mem_of_getElem? (i := 1202) (by decide +kernel)) rfl
theorem zwd1203 : (Jvm.Cond.selects "InkFolds" ({ cls := "InkFolds", name := "count", desc := "(I)I" } : Jvm.MethodName) ({ cls := "InkFolds", name := "count", desc := "(I)I" } : Jvm.MethodName)) ∈ zTw := zTw_mem (List.mem_of_getElem? (i := 1203) (by decide +kernel)) rfl
theorem zwd1444 : (Jvm.Cond.methodLink "InkFoldsLaw" (59 : Nat) ({ cls := "InkFoldsModel", name := "thrown", desc := "()I" } : Jvm.MethodName)) ∈ zTw := zTw_mem (List.mem_of_getElem? (i := 1444) (by decide +kernel)) rfl
theorem zwd1445 : (Jvm.Cond.instanceMethod ({ cls := "InkFoldsModel", name := "thrown", desc := "()I" } : Jvm.MethodName)) ∈ zTw := zTw_mem (List.mem_of_getElem? (i := 1445) (by decide +kernel)) rfl
theorem zwd1446 : (Jvm.Cond.selects "InkFoldsModel" ({ cls := "InkFoldsModel", name := "thrown", desc := "()I" } : Jvm.MethodName) ({ cls := "InkFoldsModel", name := "thrown", desc := "()I" } : Jvm.MethodName)) ∈ zTw := zTw_mem (List.mem_of_getElem? (i := 1446) (by decide +kernel)) rfl
theorem zwd1448 : (Jvm.Cond.methodLink "InkFoldsLaw" (30 : Nat) ({ cls := "InkFoldsModel", name := "sign", desc := "(I)I" } : Jvm.MethodName)) ∈ zTw := zTw_mem (List.mem_of_getElem? (i := 1448) (by decide +kernel)) rfl
theorem zwd1449 : (Jvm.Cond.instanceMethod ({ cls := "InkFoldsModel", name := "sign", desc := "(I)I" } : Jvm.MethodName)) ∈ zTw := zTw_mem (List.mem_of_getElem? (i := 1449) (by decide +kernel)) rfl
theorem zwd1450 : (Jvm.Cond.selects "InkFoldsModel" ({ cls := "InkFoldsModel", name := "sign", desc := "(I)I" } : Jvm.MethodName) ({ cls := "InkFoldsModel", name := "sign", desc := "(I)I" } : Jvm.MethodName)) ∈ zTw := zTw_mem (List.mem_of_getElem? (i := 1450) (by decide +kernel)) rfl
theorem zwd1452 : (Jvm.Cond.methodLink "InkFoldsLaw" (35 : Nat) ({ cls := "InkFoldsModel", name := "end", desc := "(I)Z" } : Jvm.MethodName)) ∈ zTw := zTw_mem (List.mem_of_getElem? (i := 1452) (by decide +kernel)) rfl
theorem zwd1453 : (Jvm.Cond.instanceMethod ({ cls := "InkFoldsModel", name := "end", desc := "(I)Z" } : Jvm.MethodName)) ∈ zTw := zTw_mem (List.mem_of_getElem? (i := 1453) (by decide +kernel)) rfl
theorem zwd1454 : (Jvm.Cond.selects "InkFoldsModel" ({ cls := "InkFoldsModel", name := "end", desc := "(I)Z" } : Jvm.MethodName) ({ cls := "InkFoldsModel", name := "end", desc := "(I)Z" } : Jvm.MethodName)) ∈ zTw := zTw_mem (List.mem_of_getElem? (i := 1454) (by decide +kernel)) rfl
theorem zwd1459 : (Jvm.Cond.methodLink "InkFoldsLaw" (40 : Nat) ({ cls := "InkFoldsModel", name := "patches", desc := "()I" } : Jvm.MethodName)) ∈ zTw := zTw_mem (List.mem_of_getElem? (i := 1459) (by decide +kernel)) rfl
theorem zwd1460 : (Jvm.Cond.instanceMethod ({ cls := "InkFoldsModel", name := "patches", desc := "()I" } : Jvm.MethodName)) ∈ zTw := zTw_mem (List.mem_of_getElem? (i := 1460) (by decide +kernel)) rfl
theorem zwd1461 : (Jvm.Cond.selects "InkFoldsModel" ({ cls := "InkFoldsModel", name := "patches", desc := "()I" } : Jvm.MethodName) ({ cls := "InkFoldsModel", name := "patches", desc := "()I" } : Jvm.MethodName)) ∈ zTw := zTw_mem (List.mem_of_getElem? (i := 1461) (by decide +kernel)) rfl
theorem zwd1517 : (Jvm.Cond.methodLink "InkFoldsLaw" (44 : Nat) ({ cls := "InkFoldsModel", name := "curve", desc := "(I)I" } : Jvm.MethodName)) ∈ zTw := zTw_mem (List.mem_of_getElem? (i := 1517) (by decide +kernel)) rfl
theorem zwd1518 : (Jvm.Cond.instanceMethod ({ cls := "InkFoldsModel", name := "curve", desc := "(I)I" } : Jvm.MethodName)) ∈ zTw := zTw_mem (List.mem_of_getElem? (i := 1518) (by decide +kernel)) rfl
theorem zwd1519 : (Jvm.Cond.selects "InkFoldsModel" ({ cls := "InkFoldsModel", name := "curve", desc := "(I)I" } : Jvm.MethodName) ({ cls := "InkFoldsModel", name := "curve", desc := "(I)I" } : Jvm.MethodName)) ∈ zTw := zTw_mem (List.mem_of_getElem? (i := 1519) (by decide +kernel)) rfl
theorem zwd1525 : (Jvm.Cond.methodLink "InkFoldsLaw" (48 : Nat) ({ cls := "InkFoldsModel", name := "link", desc := "()I" } : Jvm.MethodName)) ∈ zTw := zTw_mem (List.mem_of_getElem? (i := 1525) (by decide +kernel)) rfl
theorem zwd1526 : (Jvm.Cond.instanceMethod ({ cls := "InkFoldsModel", name := "link", desc := "()I" } : Jvm.MethodName)) ∈ zTw := zTw_mem (List.mem_of_getElem? (i := 1526) (by decide +kernel)) rfl
theorem zwd1527 : (Jvm.Cond.selects "InkFoldsModel" ({ cls := "InkFoldsModel", name := "link", desc := "()I" } : Jvm.MethodName) ({ cls := "InkFoldsModel", name := "link", desc := "()I" } : Jvm.MethodName)) ∈ zTw := zTw_mem (List.mem_of_getElem? (i := 1527) (by decide +kernel)) rfl
theorem zwd1558 : (Jvm.Cond.methodLink "InkFoldsLaw" (52 : Nat) ({ cls := "InkFoldsModel", name := "picture", desc := "()I" } : Jvm.MethodName)) ∈ zTw := zTw_mem (List.mem_of_getElem? (i := 1558) (by decide +kernel)) rfl
theorem zwd1559 : (Jvm.Cond.instanceMethod ({ cls := "InkFoldsModel", name := "picture", desc := "()I" } : Jvm.MethodName)) ∈ zTw := zTw_mem (List.mem_of_getElem? (i := 1559) (by decide +kernel)) rfl
theorem zwd1560 : (Jvm.Cond.selects "InkFoldsModel" ({ cls := "InkFoldsModel", name := "picture", desc := "()I" } : Jvm.MethodName) ({ cls := "InkFoldsModel", name := "picture", desc := "()I" } : Jvm.MethodName)) ∈ zTw := zTw_mem (List.mem_of_getElem? (i := 1560) (by decide +kernel)) rfl
theorem zwd1562 : (Jvm.Cond.methodLink "InkFoldsLaw" (58 : Nat) ({ cls := "InkFoldsModel", name := "light", desc := "(II)I" } : Jvm.MethodName)) ∈ zTw := zTw_mem (List.mem_of_getElem? (i := 1562) (by decide +kernel)) rfl
theorem zwd1563 : (Jvm.Cond.instanceMethod ({ cls := "InkFoldsModel", name := "light", desc := "(II)I" } : Jvm.MethodName)) ∈ zTw := zTw_mem (List.mem_of_getElem? (i := 1563) (by decide +kernel)) rfl
theorem zwd1564 : (Jvm.Cond.selects "InkFoldsModel" ({ cls := "InkFoldsModel", name := "light", desc := "(II)I" } : Jvm.MethodName) ({ cls := "InkFoldsModel", name := "light", desc := "(II)I" } : Jvm.MethodName)) ∈ zTw := zTw_mem (List.mem_of_getElem? (i := 1564) (by decide +kernel)) rfl
theorem zwd1580 : (Jvm.Cond.methodLink "InkFoldsLaw" (64 : Nat) ({ cls := "InkFoldsModel", name := "bent", desc := "(II)I" } : Jvm.MethodName)) ∈ zTw := zTw_mem (List.mem_of_getElem? (i := 1580) (by decide +kernel)) rfl
theorem zwd1581 : (Jvm.Cond.instanceMethod ({ cls := "InkFoldsModel", name := "bent", desc := "(II)I" } : Jvm.MethodName)) ∈ zTw := zTw_mem (List.mem_of_getElem? (i := 1581) (by decide +kernel)) rfl
theorem zwd1582 : (Jvm.Cond.selects "InkFoldsModel" ({ cls := "InkFoldsModel", name := "bent", desc := "(II)I" } : Jvm.MethodName) ({ cls := "InkFoldsModel", name := "bent", desc := "(II)I" } : Jvm.MethodName)) ∈ zTw := zTw_mem (List.mem_of_getElem? (i := 1582) (by decide +kernel)) rfl
theorem zwd1584 : (Jvm.Cond.methodLink "InkFoldsLaw" (69 : Nat) ({ cls := "InkFoldsModel", name := "sheet", desc := "(IIII)I" } : Jvm.MethodName)) ∈ zTw := zTw_mem (List.mem_of_getElem? (i := 1584) (by decide +kernel)) rfl
theorem zwd1585 : (Jvm.Cond.instanceMethod ({ cls := "InkFoldsModel", name := "sheet", desc := "(IIII)I" } : Jvm.MethodName)) ∈ zTw := zTw_mem (List.mem_of_getElem? (i := 1585) (by decide +kernel)) rfl
theorem zwd1586 : (Jvm.Cond.selects "InkFoldsModel" ({ cls := "InkFoldsModel", name := "sheet", desc := "(IIII)I" } : Jvm.MethodName) ({ cls := "InkFoldsModel", name := "sheet", desc := "(IIII)I" } : Jvm.MethodName)) ∈ zTw := zTw_mem (List.mem_of_getElem? (i := 1586) (by decide +kernel)) rfl
theorem zwd1591 : (Jvm.Cond.methodLink "InkFoldsLaw" (97 : Nat) ({ cls := "InkFoldsModel", name := "colour", desc := "(I)I" } : Jvm.MethodName)) ∈ zTw := zTw_mem (List.mem_of_getElem? (i := 1591) (by decide +kernel)) rfl
theorem zwd1592 : (Jvm.Cond.instanceMethod ({ cls := "InkFoldsModel", name := "colour", desc := "(I)I" } : Jvm.MethodName)) ∈ zTw := zTw_mem (List.mem_of_getElem? (i := 1592) (by decide +kernel)) rfl
theorem zwd1593 : (Jvm.Cond.selects "InkFoldsModel" ({ cls := "InkFoldsModel", name := "colour", desc := "(I)I" } : Jvm.MethodName) ({ cls := "InkFoldsModel", name := "colour", desc := "(I)I" } : Jvm.MethodName)) ∈ zTw := zTw_mem (List.mem_of_getElem? (i := 1593) (by decide +kernel)) rfl
theorem zwd1620 : (Jvm.Cond.methodLink "InkFoldsLaw" (101 : Nat) ({ cls := "InkFoldsModel", name := "limited", desc := "(II)I" } : Jvm.MethodName)) ∈ zTw := zTw_mem (List.mem_of_getElem? (i := 1620) (by decide +kernel)) rfl
theorem zwd1621 : (Jvm.Cond.instanceMethod ({ cls := "InkFoldsModel", name := "limited", desc := "(II)I" } : Jvm.MethodName)) ∈ zTw := zTw_mem (List.mem_of_getElem? (i := 1621) (by decide +kernel)) rfl
theorem zwd1622 : (Jvm.Cond.selects "InkFoldsModel" ({ cls := "InkFoldsModel", name := "limited", desc := "(II)I" } : Jvm.MethodName) ({ cls := "InkFoldsModel", name := "limited", desc := "(II)I" } : Jvm.MethodName)) ∈ zTw := zTw_mem (List.mem_of_getElem? (i := 1622) (by decide +kernel)) rfl
theorem zwd1636 : (Jvm.Cond.methodLink "InkFoldsLaw" (106 : Nat) ({ cls := "InkFoldsModel", name := "match", desc := "(III)I" } : Jvm.MethodName)) ∈ zTw := zTw_mem (List.mem_of_getElem? (i := 1636) (by decide +kernel)) rfl
theorem zwd1637 : (Jvm.Cond.instanceMethod ({ cls := "InkFoldsModel", name := "match", desc := "(III)I" } : Jvm.MethodName)) ∈ zTw := zTw_mem (List.mem_of_getElem? (i := 1637) (by decide +kernel)) rfl
theorem zwd1638 : (Jvm.Cond.selects "InkFoldsModel" ({ cls := "InkFoldsModel", name := "match", desc := "(III)I" } : Jvm.MethodName) ({ cls := "InkFoldsModel", name := "match", desc := "(III)I" } : Jvm.MethodName)) ∈ zTw := zTw_mem (List.mem_of_getElem? (i := 1638) (by decide +kernel)) rfl
theorem zwd1674 : (Jvm.Cond.methodLink "InkFoldsLaw" (110 : Nat) ({ cls := "InkFoldsModel", name := "fold", desc := "(III)I" } : Jvm.MethodName)) ∈ zTw := zTw_mem (List.mem_of_getElem? (i := 1674) (by decide +kernel)) rfl
theorem zwd1675 : (Jvm.Cond.instanceMethod ({ cls := "InkFoldsModel", name := "fold", desc := "(III)I" } : Jvm.MethodName)) ∈ zTw := zTw_mem (List.mem_of_getElem? (i := 1675) (by decide +kernel)) rfl
theorem zwd1676 : (Jvm.Cond.selects "InkFoldsModel" ({ cls := "InkFoldsModel", name := "fold", desc := "(III)I" } : Jvm.MethodName) ({ cls := "InkFoldsModel", name := "fold", desc := "(III)I" } : Jvm.MethodName)) ∈ zTw := zTw_mem (List.mem_of_getElem? (i := 1676) (by decide +kernel)) rfl
theorem zwd1686 : (Jvm.Cond.methodLink "InkFoldsLaw" (114 : Nat) ({ cls := "InkFoldsModel", name := "prints", desc := "(III)I" } : Jvm.MethodName)) ∈ zTw := zTw_mem (List.mem_of_getElem? (i := 1686) (by decide +kernel)) rfl
theorem zwd1687 : (Jvm.Cond.instanceMethod ({ cls := "InkFoldsModel", name := "prints", desc := "(III)I" } : Jvm.MethodName)) ∈ zTw := zTw_mem (List.mem_of_getElem? (i := 1687) (by decide +kernel)) rfl
theorem zwd1688 : (Jvm.Cond.selects "InkFoldsModel" ({ cls := "InkFoldsModel", name := "prints", desc := "(III)I" } : Jvm.MethodName) ({ cls := "InkFoldsModel", name := "prints", desc := "(III)I" } : Jvm.MethodName)) ∈ zTw := zTw_mem (List.mem_of_getElem? (i := 1688) (by decide +kernel)) rfl
theorem zwd1721 : (Jvm.Cond.methodLink "InkFoldsLaw" (142 : Nat) ({ cls := "InkFoldsModel", name := "through", desc := "(I)I" } : Jvm.MethodName)) ∈ zTw := zTw_mem (List.mem_of_getElem? (i := 1721) (by decide +kernel)) rfl
theorem zwd1722 : (Jvm.Cond.instanceMethod ({ cls := "InkFoldsModel", name := "through", desc := "(I)I" } : Jvm.MethodName)) ∈ zTw := zTw_mem (List.mem_of_getElem? (i := 1722) (by decide +kernel)) rfl
theorem zwd1723 : (Jvm.Cond.selects "InkFoldsModel" ({ cls := "InkFoldsModel", name := "through", desc := "(I)I" } : Jvm.MethodName) ({ cls := "InkFoldsModel", name := "through", desc := "(I)I" } : Jvm.MethodName)) ∈ zTw := zTw_mem (List.mem_of_getElem? (i := 1723) (by decide +kernel)) rfl
theorem zwd1725 : (Jvm.Cond.methodLink "InkFoldsLaw" (146 : Nat) ({ cls := "InkFoldsModel", name := "sources", desc := "(I)I" } : Jvm.MethodName)) ∈ zTw := zTw_mem (List.mem_of_getElem? (i := 1725) (by decide +kernel)) rfl
theorem zwd1726 : (Jvm.Cond.instanceMethod ({ cls := "InkFoldsModel", name := "sources", desc := "(I)I" } : Jvm.MethodName)) ∈ zTw := zTw_mem (List.mem_of_getElem? (i := 1726) (by decide +kernel)) rfl
theorem zwd1727 : (Jvm.Cond.selects "InkFoldsModel" ({ cls := "InkFoldsModel", name := "sources", desc := "(I)I" } : Jvm.MethodName) ({ cls := "InkFoldsModel", name := "sources", desc := "(I)I" } : Jvm.MethodName)) ∈ zTw := zTw_mem (List.mem_of_getElem? (i := 1727) (by decide +kernel)) rfl
theorem zwd1729 : (Jvm.Cond.methodLink "InkFoldsLaw" (150 : Nat) ({ cls := "InkFoldsModel", name := "rounds", desc := "(I)I" } : Jvm.MethodName)) ∈ zTw := zTw_mem (List.mem_of_getElem? (i := 1729) (by decide +kernel)) rfl
theorem zwd1730 : (Jvm.Cond.instanceMethod ({ cls := "InkFoldsModel", name := "rounds", desc := "(I)I" } : Jvm.MethodName)) ∈ zTw := zTw_mem (List.mem_of_getElem? (i := 1730) (by decide +kernel)) rfl
theorem zwd1731 : (Jvm.Cond.selects "InkFoldsModel" ({ cls := "InkFoldsModel", name := "rounds", desc := "(I)I" } : Jvm.MethodName) ({ cls := "InkFoldsModel", name := "rounds", desc := "(I)I" } : Jvm.MethodName)) ∈ zTw := zTw_mem (List.mem_of_getElem? (i := 1731) (by decide +kernel)) rfl
theorem zwd1733 : (Jvm.Cond.methodLink "InkFoldsLaw" (118 : Nat) ({ cls := "InkFoldsModel", name := "ramp", desc := "(II)I" } : Jvm.MethodName)) ∈ zTw := zTw_mem (List.mem_of_getElem? (i := 1733) (by decide +kernel)) rfl
theorem zwd1734 : (Jvm.Cond.instanceMethod ({ cls := "InkFoldsModel", name := "ramp", desc := "(II)I" } : Jvm.MethodName)) ∈ zTw := zTw_mem (List.mem_of_getElem? (i := 1734) (by decide +kernel)) rfl
theorem zwd1735 : (Jvm.Cond.selects "InkFoldsModel" ({ cls := "InkFoldsModel", name := "ramp", desc := "(II)I" } : Jvm.MethodName) ({ cls := "InkFoldsModel", name := "ramp", desc := "(II)I" } : Jvm.MethodName)) ∈ zTw := zTw_mem (List.mem_of_getElem? (i := 1735) (by decide +kernel)) rfl
theorem zwd1737 : (Jvm.Cond.methodLink "InkFoldsLaw" (122 : Nat) ({ cls := "InkFoldsModel", name := "way", desc := "(III)I" } : Jvm.MethodName)) ∈ zTw := zTw_mem (List.mem_of_getElem? (i := 1737) (by decide +kernel)) rfl
theorem zwd1738 : (Jvm.Cond.instanceMethod ({ cls := "InkFoldsModel", name := "way", desc := "(III)I" } : Jvm.MethodName)) ∈ zTw := zTw_mem (List.mem_of_getElem? (i := 1738) (by decide +kernel)) rfl
theorem zwd1739 : (Jvm.Cond.selects "InkFoldsModel" ({ cls := "InkFoldsModel", name := "way", desc := "(III)I" } : Jvm.MethodName) ({ cls := "InkFoldsModel", name := "way", desc := "(III)I" } : Jvm.MethodName)) ∈ zTw := zTw_mem (List.mem_of_getElem? (i := 1739) (by decide +kernel)) rfl
theorem zwd1752 : (Jvm.Cond.methodLink "InkFoldsLaw" (126 : Nat) ({ cls := "InkFoldsModel", name := "rises", desc := "(I)I" } : Jvm.MethodName)) ∈ zTw := zTw_mem (List.mem_of_getElem? (i := 1752) (by decide +kernel)) rfl
theorem zwd1753 : (Jvm.Cond.instanceMethod ({ cls := "InkFoldsModel", name := "rises", desc := "(I)I" } : Jvm.MethodName)) ∈ zTw := zTw_mem (List.mem_of_getElem? (i := 1753) (by decide +kernel)) rfl
theorem zwd1754 : (Jvm.Cond.selects "InkFoldsModel" ({ cls := "InkFoldsModel", name := "rises", desc := "(I)I" } : Jvm.MethodName) ({ cls := "InkFoldsModel", name := "rises", desc := "(I)I" } : Jvm.MethodName)) ∈ zTw := zTw_mem (List.mem_of_getElem? (i := 1754) (by decide +kernel)) rfl
theorem zwd1760 : (Jvm.Cond.methodLink "InkFoldsLaw" (130 : Nat) ({ cls := "InkFoldsModel", name := "reach", desc := "(I)I" } : Jvm.MethodName)) ∈ zTw := zTw_mem (List.mem_of_getElem? (i := 1760) (by decide +kernel)) rfl
theorem zwd1761 : (Jvm.Cond.instanceMethod ({ cls := "InkFoldsModel", name := "reach", desc := "(I)I" } : Jvm.MethodName)) ∈ zTw := zTw_mem (List.mem_of_getElem? (i := 1761) (by decide +kernel)) rfl
theorem zwd1762 : (Jvm.Cond.selects "InkFoldsModel" ({ cls := "InkFoldsModel", name := "reach", desc := "(I)I" } : Jvm.MethodName) ({ cls := "InkFoldsModel", name := "reach", desc := "(I)I" } : Jvm.MethodName)) ∈ zTw := zTw_mem (List.mem_of_getElem? (i := 1762) (by decide +kernel)) rfl
theorem zwd1764 : (Jvm.Cond.methodLink "InkFoldsLaw" (134 : Nat) ({ cls := "InkFoldsModel", name := "spread", desc := "()I" } : Jvm.MethodName)) ∈ zTw := zTw_mem (List.mem_of_getElem? (i := 1764) (by decide +kernel)) rfl
theorem zwd1765 : (Jvm.Cond.instanceMethod ({ cls := "InkFoldsModel", name := "spread", desc := "()I" } : Jvm.MethodName)) ∈ zTw := zTw_mem (List.mem_of_getElem? (i := 1765) (by decide +kernel)) rfl
theorem zwd1766 : (Jvm.Cond.selects "InkFoldsModel" ({ cls := "InkFoldsModel", name := "spread", desc := "()I" } : Jvm.MethodName) ({ cls := "InkFoldsModel", name := "spread", desc := "()I" } : Jvm.MethodName)) ∈ zTw := zTw_mem (List.mem_of_getElem? (i := 1766) (by decide +kernel)) rfl
theorem zwd1774 : (Jvm.Cond.methodLink "InkFoldsLaw" (138 : Nat) ({ cls := "InkFoldsModel", name := "odds", desc := "(IIII)I" } : Jvm.MethodName)) ∈ zTw := zTw_mem (List.mem_of_getElem? (i := 1774) (by decide +kernel)) rfl
theorem zwd1775 : (Jvm.Cond.instanceMethod ({ cls := "InkFoldsModel", name := "odds", desc := "(IIII)I" } : Jvm.MethodName)) ∈ zTw := zTw_mem (List.mem_of_getElem? (i := 1775) (by decide +kernel)) rfl
theorem zwd1776 : (Jvm.Cond.selects "InkFoldsModel" ({ cls := "InkFoldsModel", name := "odds", desc := "(IIII)I" } : Jvm.MethodName) ({ cls := "InkFoldsModel", name := "odds", desc := "(IIII)I" } : Jvm.MethodName)) ∈ zTw := zTw_mem (List.mem_of_getElem? (i := 1776) (by decide +kernel)) rfl
theorem zwd1781 : (Jvm.Cond.methodLink "InkFoldsLaw" (154 : Nat) ({ cls := "InkFoldsModel", name := "press", desc := "(I)I" } : Jvm.MethodName)) ∈ zTw := zTw_mem (List.mem_of_getElem? (i := 1781) (by decide +kernel)) rfl
theorem zwd1782 : (Jvm.Cond.instanceMethod ({ cls := "InkFoldsModel", name := "press", desc := "(I)I" } : Jvm.MethodName)) ∈ zTw := zTw_mem (List.mem_of_getElem? (i := 1782) (by decide +kernel)) rfl
theorem zwd1783 : (Jvm.Cond.selects "InkFoldsModel" ({ cls := "InkFoldsModel", name := "press", desc := "(I)I" } : Jvm.MethodName) ({ cls := "InkFoldsModel", name := "press", desc := "(I)I" } : Jvm.MethodName)) ∈ zTw := zTw_mem (List.mem_of_getElem? (i := 1783) (by decide +kernel)) rfl
theorem zwd1800 : (Jvm.Cond.methodLink "InkFoldsLaw" (158 : Nat) ({ cls := "InkFoldsModel", name := "cell", desc := "(II)I" } : Jvm.MethodName)) ∈ zTw := zTw_mem (List.mem_of_getElem? (i := 1800) (by decide +kernel)) rfl
theorem zwd1801 : (Jvm.Cond.instanceMethod ({ cls := "InkFoldsModel", name := "cell", desc := "(II)I" } : Jvm.MethodName)) ∈ zTw := zTw_mem (List.mem_of_getElem? (i := 1801) (by decide +kernel)) rfl
theorem zwd1802 : (Jvm.Cond.selects "InkFoldsModel" ({ cls := "InkFoldsModel", name := "cell", desc := "(II)I" } : Jvm.MethodName) ({ cls := "InkFoldsModel", name := "cell", desc := "(II)I" } : Jvm.MethodName)) ∈ zTw := zTw_mem (List.mem_of_getElem? (i := 1802) (by decide +kernel)) rfl
theorem zwd1804 : (Jvm.Cond.methodLink "InkFoldsLaw" (162 : Nat) ({ cls := "InkFoldsModel", name := "slips", desc := "(III)I" } : Jvm.MethodName)) ∈ zTw := zTw_mem (List.mem_of_getElem? (i := 1804) (by decide +kernel)) rfl
theorem zwd1805 : (Jvm.Cond.instanceMethod ({ cls := "InkFoldsModel", name := "slips", desc := "(III)I" } : Jvm.MethodName)) ∈ zTw := zTw_mem (List.mem_of_getElem? (i := 1805) (by decide +kernel)) rfl
theorem zwd1806 : (Jvm.Cond.selects "InkFoldsModel" ({ cls := "InkFoldsModel", name := "slips", desc := "(III)I" } : Jvm.MethodName) ({ cls := "InkFoldsModel", name := "slips", desc := "(III)I" } : Jvm.MethodName)) ∈ zTw := zTw_mem (List.mem_of_getElem? (i := 1806) (by decide +kernel)) rfl
theorem zwd1808 : (Jvm.Cond.methodLink "InkFoldsLaw" (166 : Nat) ({ cls := "InkFoldsModel", name := "greys", desc := "(II)I" } : Jvm.MethodName)) ∈ zTw := zTw_mem (List.mem_of_getElem? (i := 1808) (by decide +kernel)) rfl
theorem zwd1809 : (Jvm.Cond.instanceMethod ({ cls := "InkFoldsModel", name := "greys", desc := "(II)I" } : Jvm.MethodName)) ∈ zTw := zTw_mem (List.mem_of_getElem? (i := 1809) (by decide +kernel)) rfl
theorem zwd1810 : (Jvm.Cond.selects "InkFoldsModel" ({ cls := "InkFoldsModel", name := "greys", desc := "(II)I" } : Jvm.MethodName) ({ cls := "InkFoldsModel", name := "greys", desc := "(II)I" } : Jvm.MethodName)) ∈ zTw := zTw_mem (List.mem_of_getElem? (i := 1810) (by decide +kernel)) rfl
theorem zwd1820 : (Jvm.Cond.methodLink "InkFoldsLaw" (170 : Nat) ({ cls := "InkFoldsModel", name := "replaces", desc := "(III)I" } : Jvm.MethodName)) ∈ zTw := zTw_mem (List.mem_of_getElem? (i := 1820) (by decide +kernel)) rfl
theorem zwd1821 : (Jvm.Cond.instanceMethod ({ cls := "InkFoldsModel", name := "replaces", desc := "(III)I" } : Jvm.MethodName)) ∈ zTw := zTw_mem (List.mem_of_getElem? (i := 1821) (by decide +kernel)) rfl
theorem zwd1822 : (Jvm.Cond.selects "InkFoldsModel" ({ cls := "InkFoldsModel", name := "replaces", desc := "(III)I" } : Jvm.MethodName) ({ cls := "InkFoldsModel", name := "replaces", desc := "(III)I" } : Jvm.MethodName)) ∈ zTw := zTw_mem (List.mem_of_getElem? (i := 1822) (by decide +kernel)) rfl
theorem zwd1827 : (Jvm.Cond.methodLink "InkFoldsLaw" (174 : Nat) ({ cls := "InkFoldsModel", name := "doubt", desc := "()I" } : Jvm.MethodName)) ∈ zTw := zTw_mem (List.mem_of_getElem? (i := 1827) (by decide +kernel)) rfl
theorem zwd1828 : (Jvm.Cond.instanceMethod ({ cls := "InkFoldsModel", name := "doubt", desc := "()I" } : Jvm.MethodName)) ∈ zTw := zTw_mem (List.mem_of_getElem? (i := 1828) (by decide +kernel)) rfl
theorem zwd1829 : (Jvm.Cond.selects "InkFoldsModel" ({ cls := "InkFoldsModel", name := "doubt", desc := "()I" } : Jvm.MethodName) ({ cls := "InkFoldsModel", name := "doubt", desc := "()I" } : Jvm.MethodName)) ∈ zTw := zTw_mem (List.mem_of_getElem? (i := 1829) (by decide +kernel)) rfl
theorem zwd1831 : (Jvm.Cond.methodLink "InkFoldsLaw" (178 : Nat) ({ cls := "InkFoldsModel", name := "asks", desc := "()I" } : Jvm.MethodName)) ∈ zTw := zTw_mem (List.mem_of_getElem? (i := 1831) (by decide +kernel)) rfl
theorem zwd1832 : (Jvm.Cond.instanceMethod ({ cls := "InkFoldsModel", name := "asks", desc := "()I" } : Jvm.MethodName)) ∈ zTw := zTw_mem (List.mem_of_getElem? (i := 1832) (by decide +kernel)) rfl
theorem zwd1833 : (Jvm.Cond.selects "InkFoldsModel" ({ cls := "InkFoldsModel", name := "asks", desc := "()I" } : Jvm.MethodName) ({ cls := "InkFoldsModel", name := "asks", desc := "()I" } : Jvm.MethodName)) ∈ zTw := zTw_mem (List.mem_of_getElem? (i := 1833) (by decide +kernel)) rfl
theorem zwd1835 : (Jvm.Cond.methodLink "InkFoldsLaw" (182 : Nat) ({ cls := "InkFoldsModel", name := "other", desc := "(I)I" } : Jvm.MethodName)) ∈ zTw := zTw_mem (List.mem_of_getElem? (i := 1835) (by decide +kernel)) rfl
theorem zwd1836 : (Jvm.Cond.instanceMethod ({ cls := "InkFoldsModel", name := "other", desc := "(I)I" } : Jvm.MethodName)) ∈ zTw := zTw_mem (List.mem_of_getElem? (i := 1836) (by decide +kernel)) rfl
theorem zwd1837 : (Jvm.Cond.selects "InkFoldsModel" ({ cls := "InkFoldsModel", name := "other", desc := "(I)I" } : Jvm.MethodName) ({ cls := "InkFoldsModel", name := "other", desc := "(I)I" } : Jvm.MethodName)) ∈ zTw := zTw_mem (List.mem_of_getElem? (i := 1837) (by decide +kernel)) rfl
theorem zwd1843 : (Jvm.Cond.methodLink "InkFoldsLaw" (186 : Nat) ({ cls := "InkFoldsModel", name := "carry", desc := "(II)I" } : Jvm.MethodName)) ∈ zTw := zTw_mem (List.mem_of_getElem? (i := 1843) (by decide +kernel)) rfl
theorem zwd1844 : (Jvm.Cond.instanceMethod ({ cls := "InkFoldsModel", name := "carry", desc := "(II)I" } : Jvm.MethodName)) ∈ zTw := zTw_mem (List.mem_of_getElem? (i := 1844) (by decide +kernel)) rfl
theorem zwd1845 : (Jvm.Cond.selects "InkFoldsModel" ({ cls := "InkFoldsModel", name := "carry", desc := "(II)I" } : Jvm.MethodName) ({ cls := "InkFoldsModel", name := "carry", desc := "(II)I" } : Jvm.MethodName)) ∈ zTw := zTw_mem (List.mem_of_getElem? (i := 1845) (by decide +kernel)) rfl
theorem zwd1847 : (Jvm.Cond.methodLink "InkFoldsLaw" (190 : Nat) ({ cls := "InkFoldsModel", name := "drifts", desc := "(II)I" } : Jvm.MethodName)) ∈ zTw := zTw_mem (List.mem_of_getElem? (i := 1847) (by decide +kernel)) rfl
theorem zwd1848 : (Jvm.Cond.instanceMethod ({ cls := "InkFoldsModel", name := "drifts", desc := "(II)I" } : Jvm.MethodName)) ∈ zTw := zTw_mem (List.mem_of_getElem? (i := 1848) (by decide +kernel)) rfl
theorem zwd1849 : (Jvm.Cond.selects "InkFoldsModel" ({ cls := "InkFoldsModel", name := "drifts", desc := "(II)I" } : Jvm.MethodName) ({ cls := "InkFoldsModel", name := "drifts", desc := "(II)I" } : Jvm.MethodName)) ∈ zTw := zTw_mem (List.mem_of_getElem? (i := 1849) (by decide +kernel)) rfl
theorem zwd1856 : (Jvm.Cond.methodLink "InkFoldsLaw" (73 : Nat) ({ cls := "InkFoldsModel", name := "measure", desc := "(IIII)I" } : Jvm.MethodName)) ∈ zTw := zTw_mem (List.mem_of_getElem? (i := 1856) (by decide +kernel)) rfl
theorem zwd1857 : (Jvm.Cond.instanceMethod ({ cls := "InkFoldsModel", name := "measure", desc := "(IIII)I" } : Jvm.MethodName)) ∈ zTw := zTw_mem (List.mem_of_getElem? (i := 1857) (by decide +kernel)) rfl
theorem zwd1858 : (Jvm.Cond.selects "InkFoldsModel" ({ cls := "InkFoldsModel", name := "measure", desc := "(IIII)I" } : Jvm.MethodName) ({ cls := "InkFoldsModel", name := "measure", desc := "(IIII)I" } : Jvm.MethodName)) ∈ zTw := zTw_mem (List.mem_of_getElem? (i := 1858) (by decide +kernel)) rfl
theorem zwd1864 : (Jvm.Cond.methodLink "InkFoldsLaw" (77 : Nat) ({ cls := "InkFoldsModel", name := "forgets", desc := "(I)I" } : Jvm.MethodName)) ∈ zTw := zTw_mem (List.mem_of_getElem? (i := 1864) (by decide +kernel)) rfl
theorem zwd1865 : (Jvm.Cond.instanceMethod ({ cls := "InkFoldsModel", name := "forgets", desc := "(I)I" } : Jvm.MethodName)) ∈ zTw := zTw_mem (List.mem_of_getElem? (i := 1865) (by decide +kernel)) rfl
theorem zwd1866 : (Jvm.Cond.selects "InkFoldsModel" ({ cls := "InkFoldsModel", name := "forgets", desc := "(I)I" } : Jvm.MethodName) ({ cls := "InkFoldsModel", name := "forgets", desc := "(I)I" } : Jvm.MethodName)) ∈ zTw := zTw_mem (List.mem_of_getElem? (i := 1866) (by decide +kernel)) rfl
theorem zwd1868 : (Jvm.Cond.methodLink "InkFoldsLaw" (81 : Nat) ({ cls := "InkFoldsModel", name := "sets", desc := "(II)I" } : Jvm.MethodName)) ∈ zTw := zTw_mem (List.mem_of_getElem? (i := 1868) (by decide +kernel)) rfl
theorem zwd1869 : (Jvm.Cond.instanceMethod ({ cls := "InkFoldsModel", name := "sets", desc := "(II)I" } : Jvm.MethodName)) ∈ zTw := zTw_mem (List.mem_of_getElem? (i := 1869) (by decide +kernel)) rfl
theorem zwd1870 : (Jvm.Cond.selects "InkFoldsModel" ({ cls := "InkFoldsModel", name := "sets", desc := "(II)I" } : Jvm.MethodName) ({ cls := "InkFoldsModel", name := "sets", desc := "(II)I" } : Jvm.MethodName)) ∈ zTw := zTw_mem (List.mem_of_getElem? (i := 1870) (by decide +kernel)) rfl
theorem zwd1880 : (Jvm.Cond.methodLink "InkFoldsLaw" (85 : Nat) ({ cls := "InkFoldsModel", name := "paints", desc := "(IIII)I" } : Jvm.MethodName)) ∈ zTw := zTw_mem (List.mem_of_getElem? (i := 1880) (by decide +kernel)) rfl
theorem zwd1881 : (Jvm.Cond.instanceMethod ({ cls := "InkFoldsModel", name := "paints", desc := "(IIII)I" } : Jvm.MethodName)) ∈ zTw := zTw_mem (List.mem_of_getElem? (i := 1881) (by decide +kernel)) rfl
theorem zwd1882 : (Jvm.Cond.selects "InkFoldsModel" ({ cls := "InkFoldsModel", name := "paints", desc := "(IIII)I" } : Jvm.MethodName) ({ cls := "InkFoldsModel", name := "paints", desc := "(IIII)I" } : Jvm.MethodName)) ∈ zTw := zTw_mem (List.mem_of_getElem? (i := 1882) (by decide +kernel)) rfl
theorem zwd1888 : (Jvm.Cond.methodLink "InkFoldsLaw" (89 : Nat) ({ cls := "InkFoldsModel", name := "day", desc := "()I" } : Jvm.MethodName)) ∈ zTw := zTw_mem (List.mem_of_getElem? (i := 1888) (by decide +kernel)) rfl
theorem zwd1889 : (Jvm.Cond.instanceMethod ({ cls := "InkFoldsModel", name := "day", desc := "()I" } : Jvm.MethodName)) ∈ zTw := zTw_mem (List.mem_of_getElem? (i := 1889) (by decide +kernel)) rfl
theorem zwd1890 : (Jvm.Cond.selects "InkFoldsModel" ({ cls := "InkFoldsModel", name := "day", desc := "()I" } : Jvm.MethodName) ({ cls := "InkFoldsModel", name := "day", desc := "()I" } : Jvm.MethodName)) ∈ zTw := zTw_mem (List.mem_of_getElem? (i := 1890) (by decide +kernel)) rfl
theorem zwd1904 : (Jvm.Cond.methodLink "InkFoldsLaw" (93 : Nat) ({ cls := "InkFoldsModel", name := "undo", desc := "()I" } : Jvm.MethodName)) ∈ zTw := zTw_mem (List.mem_of_getElem? (i := 1904) (by decide +kernel)) rfl
theorem zwd1905 : (Jvm.Cond.instanceMethod ({ cls := "InkFoldsModel", name := "undo", desc := "()I" } : Jvm.MethodName)) ∈ zTw := zTw_mem (List.mem_of_getElem? (i := 1905) (by decide +kernel)) rfl
theorem zwd1906 : (Jvm.Cond.selects "InkFoldsModel" ({ cls := "InkFoldsModel", name := "undo", desc := "()I" } : Jvm.MethodName) ({ cls := "InkFoldsModel", name := "undo", desc := "()I" } : Jvm.MethodName)) ∈ zTw := zTw_mem (List.mem_of_getElem? (i := 1906) (by decide +kernel)) rfl
theorem zwd1908 : (Jvm.Cond.methodLink "InkFoldsLaw" (194 : Nat) ({ cls := "InkFoldsModel", name := "keep", desc := "(I)Z" } : Jvm.MethodName)) ∈ zTw := zTw_mem (List.mem_of_getElem? (i := 1908) (by decide +kernel)) rfl
theorem zwd1909 : (Jvm.Cond.instanceMethod ({ cls := "InkFoldsModel", name := "keep", desc := "(I)Z" } : Jvm.MethodName)) ∈ zTw := zTw_mem (List.mem_of_getElem? (i := 1909) (by decide +kernel)) rfl
theorem zwd1910 : (Jvm.Cond.selects "InkFoldsModel" ({ cls := "InkFoldsModel", name := "keep", desc := "(I)Z" } : Jvm.MethodName) ({ cls := "InkFoldsModel", name := "keep", desc := "(I)Z" } : Jvm.MethodName)) ∈ zTw := zTw_mem (List.mem_of_getElem? (i := 1910) (by decide +kernel)) rfl
theorem zwd1912 : (Jvm.Cond.methodLink "InkFoldsLaw" (198 : Nat) ({ cls := "InkFoldsModel", name := "again", desc := "(I)Z" } : Jvm.MethodName)) ∈ zTw := zTw_mem (List.mem_of_getElem? (i := 1912) (by decide +kernel)) rfl
theorem zwd1913 : (Jvm.Cond.instanceMethod ({ cls := "InkFoldsModel", name := "again", desc := "(I)Z" } : Jvm.MethodName)) ∈ zTw := zTw_mem (List.mem_of_getElem? (i := 1913) (by decide +kernel)) rfl
theorem zwd1914 : (Jvm.Cond.selects "InkFoldsModel" ({ cls := "InkFoldsModel", name := "again", desc := "(I)Z" } : Jvm.MethodName) ({ cls := "InkFoldsModel", name := "again", desc := "(I)Z" } : Jvm.MethodName)) ∈ zTw := zTw_mem (List.mem_of_getElem? (i := 1914) (by decide +kernel)) rfl
theorem zwd1916 : (Jvm.Cond.methodLink "InkFoldsLaw" (202 : Nat) ({ cls := "InkFoldsModel", name := "count", desc := "(I)I" } : Jvm.MethodName)) ∈ zTw := zTw_mem (List.mem_of_getElem? (i := 1916) (by decide +kernel)) rfl
theorem zwd1917 : (Jvm.Cond.instanceMethod ({ cls := "InkFoldsModel", name := "count", desc := "(I)I" } : Jvm.MethodName)) ∈ zTw := zTw_mem (List.mem_of_getElem? (i := 1917) (by decide +kernel)) rfl
theorem zwd1918 : (Jvm.Cond.selects "InkFoldsModel" ({ cls := "InkFoldsModel", name := "count", desc := "(I)I" } : Jvm.MethodName) ({ cls := "InkFoldsModel", name := "count", desc := "(I)I" } : Jvm.MethodName)) ∈ zTw := zTw_mem (List.mem_of_getElem? (i := 1918) (by decide +kernel)) rfl
theorem zwd1920 : (Jvm.Cond.methodLink "InkFoldsLaw" (206 : Nat) ({ cls := "InkFoldsModel", name := "row", desc := "(I)J" } : Jvm.MethodName)) ∈ zTw := zTw_mem (List.mem_of_getElem? (i := 1920) (by decide +kernel)) rfl
theorem zwd1921 : (Jvm.Cond.instanceMethod ({ cls := "InkFoldsModel", name := "row", desc := "(I)J" } : Jvm.MethodName)) ∈ zTw := zTw_mem (List.mem_of_getElem? (i := 1921) (by decide +kernel)) rfl
theorem zwd1922 : (Jvm.Cond.selects "InkFoldsModel" ({ cls := "InkFoldsModel", name := "row", desc := "(I)J" } : Jvm.MethodName) ({ cls := "InkFoldsModel", name := "row", desc := "(I)J" } : Jvm.MethodName)) ∈ zTw := zTw_mem (List.mem_of_getElem? (i := 1922) (by decide +kernel)) rfl
section
variable {G : zG} {J : zG → Nat → zS → Prop}
theorem rL_sign (C : zJL G J) {i : Int} {μ : zM} {cn un : Nat} {l5 l6 l7 : Option zV} (hi : 0 ≤ i ∧ i + 4 < ((zst G 40).1 : Int)) (hn : (zst G 40).1 < 2147483648) (hb : cn + 43 ≤ 601024 ∧ un + 253 ≤ 7293034)
    (h : qX10_sign G (zsv G (i + 1)) μ (fun v1 μ1 => qX11_sign G (zsv G (i + 1)) μ1 (fun v2 μ2 => v1 = v2 ∧ J G 1691 (zLl i l5 l6 l7, [], μ2, cn, un)))) : J G 224 (zLl i l5 l6 l7, [], μ, cn, un) := by
  obtain ⟨p, e, s, m, below, meth, c, args, Q, A, hX, rfl⟩ := C
  refine s_aload_n A dL_law_224 rfl ?_
  refine s_aload_nT A dL_law_225 rfl ?_
  refine s_iload A dL_law_226 rfl ?_
  refine s_iconst A dL_law_228 ?_
  refine s_iadd A dL_law_229 ?_
  refine z_tald A dL_law_230 (Or.inr rfl) hn ⟨by omega, by omega⟩ ?_
  refine s_callV (a := 0) (k := 10) (N := 15) (sl := true) (M := mX10_sign) (n := 1) (d := 2) (mc := 0) (ms := 0) (av := [zI _]) (st := []) A dL_law_231 rfl (by decide) (zk_0 _) zwd384 zwd385 zwd386 zwd89 zcd_X10_sign (Nat.le_of_ble_eq_true rfl) (Nat.le_of_ble_eq_true rfl) (Nat.le_of_ble_eq_true rfl) ⟨by show _ ≤ 601024; omega, by show _ ≤ 7293034; omega⟩ ⟨rfl, zhn_X10_sign⟩ rfl (Nat.le_of_ble_eq_true rfl) rfl (z_contI (fun v1 μ1 h => ?_) h)
  refine s_aload_n A dL_law_234 rfl ?_
  refine s_aload_nT A dL_law_235 rfl ?_
  refine s_iload A dL_law_236 rfl ?_
  refine s_iconst A dL_law_238 ?_
  refine s_iadd A dL_law_239 ?_
  refine z_tald A dL_law_240 (Or.inr rfl) hn ⟨by omega, by omega⟩ ?_
  refine s_callV (a := 153) (k := 11) (N := 45) (sl := true) (M := mX11_sign) (n := 1) (d := 0) (mc := 0) (ms := 0) (av := [zI _]) (st := [zI v1]) A dL_law_241 rfl (by decide) (zk_153 _) zwd1448 zwd1449 zwd1450 zwd100 zcd_X11_sign (Nat.le_of_ble_eq_true rfl) (Nat.le_of_ble_eq_true rfl) (Nat.le_of_ble_eq_true rfl) ⟨by show _ ≤ 601024; omega, by show _ ≤ 7293034; omega⟩ ⟨rfl, zhn_X11_sign⟩ rfl (Nat.le_of_ble_eq_true rfl) rfl (z_contI (fun v2 μ2 h => ?_) h)
  obtain ⟨e, h⟩ := h
  subst e
  exact z_icmp_same (tgt := 1691) A dL_law_244 (by decide) h
theorem rL_end (C : zJL G J) {i : Int} {μ : zM} {cn un : Nat} {l5 l6 l7 : Option zV} (hi : 0 ≤ i ∧ i + 4 < ((zst G 40).1 : Int)) (hn : (zst G 40).1 < 2147483648) (hb : cn + 43 ≤ 601024 ∧ un + 253 ≤ 7293034)
    (h : qX10_end G (zsv G (i + 1)) μ (fun v1 μ1 => qX11_end G (zsv G (i + 1)) μ1 (fun v2 μ2 => v1 = v2 ∧ J G 1691 (zLl i l5 l6 l7, [], μ2, cn, un)))) : J G 249 (zLl i l5 l6 l7, [], μ, cn, un) := by
  obtain ⟨p, e, s, m, below, meth, c, args, Q, A, hX, rfl⟩ := C
  refine s_aload_n A dL_law_249 rfl ?_
  refine s_aload_nT A dL_law_250 rfl ?_
  refine s_iload A dL_law_251 rfl ?_
  refine s_iconst A dL_law_253 ?_
  refine s_iadd A dL_law_254 ?_
  refine z_tald A dL_law_255 (Or.inr rfl) hn ⟨by omega, by omega⟩ ?_
  refine s_callV (a := 0) (k := 10) (N := 15) (sl := true) (M := mX10_end) (n := 1) (d := 0) (mc := 0) (ms := 0) (av := [zI _]) (st := []) A dL_law_256 rfl (by decide) (zk_0 _) zwd392 zwd393 zwd394 zwd89 zcd_X10_end (Nat.le_of_ble_eq_true rfl) (Nat.le_of_ble_eq_true rfl) (Nat.le_of_ble_eq_true rfl) ⟨by show _ ≤ 601024; omega, by show _ ≤ 7293034; omega⟩ ⟨rfl, zhn_X10_end⟩ rfl (Nat.le_of_ble_eq_true rfl) rfl (z_contI (fun v1 μ1 h => ?_) h)
  refine s_aload_n A dL_law_259 rfl ?_
  refine s_aload_nT A dL_law_260 rfl ?_
  refine s_iload A dL_law_261 rfl ?_
  refine s_iconst A dL_law_263 ?_
  refine s_iadd A dL_law_264 ?_
  refine z_tald A dL_law_265 (Or.inr rfl) hn ⟨by omega, by omega⟩ ?_
  refine s_callV (a := 153) (k := 11) (N := 45) (sl := true) (M := mX11_end) (n := 1) (d := 2) (mc := 0) (ms := 0) (av := [zI _]) (st := [zI v1]) A dL_law_266 rfl (by decide) (zk_153 _) zwd1452 zwd1453 zwd1454 zwd100 zcd_X11_end (Nat.le_of_ble_eq_true rfl) (Nat.le_of_ble_eq_true rfl) (Nat.le_of_ble_eq_true rfl) ⟨by show _ ≤ 601024; omega, by show _ ≤ 7293034; omega⟩ ⟨rfl, zhn_X11_end⟩ rfl (Nat.le_of_ble_eq_true rfl) rfl (z_contI (fun v2 μ2 h => ?_) h)
  obtain ⟨e, h⟩ := h
  subst e
  exact z_icmp_same (tgt := 1691) A dL_law_269 (by decide) h
theorem rL_patches (C : zJL G J) {i : Int} {μ : zM} {cn un : Nat} {l5 l6 l7 : Option zV} (hi : 0 ≤ i ∧ i + 4 < ((zst G 40).1 : Int)) (hn : (zst G 40).1 < 2147483648) (hb : cn + 43 ≤ 601024 ∧ un + 253 ≤ 7293034)
    (h : qX10_patches G  μ (fun v1 μ1 => qX11_patches G  μ1 (fun v2 μ2 => v1 = v2 ∧ J G 1691 (zLl i l5 l6 l7, [], μ2, cn, un)))) : J G 274 (zLl i l5 l6 l7, [], μ, cn, un) := by
  obtain ⟨p, e, s, m, below, meth, c, args, Q, A, hX, rfl⟩ := C
  refine s_aload_n A dL_law_274 rfl ?_
  refine s_callV (a := 0) (k := 10) (N := 15) (sl := true) (M := mX10_patches) (n := 0) (d := 11) (mc := 0) (ms := 0) (av := []) (st := []) A dL_law_275 rfl (by decide) (zk_0 _) zwd396 zwd397 zwd398 zwd89 zcd_X10_patches (Nat.le_of_ble_eq_true rfl) (Nat.le_of_ble_eq_true rfl) (Nat.le_of_ble_eq_true rfl) ⟨by show _ ≤ 601024; omega, by show _ ≤ 7293034; omega⟩ ⟨rfl, zhn_X10_patches⟩ rfl (Nat.le_of_ble_eq_true rfl) rfl (z_contI (fun v1 μ1 h => ?_) h)
  refine s_aload_n A dL_law_278 rfl ?_
  refine s_callV (a := 153) (k := 11) (N := 45) (sl := true) (M := mX11_patches) (n := 0) (d := 6) (mc := 0) (ms := 0) (av := []) (st := [zI v1]) A dL_law_279 rfl (by decide) (zk_153 _) zwd1459 zwd1460 zwd1461 zwd100 zcd_X11_patches (Nat.le_of_ble_eq_true rfl) (Nat.le_of_ble_eq_true rfl) (Nat.le_of_ble_eq_true rfl) ⟨by show _ ≤ 601024; omega, by show _ ≤ 7293034; omega⟩ ⟨rfl, zhn_X11_patches⟩ rfl (Nat.le_of_ble_eq_true rfl) rfl (z_contI (fun v2 μ2 h => ?_) h)
  obtain ⟨e, h⟩ := h
  subst e
  exact z_icmp_same (tgt := 1691) A dL_law_282 (by decide) h
theorem rL_curve (C : zJL G J) {i : Int} {μ : zM} {cn un : Nat} {l5 l6 l7 : Option zV} (hi : 0 ≤ i ∧ i + 4 < ((zst G 40).1 : Int)) (hn : (zst G 40).1 < 2147483648) (hb : cn + 43 ≤ 601024 ∧ un + 253 ≤ 7293034)
    (h : qX10_curve G (zsv G (i + 1)) μ (fun v1 μ1 => qX11_curve G (zsv G (i + 1)) μ1 (fun v2 μ2 => v1 = v2 ∧ J G 1691 (zLl i l5 l6 l7, [], μ2, cn, un)))) : J G 287 (zLl i l5 l6 l7, [], μ, cn, un) := by
  obtain ⟨p, e, s, m, below, meth, c, args, Q, A, hX, rfl⟩ := C
  refine s_aload_n A dL_law_287 rfl ?_
  refine s_aload_nT A dL_law_288 rfl ?_
  refine s_iload A dL_law_289 rfl ?_
  refine s_iconst A dL_law_291 ?_
  refine s_iadd A dL_law_292 ?_
  refine z_tald A dL_law_293 (Or.inr rfl) hn ⟨by omega, by omega⟩ ?_
  refine s_callV (a := 0) (k := 10) (N := 15) (sl := true) (M := mX10_curve) (n := 1) (d := 9) (mc := 0) (ms := 0) (av := [zI _]) (st := []) A dL_law_294 rfl (by decide) (zk_0 _) zwd621 zwd622 zwd623 zwd89 zcd_X10_curve (Nat.le_of_ble_eq_true rfl) (Nat.le_of_ble_eq_true rfl) (Nat.le_of_ble_eq_true rfl) ⟨by show _ ≤ 601024; omega, by show _ ≤ 7293034; omega⟩ ⟨rfl, zhn_X10_curve⟩ rfl (Nat.le_of_ble_eq_true rfl) rfl (z_contI (fun v1 μ1 h => ?_) h)
  refine s_aload_n A dL_law_297 rfl ?_
  refine s_aload_nT A dL_law_298 rfl ?_
  refine s_iload A dL_law_299 rfl ?_
  refine s_iconst A dL_law_301 ?_
  refine s_iadd A dL_law_302 ?_
  refine z_tald A dL_law_303 (Or.inr rfl) hn ⟨by omega, by omega⟩ ?_
  refine s_callV (a := 153) (k := 11) (N := 45) (sl := true) (M := mX11_curve) (n := 1) (d := 8) (mc := 0) (ms := 0) (av := [zI _]) (st := [zI v1]) A dL_law_304 rfl (by decide) (zk_153 _) zwd1517 zwd1518 zwd1519 zwd100 zcd_X11_curve (Nat.le_of_ble_eq_true rfl) (Nat.le_of_ble_eq_true rfl) (Nat.le_of_ble_eq_true rfl) ⟨by show _ ≤ 601024; omega, by show _ ≤ 7293034; omega⟩ ⟨rfl, zhn_X11_curve⟩ rfl (Nat.le_of_ble_eq_true rfl) rfl (z_contI (fun v2 μ2 h => ?_) h)
  obtain ⟨e, h⟩ := h
  subst e
  exact z_icmp_same (tgt := 1691) A dL_law_307 (by decide) h
theorem rL_link (C : zJL G J) {i : Int} {μ : zM} {cn un : Nat} {l5 l6 l7 : Option zV} (hi : 0 ≤ i ∧ i + 4 < ((zst G 40).1 : Int)) (hn : (zst G 40).1 < 2147483648) (hb : cn + 43 ≤ 601024 ∧ un + 253 ≤ 7293034)
    (h : qX10_link G  μ (fun v1 μ1 => qX11_link G  μ1 (fun v2 μ2 => v1 = v2 ∧ J G 1691 (zLl i l5 l6 l7, [], μ2, (cn + 43), (un + 253))))) : J G 312 (zLl i l5 l6 l7, [], μ, cn, un) := by
  obtain ⟨p, e, s, m, below, meth, c, args, Q, A, hX, rfl⟩ := C
  refine s_aload_n A dL_law_312 rfl ?_
  refine s_callV (a := 0) (k := 10) (N := 15) (sl := true) (M := mX10_link) (n := 0) (d := 24) (mc := 43) (ms := 253) (av := []) (st := []) A dL_law_313 rfl (by decide) (zk_0 _) zwd640 zwd641 zwd642 zwd89 zcd_X10_link (Nat.le_of_ble_eq_true rfl) (Nat.le_of_ble_eq_true rfl) (Nat.le_of_ble_eq_true rfl) ⟨by show _ ≤ 601024; omega, by show _ ≤ 7293034; omega⟩ ⟨rfl, zhn_X10_link⟩ rfl (Nat.le_of_ble_eq_true rfl) rfl (z_contI (fun v1 μ1 h => ?_) h)
  refine s_aload_n A dL_law_316 rfl ?_
  refine s_callV (a := 153) (k := 11) (N := 45) (sl := true) (M := mX11_link) (n := 0) (d := 66) (mc := 0) (ms := 0) (av := []) (st := [zI v1]) A dL_law_317 rfl (by decide) (zk_153 _) zwd1525 zwd1526 zwd1527 zwd100 zcd_X11_link (Nat.le_of_ble_eq_true rfl) (Nat.le_of_ble_eq_true rfl) (Nat.le_of_ble_eq_true rfl) ⟨by show _ ≤ 601024; omega, by show _ ≤ 7293034; omega⟩ ⟨rfl, zhn_X11_link⟩ rfl (Nat.le_of_ble_eq_true rfl) rfl (z_contI (fun v2 μ2 h => ?_) h)
  obtain ⟨e, h⟩ := h
  subst e
  exact z_icmp_same (tgt := 1691) A dL_law_320 (by decide) h
theorem rL_picture (C : zJL G J) {i : Int} {μ : zM} {cn un : Nat} {l5 l6 l7 : Option zV} (hi : 0 ≤ i ∧ i + 4 < ((zst G 40).1 : Int)) (hn : (zst G 40).1 < 2147483648) (hb : cn + 43 ≤ 601024 ∧ un + 253 ≤ 7293034)
    (h : qX10_picture G  μ (fun v1 μ1 => qX11_picture G  μ1 (fun v2 μ2 => v1 = v2 ∧ J G 1691 (zLl i l5 l6 l7, [], μ2, cn, un)))) : J G 325 (zLl i l5 l6 l7, [], μ, cn, un) := by
  obtain ⟨p, e, s, m, below, meth, c, args, Q, A, hX, rfl⟩ := C
  refine s_aload_n A dL_law_325 rfl ?_
  refine s_callV (a := 0) (k := 10) (N := 15) (sl := true) (M := mX10_picture) (n := 0) (d := 11) (mc := 0) (ms := 0) (av := []) (st := []) A dL_law_326 rfl (by decide) (zk_0 _) zwd706 zwd707 zwd708 zwd89 zcd_X10_picture (Nat.le_of_ble_eq_true rfl) (Nat.le_of_ble_eq_true rfl) (Nat.le_of_ble_eq_true rfl) ⟨by show _ ≤ 601024; omega, by show _ ≤ 7293034; omega⟩ ⟨rfl, zhn_X10_picture⟩ rfl (Nat.le_of_ble_eq_true rfl) rfl (z_contI (fun v1 μ1 h => ?_) h)
  refine s_aload_n A dL_law_329 rfl ?_
  refine s_callV (a := 153) (k := 11) (N := 45) (sl := true) (M := mX11_picture) (n := 0) (d := 4) (mc := 0) (ms := 0) (av := []) (st := [zI v1]) A dL_law_330 rfl (by decide) (zk_153 _) zwd1558 zwd1559 zwd1560 zwd100 zcd_X11_picture (Nat.le_of_ble_eq_true rfl) (Nat.le_of_ble_eq_true rfl) (Nat.le_of_ble_eq_true rfl) ⟨by show _ ≤ 601024; omega, by show _ ≤ 7293034; omega⟩ ⟨rfl, zhn_X11_picture⟩ rfl (Nat.le_of_ble_eq_true rfl) rfl (z_contI (fun v2 μ2 h => ?_) h)
  obtain ⟨e, h⟩ := h
  subst e
  exact z_icmp_same (tgt := 1691) A dL_law_333 (by decide) h
theorem rL_sheet (C : zJL G J) {i : Int} {μ : zM} {cn un : Nat} {l5 l6 l7 : Option zV} (hi : 0 ≤ i ∧ i + 4 < ((zst G 40).1 : Int)) (hn : (zst G 40).1 < 2147483648) (hb : cn + 43 ≤ 601024 ∧ un + 253 ≤ 7293034)
    (h : qX10_sheet G (zsv G (i + 1)) (zsv G (i + 2)) (zsv G (i + 3)) (zsv G (i + 4)) μ (fun v1 μ1 => qX11_sheet G (zsv G (i + 1)) (zsv G (i + 2)) (zsv G (i + 3)) (zsv G (i + 4)) μ1 (fun v2 μ2 => v1 = v2 ∧ J G 1691 (zLl i l5 l6 l7, [], μ2, cn, un)))) : J G 474 (zLl i l5 l6 l7, [], μ, cn, un) := by
  obtain ⟨p, e, s, m, below, meth, c, args, Q, A, hX, rfl⟩ := C
  refine s_aload_n A dL_law_474 rfl ?_
  refine s_aload_nT A dL_law_475 rfl ?_
  refine s_iload A dL_law_476 rfl ?_
  refine s_iconst A dL_law_478 ?_
  refine s_iadd A dL_law_479 ?_
  refine z_tald A dL_law_480 (Or.inr rfl) hn ⟨by omega, by omega⟩ ?_
  refine s_aload_nT A dL_law_481 rfl ?_
  refine s_iload A dL_law_482 rfl ?_
  refine s_iconst A dL_law_484 ?_
  refine s_iadd A dL_law_485 ?_
  refine z_tald A dL_law_486 (Or.inr rfl) hn ⟨by omega, by omega⟩ ?_
  refine s_aload_nT A dL_law_487 rfl ?_
  refine s_iload A dL_law_488 rfl ?_
  refine s_iconst A dL_law_490 ?_
  refine s_iadd A dL_law_491 ?_
  refine z_tald A dL_law_492 (Or.inr rfl) hn ⟨by omega, by omega⟩ ?_
  refine s_aload_nT A dL_law_493 rfl ?_
  refine s_iload A dL_law_494 rfl ?_
  refine s_iconst A dL_law_496 ?_
  refine s_iadd A dL_law_497 ?_
  refine z_tald A dL_law_498 (Or.inr rfl) hn ⟨by omega, by omega⟩ ?_
  refine s_callV (a := 0) (k := 10) (N := 15) (sl := true) (M := mX10_sheet) (n := 4) (d := 9) (mc := 0) (ms := 0) (av := [zI _, zI _, zI _, zI _]) (st := []) A dL_law_499 rfl (by decide) (zk_0 _) zwd723 zwd724 zwd725 zwd89 zcd_X10_sheet (Nat.le_of_ble_eq_true rfl) (Nat.le_of_ble_eq_true rfl) (Nat.le_of_ble_eq_true rfl) ⟨by show _ ≤ 601024; omega, by show _ ≤ 7293034; omega⟩ ⟨rfl, zhn_X10_sheet⟩ rfl (Nat.le_of_ble_eq_true rfl) rfl (z_contI (fun v1 μ1 h => ?_) h)
  refine s_aload_n A dL_law_502 rfl ?_
  refine s_aload_nT A dL_law_503 rfl ?_
  refine s_iload A dL_law_504 rfl ?_
  refine s_iconst A dL_law_506 ?_
  refine s_iadd A dL_law_507 ?_
  refine z_tald A dL_law_508 (Or.inr rfl) hn ⟨by omega, by omega⟩ ?_
  refine s_aload_nT A dL_law_509 rfl ?_
  refine s_iload A dL_law_510 rfl ?_
  refine s_iconst A dL_law_512 ?_
  refine s_iadd A dL_law_513 ?_
  refine z_tald A dL_law_514 (Or.inr rfl) hn ⟨by omega, by omega⟩ ?_
  refine s_aload_nT A dL_law_515 rfl ?_
  refine s_iload A dL_law_516 rfl ?_
  refine s_iconst A dL_law_518 ?_
  refine s_iadd A dL_law_519 ?_
  refine z_tald A dL_law_520 (Or.inr rfl) hn ⟨by omega, by omega⟩ ?_
  refine s_aload_nT A dL_law_521 rfl ?_
  refine s_iload A dL_law_522 rfl ?_
  refine s_iconst A dL_law_524 ?_
  refine s_iadd A dL_law_525 ?_
  refine z_tald A dL_law_526 (Or.inr rfl) hn ⟨by omega, by omega⟩ ?_
  refine s_callV (a := 153) (k := 11) (N := 45) (sl := true) (M := mX11_sheet) (n := 4) (d := 8) (mc := 0) (ms := 0) (av := [zI _, zI _, zI _, zI _]) (st := [zI v1]) A dL_law_527 rfl (by decide) (zk_153 _) zwd1584 zwd1585 zwd1586 zwd100 zcd_X11_sheet (Nat.le_of_ble_eq_true rfl) (Nat.le_of_ble_eq_true rfl) (Nat.le_of_ble_eq_true rfl) ⟨by show _ ≤ 601024; omega, by show _ ≤ 7293034; omega⟩ ⟨rfl, zhn_X11_sheet⟩ rfl (Nat.le_of_ble_eq_true rfl) rfl (z_contI (fun v2 μ2 h => ?_) h)
  obtain ⟨e, h⟩ := h
  subst e
  exact z_icmp_same (tgt := 1691) A dL_law_530 (by decide) h
theorem rL_measure (C : zJL G J) {i : Int} {μ : zM} {cn un : Nat} {l5 l6 l7 : Option zV} (hi : 0 ≤ i ∧ i + 4 < ((zst G 40).1 : Int)) (hn : (zst G 40).1 < 2147483648) (hb : cn + 43 ≤ 601024 ∧ un + 253 ≤ 7293034)
    (h : qX10_measure G (zsv G (i + 1)) (zsv G (i + 2)) (zsv G (i + 3)) (zsv G (i + 4)) μ (fun v1 μ1 => qX11_measure G (zsv G (i + 1)) (zsv G (i + 2)) (zsv G (i + 3)) (zsv G (i + 4)) μ1 (fun v2 μ2 => v1 = v2 ∧ J G 1691 (zLl i l5 l6 l7, [], μ2, cn, un)))) : J G 535 (zLl i l5 l6 l7, [], μ, cn, un) := by
  obtain ⟨p, e, s, m, below, meth, c, args, Q, A, hX, rfl⟩ := C
  refine s_aload_n A dL_law_535 rfl ?_
  refine s_aload_nT A dL_law_536 rfl ?_
  refine s_iload A dL_law_537 rfl ?_
  refine s_iconst A dL_law_539 ?_
  refine s_iadd A dL_law_540 ?_
  refine z_tald A dL_law_541 (Or.inr rfl) hn ⟨by omega, by omega⟩ ?_
  refine s_aload_nT A dL_law_542 rfl ?_
  refine s_iload A dL_law_543 rfl ?_
  refine s_iconst A dL_law_545 ?_
  refine s_iadd A dL_law_546 ?_
  refine z_tald A dL_law_547 (Or.inr rfl) hn ⟨by omega, by omega⟩ ?_
  refine s_aload_nT A dL_law_548 rfl ?_
  refine s_iload A dL_law_549 rfl ?_
  refine s_iconst A dL_law_551 ?_
  refine s_iadd A dL_law_552 ?_
  refine z_tald A dL_law_553 (Or.inr rfl) hn ⟨by omega, by omega⟩ ?_
  refine s_aload_nT A dL_law_554 rfl ?_
  refine s_iload A dL_law_555 rfl ?_
  refine s_iconst A dL_law_557 ?_
  refine s_iadd A dL_law_558 ?_
  refine z_tald A dL_law_559 (Or.inr rfl) hn ⟨by omega, by omega⟩ ?_
  refine s_callV (a := 0) (k := 10) (N := 15) (sl := true) (M := mX10_measure) (n := 4) (d := 4) (mc := 0) (ms := 0) (av := [zI _, zI _, zI _, zI _]) (st := []) A dL_law_560 rfl (by decide) (zk_0 _) zwd737 zwd738 zwd739 zwd89 zcd_X10_measure (Nat.le_of_ble_eq_true rfl) (Nat.le_of_ble_eq_true rfl) (Nat.le_of_ble_eq_true rfl) ⟨by show _ ≤ 601024; omega, by show _ ≤ 7293034; omega⟩ ⟨rfl, zhn_X10_measure⟩ rfl (Nat.le_of_ble_eq_true rfl) rfl (z_contI (fun v1 μ1 h => ?_) h)
  refine s_aload_n A dL_law_563 rfl ?_
  refine s_aload_nT A dL_law_564 rfl ?_
  refine s_iload A dL_law_565 rfl ?_
  refine s_iconst A dL_law_567 ?_
  refine s_iadd A dL_law_568 ?_
  refine z_tald A dL_law_569 (Or.inr rfl) hn ⟨by omega, by omega⟩ ?_
  refine s_aload_nT A dL_law_570 rfl ?_
  refine s_iload A dL_law_571 rfl ?_
  refine s_iconst A dL_law_573 ?_
  refine s_iadd A dL_law_574 ?_
  refine z_tald A dL_law_575 (Or.inr rfl) hn ⟨by omega, by omega⟩ ?_
  refine s_aload_nT A dL_law_576 rfl ?_
  refine s_iload A dL_law_577 rfl ?_
  refine s_iconst A dL_law_579 ?_
  refine s_iadd A dL_law_580 ?_
  refine z_tald A dL_law_581 (Or.inr rfl) hn ⟨by omega, by omega⟩ ?_
  refine s_aload_nT A dL_law_582 rfl ?_
  refine s_iload A dL_law_583 rfl ?_
  refine s_iconst A dL_law_585 ?_
  refine s_iadd A dL_law_586 ?_
  refine z_tald A dL_law_587 (Or.inr rfl) hn ⟨by omega, by omega⟩ ?_
  refine s_callV (a := 153) (k := 11) (N := 45) (sl := true) (M := mX11_measure) (n := 4) (d := 4) (mc := 0) (ms := 0) (av := [zI _, zI _, zI _, zI _]) (st := [zI v1]) A dL_law_588 rfl (by decide) (zk_153 _) zwd1856 zwd1857 zwd1858 zwd100 zcd_X11_measure (Nat.le_of_ble_eq_true rfl) (Nat.le_of_ble_eq_true rfl) (Nat.le_of_ble_eq_true rfl) ⟨by show _ ≤ 601024; omega, by show _ ≤ 7293034; omega⟩ ⟨rfl, zhn_X11_measure⟩ rfl (Nat.le_of_ble_eq_true rfl) rfl (z_contI (fun v2 μ2 h => ?_) h)
  obtain ⟨e, h⟩ := h
  subst e
  exact z_icmp_same (tgt := 1691) A dL_law_591 (by decide) h
theorem rL_forgets (C : zJL G J) {i : Int} {μ : zM} {cn un : Nat} {l5 l6 l7 : Option zV} (hi : 0 ≤ i ∧ i + 4 < ((zst G 40).1 : Int)) (hn : (zst G 40).1 < 2147483648) (hb : cn + 43 ≤ 601024 ∧ un + 253 ≤ 7293034)
    (h : qX10_forgets G (zsv G (i + 1)) μ (fun v1 μ1 => qX11_forgets G (zsv G (i + 1)) μ1 (fun v2 μ2 => v1 = v2 ∧ J G 1691 (zLl i l5 l6 l7, [], μ2, cn, un)))) : J G 596 (zLl i l5 l6 l7, [], μ, cn, un) := by
  obtain ⟨p, e, s, m, below, meth, c, args, Q, A, hX, rfl⟩ := C
  refine s_aload_n A dL_law_596 rfl ?_
  refine s_aload_nT A dL_law_597 rfl ?_
  refine s_iload A dL_law_598 rfl ?_
  refine s_iconst A dL_law_600 ?_
  refine s_iadd A dL_law_601 ?_
  refine z_tald A dL_law_602 (Or.inr rfl) hn ⟨by omega, by omega⟩ ?_
  refine s_callV (a := 0) (k := 10) (N := 15) (sl := true) (M := mX10_forgets) (n := 1) (d := 4) (mc := 0) (ms := 0) (av := [zI _]) (st := []) A dL_law_603 rfl (by decide) (zk_0 _) zwd741 zwd742 zwd743 zwd89 zcd_X10_forgets (Nat.le_of_ble_eq_true rfl) (Nat.le_of_ble_eq_true rfl) (Nat.le_of_ble_eq_true rfl) ⟨by show _ ≤ 601024; omega, by show _ ≤ 7293034; omega⟩ ⟨rfl, zhn_X10_forgets⟩ rfl (Nat.le_of_ble_eq_true rfl) rfl (z_contI (fun v1 μ1 h => ?_) h)
  refine s_aload_n A dL_law_606 rfl ?_
  refine s_aload_nT A dL_law_607 rfl ?_
  refine s_iload A dL_law_608 rfl ?_
  refine s_iconst A dL_law_610 ?_
  refine s_iadd A dL_law_611 ?_
  refine z_tald A dL_law_612 (Or.inr rfl) hn ⟨by omega, by omega⟩ ?_
  refine s_callV (a := 153) (k := 11) (N := 45) (sl := true) (M := mX11_forgets) (n := 1) (d := 3) (mc := 0) (ms := 0) (av := [zI _]) (st := [zI v1]) A dL_law_613 rfl (by decide) (zk_153 _) zwd1864 zwd1865 zwd1866 zwd100 zcd_X11_forgets (Nat.le_of_ble_eq_true rfl) (Nat.le_of_ble_eq_true rfl) (Nat.le_of_ble_eq_true rfl) ⟨by show _ ≤ 601024; omega, by show _ ≤ 7293034; omega⟩ ⟨rfl, zhn_X11_forgets⟩ rfl (Nat.le_of_ble_eq_true rfl) rfl (z_contI (fun v2 μ2 h => ?_) h)
  obtain ⟨e, h⟩ := h
  subst e
  exact z_icmp_same (tgt := 1691) A dL_law_616 (by decide) h
theorem rL_sets (C : zJL G J) {i : Int} {μ : zM} {cn un : Nat} {l5 l6 l7 : Option zV} (hi : 0 ≤ i ∧ i + 4 < ((zst G 40).1 : Int)) (hn : (zst G 40).1 < 2147483648) (hb : cn + 43 ≤ 601024 ∧ un + 253 ≤ 7293034)
    (h : qX10_sets G (zsv G (i + 1)) (zsv G (i + 2)) μ (fun v1 μ1 => qX11_sets G (zsv G (i + 1)) (zsv G (i + 2)) μ1 (fun v2 μ2 => v1 = v2 ∧ J G 1691 (zLl i l5 l6 l7, [], μ2, cn, un)))) : J G 621 (zLl i l5 l6 l7, [], μ, cn, un) := by
  obtain ⟨p, e, s, m, below, meth, c, args, Q, A, hX, rfl⟩ := C
  refine s_aload_n A dL_law_621 rfl ?_
  refine s_aload_nT A dL_law_622 rfl ?_
  refine s_iload A dL_law_623 rfl ?_
  refine s_iconst A dL_law_625 ?_
  refine s_iadd A dL_law_626 ?_
  refine z_tald A dL_law_627 (Or.inr rfl) hn ⟨by omega, by omega⟩ ?_
  refine s_aload_nT A dL_law_628 rfl ?_
  refine s_iload A dL_law_629 rfl ?_
  refine s_iconst A dL_law_631 ?_
  refine s_iadd A dL_law_632 ?_
  refine z_tald A dL_law_633 (Or.inr rfl) hn ⟨by omega, by omega⟩ ?_
  refine s_callV (a := 0) (k := 10) (N := 15) (sl := true) (M := mX10_sets) (n := 2) (d := 4) (mc := 0) (ms := 0) (av := [zI _, zI _]) (st := []) A dL_law_634 rfl (by decide) (zk_0 _) zwd749 zwd750 zwd751 zwd89 zcd_X10_sets (Nat.le_of_ble_eq_true rfl) (Nat.le_of_ble_eq_true rfl) (Nat.le_of_ble_eq_true rfl) ⟨by show _ ≤ 601024; omega, by show _ ≤ 7293034; omega⟩ ⟨rfl, zhn_X10_sets⟩ rfl (Nat.le_of_ble_eq_true rfl) rfl (z_contI (fun v1 μ1 h => ?_) h)
  refine s_aload_n A dL_law_637 rfl ?_
  refine s_aload_nT A dL_law_638 rfl ?_
  refine s_iload A dL_law_639 rfl ?_
  refine s_iconst A dL_law_641 ?_
  refine s_iadd A dL_law_642 ?_
  refine z_tald A dL_law_643 (Or.inr rfl) hn ⟨by omega, by omega⟩ ?_
  refine s_aload_nT A dL_law_644 rfl ?_
  refine s_iload A dL_law_645 rfl ?_
  refine s_iconst A dL_law_647 ?_
  refine s_iadd A dL_law_648 ?_
  refine z_tald A dL_law_649 (Or.inr rfl) hn ⟨by omega, by omega⟩ ?_
  refine s_callV (a := 153) (k := 11) (N := 45) (sl := true) (M := mX11_sets) (n := 2) (d := 3) (mc := 0) (ms := 0) (av := [zI _, zI _]) (st := [zI v1]) A dL_law_650 rfl (by decide) (zk_153 _) zwd1868 zwd1869 zwd1870 zwd100 zcd_X11_sets (Nat.le_of_ble_eq_true rfl) (Nat.le_of_ble_eq_true rfl) (Nat.le_of_ble_eq_true rfl) ⟨by show _ ≤ 601024; omega, by show _ ≤ 7293034; omega⟩ ⟨rfl, zhn_X11_sets⟩ rfl (Nat.le_of_ble_eq_true rfl) rfl (z_contI (fun v2 μ2 h => ?_) h)
  obtain ⟨e, h⟩ := h
  subst e
  exact z_icmp_same (tgt := 1691) A dL_law_653 (by decide) h
theorem rL_paints (C : zJL G J) {i : Int} {μ : zM} {cn un : Nat} {l5 l6 l7 : Option zV} (hi : 0 ≤ i ∧ i + 4 < ((zst G 40).1 : Int)) (hn : (zst G 40).1 < 2147483648) (hb : cn + 43 ≤ 601024 ∧ un + 253 ≤ 7293034)
    (h : qX10_paints G (zsv G (i + 1)) (zsv G (i + 2)) (zsv G (i + 3)) (zsv G (i + 4)) μ (fun v1 μ1 => qX11_paints G (zsv G (i + 1)) (zsv G (i + 2)) (zsv G (i + 3)) (zsv G (i + 4)) μ1 (fun v2 μ2 => v1 = v2 ∧ J G 1691 (zLl i l5 l6 l7, [], μ2, cn, un)))) : J G 658 (zLl i l5 l6 l7, [], μ, cn, un) := by
  obtain ⟨p, e, s, m, below, meth, c, args, Q, A, hX, rfl⟩ := C
  refine s_aload_n A dL_law_658 rfl ?_
  refine s_aload_nT A dL_law_659 rfl ?_
  refine s_iload A dL_law_660 rfl ?_
  refine s_iconst A dL_law_662 ?_
  refine s_iadd A dL_law_663 ?_
  refine z_tald A dL_law_664 (Or.inr rfl) hn ⟨by omega, by omega⟩ ?_
  refine s_aload_nT A dL_law_665 rfl ?_
  refine s_iload A dL_law_666 rfl ?_
  refine s_iconst A dL_law_668 ?_
  refine s_iadd A dL_law_669 ?_
  refine z_tald A dL_law_670 (Or.inr rfl) hn ⟨by omega, by omega⟩ ?_
  refine s_aload_nT A dL_law_671 rfl ?_
  refine s_iload A dL_law_672 rfl ?_
  refine s_iconst A dL_law_674 ?_
  refine s_iadd A dL_law_675 ?_
  refine z_tald A dL_law_676 (Or.inr rfl) hn ⟨by omega, by omega⟩ ?_
  refine s_aload_nT A dL_law_677 rfl ?_
  refine s_iload A dL_law_678 rfl ?_
  refine s_iconst A dL_law_680 ?_
  refine s_iadd A dL_law_681 ?_
  refine z_tald A dL_law_682 (Or.inr rfl) hn ⟨by omega, by omega⟩ ?_
  refine s_callV (a := 0) (k := 10) (N := 15) (sl := true) (M := mX10_paints) (n := 4) (d := 4) (mc := 0) (ms := 0) (av := [zI _, zI _, zI _, zI _]) (st := []) A dL_law_683 rfl (by decide) (zk_0 _) zwd761 zwd762 zwd763 zwd89 zcd_X10_paints (Nat.le_of_ble_eq_true rfl) (Nat.le_of_ble_eq_true rfl) (Nat.le_of_ble_eq_true rfl) ⟨by show _ ≤ 601024; omega, by show _ ≤ 7293034; omega⟩ ⟨rfl, zhn_X10_paints⟩ rfl (Nat.le_of_ble_eq_true rfl) rfl (z_contI (fun v1 μ1 h => ?_) h)
  refine s_aload_n A dL_law_686 rfl ?_
  refine s_aload_nT A dL_law_687 rfl ?_
  refine s_iload A dL_law_688 rfl ?_
  refine s_iconst A dL_law_690 ?_
  refine s_iadd A dL_law_691 ?_
  refine z_tald A dL_law_692 (Or.inr rfl) hn ⟨by omega, by omega⟩ ?_
  refine s_aload_nT A dL_law_693 rfl ?_
  refine s_iload A dL_law_694 rfl ?_
  refine s_iconst A dL_law_696 ?_
  refine s_iadd A dL_law_697 ?_
  refine z_tald A dL_law_698 (Or.inr rfl) hn ⟨by omega, by omega⟩ ?_
  refine s_aload_nT A dL_law_699 rfl ?_
  refine s_iload A dL_law_700 rfl ?_
  refine s_iconst A dL_law_702 ?_
  refine s_iadd A dL_law_703 ?_
  refine z_tald A dL_law_704 (Or.inr rfl) hn ⟨by omega, by omega⟩ ?_
  refine s_aload_nT A dL_law_705 rfl ?_
  refine s_iload A dL_law_706 rfl ?_
  refine s_iconst A dL_law_708 ?_
  refine s_iadd A dL_law_709 ?_
  refine z_tald A dL_law_710 (Or.inr rfl) hn ⟨by omega, by omega⟩ ?_
  refine s_callV (a := 153) (k := 11) (N := 45) (sl := true) (M := mX11_paints) (n := 4) (d := 3) (mc := 0) (ms := 0) (av := [zI _, zI _, zI _, zI _]) (st := [zI v1]) A dL_law_711 rfl (by decide) (zk_153 _) zwd1880 zwd1881 zwd1882 zwd100 zcd_X11_paints (Nat.le_of_ble_eq_true rfl) (Nat.le_of_ble_eq_true rfl) (Nat.le_of_ble_eq_true rfl) ⟨by show _ ≤ 601024; omega, by show _ ≤ 7293034; omega⟩ ⟨rfl, zhn_X11_paints⟩ rfl (Nat.le_of_ble_eq_true rfl) rfl (z_contI (fun v2 μ2 h => ?_) h)
  obtain ⟨e, h⟩ := h
  subst e
  exact z_icmp_same (tgt := 1691) A dL_law_714 (by decide) h
theorem rL_day (C : zJL G J) {i : Int} {μ : zM} {cn un : Nat} {l5 l6 l7 : Option zV} (hi : 0 ≤ i ∧ i + 4 < ((zst G 40).1 : Int)) (hn : (zst G 40).1 < 2147483648) (hb : cn + 43 ≤ 601024 ∧ un + 253 ≤ 7293034)
    (h : qX10_day G  μ (fun v1 μ1 => qX11_day G  μ1 (fun v2 μ2 => v1 = v2 ∧ J G 1691 (zLl i l5 l6 l7, [], μ2, cn, un)))) : J G 719 (zLl i l5 l6 l7, [], μ, cn, un) := by
  obtain ⟨p, e, s, m, below, meth, c, args, Q, A, hX, rfl⟩ := C
  refine s_aload_n A dL_law_719 rfl ?_
  refine s_callV (a := 0) (k := 10) (N := 15) (sl := true) (M := mX10_day) (n := 0) (d := 11) (mc := 0) (ms := 0) (av := []) (st := []) A dL_law_720 rfl (by decide) (zk_0 _) zwd776 zwd777 zwd778 zwd89 zcd_X10_day (Nat.le_of_ble_eq_true rfl) (Nat.le_of_ble_eq_true rfl) (Nat.le_of_ble_eq_true rfl) ⟨by show _ ≤ 601024; omega, by show _ ≤ 7293034; omega⟩ ⟨rfl, zhn_X10_day⟩ rfl (Nat.le_of_ble_eq_true rfl) rfl (z_contI (fun v1 μ1 h => ?_) h)
  refine s_aload_n A dL_law_723 rfl ?_
  refine s_callV (a := 153) (k := 11) (N := 45) (sl := true) (M := mX11_day) (n := 0) (d := 6) (mc := 0) (ms := 0) (av := []) (st := [zI v1]) A dL_law_724 rfl (by decide) (zk_153 _) zwd1888 zwd1889 zwd1890 zwd100 zcd_X11_day (Nat.le_of_ble_eq_true rfl) (Nat.le_of_ble_eq_true rfl) (Nat.le_of_ble_eq_true rfl) ⟨by show _ ≤ 601024; omega, by show _ ≤ 7293034; omega⟩ ⟨rfl, zhn_X11_day⟩ rfl (Nat.le_of_ble_eq_true rfl) rfl (z_contI (fun v2 μ2 h => ?_) h)
  obtain ⟨e, h⟩ := h
  subst e
  exact z_icmp_same (tgt := 1691) A dL_law_727 (by decide) h
theorem rL_undo (C : zJL G J) {i : Int} {μ : zM} {cn un : Nat} {l5 l6 l7 : Option zV} (hi : 0 ≤ i ∧ i + 4 < ((zst G 40).1 : Int)) (hn : (zst G 40).1 < 2147483648) (hb : cn + 43 ≤ 601024 ∧ un + 253 ≤ 7293034)
    (h : qX10_undo G  μ (fun v1 μ1 => qX11_undo G  μ1 (fun v2 μ2 => v1 = v2 ∧ J G 1691 (zLl i l5 l6 l7, [], μ2, cn, un)))) : J G 732 (zLl i l5 l6 l7, [], μ, cn, un) := by
  obtain ⟨p, e, s, m, below, meth, c, args, Q, A, hX, rfl⟩ := C
  refine s_aload_n A dL_law_732 rfl ?_
  refine s_callV (a := 0) (k := 10) (N := 15) (sl := true) (M := mX10_undo) (n := 0) (d := 4) (mc := 0) (ms := 0) (av := []) (st := []) A dL_law_733 rfl (by decide) (zk_0 _) zwd794 zwd795 zwd796 zwd89 zcd_X10_undo (Nat.le_of_ble_eq_true rfl) (Nat.le_of_ble_eq_true rfl) (Nat.le_of_ble_eq_true rfl) ⟨by show _ ≤ 601024; omega, by show _ ≤ 7293034; omega⟩ ⟨rfl, zhn_X10_undo⟩ rfl (Nat.le_of_ble_eq_true rfl) rfl (z_contI (fun v1 μ1 h => ?_) h)
  refine s_aload_n A dL_law_736 rfl ?_
  refine s_callV (a := 153) (k := 11) (N := 45) (sl := true) (M := mX11_undo) (n := 0) (d := 0) (mc := 0) (ms := 0) (av := []) (st := [zI v1]) A dL_law_737 rfl (by decide) (zk_153 _) zwd1904 zwd1905 zwd1906 zwd100 zcd_X11_undo (Nat.le_of_ble_eq_true rfl) (Nat.le_of_ble_eq_true rfl) (Nat.le_of_ble_eq_true rfl) ⟨by show _ ≤ 601024; omega, by show _ ≤ 7293034; omega⟩ ⟨rfl, zhn_X11_undo⟩ rfl (Nat.le_of_ble_eq_true rfl) rfl (z_contI (fun v2 μ2 h => ?_) h)
  obtain ⟨e, h⟩ := h
  subst e
  exact z_icmp_same (tgt := 1691) A dL_law_740 (by decide) h
theorem rL_colour (C : zJL G J) {i : Int} {μ : zM} {cn un : Nat} {l5 l6 l7 : Option zV} (hi : 0 ≤ i ∧ i + 4 < ((zst G 40).1 : Int)) (hn : (zst G 40).1 < 2147483648) (hb : cn + 43 ≤ 601024 ∧ un + 253 ≤ 7293034)
    (h : qX10_colour G (zsv G (i + 1)) μ (fun v1 μ1 => qX11_colour G (zsv G (i + 1)) μ1 (fun v2 μ2 => v1 = v2 ∧ J G 1691 (zLl i l5 l6 l7, [], μ2, cn, un)))) : J G 745 (zLl i l5 l6 l7, [], μ, cn, un) := by
  obtain ⟨p, e, s, m, below, meth, c, args, Q, A, hX, rfl⟩ := C
  refine s_aload_n A dL_law_745 rfl ?_
  refine s_aload_nT A dL_law_746 rfl ?_
  refine s_iload A dL_law_747 rfl ?_
  refine s_iconst A dL_law_749 ?_
  refine s_iadd A dL_law_750 ?_
  refine z_tald A dL_law_751 (Or.inr rfl) hn ⟨by omega, by omega⟩ ?_
  refine s_callV (a := 0) (k := 10) (N := 15) (sl := true) (M := mX10_colour) (n := 1) (d := 12) (mc := 0) (ms := 0) (av := [zI _]) (st := []) A dL_law_752 rfl (by decide) (zk_0 _) zwd802 zwd803 zwd804 zwd89 zcd_X10_colour (Nat.le_of_ble_eq_true rfl) (Nat.le_of_ble_eq_true rfl) (Nat.le_of_ble_eq_true rfl) ⟨by show _ ≤ 601024; omega, by show _ ≤ 7293034; omega⟩ ⟨rfl, zhn_X10_colour⟩ rfl (Nat.le_of_ble_eq_true rfl) rfl (z_contI (fun v1 μ1 h => ?_) h)
  refine s_aload_n A dL_law_755 rfl ?_
  refine s_aload_nT A dL_law_756 rfl ?_
  refine s_iload A dL_law_757 rfl ?_
  refine s_iconst A dL_law_759 ?_
  refine s_iadd A dL_law_760 ?_
  refine z_tald A dL_law_761 (Or.inr rfl) hn ⟨by omega, by omega⟩ ?_
  refine s_callV (a := 153) (k := 11) (N := 45) (sl := true) (M := mX11_colour) (n := 1) (d := 11) (mc := 0) (ms := 0) (av := [zI _]) (st := [zI v1]) A dL_law_762 rfl (by decide) (zk_153 _) zwd1591 zwd1592 zwd1593 zwd100 zcd_X11_colour (Nat.le_of_ble_eq_true rfl) (Nat.le_of_ble_eq_true rfl) (Nat.le_of_ble_eq_true rfl) ⟨by show _ ≤ 601024; omega, by show _ ≤ 7293034; omega⟩ ⟨rfl, zhn_X11_colour⟩ rfl (Nat.le_of_ble_eq_true rfl) rfl (z_contI (fun v2 μ2 h => ?_) h)
  obtain ⟨e, h⟩ := h
  subst e
  exact z_icmp_same (tgt := 1691) A dL_law_765 (by decide) h
theorem rL_limited (C : zJL G J) {i : Int} {μ : zM} {cn un : Nat} {l5 l6 l7 : Option zV} (hi : 0 ≤ i ∧ i + 4 < ((zst G 40).1 : Int)) (hn : (zst G 40).1 < 2147483648) (hb : cn + 43 ≤ 601024 ∧ un + 253 ≤ 7293034)
    (h : qX10_limited G (zsv G (i + 1)) (zsv G (i + 2)) μ (fun v1 μ1 => qX11_limited G (zsv G (i + 1)) (zsv G (i + 2)) μ1 (fun v2 μ2 => v1 = v2 ∧ J G 1691 (zLl i l5 l6 l7, [], μ2, cn, un)))) : J G 770 (zLl i l5 l6 l7, [], μ, cn, un) := by
  obtain ⟨p, e, s, m, below, meth, c, args, Q, A, hX, rfl⟩ := C
  refine s_aload_n A dL_law_770 rfl ?_
  refine s_aload_nT A dL_law_771 rfl ?_
  refine s_iload A dL_law_772 rfl ?_
  refine s_iconst A dL_law_774 ?_
  refine s_iadd A dL_law_775 ?_
  refine z_tald A dL_law_776 (Or.inr rfl) hn ⟨by omega, by omega⟩ ?_
  refine s_aload_nT A dL_law_777 rfl ?_
  refine s_iload A dL_law_778 rfl ?_
  refine s_iconst A dL_law_780 ?_
  refine s_iadd A dL_law_781 ?_
  refine z_tald A dL_law_782 (Or.inr rfl) hn ⟨by omega, by omega⟩ ?_
  refine s_callV (a := 0) (k := 10) (N := 15) (sl := true) (M := mX10_limited) (n := 2) (d := 10) (mc := 0) (ms := 0) (av := [zI _, zI _]) (st := []) A dL_law_783 rfl (by decide) (zk_0 _) zwd868 zwd869 zwd870 zwd89 zcd_X10_limited (Nat.le_of_ble_eq_true rfl) (Nat.le_of_ble_eq_true rfl) (Nat.le_of_ble_eq_true rfl) ⟨by show _ ≤ 601024; omega, by show _ ≤ 7293034; omega⟩ ⟨rfl, zhn_X10_limited⟩ rfl (Nat.le_of_ble_eq_true rfl) rfl (z_contI (fun v1 μ1 h => ?_) h)
  refine s_aload_n A dL_law_786 rfl ?_
  refine s_aload_nT A dL_law_787 rfl ?_
  refine s_iload A dL_law_788 rfl ?_
  refine s_iconst A dL_law_790 ?_
  refine s_iadd A dL_law_791 ?_
  refine z_tald A dL_law_792 (Or.inr rfl) hn ⟨by omega, by omega⟩ ?_
  refine s_aload_nT A dL_law_793 rfl ?_
  refine s_iload A dL_law_794 rfl ?_
  refine s_iconst A dL_law_796 ?_
  refine s_iadd A dL_law_797 ?_
  refine z_tald A dL_law_798 (Or.inr rfl) hn ⟨by omega, by omega⟩ ?_
  refine s_callV (a := 153) (k := 11) (N := 45) (sl := true) (M := mX11_limited) (n := 2) (d := 9) (mc := 0) (ms := 0) (av := [zI _, zI _]) (st := [zI v1]) A dL_law_799 rfl (by decide) (zk_153 _) zwd1620 zwd1621 zwd1622 zwd100 zcd_X11_limited (Nat.le_of_ble_eq_true rfl) (Nat.le_of_ble_eq_true rfl) (Nat.le_of_ble_eq_true rfl) ⟨by show _ ≤ 601024; omega, by show _ ≤ 7293034; omega⟩ ⟨rfl, zhn_X11_limited⟩ rfl (Nat.le_of_ble_eq_true rfl) rfl (z_contI (fun v2 μ2 h => ?_) h)
  obtain ⟨e, h⟩ := h
  subst e
  exact z_icmp_same (tgt := 1691) A dL_law_802 (by decide) h
theorem rL_match (C : zJL G J) {i : Int} {μ : zM} {cn un : Nat} {l5 l6 l7 : Option zV} (hi : 0 ≤ i ∧ i + 4 < ((zst G 40).1 : Int)) (hn : (zst G 40).1 < 2147483648) (hb : cn + 43 ≤ 601024 ∧ un + 253 ≤ 7293034)
    (h : qX10_match G (zsv G (i + 1)) (zsv G (i + 2)) (zsv G (i + 3)) μ (fun v1 μ1 => qX11_match G (zsv G (i + 1)) (zsv G (i + 2)) (zsv G (i + 3)) μ1 (fun v2 μ2 => v1 = v2 ∧ J G 1691 (zLl i l5 l6 l7, [], μ2, cn, un)))) : J G 807 (zLl i l5 l6 l7, [], μ, cn, un) := by
  obtain ⟨p, e, s, m, below, meth, c, args, Q, A, hX, rfl⟩ := C
  refine s_aload_n A dL_law_807 rfl ?_
  refine s_aload_nT A dL_law_808 rfl ?_
  refine s_iload A dL_law_809 rfl ?_
  refine s_iconst A dL_law_811 ?_
  refine s_iadd A dL_law_812 ?_
  refine z_tald A dL_law_813 (Or.inr rfl) hn ⟨by omega, by omega⟩ ?_
  refine s_aload_nT A dL_law_814 rfl ?_
  refine s_iload A dL_law_815 rfl ?_
  refine s_iconst A dL_law_817 ?_
  refine s_iadd A dL_law_818 ?_
  refine z_tald A dL_law_819 (Or.inr rfl) hn ⟨by omega, by omega⟩ ?_
  refine s_aload_nT A dL_law_820 rfl ?_
  refine s_iload A dL_law_821 rfl ?_
  refine s_iconst A dL_law_823 ?_
  refine s_iadd A dL_law_824 ?_
  refine z_tald A dL_law_825 (Or.inr rfl) hn ⟨by omega, by omega⟩ ?_
  refine s_callV (a := 0) (k := 10) (N := 15) (sl := true) (M := mX10_match) (n := 3) (d := 12) (mc := 0) (ms := 0) (av := [zI _, zI _, zI _]) (st := []) A dL_law_826 rfl (by decide) (zk_0 _) zwd897 zwd898 zwd899 zwd89 zcd_X10_match (Nat.le_of_ble_eq_true rfl) (Nat.le_of_ble_eq_true rfl) (Nat.le_of_ble_eq_true rfl) ⟨by show _ ≤ 601024; omega, by show _ ≤ 7293034; omega⟩ ⟨rfl, zhn_X10_match⟩ rfl (Nat.le_of_ble_eq_true rfl) rfl (z_contI (fun v1 μ1 h => ?_) h)
  refine s_aload_n A dL_law_829 rfl ?_
  refine s_aload_nT A dL_law_830 rfl ?_
  refine s_iload A dL_law_831 rfl ?_
  refine s_iconst A dL_law_833 ?_
  refine s_iadd A dL_law_834 ?_
  refine z_tald A dL_law_835 (Or.inr rfl) hn ⟨by omega, by omega⟩ ?_
  refine s_aload_nT A dL_law_836 rfl ?_
  refine s_iload A dL_law_837 rfl ?_
  refine s_iconst A dL_law_839 ?_
  refine s_iadd A dL_law_840 ?_
  refine z_tald A dL_law_841 (Or.inr rfl) hn ⟨by omega, by omega⟩ ?_
  refine s_aload_nT A dL_law_842 rfl ?_
  refine s_iload A dL_law_843 rfl ?_
  refine s_iconst A dL_law_845 ?_
  refine s_iadd A dL_law_846 ?_
  refine z_tald A dL_law_847 (Or.inr rfl) hn ⟨by omega, by omega⟩ ?_
  refine s_callV (a := 153) (k := 11) (N := 45) (sl := true) (M := mX11_match) (n := 3) (d := 12) (mc := 0) (ms := 0) (av := [zI _, zI _, zI _]) (st := [zI v1]) A dL_law_848 rfl (by decide) (zk_153 _) zwd1636 zwd1637 zwd1638 zwd100 zcd_X11_match (Nat.le_of_ble_eq_true rfl) (Nat.le_of_ble_eq_true rfl) (Nat.le_of_ble_eq_true rfl) ⟨by show _ ≤ 601024; omega, by show _ ≤ 7293034; omega⟩ ⟨rfl, zhn_X11_match⟩ rfl (Nat.le_of_ble_eq_true rfl) rfl (z_contI (fun v2 μ2 h => ?_) h)
  obtain ⟨e, h⟩ := h
  subst e
  exact z_icmp_same (tgt := 1691) A dL_law_851 (by decide) h
theorem rL_fold (C : zJL G J) {i : Int} {μ : zM} {cn un : Nat} {l5 l6 l7 : Option zV} (hi : 0 ≤ i ∧ i + 4 < ((zst G 40).1 : Int)) (hn : (zst G 40).1 < 2147483648) (hb : cn + 43 ≤ 601024 ∧ un + 253 ≤ 7293034)
    (h : qX10_fold G (zsv G (i + 1)) (zsv G (i + 2)) (zsv G (i + 3)) μ (fun v1 μ1 => qX11_fold G (zsv G (i + 1)) (zsv G (i + 2)) (zsv G (i + 3)) μ1 (fun v2 μ2 => v1 = v2 ∧ J G 1691 (zLl i l5 l6 l7, [], μ2, cn, un)))) : J G 856 (zLl i l5 l6 l7, [], μ, cn, un) := by
  obtain ⟨p, e, s, m, below, meth, c, args, Q, A, hX, rfl⟩ := C
  refine s_aload_n A dL_law_856 rfl ?_
  refine s_aload_nT A dL_law_857 rfl ?_
  refine s_iload A dL_law_858 rfl ?_
  refine s_iconst A dL_law_860 ?_
  refine s_iadd A dL_law_861 ?_
  refine z_tald A dL_law_862 (Or.inr rfl) hn ⟨by omega, by omega⟩ ?_
  refine s_aload_nT A dL_law_863 rfl ?_
  refine s_iload A dL_law_864 rfl ?_
  refine s_iconst A dL_law_866 ?_
  refine s_iadd A dL_law_867 ?_
  refine z_tald A dL_law_868 (Or.inr rfl) hn ⟨by omega, by omega⟩ ?_
  refine s_aload_nT A dL_law_869 rfl ?_
  refine s_iload A dL_law_870 rfl ?_
  refine s_iconst A dL_law_872 ?_
  refine s_iadd A dL_law_873 ?_
  refine z_tald A dL_law_874 (Or.inr rfl) hn ⟨by omega, by omega⟩ ?_
  refine s_callV (a := 0) (k := 10) (N := 15) (sl := true) (M := mX10_fold) (n := 3) (d := 12) (mc := 0) (ms := 0) (av := [zI _, zI _, zI _]) (st := []) A dL_law_875 rfl (by decide) (zk_0 _) zwd933 zwd934 zwd935 zwd89 zcd_X10_fold (Nat.le_of_ble_eq_true rfl) (Nat.le_of_ble_eq_true rfl) (Nat.le_of_ble_eq_true rfl) ⟨by show _ ≤ 601024; omega, by show _ ≤ 7293034; omega⟩ ⟨rfl, zhn_X10_fold⟩ rfl (Nat.le_of_ble_eq_true rfl) rfl (z_contI (fun v1 μ1 h => ?_) h)
  refine s_aload_n A dL_law_878 rfl ?_
  refine s_aload_nT A dL_law_879 rfl ?_
  refine s_iload A dL_law_880 rfl ?_
  refine s_iconst A dL_law_882 ?_
  refine s_iadd A dL_law_883 ?_
  refine z_tald A dL_law_884 (Or.inr rfl) hn ⟨by omega, by omega⟩ ?_
  refine s_aload_nT A dL_law_885 rfl ?_
  refine s_iload A dL_law_886 rfl ?_
  refine s_iconst A dL_law_888 ?_
  refine s_iadd A dL_law_889 ?_
  refine z_tald A dL_law_890 (Or.inr rfl) hn ⟨by omega, by omega⟩ ?_
  refine s_aload_nT A dL_law_891 rfl ?_
  refine s_iload A dL_law_892 rfl ?_
  refine s_iconst A dL_law_894 ?_
  refine s_iadd A dL_law_895 ?_
  refine z_tald A dL_law_896 (Or.inr rfl) hn ⟨by omega, by omega⟩ ?_
  refine s_callV (a := 153) (k := 11) (N := 45) (sl := true) (M := mX11_fold) (n := 3) (d := 12) (mc := 0) (ms := 0) (av := [zI _, zI _, zI _]) (st := [zI v1]) A dL_law_897 rfl (by decide) (zk_153 _) zwd1674 zwd1675 zwd1676 zwd100 zcd_X11_fold (Nat.le_of_ble_eq_true rfl) (Nat.le_of_ble_eq_true rfl) (Nat.le_of_ble_eq_true rfl) ⟨by show _ ≤ 601024; omega, by show _ ≤ 7293034; omega⟩ ⟨rfl, zhn_X11_fold⟩ rfl (Nat.le_of_ble_eq_true rfl) rfl (z_contI (fun v2 μ2 h => ?_) h)
  obtain ⟨e, h⟩ := h
  subst e
  exact z_icmp_same (tgt := 1691) A dL_law_900 (by decide) h
theorem rL_prints (C : zJL G J) {i : Int} {μ : zM} {cn un : Nat} {l5 l6 l7 : Option zV} (hi : 0 ≤ i ∧ i + 4 < ((zst G 40).1 : Int)) (hn : (zst G 40).1 < 2147483648) (hb : cn + 43 ≤ 601024 ∧ un + 253 ≤ 7293034)
    (h : qX10_prints G (zsv G (i + 1)) (zsv G (i + 2)) (zsv G (i + 3)) μ (fun v1 μ1 => qX11_prints G (zsv G (i + 1)) (zsv G (i + 2)) (zsv G (i + 3)) μ1 (fun v2 μ2 => v1 = v2 ∧ J G 1691 (zLl i l5 l6 l7, [], μ2, cn, un)))) : J G 905 (zLl i l5 l6 l7, [], μ, cn, un) := by
  obtain ⟨p, e, s, m, below, meth, c, args, Q, A, hX, rfl⟩ := C
  refine s_aload_n A dL_law_905 rfl ?_
  refine s_aload_nT A dL_law_906 rfl ?_
  refine s_iload A dL_law_907 rfl ?_
  refine s_iconst A dL_law_909 ?_
  refine s_iadd A dL_law_910 ?_
  refine z_tald A dL_law_911 (Or.inr rfl) hn ⟨by omega, by omega⟩ ?_
  refine s_aload_nT A dL_law_912 rfl ?_
  refine s_iload A dL_law_913 rfl ?_
  refine s_iconst A dL_law_915 ?_
  refine s_iadd A dL_law_916 ?_
  refine z_tald A dL_law_917 (Or.inr rfl) hn ⟨by omega, by omega⟩ ?_
  refine s_aload_nT A dL_law_918 rfl ?_
  refine s_iload A dL_law_919 rfl ?_
  refine s_iconst A dL_law_921 ?_
  refine s_iadd A dL_law_922 ?_
  refine z_tald A dL_law_923 (Or.inr rfl) hn ⟨by omega, by omega⟩ ?_
  refine s_callV (a := 0) (k := 10) (N := 15) (sl := true) (M := mX10_prints) (n := 3) (d := 73) (mc := 0) (ms := 0) (av := [zI _, zI _, zI _]) (st := []) A dL_law_924 rfl (by decide) (zk_0 _) zwd950 zwd951 zwd952 zwd89 zcd_X10_prints (Nat.le_of_ble_eq_true rfl) (Nat.le_of_ble_eq_true rfl) (Nat.le_of_ble_eq_true rfl) ⟨by show _ ≤ 601024; omega, by show _ ≤ 7293034; omega⟩ ⟨rfl, zhn_X10_prints⟩ rfl (Nat.le_of_ble_eq_true rfl) rfl (z_contI (fun v1 μ1 h => ?_) h)
  refine s_aload_n A dL_law_927 rfl ?_
  refine s_aload_nT A dL_law_928 rfl ?_
  refine s_iload A dL_law_929 rfl ?_
  refine s_iconst A dL_law_931 ?_
  refine s_iadd A dL_law_932 ?_
  refine z_tald A dL_law_933 (Or.inr rfl) hn ⟨by omega, by omega⟩ ?_
  refine s_aload_nT A dL_law_934 rfl ?_
  refine s_iload A dL_law_935 rfl ?_
  refine s_iconst A dL_law_937 ?_
  refine s_iadd A dL_law_938 ?_
  refine z_tald A dL_law_939 (Or.inr rfl) hn ⟨by omega, by omega⟩ ?_
  refine s_aload_nT A dL_law_940 rfl ?_
  refine s_iload A dL_law_941 rfl ?_
  refine s_iconst A dL_law_943 ?_
  refine s_iadd A dL_law_944 ?_
  refine z_tald A dL_law_945 (Or.inr rfl) hn ⟨by omega, by omega⟩ ?_
  refine s_callV (a := 153) (k := 11) (N := 45) (sl := true) (M := mX11_prints) (n := 3) (d := 112) (mc := 0) (ms := 0) (av := [zI _, zI _, zI _]) (st := [zI v1]) A dL_law_946 rfl (by decide) (zk_153 _) zwd1686 zwd1687 zwd1688 zwd100 zcd_X11_prints (Nat.le_of_ble_eq_true rfl) (Nat.le_of_ble_eq_true rfl) (Nat.le_of_ble_eq_true rfl) ⟨by show _ ≤ 601024; omega, by show _ ≤ 7293034; omega⟩ ⟨rfl, zhn_X11_prints⟩ rfl (Nat.le_of_ble_eq_true rfl) rfl (z_contI (fun v2 μ2 h => ?_) h)
  obtain ⟨e, h⟩ := h
  subst e
  exact z_icmp_same (tgt := 1691) A dL_law_949 (by decide) h
theorem rL_ramp (C : zJL G J) {i : Int} {μ : zM} {cn un : Nat} {l5 l6 l7 : Option zV} (hi : 0 ≤ i ∧ i + 4 < ((zst G 40).1 : Int)) (hn : (zst G 40).1 < 2147483648) (hb : cn + 43 ≤ 601024 ∧ un + 253 ≤ 7293034)
    (h : qX10_ramp G (zsv G (i + 1)) (zsv G (i + 2)) μ (fun v1 μ1 => qX11_ramp G (zsv G (i + 1)) (zsv G (i + 2)) μ1 (fun v2 μ2 => v1 = v2 ∧ J G 1691 (zLl i l5 l6 l7, [], μ2, cn, un)))) : J G 954 (zLl i l5 l6 l7, [], μ, cn, un) := by
  obtain ⟨p, e, s, m, below, meth, c, args, Q, A, hX, rfl⟩ := C
  refine s_aload_n A dL_law_954 rfl ?_
  refine s_aload_nT A dL_law_955 rfl ?_
  refine s_iload A dL_law_956 rfl ?_
  refine s_iconst A dL_law_958 ?_
  refine s_iadd A dL_law_959 ?_
  refine z_tald A dL_law_960 (Or.inr rfl) hn ⟨by omega, by omega⟩ ?_
  refine s_aload_nT A dL_law_961 rfl ?_
  refine s_iload A dL_law_962 rfl ?_
  refine s_iconst A dL_law_964 ?_
  refine s_iadd A dL_law_965 ?_
  refine z_tald A dL_law_966 (Or.inr rfl) hn ⟨by omega, by omega⟩ ?_
  refine s_callV (a := 0) (k := 10) (N := 15) (sl := true) (M := mX10_ramp) (n := 2) (d := 12) (mc := 0) (ms := 0) (av := [zI _, zI _]) (st := []) A dL_law_967 rfl (by decide) (zk_0 _) zwd993 zwd994 zwd995 zwd89 zcd_X10_ramp (Nat.le_of_ble_eq_true rfl) (Nat.le_of_ble_eq_true rfl) (Nat.le_of_ble_eq_true rfl) ⟨by show _ ≤ 601024; omega, by show _ ≤ 7293034; omega⟩ ⟨rfl, zhn_X10_ramp⟩ rfl (Nat.le_of_ble_eq_true rfl) rfl (z_contI (fun v1 μ1 h => ?_) h)
  refine s_aload_n A dL_law_970 rfl ?_
  refine s_aload_nT A dL_law_971 rfl ?_
  refine s_iload A dL_law_972 rfl ?_
  refine s_iconst A dL_law_974 ?_
  refine s_iadd A dL_law_975 ?_
  refine z_tald A dL_law_976 (Or.inr rfl) hn ⟨by omega, by omega⟩ ?_
  refine s_aload_nT A dL_law_977 rfl ?_
  refine s_iload A dL_law_978 rfl ?_
  refine s_iconst A dL_law_980 ?_
  refine s_iadd A dL_law_981 ?_
  refine z_tald A dL_law_982 (Or.inr rfl) hn ⟨by omega, by omega⟩ ?_
  refine s_callV (a := 153) (k := 11) (N := 45) (sl := true) (M := mX11_ramp) (n := 2) (d := 12) (mc := 0) (ms := 0) (av := [zI _, zI _]) (st := [zI v1]) A dL_law_983 rfl (by decide) (zk_153 _) zwd1733 zwd1734 zwd1735 zwd100 zcd_X11_ramp (Nat.le_of_ble_eq_true rfl) (Nat.le_of_ble_eq_true rfl) (Nat.le_of_ble_eq_true rfl) ⟨by show _ ≤ 601024; omega, by show _ ≤ 7293034; omega⟩ ⟨rfl, zhn_X11_ramp⟩ rfl (Nat.le_of_ble_eq_true rfl) rfl (z_contI (fun v2 μ2 h => ?_) h)
  obtain ⟨e, h⟩ := h
  subst e
  exact z_icmp_same (tgt := 1691) A dL_law_986 (by decide) h
theorem rL_way (C : zJL G J) {i : Int} {μ : zM} {cn un : Nat} {l5 l6 l7 : Option zV} (hi : 0 ≤ i ∧ i + 4 < ((zst G 40).1 : Int)) (hn : (zst G 40).1 < 2147483648) (hb : cn + 43 ≤ 601024 ∧ un + 253 ≤ 7293034)
    (h : qX10_way G (zsv G (i + 1)) (zsv G (i + 2)) (zsv G (i + 3)) μ (fun v1 μ1 => qX11_way G (zsv G (i + 1)) (zsv G (i + 2)) (zsv G (i + 3)) μ1 (fun v2 μ2 => v1 = v2 ∧ J G 1691 (zLl i l5 l6 l7, [], μ2, cn, un)))) : J G 991 (zLl i l5 l6 l7, [], μ, cn, un) := by
  obtain ⟨p, e, s, m, below, meth, c, args, Q, A, hX, rfl⟩ := C
  refine s_aload_n A dL_law_991 rfl ?_
  refine s_aload_nT A dL_law_992 rfl ?_
  refine s_iload A dL_law_993 rfl ?_
  refine s_iconst A dL_law_995 ?_
  refine s_iadd A dL_law_996 ?_
  refine z_tald A dL_law_997 (Or.inr rfl) hn ⟨by omega, by omega⟩ ?_
  refine s_aload_nT A dL_law_998 rfl ?_
  refine s_iload A dL_law_999 rfl ?_
  refine s_iconst A dL_law_1001 ?_
  refine s_iadd A dL_law_1002 ?_
  refine z_tald A dL_law_1003 (Or.inr rfl) hn ⟨by omega, by omega⟩ ?_
  refine s_aload_nT A dL_law_1004 rfl ?_
  refine s_iload A dL_law_1005 rfl ?_
  refine s_iconst A dL_law_1007 ?_
  refine s_iadd A dL_law_1008 ?_
  refine z_tald A dL_law_1009 (Or.inr rfl) hn ⟨by omega, by omega⟩ ?_
  refine s_callV (a := 0) (k := 10) (N := 15) (sl := true) (M := mX10_way) (n := 3) (d := 12) (mc := 0) (ms := 0) (av := [zI _, zI _, zI _]) (st := []) A dL_law_1010 rfl (by decide) (zk_0 _) zwd1005 zwd1006 zwd1007 zwd89 zcd_X10_way (Nat.le_of_ble_eq_true rfl) (Nat.le_of_ble_eq_true rfl) (Nat.le_of_ble_eq_true rfl) ⟨by show _ ≤ 601024; omega, by show _ ≤ 7293034; omega⟩ ⟨rfl, zhn_X10_way⟩ rfl (Nat.le_of_ble_eq_true rfl) rfl (z_contI (fun v1 μ1 h => ?_) h)
  refine s_aload_n A dL_law_1013 rfl ?_
  refine s_aload_nT A dL_law_1014 rfl ?_
  refine s_iload A dL_law_1015 rfl ?_
  refine s_iconst A dL_law_1017 ?_
  refine s_iadd A dL_law_1018 ?_
  refine z_tald A dL_law_1019 (Or.inr rfl) hn ⟨by omega, by omega⟩ ?_
  refine s_aload_nT A dL_law_1020 rfl ?_
  refine s_iload A dL_law_1021 rfl ?_
  refine s_iconst A dL_law_1023 ?_
  refine s_iadd A dL_law_1024 ?_
  refine z_tald A dL_law_1025 (Or.inr rfl) hn ⟨by omega, by omega⟩ ?_
  refine s_aload_nT A dL_law_1026 rfl ?_
  refine s_iload A dL_law_1027 rfl ?_
  refine s_iconst A dL_law_1029 ?_
  refine s_iadd A dL_law_1030 ?_
  refine z_tald A dL_law_1031 (Or.inr rfl) hn ⟨by omega, by omega⟩ ?_
  refine s_callV (a := 153) (k := 11) (N := 45) (sl := true) (M := mX11_way) (n := 3) (d := 12) (mc := 0) (ms := 0) (av := [zI _, zI _, zI _]) (st := [zI v1]) A dL_law_1032 rfl (by decide) (zk_153 _) zwd1737 zwd1738 zwd1739 zwd100 zcd_X11_way (Nat.le_of_ble_eq_true rfl) (Nat.le_of_ble_eq_true rfl) (Nat.le_of_ble_eq_true rfl) ⟨by show _ ≤ 601024; omega, by show _ ≤ 7293034; omega⟩ ⟨rfl, zhn_X11_way⟩ rfl (Nat.le_of_ble_eq_true rfl) rfl (z_contI (fun v2 μ2 h => ?_) h)
  obtain ⟨e, h⟩ := h
  subst e
  exact z_icmp_same (tgt := 1691) A dL_law_1035 (by decide) h
theorem rL_rises (C : zJL G J) {i : Int} {μ : zM} {cn un : Nat} {l5 l6 l7 : Option zV} (hi : 0 ≤ i ∧ i + 4 < ((zst G 40).1 : Int)) (hn : (zst G 40).1 < 2147483648) (hb : cn + 43 ≤ 601024 ∧ un + 253 ≤ 7293034)
    (h : qX10_rises G (zsv G (i + 1)) μ (fun v1 μ1 => qX11_rises G (zsv G (i + 1)) μ1 (fun v2 μ2 => v1 = v2 ∧ J G 1691 (zLl i l5 l6 l7, [], μ2, cn, un)))) : J G 1040 (zLl i l5 l6 l7, [], μ, cn, un) := by
  obtain ⟨p, e, s, m, below, meth, c, args, Q, A, hX, rfl⟩ := C
  refine s_aload_n A dL_law_1040 rfl ?_
  refine s_aload_nT A dL_law_1041 rfl ?_
  refine s_iload A dL_law_1042 rfl ?_
  refine s_iconst A dL_law_1044 ?_
  refine s_iadd A dL_law_1045 ?_
  refine z_tald A dL_law_1046 (Or.inr rfl) hn ⟨by omega, by omega⟩ ?_
  refine s_callV (a := 0) (k := 10) (N := 15) (sl := true) (M := mX10_rises) (n := 1) (d := 12) (mc := 0) (ms := 0) (av := [zI _]) (st := []) A dL_law_1047 rfl (by decide) (zk_0 _) zwd1027 zwd1028 zwd1029 zwd89 zcd_X10_rises (Nat.le_of_ble_eq_true rfl) (Nat.le_of_ble_eq_true rfl) (Nat.le_of_ble_eq_true rfl) ⟨by show _ ≤ 601024; omega, by show _ ≤ 7293034; omega⟩ ⟨rfl, zhn_X10_rises⟩ rfl (Nat.le_of_ble_eq_true rfl) rfl (z_contI (fun v1 μ1 h => ?_) h)
  refine s_aload_n A dL_law_1050 rfl ?_
  refine s_aload_nT A dL_law_1051 rfl ?_
  refine s_iload A dL_law_1052 rfl ?_
  refine s_iconst A dL_law_1054 ?_
  refine s_iadd A dL_law_1055 ?_
  refine z_tald A dL_law_1056 (Or.inr rfl) hn ⟨by omega, by omega⟩ ?_
  refine s_callV (a := 153) (k := 11) (N := 45) (sl := true) (M := mX11_rises) (n := 1) (d := 11) (mc := 0) (ms := 0) (av := [zI _]) (st := [zI v1]) A dL_law_1057 rfl (by decide) (zk_153 _) zwd1752 zwd1753 zwd1754 zwd100 zcd_X11_rises (Nat.le_of_ble_eq_true rfl) (Nat.le_of_ble_eq_true rfl) (Nat.le_of_ble_eq_true rfl) ⟨by show _ ≤ 601024; omega, by show _ ≤ 7293034; omega⟩ ⟨rfl, zhn_X11_rises⟩ rfl (Nat.le_of_ble_eq_true rfl) rfl (z_contI (fun v2 μ2 h => ?_) h)
  obtain ⟨e, h⟩ := h
  subst e
  exact z_icmp_same (tgt := 1691) A dL_law_1060 (by decide) h
theorem rL_reach (C : zJL G J) {i : Int} {μ : zM} {cn un : Nat} {l5 l6 l7 : Option zV} (hi : 0 ≤ i ∧ i + 4 < ((zst G 40).1 : Int)) (hn : (zst G 40).1 < 2147483648) (hb : cn + 43 ≤ 601024 ∧ un + 253 ≤ 7293034)
    (h : qX10_reach G (zsv G (i + 1)) μ (fun v1 μ1 => qX11_reach G (zsv G (i + 1)) μ1 (fun v2 μ2 => v1 = v2 ∧ J G 1691 (zLl i l5 l6 l7, [], μ2, cn, un)))) : J G 1065 (zLl i l5 l6 l7, [], μ, cn, un) := by
  obtain ⟨p, e, s, m, below, meth, c, args, Q, A, hX, rfl⟩ := C
  refine s_aload_n A dL_law_1065 rfl ?_
  refine s_aload_nT A dL_law_1066 rfl ?_
  refine s_iload A dL_law_1067 rfl ?_
  refine s_iconst A dL_law_1069 ?_
  refine s_iadd A dL_law_1070 ?_
  refine z_tald A dL_law_1071 (Or.inr rfl) hn ⟨by omega, by omega⟩ ?_
  refine s_callV (a := 0) (k := 10) (N := 15) (sl := true) (M := mX10_reach) (n := 1) (d := 12) (mc := 0) (ms := 0) (av := [zI _]) (st := []) A dL_law_1072 rfl (by decide) (zk_0 _) zwd1044 zwd1045 zwd1046 zwd89 zcd_X10_reach (Nat.le_of_ble_eq_true rfl) (Nat.le_of_ble_eq_true rfl) (Nat.le_of_ble_eq_true rfl) ⟨by show _ ≤ 601024; omega, by show _ ≤ 7293034; omega⟩ ⟨rfl, zhn_X10_reach⟩ rfl (Nat.le_of_ble_eq_true rfl) rfl (z_contI (fun v1 μ1 h => ?_) h)
  refine s_aload_n A dL_law_1075 rfl ?_
  refine s_aload_nT A dL_law_1076 rfl ?_
  refine s_iload A dL_law_1077 rfl ?_
  refine s_iconst A dL_law_1079 ?_
  refine s_iadd A dL_law_1080 ?_
  refine z_tald A dL_law_1081 (Or.inr rfl) hn ⟨by omega, by omega⟩ ?_
  refine s_callV (a := 153) (k := 11) (N := 45) (sl := true) (M := mX11_reach) (n := 1) (d := 12) (mc := 0) (ms := 0) (av := [zI _]) (st := [zI v1]) A dL_law_1082 rfl (by decide) (zk_153 _) zwd1760 zwd1761 zwd1762 zwd100 zcd_X11_reach (Nat.le_of_ble_eq_true rfl) (Nat.le_of_ble_eq_true rfl) (Nat.le_of_ble_eq_true rfl) ⟨by show _ ≤ 601024; omega, by show _ ≤ 7293034; omega⟩ ⟨rfl, zhn_X11_reach⟩ rfl (Nat.le_of_ble_eq_true rfl) rfl (z_contI (fun v2 μ2 h => ?_) h)
  obtain ⟨e, h⟩ := h
  subst e
  exact z_icmp_same (tgt := 1691) A dL_law_1085 (by decide) h
theorem rL_spread (C : zJL G J) {i : Int} {μ : zM} {cn un : Nat} {l5 l6 l7 : Option zV} (hi : 0 ≤ i ∧ i + 4 < ((zst G 40).1 : Int)) (hn : (zst G 40).1 < 2147483648) (hb : cn + 43 ≤ 601024 ∧ un + 253 ≤ 7293034)
    (h : qX10_spread G  μ (fun v1 μ1 => qX11_spread G  μ1 (fun v2 μ2 => v1 = v2 ∧ J G 1691 (zLl i l5 l6 l7, [], μ2, cn, un)))) : J G 1090 (zLl i l5 l6 l7, [], μ, cn, un) := by
  obtain ⟨p, e, s, m, below, meth, c, args, Q, A, hX, rfl⟩ := C
  refine s_aload_n A dL_law_1090 rfl ?_
  refine s_callV (a := 0) (k := 10) (N := 15) (sl := true) (M := mX10_spread) (n := 0) (d := 12) (mc := 0) (ms := 0) (av := []) (st := []) A dL_law_1091 rfl (by decide) (zk_0 _) zwd1051 zwd1052 zwd1053 zwd89 zcd_X10_spread (Nat.le_of_ble_eq_true rfl) (Nat.le_of_ble_eq_true rfl) (Nat.le_of_ble_eq_true rfl) ⟨by show _ ≤ 601024; omega, by show _ ≤ 7293034; omega⟩ ⟨rfl, zhn_X10_spread⟩ rfl (Nat.le_of_ble_eq_true rfl) rfl (z_contI (fun v1 μ1 h => ?_) h)
  refine s_aload_n A dL_law_1094 rfl ?_
  refine s_callV (a := 153) (k := 11) (N := 45) (sl := true) (M := mX11_spread) (n := 0) (d := 12) (mc := 0) (ms := 0) (av := []) (st := [zI v1]) A dL_law_1095 rfl (by decide) (zk_153 _) zwd1764 zwd1765 zwd1766 zwd100 zcd_X11_spread (Nat.le_of_ble_eq_true rfl) (Nat.le_of_ble_eq_true rfl) (Nat.le_of_ble_eq_true rfl) ⟨by show _ ≤ 601024; omega, by show _ ≤ 7293034; omega⟩ ⟨rfl, zhn_X11_spread⟩ rfl (Nat.le_of_ble_eq_true rfl) rfl (z_contI (fun v2 μ2 h => ?_) h)
  obtain ⟨e, h⟩ := h
  subst e
  exact z_icmp_same (tgt := 1691) A dL_law_1098 (by decide) h
theorem rL_odds (C : zJL G J) {i : Int} {μ : zM} {cn un : Nat} {l5 l6 l7 : Option zV} (hi : 0 ≤ i ∧ i + 4 < ((zst G 40).1 : Int)) (hn : (zst G 40).1 < 2147483648) (hb : cn + 43 ≤ 601024 ∧ un + 253 ≤ 7293034)
    (h : qX10_odds G (zsv G (i + 1)) (zsv G (i + 2)) (zsv G (i + 3)) (zsv G (i + 4)) μ (fun v1 μ1 => qX11_odds G (zsv G (i + 1)) (zsv G (i + 2)) (zsv G (i + 3)) (zsv G (i + 4)) μ1 (fun v2 μ2 => v1 = v2 ∧ J G 1691 (zLl i l5 l6 l7, [], μ2, cn, un)))) : J G 1103 (zLl i l5 l6 l7, [], μ, cn, un) := by
  obtain ⟨p, e, s, m, below, meth, c, args, Q, A, hX, rfl⟩ := C
  refine s_aload_n A dL_law_1103 rfl ?_
  refine s_aload_nT A dL_law_1104 rfl ?_
  refine s_iload A dL_law_1105 rfl ?_
  refine s_iconst A dL_law_1107 ?_
  refine s_iadd A dL_law_1108 ?_
  refine z_tald A dL_law_1109 (Or.inr rfl) hn ⟨by omega, by omega⟩ ?_
  refine s_aload_nT A dL_law_1110 rfl ?_
  refine s_iload A dL_law_1111 rfl ?_
  refine s_iconst A dL_law_1113 ?_
  refine s_iadd A dL_law_1114 ?_
  refine z_tald A dL_law_1115 (Or.inr rfl) hn ⟨by omega, by omega⟩ ?_
  refine s_aload_nT A dL_law_1116 rfl ?_
  refine s_iload A dL_law_1117 rfl ?_
  refine s_iconst A dL_law_1119 ?_
  refine s_iadd A dL_law_1120 ?_
  refine z_tald A dL_law_1121 (Or.inr rfl) hn ⟨by omega, by omega⟩ ?_
  refine s_aload_nT A dL_law_1122 rfl ?_
  refine s_iload A dL_law_1123 rfl ?_
  refine s_iconst A dL_law_1125 ?_
  refine s_iadd A dL_law_1126 ?_
  refine z_tald A dL_law_1127 (Or.inr rfl) hn ⟨by omega, by omega⟩ ?_
  refine s_callV (a := 0) (k := 10) (N := 15) (sl := true) (M := mX10_odds) (n := 4) (d := 12) (mc := 0) (ms := 0) (av := [zI _, zI _, zI _, zI _]) (st := []) A dL_law_1128 rfl (by decide) (zk_0 _) zwd1063 zwd1064 zwd1065 zwd89 zcd_X10_odds (Nat.le_of_ble_eq_true rfl) (Nat.le_of_ble_eq_true rfl) (Nat.le_of_ble_eq_true rfl) ⟨by show _ ≤ 601024; omega, by show _ ≤ 7293034; omega⟩ ⟨rfl, zhn_X10_odds⟩ rfl (Nat.le_of_ble_eq_true rfl) rfl (z_contI (fun v1 μ1 h => ?_) h)
  refine s_aload_n A dL_law_1131 rfl ?_
  refine s_aload_nT A dL_law_1132 rfl ?_
  refine s_iload A dL_law_1133 rfl ?_
  refine s_iconst A dL_law_1135 ?_
  refine s_iadd A dL_law_1136 ?_
  refine z_tald A dL_law_1137 (Or.inr rfl) hn ⟨by omega, by omega⟩ ?_
  refine s_aload_nT A dL_law_1138 rfl ?_
  refine s_iload A dL_law_1139 rfl ?_
  refine s_iconst A dL_law_1141 ?_
  refine s_iadd A dL_law_1142 ?_
  refine z_tald A dL_law_1143 (Or.inr rfl) hn ⟨by omega, by omega⟩ ?_
  refine s_aload_nT A dL_law_1144 rfl ?_
  refine s_iload A dL_law_1145 rfl ?_
  refine s_iconst A dL_law_1147 ?_
  refine s_iadd A dL_law_1148 ?_
  refine z_tald A dL_law_1149 (Or.inr rfl) hn ⟨by omega, by omega⟩ ?_
  refine s_aload_nT A dL_law_1150 rfl ?_
  refine s_iload A dL_law_1151 rfl ?_
  refine s_iconst A dL_law_1153 ?_
  refine s_iadd A dL_law_1154 ?_
  refine z_tald A dL_law_1155 (Or.inr rfl) hn ⟨by omega, by omega⟩ ?_
  refine s_callV (a := 153) (k := 11) (N := 45) (sl := true) (M := mX11_odds) (n := 4) (d := 63) (mc := 0) (ms := 0) (av := [zI _, zI _, zI _, zI _]) (st := [zI v1]) A dL_law_1156 rfl (by decide) (zk_153 _) zwd1774 zwd1775 zwd1776 zwd100 zcd_X11_odds (Nat.le_of_ble_eq_true rfl) (Nat.le_of_ble_eq_true rfl) (Nat.le_of_ble_eq_true rfl) ⟨by show _ ≤ 601024; omega, by show _ ≤ 7293034; omega⟩ ⟨rfl, zhn_X11_odds⟩ rfl (Nat.le_of_ble_eq_true rfl) rfl (z_contI (fun v2 μ2 h => ?_) h)
  obtain ⟨e, h⟩ := h
  subst e
  exact z_icmp_same (tgt := 1691) A dL_law_1159 (by decide) h
theorem rL_through (C : zJL G J) {i : Int} {μ : zM} {cn un : Nat} {l5 l6 l7 : Option zV} (hi : 0 ≤ i ∧ i + 4 < ((zst G 40).1 : Int)) (hn : (zst G 40).1 < 2147483648) (hb : cn + 43 ≤ 601024 ∧ un + 253 ≤ 7293034)
    (h : qX10_through G (zsv G (i + 1)) μ (fun v1 μ1 => qX11_through G (zsv G (i + 1)) μ1 (fun v2 μ2 => v1 = v2 ∧ J G 1691 (zLl i l5 l6 l7, [], μ2, cn, un)))) : J G 1164 (zLl i l5 l6 l7, [], μ, cn, un) := by
  obtain ⟨p, e, s, m, below, meth, c, args, Q, A, hX, rfl⟩ := C
  refine s_aload_n A dL_law_1164 rfl ?_
  refine s_aload_nT A dL_law_1165 rfl ?_
  refine s_iload A dL_law_1166 rfl ?_
  refine s_iconst A dL_law_1168 ?_
  refine s_iadd A dL_law_1169 ?_
  refine z_tald A dL_law_1170 (Or.inr rfl) hn ⟨by omega, by omega⟩ ?_
  refine s_callV (a := 0) (k := 10) (N := 15) (sl := true) (M := mX10_through) (n := 1) (d := 73) (mc := 0) (ms := 0) (av := [zI _]) (st := []) A dL_law_1171 rfl (by decide) (zk_0 _) zwd1074 zwd1075 zwd1076 zwd89 zcd_X10_through (Nat.le_of_ble_eq_true rfl) (Nat.le_of_ble_eq_true rfl) (Nat.le_of_ble_eq_true rfl) ⟨by show _ ≤ 601024; omega, by show _ ≤ 7293034; omega⟩ ⟨rfl, zhn_X10_through⟩ rfl (Nat.le_of_ble_eq_true rfl) rfl (z_contI (fun v1 μ1 h => ?_) h)
  refine s_aload_n A dL_law_1174 rfl ?_
  refine s_aload_nT A dL_law_1175 rfl ?_
  refine s_iload A dL_law_1176 rfl ?_
  refine s_iconst A dL_law_1178 ?_
  refine s_iadd A dL_law_1179 ?_
  refine z_tald A dL_law_1180 (Or.inr rfl) hn ⟨by omega, by omega⟩ ?_
  refine s_callV (a := 153) (k := 11) (N := 45) (sl := true) (M := mX11_through) (n := 1) (d := 112) (mc := 0) (ms := 0) (av := [zI _]) (st := [zI v1]) A dL_law_1181 rfl (by decide) (zk_153 _) zwd1721 zwd1722 zwd1723 zwd100 zcd_X11_through (Nat.le_of_ble_eq_true rfl) (Nat.le_of_ble_eq_true rfl) (Nat.le_of_ble_eq_true rfl) ⟨by show _ ≤ 601024; omega, by show _ ≤ 7293034; omega⟩ ⟨rfl, zhn_X11_through⟩ rfl (Nat.le_of_ble_eq_true rfl) rfl (z_contI (fun v2 μ2 h => ?_) h)
  obtain ⟨e, h⟩ := h
  subst e
  exact z_icmp_same (tgt := 1691) A dL_law_1184 (by decide) h
theorem rL_sources (C : zJL G J) {i : Int} {μ : zM} {cn un : Nat} {l5 l6 l7 : Option zV} (hi : 0 ≤ i ∧ i + 4 < ((zst G 40).1 : Int)) (hn : (zst G 40).1 < 2147483648) (hb : cn + 43 ≤ 601024 ∧ un + 253 ≤ 7293034)
    (h : qX10_sources G (zsv G (i + 1)) μ (fun v1 μ1 => qX11_sources G (zsv G (i + 1)) μ1 (fun v2 μ2 => v1 = v2 ∧ J G 1691 (zLl i l5 l6 l7, [], μ2, cn, un)))) : J G 1189 (zLl i l5 l6 l7, [], μ, cn, un) := by
  obtain ⟨p, e, s, m, below, meth, c, args, Q, A, hX, rfl⟩ := C
  refine s_aload_n A dL_law_1189 rfl ?_
  refine s_aload_nT A dL_law_1190 rfl ?_
  refine s_iload A dL_law_1191 rfl ?_
  refine s_iconst A dL_law_1193 ?_
  refine s_iadd A dL_law_1194 ?_
  refine z_tald A dL_law_1195 (Or.inr rfl) hn ⟨by omega, by omega⟩ ?_
  refine s_callV (a := 0) (k := 10) (N := 15) (sl := true) (M := mX10_sources) (n := 1) (d := 73) (mc := 0) (ms := 0) (av := [zI _]) (st := []) A dL_law_1196 rfl (by decide) (zk_0 _) zwd1078 zwd1079 zwd1080 zwd89 zcd_X10_sources (Nat.le_of_ble_eq_true rfl) (Nat.le_of_ble_eq_true rfl) (Nat.le_of_ble_eq_true rfl) ⟨by show _ ≤ 601024; omega, by show _ ≤ 7293034; omega⟩ ⟨rfl, zhn_X10_sources⟩ rfl (Nat.le_of_ble_eq_true rfl) rfl (z_contI (fun v1 μ1 h => ?_) h)
  refine s_aload_n A dL_law_1199 rfl ?_
  refine s_aload_nT A dL_law_1200 rfl ?_
  refine s_iload A dL_law_1201 rfl ?_
  refine s_iconst A dL_law_1203 ?_
  refine s_iadd A dL_law_1204 ?_
  refine z_tald A dL_law_1205 (Or.inr rfl) hn ⟨by omega, by omega⟩ ?_
  refine s_callV (a := 153) (k := 11) (N := 45) (sl := true) (M := mX11_sources) (n := 1) (d := 112) (mc := 0) (ms := 0) (av := [zI _]) (st := [zI v1]) A dL_law_1206 rfl (by decide) (zk_153 _) zwd1725 zwd1726 zwd1727 zwd100 zcd_X11_sources (Nat.le_of_ble_eq_true rfl) (Nat.le_of_ble_eq_true rfl) (Nat.le_of_ble_eq_true rfl) ⟨by show _ ≤ 601024; omega, by show _ ≤ 7293034; omega⟩ ⟨rfl, zhn_X11_sources⟩ rfl (Nat.le_of_ble_eq_true rfl) rfl (z_contI (fun v2 μ2 h => ?_) h)
  obtain ⟨e, h⟩ := h
  subst e
  exact z_icmp_same (tgt := 1691) A dL_law_1209 (by decide) h
theorem rL_rounds (C : zJL G J) {i : Int} {μ : zM} {cn un : Nat} {l5 l6 l7 : Option zV} (hi : 0 ≤ i ∧ i + 4 < ((zst G 40).1 : Int)) (hn : (zst G 40).1 < 2147483648) (hb : cn + 43 ≤ 601024 ∧ un + 253 ≤ 7293034)
    (h : qX10_rounds G (zsv G (i + 1)) μ (fun v1 μ1 => qX11_rounds G (zsv G (i + 1)) μ1 (fun v2 μ2 => v1 = v2 ∧ J G 1691 (zLl i l5 l6 l7, [], μ2, cn, un)))) : J G 1214 (zLl i l5 l6 l7, [], μ, cn, un) := by
  obtain ⟨p, e, s, m, below, meth, c, args, Q, A, hX, rfl⟩ := C
  refine s_aload_n A dL_law_1214 rfl ?_
  refine s_aload_nT A dL_law_1215 rfl ?_
  refine s_iload A dL_law_1216 rfl ?_
  refine s_iconst A dL_law_1218 ?_
  refine s_iadd A dL_law_1219 ?_
  refine z_tald A dL_law_1220 (Or.inr rfl) hn ⟨by omega, by omega⟩ ?_
  refine s_callV (a := 0) (k := 10) (N := 15) (sl := true) (M := mX10_rounds) (n := 1) (d := 73) (mc := 0) (ms := 0) (av := [zI _]) (st := []) A dL_law_1221 rfl (by decide) (zk_0 _) zwd1082 zwd1083 zwd1084 zwd89 zcd_X10_rounds (Nat.le_of_ble_eq_true rfl) (Nat.le_of_ble_eq_true rfl) (Nat.le_of_ble_eq_true rfl) ⟨by show _ ≤ 601024; omega, by show _ ≤ 7293034; omega⟩ ⟨rfl, zhn_X10_rounds⟩ rfl (Nat.le_of_ble_eq_true rfl) rfl (z_contI (fun v1 μ1 h => ?_) h)
  refine s_aload_n A dL_law_1224 rfl ?_
  refine s_aload_nT A dL_law_1225 rfl ?_
  refine s_iload A dL_law_1226 rfl ?_
  refine s_iconst A dL_law_1228 ?_
  refine s_iadd A dL_law_1229 ?_
  refine z_tald A dL_law_1230 (Or.inr rfl) hn ⟨by omega, by omega⟩ ?_
  refine s_callV (a := 153) (k := 11) (N := 45) (sl := true) (M := mX11_rounds) (n := 1) (d := 112) (mc := 0) (ms := 0) (av := [zI _]) (st := [zI v1]) A dL_law_1231 rfl (by decide) (zk_153 _) zwd1729 zwd1730 zwd1731 zwd100 zcd_X11_rounds (Nat.le_of_ble_eq_true rfl) (Nat.le_of_ble_eq_true rfl) (Nat.le_of_ble_eq_true rfl) ⟨by show _ ≤ 601024; omega, by show _ ≤ 7293034; omega⟩ ⟨rfl, zhn_X11_rounds⟩ rfl (Nat.le_of_ble_eq_true rfl) rfl (z_contI (fun v2 μ2 h => ?_) h)
  obtain ⟨e, h⟩ := h
  subst e
  exact z_icmp_same (tgt := 1691) A dL_law_1234 (by decide) h
theorem rL_press (C : zJL G J) {i : Int} {μ : zM} {cn un : Nat} {l5 l6 l7 : Option zV} (hi : 0 ≤ i ∧ i + 4 < ((zst G 40).1 : Int)) (hn : (zst G 40).1 < 2147483648) (hb : cn + 43 ≤ 601024 ∧ un + 253 ≤ 7293034)
    (h : qX10_press G (zsv G (i + 1)) μ (fun v1 μ1 => qX11_press G (zsv G (i + 1)) μ1 (fun v2 μ2 => v1 = v2 ∧ J G 1691 (zLl i l5 l6 l7, [], μ2, cn, un)))) : J G 1239 (zLl i l5 l6 l7, [], μ, cn, un) := by
  obtain ⟨p, e, s, m, below, meth, c, args, Q, A, hX, rfl⟩ := C
  refine s_aload_n A dL_law_1239 rfl ?_
  refine s_aload_nT A dL_law_1240 rfl ?_
  refine s_iload A dL_law_1241 rfl ?_
  refine s_iconst A dL_law_1243 ?_
  refine s_iadd A dL_law_1244 ?_
  refine z_tald A dL_law_1245 (Or.inr rfl) hn ⟨by omega, by omega⟩ ?_
  refine s_callV (a := 0) (k := 10) (N := 15) (sl := true) (M := mX10_press) (n := 1) (d := 12) (mc := 0) (ms := 0) (av := [zI _]) (st := []) A dL_law_1246 rfl (by decide) (zk_0 _) zwd1086 zwd1087 zwd1088 zwd89 zcd_X10_press (Nat.le_of_ble_eq_true rfl) (Nat.le_of_ble_eq_true rfl) (Nat.le_of_ble_eq_true rfl) ⟨by show _ ≤ 601024; omega, by show _ ≤ 7293034; omega⟩ ⟨rfl, zhn_X10_press⟩ rfl (Nat.le_of_ble_eq_true rfl) rfl (z_contI (fun v1 μ1 h => ?_) h)
  refine s_aload_n A dL_law_1249 rfl ?_
  refine s_aload_nT A dL_law_1250 rfl ?_
  refine s_iload A dL_law_1251 rfl ?_
  refine s_iconst A dL_law_1253 ?_
  refine s_iadd A dL_law_1254 ?_
  refine z_tald A dL_law_1255 (Or.inr rfl) hn ⟨by omega, by omega⟩ ?_
  refine s_callV (a := 153) (k := 11) (N := 45) (sl := true) (M := mX11_press) (n := 1) (d := 12) (mc := 0) (ms := 0) (av := [zI _]) (st := [zI v1]) A dL_law_1256 rfl (by decide) (zk_153 _) zwd1781 zwd1782 zwd1783 zwd100 zcd_X11_press (Nat.le_of_ble_eq_true rfl) (Nat.le_of_ble_eq_true rfl) (Nat.le_of_ble_eq_true rfl) ⟨by show _ ≤ 601024; omega, by show _ ≤ 7293034; omega⟩ ⟨rfl, zhn_X11_press⟩ rfl (Nat.le_of_ble_eq_true rfl) rfl (z_contI (fun v2 μ2 h => ?_) h)
  obtain ⟨e, h⟩ := h
  subst e
  exact z_icmp_same (tgt := 1691) A dL_law_1259 (by decide) h
theorem rL_cell (C : zJL G J) {i : Int} {μ : zM} {cn un : Nat} {l5 l6 l7 : Option zV} (hi : 0 ≤ i ∧ i + 4 < ((zst G 40).1 : Int)) (hn : (zst G 40).1 < 2147483648) (hb : cn + 43 ≤ 601024 ∧ un + 253 ≤ 7293034)
    (h : qX10_cell G (zsv G (i + 1)) (zsv G (i + 2)) μ (fun v1 μ1 => qX11_cell G (zsv G (i + 1)) (zsv G (i + 2)) μ1 (fun v2 μ2 => v1 = v2 ∧ J G 1691 (zLl i l5 l6 l7, [], μ2, cn, un)))) : J G 1264 (zLl i l5 l6 l7, [], μ, cn, un) := by
  obtain ⟨p, e, s, m, below, meth, c, args, Q, A, hX, rfl⟩ := C
  refine s_aload_n A dL_law_1264 rfl ?_
  refine s_aload_nT A dL_law_1265 rfl ?_
  refine s_iload A dL_law_1266 rfl ?_
  refine s_iconst A dL_law_1268 ?_
  refine s_iadd A dL_law_1269 ?_
  refine z_tald A dL_law_1270 (Or.inr rfl) hn ⟨by omega, by omega⟩ ?_
  refine s_aload_nT A dL_law_1271 rfl ?_
  refine s_iload A dL_law_1272 rfl ?_
  refine s_iconst A dL_law_1274 ?_
  refine s_iadd A dL_law_1275 ?_
  refine z_tald A dL_law_1276 (Or.inr rfl) hn ⟨by omega, by omega⟩ ?_
  refine s_callV (a := 0) (k := 10) (N := 15) (sl := true) (M := mX10_cell) (n := 2) (d := 12) (mc := 0) (ms := 0) (av := [zI _, zI _]) (st := []) A dL_law_1277 rfl (by decide) (zk_0 _) zwd1123 zwd1124 zwd1125 zwd89 zcd_X10_cell (Nat.le_of_ble_eq_true rfl) (Nat.le_of_ble_eq_true rfl) (Nat.le_of_ble_eq_true rfl) ⟨by show _ ≤ 601024; omega, by show _ ≤ 7293034; omega⟩ ⟨rfl, zhn_X10_cell⟩ rfl (Nat.le_of_ble_eq_true rfl) rfl (z_contI (fun v1 μ1 h => ?_) h)
  refine s_aload_n A dL_law_1280 rfl ?_
  refine s_aload_nT A dL_law_1281 rfl ?_
  refine s_iload A dL_law_1282 rfl ?_
  refine s_iconst A dL_law_1284 ?_
  refine s_iadd A dL_law_1285 ?_
  refine z_tald A dL_law_1286 (Or.inr rfl) hn ⟨by omega, by omega⟩ ?_
  refine s_aload_nT A dL_law_1287 rfl ?_
  refine s_iload A dL_law_1288 rfl ?_
  refine s_iconst A dL_law_1290 ?_
  refine s_iadd A dL_law_1291 ?_
  refine z_tald A dL_law_1292 (Or.inr rfl) hn ⟨by omega, by omega⟩ ?_
  refine s_callV (a := 153) (k := 11) (N := 45) (sl := true) (M := mX11_cell) (n := 2) (d := 12) (mc := 0) (ms := 0) (av := [zI _, zI _]) (st := [zI v1]) A dL_law_1293 rfl (by decide) (zk_153 _) zwd1800 zwd1801 zwd1802 zwd100 zcd_X11_cell (Nat.le_of_ble_eq_true rfl) (Nat.le_of_ble_eq_true rfl) (Nat.le_of_ble_eq_true rfl) ⟨by show _ ≤ 601024; omega, by show _ ≤ 7293034; omega⟩ ⟨rfl, zhn_X11_cell⟩ rfl (Nat.le_of_ble_eq_true rfl) rfl (z_contI (fun v2 μ2 h => ?_) h)
  obtain ⟨e, h⟩ := h
  subst e
  exact z_icmp_same (tgt := 1691) A dL_law_1296 (by decide) h
theorem rL_slips (C : zJL G J) {i : Int} {μ : zM} {cn un : Nat} {l5 l6 l7 : Option zV} (hi : 0 ≤ i ∧ i + 4 < ((zst G 40).1 : Int)) (hn : (zst G 40).1 < 2147483648) (hb : cn + 43 ≤ 601024 ∧ un + 253 ≤ 7293034)
    (h : qX10_slips G (zsv G (i + 1)) (zsv G (i + 2)) (zsv G (i + 3)) μ (fun v1 μ1 => qX11_slips G (zsv G (i + 1)) (zsv G (i + 2)) (zsv G (i + 3)) μ1 (fun v2 μ2 => v1 = v2 ∧ J G 1691 (zLl i l5 l6 l7, [], μ2, cn, un)))) : J G 1301 (zLl i l5 l6 l7, [], μ, cn, un) := by
  obtain ⟨p, e, s, m, below, meth, c, args, Q, A, hX, rfl⟩ := C
  refine s_aload_n A dL_law_1301 rfl ?_
  refine s_aload_nT A dL_law_1302 rfl ?_
  refine s_iload A dL_law_1303 rfl ?_
  refine s_iconst A dL_law_1305 ?_
  refine s_iadd A dL_law_1306 ?_
  refine z_tald A dL_law_1307 (Or.inr rfl) hn ⟨by omega, by omega⟩ ?_
  refine s_aload_nT A dL_law_1308 rfl ?_
  refine s_iload A dL_law_1309 rfl ?_
  refine s_iconst A dL_law_1311 ?_
  refine s_iadd A dL_law_1312 ?_
  refine z_tald A dL_law_1313 (Or.inr rfl) hn ⟨by omega, by omega⟩ ?_
  refine s_aload_nT A dL_law_1314 rfl ?_
  refine s_iload A dL_law_1315 rfl ?_
  refine s_iconst A dL_law_1317 ?_
  refine s_iadd A dL_law_1318 ?_
  refine z_tald A dL_law_1319 (Or.inr rfl) hn ⟨by omega, by omega⟩ ?_
  refine s_callV (a := 0) (k := 10) (N := 15) (sl := true) (M := mX10_slips) (n := 3) (d := 12) (mc := 0) (ms := 0) (av := [zI _, zI _, zI _]) (st := []) A dL_law_1320 rfl (by decide) (zk_0 _) zwd1127 zwd1128 zwd1129 zwd89 zcd_X10_slips (Nat.le_of_ble_eq_true rfl) (Nat.le_of_ble_eq_true rfl) (Nat.le_of_ble_eq_true rfl) ⟨by show _ ≤ 601024; omega, by show _ ≤ 7293034; omega⟩ ⟨rfl, zhn_X10_slips⟩ rfl (Nat.le_of_ble_eq_true rfl) rfl (z_contI (fun v1 μ1 h => ?_) h)
  refine s_aload_n A dL_law_1323 rfl ?_
  refine s_aload_nT A dL_law_1324 rfl ?_
  refine s_iload A dL_law_1325 rfl ?_
  refine s_iconst A dL_law_1327 ?_
  refine s_iadd A dL_law_1328 ?_
  refine z_tald A dL_law_1329 (Or.inr rfl) hn ⟨by omega, by omega⟩ ?_
  refine s_aload_nT A dL_law_1330 rfl ?_
  refine s_iload A dL_law_1331 rfl ?_
  refine s_iconst A dL_law_1333 ?_
  refine s_iadd A dL_law_1334 ?_
  refine z_tald A dL_law_1335 (Or.inr rfl) hn ⟨by omega, by omega⟩ ?_
  refine s_aload_nT A dL_law_1336 rfl ?_
  refine s_iload A dL_law_1337 rfl ?_
  refine s_iconst A dL_law_1339 ?_
  refine s_iadd A dL_law_1340 ?_
  refine z_tald A dL_law_1341 (Or.inr rfl) hn ⟨by omega, by omega⟩ ?_
  refine s_callV (a := 153) (k := 11) (N := 45) (sl := true) (M := mX11_slips) (n := 3) (d := 12) (mc := 0) (ms := 0) (av := [zI _, zI _, zI _]) (st := [zI v1]) A dL_law_1342 rfl (by decide) (zk_153 _) zwd1804 zwd1805 zwd1806 zwd100 zcd_X11_slips (Nat.le_of_ble_eq_true rfl) (Nat.le_of_ble_eq_true rfl) (Nat.le_of_ble_eq_true rfl) ⟨by show _ ≤ 601024; omega, by show _ ≤ 7293034; omega⟩ ⟨rfl, zhn_X11_slips⟩ rfl (Nat.le_of_ble_eq_true rfl) rfl (z_contI (fun v2 μ2 h => ?_) h)
  obtain ⟨e, h⟩ := h
  subst e
  exact z_icmp_same (tgt := 1691) A dL_law_1345 (by decide) h
theorem rL_greys (C : zJL G J) {i : Int} {μ : zM} {cn un : Nat} {l5 l6 l7 : Option zV} (hi : 0 ≤ i ∧ i + 4 < ((zst G 40).1 : Int)) (hn : (zst G 40).1 < 2147483648) (hb : cn + 43 ≤ 601024 ∧ un + 253 ≤ 7293034)
    (h : qX10_greys G (zsv G (i + 1)) (zsv G (i + 2)) μ (fun v1 μ1 => qX11_greys G (zsv G (i + 1)) (zsv G (i + 2)) μ1 (fun v2 μ2 => v1 = v2 ∧ J G 1691 (zLl i l5 l6 l7, [], μ2, cn, un)))) : J G 1350 (zLl i l5 l6 l7, [], μ, cn, un) := by
  obtain ⟨p, e, s, m, below, meth, c, args, Q, A, hX, rfl⟩ := C
  refine s_aload_n A dL_law_1350 rfl ?_
  refine s_aload_nT A dL_law_1351 rfl ?_
  refine s_iload A dL_law_1352 rfl ?_
  refine s_iconst A dL_law_1354 ?_
  refine s_iadd A dL_law_1355 ?_
  refine z_tald A dL_law_1356 (Or.inr rfl) hn ⟨by omega, by omega⟩ ?_
  refine s_aload_nT A dL_law_1357 rfl ?_
  refine s_iload A dL_law_1358 rfl ?_
  refine s_iconst A dL_law_1360 ?_
  refine s_iadd A dL_law_1361 ?_
  refine z_tald A dL_law_1362 (Or.inr rfl) hn ⟨by omega, by omega⟩ ?_
  refine s_callV (a := 0) (k := 10) (N := 15) (sl := true) (M := mX10_greys) (n := 2) (d := 12) (mc := 0) (ms := 0) (av := [zI _, zI _]) (st := []) A dL_law_1363 rfl (by decide) (zk_0 _) zwd1137 zwd1138 zwd1139 zwd89 zcd_X10_greys (Nat.le_of_ble_eq_true rfl) (Nat.le_of_ble_eq_true rfl) (Nat.le_of_ble_eq_true rfl) ⟨by show _ ≤ 601024; omega, by show _ ≤ 7293034; omega⟩ ⟨rfl, zhn_X10_greys⟩ rfl (Nat.le_of_ble_eq_true rfl) rfl (z_contI (fun v1 μ1 h => ?_) h)
  refine s_aload_n A dL_law_1366 rfl ?_
  refine s_aload_nT A dL_law_1367 rfl ?_
  refine s_iload A dL_law_1368 rfl ?_
  refine s_iconst A dL_law_1370 ?_
  refine s_iadd A dL_law_1371 ?_
  refine z_tald A dL_law_1372 (Or.inr rfl) hn ⟨by omega, by omega⟩ ?_
  refine s_aload_nT A dL_law_1373 rfl ?_
  refine s_iload A dL_law_1374 rfl ?_
  refine s_iconst A dL_law_1376 ?_
  refine s_iadd A dL_law_1377 ?_
  refine z_tald A dL_law_1378 (Or.inr rfl) hn ⟨by omega, by omega⟩ ?_
  refine s_callV (a := 153) (k := 11) (N := 45) (sl := true) (M := mX11_greys) (n := 2) (d := 12) (mc := 0) (ms := 0) (av := [zI _, zI _]) (st := [zI v1]) A dL_law_1379 rfl (by decide) (zk_153 _) zwd1808 zwd1809 zwd1810 zwd100 zcd_X11_greys (Nat.le_of_ble_eq_true rfl) (Nat.le_of_ble_eq_true rfl) (Nat.le_of_ble_eq_true rfl) ⟨by show _ ≤ 601024; omega, by show _ ≤ 7293034; omega⟩ ⟨rfl, zhn_X11_greys⟩ rfl (Nat.le_of_ble_eq_true rfl) rfl (z_contI (fun v2 μ2 h => ?_) h)
  obtain ⟨e, h⟩ := h
  subst e
  exact z_icmp_same (tgt := 1691) A dL_law_1382 (by decide) h
theorem rL_replaces (C : zJL G J) {i : Int} {μ : zM} {cn un : Nat} {l5 l6 l7 : Option zV} (hi : 0 ≤ i ∧ i + 4 < ((zst G 40).1 : Int)) (hn : (zst G 40).1 < 2147483648) (hb : cn + 43 ≤ 601024 ∧ un + 253 ≤ 7293034)
    (h : qX10_replaces G (zsv G (i + 1)) (zsv G (i + 2)) (zsv G (i + 3)) μ (fun v1 μ1 => qX11_replaces G (zsv G (i + 1)) (zsv G (i + 2)) (zsv G (i + 3)) μ1 (fun v2 μ2 => v1 = v2 ∧ J G 1691 (zLl i l5 l6 l7, [], μ2, cn, un)))) : J G 1387 (zLl i l5 l6 l7, [], μ, cn, un) := by
  obtain ⟨p, e, s, m, below, meth, c, args, Q, A, hX, rfl⟩ := C
  refine s_aload_n A dL_law_1387 rfl ?_
  refine s_aload_nT A dL_law_1388 rfl ?_
  refine s_iload A dL_law_1389 rfl ?_
  refine s_iconst A dL_law_1391 ?_
  refine s_iadd A dL_law_1392 ?_
  refine z_tald A dL_law_1393 (Or.inr rfl) hn ⟨by omega, by omega⟩ ?_
  refine s_aload_nT A dL_law_1394 rfl ?_
  refine s_iload A dL_law_1395 rfl ?_
  refine s_iconst A dL_law_1397 ?_
  refine s_iadd A dL_law_1398 ?_
  refine z_tald A dL_law_1399 (Or.inr rfl) hn ⟨by omega, by omega⟩ ?_
  refine s_aload_nT A dL_law_1400 rfl ?_
  refine s_iload A dL_law_1401 rfl ?_
  refine s_iconst A dL_law_1403 ?_
  refine s_iadd A dL_law_1404 ?_
  refine z_tald A dL_law_1405 (Or.inr rfl) hn ⟨by omega, by omega⟩ ?_
  refine s_callV (a := 0) (k := 10) (N := 15) (sl := true) (M := mX10_replaces) (n := 3) (d := 12) (mc := 0) (ms := 0) (av := [zI _, zI _, zI _]) (st := []) A dL_law_1406 rfl (by decide) (zk_0 _) zwd1151 zwd1152 zwd1153 zwd89 zcd_X10_replaces (Nat.le_of_ble_eq_true rfl) (Nat.le_of_ble_eq_true rfl) (Nat.le_of_ble_eq_true rfl) ⟨by show _ ≤ 601024; omega, by show _ ≤ 7293034; omega⟩ ⟨rfl, zhn_X10_replaces⟩ rfl (Nat.le_of_ble_eq_true rfl) rfl (z_contI (fun v1 μ1 h => ?_) h)
  refine s_aload_n A dL_law_1409 rfl ?_
  refine s_aload_nT A dL_law_1410 rfl ?_
  refine s_iload A dL_law_1411 rfl ?_
  refine s_iconst A dL_law_1413 ?_
  refine s_iadd A dL_law_1414 ?_
  refine z_tald A dL_law_1415 (Or.inr rfl) hn ⟨by omega, by omega⟩ ?_
  refine s_aload_nT A dL_law_1416 rfl ?_
  refine s_iload A dL_law_1417 rfl ?_
  refine s_iconst A dL_law_1419 ?_
  refine s_iadd A dL_law_1420 ?_
  refine z_tald A dL_law_1421 (Or.inr rfl) hn ⟨by omega, by omega⟩ ?_
  refine s_aload_nT A dL_law_1422 rfl ?_
  refine s_iload A dL_law_1423 rfl ?_
  refine s_iconst A dL_law_1425 ?_
  refine s_iadd A dL_law_1426 ?_
  refine z_tald A dL_law_1427 (Or.inr rfl) hn ⟨by omega, by omega⟩ ?_
  refine s_callV (a := 153) (k := 11) (N := 45) (sl := true) (M := mX11_replaces) (n := 3) (d := 12) (mc := 0) (ms := 0) (av := [zI _, zI _, zI _]) (st := [zI v1]) A dL_law_1428 rfl (by decide) (zk_153 _) zwd1820 zwd1821 zwd1822 zwd100 zcd_X11_replaces (Nat.le_of_ble_eq_true rfl) (Nat.le_of_ble_eq_true rfl) (Nat.le_of_ble_eq_true rfl) ⟨by show _ ≤ 601024; omega, by show _ ≤ 7293034; omega⟩ ⟨rfl, zhn_X11_replaces⟩ rfl (Nat.le_of_ble_eq_true rfl) rfl (z_contI (fun v2 μ2 h => ?_) h)
  obtain ⟨e, h⟩ := h
  subst e
  exact z_icmp_same (tgt := 1691) A dL_law_1431 (by decide) h
theorem rL_doubt (C : zJL G J) {i : Int} {μ : zM} {cn un : Nat} {l5 l6 l7 : Option zV} (hi : 0 ≤ i ∧ i + 4 < ((zst G 40).1 : Int)) (hn : (zst G 40).1 < 2147483648) (hb : cn + 43 ≤ 601024 ∧ un + 253 ≤ 7293034)
    (h : qX10_doubt G  μ (fun v1 μ1 => qX11_doubt G  μ1 (fun v2 μ2 => v1 = v2 ∧ J G 1691 (zLl i l5 l6 l7, [], μ2, cn, un)))) : J G 1436 (zLl i l5 l6 l7, [], μ, cn, un) := by
  obtain ⟨p, e, s, m, below, meth, c, args, Q, A, hX, rfl⟩ := C
  refine s_aload_n A dL_law_1436 rfl ?_
  refine s_callV (a := 0) (k := 10) (N := 15) (sl := true) (M := mX10_doubt) (n := 0) (d := 11) (mc := 0) (ms := 0) (av := []) (st := []) A dL_law_1437 rfl (by decide) (zk_0 _) zwd1158 zwd1159 zwd1160 zwd89 zcd_X10_doubt (Nat.le_of_ble_eq_true rfl) (Nat.le_of_ble_eq_true rfl) (Nat.le_of_ble_eq_true rfl) ⟨by show _ ≤ 601024; omega, by show _ ≤ 7293034; omega⟩ ⟨rfl, zhn_X10_doubt⟩ rfl (Nat.le_of_ble_eq_true rfl) rfl (z_contI (fun v1 μ1 h => ?_) h)
  refine s_aload_n A dL_law_1440 rfl ?_
  refine s_callV (a := 153) (k := 11) (N := 45) (sl := true) (M := mX11_doubt) (n := 0) (d := 9) (mc := 0) (ms := 0) (av := []) (st := [zI v1]) A dL_law_1441 rfl (by decide) (zk_153 _) zwd1827 zwd1828 zwd1829 zwd100 zcd_X11_doubt (Nat.le_of_ble_eq_true rfl) (Nat.le_of_ble_eq_true rfl) (Nat.le_of_ble_eq_true rfl) ⟨by show _ ≤ 601024; omega, by show _ ≤ 7293034; omega⟩ ⟨rfl, zhn_X11_doubt⟩ rfl (Nat.le_of_ble_eq_true rfl) rfl (z_contI (fun v2 μ2 h => ?_) h)
  obtain ⟨e, h⟩ := h
  subst e
  exact z_icmp_same (tgt := 1691) A dL_law_1444 (by decide) h
theorem rL_asks (C : zJL G J) {i : Int} {μ : zM} {cn un : Nat} {l5 l6 l7 : Option zV} (hi : 0 ≤ i ∧ i + 4 < ((zst G 40).1 : Int)) (hn : (zst G 40).1 < 2147483648) (hb : cn + 43 ≤ 601024 ∧ un + 253 ≤ 7293034)
    (h : qX10_asks G  μ (fun v1 μ1 => qX11_asks G  μ1 (fun v2 μ2 => v1 = v2 ∧ J G 1691 (zLl i l5 l6 l7, [], μ2, cn, un)))) : J G 1449 (zLl i l5 l6 l7, [], μ, cn, un) := by
  obtain ⟨p, e, s, m, below, meth, c, args, Q, A, hX, rfl⟩ := C
  refine s_aload_n A dL_law_1449 rfl ?_
  refine s_callV (a := 0) (k := 10) (N := 15) (sl := true) (M := mX10_asks) (n := 0) (d := 12) (mc := 0) (ms := 0) (av := []) (st := []) A dL_law_1450 rfl (by decide) (zk_0 _) zwd1167 zwd1168 zwd1169 zwd89 zcd_X10_asks (Nat.le_of_ble_eq_true rfl) (Nat.le_of_ble_eq_true rfl) (Nat.le_of_ble_eq_true rfl) ⟨by show _ ≤ 601024; omega, by show _ ≤ 7293034; omega⟩ ⟨rfl, zhn_X10_asks⟩ rfl (Nat.le_of_ble_eq_true rfl) rfl (z_contI (fun v1 μ1 h => ?_) h)
  refine s_aload_n A dL_law_1453 rfl ?_
  refine s_callV (a := 153) (k := 11) (N := 45) (sl := true) (M := mX11_asks) (n := 0) (d := 4) (mc := 0) (ms := 0) (av := []) (st := [zI v1]) A dL_law_1454 rfl (by decide) (zk_153 _) zwd1831 zwd1832 zwd1833 zwd100 zcd_X11_asks (Nat.le_of_ble_eq_true rfl) (Nat.le_of_ble_eq_true rfl) (Nat.le_of_ble_eq_true rfl) ⟨by show _ ≤ 601024; omega, by show _ ≤ 7293034; omega⟩ ⟨rfl, zhn_X11_asks⟩ rfl (Nat.le_of_ble_eq_true rfl) rfl (z_contI (fun v2 μ2 h => ?_) h)
  obtain ⟨e, h⟩ := h
  subst e
  exact z_icmp_same (tgt := 1691) A dL_law_1457 (by decide) h
theorem rL_other (C : zJL G J) {i : Int} {μ : zM} {cn un : Nat} {l5 l6 l7 : Option zV} (hi : 0 ≤ i ∧ i + 4 < ((zst G 40).1 : Int)) (hn : (zst G 40).1 < 2147483648) (hb : cn + 43 ≤ 601024 ∧ un + 253 ≤ 7293034)
    (h : qX10_other G (zsv G (i + 1)) μ (fun v1 μ1 => qX11_other G (zsv G (i + 1)) μ1 (fun v2 μ2 => v1 = v2 ∧ J G 1691 (zLl i l5 l6 l7, [], μ2, cn, un)))) : J G 1462 (zLl i l5 l6 l7, [], μ, cn, un) := by
  obtain ⟨p, e, s, m, below, meth, c, args, Q, A, hX, rfl⟩ := C
  refine s_aload_n A dL_law_1462 rfl ?_
  refine s_aload_nT A dL_law_1463 rfl ?_
  refine s_iload A dL_law_1464 rfl ?_
  refine s_iconst A dL_law_1466 ?_
  refine s_iadd A dL_law_1467 ?_
  refine z_tald A dL_law_1468 (Or.inr rfl) hn ⟨by omega, by omega⟩ ?_
  refine s_callV (a := 0) (k := 10) (N := 15) (sl := true) (M := mX10_other) (n := 1) (d := 12) (mc := 0) (ms := 0) (av := [zI _]) (st := []) A dL_law_1469 rfl (by decide) (zk_0 _) zwd1173 zwd1174 zwd1175 zwd89 zcd_X10_other (Nat.le_of_ble_eq_true rfl) (Nat.le_of_ble_eq_true rfl) (Nat.le_of_ble_eq_true rfl) ⟨by show _ ≤ 601024; omega, by show _ ≤ 7293034; omega⟩ ⟨rfl, zhn_X10_other⟩ rfl (Nat.le_of_ble_eq_true rfl) rfl (z_contI (fun v1 μ1 h => ?_) h)
  refine s_aload_n A dL_law_1472 rfl ?_
  refine s_aload_nT A dL_law_1473 rfl ?_
  refine s_iload A dL_law_1474 rfl ?_
  refine s_iconst A dL_law_1476 ?_
  refine s_iadd A dL_law_1477 ?_
  refine z_tald A dL_law_1478 (Or.inr rfl) hn ⟨by omega, by omega⟩ ?_
  refine s_callV (a := 153) (k := 11) (N := 45) (sl := true) (M := mX11_other) (n := 1) (d := 13) (mc := 0) (ms := 0) (av := [zI _]) (st := [zI v1]) A dL_law_1479 rfl (by decide) (zk_153 _) zwd1835 zwd1836 zwd1837 zwd100 zcd_X11_other (Nat.le_of_ble_eq_true rfl) (Nat.le_of_ble_eq_true rfl) (Nat.le_of_ble_eq_true rfl) ⟨by show _ ≤ 601024; omega, by show _ ≤ 7293034; omega⟩ ⟨rfl, zhn_X11_other⟩ rfl (Nat.le_of_ble_eq_true rfl) rfl (z_contI (fun v2 μ2 h => ?_) h)
  obtain ⟨e, h⟩ := h
  subst e
  exact z_icmp_same (tgt := 1691) A dL_law_1482 (by decide) h
theorem rL_carry (C : zJL G J) {i : Int} {μ : zM} {cn un : Nat} {l5 l6 l7 : Option zV} (hi : 0 ≤ i ∧ i + 4 < ((zst G 40).1 : Int)) (hn : (zst G 40).1 < 2147483648) (hb : cn + 43 ≤ 601024 ∧ un + 253 ≤ 7293034)
    (h : qX10_carry G (zsv G (i + 1)) (zsv G (i + 2)) μ (fun v1 μ1 => qX11_carry G (zsv G (i + 1)) (zsv G (i + 2)) μ1 (fun v2 μ2 => v1 = v2 ∧ J G 1691 (zLl i l5 l6 l7, [], μ2, cn, un)))) : J G 1487 (zLl i l5 l6 l7, [], μ, cn, un) := by
  obtain ⟨p, e, s, m, below, meth, c, args, Q, A, hX, rfl⟩ := C
  refine s_aload_n A dL_law_1487 rfl ?_
  refine s_aload_nT A dL_law_1488 rfl ?_
  refine s_iload A dL_law_1489 rfl ?_
  refine s_iconst A dL_law_1491 ?_
  refine s_iadd A dL_law_1492 ?_
  refine z_tald A dL_law_1493 (Or.inr rfl) hn ⟨by omega, by omega⟩ ?_
  refine s_aload_nT A dL_law_1494 rfl ?_
  refine s_iload A dL_law_1495 rfl ?_
  refine s_iconst A dL_law_1497 ?_
  refine s_iadd A dL_law_1498 ?_
  refine z_tald A dL_law_1499 (Or.inr rfl) hn ⟨by omega, by omega⟩ ?_
  refine s_callV (a := 0) (k := 10) (N := 15) (sl := true) (M := mX10_carry) (n := 2) (d := 12) (mc := 0) (ms := 0) (av := [zI _, zI _]) (st := []) A dL_law_1500 rfl (by decide) (zk_0 _) zwd1177 zwd1178 zwd1179 zwd89 zcd_X10_carry (Nat.le_of_ble_eq_true rfl) (Nat.le_of_ble_eq_true rfl) (Nat.le_of_ble_eq_true rfl) ⟨by show _ ≤ 601024; omega, by show _ ≤ 7293034; omega⟩ ⟨rfl, zhn_X10_carry⟩ rfl (Nat.le_of_ble_eq_true rfl) rfl (z_contI (fun v1 μ1 h => ?_) h)
  refine s_aload_n A dL_law_1503 rfl ?_
  refine s_aload_nT A dL_law_1504 rfl ?_
  refine s_iload A dL_law_1505 rfl ?_
  refine s_iconst A dL_law_1507 ?_
  refine s_iadd A dL_law_1508 ?_
  refine z_tald A dL_law_1509 (Or.inr rfl) hn ⟨by omega, by omega⟩ ?_
  refine s_aload_nT A dL_law_1510 rfl ?_
  refine s_iload A dL_law_1511 rfl ?_
  refine s_iconst A dL_law_1513 ?_
  refine s_iadd A dL_law_1514 ?_
  refine z_tald A dL_law_1515 (Or.inr rfl) hn ⟨by omega, by omega⟩ ?_
  refine s_callV (a := 153) (k := 11) (N := 45) (sl := true) (M := mX11_carry) (n := 2) (d := 13) (mc := 0) (ms := 0) (av := [zI _, zI _]) (st := [zI v1]) A dL_law_1516 rfl (by decide) (zk_153 _) zwd1843 zwd1844 zwd1845 zwd100 zcd_X11_carry (Nat.le_of_ble_eq_true rfl) (Nat.le_of_ble_eq_true rfl) (Nat.le_of_ble_eq_true rfl) ⟨by show _ ≤ 601024; omega, by show _ ≤ 7293034; omega⟩ ⟨rfl, zhn_X11_carry⟩ rfl (Nat.le_of_ble_eq_true rfl) rfl (z_contI (fun v2 μ2 h => ?_) h)
  obtain ⟨e, h⟩ := h
  subst e
  exact z_icmp_same (tgt := 1691) A dL_law_1519 (by decide) h
theorem rL_drifts (C : zJL G J) {i : Int} {μ : zM} {cn un : Nat} {l5 l6 l7 : Option zV} (hi : 0 ≤ i ∧ i + 4 < ((zst G 40).1 : Int)) (hn : (zst G 40).1 < 2147483648) (hb : cn + 43 ≤ 601024 ∧ un + 253 ≤ 7293034)
    (h : qX10_drifts G (zsv G (i + 1)) (zsv G (i + 2)) μ (fun v1 μ1 => qX11_drifts G (zsv G (i + 1)) (zsv G (i + 2)) μ1 (fun v2 μ2 => v1 = v2 ∧ J G 1691 (zLl i l5 l6 l7, [], μ2, cn, un)))) : J G 1524 (zLl i l5 l6 l7, [], μ, cn, un) := by
  obtain ⟨p, e, s, m, below, meth, c, args, Q, A, hX, rfl⟩ := C
  refine s_aload_n A dL_law_1524 rfl ?_
  refine s_aload_nT A dL_law_1525 rfl ?_
  refine s_iload A dL_law_1526 rfl ?_
  refine s_iconst A dL_law_1528 ?_
  refine s_iadd A dL_law_1529 ?_
  refine z_tald A dL_law_1530 (Or.inr rfl) hn ⟨by omega, by omega⟩ ?_
  refine s_aload_nT A dL_law_1531 rfl ?_
  refine s_iload A dL_law_1532 rfl ?_
  refine s_iconst A dL_law_1534 ?_
  refine s_iadd A dL_law_1535 ?_
  refine z_tald A dL_law_1536 (Or.inr rfl) hn ⟨by omega, by omega⟩ ?_
  refine s_callV (a := 0) (k := 10) (N := 15) (sl := true) (M := mX10_drifts) (n := 2) (d := 12) (mc := 0) (ms := 0) (av := [zI _, zI _]) (st := []) A dL_law_1537 rfl (by decide) (zk_0 _) zwd1181 zwd1182 zwd1183 zwd89 zcd_X10_drifts (Nat.le_of_ble_eq_true rfl) (Nat.le_of_ble_eq_true rfl) (Nat.le_of_ble_eq_true rfl) ⟨by show _ ≤ 601024; omega, by show _ ≤ 7293034; omega⟩ ⟨rfl, zhn_X10_drifts⟩ rfl (Nat.le_of_ble_eq_true rfl) rfl (z_contI (fun v1 μ1 h => ?_) h)
  refine s_aload_n A dL_law_1540 rfl ?_
  refine s_aload_nT A dL_law_1541 rfl ?_
  refine s_iload A dL_law_1542 rfl ?_
  refine s_iconst A dL_law_1544 ?_
  refine s_iadd A dL_law_1545 ?_
  refine z_tald A dL_law_1546 (Or.inr rfl) hn ⟨by omega, by omega⟩ ?_
  refine s_aload_nT A dL_law_1547 rfl ?_
  refine s_iload A dL_law_1548 rfl ?_
  refine s_iconst A dL_law_1550 ?_
  refine s_iadd A dL_law_1551 ?_
  refine z_tald A dL_law_1552 (Or.inr rfl) hn ⟨by omega, by omega⟩ ?_
  refine s_callV (a := 153) (k := 11) (N := 45) (sl := true) (M := mX11_drifts) (n := 2) (d := 12) (mc := 0) (ms := 0) (av := [zI _, zI _]) (st := [zI v1]) A dL_law_1553 rfl (by decide) (zk_153 _) zwd1847 zwd1848 zwd1849 zwd100 zcd_X11_drifts (Nat.le_of_ble_eq_true rfl) (Nat.le_of_ble_eq_true rfl) (Nat.le_of_ble_eq_true rfl) ⟨by show _ ≤ 601024; omega, by show _ ≤ 7293034; omega⟩ ⟨rfl, zhn_X11_drifts⟩ rfl (Nat.le_of_ble_eq_true rfl) rfl (z_contI (fun v2 μ2 h => ?_) h)
  obtain ⟨e, h⟩ := h
  subst e
  exact z_icmp_same (tgt := 1691) A dL_law_1556 (by decide) h
theorem rL_keep (C : zJL G J) {i : Int} {μ : zM} {cn un : Nat} {l5 l6 l7 : Option zV} (hi : 0 ≤ i ∧ i + 4 < ((zst G 40).1 : Int)) (hn : (zst G 40).1 < 2147483648) (hb : cn + 43 ≤ 601024 ∧ un + 253 ≤ 7293034)
    (h : qX10_keep G (zsv G (i + 1)) μ (fun v1 μ1 => qX11_keep G (zsv G (i + 1)) μ1 (fun v2 μ2 => v1 = v2 ∧ J G 1691 (zLl i l5 l6 l7, [], μ2, cn, un)))) : J G 1561 (zLl i l5 l6 l7, [], μ, cn, un) := by
  obtain ⟨p, e, s, m, below, meth, c, args, Q, A, hX, rfl⟩ := C
  refine s_aload_n A dL_law_1561 rfl ?_
  refine s_aload_nT A dL_law_1562 rfl ?_
  refine s_iload A dL_law_1563 rfl ?_
  refine s_iconst A dL_law_1565 ?_
  refine s_iadd A dL_law_1566 ?_
  refine z_tald A dL_law_1567 (Or.inr rfl) hn ⟨by omega, by omega⟩ ?_
  refine s_callV (a := 0) (k := 10) (N := 15) (sl := true) (M := mX10_keep) (n := 1) (d := 3) (mc := 0) (ms := 0) (av := [zI _]) (st := []) A dL_law_1568 rfl (by decide) (zk_0 _) zwd1193 zwd1194 zwd1195 zwd89 zcd_X10_keep (Nat.le_of_ble_eq_true rfl) (Nat.le_of_ble_eq_true rfl) (Nat.le_of_ble_eq_true rfl) ⟨by show _ ≤ 601024; omega, by show _ ≤ 7293034; omega⟩ ⟨rfl, zhn_X10_keep⟩ rfl (Nat.le_of_ble_eq_true rfl) rfl (z_contI (fun v1 μ1 h => ?_) h)
  refine s_aload_n A dL_law_1571 rfl ?_
  refine s_aload_nT A dL_law_1572 rfl ?_
  refine s_iload A dL_law_1573 rfl ?_
  refine s_iconst A dL_law_1575 ?_
  refine s_iadd A dL_law_1576 ?_
  refine z_tald A dL_law_1577 (Or.inr rfl) hn ⟨by omega, by omega⟩ ?_
  refine s_callV (a := 153) (k := 11) (N := 45) (sl := true) (M := mX11_keep) (n := 1) (d := 2) (mc := 0) (ms := 0) (av := [zI _]) (st := [zI v1]) A dL_law_1578 rfl (by decide) (zk_153 _) zwd1908 zwd1909 zwd1910 zwd100 zcd_X11_keep (Nat.le_of_ble_eq_true rfl) (Nat.le_of_ble_eq_true rfl) (Nat.le_of_ble_eq_true rfl) ⟨by show _ ≤ 601024; omega, by show _ ≤ 7293034; omega⟩ ⟨rfl, zhn_X11_keep⟩ rfl (Nat.le_of_ble_eq_true rfl) rfl (z_contI (fun v2 μ2 h => ?_) h)
  obtain ⟨e, h⟩ := h
  subst e
  exact z_icmp_same (tgt := 1691) A dL_law_1581 (by decide) h
theorem rL_again (C : zJL G J) {i : Int} {μ : zM} {cn un : Nat} {l5 l6 l7 : Option zV} (hi : 0 ≤ i ∧ i + 4 < ((zst G 40).1 : Int)) (hn : (zst G 40).1 < 2147483648) (hb : cn + 43 ≤ 601024 ∧ un + 253 ≤ 7293034)
    (h : qX10_again G (zsv G (i + 1)) μ (fun v1 μ1 => qX11_again G (zsv G (i + 1)) μ1 (fun v2 μ2 => v1 = v2 ∧ J G 1691 (zLl i l5 l6 l7, [], μ2, cn, un)))) : J G 1586 (zLl i l5 l6 l7, [], μ, cn, un) := by
  obtain ⟨p, e, s, m, below, meth, c, args, Q, A, hX, rfl⟩ := C
  refine s_aload_n A dL_law_1586 rfl ?_
  refine s_aload_nT A dL_law_1587 rfl ?_
  refine s_iload A dL_law_1588 rfl ?_
  refine s_iconst A dL_law_1590 ?_
  refine s_iadd A dL_law_1591 ?_
  refine z_tald A dL_law_1592 (Or.inr rfl) hn ⟨by omega, by omega⟩ ?_
  refine s_callV (a := 0) (k := 10) (N := 15) (sl := true) (M := mX10_again) (n := 1) (d := 3) (mc := 0) (ms := 0) (av := [zI _]) (st := []) A dL_law_1593 rfl (by decide) (zk_0 _) zwd1197 zwd1198 zwd1199 zwd89 zcd_X10_again (Nat.le_of_ble_eq_true rfl) (Nat.le_of_ble_eq_true rfl) (Nat.le_of_ble_eq_true rfl) ⟨by show _ ≤ 601024; omega, by show _ ≤ 7293034; omega⟩ ⟨rfl, zhn_X10_again⟩ rfl (Nat.le_of_ble_eq_true rfl) rfl (z_contI (fun v1 μ1 h => ?_) h)
  refine s_aload_n A dL_law_1596 rfl ?_
  refine s_aload_nT A dL_law_1597 rfl ?_
  refine s_iload A dL_law_1598 rfl ?_
  refine s_iconst A dL_law_1600 ?_
  refine s_iadd A dL_law_1601 ?_
  refine z_tald A dL_law_1602 (Or.inr rfl) hn ⟨by omega, by omega⟩ ?_
  refine s_callV (a := 153) (k := 11) (N := 45) (sl := true) (M := mX11_again) (n := 1) (d := 2) (mc := 0) (ms := 0) (av := [zI _]) (st := [zI v1]) A dL_law_1603 rfl (by decide) (zk_153 _) zwd1912 zwd1913 zwd1914 zwd100 zcd_X11_again (Nat.le_of_ble_eq_true rfl) (Nat.le_of_ble_eq_true rfl) (Nat.le_of_ble_eq_true rfl) ⟨by show _ ≤ 601024; omega, by show _ ≤ 7293034; omega⟩ ⟨rfl, zhn_X11_again⟩ rfl (Nat.le_of_ble_eq_true rfl) rfl (z_contI (fun v2 μ2 h => ?_) h)
  obtain ⟨e, h⟩ := h
  subst e
  exact z_icmp_same (tgt := 1691) A dL_law_1606 (by decide) h
theorem rL_count (C : zJL G J) {i : Int} {μ : zM} {cn un : Nat} {l5 l6 l7 : Option zV} (hi : 0 ≤ i ∧ i + 4 < ((zst G 40).1 : Int)) (hn : (zst G 40).1 < 2147483648) (hb : cn + 43 ≤ 601024 ∧ un + 253 ≤ 7293034)
    (h : qX10_count G (zsv G (i + 1)) μ (fun v1 μ1 => qX11_count G (zsv G (i + 1)) μ1 (fun v2 μ2 => v1 = v2 ∧ J G 1691 (zLl i l5 l6 l7, [], μ2, cn, un)))) : J G 1611 (zLl i l5 l6 l7, [], μ, cn, un) := by
  obtain ⟨p, e, s, m, below, meth, c, args, Q, A, hX, rfl⟩ := C
  refine s_aload_n A dL_law_1611 rfl ?_
  refine s_aload_nT A dL_law_1612 rfl ?_
  refine s_iload A dL_law_1613 rfl ?_
  refine s_iconst A dL_law_1615 ?_
  refine s_iadd A dL_law_1616 ?_
  refine z_tald A dL_law_1617 (Or.inr rfl) hn ⟨by omega, by omega⟩ ?_
  refine s_callV (a := 0) (k := 10) (N := 15) (sl := true) (M := mX10_count) (n := 1) (d := 2) (mc := 0) (ms := 0) (av := [zI _]) (st := []) A dL_law_1618 rfl (by decide) (zk_0 _) zwd1201 zwd1202 zwd1203 zwd89 zcd_X10_count (Nat.le_of_ble_eq_true rfl) (Nat.le_of_ble_eq_true rfl) (Nat.le_of_ble_eq_true rfl) ⟨by show _ ≤ 601024; omega, by show _ ≤ 7293034; omega⟩ ⟨rfl, zhn_X10_count⟩ rfl (Nat.le_of_ble_eq_true rfl) rfl (z_contI (fun v1 μ1 h => ?_) h)
  refine s_aload_n A dL_law_1621 rfl ?_
  refine s_aload_nT A dL_law_1622 rfl ?_
  refine s_iload A dL_law_1623 rfl ?_
  refine s_iconst A dL_law_1625 ?_
  refine s_iadd A dL_law_1626 ?_
  refine z_tald A dL_law_1627 (Or.inr rfl) hn ⟨by omega, by omega⟩ ?_
  refine s_callV (a := 153) (k := 11) (N := 45) (sl := true) (M := mX11_count) (n := 1) (d := 2) (mc := 0) (ms := 0) (av := [zI _]) (st := [zI v1]) A dL_law_1628 rfl (by decide) (zk_153 _) zwd1916 zwd1917 zwd1918 zwd100 zcd_X11_count (Nat.le_of_ble_eq_true rfl) (Nat.le_of_ble_eq_true rfl) (Nat.le_of_ble_eq_true rfl) ⟨by show _ ≤ 601024; omega, by show _ ≤ 7293034; omega⟩ ⟨rfl, zhn_X11_count⟩ rfl (Nat.le_of_ble_eq_true rfl) rfl (z_contI (fun v2 μ2 h => ?_) h)
  obtain ⟨e, h⟩ := h
  subst e
  exact z_icmp_same (tgt := 1691) A dL_law_1631 (by decide) h
theorem rL_light (C : zJL G J) {i : Int} {μ : zM} {cn un : Nat} {l5 l6 l7 : Option zV} (hi : 0 ≤ i ∧ i + 4 < ((zst G 40).1 : Int)) (hn : (zst G 40).1 < 2147483648) (hb : cn + 43 ≤ 601024 ∧ un + 253 ≤ 7293034) (h5 : zLi l5) (h6 : zLi l6) (h7 : zLi l7) {P : Int → zM → Prop}
    (h : zRunH G mL_light zh_light [zR (some 0), zI (zsv G (i + 1)), zI (zsv G (i + 2)), zR (some 181)] μ (zKI P))
    (h2 : ∀ G2, zGx G G2 → ∀ k μ1, P k μ1 → zin k ∧ qX11_light G2 (zsv G2 (i + 1)) (zsv G2 (i + 2)) μ1 (fun v2 μ2 => zin v2 ∧ qX11_thrown G2 μ2 (fun v3 μ3 => v3 = k ∧ (k = 0 → zi μ3 181 0 = v2) ∧ J G2 1691 (zLl i (some (zI k)) (some (zI v2)) l7, [], μ3, cn + 1, un + 6)))) : J G 338 (zLl i l5 l6 l7, [], μ, cn, un) := by
  obtain ⟨p, e, s, m, below, meth, c, args, Q, A, hX, rfl⟩ := C
  refine s_aload_n A dL_law_338 rfl ?_
  refine s_aload_nT A dL_law_339 rfl ?_
  refine s_iload A dL_law_340 rfl ?_
  refine s_iconst A dL_law_342 ?_
  refine s_iadd A dL_law_343 ?_
  refine z_tald A dL_law_344 (Or.inr rfl) hn ⟨by omega, by omega⟩ ?_
  refine s_aload_nT A dL_law_345 rfl ?_
  refine s_iload A dL_law_346 rfl ?_
  refine s_iconst A dL_law_348 ?_
  refine s_iadd A dL_law_349 ?_
  refine z_tald A dL_law_350 (Or.inr rfl) hn ⟨by omega, by omega⟩ ?_
  refine s_aload_n A dL_law_351 rfl ?_
  refine zx_callH (M := mL_light) (hh := zh_light) (n := 4) (av := [zR (some 0), zI _, zI _, zR (some 181)]) (st := []) A hX dL_law_352 zwd1206 zwd1207 zwdLaw zcd_L_light (Nat.le_of_ble_eq_true rfl) (Nat.le_of_ble_eq_true rfl) (Nat.le_of_ble_eq_true rfl) ⟨by show _ ≤ 601024; omega, by show _ ≤ 7293034; omega⟩ zhn_L_light rfl (Nat.le_of_ble_eq_true rfl) rfl h (fun G2 hg => ⟨zLl_gx hg h5 h6 h7, fun v hv => absurd hv (by simp)⟩) ?_
  rintro G2 hg r μ1 ⟨k, rfl, hk⟩
  obtain ⟨ok, h⟩ := h2 G2 hg k μ1 hk
  have A2 := zAm_gx hg A
  have hn2 : (zst G2 40).1 < 2147483648 := by rw [zst_gx hg]; exact hn
  have hi2 : 0 ≤ i ∧ i + 4 < ((zst G2 40).1 : Int) := by rw [zst_gx hg]; exact hi
  refine s_istore (L' := zLl i (some (zI k)) l6 l7) A2 dL_law_355 (Nat.le_of_ble_eq_true rfl) rfl ?_
  refine s_aload_n A2 dL_law_357 rfl ?_
  refine s_aload_nT A2 dL_law_358 rfl ?_
  refine s_iload A2 dL_law_359 rfl ?_
  refine s_iconst A2 dL_law_361 ?_
  refine s_iadd A2 dL_law_362 ?_
  refine z_tald A2 dL_law_363 (Or.inr rfl) hn2 ⟨by omega, by omega⟩ ?_
  refine s_aload_nT A2 dL_law_364 rfl ?_
  refine s_iload A2 dL_law_365 rfl ?_
  refine s_iconst A2 dL_law_367 ?_
  refine s_iadd A2 dL_law_368 ?_
  refine z_tald A2 dL_law_369 (Or.inr rfl) hn2 ⟨by omega, by omega⟩ ?_
  refine s_callV (a := 153) (k := 11) (N := 45) (sl := true) (M := mX11_light) (n := 2) (d := 10) (mc := 0) (ms := 0) (av := [zI _, zI _]) (st := []) A2 dL_law_370 rfl (by decide) (zk_153 _) zwd1562 zwd1563 zwd1564 zwd100 zcd_X11_light (Nat.le_of_ble_eq_true rfl) (Nat.le_of_ble_eq_true rfl) (Nat.le_of_ble_eq_true rfl) ⟨by show _ ≤ 601024; omega, by show _ ≤ 7293034; omega⟩ ⟨rfl, zhn_X11_light⟩ rfl (Nat.le_of_ble_eq_true rfl) rfl (z_contI (fun v2 μ2 h => ?_) h)
  obtain ⟨o2, h⟩ := h
  refine s_istore (L' := zLl i (some (zI k)) (some (zI v2)) l7) A2 dL_law_373 (Nat.le_of_ble_eq_true rfl) rfl ?_
  refine s_aload_n A2 dL_law_375 rfl ?_
  refine s_callV (a := 153) (k := 11) (N := 45) (sl := true) (M := mX11_thrown) (n := 0) (d := 0) (mc := 0) (ms := 0) (av := []) (st := []) A2 dL_law_376 rfl (by decide) (zk_153 _) zwd1444 zwd1445 zwd1446 zwd100 zcd_X11_thrown (Nat.le_of_ble_eq_true rfl) (Nat.le_of_ble_eq_true rfl) (Nat.le_of_ble_eq_true rfl) ⟨by show _ ≤ 601024; omega, by show _ ≤ 7293034; omega⟩ ⟨rfl, zhn_X11_thrown⟩ rfl (Nat.le_of_ble_eq_true rfl) rfl (z_contI (fun v3 μ3 h => ?_) h)
  obtain ⟨e3, e4, h⟩ := h
  subst e3
  refine s_iload A2 dL_law_379 rfl ?_
  refine z_icmp_same (tgt := 386) A2 dL_law_381 (by decide) ?_
  refine s_iload A2 dL_law_386 rfl ?_
  refine z_if_ne (tgt := 403) A2 dL_law_388 (by decide) ok (fun _ => ?_) (fun c => ?_)
  · refine s_goto (tgt := 1691) A2 dL_law_403 (by decide) h
  · have e5 := e4 c
    subst e5
    refine s_aload_n A2 dL_law_391 rfl ?_
    refine s_iconst A2 dL_law_392 ?_
    refine z_lald A2 dL_law_393 (zk_181 _) (Nat.le_of_ble_eq_true rfl) (by decide) ?_
    refine s_iload A2 dL_law_394 rfl ?_
    refine z_i2l2 A2 dL_law_396 o2 ?_
    refine z_lc_same (tgt := 403) A2 dL_law_397 dL_law_398 (by decide) ?_
    refine s_goto (tgt := 1691) A2 dL_law_403 (by decide) h
theorem rL_bent (C : zJL G J) {i : Int} {μ : zM} {cn un : Nat} {l5 l6 l7 : Option zV} (hi : 0 ≤ i ∧ i + 4 < ((zst G 40).1 : Int)) (hn : (zst G 40).1 < 2147483648) (hb : cn + 43 ≤ 601024 ∧ un + 253 ≤ 7293034) (h5 : zLi l5) (h6 : zLi l6) (h7 : zLi l7) {P : Int → zM → Prop}
    (h : zRunH G mL_bent zh_light [zR (some 0), zI (zsv G (i + 1)), zI (zsv G (i + 2)), zR (some 181)] μ (zKI P))
    (h2 : ∀ G2, zGx G G2 → ∀ k μ1, P k μ1 → zin k ∧ qX11_bent G2 (zsv G2 (i + 1)) (zsv G2 (i + 2)) μ1 (fun v2 μ2 => zin v2 ∧ qX11_thrown G2 μ2 (fun v3 μ3 => v3 = k ∧ (k = 0 → zi μ3 181 0 = v2) ∧ J G2 1691 (zLl i (some (zI k)) (some (zI v2)) l7, [], μ3, cn + 1, un + 6)))) : J G 406 (zLl i l5 l6 l7, [], μ, cn, un) := by
  obtain ⟨p, e, s, m, below, meth, c, args, Q, A, hX, rfl⟩ := C
  refine s_aload_n A dL_law_406 rfl ?_
  refine s_aload_nT A dL_law_407 rfl ?_
  refine s_iload A dL_law_408 rfl ?_
  refine s_iconst A dL_law_410 ?_
  refine s_iadd A dL_law_411 ?_
  refine z_tald A dL_law_412 (Or.inr rfl) hn ⟨by omega, by omega⟩ ?_
  refine s_aload_nT A dL_law_413 rfl ?_
  refine s_iload A dL_law_414 rfl ?_
  refine s_iconst A dL_law_416 ?_
  refine s_iadd A dL_law_417 ?_
  refine z_tald A dL_law_418 (Or.inr rfl) hn ⟨by omega, by omega⟩ ?_
  refine s_aload_n A dL_law_419 rfl ?_
  refine zx_callH (M := mL_bent) (hh := zh_light) (n := 4) (av := [zR (some 0), zI _, zI _, zR (some 181)]) (st := []) A hX dL_law_420 zwd1277 zwd1278 zwdLaw zcd_L_bent (Nat.le_of_ble_eq_true rfl) (Nat.le_of_ble_eq_true rfl) (Nat.le_of_ble_eq_true rfl) ⟨by show _ ≤ 601024; omega, by show _ ≤ 7293034; omega⟩ zhn_L_bent rfl (Nat.le_of_ble_eq_true rfl) rfl h (fun G2 hg => ⟨zLl_gx hg h5 h6 h7, fun v hv => absurd hv (by simp)⟩) ?_
  rintro G2 hg r μ1 ⟨k, rfl, hk⟩
  obtain ⟨ok, h⟩ := h2 G2 hg k μ1 hk
  have A2 := zAm_gx hg A
  have hn2 : (zst G2 40).1 < 2147483648 := by rw [zst_gx hg]; exact hn
  have hi2 : 0 ≤ i ∧ i + 4 < ((zst G2 40).1 : Int) := by rw [zst_gx hg]; exact hi
  refine s_istore (L' := zLl i (some (zI k)) l6 l7) A2 dL_law_423 (Nat.le_of_ble_eq_true rfl) rfl ?_
  refine s_aload_n A2 dL_law_425 rfl ?_
  refine s_aload_nT A2 dL_law_426 rfl ?_
  refine s_iload A2 dL_law_427 rfl ?_
  refine s_iconst A2 dL_law_429 ?_
  refine s_iadd A2 dL_law_430 ?_
  refine z_tald A2 dL_law_431 (Or.inr rfl) hn2 ⟨by omega, by omega⟩ ?_
  refine s_aload_nT A2 dL_law_432 rfl ?_
  refine s_iload A2 dL_law_433 rfl ?_
  refine s_iconst A2 dL_law_435 ?_
  refine s_iadd A2 dL_law_436 ?_
  refine z_tald A2 dL_law_437 (Or.inr rfl) hn2 ⟨by omega, by omega⟩ ?_
  refine s_callV (a := 153) (k := 11) (N := 45) (sl := true) (M := mX11_bent) (n := 2) (d := 3) (mc := 0) (ms := 0) (av := [zI _, zI _]) (st := []) A2 dL_law_438 rfl (by decide) (zk_153 _) zwd1580 zwd1581 zwd1582 zwd100 zcd_X11_bent (Nat.le_of_ble_eq_true rfl) (Nat.le_of_ble_eq_true rfl) (Nat.le_of_ble_eq_true rfl) ⟨by show _ ≤ 601024; omega, by show _ ≤ 7293034; omega⟩ ⟨rfl, zhn_X11_bent⟩ rfl (Nat.le_of_ble_eq_true rfl) rfl (z_contI (fun v2 μ2 h => ?_) h)
  obtain ⟨o2, h⟩ := h
  refine s_istore (L' := zLl i (some (zI k)) (some (zI v2)) l7) A2 dL_law_441 (Nat.le_of_ble_eq_true rfl) rfl ?_
  refine s_aload_n A2 dL_law_443 rfl ?_
  refine s_callV (a := 153) (k := 11) (N := 45) (sl := true) (M := mX11_thrown) (n := 0) (d := 0) (mc := 0) (ms := 0) (av := []) (st := []) A2 dL_law_444 rfl (by decide) (zk_153 _) zwd1444 zwd1445 zwd1446 zwd100 zcd_X11_thrown (Nat.le_of_ble_eq_true rfl) (Nat.le_of_ble_eq_true rfl) (Nat.le_of_ble_eq_true rfl) ⟨by show _ ≤ 601024; omega, by show _ ≤ 7293034; omega⟩ ⟨rfl, zhn_X11_thrown⟩ rfl (Nat.le_of_ble_eq_true rfl) rfl (z_contI (fun v3 μ3 h => ?_) h)
  obtain ⟨e3, e4, h⟩ := h
  subst e3
  refine s_iload A2 dL_law_447 rfl ?_
  refine z_icmp_same (tgt := 454) A2 dL_law_449 (by decide) ?_
  refine s_iload A2 dL_law_454 rfl ?_
  refine z_if_ne (tgt := 471) A2 dL_law_456 (by decide) ok (fun _ => ?_) (fun c => ?_)
  · refine s_goto (tgt := 1691) A2 dL_law_471 (by decide) h
  · have e5 := e4 c
    subst e5
    refine s_aload_n A2 dL_law_459 rfl ?_
    refine s_iconst A2 dL_law_460 ?_
    refine z_lald A2 dL_law_461 (zk_181 _) (Nat.le_of_ble_eq_true rfl) (by decide) ?_
    refine s_iload A2 dL_law_462 rfl ?_
    refine z_i2l2 A2 dL_law_464 o2 ?_
    refine z_lc_same (tgt := 471) A2 dL_law_465 dL_law_466 (by decide) ?_
    refine s_goto (tgt := 1691) A2 dL_law_471 (by decide) h
theorem rL_row (C : zJL G J) {i : Int} {μ : zM} {cn un : Nat} {l5 l6 l7 : Option zV} (hi : 0 ≤ i ∧ i + 4 < ((zst G 40).1 : Int)) (hn : (zst G 40).1 < 2147483648) (hb : cn + 43 ≤ 601024 ∧ un + 253 ≤ 7293034) (h5 : zLi l5) (h6 : zLi l6) (h7 : zLi l7) {P : Int → zM → Prop}
    (h : zRunH G mL_row zh_row [zR (some 0), zI (zsv G (i + 1)), zR (some 181)] μ (zKI P))
    (h2 : ∀ G2, zGx G G2 → ∀ k μ1, P k μ1 → zin k ∧ qX11_row G2 (zsv G2 (i + 1)) μ1 (fun v2 μ2 => qX11_thrown G2 μ2 (fun v3 μ3 => v3 = k ∧ (k = 0 → zi μ3 181 0 = v2) ∧ J G2 1691 (zLl i (some (zI k)) (some (zL v2)) none, [], μ3, cn + 1, un + 6)))) : J G 1636 (zLl i l5 l6 l7, [], μ, cn, un) := by
  obtain ⟨p, e, s, m, below, meth, c, args, Q, A, hX, rfl⟩ := C
  refine s_aload_n A dL_law_1636 rfl ?_
  refine s_aload_nT A dL_law_1637 rfl ?_
  refine s_iload A dL_law_1638 rfl ?_
  refine s_iconst A dL_law_1640 ?_
  refine s_iadd A dL_law_1641 ?_
  refine z_tald A dL_law_1642 (Or.inr rfl) hn ⟨by omega, by omega⟩ ?_
  refine s_aload_n A dL_law_1643 rfl ?_
  refine zx_callH (M := mL_row) (hh := zh_row) (n := 3) (av := [zR (some 0), zI _, zR (some 181)]) (st := []) A hX dL_law_1644 zwd1284 zwd1285 zwdLaw zcd_L_row (Nat.le_of_ble_eq_true rfl) (Nat.le_of_ble_eq_true rfl) (Nat.le_of_ble_eq_true rfl) ⟨by show _ ≤ 601024; omega, by show _ ≤ 7293034; omega⟩ zhn_L_row rfl (Nat.le_of_ble_eq_true rfl) rfl h (fun G2 hg => ⟨zLl_gx hg h5 h6 h7, fun v hv => absurd hv (by simp)⟩) ?_
  rintro G2 hg r μ1 ⟨k, rfl, hk⟩
  obtain ⟨ok, h⟩ := h2 G2 hg k μ1 hk
  have A2 := zAm_gx hg A
  have hn2 : (zst G2 40).1 < 2147483648 := by rw [zst_gx hg]; exact hn
  have hi2 : 0 ≤ i ∧ i + 4 < ((zst G2 40).1 : Int) := by rw [zst_gx hg]; exact hi
  refine s_istore (L' := zLl i (some (zI k)) l6 l7) A2 dL_law_1647 (Nat.le_of_ble_eq_true rfl) rfl ?_
  refine s_aload_n A2 dL_law_1649 rfl ?_
  refine s_aload_nT A2 dL_law_1650 rfl ?_
  refine s_iload A2 dL_law_1651 rfl ?_
  refine s_iconst A2 dL_law_1653 ?_
  refine s_iadd A2 dL_law_1654 ?_
  refine z_tald A2 dL_law_1655 (Or.inr rfl) hn2 ⟨by omega, by omega⟩ ?_
  refine s_callV (a := 153) (k := 11) (N := 45) (sl := true) (M := mX11_row) (n := 1) (d := 2) (mc := 0) (ms := 0) (av := [zI _]) (st := []) A2 dL_law_1656 rfl (by decide) (zk_153 _) zwd1920 zwd1921 zwd1922 zwd100 zcd_X11_row (Nat.le_of_ble_eq_true rfl) (Nat.le_of_ble_eq_true rfl) (Nat.le_of_ble_eq_true rfl) ⟨by show _ ≤ 601024; omega, by show _ ≤ 7293034; omega⟩ ⟨rfl, zhn_X11_row⟩ rfl (Nat.le_of_ble_eq_true rfl) rfl (z_contL (fun v2 μ2 h => ?_) h)
  refine s_lstore (L' := zLl i (some (zI k)) (some (zL v2)) none) A2 dL_law_1659 (Nat.le_of_ble_eq_true rfl) rfl ?_
  refine s_aload_n A2 dL_law_1661 rfl ?_
  refine s_callV (a := 153) (k := 11) (N := 45) (sl := true) (M := mX11_thrown) (n := 0) (d := 0) (mc := 0) (ms := 0) (av := []) (st := []) A2 dL_law_1662 rfl (by decide) (zk_153 _) zwd1444 zwd1445 zwd1446 zwd100 zcd_X11_thrown (Nat.le_of_ble_eq_true rfl) (Nat.le_of_ble_eq_true rfl) (Nat.le_of_ble_eq_true rfl) ⟨by show _ ≤ 601024; omega, by show _ ≤ 7293034; omega⟩ ⟨rfl, zhn_X11_thrown⟩ rfl (Nat.le_of_ble_eq_true rfl) rfl (z_contI (fun v3 μ3 h => ?_) h)
  obtain ⟨e3, e4, h⟩ := h
  subst e3
  refine s_iload A2 dL_law_1665 rfl ?_
  refine z_icmp_same (tgt := 1672) A2 dL_law_1667 (by decide) ?_
  refine s_iload A2 dL_law_1672 rfl ?_
  refine z_if_ne (tgt := 1688) A2 dL_law_1674 (by decide) ok (fun _ => ?_) (fun c => ?_)
  · refine s_goto (tgt := 1691) A2 dL_law_1688 (by decide) h
  · have e5 := e4 c
    subst e5
    refine s_aload_n A2 dL_law_1677 rfl ?_
    refine s_iconst A2 dL_law_1678 ?_
    refine z_lald A2 dL_law_1679 (zk_181 _) (Nat.le_of_ble_eq_true rfl) (by decide) ?_
    refine s_lload A2 dL_law_1680 rfl ?_
    refine z_lc_same (tgt := 1688) A2 dL_law_1682 dL_law_1683 (by decide) ?_
    refine s_goto (tgt := 1691) A2 dL_law_1688 (by decide) h
end
