/-! the law: its judgement and its cases -/
section
variable {G : zG} {ph : Bool} {p : Program} {e : Env} {R : Room} {s : State} {m : MethodId} {args : Array Value} {below : List Frame} {meth : Method} {c : Code} {Q : State → Prop} {cc : ByteArray} {own : String} {Ts : List Cond} {pc : Nat} {L : List (Option zV)} {st : List zV} {μ : zM} {cn un : Nat}
theorem z_icmp_same (A : zAm G p s m args c cc own Ts) {x : Int} {off : Int} {tgt : Nat} (d : decode cc pc = .ok (.if_icmp .eq off, 3)) (ht : (pc : Int) + off = (tgt : Int)) (k : zJd G ph p e R s m args below meth c Q tgt (L, st, μ, cn, un)) : zJd G ph p e R s m args below meth c Q pc (L, zI x :: zI x :: st, μ, cn, un) :=
  s_icmp_eq A d ht (fun _ => k) (fun q => absurd rfl q)
theorem z_lc_same (A : zAm G p s m args c cc own Ts) {x : Int} {off : Int} {tgt : Nat} (d : decode cc pc = .ok (.lcmp, 1)) (d2 : decode cc (pc + 1) = .ok (.ifCond .eq off, 3)) (ht : (pc : Int) + 1 + off = (tgt : Int)) (k : zJd G ph p e R s m args below meth c Q tgt (L, st, μ, cn, un)) : zJd G ph p e R s m args below meth c Q pc (L, zL x :: zL x :: st, μ, cn, un) := by
  have e1 : zw (zlcmp x x) = 0 := by
    unfold zlcmp
    rw [if_neg (Int.lt_irrefl _), if_pos rfl]
    rfl
  exact s_lcmp A d (s_if_eq A d2 (by omega) (fun _ => k) (fun q => absurd e1 q))
end
theorem zwd89 : (Jvm.Cond.initialized "InkFoldsLaw") ∈ zTw := zTw_mem (List.mem_of_getElem? (i := 89) (by decide +kernel)) rfl
theorem zhn_L_light : mL_light.1.cls ≠ "java/lang/invoke/MethodHandle" ∧ mL_light.1.cls ≠ "java/lang/invoke/VarHandle" ∧ (parseMethodDescriptor mL_light.1.desc).map (fun d => d.parameters.length) = some 4 := ⟨by decide +kernel, by decide +kernel, by decide +kernel⟩
theorem zhn_L_bent : mL_bent.1.cls ≠ "java/lang/invoke/MethodHandle" ∧ mL_bent.1.cls ≠ "java/lang/invoke/VarHandle" ∧ (parseMethodDescriptor mL_bent.1.desc).map (fun d => d.parameters.length) = some 4 := ⟨by decide +kernel, by decide +kernel, by decide +kernel⟩
theorem zhn_L_row : mL_row.1.cls ≠ "java/lang/invoke/MethodHandle" ∧ mL_row.1.cls ≠ "java/lang/invoke/VarHandle" ∧ (parseMethodDescriptor mL_row.1.desc).map (fun d => d.parameters.length) = some 3 := ⟨by decide +kernel, by decide +kernel, by decide +kernel⟩
def zJL (G : zG) (J : zG → Nat → zS → Prop) : Prop :=
  ∃ (p : Program) (e : Env) (s : State) (m : MethodId) (below : List Frame) (meth : Method) (c : Code) (args : Array Value) (Q : State → Prop), zAm G p s m args c cL_law RL zTw ∧ zXx G s ∧ J = fun G2 => zJd G2 true p e room_1 s m args below meth c Q
theorem zst_gx {G G2 : zG} (h : zGx G G2) : zst G2 = zst G := by rcases h with rfl | ⟨z, q, rfl, -⟩ <;> rfl
theorem zAm_gx {G G2 : zG} (h : zGx G G2) {p : Program} {s : State} {m : MethodId} {args : Array Value} {c : Code} {cc : ByteArray} {own : String} {Ts : List Cond} (A : zAm G p s m args c cc own Ts) : zAm G2 p s m args c cc own Ts := by
  rcases h with rfl | ⟨z, q, rfl, -⟩
  · exact A
  · exact zAm_gz A
theorem zJL.gx {G G2 : zG} {J : zG → Nat → zS → Prop} (h : zGx G G2) (C : zJL G J) : zJL G2 J := by
  obtain ⟨p, e, s, m, below, meth, c, args, Q, A, hX, hJ⟩ := C
  refine ⟨p, e, s, m, below, meth, c, args, Q, zAm_gx h A, ?_, hJ⟩
  rcases h with rfl | ⟨z, q, rfl, -⟩
  · exact hX
  · exact zXx_gz hX
/-- the script's numbers -/
def zsv (G : zG) (i : Int) : Int := (zst G 40).2 i.toNat
abbrev zLl (i : Int) (l5 l6 l7 : Option zV) : List (Option zV) := [some (zT 40), some (zR (some 0)), some (zR (some 153)), some (zR (some 181)), some (zI i), l5, l6, l7]
/-- what the law's last locals hold: numbers or nothing -/
def zLi (l : Option zV) : Prop := ∀ v, l = some v → (∃ x, v = zI x) ∨ ∃ x, v = zL x
theorem zLl_gx {G G2 : zG} (hg : zGx G G2) {i : Int} {l5 l6 l7 : Option zV} (h5 : zLi l5) (h6 : zLi l6) (h7 : zLi l7) : ∀ v, some v ∈ zLl i l5 l6 l7 → cv G2 v = cv G v := by
  obtain ⟨g1, g2, g3, g4⟩ := zGx_cv hg
  have hl : ∀ l, zLi l → ∀ v, some v = l → cv G2 v = cv G v := fun l hl v hv => by
    rcases hl v hv.symm with ⟨x, rfl⟩ | ⟨x, rfl⟩
    · exact g1 x
    · exact g2 x
  intro v hv
  simp only [zLl, List.mem_cons, List.not_mem_nil, or_false, Option.some.injEq] at hv
  rcases hv with rfl | rfl | rfl | rfl | rfl | hv | hv | hv
  · exact g4
  · exact g3 0 (by decide)
  · exact g3 153 (by decide)
  · exact g3 181 (by decide)
  · exact g1 i
  · exact hl _ h5 v hv
  · exact hl _ h6 v hv
  · exact hl _ h7 v hv
theorem zwd385 : (Jvm.Cond.methodLink "InkFoldsLaw" (26 : Nat) ({ cls := "InkFolds", name := "sign", desc := "(I)I" } : Jvm.MethodName)) ∈ zTw := zTw_mem (List.mem_of_getElem? (i := 385) (by decide +kernel)) rfl
theorem zwd386 : (Jvm.Cond.instanceMethod ({ cls := "InkFolds", name := "sign", desc := "(I)I" } : Jvm.MethodName)) ∈ zTw := zTw_mem (List.mem_of_getElem? (i := 386) (by decide +kernel)) rfl
theorem zwd387 : (Jvm.Cond.selects "InkFolds" ({ cls := "InkFolds", name := "sign", desc := "(I)I" } : Jvm.MethodName) ({ cls := "InkFolds", name := "sign", desc := "(I)I" } : Jvm.MethodName)) ∈ zTw := zTw_mem (List.mem_of_getElem? (i := 387) (by decide +kernel)) rfl
theorem zwd393 : (Jvm.Cond.methodLink "InkFoldsLaw" (31 : Nat) ({ cls := "InkFolds", name := "end", desc := "(I)Z" } : Jvm.MethodName)) ∈ zTw := zTw_mem (List.mem_of_getElem? (i := 393) (by decide +kernel)) rfl
theorem zwd394 : (Jvm.Cond.instanceMethod ({ cls := "InkFolds", name := "end", desc := "(I)Z" } : Jvm.MethodName)) ∈ zTw := zTw_mem (List.mem_of_getElem? (i := 394) (by decide +kernel)) rfl
theorem zwd395 : (Jvm.Cond.selects "InkFolds" ({ cls := "InkFolds", name := "end", desc := "(I)Z" } : Jvm.MethodName) ({ cls := "InkFolds", name := "end", desc := "(I)Z" } : Jvm.MethodName)) ∈ zTw := zTw_mem (List.mem_of_getElem? (i := 395) (by decide +kernel)) rfl
theorem zwd397 : (Jvm.Cond.methodLink "InkFoldsLaw" (36 : Nat) ({ cls := "InkFolds", name := "patches", desc := "()I" } : Jvm.MethodName)) ∈ zTw := zTw_mem (List.mem_of_getElem? (i := 397) (by decide +kernel)) rfl
theorem zwd398 : (Jvm.Cond.instanceMethod ({ cls := "InkFolds", name := "patches", desc := "()I" } : Jvm.MethodName)) ∈ zTw := zTw_mem (List.mem_of_getElem? (i := 398) (by decide +kernel)) rfl
theorem zwd399 : (Jvm.Cond.selects "InkFolds" ({ cls := "InkFolds", name := "patches", desc := "()I" } : Jvm.MethodName) ({ cls := "InkFolds", name := "patches", desc := "()I" } : Jvm.MethodName)) ∈ zTw := zTw_mem (List.mem_of_getElem? (i := 399) (by decide +kernel)) rfl
theorem zwd622 : (Jvm.Cond.methodLink "InkFoldsLaw" (41 : Nat) ({ cls := "InkFolds", name := "curve", desc := "(I)I" } : Jvm.MethodName)) ∈ zTw := zTw_mem (List.mem_of_getElem? (i := 622) (by decide +kernel)) rfl
theorem zwd623 : (Jvm.Cond.instanceMethod ({ cls := "InkFolds", name := "curve", desc := "(I)I" } : Jvm.MethodName)) ∈ zTw := zTw_mem (List.mem_of_getElem? (i := 623) (by decide +kernel)) rfl
theorem zwd624 : (Jvm.Cond.selects "InkFolds" ({ cls := "InkFolds", name := "curve", desc := "(I)I" } : Jvm.MethodName) ({ cls := "InkFolds", name := "curve", desc := "(I)I" } : Jvm.MethodName)) ∈ zTw := zTw_mem (List.mem_of_getElem? (i := 624) (by decide +kernel)) rfl
theorem zwd641 : (Jvm.Cond.methodLink "InkFoldsLaw" (45 : Nat) ({ cls := "InkFolds", name := "link", desc := "()I" } : Jvm.MethodName)) ∈ zTw := zTw_mem (List.mem_of_getElem? (i := 641) (by decide +kernel)) rfl
theorem zwd642 : (Jvm.Cond.instanceMethod ({ cls := "InkFolds", name := "link", desc := "()I" } : Jvm.MethodName)) ∈ zTw := zTw_mem (List.mem_of_getElem? (i := 642) (by decide +kernel)) rfl
theorem zwd643 : (Jvm.Cond.selects "InkFolds" ({ cls := "InkFolds", name := "link", desc := "()I" } : Jvm.MethodName) ({ cls := "InkFolds", name := "link", desc := "()I" } : Jvm.MethodName)) ∈ zTw := zTw_mem (List.mem_of_getElem? (i := 643) (by decide +kernel)) rfl
theorem zwd707 : (Jvm.Cond.methodLink "InkFoldsLaw" (49 : Nat) ({ cls := "InkFolds", name := "picture", desc := "()I" } : Jvm.MethodName)) ∈ zTw := zTw_mem (List.mem_of_getElem? (i := 707) (by decide +kernel)) rfl
theorem zwd708 : (Jvm.Cond.instanceMethod ({ cls := "InkFolds", name := "picture", desc := "()I" } : Jvm.MethodName)) ∈ zTw := zTw_mem (List.mem_of_getElem? (i := 708) (by decide +kernel)) rfl
theorem zwd709 : (Jvm.Cond.selects "InkFolds" ({ cls := "InkFolds", name := "picture", desc := "()I" } : Jvm.MethodName) ({ cls := "InkFolds", name := "picture", desc := "()I" } : Jvm.MethodName)) ∈ zTw := zTw_mem (List.mem_of_getElem? (i := 709) (by decide +kernel)) rfl
theorem zwd724 : (Jvm.Cond.methodLink "InkFoldsLaw" (65 : Nat) ({ cls := "InkFolds", name := "sheet", desc := "(IIII)I" } : Jvm.MethodName)) ∈ zTw := zTw_mem (List.mem_of_getElem? (i := 724) (by decide +kernel)) rfl
theorem zwd725 : (Jvm.Cond.instanceMethod ({ cls := "InkFolds", name := "sheet", desc := "(IIII)I" } : Jvm.MethodName)) ∈ zTw := zTw_mem (List.mem_of_getElem? (i := 725) (by decide +kernel)) rfl
theorem zwd726 : (Jvm.Cond.selects "InkFolds" ({ cls := "InkFolds", name := "sheet", desc := "(IIII)I" } : Jvm.MethodName) ({ cls := "InkFolds", name := "sheet", desc := "(IIII)I" } : Jvm.MethodName)) ∈ zTw := zTw_mem (List.mem_of_getElem? (i := 726) (by decide +kernel)) rfl
theorem zwd738 : (Jvm.Cond.methodLink "InkFoldsLaw" (70 : Nat) ({ cls := "InkFolds", name := "measure", desc := "(IIII)I" } : Jvm.MethodName)) ∈ zTw := zTw_mem (List.mem_of_getElem? (i := 738) (by decide +kernel)) rfl
theorem zwd739 : (Jvm.Cond.instanceMethod ({ cls := "InkFolds", name := "measure", desc := "(IIII)I" } : Jvm.MethodName)) ∈ zTw := zTw_mem (List.mem_of_getElem? (i := 739) (by decide +kernel)) rfl
theorem zwd740 : (Jvm.Cond.selects "InkFolds" ({ cls := "InkFolds", name := "measure", desc := "(IIII)I" } : Jvm.MethodName) ({ cls := "InkFolds", name := "measure", desc := "(IIII)I" } : Jvm.MethodName)) ∈ zTw := zTw_mem (List.mem_of_getElem? (i := 740) (by decide +kernel)) rfl
theorem zwd742 : (Jvm.Cond.methodLink "InkFoldsLaw" (74 : Nat) ({ cls := "InkFolds", name := "forgets", desc := "(I)I" } : Jvm.MethodName)) ∈ zTw := zTw_mem (List.mem_of_getElem? (i := 742) (by decide +kernel)) rfl
theorem zwd743 : (Jvm.Cond.instanceMethod ({ cls := "InkFolds", name := "forgets", desc := "(I)I" } : Jvm.MethodName)) ∈ zTw := zTw_mem (List.mem_of_getElem? (i := 743) (by decide +kernel)) rfl
theorem zwd744 : (Jvm.Cond.selects "InkFolds" ({ cls := "InkFolds", name := "forgets", desc := "(I)I" } : Jvm.MethodName) ({ cls := "InkFolds", name := "forgets", desc := "(I)I" } : Jvm.MethodName)) ∈ zTw := zTw_mem (List.mem_of_getElem? (i := 744) (by decide +kernel)) rfl
theorem zwd750 : (Jvm.Cond.methodLink "InkFoldsLaw" (78 : Nat) ({ cls := "InkFolds", name := "sets", desc := "(II)I" } : Jvm.MethodName)) ∈ zTw := zTw_mem (List.mem_of_getElem? (i := 750) (by decide +kernel)) rfl
theorem zwd751 : (Jvm.Cond.instanceMethod ({ cls := "InkFolds", name := "sets", desc := "(II)I" } : Jvm.MethodName)) ∈ zTw := zTw_mem (List.mem_of_getElem? (i := 751) (by decide +kernel)) rfl
theorem zwd752 : (Jvm.Cond.selects "InkFolds" ({ cls := "InkFolds", name := "sets", desc := "(II)I" } : Jvm.MethodName) ({ cls := "InkFolds", name := "sets", desc := "(II)I" } : Jvm.MethodName)) ∈ zTw := zTw_mem (List.mem_of_getElem? (i := 752) (by decide +kernel)) rfl
theorem zwd762 : (Jvm.Cond.methodLink "InkFoldsLaw" (82 : Nat) ({ cls := "InkFolds", name := "paints", desc := "(IIII)I" } : Jvm.MethodName)) ∈ zTw := zTw_mem (List.mem_of_getElem? (i := 762) (by decide +kernel)) rfl
theorem zwd763 : (Jvm.Cond.instanceMethod ({ cls := "InkFolds", name := "paints", desc := "(IIII)I" } : Jvm.MethodName)) ∈ zTw := zTw_mem (List.mem_of_getElem? (i := 763) (by decide +kernel)) rfl
theorem zwd764 : (Jvm.Cond.selects "InkFolds" ({ cls := "InkFolds", name := "paints", desc := "(IIII)I" } : Jvm.MethodName) ({ cls := "InkFolds", name := "paints", desc := "(IIII)I" } : Jvm.MethodName)) ∈ zTw := zTw_mem (List.mem_of_getElem? (i := 764) (by decide +kernel)) rfl
theorem zwd777 : (Jvm.Cond.methodLink "InkFoldsLaw" (86 : Nat) ({ cls := "InkFolds", name := "day", desc := "()I" } : Jvm.MethodName)) ∈ zTw := zTw_mem (List.mem_of_getElem? (i := 777) (by decide +kernel)) rfl
theorem zwd778 : (Jvm.Cond.instanceMethod ({ cls := "InkFolds", name := "day", desc := "()I" } : Jvm.MethodName)) ∈ zTw := zTw_mem (List.mem_of_getElem? (i := 778) (by decide +kernel)) rfl
theorem zwd779 : (Jvm.Cond.selects "InkFolds" ({ cls := "InkFolds", name := "day", desc := "()I" } : Jvm.MethodName) ({ cls := "InkFolds", name := "day", desc := "()I" } : Jvm.MethodName)) ∈ zTw := zTw_mem (List.mem_of_getElem? (i := 779) (by decide +kernel)) rfl
theorem zwd795 : (Jvm.Cond.methodLink "InkFoldsLaw" (90 : Nat) ({ cls := "InkFolds", name := "undo", desc := "()I" } : Jvm.MethodName)) ∈ zTw := zTw_mem (List.mem_of_getElem? (i := 795) (by decide +kernel)) rfl
theorem zwd796 : (Jvm.Cond.instanceMethod ({ cls := "InkFolds", name := "undo", desc := "()I" } : Jvm.MethodName)) ∈ zTw := zTw_mem (List.mem_of_getElem? (i := 796) (by decide +kernel)) rfl
theorem zwd797 : (Jvm.Cond.selects "InkFolds" ({ cls := "InkFolds", name := "undo", desc := "()I" } : Jvm.MethodName) ({ cls := "InkFolds", name := "undo", desc := "()I" } : Jvm.MethodName)) ∈ zTw := zTw_mem (List.mem_of_getElem? (i := 797) (by decide +kernel)) rfl
theorem zwd803 : (Jvm.Cond.methodLink "InkFoldsLaw" (94 : Nat) ({ cls := "InkFolds", name := "colour", desc := "(I)I" } : Jvm.MethodName)) ∈ zTw := zTw_mem (List.mem_of_getElem? (i := 803) (by decide +kernel)) rfl
theorem zwd804 : (Jvm.Cond.instanceMethod ({ cls := "InkFolds", name := "colour", desc := "(I)I" } : Jvm.MethodName)) ∈ zTw := zTw_mem (List.mem_of_getElem? (i := 804) (by decide +kernel)) rfl
theorem zwd805 : (Jvm.Cond.selects "InkFolds" ({ cls := "InkFolds", name := "colour", desc := "(I)I" } : Jvm.MethodName) ({ cls := "InkFolds", name := "colour", desc := "(I)I" } : Jvm.MethodName)) ∈ zTw := zTw_mem (List.mem_of_getElem? (i := 805) (by decide +kernel)) rfl
theorem zwd869 : (Jvm.Cond.methodLink "InkFoldsLaw" (98 : Nat) ({ cls := "InkFolds", name := "limited", desc := "(II)I" } : Jvm.MethodName)) ∈ zTw := zTw_mem (List.mem_of_getElem? (i := 869) (by decide +kernel)) rfl
theorem zwd870 : (Jvm.Cond.instanceMethod ({ cls := "InkFolds", name := "limited", desc := "(II)I" } : Jvm.MethodName)) ∈ zTw := zTw_mem (List.mem_of_getElem? (i := 870) (by decide +kernel)) rfl
theorem zwd871 : (Jvm.Cond.selects "InkFolds" ({ cls := "InkFolds", name := "limited", desc := "(II)I" } : Jvm.MethodName) ({ cls := "InkFolds", name := "limited", desc := "(II)I" } : Jvm.MethodName)) ∈ zTw := zTw_mem (List.mem_of_getElem? (i := 871) (by decide +kernel)) rfl
theorem zwd898 : (Jvm.Cond.methodLink "InkFoldsLaw" (102 : Nat) ({ cls := "InkFolds", name := "match", desc := "(III)I" } : Jvm.MethodName)) ∈ zTw := zTw_mem (List.mem_of_getElem? (i := 898) (by decide +kernel)) rfl
theorem zwd899 : (Jvm.Cond.instanceMethod ({ cls := "InkFolds", name := "match", desc := "(III)I" } : Jvm.MethodName)) ∈ zTw := zTw_mem (List.mem_of_getElem? (i := 899) (by decide +kernel)) rfl
theorem zwd900 : (Jvm.Cond.selects "InkFolds" ({ cls := "InkFolds", name := "match", desc := "(III)I" } : Jvm.MethodName) ({ cls := "InkFolds", name := "match", desc := "(III)I" } : Jvm.MethodName)) ∈ zTw := zTw_mem (List.mem_of_getElem? (i := 900) (by decide +kernel)) rfl
theorem zwd934 : (Jvm.Cond.methodLink "InkFoldsLaw" (107 : Nat) ({ cls := "InkFolds", name := "fold", desc := "(III)I" } : Jvm.MethodName)) ∈ zTw := zTw_mem (List.mem_of_getElem? (i := 934) (by decide +kernel)) rfl
theorem zwd935 : (Jvm.Cond.instanceMethod ({ cls := "InkFolds", name := "fold", desc := "(III)I" } : Jvm.MethodName)) ∈ zTw := zTw_mem (List.mem_of_getElem? (i := 935) (by decide +kernel)) rfl
theorem zwd936 : (Jvm.Cond.selects "InkFolds" ({ cls := "InkFolds", name := "fold", desc := "(III)I" } : Jvm.MethodName) ({ cls := "InkFolds", name := "fold", desc := "(III)I" } : Jvm.MethodName)) ∈ zTw := zTw_mem (List.mem_of_getElem? (i := 936) (by decide +kernel)) rfl
theorem zwd951 : (Jvm.Cond.methodLink "InkFoldsLaw" (111 : Nat) ({ cls := "InkFolds", name := "prints", desc := "(III)I" } : Jvm.MethodName)) ∈ zTw := zTw_mem (List.mem_of_getElem? (i := 951) (by decide +kernel)) rfl
theorem zwd952 : (Jvm.Cond.instanceMethod ({ cls := "InkFolds", name := "prints", desc := "(III)I" } : Jvm.MethodName)) ∈ zTw := zTw_mem (List.mem_of_getElem? (i := 952) (by decide +kernel)) rfl
theorem zwd953 : (Jvm.Cond.selects "InkFolds" ({ cls := "InkFolds", name := "prints", desc := "(III)I" } : Jvm.MethodName) ({ cls := "InkFolds", name := "prints", desc := "(III)I" } : Jvm.MethodName)) ∈ zTw := zTw_mem (List.mem_of_getElem? (i := 953) (by decide +kernel)) rfl
theorem zwd998 : (Jvm.Cond.methodLink "InkFoldsLaw" (115 : Nat) ({ cls := "InkFolds", name := "ramp", desc := "(II)I" } : Jvm.MethodName)) ∈ zTw := zTw_mem (List.mem_of_getElem? (i := 998) (by decide +kernel)) rfl
theorem zwd999 : (Jvm.Cond.instanceMethod ({ cls := "InkFolds", name := "ramp", desc := "(II)I" } : Jvm.MethodName)) ∈ zTw := zTw_mem (List.mem_of_getElem? (i := 999) (by decide +kernel)) rfl
theorem zwd1000 : (Jvm.Cond.selects "InkFolds" ({ cls := "InkFolds", name := "ramp", desc := "(II)I" } : Jvm.MethodName) ({ cls := "InkFolds", name := "ramp", desc := "(II)I" } : Jvm.MethodName)) ∈ zTw := zTw_mem (List.mem_of_getElem? (i := 1000) (by decide +kernel)) rfl
theorem zwd1010 : (Jvm.Cond.methodLink "InkFoldsLaw" (119 : Nat) ({ cls := "InkFolds", name := "way", desc := "(III)I" } : Jvm.MethodName)) ∈ zTw := zTw_mem (List.mem_of_getElem? (i := 1010) (by decide +kernel)) rfl
theorem zwd1011 : (Jvm.Cond.instanceMethod ({ cls := "InkFolds", name := "way", desc := "(III)I" } : Jvm.MethodName)) ∈ zTw := zTw_mem (List.mem_of_getElem? (i := 1011) (by decide +kernel)) rfl
theorem zwd1012 : (Jvm.Cond.selects "InkFolds" ({ cls := "InkFolds", name := "way", desc := "(III)I" } : Jvm.MethodName) ({ cls := "InkFolds", name := "way", desc := "(III)I" } : Jvm.MethodName)) ∈ zTw := zTw_mem (List.mem_of_getElem? (i := 1012) (by decide +kernel)) rfl
theorem zwd1032 : (Jvm.Cond.methodLink "InkFoldsLaw" (123 : Nat) ({ cls := "InkFolds", name := "rises", desc := "(I)I" } : Jvm.MethodName)) ∈ zTw := zTw_mem (List.mem_of_getElem? (i := 1032) (by decide +kernel)) rfl
theorem zwd1033 : (Jvm.Cond.instanceMethod ({ cls := "InkFolds", name := "rises", desc := "(I)I" } : Jvm.MethodName)) ∈ zTw := zTw_mem (List.mem_of_getElem? (i := 1033) (by decide +kernel)) rfl
theorem zwd1034 : (Jvm.Cond.selects "InkFolds" ({ cls := "InkFolds", name := "rises", desc := "(I)I" } : Jvm.MethodName) ({ cls := "InkFolds", name := "rises", desc := "(I)I" } : Jvm.MethodName)) ∈ zTw := zTw_mem (List.mem_of_getElem? (i := 1034) (by decide +kernel)) rfl
theorem zwd1049 : (Jvm.Cond.methodLink "InkFoldsLaw" (127 : Nat) ({ cls := "InkFolds", name := "reach", desc := "(I)I" } : Jvm.MethodName)) ∈ zTw := zTw_mem (List.mem_of_getElem? (i := 1049) (by decide +kernel)) rfl
theorem zwd1050 : (Jvm.Cond.instanceMethod ({ cls := "InkFolds", name := "reach", desc := "(I)I" } : Jvm.MethodName)) ∈ zTw := zTw_mem (List.mem_of_getElem? (i := 1050) (by decide +kernel)) rfl
theorem zwd1051 : (Jvm.Cond.selects "InkFolds" ({ cls := "InkFolds", name := "reach", desc := "(I)I" } : Jvm.MethodName) ({ cls := "InkFolds", name := "reach", desc := "(I)I" } : Jvm.MethodName)) ∈ zTw := zTw_mem (List.mem_of_getElem? (i := 1051) (by decide +kernel)) rfl
theorem zwd1056 : (Jvm.Cond.methodLink "InkFoldsLaw" (131 : Nat) ({ cls := "InkFolds", name := "spread", desc := "()I" } : Jvm.MethodName)) ∈ zTw := zTw_mem (List.mem_of_getElem? (i := 1056) (by decide +kernel)) rfl
theorem zwd1057 : (Jvm.Cond.instanceMethod ({ cls := "InkFolds", name := "spread", desc := "()I" } : Jvm.MethodName)) ∈ zTw := zTw_mem (List.mem_of_getElem? (i := 1057) (by decide +kernel)) rfl
theorem zwd1058 : (Jvm.Cond.selects "InkFolds" ({ cls := "InkFolds", name := "spread", desc := "()I" } : Jvm.MethodName) ({ cls := "InkFolds", name := "spread", desc := "()I" } : Jvm.MethodName)) ∈ zTw := zTw_mem (List.mem_of_getElem? (i := 1058) (by decide +kernel)) rfl
theorem zwd1068 : (Jvm.Cond.methodLink "InkFoldsLaw" (135 : Nat) ({ cls := "InkFolds", name := "odds", desc := "(IIII)I" } : Jvm.MethodName)) ∈ zTw := zTw_mem (List.mem_of_getElem? (i := 1068) (by decide +kernel)) rfl
theorem zwd1069 : (Jvm.Cond.instanceMethod ({ cls := "InkFolds", name := "odds", desc := "(IIII)I" } : Jvm.MethodName)) ∈ zTw := zTw_mem (List.mem_of_getElem? (i := 1069) (by decide +kernel)) rfl
theorem zwd1070 : (Jvm.Cond.selects "InkFolds" ({ cls := "InkFolds", name := "odds", desc := "(IIII)I" } : Jvm.MethodName) ({ cls := "InkFolds", name := "odds", desc := "(IIII)I" } : Jvm.MethodName)) ∈ zTw := zTw_mem (List.mem_of_getElem? (i := 1070) (by decide +kernel)) rfl
theorem zwd1079 : (Jvm.Cond.methodLink "InkFoldsLaw" (139 : Nat) ({ cls := "InkFolds", name := "through", desc := "(I)I" } : Jvm.MethodName)) ∈ zTw := zTw_mem (List.mem_of_getElem? (i := 1079) (by decide +kernel)) rfl
theorem zwd1080 : (Jvm.Cond.instanceMethod ({ cls := "InkFolds", name := "through", desc := "(I)I" } : Jvm.MethodName)) ∈ zTw := zTw_mem (List.mem_of_getElem? (i := 1080) (by decide +kernel)) rfl
theorem zwd1081 : (Jvm.Cond.selects "InkFolds" ({ cls := "InkFolds", name := "through", desc := "(I)I" } : Jvm.MethodName) ({ cls := "InkFolds", name := "through", desc := "(I)I" } : Jvm.MethodName)) ∈ zTw := zTw_mem (List.mem_of_getElem? (i := 1081) (by decide +kernel)) rfl
theorem zwd1083 : (Jvm.Cond.methodLink "InkFoldsLaw" (143 : Nat) ({ cls := "InkFolds", name := "sources", desc := "(I)I" } : Jvm.MethodName)) ∈ zTw := zTw_mem (List.mem_of_getElem? (i := 1083) (by decide +kernel)) rfl
theorem zwd1084 : (Jvm.Cond.instanceMethod ({ cls := "InkFolds", name := "sources", desc := "(I)I" } : Jvm.MethodName)) ∈ zTw := zTw_mem (List.mem_of_getElem? (i := 1084) (by decide +kernel)) rfl
theorem zwd1085 : (Jvm.Cond.selects "InkFolds" ({ cls := "InkFolds", name := "sources", desc := "(I)I" } : Jvm.MethodName) ({ cls := "InkFolds", name := "sources", desc := "(I)I" } : Jvm.MethodName)) ∈ zTw := zTw_mem (List.mem_of_getElem? (i := 1085) (by decide +kernel)) rfl
theorem zwd1087 : (Jvm.Cond.methodLink "InkFoldsLaw" (147 : Nat) ({ cls := "InkFolds", name := "rounds", desc := "(I)I" } : Jvm.MethodName)) ∈ zTw := zTw_mem (List.mem_of_getElem? (i := 1087) (by decide +kernel)) rfl
theorem zwd1088 : (Jvm.Cond.instanceMethod ({ cls := "InkFolds", name := "rounds", desc := "(I)I" } : Jvm.MethodName)) ∈ zTw := zTw_mem (List.mem_of_getElem? (i := 1088) (by decide +kernel)) rfl
theorem zwd1089 : (Jvm.Cond.selects "InkFolds" ({ cls := "InkFolds", name := "rounds", desc := "(I)I" } : Jvm.MethodName) ({ cls := "InkFolds", name := "rounds", desc := "(I)I" } : Jvm.MethodName)) ∈ zTw := zTw_mem (List.mem_of_getElem? (i := 1089) (by decide +kernel)) rfl
theorem zwd1091 : (Jvm.Cond.methodLink "InkFoldsLaw" (151 : Nat) ({ cls := "InkFolds", name := "press", desc := "(I)I" } : Jvm.MethodName)) ∈ zTw := zTw_mem (List.mem_of_getElem? (i := 1091) (by decide +kernel)) rfl
theorem zwd1092 : (Jvm.Cond.instanceMethod ({ cls := "InkFolds", name := "press", desc := "(I)I" } : Jvm.MethodName)) ∈ zTw := zTw_mem (List.mem_of_getElem? (i := 1092) (by decide +kernel)) rfl
theorem zwd1093 : (Jvm.Cond.selects "InkFolds" ({ cls := "InkFolds", name := "press", desc := "(I)I" } : Jvm.MethodName) ({ cls := "InkFolds", name := "press", desc := "(I)I" } : Jvm.MethodName)) ∈ zTw := zTw_mem (List.mem_of_getElem? (i := 1093) (by decide +kernel)) rfl
theorem zwd1128 : (Jvm.Cond.methodLink "InkFoldsLaw" (155 : Nat) ({ cls := "InkFolds", name := "cell", desc := "(II)I" } : Jvm.MethodName)) ∈ zTw := zTw_mem (List.mem_of_getElem? (i := 1128) (by decide +kernel)) rfl
theorem zwd1129 : (Jvm.Cond.instanceMethod ({ cls := "InkFolds", name := "cell", desc := "(II)I" } : Jvm.MethodName)) ∈ zTw := zTw_mem (List.mem_of_getElem? (i := 1129) (by decide +kernel)) rfl
theorem zwd1130 : (Jvm.Cond.selects "InkFolds" ({ cls := "InkFolds", name := "cell", desc := "(II)I" } : Jvm.MethodName) ({ cls := "InkFolds", name := "cell", desc := "(II)I" } : Jvm.MethodName)) ∈ zTw := zTw_mem (List.mem_of_getElem? (i := 1130) (by decide +kernel)) rfl
theorem zwd1132 : (Jvm.Cond.methodLink "InkFoldsLaw" (159 : Nat) ({ cls := "InkFolds", name := "slips", desc := "(III)I" } : Jvm.MethodName)) ∈ zTw := zTw_mem (List.mem_of_getElem? (i := 1132) (by decide +kernel)) rfl
theorem zwd1133 : (Jvm.Cond.instanceMethod ({ cls := "InkFolds", name := "slips", desc := "(III)I" } : Jvm.MethodName)) ∈ zTw := zTw_mem (List.mem_of_getElem? (i := 1133) (by decide +kernel)) rfl
theorem zwd1134 : (Jvm.Cond.selects "InkFolds" ({ cls := "InkFolds", name := "slips", desc := "(III)I" } : Jvm.MethodName) ({ cls := "InkFolds", name := "slips", desc := "(III)I" } : Jvm.MethodName)) ∈ zTw := zTw_mem (List.mem_of_getElem? (i := 1134) (by decide +kernel)) rfl
theorem zwd1142 : (Jvm.Cond.methodLink "InkFoldsLaw" (163 : Nat) ({ cls := "InkFolds", name := "greys", desc := "(II)I" } : Jvm.MethodName)) ∈ zTw := zTw_mem (List.mem_of_getElem? (i := 1142) (by decide +kernel)) rfl
theorem zwd1143 : (Jvm.Cond.instanceMethod ({ cls := "InkFolds", name := "greys", desc := "(II)I" } : Jvm.MethodName)) ∈ zTw := zTw_mem (List.mem_of_getElem? (i := 1143) (by decide +kernel)) rfl
theorem zwd1144 : (Jvm.Cond.selects "InkFolds" ({ cls := "InkFolds", name := "greys", desc := "(II)I" } : Jvm.MethodName) ({ cls := "InkFolds", name := "greys", desc := "(II)I" } : Jvm.MethodName)) ∈ zTw := zTw_mem (List.mem_of_getElem? (i := 1144) (by decide +kernel)) rfl
theorem zwd1156 : (Jvm.Cond.methodLink "InkFoldsLaw" (167 : Nat) ({ cls := "InkFolds", name := "replaces", desc := "(III)I" } : Jvm.MethodName)) ∈ zTw := zTw_mem (List.mem_of_getElem? (i := 1156) (by decide +kernel)) rfl
theorem zwd1157 : (Jvm.Cond.instanceMethod ({ cls := "InkFolds", name := "replaces", desc := "(III)I" } : Jvm.MethodName)) ∈ zTw := zTw_mem (List.mem_of_getElem? (i := 1157) (by decide +kernel)) rfl
theorem zwd1158 : (Jvm.Cond.selects "InkFolds" ({ cls := "InkFolds", name := "replaces", desc := "(III)I" } : Jvm.MethodName) ({ cls := "InkFolds", name := "replaces", desc := "(III)I" } : Jvm.MethodName)) ∈ zTw := zTw_mem (List.mem_of_getElem? (i := 1158) (by decide +kernel)) rfl
theorem zwd1163 : (Jvm.Cond.methodLink "InkFoldsLaw" (171 : Nat) ({ cls := "InkFolds", name := "doubt", desc := "()I" } : Jvm.MethodName)) ∈ zTw := zTw_mem (List.mem_of_getElem? (i := 1163) (by decide +kernel)) rfl
theorem zwd1164 : (Jvm.Cond.instanceMethod ({ cls := "InkFolds", name := "doubt", desc := "()I" } : Jvm.MethodName)) ∈ zTw := zTw_mem (List.mem_of_getElem? (i := 1164) (by decide +kernel)) rfl
theorem zwd1165 : (Jvm.Cond.selects "InkFolds" ({ cls := "InkFolds", name := "doubt", desc := "()I" } : Jvm.MethodName) ({ cls := "InkFolds", name := "doubt", desc := "()I" } : Jvm.MethodName)) ∈ zTw := zTw_mem (List.mem_of_getElem? (i := 1165) (by decide +kernel)) rfl
theorem zwd1172 : (Jvm.Cond.methodLink "InkFoldsLaw" (175 : Nat) ({ cls := "InkFolds", name := "asks", desc := "()I" } : Jvm.MethodName)) ∈ zTw := zTw_mem (List.mem_of_getElem? (i := 1172) (by decide +kernel)) rfl
theorem zwd1173 : (Jvm.Cond.instanceMethod ({ cls := "InkFolds", name := "asks", desc := "()I" } : Jvm.MethodName)) ∈ zTw := zTw_mem (List.mem_of_getElem? (i := 1173) (by decide +kernel)) rfl
theorem zwd1174 : (Jvm.Cond.selects "InkFolds" ({ cls := "InkFolds", name := "asks", desc := "()I" } : Jvm.MethodName) ({ cls := "InkFolds", name := "asks", desc := "()I" } : Jvm.MethodName)) ∈ zTw := zTw_mem (List.mem_of_getElem? (i := 1174) (by decide +kernel)) rfl
theorem zwd1178 : (Jvm.Cond.methodLink "InkFoldsLaw" (179 : Nat) ({ cls := "InkFolds", name := "other", desc := "(I)I" } : Jvm.MethodName)) ∈ zTw := zTw_mem (List.mem_of_getElem? (i := 1178) (by decide +kernel)) rfl
theorem zwd1179 : (Jvm.Cond.instanceMethod ({ cls := "InkFolds", name := "other", desc := "(I)I" } : Jvm.MethodName)) ∈ zTw := zTw_mem (List.mem_of_getElem? (i := 1179) (by decide +kernel)) rfl
theorem zwd1180 : (Jvm.Cond.selects "InkFolds" ({ cls := "InkFolds", name := "other", desc := "(I)I" } : Jvm.MethodName) ({ cls := "InkFolds", name := "other", desc := "(I)I" } : Jvm.MethodName)) ∈ zTw := zTw_mem (List.mem_of_getElem? (i := 1180) (by decide +kernel)) rfl
theorem zwd1182 : (Jvm.Cond.methodLink "InkFoldsLaw" (183 : Nat) ({ cls := "InkFolds", name := "carry", desc := "(II)I" } : Jvm.MethodName)) ∈ zTw := zTw_mem (List.mem_of_getElem? (i := 1182) (by decide +kernel)) rfl
theorem zwd1183 : (Jvm.Cond.instanceMethod ({ cls := "InkFolds", name := "carry", desc := "(II)I" } : Jvm.MethodName)) ∈ zTw := zTw_mem (List.mem_of_getElem? (i := 1183) (by decide +kernel)) rfl
theorem zwd1184 : (Jvm.Cond.selects "InkFolds" ({ cls := "InkFolds", name := "carry", desc := "(II)I" } : Jvm.MethodName) ({ cls := "InkFolds", name := "carry", desc := "(II)I" } : Jvm.MethodName)) ∈ zTw := zTw_mem (List.mem_of_getElem? (i := 1184) (by decide +kernel)) rfl
theorem zwd1186 : (Jvm.Cond.methodLink "InkFoldsLaw" (187 : Nat) ({ cls := "InkFolds", name := "drifts", desc := "(II)I" } : Jvm.MethodName)) ∈ zTw := zTw_mem (List.mem_of_getElem? (i := 1186) (by decide +kernel)) rfl
theorem zwd1187 : (Jvm.Cond.instanceMethod ({ cls := "InkFolds", name := "drifts", desc := "(II)I" } : Jvm.MethodName)) ∈ zTw := zTw_mem (List.mem_of_getElem? (i := 1187) (by decide +kernel)) rfl
theorem zwd1188 : (Jvm.Cond.selects "InkFolds" ({ cls := "InkFolds", name := "drifts", desc := "(II)I" } : Jvm.MethodName) ({ cls := "InkFolds", name := "drifts", desc := "(II)I" } : Jvm.MethodName)) ∈ zTw := zTw_mem (List.mem_of_getElem? (i := 1188) (by decide +kernel)) rfl
theorem zwd1198 : (Jvm.Cond.methodLink "InkFoldsLaw" (191 : Nat) ({ cls := "InkFolds", name := "keep", desc := "(I)Z" } : Jvm.MethodName)) ∈ zTw := zTw_mem (List.mem_of_getElem? (i := 1198) (by decide +kernel)) rfl
theorem zwd1199 : (Jvm.Cond.instanceMethod ({ cls := "InkFolds", name := "keep", desc := "(I)Z" } : Jvm.MethodName)) ∈ zTw := zTw_mem (List.mem_of_getElem? (i := 1199) (by decide +kernel)) rfl
theorem zwd1200 : (Jvm.Cond.selects "InkFolds" ({ cls := "InkFolds", name := "keep", desc := "(I)Z" } : Jvm.MethodName) ({ cls := "InkFolds", name := "keep", desc := "(I)Z" } : Jvm.MethodName)) ∈ zTw := zTw_mem (List.mem_of_getElem? (i := 1200) (by decide +kernel)) rfl
theorem zwd1202 : (Jvm.Cond.methodLink "InkFoldsLaw" (195 : Nat) ({ cls := "InkFolds", name := "again", desc := "(I)Z" } : Jvm.MethodName)) ∈ zTw := zTw_mem (List.mem_of_getElem? (i := 1202) (by decide +kernel)) rfl
theorem zwd1203 : (Jvm.Cond.instanceMethod ({ cls := "InkFolds", name := "again", desc := "(I)Z" } : Jvm.MethodName)) ∈ zTw := zTw_mem (List.mem_of_getElem? (i := 1203) (by decide +kernel)) rfl
theorem zwd1204 : (Jvm.Cond.selects "InkFolds" ({ cls := "InkFolds", name := "again", desc := "(I)Z" } : Jvm.MethodName) ({ cls := "InkFolds", name := "again", desc := "(I)Z" } : Jvm.MethodName)) ∈ zTw := zTw_mem (List.mem_of_getElem? (i := 1204) (by decide +kernel)) rfl
theorem zwd1206 : (Jvm.Cond.methodLink "InkFoldsLaw" (199 : Nat) ({ cls := "InkFolds", name := "count", desc := "(I)I" } : Jvm.MethodName)) ∈ zTw := zTw_mem (List.mem_of_getElem? (i := 1206) (by decide +kernel)) rfl
theorem zwd1207 : (Jvm.Cond.instanceMethod ({ cls := "InkFolds", name := "count", desc := "(I)I" } : Jvm.MethodName)) ∈ zTw := zTw_mem (List.mem_of_getElem? (i := 1207) (by decide +kernel)) rfl
theorem zwd1208 : (Jvm.Cond.selects "InkFolds" ({ cls := "InkFolds", name := "count", desc := "(I)I" } : Jvm.MethodName) ({ cls := "InkFolds", name := "count", desc := "(I)I" } : Jvm.MethodName)) ∈ zTw := zTw_mem (List.mem_of_getElem? (i := 1208) (by decide +kernel)) rfl
theorem zwd1449 : (Jvm.Cond.methodLink "InkFoldsLaw" (59 : Nat) ({ cls := "InkFoldsModel", name := "thrown", desc := "()I" } : Jvm.MethodName)) ∈ zTw := zTw_mem (List.mem_of_getElem? (i := 1449) (by decide +kernel)) rfl
theorem zwd1450 : (Jvm.Cond.instanceMethod ({ cls := "InkFoldsModel", name := "thrown", desc := "()I" } : Jvm.MethodName)) ∈ zTw := zTw_mem (List.mem_of_getElem? (i := 1450) (by decide +kernel)) rfl
theorem zwd1451 : (Jvm.Cond.selects "InkFoldsModel" ({ cls := "InkFoldsModel", name := "thrown", desc := "()I" } : Jvm.MethodName) ({ cls := "InkFoldsModel", name := "thrown", desc := "()I" } : Jvm.MethodName)) ∈ zTw := zTw_mem (List.mem_of_getElem? (i := 1451) (by decide +kernel)) rfl
theorem zwd1453 : (Jvm.Cond.methodLink "InkFoldsLaw" (30 : Nat) ({ cls := "InkFoldsModel", name := "sign", desc := "(I)I" } : Jvm.MethodName)) ∈ zTw := zTw_mem (List.mem_of_getElem? (i := 1453) (by decide +kernel)) rfl
theorem zwd1454 : (Jvm.Cond.instanceMethod ({ cls := "InkFoldsModel", name := "sign", desc := "(I)I" } : Jvm.MethodName)) ∈ zTw := zTw_mem (List.mem_of_getElem? (i := 1454) (by decide +kernel)) rfl
theorem zwd1455 : (Jvm.Cond.selects "InkFoldsModel" ({ cls := "InkFoldsModel", name := "sign", desc := "(I)I" } : Jvm.MethodName) ({ cls := "InkFoldsModel", name := "sign", desc := "(I)I" } : Jvm.MethodName)) ∈ zTw := zTw_mem (List.mem_of_getElem? (i := 1455) (by decide +kernel)) rfl
theorem zwd1457 : (Jvm.Cond.methodLink "InkFoldsLaw" (35 : Nat) ({ cls := "InkFoldsModel", name := "end", desc := "(I)Z" } : Jvm.MethodName)) ∈ zTw := zTw_mem (List.mem_of_getElem? (i := 1457) (by decide +kernel)) rfl
theorem zwd1458 : (Jvm.Cond.instanceMethod ({ cls := "InkFoldsModel", name := "end", desc := "(I)Z" } : Jvm.MethodName)) ∈ zTw := zTw_mem (List.mem_of_getElem? (i := 1458) (by decide +kernel)) rfl
theorem zwd1459 : (Jvm.Cond.selects "InkFoldsModel" ({ cls := "InkFoldsModel", name := "end", desc := "(I)Z" } : Jvm.MethodName) ({ cls := "InkFoldsModel", name := "end", desc := "(I)Z" } : Jvm.MethodName)) ∈ zTw := zTw_mem (List.mem_of_getElem? (i := 1459) (by decide +kernel)) rfl
theorem zwd1464 : (Jvm.Cond.methodLink "InkFoldsLaw" (40 : Nat) ({ cls := "InkFoldsModel", name := "patches", desc := "()I" } : Jvm.MethodName)) ∈ zTw := zTw_mem (List.mem_of_getElem? (i := 1464) (by decide +kernel)) rfl
theorem zwd1465 : (Jvm.Cond.instanceMethod ({ cls := "InkFoldsModel", name := "patches", desc := "()I" } : Jvm.MethodName)) ∈ zTw := zTw_mem (List.mem_of_getElem? (i := 1465) (by decide +kernel)) rfl
theorem zwd1466 : (Jvm.Cond.selects "InkFoldsModel" ({ cls := "InkFoldsModel", name := "patches", desc := "()I" } : Jvm.MethodName) ({ cls := "InkFoldsModel", name := "patches", desc := "()I" } : Jvm.MethodName)) ∈ zTw := zTw_mem (List.mem_of_getElem? (i := 1466) (by decide +kernel)) rfl
theorem zwd1522 : (Jvm.Cond.methodLink "InkFoldsLaw" (44 : Nat) ({ cls := "InkFoldsModel", name := "curve", desc := "(I)I" } : Jvm.MethodName)) ∈ zTw := zTw_mem (List.mem_of_getElem? (i := 1522) (by decide +kernel)) rfl
theorem zwd1523 : (Jvm.Cond.instanceMethod ({ cls := "InkFoldsModel", name := "curve", desc := "(I)I" } : Jvm.MethodName)) ∈ zTw := zTw_mem (List.mem_of_getElem? (i := 1523) (by decide +kernel)) rfl
theorem zwd1524 : (Jvm.Cond.selects "InkFoldsModel" ({ cls := "InkFoldsModel", name := "curve", desc := "(I)I" } : Jvm.MethodName) ({ cls := "InkFoldsModel", name := "curve", desc := "(I)I" } : Jvm.MethodName)) ∈ zTw := zTw_mem (List.mem_of_getElem? (i := 1524) (by decide +kernel)) rfl
theorem zwd1530 : (Jvm.Cond.methodLink "InkFoldsLaw" (48 : Nat) ({ cls := "InkFoldsModel", name := "link", desc := "()I" } : Jvm.MethodName)) ∈ zTw := zTw_mem (List.mem_of_getElem? (i := 1530) (by decide +kernel)) rfl
theorem zwd1531 : (Jvm.Cond.instanceMethod ({ cls := "InkFoldsModel", name := "link", desc := "()I" } : Jvm.MethodName)) ∈ zTw := zTw_mem (List.mem_of_getElem? (i := 1531) (by decide +kernel)) rfl
theorem zwd1532 : (Jvm.Cond.selects "InkFoldsModel" ({ cls := "InkFoldsModel", name := "link", desc := "()I" } : Jvm.MethodName) ({ cls := "InkFoldsModel", name := "link", desc := "()I" } : Jvm.MethodName)) ∈ zTw := zTw_mem (List.mem_of_getElem? (i := 1532) (by decide +kernel)) rfl
theorem zwd1563 : (Jvm.Cond.methodLink "InkFoldsLaw" (52 : Nat) ({ cls := "InkFoldsModel", name := "picture", desc := "()I" } : Jvm.MethodName)) ∈ zTw := zTw_mem (List.mem_of_getElem? (i := 1563) (by decide +kernel)) rfl
theorem zwd1564 : (Jvm.Cond.instanceMethod ({ cls := "InkFoldsModel", name := "picture", desc := "()I" } : Jvm.MethodName)) ∈ zTw := zTw_mem (List.mem_of_getElem? (i := 1564) (by decide +kernel)) rfl
theorem zwd1565 : (Jvm.Cond.selects "InkFoldsModel" ({ cls := "InkFoldsModel", name := "picture", desc := "()I" } : Jvm.MethodName) ({ cls := "InkFoldsModel", name := "picture", desc := "()I" } : Jvm.MethodName)) ∈ zTw := zTw_mem (List.mem_of_getElem? (i := 1565) (by decide +kernel)) rfl
theorem zwd1567 : (Jvm.Cond.methodLink "InkFoldsLaw" (58 : Nat) ({ cls := "InkFoldsModel", name := "light", desc := "(II)I" } : Jvm.MethodName)) ∈ zTw := zTw_mem (List.mem_of_getElem? (i := 1567) (by decide +kernel)) rfl
theorem zwd1568 : (Jvm.Cond.instanceMethod ({ cls := "InkFoldsModel", name := "light", desc := "(II)I" } : Jvm.MethodName)) ∈ zTw := zTw_mem (List.mem_of_getElem? (i := 1568) (by decide +kernel)) rfl
theorem zwd1569 : (Jvm.Cond.selects "InkFoldsModel" ({ cls := "InkFoldsModel", name := "light", desc := "(II)I" } : Jvm.MethodName) ({ cls := "InkFoldsModel", name := "light", desc := "(II)I" } : Jvm.MethodName)) ∈ zTw := zTw_mem (List.mem_of_getElem? (i := 1569) (by decide +kernel)) rfl
theorem zwd1585 : (Jvm.Cond.methodLink "InkFoldsLaw" (64 : Nat) ({ cls := "InkFoldsModel", name := "bent", desc := "(II)I" } : Jvm.MethodName)) ∈ zTw := zTw_mem (List.mem_of_getElem? (i := 1585) (by decide +kernel)) rfl
theorem zwd1586 : (Jvm.Cond.instanceMethod ({ cls := "InkFoldsModel", name := "bent", desc := "(II)I" } : Jvm.MethodName)) ∈ zTw := zTw_mem (List.mem_of_getElem? (i := 1586) (by decide +kernel)) rfl
theorem zwd1587 : (Jvm.Cond.selects "InkFoldsModel" ({ cls := "InkFoldsModel", name := "bent", desc := "(II)I" } : Jvm.MethodName) ({ cls := "InkFoldsModel", name := "bent", desc := "(II)I" } : Jvm.MethodName)) ∈ zTw := zTw_mem (List.mem_of_getElem? (i := 1587) (by decide +kernel)) rfl
theorem zwd1589 : (Jvm.Cond.methodLink "InkFoldsLaw" (69 : Nat) ({ cls := "InkFoldsModel", name := "sheet", desc := "(IIII)I" } : Jvm.MethodName)) ∈ zTw := zTw_mem (List.mem_of_getElem? (i := 1589) (by decide +kernel)) rfl
theorem zwd1590 : (Jvm.Cond.instanceMethod ({ cls := "InkFoldsModel", name := "sheet", desc := "(IIII)I" } : Jvm.MethodName)) ∈ zTw := zTw_mem (List.mem_of_getElem? (i := 1590) (by decide +kernel)) rfl
theorem zwd1591 : (Jvm.Cond.selects "InkFoldsModel" ({ cls := "InkFoldsModel", name := "sheet", desc := "(IIII)I" } : Jvm.MethodName) ({ cls := "InkFoldsModel", name := "sheet", desc := "(IIII)I" } : Jvm.MethodName)) ∈ zTw := zTw_mem (List.mem_of_getElem? (i := 1591) (by decide +kernel)) rfl
theorem zwd1596 : (Jvm.Cond.methodLink "InkFoldsLaw" (97 : Nat) ({ cls := "InkFoldsModel", name := "colour", desc := "(I)I" } : Jvm.MethodName)) ∈ zTw := zTw_mem (List.mem_of_getElem? (i := 1596) (by decide +kernel)) rfl
theorem zwd1597 : (Jvm.Cond.instanceMethod ({ cls := "InkFoldsModel", name := "colour", desc := "(I)I" } : Jvm.MethodName)) ∈ zTw := zTw_mem (List.mem_of_getElem? (i := 1597) (by decide +kernel)) rfl
theorem zwd1598 : (Jvm.Cond.selects "InkFoldsModel" ({ cls := "InkFoldsModel", name := "colour", desc := "(I)I" } : Jvm.MethodName) ({ cls := "InkFoldsModel", name := "colour", desc := "(I)I" } : Jvm.MethodName)) ∈ zTw := zTw_mem (List.mem_of_getElem? (i := 1598) (by decide +kernel)) rfl
theorem zwd1625 : (Jvm.Cond.methodLink "InkFoldsLaw" (101 : Nat) ({ cls := "InkFoldsModel", name := "limited", desc := "(II)I" } : Jvm.MethodName)) ∈ zTw := zTw_mem (List.mem_of_getElem? (i := 1625) (by decide +kernel)) rfl
theorem zwd1626 : (Jvm.Cond.instanceMethod ({ cls := "InkFoldsModel", name := "limited", desc := "(II)I" } : Jvm.MethodName)) ∈ zTw := zTw_mem (List.mem_of_getElem? (i := 1626) (by decide +kernel)) rfl
theorem zwd1627 : (Jvm.Cond.selects "InkFoldsModel" ({ cls := "InkFoldsModel", name := "limited", desc := "(II)I" } : Jvm.MethodName) ({ cls := "InkFoldsModel", name := "limited", desc := "(II)I" } : Jvm.MethodName)) ∈ zTw := zTw_mem (List.mem_of_getElem? (i := 1627) (by decide +kernel)) rfl
theorem zwd1641 : (Jvm.Cond.methodLink "InkFoldsLaw" (106 : Nat) ({ cls := "InkFoldsModel", name := "match", desc := "(III)I" } : Jvm.MethodName)) ∈ zTw := zTw_mem (List.mem_of_getElem? (i := 1641) (by decide +kernel)) rfl
theorem zwd1642 : (Jvm.Cond.instanceMethod ({ cls := "InkFoldsModel", name := "match", desc := "(III)I" } : Jvm.MethodName)) ∈ zTw := zTw_mem (List.mem_of_getElem? (i := 1642) (by decide +kernel)) rfl
theorem zwd1643 : (Jvm.Cond.selects "InkFoldsModel" ({ cls := "InkFoldsModel", name := "match", desc := "(III)I" } : Jvm.MethodName) ({ cls := "InkFoldsModel", name := "match", desc := "(III)I" } : Jvm.MethodName)) ∈ zTw := zTw_mem (List.mem_of_getElem? (i := 1643) (by decide +kernel)) rfl
theorem zwd1679 : (Jvm.Cond.methodLink "InkFoldsLaw" (110 : Nat) ({ cls := "InkFoldsModel", name := "fold", desc := "(III)I" } : Jvm.MethodName)) ∈ zTw := zTw_mem (List.mem_of_getElem? (i := 1679) (by decide +kernel)) rfl
theorem zwd1680 : (Jvm.Cond.instanceMethod ({ cls := "InkFoldsModel", name := "fold", desc := "(III)I" } : Jvm.MethodName)) ∈ zTw := zTw_mem (List.mem_of_getElem? (i := 1680) (by decide +kernel)) rfl
theorem zwd1681 : (Jvm.Cond.selects "InkFoldsModel" ({ cls := "InkFoldsModel", name := "fold", desc := "(III)I" } : Jvm.MethodName) ({ cls := "InkFoldsModel", name := "fold", desc := "(III)I" } : Jvm.MethodName)) ∈ zTw := zTw_mem (List.mem_of_getElem? (i := 1681) (by decide +kernel)) rfl
theorem zwd1691 : (Jvm.Cond.methodLink "InkFoldsLaw" (114 : Nat) ({ cls := "InkFoldsModel", name := "prints", desc := "(III)I" } : Jvm.MethodName)) ∈ zTw := zTw_mem (List.mem_of_getElem? (i := 1691) (by decide +kernel)) rfl
theorem zwd1692 : (Jvm.Cond.instanceMethod ({ cls := "InkFoldsModel", name := "prints", desc := "(III)I" } : Jvm.MethodName)) ∈ zTw := zTw_mem (List.mem_of_getElem? (i := 1692) (by decide +kernel)) rfl
theorem zwd1693 : (Jvm.Cond.selects "InkFoldsModel" ({ cls := "InkFoldsModel", name := "prints", desc := "(III)I" } : Jvm.MethodName) ({ cls := "InkFoldsModel", name := "prints", desc := "(III)I" } : Jvm.MethodName)) ∈ zTw := zTw_mem (List.mem_of_getElem? (i := 1693) (by decide +kernel)) rfl
theorem zwd1726 : (Jvm.Cond.methodLink "InkFoldsLaw" (142 : Nat) ({ cls := "InkFoldsModel", name := "through", desc := "(I)I" } : Jvm.MethodName)) ∈ zTw := zTw_mem (List.mem_of_getElem? (i := 1726) (by decide +kernel)) rfl
theorem zwd1727 : (Jvm.Cond.instanceMethod ({ cls := "InkFoldsModel", name := "through", desc := "(I)I" } : Jvm.MethodName)) ∈ zTw := zTw_mem (List.mem_of_getElem? (i := 1727) (by decide +kernel)) rfl
theorem zwd1728 : (Jvm.Cond.selects "InkFoldsModel" ({ cls := "InkFoldsModel", name := "through", desc := "(I)I" } : Jvm.MethodName) ({ cls := "InkFoldsModel", name := "through", desc := "(I)I" } : Jvm.MethodName)) ∈ zTw := zTw_mem (List.mem_of_getElem? (i := 1728) (by decide +kernel)) rfl
theorem zwd1730 : (Jvm.Cond.methodLink "InkFoldsLaw" (146 : Nat) ({ cls := "InkFoldsModel", name := "sources", desc := "(I)I" } : Jvm.MethodName)) ∈ zTw := zTw_mem (List.mem_of_getElem? (i := 1730) (by decide +kernel)) rfl
theorem zwd1731 : (Jvm.Cond.instanceMethod ({ cls := "InkFoldsModel", name := "sources", desc := "(I)I" } : Jvm.MethodName)) ∈ zTw := zTw_mem (List.mem_of_getElem? (i := 1731) (by decide +kernel)) rfl
theorem zwd1732 : (Jvm.Cond.selects "InkFoldsModel" ({ cls := "InkFoldsModel", name := "sources", desc := "(I)I" } : Jvm.MethodName) ({ cls := "InkFoldsModel", name := "sources", desc := "(I)I" } : Jvm.MethodName)) ∈ zTw := zTw_mem (List.mem_of_getElem? (i := 1732) (by decide +kernel)) rfl
theorem zwd1734 : (Jvm.Cond.methodLink "InkFoldsLaw" (150 : Nat) ({ cls := "InkFoldsModel", name := "rounds", desc := "(I)I" } : Jvm.MethodName)) ∈ zTw := zTw_mem (List.mem_of_getElem? (i := 1734) (by decide +kernel)) rfl
theorem zwd1735 : (Jvm.Cond.instanceMethod ({ cls := "InkFoldsModel", name := "rounds", desc := "(I)I" } : Jvm.MethodName)) ∈ zTw := zTw_mem (List.mem_of_getElem? (i := 1735) (by decide +kernel)) rfl
theorem zwd1736 : (Jvm.Cond.selects "InkFoldsModel" ({ cls := "InkFoldsModel", name := "rounds", desc := "(I)I" } : Jvm.MethodName) ({ cls := "InkFoldsModel", name := "rounds", desc := "(I)I" } : Jvm.MethodName)) ∈ zTw := zTw_mem (List.mem_of_getElem? (i := 1736) (by decide +kernel)) rfl
theorem zwd1738 : (Jvm.Cond.methodLink "InkFoldsLaw" (118 : Nat) ({ cls := "InkFoldsModel", name := "ramp", desc := "(II)I" } : Jvm.MethodName)) ∈ zTw := zTw_mem (List.mem_of_getElem? (i := 1738) (by decide +kernel)) rfl
theorem zwd1739 : (Jvm.Cond.instanceMethod ({ cls := "InkFoldsModel", name := "ramp", desc := "(II)I" } : Jvm.MethodName)) ∈ zTw := zTw_mem (List.mem_of_getElem? (i := 1739) (by decide +kernel)) rfl
theorem zwd1740 : (Jvm.Cond.selects "InkFoldsModel" ({ cls := "InkFoldsModel", name := "ramp", desc := "(II)I" } : Jvm.MethodName) ({ cls := "InkFoldsModel", name := "ramp", desc := "(II)I" } : Jvm.MethodName)) ∈ zTw := zTw_mem (List.mem_of_getElem? (i := 1740) (by decide +kernel)) rfl
theorem zwd1742 : (Jvm.Cond.methodLink "InkFoldsLaw" (122 : Nat) ({ cls := "InkFoldsModel", name := "way", desc := "(III)I" } : Jvm.MethodName)) ∈ zTw := zTw_mem (List.mem_of_getElem? (i := 1742) (by decide +kernel)) rfl
theorem zwd1743 : (Jvm.Cond.instanceMethod ({ cls := "InkFoldsModel", name := "way", desc := "(III)I" } : Jvm.MethodName)) ∈ zTw := zTw_mem (List.mem_of_getElem? (i := 1743) (by decide +kernel)) rfl
theorem zwd1744 : (Jvm.Cond.selects "InkFoldsModel" ({ cls := "InkFoldsModel", name := "way", desc := "(III)I" } : Jvm.MethodName) ({ cls := "InkFoldsModel", name := "way", desc := "(III)I" } : Jvm.MethodName)) ∈ zTw := zTw_mem (List.mem_of_getElem? (i := 1744) (by decide +kernel)) rfl
theorem zwd1757 : (Jvm.Cond.methodLink "InkFoldsLaw" (126 : Nat) ({ cls := "InkFoldsModel", name := "rises", desc := "(I)I" } : Jvm.MethodName)) ∈ zTw := zTw_mem (List.mem_of_getElem? (i := 1757) (by decide +kernel)) rfl
theorem zwd1758 : (Jvm.Cond.instanceMethod ({ cls := "InkFoldsModel", name := "rises", desc := "(I)I" } : Jvm.MethodName)) ∈ zTw := zTw_mem (List.mem_of_getElem? (i := 1758) (by decide +kernel)) rfl
theorem zwd1759 : (Jvm.Cond.selects "InkFoldsModel" ({ cls := "InkFoldsModel", name := "rises", desc := "(I)I" } : Jvm.MethodName) ({ cls := "InkFoldsModel", name := "rises", desc := "(I)I" } : Jvm.MethodName)) ∈ zTw := zTw_mem (List.mem_of_getElem? (i := 1759) (by decide +kernel)) rfl
theorem zwd1765 : (Jvm.Cond.methodLink "InkFoldsLaw" (130 : Nat) ({ cls := "InkFoldsModel", name := "reach", desc := "(I)I" } : Jvm.MethodName)) ∈ zTw := zTw_mem (List.mem_of_getElem? (i := 1765) (by decide +kernel)) rfl
theorem zwd1766 : (Jvm.Cond.instanceMethod ({ cls := "InkFoldsModel", name := "reach", desc := "(I)I" } : Jvm.MethodName)) ∈ zTw := zTw_mem (List.mem_of_getElem? (i := 1766) (by decide +kernel)) rfl
theorem zwd1767 : (Jvm.Cond.selects "InkFoldsModel" ({ cls := "InkFoldsModel", name := "reach", desc := "(I)I" } : Jvm.MethodName) ({ cls := "InkFoldsModel", name := "reach", desc := "(I)I" } : Jvm.MethodName)) ∈ zTw := zTw_mem (List.mem_of_getElem? (i := 1767) (by decide +kernel)) rfl
theorem zwd1769 : (Jvm.Cond.methodLink "InkFoldsLaw" (134 : Nat) ({ cls := "InkFoldsModel", name := "spread", desc := "()I" } : Jvm.MethodName)) ∈ zTw := zTw_mem (List.mem_of_getElem? (i := 1769) (by decide +kernel)) rfl
theorem zwd1770 : (Jvm.Cond.instanceMethod ({ cls := "InkFoldsModel", name := "spread", desc := "()I" } : Jvm.MethodName)) ∈ zTw := zTw_mem (List.mem_of_getElem? (i := 1770) (by decide +kernel)) rfl
theorem zwd1771 : (Jvm.Cond.selects "InkFoldsModel" ({ cls := "InkFoldsModel", name := "spread", desc := "()I" } : Jvm.MethodName) ({ cls := "InkFoldsModel", name := "spread", desc := "()I" } : Jvm.MethodName)) ∈ zTw := zTw_mem (List.mem_of_getElem? (i := 1771) (by decide +kernel)) rfl
theorem zwd1779 : (Jvm.Cond.methodLink "InkFoldsLaw" (138 : Nat) ({ cls := "InkFoldsModel", name := "odds", desc := "(IIII)I" } : Jvm.MethodName)) ∈ zTw := zTw_mem (List.mem_of_getElem? (i := 1779) (by decide +kernel)) rfl
theorem zwd1780 : (Jvm.Cond.instanceMethod ({ cls := "InkFoldsModel", name := "odds", desc := "(IIII)I" } : Jvm.MethodName)) ∈ zTw := zTw_mem (List.mem_of_getElem? (i := 1780) (by decide +kernel)) rfl
theorem zwd1781 : (Jvm.Cond.selects "InkFoldsModel" ({ cls := "InkFoldsModel", name := "odds", desc := "(IIII)I" } : Jvm.MethodName) ({ cls := "InkFoldsModel", name := "odds", desc := "(IIII)I" } : Jvm.MethodName)) ∈ zTw := zTw_mem (List.mem_of_getElem? (i := 1781) (by decide +kernel)) rfl
theorem zwd1786 : (Jvm.Cond.methodLink "InkFoldsLaw" (154 : Nat) ({ cls := "InkFoldsModel", name := "press", desc := "(I)I" } : Jvm.MethodName)) ∈ zTw := zTw_mem (List.mem_of_getElem? (i := 1786) (by decide +kernel)) rfl
theorem zwd1787 : (Jvm.Cond.instanceMethod ({ cls := "InkFoldsModel", name := "press", desc := "(I)I" } : Jvm.MethodName)) ∈ zTw := zTw_mem (List.mem_of_getElem? (i := 1787) (by decide +kernel)) rfl
theorem zwd1788 : (Jvm.Cond.selects "InkFoldsModel" ({ cls := "InkFoldsModel", name := "press", desc := "(I)I" } : Jvm.MethodName) ({ cls := "InkFoldsModel", name := "press", desc := "(I)I" } : Jvm.MethodName)) ∈ zTw := zTw_mem (List.mem_of_getElem? (i := 1788) (by decide +kernel)) rfl
theorem zwd1805 : (Jvm.Cond.methodLink "InkFoldsLaw" (158 : Nat) ({ cls := "InkFoldsModel", name := "cell", desc := "(II)I" } : Jvm.MethodName)) ∈ zTw := zTw_mem (List.mem_of_getElem? (i := 1805) (by decide +kernel)) rfl
theorem zwd1806 : (Jvm.Cond.instanceMethod ({ cls := "InkFoldsModel", name := "cell", desc := "(II)I" } : Jvm.MethodName)) ∈ zTw := zTw_mem (List.mem_of_getElem? (i := 1806) (by decide +kernel)) rfl
theorem zwd1807 : (Jvm.Cond.selects "InkFoldsModel" ({ cls := "InkFoldsModel", name := "cell", desc := "(II)I" } : Jvm.MethodName) ({ cls := "InkFoldsModel", name := "cell", desc := "(II)I" } : Jvm.MethodName)) ∈ zTw := zTw_mem (List.mem_of_getElem? (i := 1807) (by decide +kernel)) rfl
theorem zwd1809 : (Jvm.Cond.methodLink "InkFoldsLaw" (162 : Nat) ({ cls := "InkFoldsModel", name := "slips", desc := "(III)I" } : Jvm.MethodName)) ∈ zTw := zTw_mem (List.mem_of_getElem? (i := 1809) (by decide +kernel)) rfl
theorem zwd1810 : (Jvm.Cond.instanceMethod ({ cls := "InkFoldsModel", name := "slips", desc := "(III)I" } : Jvm.MethodName)) ∈ zTw := zTw_mem (List.mem_of_getElem? (i := 1810) (by decide +kernel)) rfl
theorem zwd1811 : (Jvm.Cond.selects "InkFoldsModel" ({ cls := "InkFoldsModel", name := "slips", desc := "(III)I" } : Jvm.MethodName) ({ cls := "InkFoldsModel", name := "slips", desc := "(III)I" } : Jvm.MethodName)) ∈ zTw := zTw_mem (List.mem_of_getElem? (i := 1811) (by decide +kernel)) rfl
theorem zwd1813 : (Jvm.Cond.methodLink "InkFoldsLaw" (166 : Nat) ({ cls := "InkFoldsModel", name := "greys", desc := "(II)I" } : Jvm.MethodName)) ∈ zTw := zTw_mem (List.mem_of_getElem? (i := 1813) (by decide +kernel)) rfl
theorem zwd1814 : (Jvm.Cond.instanceMethod ({ cls := "InkFoldsModel", name := "greys", desc := "(II)I" } : Jvm.MethodName)) ∈ zTw := zTw_mem (List.mem_of_getElem? (i := 1814) (by decide +kernel)) rfl
theorem zwd1815 : (Jvm.Cond.selects "InkFoldsModel" ({ cls := "InkFoldsModel", name := "greys", desc := "(II)I" } : Jvm.MethodName) ({ cls := "InkFoldsModel", name := "greys", desc := "(II)I" } : Jvm.MethodName)) ∈ zTw := zTw_mem (List.mem_of_getElem? (i := 1815) (by decide +kernel)) rfl
theorem zwd1825 : (Jvm.Cond.methodLink "InkFoldsLaw" (170 : Nat) ({ cls := "InkFoldsModel", name := "replaces", desc := "(III)I" } : Jvm.MethodName)) ∈ zTw := zTw_mem (List.mem_of_getElem? (i := 1825) (by decide +kernel)) rfl
theorem zwd1826 : (Jvm.Cond.instanceMethod ({ cls := "InkFoldsModel", name := "replaces", desc := "(III)I" } : Jvm.MethodName)) ∈ zTw := zTw_mem (List.mem_of_getElem? (i := 1826) (by decide +kernel)) rfl
theorem zwd1827 : (Jvm.Cond.selects "InkFoldsModel" ({ cls := "InkFoldsModel", name := "replaces", desc := "(III)I" } : Jvm.MethodName) ({ cls := "InkFoldsModel", name := "replaces", desc := "(III)I" } : Jvm.MethodName)) ∈ zTw := zTw_mem (List.mem_of_getElem? (i := 1827) (by decide +kernel)) rfl
theorem zwd1832 : (Jvm.Cond.methodLink "InkFoldsLaw" (174 : Nat) ({ cls := "InkFoldsModel", name := "doubt", desc := "()I" } : Jvm.MethodName)) ∈ zTw := zTw_mem (List.mem_of_getElem? (i := 1832) (by decide +kernel)) rfl
theorem zwd1833 : (Jvm.Cond.instanceMethod ({ cls := "InkFoldsModel", name := "doubt", desc := "()I" } : Jvm.MethodName)) ∈ zTw := zTw_mem (List.mem_of_getElem? (i := 1833) (by decide +kernel)) rfl
theorem zwd1834 : (Jvm.Cond.selects "InkFoldsModel" ({ cls := "InkFoldsModel", name := "doubt", desc := "()I" } : Jvm.MethodName) ({ cls := "InkFoldsModel", name := "doubt", desc := "()I" } : Jvm.MethodName)) ∈ zTw := zTw_mem (List.mem_of_getElem? (i := 1834) (by decide +kernel)) rfl
theorem zwd1836 : (Jvm.Cond.methodLink "InkFoldsLaw" (178 : Nat) ({ cls := "InkFoldsModel", name := "asks", desc := "()I" } : Jvm.MethodName)) ∈ zTw := zTw_mem (List.mem_of_getElem? (i := 1836) (by decide +kernel)) rfl
theorem zwd1837 : (Jvm.Cond.instanceMethod ({ cls := "InkFoldsModel", name := "asks", desc := "()I" } : Jvm.MethodName)) ∈ zTw := zTw_mem (List.mem_of_getElem? (i := 1837) (by decide +kernel)) rfl
theorem zwd1838 : (Jvm.Cond.selects "InkFoldsModel" ({ cls := "InkFoldsModel", name := "asks", desc := "()I" } : Jvm.MethodName) ({ cls := "InkFoldsModel", name := "asks", desc := "()I" } : Jvm.MethodName)) ∈ zTw := zTw_mem (List.mem_of_getElem? (i := 1838) (by decide +kernel)) rfl
theorem zwd1840 : (Jvm.Cond.methodLink "InkFoldsLaw" (182 : Nat) ({ cls := "InkFoldsModel", name := "other", desc := "(I)I" } : Jvm.MethodName)) ∈ zTw := zTw_mem (List.mem_of_getElem? (i := 1840) (by decide +kernel)) rfl
theorem zwd1841 : (Jvm.Cond.instanceMethod ({ cls := "InkFoldsModel", name := "other", desc := "(I)I" } : Jvm.MethodName)) ∈ zTw := zTw_mem (List.mem_of_getElem? (i := 1841) (by decide +kernel)) rfl
theorem zwd1842 : (Jvm.Cond.selects "InkFoldsModel" ({ cls := "InkFoldsModel", name := "other", desc := "(I)I" } : Jvm.MethodName) ({ cls := "InkFoldsModel", name := "other", desc := "(I)I" } : Jvm.MethodName)) ∈ zTw := zTw_mem (List.mem_of_getElem? (i := 1842) (by decide +kernel)) rfl
theorem zwd1848 : (Jvm.Cond.methodLink "InkFoldsLaw" (186 : Nat) ({ cls := "InkFoldsModel", name := "carry", desc := "(II)I" } : Jvm.MethodName)) ∈ zTw := zTw_mem (List.mem_of_getElem? (i := 1848) (by decide +kernel)) rfl
theorem zwd1849 : (Jvm.Cond.instanceMethod ({ cls := "InkFoldsModel", name := "carry", desc := "(II)I" } : Jvm.MethodName)) ∈ zTw := zTw_mem (List.mem_of_getElem? (i := 1849) (by decide +kernel)) rfl
theorem zwd1850 : (Jvm.Cond.selects "InkFoldsModel" ({ cls := "InkFoldsModel", name := "carry", desc := "(II)I" } : Jvm.MethodName) ({ cls := "InkFoldsModel", name := "carry", desc := "(II)I" } : Jvm.MethodName)) ∈ zTw := zTw_mem (List.mem_of_getElem? (i := 1850) (by decide +kernel)) rfl
theorem zwd1852 : (Jvm.Cond.methodLink "InkFoldsLaw" (190 : Nat) ({ cls := "InkFoldsModel", name := "drifts", desc := "(II)I" } : Jvm.MethodName)) ∈ zTw := zTw_mem (List.mem_of_getElem? (i := 1852) (by decide +kernel)) rfl
theorem zwd1853 : (Jvm.Cond.instanceMethod ({ cls := "InkFoldsModel", name := "drifts", desc := "(II)I" } : Jvm.MethodName)) ∈ zTw := zTw_mem (List.mem_of_getElem? (i := 1853) (by decide +kernel)) rfl
theorem zwd1854 : (Jvm.Cond.selects "InkFoldsModel" ({ cls := "InkFoldsModel", name := "drifts", desc := "(II)I" } : Jvm.MethodName) ({ cls := "InkFoldsModel", name := "drifts", desc := "(II)I" } : Jvm.MethodName)) ∈ zTw := zTw_mem (List.mem_of_getElem? (i := 1854) (by decide +kernel)) rfl
theorem zwd1861 : (Jvm.Cond.methodLink "InkFoldsLaw" (73 : Nat) ({ cls := "InkFoldsModel", name := "measure", desc := "(IIII)I" } : Jvm.MethodName)) ∈ zTw := zTw_mem (List.mem_of_getElem? (i := 1861) (by decide +kernel)) rfl
theorem zwd1862 : (Jvm.Cond.instanceMethod ({ cls := "InkFoldsModel", name := "measure", desc := "(IIII)I" } : Jvm.MethodName)) ∈ zTw := zTw_mem (List.mem_of_getElem? (i := 1862) (by decide +kernel)) rfl
theorem zwd1863 : (Jvm.Cond.selects "InkFoldsModel" ({ cls := "InkFoldsModel", name := "measure", desc := "(IIII)I" } : Jvm.MethodName) ({ cls := "InkFoldsModel", name := "measure", desc := "(IIII)I" } : Jvm.MethodName)) ∈ zTw := zTw_mem (List.mem_of_getElem? (i := 1863) (by decide +kernel)) rfl
theorem zwd1869 : (Jvm.Cond.methodLink "InkFoldsLaw" (77 : Nat) ({ cls := "InkFoldsModel", name := "forgets", desc := "(I)I" } : Jvm.MethodName)) ∈ zTw := zTw_mem (List.mem_of_getElem? (i := 1869) (by decide +kernel)) rfl
theorem zwd1870 : (Jvm.Cond.instanceMethod ({ cls := "InkFoldsModel", name := "forgets", desc := "(I)I" } : Jvm.MethodName)) ∈ zTw := zTw_mem (List.mem_of_getElem? (i := 1870) (by decide +kernel)) rfl
theorem zwd1871 : (Jvm.Cond.selects "InkFoldsModel" ({ cls := "InkFoldsModel", name := "forgets", desc := "(I)I" } : Jvm.MethodName) ({ cls := "InkFoldsModel", name := "forgets", desc := "(I)I" } : Jvm.MethodName)) ∈ zTw := zTw_mem (List.mem_of_getElem? (i := 1871) (by decide +kernel)) rfl
theorem zwd1873 : (Jvm.Cond.methodLink "InkFoldsLaw" (81 : Nat) ({ cls := "InkFoldsModel", name := "sets", desc := "(II)I" } : Jvm.MethodName)) ∈ zTw := zTw_mem (List.mem_of_getElem? (i := 1873) (by decide +kernel)) rfl
theorem zwd1874 : (Jvm.Cond.instanceMethod ({ cls := "InkFoldsModel", name := "sets", desc := "(II)I" } : Jvm.MethodName)) ∈ zTw := zTw_mem (List.mem_of_getElem? (i := 1874) (by decide +kernel)) rfl
theorem zwd1875 : (Jvm.Cond.selects "InkFoldsModel" ({ cls := "InkFoldsModel", name := "sets", desc := "(II)I" } : Jvm.MethodName) ({ cls := "InkFoldsModel", name := "sets", desc := "(II)I" } : Jvm.MethodName)) ∈ zTw := zTw_mem (List.mem_of_getElem? (i := 1875) (by decide +kernel)) rfl
theorem zwd1885 : (Jvm.Cond.methodLink "InkFoldsLaw" (85 : Nat) ({ cls := "InkFoldsModel", name := "paints", desc := "(IIII)I" } : Jvm.MethodName)) ∈ zTw := zTw_mem (List.mem_of_getElem? (i := 1885) (by decide +kernel)) rfl
theorem zwd1886 : (Jvm.Cond.instanceMethod ({ cls := "InkFoldsModel", name := "paints", desc := "(IIII)I" } : Jvm.MethodName)) ∈ zTw := zTw_mem (List.mem_of_getElem? (i := 1886) (by decide +kernel)) rfl
theorem zwd1887 : (Jvm.Cond.selects "InkFoldsModel" ({ cls := "InkFoldsModel", name := "paints", desc := "(IIII)I" } : Jvm.MethodName) ({ cls := "InkFoldsModel", name := "paints", desc := "(IIII)I" } : Jvm.MethodName)) ∈ zTw := zTw_mem (List.mem_of_getElem? (i := 1887) (by decide +kernel)) rfl
theorem zwd1893 : (Jvm.Cond.methodLink "InkFoldsLaw" (89 : Nat) ({ cls := "InkFoldsModel", name := "day", desc := "()I" } : Jvm.MethodName)) ∈ zTw := zTw_mem (List.mem_of_getElem? (i := 1893) (by decide +kernel)) rfl
theorem zwd1894 : (Jvm.Cond.instanceMethod ({ cls := "InkFoldsModel", name := "day", desc := "()I" } : Jvm.MethodName)) ∈ zTw := zTw_mem (List.mem_of_getElem? (i := 1894) (by decide +kernel)) rfl
theorem zwd1895 : (Jvm.Cond.selects "InkFoldsModel" ({ cls := "InkFoldsModel", name := "day", desc := "()I" } : Jvm.MethodName) ({ cls := "InkFoldsModel", name := "day", desc := "()I" } : Jvm.MethodName)) ∈ zTw := zTw_mem (List.mem_of_getElem? (i := 1895) (by decide +kernel)) rfl
theorem zwd1909 : (Jvm.Cond.methodLink "InkFoldsLaw" (93 : Nat) ({ cls := "InkFoldsModel", name := "undo", desc := "()I" } : Jvm.MethodName)) ∈ zTw := zTw_mem (List.mem_of_getElem? (i := 1909) (by decide +kernel)) rfl
theorem zwd1910 : (Jvm.Cond.instanceMethod ({ cls := "InkFoldsModel", name := "undo", desc := "()I" } : Jvm.MethodName)) ∈ zTw := zTw_mem (List.mem_of_getElem? (i := 1910) (by decide +kernel)) rfl
theorem zwd1911 : (Jvm.Cond.selects "InkFoldsModel" ({ cls := "InkFoldsModel", name := "undo", desc := "()I" } : Jvm.MethodName) ({ cls := "InkFoldsModel", name := "undo", desc := "()I" } : Jvm.MethodName)) ∈ zTw := zTw_mem (List.mem_of_getElem? (i := 1911) (by decide +kernel)) rfl
theorem zwd1913 : (Jvm.Cond.methodLink "InkFoldsLaw" (194 : Nat) ({ cls := "InkFoldsModel", name := "keep", desc := "(I)Z" } : Jvm.MethodName)) ∈ zTw := zTw_mem (List.mem_of_getElem? (i := 1913) (by decide +kernel)) rfl
theorem zwd1914 : (Jvm.Cond.instanceMethod ({ cls := "InkFoldsModel", name := "keep", desc := "(I)Z" } : Jvm.MethodName)) ∈ zTw := zTw_mem (List.mem_of_getElem? (i := 1914) (by decide +kernel)) rfl
theorem zwd1915 : (Jvm.Cond.selects "InkFoldsModel" ({ cls := "InkFoldsModel", name := "keep", desc := "(I)Z" } : Jvm.MethodName) ({ cls := "InkFoldsModel", name := "keep", desc := "(I)Z" } : Jvm.MethodName)) ∈ zTw := zTw_mem (List.mem_of_getElem? (i := 1915) (by decide +kernel)) rfl
theorem zwd1917 : (Jvm.Cond.methodLink "InkFoldsLaw" (198 : Nat) ({ cls := "InkFoldsModel", name := "again", desc := "(I)Z" } : Jvm.MethodName)) ∈ zTw := zTw_mem (List.mem_of_getElem? (i := 1917) (by decide +kernel)) rfl
theorem zwd1918 : (Jvm.Cond.instanceMethod ({ cls := "InkFoldsModel", name := "again", desc := "(I)Z" } : Jvm.MethodName)) ∈ zTw := zTw_mem (List.mem_of_getElem? (i := 1918) (by decide +kernel)) rfl
theorem zwd1919 : (Jvm.Cond.selects "InkFoldsModel" ({ cls := "InkFoldsModel", name := "again", desc := "(I)Z" } : Jvm.MethodName) ({ cls := "InkFoldsModel", name := "again", desc := "(I)Z" } : Jvm.MethodName)) ∈ zTw := zTw_mem (List.mem_of_getElem? (i := 1919) (by decide +kernel)) rfl
theorem zwd1921 : (Jvm.Cond.methodLink "InkFoldsLaw" (202 : Nat) ({ cls := "InkFoldsModel", name := "count", desc := "(I)I" } : Jvm.MethodName)) ∈ zTw := zTw_mem (List.mem_of_getElem? (i := 1921) (by decide +kernel)) rfl
theorem zwd1922 : (Jvm.Cond.instanceMethod ({ cls := "InkFoldsModel", name := "count", desc := "(I)I" } : Jvm.MethodName)) ∈ zTw := zTw_mem (List.mem_of_getElem? (i := 1922) (by decide +kernel)) rfl
theorem zwd1923 : (Jvm.Cond.selects "InkFoldsModel" ({ cls := "InkFoldsModel", name := "count", desc := "(I)I" } : Jvm.MethodName) ({ cls := "InkFoldsModel", name := "count", desc := "(I)I" } : Jvm.MethodName)) ∈ zTw := zTw_mem (List.mem_of_getElem? (i := 1923) (by decide +kernel)) rfl
theorem zwd1925 : (Jvm.Cond.methodLink "InkFoldsLaw" (206 : Nat) ({ cls := "InkFoldsModel", name := "row", desc := "(I)J" } : Jvm.MethodName)) ∈ zTw := zTw_mem (List.mem_of_getElem? (i := 1925) (by decide +kernel)) rfl
theorem zwd1926 : (Jvm.Cond.instanceMethod ({ cls := "InkFoldsModel", name := "row", desc := "(I)J" } : Jvm.MethodName)) ∈ zTw := zTw_mem (List.mem_of_getElem? (i := 1926) (by decide +kernel)) rfl
theorem zwd1927 : (Jvm.Cond.selects "InkFoldsModel" ({ cls := "InkFoldsModel", name := "row", desc := "(I)J" } : Jvm.MethodName) ({ cls := "InkFoldsModel", name := "row", desc := "(I)J" } : Jvm.MethodName)) ∈ zTw := zTw_mem (List.mem_of_getElem? (i := 1927) (by decide +kernel)) rfl
section
variable {G : zG} {J : zG → Nat → zS → Prop}
theorem rL_sign (C : zJL G J) {i : Int} {μ : zM} {cn un : Nat} {l5 l6 l7 : Option zV} (hi : 0 ≤ i ∧ i + 4 < ((zst G 40).1 : Int)) (hn : (zst G 40).1 < 2147483648) (hb : cn + 43 ≤ 601024 ∧ un + 253 ≤ 7293034)
    (h : qX10_sign G (zsv G (i + 1)) μ (fun v1 μ1 => qX11_sign G (zsv G (i + 1)) μ1 (fun v2 μ2 => v1 = v2 ∧ J G 1691 (zLl i l5 l6 l7, [], μ2, cn, un)))) : J G 224 (zLl i l5 l6 l7, [], μ, cn, un) := by
  obtain ⟨p, e, s, m, below, meth, c, args, Q, A, hX, rfl⟩ := C
  refine s_aload_n A dL_law_224 rfl ?_
  refine s_aload_nT A dL_law_225 rfl ?_
  refine s_iload A dL_law_226 rfl ?_
  refine s_iconst A dL_law_228 ?_
  refine s_iadd A dL_law_229 ?_
  refine z_tald A dL_law_230 (Or.inr rfl) hn ⟨by omega, by omega⟩ ?_
  refine s_callV (a := 0) (k := 10) (N := 15) (sl := true) (M := mX10_sign) (n := 1) (d := 2) (mc := 0) (ms := 0) (av := [zI _]) (st := []) A dL_law_231 rfl (by decide) (zk_0 _) zwd385 zwd386 zwd387 zwd90 zcd_X10_sign (Nat.le_of_ble_eq_true rfl) (Nat.le_of_ble_eq_true rfl) (Nat.le_of_ble_eq_true rfl) ⟨by show _ ≤ 601024; omega, by show _ ≤ 7293034; omega⟩ ⟨rfl, zhn_X10_sign⟩ rfl (Nat.le_of_ble_eq_true rfl) rfl (z_contI (fun v1 μ1 h => ?_) h)
  refine s_aload_n A dL_law_234 rfl ?_
  refine s_aload_nT A dL_law_235 rfl ?_
  refine s_iload A dL_law_236 rfl ?_
  refine s_iconst A dL_law_238 ?_
  refine s_iadd A dL_law_239 ?_
  refine z_tald A dL_law_240 (Or.inr rfl) hn ⟨by omega, by omega⟩ ?_
  refine s_callV (a := 153) (k := 11) (N := 45) (sl := true) (M := mX11_sign) (n := 1) (d := 0) (mc := 0) (ms := 0) (av := [zI _]) (st := [zI v1]) A dL_law_241 rfl (by decide) (zk_153 _) zwd1453 zwd1454 zwd1455 zwd101 zcd_X11_sign (Nat.le_of_ble_eq_true rfl) (Nat.le_of_ble_eq_true rfl) (Nat.le_of_ble_eq_true rfl) ⟨by show _ ≤ 601024; omega, by show _ ≤ 7293034; omega⟩ ⟨rfl, zhn_X11_sign⟩ rfl (Nat.le_of_ble_eq_true rfl) rfl (z_contI (fun v2 μ2 h => ?_) h)
  obtain ⟨e, h⟩ := h
  subst e
  exact z_icmp_same (tgt := 1691) A dL_law_244 (by decide) h
theorem rL_end (C : zJL G J) {i : Int} {μ : zM} {cn un : Nat} {l5 l6 l7 : Option zV} (hi : 0 ≤ i ∧ i + 4 < ((zst G 40).1 : Int)) (hn : (zst G 40).1 < 2147483648) (hb : cn + 43 ≤ 601024 ∧ un + 253 ≤ 7293034)
    (h : qX10_end G (zsv G (i + 1)) μ (fun v1 μ1 => qX11_end G (zsv G (i + 1)) μ1 (fun v2 μ2 => v1 = v2 ∧ J G 1691 (zLl i l5 l6 l7, [], μ2, cn, un)))) : J G 249 (zLl i l5 l6 l7, [], μ, cn, un) := by
  obtain ⟨p, e, s, m, below, meth, c, args, Q, A, hX, rfl⟩ := C
  refine s_aload_n A dL_law_249 rfl ?_
  refine s_aload_nT A dL_law_250 rfl ?_
  refine s_iload A dL_law_251 rfl ?_
  refine s_iconst A dL_law_253 ?_
  refine s_iadd A dL_law_254 ?_
  refine z_tald A dL_law_255 (Or.inr rfl) hn ⟨by omega, by omega⟩ ?_
  refine s_callV (a := 0) (k := 10) (N := 15) (sl := true) (M := mX10_end) (n := 1) (d := 0) (mc := 0) (ms := 0) (av := [zI _]) (st := []) A dL_law_256 rfl (by decide) (zk_0 _) zwd393 zwd394 zwd395 zwd90 zcd_X10_end (Nat.le_of_ble_eq_true rfl) (Nat.le_of_ble_eq_true rfl) (Nat.le_of_ble_eq_true rfl) ⟨by show _ ≤ 601024; omega, by show _ ≤ 7293034; omega⟩ ⟨rfl, zhn_X10_end⟩ rfl (Nat.le_of_ble_eq_true rfl) rfl (z_contI (fun v1 μ1 h => ?_) h)
  refine s_aload_n A dL_law_259 rfl ?_
  refine s_aload_nT A dL_law_260 rfl ?_
  refine s_iload A dL_law_261 rfl ?_
  refine s_iconst A dL_law_263 ?_
  refine s_iadd A dL_law_264 ?_
  refine z_tald A dL_law_265 (Or.inr rfl) hn ⟨by omega, by omega⟩ ?_
  refine s_callV (a := 153) (k := 11) (N := 45) (sl := true) (M := mX11_end) (n := 1) (d := 2) (mc := 0) (ms := 0) (av := [zI _]) (st := [zI v1]) A dL_law_266 rfl (by decide) (zk_153 _) zwd1457 zwd1458 zwd1459 zwd101 zcd_X11_end (Nat.le_of_ble_eq_true rfl) (Nat.le_of_ble_eq_true rfl) (Nat.le_of_ble_eq_true rfl) ⟨by show _ ≤ 601024; omega, by show _ ≤ 7293034; omega⟩ ⟨rfl, zhn_X11_end⟩ rfl (Nat.le_of_ble_eq_true rfl) rfl (z_contI (fun v2 μ2 h => ?_) h)
  obtain ⟨e, h⟩ := h
  subst e
  exact z_icmp_same (tgt := 1691) A dL_law_269 (by decide) h
theorem rL_patches (C : zJL G J) {i : Int} {μ : zM} {cn un : Nat} {l5 l6 l7 : Option zV} (hi : 0 ≤ i ∧ i + 4 < ((zst G 40).1 : Int)) (hn : (zst G 40).1 < 2147483648) (hb : cn + 43 ≤ 601024 ∧ un + 253 ≤ 7293034)
    (h : qX10_patches G  μ (fun v1 μ1 => qX11_patches G  μ1 (fun v2 μ2 => v1 = v2 ∧ J G 1691 (zLl i l5 l6 l7, [], μ2, cn, un)))) : J G 274 (zLl i l5 l6 l7, [], μ, cn, un) := by
  obtain ⟨p, e, s, m, below, meth, c, args, Q, A, hX, rfl⟩ := C
  refine s_aload_n A dL_law_274 rfl ?_
  refine s_callV (a := 0) (k := 10) (N := 15) (sl := true) (M := mX10_patches) (n := 0) (d := 11) (mc := 0) (ms := 0) (av := []) (st := []) A dL_law_275 rfl (by decide) (zk_0 _) zwd397 zwd398 zwd399 zwd90 zcd_X10_patches (Nat.le_of_ble_eq_true rfl) (Nat.le_of_ble_eq_true rfl) (Nat.le_of_ble_eq_true rfl) ⟨by show _ ≤ 601024; omega, by show _ ≤ 7293034; omega⟩ ⟨rfl, zhn_X10_patches⟩ rfl (Nat.le_of_ble_eq_true rfl) rfl (z_contI (fun v1 μ1 h => ?_) h)
  refine s_aload_n A dL_law_278 rfl ?_
  refine s_callV (a := 153) (k := 11) (N := 45) (sl := true) (M := mX11_patches) (n := 0) (d := 6) (mc := 0) (ms := 0) (av := []) (st := [zI v1]) A dL_law_279 rfl (by decide) (zk_153 _) zwd1464 zwd1465 zwd1466 zwd101 zcd_X11_patches (Nat.le_of_ble_eq_true rfl) (Nat.le_of_ble_eq_true rfl) (Nat.le_of_ble_eq_true rfl) ⟨by show _ ≤ 601024; omega, by show _ ≤ 7293034; omega⟩ ⟨rfl, zhn_X11_patches⟩ rfl (Nat.le_of_ble_eq_true rfl) rfl (z_contI (fun v2 μ2 h => ?_) h)
  obtain ⟨e, h⟩ := h
  subst e
  exact z_icmp_same (tgt := 1691) A dL_law_282 (by decide) h
theorem rL_curve (C : zJL G J) {i : Int} {μ : zM} {cn un : Nat} {l5 l6 l7 : Option zV} (hi : 0 ≤ i ∧ i + 4 < ((zst G 40).1 : Int)) (hn : (zst G 40).1 < 2147483648) (hb : cn + 43 ≤ 601024 ∧ un + 253 ≤ 7293034)
    (h : qX10_curve G (zsv G (i + 1)) μ (fun v1 μ1 => qX11_curve G (zsv G (i + 1)) μ1 (fun v2 μ2 => v1 = v2 ∧ J G 1691 (zLl i l5 l6 l7, [], μ2, cn, un)))) : J G 287 (zLl i l5 l6 l7, [], μ, cn, un) := by
  obtain ⟨p, e, s, m, below, meth, c, args, Q, A, hX, rfl⟩ := C
  refine s_aload_n A dL_law_287 rfl ?_
  refine s_aload_nT A dL_law_288 rfl ?_
  refine s_iload A dL_law_289 rfl ?_
  refine s_iconst A dL_law_291 ?_
  refine s_iadd A dL_law_292 ?_
  refine z_tald A dL_law_293 (Or.inr rfl) hn ⟨by omega, by omega⟩ ?_
  refine s_callV (a := 0) (k := 10) (N := 15) (sl := true) (M := mX10_curve) (n := 1) (d := 9) (mc := 0) (ms := 0) (av := [zI _]) (st := []) A dL_law_294 rfl (by decide) (zk_0 _) zwd622 zwd623 zwd624 zwd90 zcd_X10_curve (Nat.le_of_ble_eq_true rfl) (Nat.le_of_ble_eq_true rfl) (Nat.le_of_ble_eq_true rfl) ⟨by show _ ≤ 601024; omega, by show _ ≤ 7293034; omega⟩ ⟨rfl, zhn_X10_curve⟩ rfl (Nat.le_of_ble_eq_true rfl) rfl (z_contI (fun v1 μ1 h => ?_) h)
  refine s_aload_n A dL_law_297 rfl ?_
  refine s_aload_nT A dL_law_298 rfl ?_
  refine s_iload A dL_law_299 rfl ?_
  refine s_iconst A dL_law_301 ?_
  refine s_iadd A dL_law_302 ?_
  refine z_tald A dL_law_303 (Or.inr rfl) hn ⟨by omega, by omega⟩ ?_
  refine s_callV (a := 153) (k := 11) (N := 45) (sl := true) (M := mX11_curve) (n := 1) (d := 8) (mc := 0) (ms := 0) (av := [zI _]) (st := [zI v1]) A dL_law_304 rfl (by decide) (zk_153 _) zwd1522 zwd1523 zwd1524 zwd101 zcd_X11_curve (Nat.le_of_ble_eq_true rfl) (Nat.le_of_ble_eq_true rfl) (Nat.le_of_ble_eq_true rfl) ⟨by show _ ≤ 601024; omega, by show _ ≤ 7293034; omega⟩ ⟨rfl, zhn_X11_curve⟩ rfl (Nat.le_of_ble_eq_true rfl) rfl (z_contI (fun v2 μ2 h => ?_) h)
  obtain ⟨e, h⟩ := h
  subst e
  exact z_icmp_same (tgt := 1691) A dL_law_307 (by decide) h
theorem rL_link (C : zJL G J) {i : Int} {μ : zM} {cn un : Nat} {l5 l6 l7 : Option zV} (hi : 0 ≤ i ∧ i + 4 < ((zst G 40).1 : Int)) (hn : (zst G 40).1 < 2147483648) (hb : cn + 43 ≤ 601024 ∧ un + 253 ≤ 7293034)
    (h : qX10_link G  μ (fun v1 μ1 => qX11_link G  μ1 (fun v2 μ2 => v1 = v2 ∧ J G 1691 (zLl i l5 l6 l7, [], μ2, (cn + 43), (un + 253))))) : J G 312 (zLl i l5 l6 l7, [], μ, cn, un) := by
  obtain ⟨p, e, s, m, below, meth, c, args, Q, A, hX, rfl⟩ := C
  refine s_aload_n A dL_law_312 rfl ?_
  refine s_callV (a := 0) (k := 10) (N := 15) (sl := true) (M := mX10_link) (n := 0) (d := 24) (mc := 43) (ms := 253) (av := []) (st := []) A dL_law_313 rfl (by decide) (zk_0 _) zwd641 zwd642 zwd643 zwd90 zcd_X10_link (Nat.le_of_ble_eq_true rfl) (Nat.le_of_ble_eq_true rfl) (Nat.le_of_ble_eq_true rfl) ⟨by show _ ≤ 601024; omega, by show _ ≤ 7293034; omega⟩ ⟨rfl, zhn_X10_link⟩ rfl (Nat.le_of_ble_eq_true rfl) rfl (z_contI (fun v1 μ1 h => ?_) h)
  refine s_aload_n A dL_law_316 rfl ?_
  refine s_callV (a := 153) (k := 11) (N := 45) (sl := true) (M := mX11_link) (n := 0) (d := 66) (mc := 0) (ms := 0) (av := []) (st := [zI v1]) A dL_law_317 rfl (by decide) (zk_153 _) zwd1530 zwd1531 zwd1532 zwd101 zcd_X11_link (Nat.le_of_ble_eq_true rfl) (Nat.le_of_ble_eq_true rfl) (Nat.le_of_ble_eq_true rfl) ⟨by show _ ≤ 601024; omega, by show _ ≤ 7293034; omega⟩ ⟨rfl, zhn_X11_link⟩ rfl (Nat.le_of_ble_eq_true rfl) rfl (z_contI (fun v2 μ2 h => ?_) h)
  obtain ⟨e, h⟩ := h
  subst e
  exact z_icmp_same (tgt := 1691) A dL_law_320 (by decide) h
theorem rL_picture (C : zJL G J) {i : Int} {μ : zM} {cn un : Nat} {l5 l6 l7 : Option zV} (hi : 0 ≤ i ∧ i + 4 < ((zst G 40).1 : Int)) (hn : (zst G 40).1 < 2147483648) (hb : cn + 43 ≤ 601024 ∧ un + 253 ≤ 7293034)
    (h : qX10_picture G  μ (fun v1 μ1 => qX11_picture G  μ1 (fun v2 μ2 => v1 = v2 ∧ J G 1691 (zLl i l5 l6 l7, [], μ2, cn, un)))) : J G 325 (zLl i l5 l6 l7, [], μ, cn, un) := by
  obtain ⟨p, e, s, m, below, meth, c, args, Q, A, hX, rfl⟩ := C
  refine s_aload_n A dL_law_325 rfl ?_
  refine s_callV (a := 0) (k := 10) (N := 15) (sl := true) (M := mX10_picture) (n := 0) (d := 11) (mc := 0) (ms := 0) (av := []) (st := []) A dL_law_326 rfl (by decide) (zk_0 _) zwd707 zwd708 zwd709 zwd90 zcd_X10_picture (Nat.le_of_ble_eq_true rfl) (Nat.le_of_ble_eq_true rfl) (Nat.le_of_ble_eq_true rfl) ⟨by show _ ≤ 601024; omega, by show _ ≤ 7293034; omega⟩ ⟨rfl, zhn_X10_picture⟩ rfl (Nat.le_of_ble_eq_true rfl) rfl (z_contI (fun v1 μ1 h => ?_) h)
  refine s_aload_n A dL_law_329 rfl ?_
  refine s_callV (a := 153) (k := 11) (N := 45) (sl := true) (M := mX11_picture) (n := 0) (d := 4) (mc := 0) (ms := 0) (av := []) (st := [zI v1]) A dL_law_330 rfl (by decide) (zk_153 _) zwd1563 zwd1564 zwd1565 zwd101 zcd_X11_picture (Nat.le_of_ble_eq_true rfl) (Nat.le_of_ble_eq_true rfl) (Nat.le_of_ble_eq_true rfl) ⟨by show _ ≤ 601024; omega, by show _ ≤ 7293034; omega⟩ ⟨rfl, zhn_X11_picture⟩ rfl (Nat.le_of_ble_eq_true rfl) rfl (z_contI (fun v2 μ2 h => ?_) h)
  obtain ⟨e, h⟩ := h
  subst e
  exact z_icmp_same (tgt := 1691) A dL_law_333 (by decide) h
theorem rL_sheet (C : zJL G J) {i : Int} {μ : zM} {cn un : Nat} {l5 l6 l7 : Option zV} (hi : 0 ≤ i ∧ i + 4 < ((zst G 40).1 : Int)) (hn : (zst G 40).1 < 2147483648) (hb : cn + 43 ≤ 601024 ∧ un + 253 ≤ 7293034)
    (h : qX10_sheet G (zsv G (i + 1)) (zsv G (i + 2)) (zsv G (i + 3)) (zsv G (i + 4)) μ (fun v1 μ1 => qX11_sheet G (zsv G (i + 1)) (zsv G (i + 2)) (zsv G (i + 3)) (zsv G (i + 4)) μ1 (fun v2 μ2 => v1 = v2 ∧ J G 1691 (zLl i l5 l6 l7, [], μ2, cn, un)))) : J G 474 (zLl i l5 l6 l7, [], μ, cn, un) := by
  obtain ⟨p, e, s, m, below, meth, c, args, Q, A, hX, rfl⟩ := C
  refine s_aload_n A dL_law_474 rfl ?_
  refine s_aload_nT A dL_law_475 rfl ?_
  refine s_iload A dL_law_476 rfl ?_
  refine s_iconst A dL_law_478 ?_
  refine s_iadd A dL_law_479 ?_
  refine z_tald A dL_law_480 (Or.inr rfl) hn ⟨by omega, by omega⟩ ?_
  refine s_aload_nT A dL_law_481 rfl ?_
  refine s_iload A dL_law_482 rfl ?_
  refine s_iconst A dL_law_484 ?_
  refine s_iadd A dL_law_485 ?_
  refine z_tald A dL_law_486 (Or.inr rfl) hn ⟨by omega, by omega⟩ ?_
  refine s_aload_nT A dL_law_487 rfl ?_
  refine s_iload A dL_law_488 rfl ?_
  refine s_iconst A dL_law_490 ?_
  refine s_iadd A dL_law_491 ?_
  refine z_tald A dL_law_492 (Or.inr rfl) hn ⟨by omega, by omega⟩ ?_
  refine s_aload_nT A dL_law_493 rfl ?_
  refine s_iload A dL_law_494 rfl ?_
  refine s_iconst A dL_law_496 ?_
  refine s_iadd A dL_law_497 ?_
  refine z_tald A dL_law_498 (Or.inr rfl) hn ⟨by omega, by omega⟩ ?_
  refine s_callV (a := 0) (k := 10) (N := 15) (sl := true) (M := mX10_sheet) (n := 4) (d := 9) (mc := 0) (ms := 0) (av := [zI _, zI _, zI _, zI _]) (st := []) A dL_law_499 rfl (by decide) (zk_0 _) zwd724 zwd725 zwd726 zwd90 zcd_X10_sheet (Nat.le_of_ble_eq_true rfl) (Nat.le_of_ble_eq_true rfl) (Nat.le_of_ble_eq_true rfl) ⟨by show _ ≤ 601024; omega, by show _ ≤ 7293034; omega⟩ ⟨rfl, zhn_X10_sheet⟩ rfl (Nat.le_of_ble_eq_true rfl) rfl (z_contI (fun v1 μ1 h => ?_) h)
  refine s_aload_n A dL_law_502 rfl ?_
  refine s_aload_nT A dL_law_503 rfl ?_
  refine s_iload A dL_law_504 rfl ?_
  refine s_iconst A dL_law_506 ?_
  refine s_iadd A dL_law_507 ?_
  refine z_tald A dL_law_508 (Or.inr rfl) hn ⟨by omega, by omega⟩ ?_
  refine s_aload_nT A dL_law_509 rfl ?_
  refine s_iload A dL_law_510 rfl ?_
  refine s_iconst A dL_law_512 ?_
  refine s_iadd A dL_law_513 ?_
  refine z_tald A dL_law_514 (Or.inr rfl) hn ⟨by omega, by omega⟩ ?_
  refine s_aload_nT A dL_law_515 rfl ?_
  refine s_iload A dL_law_516 rfl ?_
  refine s_iconst A dL_law_518 ?_
  refine s_iadd A dL_law_519 ?_
  refine z_tald A dL_law_520 (Or.inr rfl) hn ⟨by omega, by omega⟩ ?_
  refine s_aload_nT A dL_law_521 rfl ?_
  refine s_iload A dL_law_522 rfl ?_
  refine s_iconst A dL_law_524 ?_
  refine s_iadd A dL_law_525 ?_
  refine z_tald A dL_law_526 (Or.inr rfl) hn ⟨by omega, by omega⟩ ?_
  refine s_callV (a := 153) (k := 11) (N := 45) (sl := true) (M := mX11_sheet) (n := 4) (d := 8) (mc := 0) (ms := 0) (av := [zI _, zI _, zI _, zI _]) (st := [zI v1]) A dL_law_527 rfl (by decide) (zk_153 _) zwd1589 zwd1590 zwd1591 zwd101 zcd_X11_sheet (Nat.le_of_ble_eq_true rfl) (Nat.le_of_ble_eq_true rfl) (Nat.le_of_ble_eq_true rfl) ⟨by show _ ≤ 601024; omega, by show _ ≤ 7293034; omega⟩ ⟨rfl, zhn_X11_sheet⟩ rfl (Nat.le_of_ble_eq_true rfl) rfl (z_contI (fun v2 μ2 h => ?_) h)
  obtain ⟨e, h⟩ := h
  subst e
  exact z_icmp_same (tgt := 1691) A dL_law_530 (by decide) h
theorem rL_measure (C : zJL G J) {i : Int} {μ : zM} {cn un : Nat} {l5 l6 l7 : Option zV} (hi : 0 ≤ i ∧ i + 4 < ((zst G 40).1 : Int)) (hn : (zst G 40).1 < 2147483648) (hb : cn + 43 ≤ 601024 ∧ un + 253 ≤ 7293034)
    (h : qX10_measure G (zsv G (i + 1)) (zsv G (i + 2)) (zsv G (i + 3)) (zsv G (i + 4)) μ (fun v1 μ1 => qX11_measure G (zsv G (i + 1)) (zsv G (i + 2)) (zsv G (i + 3)) (zsv G (i + 4)) μ1 (fun v2 μ2 => v1 = v2 ∧ J G 1691 (zLl i l5 l6 l7, [], μ2, cn, un)))) : J G 535 (zLl i l5 l6 l7, [], μ, cn, un) := by
  obtain ⟨p, e, s, m, below, meth, c, args, Q, A, hX, rfl⟩ := C
  refine s_aload_n A dL_law_535 rfl ?_
  refine s_aload_nT A dL_law_536 rfl ?_
  refine s_iload A dL_law_537 rfl ?_
  refine s_iconst A dL_law_539 ?_
  refine s_iadd A dL_law_540 ?_
  refine z_tald A dL_law_541 (Or.inr rfl) hn ⟨by omega, by omega⟩ ?_
  refine s_aload_nT A dL_law_542 rfl ?_
  refine s_iload A dL_law_543 rfl ?_
  refine s_iconst A dL_law_545 ?_
  refine s_iadd A dL_law_546 ?_
  refine z_tald A dL_law_547 (Or.inr rfl) hn ⟨by omega, by omega⟩ ?_
  refine s_aload_nT A dL_law_548 rfl ?_
  refine s_iload A dL_law_549 rfl ?_
  refine s_iconst A dL_law_551 ?_
  refine s_iadd A dL_law_552 ?_
  refine z_tald A dL_law_553 (Or.inr rfl) hn ⟨by omega, by omega⟩ ?_
  refine s_aload_nT A dL_law_554 rfl ?_
  refine s_iload A dL_law_555 rfl ?_
  refine s_iconst A dL_law_557 ?_
  refine s_iadd A dL_law_558 ?_
  refine z_tald A dL_law_559 (Or.inr rfl) hn ⟨by omega, by omega⟩ ?_
  refine s_callV (a := 0) (k := 10) (N := 15) (sl := true) (M := mX10_measure) (n := 4) (d := 4) (mc := 0) (ms := 0) (av := [zI _, zI _, zI _, zI _]) (st := []) A dL_law_560 rfl (by decide) (zk_0 _) zwd738 zwd739 zwd740 zwd90 zcd_X10_measure (Nat.le_of_ble_eq_true rfl) (Nat.le_of_ble_eq_true rfl) (Nat.le_of_ble_eq_true rfl) ⟨by show _ ≤ 601024; omega, by show _ ≤ 7293034; omega⟩ ⟨rfl, zhn_X10_measure⟩ rfl (Nat.le_of_ble_eq_true rfl) rfl (z_contI (fun v1 μ1 h => ?_) h)
  refine s_aload_n A dL_law_563 rfl ?_
  refine s_aload_nT A dL_law_564 rfl ?_
  refine s_iload A dL_law_565 rfl ?_
  refine s_iconst A dL_law_567 ?_
  refine s_iadd A dL_law_568 ?_
  refine z_tald A dL_law_569 (Or.inr rfl) hn ⟨by omega, by omega⟩ ?_
  refine s_aload_nT A dL_law_570 rfl ?_
  refine s_iload A dL_law_571 rfl ?_
  refine s_iconst A dL_law_573 ?_
  refine s_iadd A dL_law_574 ?_
  refine z_tald A dL_law_575 (Or.inr rfl) hn ⟨by omega, by omega⟩ ?_
  refine s_aload_nT A dL_law_576 rfl ?_
  refine s_iload A dL_law_577 rfl ?_
  refine s_iconst A dL_law_579 ?_
  refine s_iadd A dL_law_580 ?_
  refine z_tald A dL_law_581 (Or.inr rfl) hn ⟨by omega, by omega⟩ ?_
  refine s_aload_nT A dL_law_582 rfl ?_
  refine s_iload A dL_law_583 rfl ?_
  refine s_iconst A dL_law_585 ?_
  refine s_iadd A dL_law_586 ?_
  refine z_tald A dL_law_587 (Or.inr rfl) hn ⟨by omega, by omega⟩ ?_
  refine s_callV (a := 153) (k := 11) (N := 45) (sl := true) (M := mX11_measure) (n := 4) (d := 4) (mc := 0) (ms := 0) (av := [zI _, zI _, zI _, zI _]) (st := [zI v1]) A dL_law_588 rfl (by decide) (zk_153 _) zwd1861 zwd1862 zwd1863 zwd101 zcd_X11_measure (Nat.le_of_ble_eq_true rfl) (Nat.le_of_ble_eq_true rfl) (Nat.le_of_ble_eq_true rfl) ⟨by show _ ≤ 601024; omega, by show _ ≤ 7293034; omega⟩ ⟨rfl, zhn_X11_measure⟩ rfl (Nat.le_of_ble_eq_true rfl) rfl (z_contI (fun v2 μ2 h => ?_) h)
  obtain ⟨e, h⟩ := h
  subst e
  exact z_icmp_same (tgt := 1691) A dL_law_591 (by decide) h
theorem rL_forgets (C : zJL G J) {i : Int} {μ : zM} {cn un : Nat} {l5 l6 l7 : Option zV} (hi : 0 ≤ i ∧ i + 4 < ((zst G 40).1 : Int)) (hn : (zst G 40).1 < 2147483648) (hb : cn + 43 ≤ 601024 ∧ un + 253 ≤ 7293034)
    (h : qX10_forgets G (zsv G (i + 1)) μ (fun v1 μ1 => qX11_forgets G (zsv G (i + 1)) μ1 (fun v2 μ2 => v1 = v2 ∧ J G 1691 (zLl i l5 l6 l7, [], μ2, cn, un)))) : J G 596 (zLl i l5 l6 l7, [], μ, cn, un) := by
  obtain ⟨p, e, s, m, below, meth, c, args, Q, A, hX, rfl⟩ := C
  refine s_aload_n A dL_law_596 rfl ?_
  refine s_aload_nT A dL_law_597 rfl ?_
  refine s_iload A dL_law_598 rfl ?_
  refine s_iconst A dL_law_600 ?_
  refine s_iadd A dL_law_601 ?_
  refine z_tald A dL_law_602 (Or.inr rfl) hn ⟨by omega, by omega⟩ ?_
  refine s_callV (a := 0) (k := 10) (N := 15) (sl := true) (M := mX10_forgets) (n := 1) (d := 4) (mc := 0) (ms := 0) (av := [zI _]) (st := []) A dL_law_603 rfl (by decide) (zk_0 _) zwd742 zwd743 zwd744 zwd90 zcd_X10_forgets (Nat.le_of_ble_eq_true rfl) (Nat.le_of_ble_eq_true rfl) (Nat.le_of_ble_eq_true rfl) ⟨by show _ ≤ 601024; omega, by show _ ≤ 7293034; omega⟩ ⟨rfl, zhn_X10_forgets⟩ rfl (Nat.le_of_ble_eq_true rfl) rfl (z_contI (fun v1 μ1 h => ?_) h)
  refine s_aload_n A dL_law_606 rfl ?_
  refine s_aload_nT A dL_law_607 rfl ?_
  refine s_iload A dL_law_608 rfl ?_
  refine s_iconst A dL_law_610 ?_
  refine s_iadd A dL_law_611 ?_
  refine z_tald A dL_law_612 (Or.inr rfl) hn ⟨by omega, by omega⟩ ?_
  refine s_callV (a := 153) (k := 11) (N := 45) (sl := true) (M := mX11_forgets) (n := 1) (d := 3) (mc := 0) (ms := 0) (av := [zI _]) (st := [zI v1]) A dL_law_613 rfl (by decide) (zk_153 _) zwd1869 zwd1870 zwd1871 zwd101 zcd_X11_forgets (Nat.le_of_ble_eq_true rfl) (Nat.le_of_ble_eq_true rfl) (Nat.le_of_ble_eq_true rfl) ⟨by show _ ≤ 601024; omega, by show _ ≤ 7293034; omega⟩ ⟨rfl, zhn_X11_forgets⟩ rfl (Nat.le_of_ble_eq_true rfl) rfl (z_contI (fun v2 μ2 h => ?_) h)
  obtain ⟨e, h⟩ := h
  subst e
  exact z_icmp_same (tgt := 1691) A dL_law_616 (by decide) h
theorem rL_sets (C : zJL G J) {i : Int} {μ : zM} {cn un : Nat} {l5 l6 l7 : Option zV} (hi : 0 ≤ i ∧ i + 4 < ((zst G 40).1 : Int)) (hn : (zst G 40).1 < 2147483648) (hb : cn + 43 ≤ 601024 ∧ un + 253 ≤ 7293034)
    (h : qX10_sets G (zsv G (i + 1)) (zsv G (i + 2)) μ (fun v1 μ1 => qX11_sets G (zsv G (i + 1)) (zsv G (i + 2)) μ1 (fun v2 μ2 => v1 = v2 ∧ J G 1691 (zLl i l5 l6 l7, [], μ2, cn, un)))) : J G 621 (zLl i l5 l6 l7, [], μ, cn, un) := by
  obtain ⟨p, e, s, m, below, meth, c, args, Q, A, hX, rfl⟩ := C
  refine s_aload_n A dL_law_621 rfl ?_
  refine s_aload_nT A dL_law_622 rfl ?_
  refine s_iload A dL_law_623 rfl ?_
  refine s_iconst A dL_law_625 ?_
  refine s_iadd A dL_law_626 ?_
  refine z_tald A dL_law_627 (Or.inr rfl) hn ⟨by omega, by omega⟩ ?_
  refine s_aload_nT A dL_law_628 rfl ?_
  refine s_iload A dL_law_629 rfl ?_
  refine s_iconst A dL_law_631 ?_
  refine s_iadd A dL_law_632 ?_
  refine z_tald A dL_law_633 (Or.inr rfl) hn ⟨by omega, by omega⟩ ?_
  refine s_callV (a := 0) (k := 10) (N := 15) (sl := true) (M := mX10_sets) (n := 2) (d := 4) (mc := 0) (ms := 0) (av := [zI _, zI _]) (st := []) A dL_law_634 rfl (by decide) (zk_0 _) zwd750 zwd751 zwd752 zwd90 zcd_X10_sets (Nat.le_of_ble_eq_true rfl) (Nat.le_of_ble_eq_true rfl) (Nat.le_of_ble_eq_true rfl) ⟨by show _ ≤ 601024; omega, by show _ ≤ 7293034; omega⟩ ⟨rfl, zhn_X10_sets⟩ rfl (Nat.le_of_ble_eq_true rfl) rfl (z_contI (fun v1 μ1 h => ?_) h)
  refine s_aload_n A dL_law_637 rfl ?_
  refine s_aload_nT A dL_law_638 rfl ?_
  refine s_iload A dL_law_639 rfl ?_
  refine s_iconst A dL_law_641 ?_
  refine s_iadd A dL_law_642 ?_
  refine z_tald A dL_law_643 (Or.inr rfl) hn ⟨by omega, by omega⟩ ?_
  refine s_aload_nT A dL_law_644 rfl ?_
  refine s_iload A dL_law_645 rfl ?_
  refine s_iconst A dL_law_647 ?_
  refine s_iadd A dL_law_648 ?_
  refine z_tald A dL_law_649 (Or.inr rfl) hn ⟨by omega, by omega⟩ ?_
  refine s_callV (a := 153) (k := 11) (N := 45) (sl := true) (M := mX11_sets) (n := 2) (d := 3) (mc := 0) (ms := 0) (av := [zI _, zI _]) (st := [zI v1]) A dL_law_650 rfl (by decide) (zk_153 _) zwd1873 zwd1874 zwd1875 zwd101 zcd_X11_sets (Nat.le_of_ble_eq_true rfl) (Nat.le_of_ble_eq_true rfl) (Nat.le_of_ble_eq_true rfl) ⟨by show _ ≤ 601024; omega, by show _ ≤ 7293034; omega⟩ ⟨rfl, zhn_X11_sets⟩ rfl (Nat.le_of_ble_eq_true rfl) rfl (z_contI (fun v2 μ2 h => ?_) h)
  obtain ⟨e, h⟩ := h
  subst e
  exact z_icmp_same (tgt := 1691) A dL_law_653 (by decide) h
theorem rL_paints (C : zJL G J) {i : Int} {μ : zM} {cn un : Nat} {l5 l6 l7 : Option zV} (hi : 0 ≤ i ∧ i + 4 < ((zst G 40).1 : Int)) (hn : (zst G 40).1 < 2147483648) (hb : cn + 43 ≤ 601024 ∧ un + 253 ≤ 7293034)
    (h : qX10_paints G (zsv G (i + 1)) (zsv G (i + 2)) (zsv G (i + 3)) (zsv G (i + 4)) μ (fun v1 μ1 => qX11_paints G (zsv G (i + 1)) (zsv G (i + 2)) (zsv G (i + 3)) (zsv G (i + 4)) μ1 (fun v2 μ2 => v1 = v2 ∧ J G 1691 (zLl i l5 l6 l7, [], μ2, cn, un)))) : J G 658 (zLl i l5 l6 l7, [], μ, cn, un) := by
  obtain ⟨p, e, s, m, below, meth, c, args, Q, A, hX, rfl⟩ := C
  refine s_aload_n A dL_law_658 rfl ?_
  refine s_aload_nT A dL_law_659 rfl ?_
  refine s_iload A dL_law_660 rfl ?_
  refine s_iconst A dL_law_662 ?_
  refine s_iadd A dL_law_663 ?_
  refine z_tald A dL_law_664 (Or.inr rfl) hn ⟨by omega, by omega⟩ ?_
  refine s_aload_nT A dL_law_665 rfl ?_
  refine s_iload A dL_law_666 rfl ?_
  refine s_iconst A dL_law_668 ?_
  refine s_iadd A dL_law_669 ?_
  refine z_tald A dL_law_670 (Or.inr rfl) hn ⟨by omega, by omega⟩ ?_
  refine s_aload_nT A dL_law_671 rfl ?_
  refine s_iload A dL_law_672 rfl ?_
  refine s_iconst A dL_law_674 ?_
  refine s_iadd A dL_law_675 ?_
  refine z_tald A dL_law_676 (Or.inr rfl) hn ⟨by omega, by omega⟩ ?_
  refine s_aload_nT A dL_law_677 rfl ?_
  refine s_iload A dL_law_678 rfl ?_
  refine s_iconst A dL_law_680 ?_
  refine s_iadd A dL_law_681 ?_
  refine z_tald A dL_law_682 (Or.inr rfl) hn ⟨by omega, by omega⟩ ?_
  refine s_callV (a := 0) (k := 10) (N := 15) (sl := true) (M := mX10_paints) (n := 4) (d := 4) (mc := 0) (ms := 0) (av := [zI _, zI _, zI _, zI _]) (st := []) A dL_law_683 rfl (by decide) (zk_0 _) zwd762 zwd763 zwd764 zwd90 zcd_X10_paints (Nat.le_of_ble_eq_true rfl) (Nat.le_of_ble_eq_true rfl) (Nat.le_of_ble_eq_true rfl) ⟨by show _ ≤ 601024; omega, by show _ ≤ 7293034; omega⟩ ⟨rfl, zhn_X10_paints⟩ rfl (Nat.le_of_ble_eq_true rfl) rfl (z_contI (fun v1 μ1 h => ?_) h)
  refine s_aload_n A dL_law_686 rfl ?_
  refine s_aload_nT A dL_law_687 rfl ?_
  refine s_iload A dL_law_688 rfl ?_
  refine s_iconst A dL_law_690 ?_
  refine s_iadd A dL_law_691 ?_
  refine z_tald A dL_law_692 (Or.inr rfl) hn ⟨by omega, by omega⟩ ?_
  refine s_aload_nT A dL_law_693 rfl ?_
  refine s_iload A dL_law_694 rfl ?_
  refine s_iconst A dL_law_696 ?_
  refine s_iadd A dL_law_697 ?_
  refine z_tald A dL_law_698 (Or.inr rfl) hn ⟨by omega, by omega⟩ ?_
  refine s_aload_nT A dL_law_699 rfl ?_
  refine s_iload A dL_law_700 rfl ?_
  refine s_iconst A dL_law_702 ?_
  refine s_iadd A dL_law_703 ?_
  refine z_tald A dL_law_704 (Or.inr rfl) hn ⟨by omega, by omega⟩ ?_
  refine s_aload_nT A dL_law_705 rfl ?_
  refine s_iload A dL_law_706 rfl ?_
  refine s_iconst A dL_law_708 ?_
  refine s_iadd A dL_law_709 ?_
  refine z_tald A dL_law_710 (Or.inr rfl) hn ⟨by omega, by omega⟩ ?_
  refine s_callV (a := 153) (k := 11) (N := 45) (sl := true) (M := mX11_paints) (n := 4) (d := 3) (mc := 0) (ms := 0) (av := [zI _, zI _, zI _, zI _]) (st := [zI v1]) A dL_law_711 rfl (by decide) (zk_153 _) zwd1885 zwd1886 zwd1887 zwd101 zcd_X11_paints (Nat.le_of_ble_eq_true rfl) (Nat.le_of_ble_eq_true rfl) (Nat.le_of_ble_eq_true rfl) ⟨by show _ ≤ 601024; omega, by show _ ≤ 7293034; omega⟩ ⟨rfl, zhn_X11_paints⟩ rfl (Nat.le_of_ble_eq_true rfl) rfl (z_contI (fun v2 μ2 h => ?_) h)
  obtain ⟨e, h⟩ := h
  subst e
  exact z_icmp_same (tgt := 1691) A dL_law_714 (by decide) h
theorem rL_day (C : zJL G J) {i : Int} {μ : zM} {cn un : Nat} {l5 l6 l7 : Option zV} (hi : 0 ≤ i ∧ i + 4 < ((zst G 40).1 : Int)) (hn : (zst G 40).1 < 2147483648) (hb : cn + 43 ≤ 601024 ∧ un + 253 ≤ 7293034)
    (h : qX10_day G  μ (fun v1 μ1 => qX11_day G  μ1 (fun v2 μ2 => v1 = v2 ∧ J G 1691 (zLl i l5 l6 l7, [], μ2, cn, un)))) : J G 719 (zLl i l5 l6 l7, [], μ, cn, un) := by
  obtain ⟨p, e, s, m, below, meth, c, args, Q, A, hX, rfl⟩ := C
  refine s_aload_n A dL_law_719 rfl ?_
  refine s_callV (a := 0) (k := 10) (N := 15) (sl := true) (M := mX10_day) (n := 0) (d := 11) (mc := 0) (ms := 0) (av := []) (st := []) A dL_law_720 rfl (by decide) (zk_0 _) zwd777 zwd778 zwd779 zwd90 zcd_X10_day (Nat.le_of_ble_eq_true rfl) (Nat.le_of_ble_eq_true rfl) (Nat.le_of_ble_eq_true rfl) ⟨by show _ ≤ 601024; omega, by show _ ≤ 7293034; omega⟩ ⟨rfl, zhn_X10_day⟩ rfl (Nat.le_of_ble_eq_true rfl) rfl (z_contI (fun v1 μ1 h => ?_) h)
  refine s_aload_n A dL_law_723 rfl ?_
  refine s_callV (a := 153) (k := 11) (N := 45) (sl := true) (M := mX11_day) (n := 0) (d := 6) (mc := 0) (ms := 0) (av := []) (st := [zI v1]) A dL_law_724 rfl (by decide) (zk_153 _) zwd1893 zwd1894 zwd1895 zwd101 zcd_X11_day (Nat.le_of_ble_eq_true rfl) (Nat.le_of_ble_eq_true rfl) (Nat.le_of_ble_eq_true rfl) ⟨by show _ ≤ 601024; omega, by show _ ≤ 7293034; omega⟩ ⟨rfl, zhn_X11_day⟩ rfl (Nat.le_of_ble_eq_true rfl) rfl (z_contI (fun v2 μ2 h => ?_) h)
  obtain ⟨e, h⟩ := h
  subst e
  exact z_icmp_same (tgt := 1691) A dL_law_727 (by decide) h
theorem rL_undo (C : zJL G J) {i : Int} {μ : zM} {cn un : Nat} {l5 l6 l7 : Option zV} (hi : 0 ≤ i ∧ i + 4 < ((zst G 40).1 : Int)) (hn : (zst G 40).1 < 2147483648) (hb : cn + 43 ≤ 601024 ∧ un + 253 ≤ 7293034)
    (h : qX10_undo G  μ (fun v1 μ1 => qX11_undo G  μ1 (fun v2 μ2 => v1 = v2 ∧ J G 1691 (zLl i l5 l6 l7, [], μ2, cn, un)))) : J G 732 (zLl i l5 l6 l7, [], μ, cn, un) := by
  obtain ⟨p, e, s, m, below, meth, c, args, Q, A, hX, rfl⟩ := C
  refine s_aload_n A dL_law_732 rfl ?_
  refine s_callV (a := 0) (k := 10) (N := 15) (sl := true) (M := mX10_undo) (n := 0) (d := 4) (mc := 0) (ms := 0) (av := []) (st := []) A dL_law_733 rfl (by decide) (zk_0 _) zwd795 zwd796 zwd797 zwd90 zcd_X10_undo (Nat.le_of_ble_eq_true rfl) (Nat.le_of_ble_eq_true rfl) (Nat.le_of_ble_eq_true rfl) ⟨by show _ ≤ 601024; omega, by show _ ≤ 7293034; omega⟩ ⟨rfl, zhn_X10_undo⟩ rfl (Nat.le_of_ble_eq_true rfl) rfl (z_contI (fun v1 μ1 h => ?_) h)
  refine s_aload_n A dL_law_736 rfl ?_
  refine s_callV (a := 153) (k := 11) (N := 45) (sl := true) (M := mX11_undo) (n := 0) (d := 0) (mc := 0) (ms := 0) (av := []) (st := [zI v1]) A dL_law_737 rfl (by decide) (zk_153 _) zwd1909 zwd1910 zwd1911 zwd101 zcd_X11_undo (Nat.le_of_ble_eq_true rfl) (Nat.le_of_ble_eq_true rfl) (Nat.le_of_ble_eq_true rfl) ⟨by show _ ≤ 601024; omega, by show _ ≤ 7293034; omega⟩ ⟨rfl, zhn_X11_undo⟩ rfl (Nat.le_of_ble_eq_true rfl) rfl (z_contI (fun v2 μ2 h => ?_) h)
  obtain ⟨e, h⟩ := h
  subst e
  exact z_icmp_same (tgt := 1691) A dL_law_740 (by decide) h
theorem rL_colour (C : zJL G J) {i : Int} {μ : zM} {cn un : Nat} {l5 l6 l7 : Option zV} (hi : 0 ≤ i ∧ i + 4 < ((zst G 40).1 : Int)) (hn : (zst G 40).1 < 2147483648) (hb : cn + 43 ≤ 601024 ∧ un + 253 ≤ 7293034)
    (h : qX10_colour G (zsv G (i + 1)) μ (fun v1 μ1 => qX11_colour G (zsv G (i + 1)) μ1 (fun v2 μ2 => v1 = v2 ∧ J G 1691 (zLl i l5 l6 l7, [], μ2, cn, un)))) : J G 745 (zLl i l5 l6 l7, [], μ, cn, un) := by
  obtain ⟨p, e, s, m, below, meth, c, args, Q, A, hX, rfl⟩ := C
  refine s_aload_n A dL_law_745 rfl ?_
  refine s_aload_nT A dL_law_746 rfl ?_
  refine s_iload A dL_law_747 rfl ?_
  refine s_iconst A dL_law_749 ?_
  refine s_iadd A dL_law_750 ?_
  refine z_tald A dL_law_751 (Or.inr rfl) hn ⟨by omega, by omega⟩ ?_
  refine s_callV (a := 0) (k := 10) (N := 15) (sl := true) (M := mX10_colour) (n := 1) (d := 12) (mc := 0) (ms := 0) (av := [zI _]) (st := []) A dL_law_752 rfl (by decide) (zk_0 _) zwd803 zwd804 zwd805 zwd90 zcd_X10_colour (Nat.le_of_ble_eq_true rfl) (Nat.le_of_ble_eq_true rfl) (Nat.le_of_ble_eq_true rfl) ⟨by show _ ≤ 601024; omega, by show _ ≤ 7293034; omega⟩ ⟨rfl, zhn_X10_colour⟩ rfl (Nat.le_of_ble_eq_true rfl) rfl (z_contI (fun v1 μ1 h => ?_) h)
  refine s_aload_n A dL_law_755 rfl ?_
  refine s_aload_nT A dL_law_756 rfl ?_
  refine s_iload A dL_law_757 rfl ?_
  refine s_iconst A dL_law_759 ?_
  refine s_iadd A dL_law_760 ?_
  refine z_tald A dL_law_761 (Or.inr rfl) hn ⟨by omega, by omega⟩ ?_
  refine s_callV (a := 153) (k := 11) (N := 45) (sl := true) (M := mX11_colour) (n := 1) (d := 11) (mc := 0) (ms := 0) (av := [zI _]) (st := [zI v1]) A dL_law_762 rfl (by decide) (zk_153 _) zwd1596 zwd1597 zwd1598 zwd101 zcd_X11_colour (Nat.le_of_ble_eq_true rfl) (Nat.le_of_ble_eq_true rfl) (Nat.le_of_ble_eq_true rfl) ⟨by show _ ≤ 601024; omega, by show _ ≤ 7293034; omega⟩ ⟨rfl, zhn_X11_colour⟩ rfl (Nat.le_of_ble_eq_true rfl) rfl (z_contI (fun v2 μ2 h => ?_) h)
  obtain ⟨e, h⟩ := h
  subst e
  exact z_icmp_same (tgt := 1691) A dL_law_765 (by decide) h
theorem rL_limited (C : zJL G J) {i : Int} {μ : zM} {cn un : Nat} {l5 l6 l7 : Option zV} (hi : 0 ≤ i ∧ i + 4 < ((zst G 40).1 : Int)) (hn : (zst G 40).1 < 2147483648) (hb : cn + 43 ≤ 601024 ∧ un + 253 ≤ 7293034)
    (h : qX10_limited G (zsv G (i + 1)) (zsv G (i + 2)) μ (fun v1 μ1 => qX11_limited G (zsv G (i + 1)) (zsv G (i + 2)) μ1 (fun v2 μ2 => v1 = v2 ∧ J G 1691 (zLl i l5 l6 l7, [], μ2, cn, un)))) : J G 770 (zLl i l5 l6 l7, [], μ, cn, un) := by
  obtain ⟨p, e, s, m, below, meth, c, args, Q, A, hX, rfl⟩ := C
  refine s_aload_n A dL_law_770 rfl ?_
  refine s_aload_nT A dL_law_771 rfl ?_
  refine s_iload A dL_law_772 rfl ?_
  refine s_iconst A dL_law_774 ?_
  refine s_iadd A dL_law_775 ?_
  refine z_tald A dL_law_776 (Or.inr rfl) hn ⟨by omega, by omega⟩ ?_
  refine s_aload_nT A dL_law_777 rfl ?_
  refine s_iload A dL_law_778 rfl ?_
  refine s_iconst A dL_law_780 ?_
  refine s_iadd A dL_law_781 ?_
  refine z_tald A dL_law_782 (Or.inr rfl) hn ⟨by omega, by omega⟩ ?_
  refine s_callV (a := 0) (k := 10) (N := 15) (sl := true) (M := mX10_limited) (n := 2) (d := 10) (mc := 0) (ms := 0) (av := [zI _, zI _]) (st := []) A dL_law_783 rfl (by decide) (zk_0 _) zwd869 zwd870 zwd871 zwd90 zcd_X10_limited (Nat.le_of_ble_eq_true rfl) (Nat.le_of_ble_eq_true rfl) (Nat.le_of_ble_eq_true rfl) ⟨by show _ ≤ 601024; omega, by show _ ≤ 7293034; omega⟩ ⟨rfl, zhn_X10_limited⟩ rfl (Nat.le_of_ble_eq_true rfl) rfl (z_contI (fun v1 μ1 h => ?_) h)
  refine s_aload_n A dL_law_786 rfl ?_
  refine s_aload_nT A dL_law_787 rfl ?_
  refine s_iload A dL_law_788 rfl ?_
  refine s_iconst A dL_law_790 ?_
  refine s_iadd A dL_law_791 ?_
  refine z_tald A dL_law_792 (Or.inr rfl) hn ⟨by omega, by omega⟩ ?_
  refine s_aload_nT A dL_law_793 rfl ?_
  refine s_iload A dL_law_794 rfl ?_
  refine s_iconst A dL_law_796 ?_
  refine s_iadd A dL_law_797 ?_
  refine z_tald A dL_law_798 (Or.inr rfl) hn ⟨by omega, by omega⟩ ?_
  refine s_callV (a := 153) (k := 11) (N := 45) (sl := true) (M := mX11_limited) (n := 2) (d := 9) (mc := 0) (ms := 0) (av := [zI _, zI _]) (st := [zI v1]) A dL_law_799 rfl (by decide) (zk_153 _) zwd1625 zwd1626 zwd1627 zwd101 zcd_X11_limited (Nat.le_of_ble_eq_true rfl) (Nat.le_of_ble_eq_true rfl) (Nat.le_of_ble_eq_true rfl) ⟨by show _ ≤ 601024; omega, by show _ ≤ 7293034; omega⟩ ⟨rfl, zhn_X11_limited⟩ rfl (Nat.le_of_ble_eq_true rfl) rfl (z_contI (fun v2 μ2 h => ?_) h)
  obtain ⟨e, h⟩ := h
  subst e
  exact z_icmp_same (tgt := 1691) A dL_law_802 (by decide) h
theorem rL_match (C : zJL G J) {i : Int} {μ : zM} {cn un : Nat} {l5 l6 l7 : Option zV} (hi : 0 ≤ i ∧ i + 4 < ((zst G 40).1 : Int)) (hn : (zst G 40).1 < 2147483648) (hb : cn + 43 ≤ 601024 ∧ un + 253 ≤ 7293034)
    (h : qX10_match G (zsv G (i + 1)) (zsv G (i + 2)) (zsv G (i + 3)) μ (fun v1 μ1 => qX11_match G (zsv G (i + 1)) (zsv G (i + 2)) (zsv G (i + 3)) μ1 (fun v2 μ2 => v1 = v2 ∧ J G 1691 (zLl i l5 l6 l7, [], μ2, cn, un)))) : J G 807 (zLl i l5 l6 l7, [], μ, cn, un) := by
  obtain ⟨p, e, s, m, below, meth, c, args, Q, A, hX, rfl⟩ := C
  refine s_aload_n A dL_law_807 rfl ?_
  refine s_aload_nT A dL_law_808 rfl ?_
  refine s_iload A dL_law_809 rfl ?_
  refine s_iconst A dL_law_811 ?_
  refine s_iadd A dL_law_812 ?_
  refine z_tald A dL_law_813 (Or.inr rfl) hn ⟨by omega, by omega⟩ ?_
  refine s_aload_nT A dL_law_814 rfl ?_
  refine s_iload A dL_law_815 rfl ?_
  refine s_iconst A dL_law_817 ?_
  refine s_iadd A dL_law_818 ?_
  refine z_tald A dL_law_819 (Or.inr rfl) hn ⟨by omega, by omega⟩ ?_
  refine s_aload_nT A dL_law_820 rfl ?_
  refine s_iload A dL_law_821 rfl ?_
  refine s_iconst A dL_law_823 ?_
  refine s_iadd A dL_law_824 ?_
  refine z_tald A dL_law_825 (Or.inr rfl) hn ⟨by omega, by omega⟩ ?_
  refine s_callV (a := 0) (k := 10) (N := 15) (sl := true) (M := mX10_match) (n := 3) (d := 12) (mc := 0) (ms := 0) (av := [zI _, zI _, zI _]) (st := []) A dL_law_826 rfl (by decide) (zk_0 _) zwd898 zwd899 zwd900 zwd90 zcd_X10_match (Nat.le_of_ble_eq_true rfl) (Nat.le_of_ble_eq_true rfl) (Nat.le_of_ble_eq_true rfl) ⟨by show _ ≤ 601024; omega, by show _ ≤ 7293034; omega⟩ ⟨rfl, zhn_X10_match⟩ rfl (Nat.le_of_ble_eq_true rfl) rfl (z_contI (fun v1 μ1 h => ?_) h)
  refine s_aload_n A dL_law_829 rfl ?_
  refine s_aload_nT A dL_law_830 rfl ?_
  refine s_iload A dL_law_831 rfl ?_
  refine s_iconst A dL_law_833 ?_
  refine s_iadd A dL_law_834 ?_
  refine z_tald A dL_law_835 (Or.inr rfl) hn ⟨by omega, by omega⟩ ?_
  refine s_aload_nT A dL_law_836 rfl ?_
  refine s_iload A dL_law_837 rfl ?_
  refine s_iconst A dL_law_839 ?_
  refine s_iadd A dL_law_840 ?_
  refine z_tald A dL_law_841 (Or.inr rfl) hn ⟨by omega, by omega⟩ ?_
  refine s_aload_nT A dL_law_842 rfl ?_
  refine s_iload A dL_law_843 rfl ?_
  refine s_iconst A dL_law_845 ?_
  refine s_iadd A dL_law_846 ?_
  refine z_tald A dL_law_847 (Or.inr rfl) hn ⟨by omega, by omega⟩ ?_
  refine s_callV (a := 153) (k := 11) (N := 45) (sl := true) (M := mX11_match) (n := 3) (d := 12) (mc := 0) (ms := 0) (av := [zI _, zI _, zI _]) (st := [zI v1]) A dL_law_848 rfl (by decide) (zk_153 _) zwd1641 zwd1642 zwd1643 zwd101 zcd_X11_match (Nat.le_of_ble_eq_true rfl) (Nat.le_of_ble_eq_true rfl) (Nat.le_of_ble_eq_true rfl) ⟨by show _ ≤ 601024; omega, by show _ ≤ 7293034; omega⟩ ⟨rfl, zhn_X11_match⟩ rfl (Nat.le_of_ble_eq_true rfl) rfl (z_contI (fun v2 μ2 h => ?_) h)
  obtain ⟨e, h⟩ := h
  subst e
  exact z_icmp_same (tgt := 1691) A dL_law_851 (by decide) h
theorem rL_fold (C : zJL G J) {i : Int} {μ : zM} {cn un : Nat} {l5 l6 l7 : Option zV} (hi : 0 ≤ i ∧ i + 4 < ((zst G 40).1 : Int)) (hn : (zst G 40).1 < 2147483648) (hb : cn + 43 ≤ 601024 ∧ un + 253 ≤ 7293034)
    (h : qX10_fold G (zsv G (i + 1)) (zsv G (i + 2)) (zsv G (i + 3)) μ (fun v1 μ1 => qX11_fold G (zsv G (i + 1)) (zsv G (i + 2)) (zsv G (i + 3)) μ1 (fun v2 μ2 => v1 = v2 ∧ J G 1691 (zLl i l5 l6 l7, [], μ2, cn, un)))) : J G 856 (zLl i l5 l6 l7, [], μ, cn, un) := by
  obtain ⟨p, e, s, m, below, meth, c, args, Q, A, hX, rfl⟩ := C
  refine s_aload_n A dL_law_856 rfl ?_
  refine s_aload_nT A dL_law_857 rfl ?_
  refine s_iload A dL_law_858 rfl ?_
  refine s_iconst A dL_law_860 ?_
  refine s_iadd A dL_law_861 ?_
  refine z_tald A dL_law_862 (Or.inr rfl) hn ⟨by omega, by omega⟩ ?_
  refine s_aload_nT A dL_law_863 rfl ?_
  refine s_iload A dL_law_864 rfl ?_
  refine s_iconst A dL_law_866 ?_
  refine s_iadd A dL_law_867 ?_
  refine z_tald A dL_law_868 (Or.inr rfl) hn ⟨by omega, by omega⟩ ?_
  refine s_aload_nT A dL_law_869 rfl ?_
  refine s_iload A dL_law_870 rfl ?_
  refine s_iconst A dL_law_872 ?_
  refine s_iadd A dL_law_873 ?_
  refine z_tald A dL_law_874 (Or.inr rfl) hn ⟨by omega, by omega⟩ ?_
  refine s_callV (a := 0) (k := 10) (N := 15) (sl := true) (M := mX10_fold) (n := 3) (d := 12) (mc := 0) (ms := 0) (av := [zI _, zI _, zI _]) (st := []) A dL_law_875 rfl (by decide) (zk_0 _) zwd934 zwd935 zwd936 zwd90 zcd_X10_fold (Nat.le_of_ble_eq_true rfl) (Nat.le_of_ble_eq_true rfl) (Nat.le_of_ble_eq_true rfl) ⟨by show _ ≤ 601024; omega, by show _ ≤ 7293034; omega⟩ ⟨rfl, zhn_X10_fold⟩ rfl (Nat.le_of_ble_eq_true rfl) rfl (z_contI (fun v1 μ1 h => ?_) h)
  refine s_aload_n A dL_law_878 rfl ?_
  refine s_aload_nT A dL_law_879 rfl ?_
  refine s_iload A dL_law_880 rfl ?_
  refine s_iconst A dL_law_882 ?_
  refine s_iadd A dL_law_883 ?_
  refine z_tald A dL_law_884 (Or.inr rfl) hn ⟨by omega, by omega⟩ ?_
  refine s_aload_nT A dL_law_885 rfl ?_
  refine s_iload A dL_law_886 rfl ?_
  refine s_iconst A dL_law_888 ?_
  refine s_iadd A dL_law_889 ?_
  refine z_tald A dL_law_890 (Or.inr rfl) hn ⟨by omega, by omega⟩ ?_
  refine s_aload_nT A dL_law_891 rfl ?_
  refine s_iload A dL_law_892 rfl ?_
  refine s_iconst A dL_law_894 ?_
  refine s_iadd A dL_law_895 ?_
  refine z_tald A dL_law_896 (Or.inr rfl) hn ⟨by omega, by omega⟩ ?_
  refine s_callV (a := 153) (k := 11) (N := 45) (sl := true) (M := mX11_fold) (n := 3) (d := 12) (mc := 0) (ms := 0) (av := [zI _, zI _, zI _]) (st := [zI v1]) A dL_law_897 rfl (by decide) (zk_153 _) zwd1679 zwd1680 zwd1681 zwd101 zcd_X11_fold (Nat.le_of_ble_eq_true rfl) (Nat.le_of_ble_eq_true rfl) (Nat.le_of_ble_eq_true rfl) ⟨by show _ ≤ 601024; omega, by show _ ≤ 7293034; omega⟩ ⟨rfl, zhn_X11_fold⟩ rfl (Nat.le_of_ble_eq_true rfl) rfl (z_contI (fun v2 μ2 h => ?_) h)
  obtain ⟨e, h⟩ := h
  subst e
  exact z_icmp_same (tgt := 1691) A dL_law_900 (by decide) h
theorem rL_prints (C : zJL G J) {i : Int} {μ : zM} {cn un : Nat} {l5 l6 l7 : Option zV} (hi : 0 ≤ i ∧ i + 4 < ((zst G 40).1 : Int)) (hn : (zst G 40).1 < 2147483648) (hb : cn + 43 ≤ 601024 ∧ un + 253 ≤ 7293034)
    (h : qX10_prints G (zsv G (i + 1)) (zsv G (i + 2)) (zsv G (i + 3)) μ (fun v1 μ1 => qX11_prints G (zsv G (i + 1)) (zsv G (i + 2)) (zsv G (i + 3)) μ1 (fun v2 μ2 => v1 = v2 ∧ J G 1691 (zLl i l5 l6 l7, [], μ2, cn, un)))) : J G 905 (zLl i l5 l6 l7, [], μ, cn, un) := by
  obtain ⟨p, e, s, m, below, meth, c, args, Q, A, hX, rfl⟩ := C
  refine s_aload_n A dL_law_905 rfl ?_
  refine s_aload_nT A dL_law_906 rfl ?_
  refine s_iload A dL_law_907 rfl ?_
  refine s_iconst A dL_law_909 ?_
  refine s_iadd A dL_law_910 ?_
  refine z_tald A dL_law_911 (Or.inr rfl) hn ⟨by omega, by omega⟩ ?_
  refine s_aload_nT A dL_law_912 rfl ?_
  refine s_iload A dL_law_913 rfl ?_
  refine s_iconst A dL_law_915 ?_
  refine s_iadd A dL_law_916 ?_
  refine z_tald A dL_law_917 (Or.inr rfl) hn ⟨by omega, by omega⟩ ?_
  refine s_aload_nT A dL_law_918 rfl ?_
  refine s_iload A dL_law_919 rfl ?_
  refine s_iconst A dL_law_921 ?_
  refine s_iadd A dL_law_922 ?_
  refine z_tald A dL_law_923 (Or.inr rfl) hn ⟨by omega, by omega⟩ ?_
  refine s_callV (a := 0) (k := 10) (N := 15) (sl := true) (M := mX10_prints) (n := 3) (d := 74) (mc := 0) (ms := 0) (av := [zI _, zI _, zI _]) (st := []) A dL_law_924 rfl (by decide) (zk_0 _) zwd951 zwd952 zwd953 zwd90 zcd_X10_prints (Nat.le_of_ble_eq_true rfl) (Nat.le_of_ble_eq_true rfl) (Nat.le_of_ble_eq_true rfl) ⟨by show _ ≤ 601024; omega, by show _ ≤ 7293034; omega⟩ ⟨rfl, zhn_X10_prints⟩ rfl (Nat.le_of_ble_eq_true rfl) rfl (z_contI (fun v1 μ1 h => ?_) h)
  refine s_aload_n A dL_law_927 rfl ?_
  refine s_aload_nT A dL_law_928 rfl ?_
  refine s_iload A dL_law_929 rfl ?_
  refine s_iconst A dL_law_931 ?_
  refine s_iadd A dL_law_932 ?_
  refine z_tald A dL_law_933 (Or.inr rfl) hn ⟨by omega, by omega⟩ ?_
  refine s_aload_nT A dL_law_934 rfl ?_
  refine s_iload A dL_law_935 rfl ?_
  refine s_iconst A dL_law_937 ?_
  refine s_iadd A dL_law_938 ?_
  refine z_tald A dL_law_939 (Or.inr rfl) hn ⟨by omega, by omega⟩ ?_
  refine s_aload_nT A dL_law_940 rfl ?_
  refine s_iload A dL_law_941 rfl ?_
  refine s_iconst A dL_law_943 ?_
  refine s_iadd A dL_law_944 ?_
  refine z_tald A dL_law_945 (Or.inr rfl) hn ⟨by omega, by omega⟩ ?_
  refine s_callV (a := 153) (k := 11) (N := 45) (sl := true) (M := mX11_prints) (n := 3) (d := 112) (mc := 0) (ms := 0) (av := [zI _, zI _, zI _]) (st := [zI v1]) A dL_law_946 rfl (by decide) (zk_153 _) zwd1691 zwd1692 zwd1693 zwd101 zcd_X11_prints (Nat.le_of_ble_eq_true rfl) (Nat.le_of_ble_eq_true rfl) (Nat.le_of_ble_eq_true rfl) ⟨by show _ ≤ 601024; omega, by show _ ≤ 7293034; omega⟩ ⟨rfl, zhn_X11_prints⟩ rfl (Nat.le_of_ble_eq_true rfl) rfl (z_contI (fun v2 μ2 h => ?_) h)
  obtain ⟨e, h⟩ := h
  subst e
  exact z_icmp_same (tgt := 1691) A dL_law_949 (by decide) h
theorem rL_ramp (C : zJL G J) {i : Int} {μ : zM} {cn un : Nat} {l5 l6 l7 : Option zV} (hi : 0 ≤ i ∧ i + 4 < ((zst G 40).1 : Int)) (hn : (zst G 40).1 < 2147483648) (hb : cn + 43 ≤ 601024 ∧ un + 253 ≤ 7293034)
    (h : qX10_ramp G (zsv G (i + 1)) (zsv G (i + 2)) μ (fun v1 μ1 => qX11_ramp G (zsv G (i + 1)) (zsv G (i + 2)) μ1 (fun v2 μ2 => v1 = v2 ∧ J G 1691 (zLl i l5 l6 l7, [], μ2, cn, un)))) : J G 954 (zLl i l5 l6 l7, [], μ, cn, un) := by
  obtain ⟨p, e, s, m, below, meth, c, args, Q, A, hX, rfl⟩ := C
  refine s_aload_n A dL_law_954 rfl ?_
  refine s_aload_nT A dL_law_955 rfl ?_
  refine s_iload A dL_law_956 rfl ?_
  refine s_iconst A dL_law_958 ?_
  refine s_iadd A dL_law_959 ?_
  refine z_tald A dL_law_960 (Or.inr rfl) hn ⟨by omega, by omega⟩ ?_
  refine s_aload_nT A dL_law_961 rfl ?_
  refine s_iload A dL_law_962 rfl ?_
  refine s_iconst A dL_law_964 ?_
  refine s_iadd A dL_law_965 ?_
  refine z_tald A dL_law_966 (Or.inr rfl) hn ⟨by omega, by omega⟩ ?_
  refine s_callV (a := 0) (k := 10) (N := 15) (sl := true) (M := mX10_ramp) (n := 2) (d := 12) (mc := 0) (ms := 0) (av := [zI _, zI _]) (st := []) A dL_law_967 rfl (by decide) (zk_0 _) zwd998 zwd999 zwd1000 zwd90 zcd_X10_ramp (Nat.le_of_ble_eq_true rfl) (Nat.le_of_ble_eq_true rfl) (Nat.le_of_ble_eq_true rfl) ⟨by show _ ≤ 601024; omega, by show _ ≤ 7293034; omega⟩ ⟨rfl, zhn_X10_ramp⟩ rfl (Nat.le_of_ble_eq_true rfl) rfl (z_contI (fun v1 μ1 h => ?_) h)
  refine s_aload_n A dL_law_970 rfl ?_
  refine s_aload_nT A dL_law_971 rfl ?_
  refine s_iload A dL_law_972 rfl ?_
  refine s_iconst A dL_law_974 ?_
  refine s_iadd A dL_law_975 ?_
  refine z_tald A dL_law_976 (Or.inr rfl) hn ⟨by omega, by omega⟩ ?_
  refine s_aload_nT A dL_law_977 rfl ?_
  refine s_iload A dL_law_978 rfl ?_
  refine s_iconst A dL_law_980 ?_
  refine s_iadd A dL_law_981 ?_
  refine z_tald A dL_law_982 (Or.inr rfl) hn ⟨by omega, by omega⟩ ?_
  refine s_callV (a := 153) (k := 11) (N := 45) (sl := true) (M := mX11_ramp) (n := 2) (d := 12) (mc := 0) (ms := 0) (av := [zI _, zI _]) (st := [zI v1]) A dL_law_983 rfl (by decide) (zk_153 _) zwd1738 zwd1739 zwd1740 zwd101 zcd_X11_ramp (Nat.le_of_ble_eq_true rfl) (Nat.le_of_ble_eq_true rfl) (Nat.le_of_ble_eq_true rfl) ⟨by show _ ≤ 601024; omega, by show _ ≤ 7293034; omega⟩ ⟨rfl, zhn_X11_ramp⟩ rfl (Nat.le_of_ble_eq_true rfl) rfl (z_contI (fun v2 μ2 h => ?_) h)
  obtain ⟨e, h⟩ := h
  subst e
  exact z_icmp_same (tgt := 1691) A dL_law_986 (by decide) h
theorem rL_way (C : zJL G J) {i : Int} {μ : zM} {cn un : Nat} {l5 l6 l7 : Option zV} (hi : 0 ≤ i ∧ i + 4 < ((zst G 40).1 : Int)) (hn : (zst G 40).1 < 2147483648) (hb : cn + 43 ≤ 601024 ∧ un + 253 ≤ 7293034)
    (h : qX10_way G (zsv G (i + 1)) (zsv G (i + 2)) (zsv G (i + 3)) μ (fun v1 μ1 => qX11_way G (zsv G (i + 1)) (zsv G (i + 2)) (zsv G (i + 3)) μ1 (fun v2 μ2 => v1 = v2 ∧ J G 1691 (zLl i l5 l6 l7, [], μ2, cn, un)))) : J G 991 (zLl i l5 l6 l7, [], μ, cn, un) := by
  obtain ⟨p, e, s, m, below, meth, c, args, Q, A, hX, rfl⟩ := C
  refine s_aload_n A dL_law_991 rfl ?_
  refine s_aload_nT A dL_law_992 rfl ?_
  refine s_iload A dL_law_993 rfl ?_
  refine s_iconst A dL_law_995 ?_
  refine s_iadd A dL_law_996 ?_
  refine z_tald A dL_law_997 (Or.inr rfl) hn ⟨by omega, by omega⟩ ?_
  refine s_aload_nT A dL_law_998 rfl ?_
  refine s_iload A dL_law_999 rfl ?_
  refine s_iconst A dL_law_1001 ?_
  refine s_iadd A dL_law_1002 ?_
  refine z_tald A dL_law_1003 (Or.inr rfl) hn ⟨by omega, by omega⟩ ?_
  refine s_aload_nT A dL_law_1004 rfl ?_
  refine s_iload A dL_law_1005 rfl ?_
  refine s_iconst A dL_law_1007 ?_
  refine s_iadd A dL_law_1008 ?_
  refine z_tald A dL_law_1009 (Or.inr rfl) hn ⟨by omega, by omega⟩ ?_
  refine s_callV (a := 0) (k := 10) (N := 15) (sl := true) (M := mX10_way) (n := 3) (d := 12) (mc := 0) (ms := 0) (av := [zI _, zI _, zI _]) (st := []) A dL_law_1010 rfl (by decide) (zk_0 _) zwd1010 zwd1011 zwd1012 zwd90 zcd_X10_way (Nat.le_of_ble_eq_true rfl) (Nat.le_of_ble_eq_true rfl) (Nat.le_of_ble_eq_true rfl) ⟨by show _ ≤ 601024; omega, by show _ ≤ 7293034; omega⟩ ⟨rfl, zhn_X10_way⟩ rfl (Nat.le_of_ble_eq_true rfl) rfl (z_contI (fun v1 μ1 h => ?_) h)
  refine s_aload_n A dL_law_1013 rfl ?_
  refine s_aload_nT A dL_law_1014 rfl ?_
  refine s_iload A dL_law_1015 rfl ?_
  refine s_iconst A dL_law_1017 ?_
  refine s_iadd A dL_law_1018 ?_
  refine z_tald A dL_law_1019 (Or.inr rfl) hn ⟨by omega, by omega⟩ ?_
  refine s_aload_nT A dL_law_1020 rfl ?_
  refine s_iload A dL_law_1021 rfl ?_
  refine s_iconst A dL_law_1023 ?_
  refine s_iadd A dL_law_1024 ?_
  refine z_tald A dL_law_1025 (Or.inr rfl) hn ⟨by omega, by omega⟩ ?_
  refine s_aload_nT A dL_law_1026 rfl ?_
  refine s_iload A dL_law_1027 rfl ?_
  refine s_iconst A dL_law_1029 ?_
  refine s_iadd A dL_law_1030 ?_
  refine z_tald A dL_law_1031 (Or.inr rfl) hn ⟨by omega, by omega⟩ ?_
  refine s_callV (a := 153) (k := 11) (N := 45) (sl := true) (M := mX11_way) (n := 3) (d := 12) (mc := 0) (ms := 0) (av := [zI _, zI _, zI _]) (st := [zI v1]) A dL_law_1032 rfl (by decide) (zk_153 _) zwd1742 zwd1743 zwd1744 zwd101 zcd_X11_way (Nat.le_of_ble_eq_true rfl) (Nat.le_of_ble_eq_true rfl) (Nat.le_of_ble_eq_true rfl) ⟨by show _ ≤ 601024; omega, by show _ ≤ 7293034; omega⟩ ⟨rfl, zhn_X11_way⟩ rfl (Nat.le_of_ble_eq_true rfl) rfl (z_contI (fun v2 μ2 h => ?_) h)
  obtain ⟨e, h⟩ := h
  subst e
  exact z_icmp_same (tgt := 1691) A dL_law_1035 (by decide) h
theorem rL_rises (C : zJL G J) {i : Int} {μ : zM} {cn un : Nat} {l5 l6 l7 : Option zV} (hi : 0 ≤ i ∧ i + 4 < ((zst G 40).1 : Int)) (hn : (zst G 40).1 < 2147483648) (hb : cn + 43 ≤ 601024 ∧ un + 253 ≤ 7293034)
    (h : qX10_rises G (zsv G (i + 1)) μ (fun v1 μ1 => qX11_rises G (zsv G (i + 1)) μ1 (fun v2 μ2 => v1 = v2 ∧ J G 1691 (zLl i l5 l6 l7, [], μ2, cn, un)))) : J G 1040 (zLl i l5 l6 l7, [], μ, cn, un) := by
  obtain ⟨p, e, s, m, below, meth, c, args, Q, A, hX, rfl⟩ := C
  refine s_aload_n A dL_law_1040 rfl ?_
  refine s_aload_nT A dL_law_1041 rfl ?_
  refine s_iload A dL_law_1042 rfl ?_
  refine s_iconst A dL_law_1044 ?_
  refine s_iadd A dL_law_1045 ?_
  refine z_tald A dL_law_1046 (Or.inr rfl) hn ⟨by omega, by omega⟩ ?_
  refine s_callV (a := 0) (k := 10) (N := 15) (sl := true) (M := mX10_rises) (n := 1) (d := 12) (mc := 0) (ms := 0) (av := [zI _]) (st := []) A dL_law_1047 rfl (by decide) (zk_0 _) zwd1032 zwd1033 zwd1034 zwd90 zcd_X10_rises (Nat.le_of_ble_eq_true rfl) (Nat.le_of_ble_eq_true rfl) (Nat.le_of_ble_eq_true rfl) ⟨by show _ ≤ 601024; omega, by show _ ≤ 7293034; omega⟩ ⟨rfl, zhn_X10_rises⟩ rfl (Nat.le_of_ble_eq_true rfl) rfl (z_contI (fun v1 μ1 h => ?_) h)
  refine s_aload_n A dL_law_1050 rfl ?_
  refine s_aload_nT A dL_law_1051 rfl ?_
  refine s_iload A dL_law_1052 rfl ?_
  refine s_iconst A dL_law_1054 ?_
  refine s_iadd A dL_law_1055 ?_
  refine z_tald A dL_law_1056 (Or.inr rfl) hn ⟨by omega, by omega⟩ ?_
  refine s_callV (a := 153) (k := 11) (N := 45) (sl := true) (M := mX11_rises) (n := 1) (d := 11) (mc := 0) (ms := 0) (av := [zI _]) (st := [zI v1]) A dL_law_1057 rfl (by decide) (zk_153 _) zwd1757 zwd1758 zwd1759 zwd101 zcd_X11_rises (Nat.le_of_ble_eq_true rfl) (Nat.le_of_ble_eq_true rfl) (Nat.le_of_ble_eq_true rfl) ⟨by show _ ≤ 601024; omega, by show _ ≤ 7293034; omega⟩ ⟨rfl, zhn_X11_rises⟩ rfl (Nat.le_of_ble_eq_true rfl) rfl (z_contI (fun v2 μ2 h => ?_) h)
  obtain ⟨e, h⟩ := h
  subst e
  exact z_icmp_same (tgt := 1691) A dL_law_1060 (by decide) h
theorem rL_reach (C : zJL G J) {i : Int} {μ : zM} {cn un : Nat} {l5 l6 l7 : Option zV} (hi : 0 ≤ i ∧ i + 4 < ((zst G 40).1 : Int)) (hn : (zst G 40).1 < 2147483648) (hb : cn + 43 ≤ 601024 ∧ un + 253 ≤ 7293034)
    (h : qX10_reach G (zsv G (i + 1)) μ (fun v1 μ1 => qX11_reach G (zsv G (i + 1)) μ1 (fun v2 μ2 => v1 = v2 ∧ J G 1691 (zLl i l5 l6 l7, [], μ2, cn, un)))) : J G 1065 (zLl i l5 l6 l7, [], μ, cn, un) := by
  obtain ⟨p, e, s, m, below, meth, c, args, Q, A, hX, rfl⟩ := C
  refine s_aload_n A dL_law_1065 rfl ?_
  refine s_aload_nT A dL_law_1066 rfl ?_
  refine s_iload A dL_law_1067 rfl ?_
  refine s_iconst A dL_law_1069 ?_
  refine s_iadd A dL_law_1070 ?_
  refine z_tald A dL_law_1071 (Or.inr rfl) hn ⟨by omega, by omega⟩ ?_
  refine s_callV (a := 0) (k := 10) (N := 15) (sl := true) (M := mX10_reach) (n := 1) (d := 12) (mc := 0) (ms := 0) (av := [zI _]) (st := []) A dL_law_1072 rfl (by decide) (zk_0 _) zwd1049 zwd1050 zwd1051 zwd90 zcd_X10_reach (Nat.le_of_ble_eq_true rfl) (Nat.le_of_ble_eq_true rfl) (Nat.le_of_ble_eq_true rfl) ⟨by show _ ≤ 601024; omega, by show _ ≤ 7293034; omega⟩ ⟨rfl, zhn_X10_reach⟩ rfl (Nat.le_of_ble_eq_true rfl) rfl (z_contI (fun v1 μ1 h => ?_) h)
  refine s_aload_n A dL_law_1075 rfl ?_
  refine s_aload_nT A dL_law_1076 rfl ?_
  refine s_iload A dL_law_1077 rfl ?_
  refine s_iconst A dL_law_1079 ?_
  refine s_iadd A dL_law_1080 ?_
  refine z_tald A dL_law_1081 (Or.inr rfl) hn ⟨by omega, by omega⟩ ?_
  refine s_callV (a := 153) (k := 11) (N := 45) (sl := true) (M := mX11_reach) (n := 1) (d := 12) (mc := 0) (ms := 0) (av := [zI _]) (st := [zI v1]) A dL_law_1082 rfl (by decide) (zk_153 _) zwd1765 zwd1766 zwd1767 zwd101 zcd_X11_reach (Nat.le_of_ble_eq_true rfl) (Nat.le_of_ble_eq_true rfl) (Nat.le_of_ble_eq_true rfl) ⟨by show _ ≤ 601024; omega, by show _ ≤ 7293034; omega⟩ ⟨rfl, zhn_X11_reach⟩ rfl (Nat.le_of_ble_eq_true rfl) rfl (z_contI (fun v2 μ2 h => ?_) h)
  obtain ⟨e, h⟩ := h
  subst e
  exact z_icmp_same (tgt := 1691) A dL_law_1085 (by decide) h
theorem rL_spread (C : zJL G J) {i : Int} {μ : zM} {cn un : Nat} {l5 l6 l7 : Option zV} (hi : 0 ≤ i ∧ i + 4 < ((zst G 40).1 : Int)) (hn : (zst G 40).1 < 2147483648) (hb : cn + 43 ≤ 601024 ∧ un + 253 ≤ 7293034)
    (h : qX10_spread G  μ (fun v1 μ1 => qX11_spread G  μ1 (fun v2 μ2 => v1 = v2 ∧ J G 1691 (zLl i l5 l6 l7, [], μ2, cn, un)))) : J G 1090 (zLl i l5 l6 l7, [], μ, cn, un) := by
  obtain ⟨p, e, s, m, below, meth, c, args, Q, A, hX, rfl⟩ := C
  refine s_aload_n A dL_law_1090 rfl ?_
  refine s_callV (a := 0) (k := 10) (N := 15) (sl := true) (M := mX10_spread) (n := 0) (d := 12) (mc := 0) (ms := 0) (av := []) (st := []) A dL_law_1091 rfl (by decide) (zk_0 _) zwd1056 zwd1057 zwd1058 zwd90 zcd_X10_spread (Nat.le_of_ble_eq_true rfl) (Nat.le_of_ble_eq_true rfl) (Nat.le_of_ble_eq_true rfl) ⟨by show _ ≤ 601024; omega, by show _ ≤ 7293034; omega⟩ ⟨rfl, zhn_X10_spread⟩ rfl (Nat.le_of_ble_eq_true rfl) rfl (z_contI (fun v1 μ1 h => ?_) h)
  refine s_aload_n A dL_law_1094 rfl ?_
  refine s_callV (a := 153) (k := 11) (N := 45) (sl := true) (M := mX11_spread) (n := 0) (d := 12) (mc := 0) (ms := 0) (av := []) (st := [zI v1]) A dL_law_1095 rfl (by decide) (zk_153 _) zwd1769 zwd1770 zwd1771 zwd101 zcd_X11_spread (Nat.le_of_ble_eq_true rfl) (Nat.le_of_ble_eq_true rfl) (Nat.le_of_ble_eq_true rfl) ⟨by show _ ≤ 601024; omega, by show _ ≤ 7293034; omega⟩ ⟨rfl, zhn_X11_spread⟩ rfl (Nat.le_of_ble_eq_true rfl) rfl (z_contI (fun v2 μ2 h => ?_) h)
  obtain ⟨e, h⟩ := h
  subst e
  exact z_icmp_same (tgt := 1691) A dL_law_1098 (by decide) h
theorem rL_odds (C : zJL G J) {i : Int} {μ : zM} {cn un : Nat} {l5 l6 l7 : Option zV} (hi : 0 ≤ i ∧ i + 4 < ((zst G 40).1 : Int)) (hn : (zst G 40).1 < 2147483648) (hb : cn + 43 ≤ 601024 ∧ un + 253 ≤ 7293034)
    (h : qX10_odds G (zsv G (i + 1)) (zsv G (i + 2)) (zsv G (i + 3)) (zsv G (i + 4)) μ (fun v1 μ1 => qX11_odds G (zsv G (i + 1)) (zsv G (i + 2)) (zsv G (i + 3)) (zsv G (i + 4)) μ1 (fun v2 μ2 => v1 = v2 ∧ J G 1691 (zLl i l5 l6 l7, [], μ2, cn, un)))) : J G 1103 (zLl i l5 l6 l7, [], μ, cn, un) := by
  obtain ⟨p, e, s, m, below, meth, c, args, Q, A, hX, rfl⟩ := C
  refine s_aload_n A dL_law_1103 rfl ?_
  refine s_aload_nT A dL_law_1104 rfl ?_
  refine s_iload A dL_law_1105 rfl ?_
  refine s_iconst A dL_law_1107 ?_
  refine s_iadd A dL_law_1108 ?_
  refine z_tald A dL_law_1109 (Or.inr rfl) hn ⟨by omega, by omega⟩ ?_
  refine s_aload_nT A dL_law_1110 rfl ?_
  refine s_iload A dL_law_1111 rfl ?_
  refine s_iconst A dL_law_1113 ?_
  refine s_iadd A dL_law_1114 ?_
  refine z_tald A dL_law_1115 (Or.inr rfl) hn ⟨by omega, by omega⟩ ?_
  refine s_aload_nT A dL_law_1116 rfl ?_
  refine s_iload A dL_law_1117 rfl ?_
  refine s_iconst A dL_law_1119 ?_
  refine s_iadd A dL_law_1120 ?_
  refine z_tald A dL_law_1121 (Or.inr rfl) hn ⟨by omega, by omega⟩ ?_
  refine s_aload_nT A dL_law_1122 rfl ?_
  refine s_iload A dL_law_1123 rfl ?_
  refine s_iconst A dL_law_1125 ?_
  refine s_iadd A dL_law_1126 ?_
  refine z_tald A dL_law_1127 (Or.inr rfl) hn ⟨by omega, by omega⟩ ?_
  refine s_callV (a := 0) (k := 10) (N := 15) (sl := true) (M := mX10_odds) (n := 4) (d := 12) (mc := 0) (ms := 0) (av := [zI _, zI _, zI _, zI _]) (st := []) A dL_law_1128 rfl (by decide) (zk_0 _) zwd1068 zwd1069 zwd1070 zwd90 zcd_X10_odds (Nat.le_of_ble_eq_true rfl) (Nat.le_of_ble_eq_true rfl) (Nat.le_of_ble_eq_true rfl) ⟨by show _ ≤ 601024; omega, by show _ ≤ 7293034; omega⟩ ⟨rfl, zhn_X10_odds⟩ rfl (Nat.le_of_ble_eq_true rfl) rfl (z_contI (fun v1 μ1 h => ?_) h)
  refine s_aload_n A dL_law_1131 rfl ?_
  refine s_aload_nT A dL_law_1132 rfl ?_
  refine s_iload A dL_law_1133 rfl ?_
  refine s_iconst A dL_law_1135 ?_
  refine s_iadd A dL_law_1136 ?_
  refine z_tald A dL_law_1137 (Or.inr rfl) hn ⟨by omega, by omega⟩ ?_
  refine s_aload_nT A dL_law_1138 rfl ?_
  refine s_iload A dL_law_1139 rfl ?_
  refine s_iconst A dL_law_1141 ?_
  refine s_iadd A dL_law_1142 ?_
  refine z_tald A dL_law_1143 (Or.inr rfl) hn ⟨by omega, by omega⟩ ?_
  refine s_aload_nT A dL_law_1144 rfl ?_
  refine s_iload A dL_law_1145 rfl ?_
  refine s_iconst A dL_law_1147 ?_
  refine s_iadd A dL_law_1148 ?_
  refine z_tald A dL_law_1149 (Or.inr rfl) hn ⟨by omega, by omega⟩ ?_
  refine s_aload_nT A dL_law_1150 rfl ?_
  refine s_iload A dL_law_1151 rfl ?_
  refine s_iconst A dL_law_1153 ?_
  refine s_iadd A dL_law_1154 ?_
  refine z_tald A dL_law_1155 (Or.inr rfl) hn ⟨by omega, by omega⟩ ?_
  refine s_callV (a := 153) (k := 11) (N := 45) (sl := true) (M := mX11_odds) (n := 4) (d := 63) (mc := 0) (ms := 0) (av := [zI _, zI _, zI _, zI _]) (st := [zI v1]) A dL_law_1156 rfl (by decide) (zk_153 _) zwd1779 zwd1780 zwd1781 zwd101 zcd_X11_odds (Nat.le_of_ble_eq_true rfl) (Nat.le_of_ble_eq_true rfl) (Nat.le_of_ble_eq_true rfl) ⟨by show _ ≤ 601024; omega, by show _ ≤ 7293034; omega⟩ ⟨rfl, zhn_X11_odds⟩ rfl (Nat.le_of_ble_eq_true rfl) rfl (z_contI (fun v2 μ2 h => ?_) h)
  obtain ⟨e, h⟩ := h
  subst e
  exact z_icmp_same (tgt := 1691) A dL_law_1159 (by decide) h
theorem rL_through (C : zJL G J) {i : Int} {μ : zM} {cn un : Nat} {l5 l6 l7 : Option zV} (hi : 0 ≤ i ∧ i + 4 < ((zst G 40).1 : Int)) (hn : (zst G 40).1 < 2147483648) (hb : cn + 43 ≤ 601024 ∧ un + 253 ≤ 7293034)
    (h : qX10_through G (zsv G (i + 1)) μ (fun v1 μ1 => qX11_through G (zsv G (i + 1)) μ1 (fun v2 μ2 => v1 = v2 ∧ J G 1691 (zLl i l5 l6 l7, [], μ2, cn, un)))) : J G 1164 (zLl i l5 l6 l7, [], μ, cn, un) := by
  obtain ⟨p, e, s, m, below, meth, c, args, Q, A, hX, rfl⟩ := C
  refine s_aload_n A dL_law_1164 rfl ?_
  refine s_aload_nT A dL_law_1165 rfl ?_
  refine s_iload A dL_law_1166 rfl ?_
  refine s_iconst A dL_law_1168 ?_
  refine s_iadd A dL_law_1169 ?_
  refine z_tald A dL_law_1170 (Or.inr rfl) hn ⟨by omega, by omega⟩ ?_
  refine s_callV (a := 0) (k := 10) (N := 15) (sl := true) (M := mX10_through) (n := 1) (d := 74) (mc := 0) (ms := 0) (av := [zI _]) (st := []) A dL_law_1171 rfl (by decide) (zk_0 _) zwd1079 zwd1080 zwd1081 zwd90 zcd_X10_through (Nat.le_of_ble_eq_true rfl) (Nat.le_of_ble_eq_true rfl) (Nat.le_of_ble_eq_true rfl) ⟨by show _ ≤ 601024; omega, by show _ ≤ 7293034; omega⟩ ⟨rfl, zhn_X10_through⟩ rfl (Nat.le_of_ble_eq_true rfl) rfl (z_contI (fun v1 μ1 h => ?_) h)
  refine s_aload_n A dL_law_1174 rfl ?_
  refine s_aload_nT A dL_law_1175 rfl ?_
  refine s_iload A dL_law_1176 rfl ?_
  refine s_iconst A dL_law_1178 ?_
  refine s_iadd A dL_law_1179 ?_
  refine z_tald A dL_law_1180 (Or.inr rfl) hn ⟨by omega, by omega⟩ ?_
  refine s_callV (a := 153) (k := 11) (N := 45) (sl := true) (M := mX11_through) (n := 1) (d := 112) (mc := 0) (ms := 0) (av := [zI _]) (st := [zI v1]) A dL_law_1181 rfl (by decide) (zk_153 _) zwd1726 zwd1727 zwd1728 zwd101 zcd_X11_through (Nat.le_of_ble_eq_true rfl) (Nat.le_of_ble_eq_true rfl) (Nat.le_of_ble_eq_true rfl) ⟨by show _ ≤ 601024; omega, by show _ ≤ 7293034; omega⟩ ⟨rfl, zhn_X11_through⟩ rfl (Nat.le_of_ble_eq_true rfl) rfl (z_contI (fun v2 μ2 h => ?_) h)
  obtain ⟨e, h⟩ := h
  subst e
  exact z_icmp_same (tgt := 1691) A dL_law_1184 (by decide) h
theorem rL_sources (C : zJL G J) {i : Int} {μ : zM} {cn un : Nat} {l5 l6 l7 : Option zV} (hi : 0 ≤ i ∧ i + 4 < ((zst G 40).1 : Int)) (hn : (zst G 40).1 < 2147483648) (hb : cn + 43 ≤ 601024 ∧ un + 253 ≤ 7293034)
    (h : qX10_sources G (zsv G (i + 1)) μ (fun v1 μ1 => qX11_sources G (zsv G (i + 1)) μ1 (fun v2 μ2 => v1 = v2 ∧ J G 1691 (zLl i l5 l6 l7, [], μ2, cn, un)))) : J G 1189 (zLl i l5 l6 l7, [], μ, cn, un) := by
  obtain ⟨p, e, s, m, below, meth, c, args, Q, A, hX, rfl⟩ := C
  refine s_aload_n A dL_law_1189 rfl ?_
  refine s_aload_nT A dL_law_1190 rfl ?_
  refine s_iload A dL_law_1191 rfl ?_
  refine s_iconst A dL_law_1193 ?_
  refine s_iadd A dL_law_1194 ?_
  refine z_tald A dL_law_1195 (Or.inr rfl) hn ⟨by omega, by omega⟩ ?_
  refine s_callV (a := 0) (k := 10) (N := 15) (sl := true) (M := mX10_sources) (n := 1) (d := 74) (mc := 0) (ms := 0) (av := [zI _]) (st := []) A dL_law_1196 rfl (by decide) (zk_0 _) zwd1083 zwd1084 zwd1085 zwd90 zcd_X10_sources (Nat.le_of_ble_eq_true rfl) (Nat.le_of_ble_eq_true rfl) (Nat.le_of_ble_eq_true rfl) ⟨by show _ ≤ 601024; omega, by show _ ≤ 7293034; omega⟩ ⟨rfl, zhn_X10_sources⟩ rfl (Nat.le_of_ble_eq_true rfl) rfl (z_contI (fun v1 μ1 h => ?_) h)
  refine s_aload_n A dL_law_1199 rfl ?_
  refine s_aload_nT A dL_law_1200 rfl ?_
  refine s_iload A dL_law_1201 rfl ?_
  refine s_iconst A dL_law_1203 ?_
  refine s_iadd A dL_law_1204 ?_
  refine z_tald A dL_law_1205 (Or.inr rfl) hn ⟨by omega, by omega⟩ ?_
  refine s_callV (a := 153) (k := 11) (N := 45) (sl := true) (M := mX11_sources) (n := 1) (d := 112) (mc := 0) (ms := 0) (av := [zI _]) (st := [zI v1]) A dL_law_1206 rfl (by decide) (zk_153 _) zwd1730 zwd1731 zwd1732 zwd101 zcd_X11_sources (Nat.le_of_ble_eq_true rfl) (Nat.le_of_ble_eq_true rfl) (Nat.le_of_ble_eq_true rfl) ⟨by show _ ≤ 601024; omega, by show _ ≤ 7293034; omega⟩ ⟨rfl, zhn_X11_sources⟩ rfl (Nat.le_of_ble_eq_true rfl) rfl (z_contI (fun v2 μ2 h => ?_) h)
  obtain ⟨e, h⟩ := h
  subst e
  exact z_icmp_same (tgt := 1691) A dL_law_1209 (by decide) h
theorem rL_rounds (C : zJL G J) {i : Int} {μ : zM} {cn un : Nat} {l5 l6 l7 : Option zV} (hi : 0 ≤ i ∧ i + 4 < ((zst G 40).1 : Int)) (hn : (zst G 40).1 < 2147483648) (hb : cn + 43 ≤ 601024 ∧ un + 253 ≤ 7293034)
    (h : qX10_rounds G (zsv G (i + 1)) μ (fun v1 μ1 => qX11_rounds G (zsv G (i + 1)) μ1 (fun v2 μ2 => v1 = v2 ∧ J G 1691 (zLl i l5 l6 l7, [], μ2, cn, un)))) : J G 1214 (zLl i l5 l6 l7, [], μ, cn, un) := by
  obtain ⟨p, e, s, m, below, meth, c, args, Q, A, hX, rfl⟩ := C
  refine s_aload_n A dL_law_1214 rfl ?_
  refine s_aload_nT A dL_law_1215 rfl ?_
  refine s_iload A dL_law_1216 rfl ?_
  refine s_iconst A dL_law_1218 ?_
  refine s_iadd A dL_law_1219 ?_
  refine z_tald A dL_law_1220 (Or.inr rfl) hn ⟨by omega, by omega⟩ ?_
  refine s_callV (a := 0) (k := 10) (N := 15) (sl := true) (M := mX10_rounds) (n := 1) (d := 74) (mc := 0) (ms := 0) (av := [zI _]) (st := []) A dL_law_1221 rfl (by decide) (zk_0 _) zwd1087 zwd1088 zwd1089 zwd90 zcd_X10_rounds (Nat.le_of_ble_eq_true rfl) (Nat.le_of_ble_eq_true rfl) (Nat.le_of_ble_eq_true rfl) ⟨by show _ ≤ 601024; omega, by show _ ≤ 7293034; omega⟩ ⟨rfl, zhn_X10_rounds⟩ rfl (Nat.le_of_ble_eq_true rfl) rfl (z_contI (fun v1 μ1 h => ?_) h)
  refine s_aload_n A dL_law_1224 rfl ?_
  refine s_aload_nT A dL_law_1225 rfl ?_
  refine s_iload A dL_law_1226 rfl ?_
  refine s_iconst A dL_law_1228 ?_
  refine s_iadd A dL_law_1229 ?_
  refine z_tald A dL_law_1230 (Or.inr rfl) hn ⟨by omega, by omega⟩ ?_
  refine s_callV (a := 153) (k := 11) (N := 45) (sl := true) (M := mX11_rounds) (n := 1) (d := 112) (mc := 0) (ms := 0) (av := [zI _]) (st := [zI v1]) A dL_law_1231 rfl (by decide) (zk_153 _) zwd1734 zwd1735 zwd1736 zwd101 zcd_X11_rounds (Nat.le_of_ble_eq_true rfl) (Nat.le_of_ble_eq_true rfl) (Nat.le_of_ble_eq_true rfl) ⟨by show _ ≤ 601024; omega, by show _ ≤ 7293034; omega⟩ ⟨rfl, zhn_X11_rounds⟩ rfl (Nat.le_of_ble_eq_true rfl) rfl (z_contI (fun v2 μ2 h => ?_) h)
  obtain ⟨e, h⟩ := h
  subst e
  exact z_icmp_same (tgt := 1691) A dL_law_1234 (by decide) h
theorem rL_press (C : zJL G J) {i : Int} {μ : zM} {cn un : Nat} {l5 l6 l7 : Option zV} (hi : 0 ≤ i ∧ i + 4 < ((zst G 40).1 : Int)) (hn : (zst G 40).1 < 2147483648) (hb : cn + 43 ≤ 601024 ∧ un + 253 ≤ 7293034)
    (h : qX10_press G (zsv G (i + 1)) μ (fun v1 μ1 => qX11_press G (zsv G (i + 1)) μ1 (fun v2 μ2 => v1 = v2 ∧ J G 1691 (zLl i l5 l6 l7, [], μ2, cn, un)))) : J G 1239 (zLl i l5 l6 l7, [], μ, cn, un) := by
  obtain ⟨p, e, s, m, below, meth, c, args, Q, A, hX, rfl⟩ := C
  refine s_aload_n A dL_law_1239 rfl ?_
  refine s_aload_nT A dL_law_1240 rfl ?_
  refine s_iload A dL_law_1241 rfl ?_
  refine s_iconst A dL_law_1243 ?_
  refine s_iadd A dL_law_1244 ?_
  refine z_tald A dL_law_1245 (Or.inr rfl) hn ⟨by omega, by omega⟩ ?_
  refine s_callV (a := 0) (k := 10) (N := 15) (sl := true) (M := mX10_press) (n := 1) (d := 12) (mc := 0) (ms := 0) (av := [zI _]) (st := []) A dL_law_1246 rfl (by decide) (zk_0 _) zwd1091 zwd1092 zwd1093 zwd90 zcd_X10_press (Nat.le_of_ble_eq_true rfl) (Nat.le_of_ble_eq_true rfl) (Nat.le_of_ble_eq_true rfl) ⟨by show _ ≤ 601024; omega, by show _ ≤ 7293034; omega⟩ ⟨rfl, zhn_X10_press⟩ rfl (Nat.le_of_ble_eq_true rfl) rfl (z_contI (fun v1 μ1 h => ?_) h)
  refine s_aload_n A dL_law_1249 rfl ?_
  refine s_aload_nT A dL_law_1250 rfl ?_
  refine s_iload A dL_law_1251 rfl ?_
  refine s_iconst A dL_law_1253 ?_
  refine s_iadd A dL_law_1254 ?_
  refine z_tald A dL_law_1255 (Or.inr rfl) hn ⟨by omega, by omega⟩ ?_
  refine s_callV (a := 153) (k := 11) (N := 45) (sl := true) (M := mX11_press) (n := 1) (d := 12) (mc := 0) (ms := 0) (av := [zI _]) (st := [zI v1]) A dL_law_1256 rfl (by decide) (zk_153 _) zwd1786 zwd1787 zwd1788 zwd101 zcd_X11_press (Nat.le_of_ble_eq_true rfl) (Nat.le_of_ble_eq_true rfl) (Nat.le_of_ble_eq_true rfl) ⟨by show _ ≤ 601024; omega, by show _ ≤ 7293034; omega⟩ ⟨rfl, zhn_X11_press⟩ rfl (Nat.le_of_ble_eq_true rfl) rfl (z_contI (fun v2 μ2 h => ?_) h)
  obtain ⟨e, h⟩ := h
  subst e
  exact z_icmp_same (tgt := 1691) A dL_law_1259 (by decide) h
theorem rL_cell (C : zJL G J) {i : Int} {μ : zM} {cn un : Nat} {l5 l6 l7 : Option zV} (hi : 0 ≤ i ∧ i + 4 < ((zst G 40).1 : Int)) (hn : (zst G 40).1 < 2147483648) (hb : cn + 43 ≤ 601024 ∧ un + 253 ≤ 7293034)
    (h : qX10_cell G (zsv G (i + 1)) (zsv G (i + 2)) μ (fun v1 μ1 => qX11_cell G (zsv G (i + 1)) (zsv G (i + 2)) μ1 (fun v2 μ2 => v1 = v2 ∧ J G 1691 (zLl i l5 l6 l7, [], μ2, cn, un)))) : J G 1264 (zLl i l5 l6 l7, [], μ, cn, un) := by
  obtain ⟨p, e, s, m, below, meth, c, args, Q, A, hX, rfl⟩ := C
  refine s_aload_n A dL_law_1264 rfl ?_
  refine s_aload_nT A dL_law_1265 rfl ?_
  refine s_iload A dL_law_1266 rfl ?_
  refine s_iconst A dL_law_1268 ?_
  refine s_iadd A dL_law_1269 ?_
  refine z_tald A dL_law_1270 (Or.inr rfl) hn ⟨by omega, by omega⟩ ?_
  refine s_aload_nT A dL_law_1271 rfl ?_
  refine s_iload A dL_law_1272 rfl ?_
  refine s_iconst A dL_law_1274 ?_
  refine s_iadd A dL_law_1275 ?_
  refine z_tald A dL_law_1276 (Or.inr rfl) hn ⟨by omega, by omega⟩ ?_
  refine s_callV (a := 0) (k := 10) (N := 15) (sl := true) (M := mX10_cell) (n := 2) (d := 12) (mc := 0) (ms := 0) (av := [zI _, zI _]) (st := []) A dL_law_1277 rfl (by decide) (zk_0 _) zwd1128 zwd1129 zwd1130 zwd90 zcd_X10_cell (Nat.le_of_ble_eq_true rfl) (Nat.le_of_ble_eq_true rfl) (Nat.le_of_ble_eq_true rfl) ⟨by show _ ≤ 601024; omega, by show _ ≤ 7293034; omega⟩ ⟨rfl, zhn_X10_cell⟩ rfl (Nat.le_of_ble_eq_true rfl) rfl (z_contI (fun v1 μ1 h => ?_) h)
  refine s_aload_n A dL_law_1280 rfl ?_
  refine s_aload_nT A dL_law_1281 rfl ?_
  refine s_iload A dL_law_1282 rfl ?_
  refine s_iconst A dL_law_1284 ?_
  refine s_iadd A dL_law_1285 ?_
  refine z_tald A dL_law_1286 (Or.inr rfl) hn ⟨by omega, by omega⟩ ?_
  refine s_aload_nT A dL_law_1287 rfl ?_
  refine s_iload A dL_law_1288 rfl ?_
  refine s_iconst A dL_law_1290 ?_
  refine s_iadd A dL_law_1291 ?_
  refine z_tald A dL_law_1292 (Or.inr rfl) hn ⟨by omega, by omega⟩ ?_
  refine s_callV (a := 153) (k := 11) (N := 45) (sl := true) (M := mX11_cell) (n := 2) (d := 12) (mc := 0) (ms := 0) (av := [zI _, zI _]) (st := [zI v1]) A dL_law_1293 rfl (by decide) (zk_153 _) zwd1805 zwd1806 zwd1807 zwd101 zcd_X11_cell (Nat.le_of_ble_eq_true rfl) (Nat.le_of_ble_eq_true rfl) (Nat.le_of_ble_eq_true rfl) ⟨by show _ ≤ 601024; omega, by show _ ≤ 7293034; omega⟩ ⟨rfl, zhn_X11_cell⟩ rfl (Nat.le_of_ble_eq_true rfl) rfl (z_contI (fun v2 μ2 h => ?_) h)
  obtain ⟨e, h⟩ := h
  subst e
  exact z_icmp_same (tgt := 1691) A dL_law_1296 (by decide) h
theorem rL_slips (C : zJL G J) {i : Int} {μ : zM} {cn un : Nat} {l5 l6 l7 : Option zV} (hi : 0 ≤ i ∧ i + 4 < ((zst G 40).1 : Int)) (hn : (zst G 40).1 < 2147483648) (hb : cn + 43 ≤ 601024 ∧ un + 253 ≤ 7293034)
    (h : qX10_slips G (zsv G (i + 1)) (zsv G (i + 2)) (zsv G (i + 3)) μ (fun v1 μ1 => qX11_slips G (zsv G (i + 1)) (zsv G (i + 2)) (zsv G (i + 3)) μ1 (fun v2 μ2 => v1 = v2 ∧ J G 1691 (zLl i l5 l6 l7, [], μ2, cn, un)))) : J G 1301 (zLl i l5 l6 l7, [], μ, cn, un) := by
  obtain ⟨p, e, s, m, below, meth, c, args, Q, A, hX, rfl⟩ := C
  refine s_aload_n A dL_law_1301 rfl ?_
  refine s_aload_nT A dL_law_1302 rfl ?_
  refine s_iload A dL_law_1303 rfl ?_
  refine s_iconst A dL_law_1305 ?_
  refine s_iadd A dL_law_1306 ?_
  refine z_tald A dL_law_1307 (Or.inr rfl) hn ⟨by omega, by omega⟩ ?_
  refine s_aload_nT A dL_law_1308 rfl ?_
  refine s_iload A dL_law_1309 rfl ?_
  refine s_iconst A dL_law_1311 ?_
  refine s_iadd A dL_law_1312 ?_
  refine z_tald A dL_law_1313 (Or.inr rfl) hn ⟨by omega, by omega⟩ ?_
  refine s_aload_nT A dL_law_1314 rfl ?_
  refine s_iload A dL_law_1315 rfl ?_
  refine s_iconst A dL_law_1317 ?_
  refine s_iadd A dL_law_1318 ?_
  refine z_tald A dL_law_1319 (Or.inr rfl) hn ⟨by omega, by omega⟩ ?_
  refine s_callV (a := 0) (k := 10) (N := 15) (sl := true) (M := mX10_slips) (n := 3) (d := 12) (mc := 0) (ms := 0) (av := [zI _, zI _, zI _]) (st := []) A dL_law_1320 rfl (by decide) (zk_0 _) zwd1132 zwd1133 zwd1134 zwd90 zcd_X10_slips (Nat.le_of_ble_eq_true rfl) (Nat.le_of_ble_eq_true rfl) (Nat.le_of_ble_eq_true rfl) ⟨by show _ ≤ 601024; omega, by show _ ≤ 7293034; omega⟩ ⟨rfl, zhn_X10_slips⟩ rfl (Nat.le_of_ble_eq_true rfl) rfl (z_contI (fun v1 μ1 h => ?_) h)
  refine s_aload_n A dL_law_1323 rfl ?_
  refine s_aload_nT A dL_law_1324 rfl ?_
  refine s_iload A dL_law_1325 rfl ?_
  refine s_iconst A dL_law_1327 ?_
  refine s_iadd A dL_law_1328 ?_
  refine z_tald A dL_law_1329 (Or.inr rfl) hn ⟨by omega, by omega⟩ ?_
  refine s_aload_nT A dL_law_1330 rfl ?_
  refine s_iload A dL_law_1331 rfl ?_
  refine s_iconst A dL_law_1333 ?_
  refine s_iadd A dL_law_1334 ?_
  refine z_tald A dL_law_1335 (Or.inr rfl) hn ⟨by omega, by omega⟩ ?_
  refine s_aload_nT A dL_law_1336 rfl ?_
  refine s_iload A dL_law_1337 rfl ?_
  refine s_iconst A dL_law_1339 ?_
  refine s_iadd A dL_law_1340 ?_
  refine z_tald A dL_law_1341 (Or.inr rfl) hn ⟨by omega, by omega⟩ ?_
  refine s_callV (a := 153) (k := 11) (N := 45) (sl := true) (M := mX11_slips) (n := 3) (d := 12) (mc := 0) (ms := 0) (av := [zI _, zI _, zI _]) (st := [zI v1]) A dL_law_1342 rfl (by decide) (zk_153 _) zwd1809 zwd1810 zwd1811 zwd101 zcd_X11_slips (Nat.le_of_ble_eq_true rfl) (Nat.le_of_ble_eq_true rfl) (Nat.le_of_ble_eq_true rfl) ⟨by show _ ≤ 601024; omega, by show _ ≤ 7293034; omega⟩ ⟨rfl, zhn_X11_slips⟩ rfl (Nat.le_of_ble_eq_true rfl) rfl (z_contI (fun v2 μ2 h => ?_) h)
  obtain ⟨e, h⟩ := h
  subst e
  exact z_icmp_same (tgt := 1691) A dL_law_1345 (by decide) h
theorem rL_greys (C : zJL G J) {i : Int} {μ : zM} {cn un : Nat} {l5 l6 l7 : Option zV} (hi : 0 ≤ i ∧ i + 4 < ((zst G 40).1 : Int)) (hn : (zst G 40).1 < 2147483648) (hb : cn + 43 ≤ 601024 ∧ un + 253 ≤ 7293034)
    (h : qX10_greys G (zsv G (i + 1)) (zsv G (i + 2)) μ (fun v1 μ1 => qX11_greys G (zsv G (i + 1)) (zsv G (i + 2)) μ1 (fun v2 μ2 => v1 = v2 ∧ J G 1691 (zLl i l5 l6 l7, [], μ2, cn, un)))) : J G 1350 (zLl i l5 l6 l7, [], μ, cn, un) := by
  obtain ⟨p, e, s, m, below, meth, c, args, Q, A, hX, rfl⟩ := C
  refine s_aload_n A dL_law_1350 rfl ?_
  refine s_aload_nT A dL_law_1351 rfl ?_
  refine s_iload A dL_law_1352 rfl ?_
  refine s_iconst A dL_law_1354 ?_
  refine s_iadd A dL_law_1355 ?_
  refine z_tald A dL_law_1356 (Or.inr rfl) hn ⟨by omega, by omega⟩ ?_
  refine s_aload_nT A dL_law_1357 rfl ?_
  refine s_iload A dL_law_1358 rfl ?_
  refine s_iconst A dL_law_1360 ?_
  refine s_iadd A dL_law_1361 ?_
  refine z_tald A dL_law_1362 (Or.inr rfl) hn ⟨by omega, by omega⟩ ?_
  refine s_callV (a := 0) (k := 10) (N := 15) (sl := true) (M := mX10_greys) (n := 2) (d := 12) (mc := 0) (ms := 0) (av := [zI _, zI _]) (st := []) A dL_law_1363 rfl (by decide) (zk_0 _) zwd1142 zwd1143 zwd1144 zwd90 zcd_X10_greys (Nat.le_of_ble_eq_true rfl) (Nat.le_of_ble_eq_true rfl) (Nat.le_of_ble_eq_true rfl) ⟨by show _ ≤ 601024; omega, by show _ ≤ 7293034; omega⟩ ⟨rfl, zhn_X10_greys⟩ rfl (Nat.le_of_ble_eq_true rfl) rfl (z_contI (fun v1 μ1 h => ?_) h)
  refine s_aload_n A dL_law_1366 rfl ?_
  refine s_aload_nT A dL_law_1367 rfl ?_
  refine s_iload A dL_law_1368 rfl ?_
  refine s_iconst A dL_law_1370 ?_
  refine s_iadd A dL_law_1371 ?_
  refine z_tald A dL_law_1372 (Or.inr rfl) hn ⟨by omega, by omega⟩ ?_
  refine s_aload_nT A dL_law_1373 rfl ?_
  refine s_iload A dL_law_1374 rfl ?_
  refine s_iconst A dL_law_1376 ?_
  refine s_iadd A dL_law_1377 ?_
  refine z_tald A dL_law_1378 (Or.inr rfl) hn ⟨by omega, by omega⟩ ?_
  refine s_callV (a := 153) (k := 11) (N := 45) (sl := true) (M := mX11_greys) (n := 2) (d := 12) (mc := 0) (ms := 0) (av := [zI _, zI _]) (st := [zI v1]) A dL_law_1379 rfl (by decide) (zk_153 _) zwd1813 zwd1814 zwd1815 zwd101 zcd_X11_greys (Nat.le_of_ble_eq_true rfl) (Nat.le_of_ble_eq_true rfl) (Nat.le_of_ble_eq_true rfl) ⟨by show _ ≤ 601024; omega, by show _ ≤ 7293034; omega⟩ ⟨rfl, zhn_X11_greys⟩ rfl (Nat.le_of_ble_eq_true rfl) rfl (z_contI (fun v2 μ2 h => ?_) h)
  obtain ⟨e, h⟩ := h
  subst e
  exact z_icmp_same (tgt := 1691) A dL_law_1382 (by decide) h
theorem rL_replaces (C : zJL G J) {i : Int} {μ : zM} {cn un : Nat} {l5 l6 l7 : Option zV} (hi : 0 ≤ i ∧ i + 4 < ((zst G 40).1 : Int)) (hn : (zst G 40).1 < 2147483648) (hb : cn + 43 ≤ 601024 ∧ un + 253 ≤ 7293034)
    (h : qX10_replaces G (zsv G (i + 1)) (zsv G (i + 2)) (zsv G (i + 3)) μ (fun v1 μ1 => qX11_replaces G (zsv G (i + 1)) (zsv G (i + 2)) (zsv G (i + 3)) μ1 (fun v2 μ2 => v1 = v2 ∧ J G 1691 (zLl i l5 l6 l7, [], μ2, cn, un)))) : J G 1387 (zLl i l5 l6 l7, [], μ, cn, un) := by
  obtain ⟨p, e, s, m, below, meth, c, args, Q, A, hX, rfl⟩ := C
  refine s_aload_n A dL_law_1387 rfl ?_
  refine s_aload_nT A dL_law_1388 rfl ?_
  refine s_iload A dL_law_1389 rfl ?_
  refine s_iconst A dL_law_1391 ?_
  refine s_iadd A dL_law_1392 ?_
  refine z_tald A dL_law_1393 (Or.inr rfl) hn ⟨by omega, by omega⟩ ?_
  refine s_aload_nT A dL_law_1394 rfl ?_
  refine s_iload A dL_law_1395 rfl ?_
  refine s_iconst A dL_law_1397 ?_
  refine s_iadd A dL_law_1398 ?_
  refine z_tald A dL_law_1399 (Or.inr rfl) hn ⟨by omega, by omega⟩ ?_
  refine s_aload_nT A dL_law_1400 rfl ?_
  refine s_iload A dL_law_1401 rfl ?_
  refine s_iconst A dL_law_1403 ?_
  refine s_iadd A dL_law_1404 ?_
  refine z_tald A dL_law_1405 (Or.inr rfl) hn ⟨by omega, by omega⟩ ?_
  refine s_callV (a := 0) (k := 10) (N := 15) (sl := true) (M := mX10_replaces) (n := 3) (d := 12) (mc := 0) (ms := 0) (av := [zI _, zI _, zI _]) (st := []) A dL_law_1406 rfl (by decide) (zk_0 _) zwd1156 zwd1157 zwd1158 zwd90 zcd_X10_replaces (Nat.le_of_ble_eq_true rfl) (Nat.le_of_ble_eq_true rfl) (Nat.le_of_ble_eq_true rfl) ⟨by show _ ≤ 601024; omega, by show _ ≤ 7293034; omega⟩ ⟨rfl, zhn_X10_replaces⟩ rfl (Nat.le_of_ble_eq_true rfl) rfl (z_contI (fun v1 μ1 h => ?_) h)
  refine s_aload_n A dL_law_1409 rfl ?_
  refine s_aload_nT A dL_law_1410 rfl ?_
  refine s_iload A dL_law_1411 rfl ?_
  refine s_iconst A dL_law_1413 ?_
  refine s_iadd A dL_law_1414 ?_
  refine z_tald A dL_law_1415 (Or.inr rfl) hn ⟨by omega, by omega⟩ ?_
  refine s_aload_nT A dL_law_1416 rfl ?_
  refine s_iload A dL_law_1417 rfl ?_
  refine s_iconst A dL_law_1419 ?_
  refine s_iadd A dL_law_1420 ?_
  refine z_tald A dL_law_1421 (Or.inr rfl) hn ⟨by omega, by omega⟩ ?_
  refine s_aload_nT A dL_law_1422 rfl ?_
  refine s_iload A dL_law_1423 rfl ?_
  refine s_iconst A dL_law_1425 ?_
  refine s_iadd A dL_law_1426 ?_
  refine z_tald A dL_law_1427 (Or.inr rfl) hn ⟨by omega, by omega⟩ ?_
  refine s_callV (a := 153) (k := 11) (N := 45) (sl := true) (M := mX11_replaces) (n := 3) (d := 12) (mc := 0) (ms := 0) (av := [zI _, zI _, zI _]) (st := [zI v1]) A dL_law_1428 rfl (by decide) (zk_153 _) zwd1825 zwd1826 zwd1827 zwd101 zcd_X11_replaces (Nat.le_of_ble_eq_true rfl) (Nat.le_of_ble_eq_true rfl) (Nat.le_of_ble_eq_true rfl) ⟨by show _ ≤ 601024; omega, by show _ ≤ 7293034; omega⟩ ⟨rfl, zhn_X11_replaces⟩ rfl (Nat.le_of_ble_eq_true rfl) rfl (z_contI (fun v2 μ2 h => ?_) h)
  obtain ⟨e, h⟩ := h
  subst e
  exact z_icmp_same (tgt := 1691) A dL_law_1431 (by decide) h
theorem rL_doubt (C : zJL G J) {i : Int} {μ : zM} {cn un : Nat} {l5 l6 l7 : Option zV} (hi : 0 ≤ i ∧ i + 4 < ((zst G 40).1 : Int)) (hn : (zst G 40).1 < 2147483648) (hb : cn + 43 ≤ 601024 ∧ un + 253 ≤ 7293034)
    (h : qX10_doubt G  μ (fun v1 μ1 => qX11_doubt G  μ1 (fun v2 μ2 => v1 = v2 ∧ J G 1691 (zLl i l5 l6 l7, [], μ2, cn, un)))) : J G 1436 (zLl i l5 l6 l7, [], μ, cn, un) := by
  obtain ⟨p, e, s, m, below, meth, c, args, Q, A, hX, rfl⟩ := C
  refine s_aload_n A dL_law_1436 rfl ?_
  refine s_callV (a := 0) (k := 10) (N := 15) (sl := true) (M := mX10_doubt) (n := 0) (d := 11) (mc := 0) (ms := 0) (av := []) (st := []) A dL_law_1437 rfl (by decide) (zk_0 _) zwd1163 zwd1164 zwd1165 zwd90 zcd_X10_doubt (Nat.le_of_ble_eq_true rfl) (Nat.le_of_ble_eq_true rfl) (Nat.le_of_ble_eq_true rfl) ⟨by show _ ≤ 601024; omega, by show _ ≤ 7293034; omega⟩ ⟨rfl, zhn_X10_doubt⟩ rfl (Nat.le_of_ble_eq_true rfl) rfl (z_contI (fun v1 μ1 h => ?_) h)
  refine s_aload_n A dL_law_1440 rfl ?_
  refine s_callV (a := 153) (k := 11) (N := 45) (sl := true) (M := mX11_doubt) (n := 0) (d := 9) (mc := 0) (ms := 0) (av := []) (st := [zI v1]) A dL_law_1441 rfl (by decide) (zk_153 _) zwd1832 zwd1833 zwd1834 zwd101 zcd_X11_doubt (Nat.le_of_ble_eq_true rfl) (Nat.le_of_ble_eq_true rfl) (Nat.le_of_ble_eq_true rfl) ⟨by show _ ≤ 601024; omega, by show _ ≤ 7293034; omega⟩ ⟨rfl, zhn_X11_doubt⟩ rfl (Nat.le_of_ble_eq_true rfl) rfl (z_contI (fun v2 μ2 h => ?_) h)
  obtain ⟨e, h⟩ := h
  subst e
  exact z_icmp_same (tgt := 1691) A dL_law_1444 (by decide) h
theorem rL_asks (C : zJL G J) {i : Int} {μ : zM} {cn un : Nat} {l5 l6 l7 : Option zV} (hi : 0 ≤ i ∧ i + 4 < ((zst G 40).1 : Int)) (hn : (zst G 40).1 < 2147483648) (hb : cn + 43 ≤ 601024 ∧ un + 253 ≤ 7293034)
    (h : qX10_asks G  μ (fun v1 μ1 => qX11_asks G  μ1 (fun v2 μ2 => v1 = v2 ∧ J G 1691 (zLl i l5 l6 l7, [], μ2, cn, un)))) : J G 1449 (zLl i l5 l6 l7, [], μ, cn, un) := by
  obtain ⟨p, e, s, m, below, meth, c, args, Q, A, hX, rfl⟩ := C
  refine s_aload_n A dL_law_1449 rfl ?_
  refine s_callV (a := 0) (k := 10) (N := 15) (sl := true) (M := mX10_asks) (n := 0) (d := 12) (mc := 0) (ms := 0) (av := []) (st := []) A dL_law_1450 rfl (by decide) (zk_0 _) zwd1172 zwd1173 zwd1174 zwd90 zcd_X10_asks (Nat.le_of_ble_eq_true rfl) (Nat.le_of_ble_eq_true rfl) (Nat.le_of_ble_eq_true rfl) ⟨by show _ ≤ 601024; omega, by show _ ≤ 7293034; omega⟩ ⟨rfl, zhn_X10_asks⟩ rfl (Nat.le_of_ble_eq_true rfl) rfl (z_contI (fun v1 μ1 h => ?_) h)
  refine s_aload_n A dL_law_1453 rfl ?_
  refine s_callV (a := 153) (k := 11) (N := 45) (sl := true) (M := mX11_asks) (n := 0) (d := 4) (mc := 0) (ms := 0) (av := []) (st := [zI v1]) A dL_law_1454 rfl (by decide) (zk_153 _) zwd1836 zwd1837 zwd1838 zwd101 zcd_X11_asks (Nat.le_of_ble_eq_true rfl) (Nat.le_of_ble_eq_true rfl) (Nat.le_of_ble_eq_true rfl) ⟨by show _ ≤ 601024; omega, by show _ ≤ 7293034; omega⟩ ⟨rfl, zhn_X11_asks⟩ rfl (Nat.le_of_ble_eq_true rfl) rfl (z_contI (fun v2 μ2 h => ?_) h)
  obtain ⟨e, h⟩ := h
  subst e
  exact z_icmp_same (tgt := 1691) A dL_law_1457 (by decide) h
theorem rL_other (C : zJL G J) {i : Int} {μ : zM} {cn un : Nat} {l5 l6 l7 : Option zV} (hi : 0 ≤ i ∧ i + 4 < ((zst G 40).1 : Int)) (hn : (zst G 40).1 < 2147483648) (hb : cn + 43 ≤ 601024 ∧ un + 253 ≤ 7293034)
    (h : qX10_other G (zsv G (i + 1)) μ (fun v1 μ1 => qX11_other G (zsv G (i + 1)) μ1 (fun v2 μ2 => v1 = v2 ∧ J G 1691 (zLl i l5 l6 l7, [], μ2, cn, un)))) : J G 1462 (zLl i l5 l6 l7, [], μ, cn, un) := by
  obtain ⟨p, e, s, m, below, meth, c, args, Q, A, hX, rfl⟩ := C
  refine s_aload_n A dL_law_1462 rfl ?_
  refine s_aload_nT A dL_law_1463 rfl ?_
  refine s_iload A dL_law_1464 rfl ?_
  refine s_iconst A dL_law_1466 ?_
  refine s_iadd A dL_law_1467 ?_
  refine z_tald A dL_law_1468 (Or.inr rfl) hn ⟨by omega, by omega⟩ ?_
  refine s_callV (a := 0) (k := 10) (N := 15) (sl := true) (M := mX10_other) (n := 1) (d := 12) (mc := 0) (ms := 0) (av := [zI _]) (st := []) A dL_law_1469 rfl (by decide) (zk_0 _) zwd1178 zwd1179 zwd1180 zwd90 zcd_X10_other (Nat.le_of_ble_eq_true rfl) (Nat.le_of_ble_eq_true rfl) (Nat.le_of_ble_eq_true rfl) ⟨by show _ ≤ 601024; omega, by show _ ≤ 7293034; omega⟩ ⟨rfl, zhn_X10_other⟩ rfl (Nat.le_of_ble_eq_true rfl) rfl (z_contI (fun v1 μ1 h => ?_) h)
  refine s_aload_n A dL_law_1472 rfl ?_
  refine s_aload_nT A dL_law_1473 rfl ?_
  refine s_iload A dL_law_1474 rfl ?_
  refine s_iconst A dL_law_1476 ?_
  refine s_iadd A dL_law_1477 ?_
  refine z_tald A dL_law_1478 (Or.inr rfl) hn ⟨by omega, by omega⟩ ?_
  refine s_callV (a := 153) (k := 11) (N := 45) (sl := true) (M := mX11_other) (n := 1) (d := 13) (mc := 0) (ms := 0) (av := [zI _]) (st := [zI v1]) A dL_law_1479 rfl (by decide) (zk_153 _) zwd1840 zwd1841 zwd1842 zwd101 zcd_X11_other (Nat.le_of_ble_eq_true rfl) (Nat.le_of_ble_eq_true rfl) (Nat.le_of_ble_eq_true rfl) ⟨by show _ ≤ 601024; omega, by show _ ≤ 7293034; omega⟩ ⟨rfl, zhn_X11_other⟩ rfl (Nat.le_of_ble_eq_true rfl) rfl (z_contI (fun v2 μ2 h => ?_) h)
  obtain ⟨e, h⟩ := h
  subst e
  exact z_icmp_same (tgt := 1691) A dL_law_1482 (by decide) h
theorem rL_carry (C : zJL G J) {i : Int} {μ : zM} {cn un : Nat} {l5 l6 l7 : Option zV} (hi : 0 ≤ i ∧ i + 4 < ((zst G 40).1 : Int)) (hn : (zst G 40).1 < 2147483648) (hb : cn + 43 ≤ 601024 ∧ un + 253 ≤ 7293034)
    (h : qX10_carry G (zsv G (i + 1)) (zsv G (i + 2)) μ (fun v1 μ1 => qX11_carry G (zsv G (i + 1)) (zsv G (i + 2)) μ1 (fun v2 μ2 => v1 = v2 ∧ J G 1691 (zLl i l5 l6 l7, [], μ2, cn, un)))) : J G 1487 (zLl i l5 l6 l7, [], μ, cn, un) := by
  obtain ⟨p, e, s, m, below, meth, c, args, Q, A, hX, rfl⟩ := C
  refine s_aload_n A dL_law_1487 rfl ?_
  refine s_aload_nT A dL_law_1488 rfl ?_
  refine s_iload A dL_law_1489 rfl ?_
  refine s_iconst A dL_law_1491 ?_
  refine s_iadd A dL_law_1492 ?_
  refine z_tald A dL_law_1493 (Or.inr rfl) hn ⟨by omega, by omega⟩ ?_
  refine s_aload_nT A dL_law_1494 rfl ?_
  refine s_iload A dL_law_1495 rfl ?_
  refine s_iconst A dL_law_1497 ?_
  refine s_iadd A dL_law_1498 ?_
  refine z_tald A dL_law_1499 (Or.inr rfl) hn ⟨by omega, by omega⟩ ?_
  refine s_callV (a := 0) (k := 10) (N := 15) (sl := true) (M := mX10_carry) (n := 2) (d := 12) (mc := 0) (ms := 0) (av := [zI _, zI _]) (st := []) A dL_law_1500 rfl (by decide) (zk_0 _) zwd1182 zwd1183 zwd1184 zwd90 zcd_X10_carry (Nat.le_of_ble_eq_true rfl) (Nat.le_of_ble_eq_true rfl) (Nat.le_of_ble_eq_true rfl) ⟨by show _ ≤ 601024; omega, by show _ ≤ 7293034; omega⟩ ⟨rfl, zhn_X10_carry⟩ rfl (Nat.le_of_ble_eq_true rfl) rfl (z_contI (fun v1 μ1 h => ?_) h)
  refine s_aload_n A dL_law_1503 rfl ?_
  refine s_aload_nT A dL_law_1504 rfl ?_
  refine s_iload A dL_law_1505 rfl ?_
  refine s_iconst A dL_law_1507 ?_
  refine s_iadd A dL_law_1508 ?_
  refine z_tald A dL_law_1509 (Or.inr rfl) hn ⟨by omega, by omega⟩ ?_
  refine s_aload_nT A dL_law_1510 rfl ?_
  refine s_iload A dL_law_1511 rfl ?_
  refine s_iconst A dL_law_1513 ?_
  refine s_iadd A dL_law_1514 ?_
  refine z_tald A dL_law_1515 (Or.inr rfl) hn ⟨by omega, by omega⟩ ?_
  refine s_callV (a := 153) (k := 11) (N := 45) (sl := true) (M := mX11_carry) (n := 2) (d := 13) (mc := 0) (ms := 0) (av := [zI _, zI _]) (st := [zI v1]) A dL_law_1516 rfl (by decide) (zk_153 _) zwd1848 zwd1849 zwd1850 zwd101 zcd_X11_carry (Nat.le_of_ble_eq_true rfl) (Nat.le_of_ble_eq_true rfl) (Nat.le_of_ble_eq_true rfl) ⟨by show _ ≤ 601024; omega, by show _ ≤ 7293034; omega⟩ ⟨rfl, zhn_X11_carry⟩ rfl (Nat.le_of_ble_eq_true rfl) rfl (z_contI (fun v2 μ2 h => ?_) h)
  obtain ⟨e, h⟩ := h
  subst e
  exact z_icmp_same (tgt := 1691) A dL_law_1519 (by decide) h
theorem rL_drifts (C : zJL G J) {i : Int} {μ : zM} {cn un : Nat} {l5 l6 l7 : Option zV} (hi : 0 ≤ i ∧ i + 4 < ((zst G 40).1 : Int)) (hn : (zst G 40).1 < 2147483648) (hb : cn + 43 ≤ 601024 ∧ un + 253 ≤ 7293034)
    (h : qX10_drifts G (zsv G (i + 1)) (zsv G (i + 2)) μ (fun v1 μ1 => qX11_drifts G (zsv G (i + 1)) (zsv G (i + 2)) μ1 (fun v2 μ2 => v1 = v2 ∧ J G 1691 (zLl i l5 l6 l7, [], μ2, cn, un)))) : J G 1524 (zLl i l5 l6 l7, [], μ, cn, un) := by
  obtain ⟨p, e, s, m, below, meth, c, args, Q, A, hX, rfl⟩ := C
  refine s_aload_n A dL_law_1524 rfl ?_
  refine s_aload_nT A dL_law_1525 rfl ?_
  refine s_iload A dL_law_1526 rfl ?_
  refine s_iconst A dL_law_1528 ?_
  refine s_iadd A dL_law_1529 ?_
  refine z_tald A dL_law_1530 (Or.inr rfl) hn ⟨by omega, by omega⟩ ?_
  refine s_aload_nT A dL_law_1531 rfl ?_
  refine s_iload A dL_law_1532 rfl ?_
  refine s_iconst A dL_law_1534 ?_
  refine s_iadd A dL_law_1535 ?_
  refine z_tald A dL_law_1536 (Or.inr rfl) hn ⟨by omega, by omega⟩ ?_
  refine s_callV (a := 0) (k := 10) (N := 15) (sl := true) (M := mX10_drifts) (n := 2) (d := 12) (mc := 0) (ms := 0) (av := [zI _, zI _]) (st := []) A dL_law_1537 rfl (by decide) (zk_0 _) zwd1186 zwd1187 zwd1188 zwd90 zcd_X10_drifts (Nat.le_of_ble_eq_true rfl) (Nat.le_of_ble_eq_true rfl) (Nat.le_of_ble_eq_true rfl) ⟨by show _ ≤ 601024; omega, by show _ ≤ 7293034; omega⟩ ⟨rfl, zhn_X10_drifts⟩ rfl (Nat.le_of_ble_eq_true rfl) rfl (z_contI (fun v1 μ1 h => ?_) h)
  refine s_aload_n A dL_law_1540 rfl ?_
  refine s_aload_nT A dL_law_1541 rfl ?_
  refine s_iload A dL_law_1542 rfl ?_
  refine s_iconst A dL_law_1544 ?_
  refine s_iadd A dL_law_1545 ?_
  refine z_tald A dL_law_1546 (Or.inr rfl) hn ⟨by omega, by omega⟩ ?_
  refine s_aload_nT A dL_law_1547 rfl ?_
  refine s_iload A dL_law_1548 rfl ?_
  refine s_iconst A dL_law_1550 ?_
  refine s_iadd A dL_law_1551 ?_
  refine z_tald A dL_law_1552 (Or.inr rfl) hn ⟨by omega, by omega⟩ ?_
  refine s_callV (a := 153) (k := 11) (N := 45) (sl := true) (M := mX11_drifts) (n := 2) (d := 12) (mc := 0) (ms := 0) (av := [zI _, zI _]) (st := [zI v1]) A dL_law_1553 rfl (by decide) (zk_153 _) zwd1852 zwd1853 zwd1854 zwd101 zcd_X11_drifts (Nat.le_of_ble_eq_true rfl) (Nat.le_of_ble_eq_true rfl) (Nat.le_of_ble_eq_true rfl) ⟨by show _ ≤ 601024; omega, by show _ ≤ 7293034; omega⟩ ⟨rfl, zhn_X11_drifts⟩ rfl (Nat.le_of_ble_eq_true rfl) rfl (z_contI (fun v2 μ2 h => ?_) h)
  obtain ⟨e, h⟩ := h
  subst e
  exact z_icmp_same (tgt := 1691) A dL_law_1556 (by decide) h
theorem rL_keep (C : zJL G J) {i : Int} {μ : zM} {cn un : Nat} {l5 l6 l7 : Option zV} (hi : 0 ≤ i ∧ i + 4 < ((zst G 40).1 : Int)) (hn : (zst G 40).1 < 2147483648) (hb : cn + 43 ≤ 601024 ∧ un + 253 ≤ 7293034)
    (h : qX10_keep G (zsv G (i + 1)) μ (fun v1 μ1 => qX11_keep G (zsv G (i + 1)) μ1 (fun v2 μ2 => v1 = v2 ∧ J G 1691 (zLl i l5 l6 l7, [], μ2, cn, un)))) : J G 1561 (zLl i l5 l6 l7, [], μ, cn, un) := by
  obtain ⟨p, e, s, m, below, meth, c, args, Q, A, hX, rfl⟩ := C
  refine s_aload_n A dL_law_1561 rfl ?_
  refine s_aload_nT A dL_law_1562 rfl ?_
  refine s_iload A dL_law_1563 rfl ?_
  refine s_iconst A dL_law_1565 ?_
  refine s_iadd A dL_law_1566 ?_
  refine z_tald A dL_law_1567 (Or.inr rfl) hn ⟨by omega, by omega⟩ ?_
  refine s_callV (a := 0) (k := 10) (N := 15) (sl := true) (M := mX10_keep) (n := 1) (d := 3) (mc := 0) (ms := 0) (av := [zI _]) (st := []) A dL_law_1568 rfl (by decide) (zk_0 _) zwd1198 zwd1199 zwd1200 zwd90 zcd_X10_keep (Nat.le_of_ble_eq_true rfl) (Nat.le_of_ble_eq_true rfl) (Nat.le_of_ble_eq_true rfl) ⟨by show _ ≤ 601024; omega, by show _ ≤ 7293034; omega⟩ ⟨rfl, zhn_X10_keep⟩ rfl (Nat.le_of_ble_eq_true rfl) rfl (z_contI (fun v1 μ1 h => ?_) h)
  refine s_aload_n A dL_law_1571 rfl ?_
  refine s_aload_nT A dL_law_1572 rfl ?_
  refine s_iload A dL_law_1573 rfl ?_
  refine s_iconst A dL_law_1575 ?_
  refine s_iadd A dL_law_1576 ?_
  refine z_tald A dL_law_1577 (Or.inr rfl) hn ⟨by omega, by omega⟩ ?_
  refine s_callV (a := 153) (k := 11) (N := 45) (sl := true) (M := mX11_keep) (n := 1) (d := 2) (mc := 0) (ms := 0) (av := [zI _]) (st := [zI v1]) A dL_law_1578 rfl (by decide) (zk_153 _) zwd1913 zwd1914 zwd1915 zwd101 zcd_X11_keep (Nat.le_of_ble_eq_true rfl) (Nat.le_of_ble_eq_true rfl) (Nat.le_of_ble_eq_true rfl) ⟨by show _ ≤ 601024; omega, by show _ ≤ 7293034; omega⟩ ⟨rfl, zhn_X11_keep⟩ rfl (Nat.le_of_ble_eq_true rfl) rfl (z_contI (fun v2 μ2 h => ?_) h)
  obtain ⟨e, h⟩ := h
  subst e
  exact z_icmp_same (tgt := 1691) A dL_law_1581 (by decide) h
theorem rL_again (C : zJL G J) {i : Int} {μ : zM} {cn un : Nat} {l5 l6 l7 : Option zV} (hi : 0 ≤ i ∧ i + 4 < ((zst G 40).1 : Int)) (hn : (zst G 40).1 < 2147483648) (hb : cn + 43 ≤ 601024 ∧ un + 253 ≤ 7293034)
    (h : qX10_again G (zsv G (i + 1)) μ (fun v1 μ1 => qX11_again G (zsv G (i + 1)) μ1 (fun v2 μ2 => v1 = v2 ∧ J G 1691 (zLl i l5 l6 l7, [], μ2, cn, un)))) : J G 1586 (zLl i l5 l6 l7, [], μ, cn, un) := by
  obtain ⟨p, e, s, m, below, meth, c, args, Q, A, hX, rfl⟩ := C
  refine s_aload_n A dL_law_1586 rfl ?_
  refine s_aload_nT A dL_law_1587 rfl ?_
  refine s_iload A dL_law_1588 rfl ?_
  refine s_iconst A dL_law_1590 ?_
  refine s_iadd A dL_law_1591 ?_
  refine z_tald A dL_law_1592 (Or.inr rfl) hn ⟨by omega, by omega⟩ ?_
  refine s_callV (a := 0) (k := 10) (N := 15) (sl := true) (M := mX10_again) (n := 1) (d := 3) (mc := 0) (ms := 0) (av := [zI _]) (st := []) A dL_law_1593 rfl (by decide) (zk_0 _) zwd1202 zwd1203 zwd1204 zwd90 zcd_X10_again (Nat.le_of_ble_eq_true rfl) (Nat.le_of_ble_eq_true rfl) (Nat.le_of_ble_eq_true rfl) ⟨by show _ ≤ 601024; omega, by show _ ≤ 7293034; omega⟩ ⟨rfl, zhn_X10_again⟩ rfl (Nat.le_of_ble_eq_true rfl) rfl (z_contI (fun v1 μ1 h => ?_) h)
  refine s_aload_n A dL_law_1596 rfl ?_
  refine s_aload_nT A dL_law_1597 rfl ?_
  refine s_iload A dL_law_1598 rfl ?_
  refine s_iconst A dL_law_1600 ?_
  refine s_iadd A dL_law_1601 ?_
  refine z_tald A dL_law_1602 (Or.inr rfl) hn ⟨by omega, by omega⟩ ?_
  refine s_callV (a := 153) (k := 11) (N := 45) (sl := true) (M := mX11_again) (n := 1) (d := 2) (mc := 0) (ms := 0) (av := [zI _]) (st := [zI v1]) A dL_law_1603 rfl (by decide) (zk_153 _) zwd1917 zwd1918 zwd1919 zwd101 zcd_X11_again (Nat.le_of_ble_eq_true rfl) (Nat.le_of_ble_eq_true rfl) (Nat.le_of_ble_eq_true rfl) ⟨by show _ ≤ 601024; omega, by show _ ≤ 7293034; omega⟩ ⟨rfl, zhn_X11_again⟩ rfl (Nat.le_of_ble_eq_true rfl) rfl (z_contI (fun v2 μ2 h => ?_) h)
  obtain ⟨e, h⟩ := h
  subst e
  exact z_icmp_same (tgt := 1691) A dL_law_1606 (by decide) h
theorem rL_count (C : zJL G J) {i : Int} {μ : zM} {cn un : Nat} {l5 l6 l7 : Option zV} (hi : 0 ≤ i ∧ i + 4 < ((zst G 40).1 : Int)) (hn : (zst G 40).1 < 2147483648) (hb : cn + 43 ≤ 601024 ∧ un + 253 ≤ 7293034)
    (h : qX10_count G (zsv G (i + 1)) μ (fun v1 μ1 => qX11_count G (zsv G (i + 1)) μ1 (fun v2 μ2 => v1 = v2 ∧ J G 1691 (zLl i l5 l6 l7, [], μ2, cn, un)))) : J G 1611 (zLl i l5 l6 l7, [], μ, cn, un) := by
  obtain ⟨p, e, s, m, below, meth, c, args, Q, A, hX, rfl⟩ := C
  refine s_aload_n A dL_law_1611 rfl ?_
  refine s_aload_nT A dL_law_1612 rfl ?_
  refine s_iload A dL_law_1613 rfl ?_
  refine s_iconst A dL_law_1615 ?_
  refine s_iadd A dL_law_1616 ?_
  refine z_tald A dL_law_1617 (Or.inr rfl) hn ⟨by omega, by omega⟩ ?_
  refine s_callV (a := 0) (k := 10) (N := 15) (sl := true) (M := mX10_count) (n := 1) (d := 2) (mc := 0) (ms := 0) (av := [zI _]) (st := []) A dL_law_1618 rfl (by decide) (zk_0 _) zwd1206 zwd1207 zwd1208 zwd90 zcd_X10_count (Nat.le_of_ble_eq_true rfl) (Nat.le_of_ble_eq_true rfl) (Nat.le_of_ble_eq_true rfl) ⟨by show _ ≤ 601024; omega, by show _ ≤ 7293034; omega⟩ ⟨rfl, zhn_X10_count⟩ rfl (Nat.le_of_ble_eq_true rfl) rfl (z_contI (fun v1 μ1 h => ?_) h)
  refine s_aload_n A dL_law_1621 rfl ?_
  refine s_aload_nT A dL_law_1622 rfl ?_
  refine s_iload A dL_law_1623 rfl ?_
  refine s_iconst A dL_law_1625 ?_
  refine s_iadd A dL_law_1626 ?_
  refine z_tald A dL_law_1627 (Or.inr rfl) hn ⟨by omega, by omega⟩ ?_
  refine s_callV (a := 153) (k := 11) (N := 45) (sl := true) (M := mX11_count) (n := 1) (d := 2) (mc := 0) (ms := 0) (av := [zI _]) (st := [zI v1]) A dL_law_1628 rfl (by decide) (zk_153 _) zwd1921 zwd1922 zwd1923 zwd101 zcd_X11_count (Nat.le_of_ble_eq_true rfl) (Nat.le_of_ble_eq_true rfl) (Nat.le_of_ble_eq_true rfl) ⟨by show _ ≤ 601024; omega, by show _ ≤ 7293034; omega⟩ ⟨rfl, zhn_X11_count⟩ rfl (Nat.le_of_ble_eq_true rfl) rfl (z_contI (fun v2 μ2 h => ?_) h)
  obtain ⟨e, h⟩ := h
  subst e
  exact z_icmp_same (tgt := 1691) A dL_law_1631 (by decide) h
theorem rL_light (C : zJL G J) {i : Int} {μ : zM} {cn un : Nat} {l5 l6 l7 : Option zV} (hi : 0 ≤ i ∧ i + 4 < ((zst G 40).1 : Int)) (hn : (zst G 40).1 < 2147483648) (hb : cn + 43 ≤ 601024 ∧ un + 253 ≤ 7293034) (h5 : zLi l5) (h6 : zLi l6) (h7 : zLi l7) {P : Int → zM → Prop}
    (h : zRunH G mL_light zh_light [zR (some 0), zI (zsv G (i + 1)), zI (zsv G (i + 2)), zR (some 181)] μ (zKI P))
    (h2 : ∀ G2, zGx G G2 → ∀ k μ1, P k μ1 → zin k ∧ qX11_light G2 (zsv G2 (i + 1)) (zsv G2 (i + 2)) μ1 (fun v2 μ2 => zin v2 ∧ qX11_thrown G2 μ2 (fun v3 μ3 => v3 = k ∧ (k = 0 → zi μ3 181 0 = v2) ∧ J G2 1691 (zLl i (some (zI k)) (some (zI v2)) l7, [], μ3, cn + 1, un + 6)))) : J G 338 (zLl i l5 l6 l7, [], μ, cn, un) := by
  obtain ⟨p, e, s, m, below, meth, c, args, Q, A, hX, rfl⟩ := C
  refine s_aload_n A dL_law_338 rfl ?_
  refine s_aload_nT A dL_law_339 rfl ?_
  refine s_iload A dL_law_340 rfl ?_
  refine s_iconst A dL_law_342 ?_
  refine s_iadd A dL_law_343 ?_
  refine z_tald A dL_law_344 (Or.inr rfl) hn ⟨by omega, by omega⟩ ?_
  refine s_aload_nT A dL_law_345 rfl ?_
  refine s_iload A dL_law_346 rfl ?_
  refine s_iconst A dL_law_348 ?_
  refine s_iadd A dL_law_349 ?_
  refine z_tald A dL_law_350 (Or.inr rfl) hn ⟨by omega, by omega⟩ ?_
  refine s_aload_n A dL_law_351 rfl ?_
  refine zx_callH (M := mL_light) (hh := zh_light) (n := 4) (av := [zR (some 0), zI _, zI _, zR (some 181)]) (st := []) A hX dL_law_352 zwd1211 zwd1212 zwd89 zcd_L_light (Nat.le_of_ble_eq_true rfl) (Nat.le_of_ble_eq_true rfl) (Nat.le_of_ble_eq_true rfl) ⟨by show _ ≤ 601024; omega, by show _ ≤ 7293034; omega⟩ zhn_L_light rfl (Nat.le_of_ble_eq_true rfl) rfl h (fun G2 hg => ⟨zLl_gx hg h5 h6 h7, fun v hv => absurd hv (by simp)⟩) ?_
  rintro G2 hg r μ1 ⟨k, rfl, hk⟩
  obtain ⟨ok, h⟩ := h2 G2 hg k μ1 hk
  have A2 := zAm_gx hg A
  have hn2 : (zst G2 40).1 < 2147483648 := by rw [zst_gx hg]; exact hn
  have hi2 : 0 ≤ i ∧ i + 4 < ((zst G2 40).1 : Int) := by rw [zst_gx hg]; exact hi
  refine s_istore (L' := zLl i (some (zI k)) l6 l7) A2 dL_law_355 (Nat.le_of_ble_eq_true rfl) rfl ?_
  refine s_aload_n A2 dL_law_357 rfl ?_
  refine s_aload_nT A2 dL_law_358 rfl ?_
  refine s_iload A2 dL_law_359 rfl ?_
  refine s_iconst A2 dL_law_361 ?_
  refine s_iadd A2 dL_law_362 ?_
  refine z_tald A2 dL_law_363 (Or.inr rfl) hn2 ⟨by omega, by omega⟩ ?_
  refine s_aload_nT A2 dL_law_364 rfl ?_
  refine s_iload A2 dL_law_365 rfl ?_
  refine s_iconst A2 dL_law_367 ?_
  refine s_iadd A2 dL_law_368 ?_
  refine z_tald A2 dL_law_369 (Or.inr rfl) hn2 ⟨by omega, by omega⟩ ?_
  refine s_callV (a := 153) (k := 11) (N := 45) (sl := true) (M := mX11_light) (n := 2) (d := 10) (mc := 0) (ms := 0) (av := [zI _, zI _]) (st := []) A2 dL_law_370 rfl (by decide) (zk_153 _) zwd1567 zwd1568 zwd1569 zwd101 zcd_X11_light (Nat.le_of_ble_eq_true rfl) (Nat.le_of_ble_eq_true rfl) (Nat.le_of_ble_eq_true rfl) ⟨by show _ ≤ 601024; omega, by show _ ≤ 7293034; omega⟩ ⟨rfl, zhn_X11_light⟩ rfl (Nat.le_of_ble_eq_true rfl) rfl (z_contI (fun v2 μ2 h => ?_) h)
  obtain ⟨o2, h⟩ := h
  refine s_istore (L' := zLl i (some (zI k)) (some (zI v2)) l7) A2 dL_law_373 (Nat.le_of_ble_eq_true rfl) rfl ?_
  refine s_aload_n A2 dL_law_375 rfl ?_
  refine s_callV (a := 153) (k := 11) (N := 45) (sl := true) (M := mX11_thrown) (n := 0) (d := 0) (mc := 0) (ms := 0) (av := []) (st := []) A2 dL_law_376 rfl (by decide) (zk_153 _) zwd1449 zwd1450 zwd1451 zwd101 zcd_X11_thrown (Nat.le_of_ble_eq_true rfl) (Nat.le_of_ble_eq_true rfl) (Nat.le_of_ble_eq_true rfl) ⟨by show _ ≤ 601024; omega, by show _ ≤ 7293034; omega⟩ ⟨rfl, zhn_X11_thrown⟩ rfl (Nat.le_of_ble_eq_true rfl) rfl (z_contI (fun v3 μ3 h => ?_) h)
  obtain ⟨e3, e4, h⟩ := h
  subst e3
  refine s_iload A2 dL_law_379 rfl ?_
  refine z_icmp_same (tgt := 386) A2 dL_law_381 (by decide) ?_
  refine s_iload A2 dL_law_386 rfl ?_
  refine z_if_ne (tgt := 403) A2 dL_law_388 (by decide) ok (fun _ => ?_) (fun c => ?_)
  · refine s_goto (tgt := 1691) A2 dL_law_403 (by decide) h
  · have e5 := e4 c
    subst e5
    refine s_aload_n A2 dL_law_391 rfl ?_
    refine s_iconst A2 dL_law_392 ?_
    refine z_lald A2 dL_law_393 (zk_181 _) (Nat.le_of_ble_eq_true rfl) (by decide) ?_
    refine s_iload A2 dL_law_394 rfl ?_
    refine z_i2l2 A2 dL_law_396 o2 ?_
    refine z_lc_same (tgt := 403) A2 dL_law_397 dL_law_398 (by decide) ?_
    refine s_goto (tgt := 1691) A2 dL_law_403 (by decide) h
theorem rL_bent (C : zJL G J) {i : Int} {μ : zM} {cn un : Nat} {l5 l6 l7 : Option zV} (hi : 0 ≤ i ∧ i + 4 < ((zst G 40).1 : Int)) (hn : (zst G 40).1 < 2147483648) (hb : cn + 43 ≤ 601024 ∧ un + 253 ≤ 7293034) (h5 : zLi l5) (h6 : zLi l6) (h7 : zLi l7) {P : Int → zM → Prop}
    (h : zRunH G mL_bent zh_light [zR (some 0), zI (zsv G (i + 1)), zI (zsv G (i + 2)), zR (some 181)] μ (zKI P))
    (h2 : ∀ G2, zGx G G2 → ∀ k μ1, P k μ1 → zin k ∧ qX11_bent G2 (zsv G2 (i + 1)) (zsv G2 (i + 2)) μ1 (fun v2 μ2 => zin v2 ∧ qX11_thrown G2 μ2 (fun v3 μ3 => v3 = k ∧ (k = 0 → zi μ3 181 0 = v2) ∧ J G2 1691 (zLl i (some (zI k)) (some (zI v2)) l7, [], μ3, cn + 1, un + 6)))) : J G 406 (zLl i l5 l6 l7, [], μ, cn, un) := by
  obtain ⟨p, e, s, m, below, meth, c, args, Q, A, hX, rfl⟩ := C
  refine s_aload_n A dL_law_406 rfl ?_
  refine s_aload_nT A dL_law_407 rfl ?_
  refine s_iload A dL_law_408 rfl ?_
  refine s_iconst A dL_law_410 ?_
  refine s_iadd A dL_law_411 ?_
  refine z_tald A dL_law_412 (Or.inr rfl) hn ⟨by omega, by omega⟩ ?_
  refine s_aload_nT A dL_law_413 rfl ?_
  refine s_iload A dL_law_414 rfl ?_
  refine s_iconst A dL_law_416 ?_
  refine s_iadd A dL_law_417 ?_
  refine z_tald A dL_law_418 (Or.inr rfl) hn ⟨by omega, by omega⟩ ?_
  refine s_aload_n A dL_law_419 rfl ?_
  refine zx_callH (M := mL_bent) (hh := zh_light) (n := 4) (av := [zR (some 0), zI _, zI _, zR (some 181)]) (st := []) A hX dL_law_420 zwd1282 zwd1283 zwd89 zcd_L_bent (Nat.le_of_ble_eq_true rfl) (Nat.le_of_ble_eq_true rfl) (Nat.le_of_ble_eq_true rfl) ⟨by show _ ≤ 601024; omega, by show _ ≤ 7293034; omega⟩ zhn_L_bent rfl (Nat.le_of_ble_eq_true rfl) rfl h (fun G2 hg => ⟨zLl_gx hg h5 h6 h7, fun v hv => absurd hv (by simp)⟩) ?_
  rintro G2 hg r μ1 ⟨k, rfl, hk⟩
  obtain ⟨ok, h⟩ := h2 G2 hg k μ1 hk
  have A2 := zAm_gx hg A
  have hn2 : (zst G2 40).1 < 2147483648 := by rw [zst_gx hg]; exact hn
  have hi2 : 0 ≤ i ∧ i + 4 < ((zst G2 40).1 : Int) := by rw [zst_gx hg]; exact hi
  refine s_istore (L' := zLl i (some (zI k)) l6 l7) A2 dL_law_423 (Nat.le_of_ble_eq_true rfl) rfl ?_
  refine s_aload_n A2 dL_law_425 rfl ?_
  refine s_aload_nT A2 dL_law_426 rfl ?_
  refine s_iload A2 dL_law_427 rfl ?_
  refine s_iconst A2 dL_law_429 ?_
  refine s_iadd A2 dL_law_430 ?_
  refine z_tald A2 dL_law_431 (Or.inr rfl) hn2 ⟨by omega, by omega⟩ ?_
  refine s_aload_nT A2 dL_law_432 rfl ?_
  refine s_iload A2 dL_law_433 rfl ?_
  refine s_iconst A2 dL_law_435 ?_
  refine s_iadd A2 dL_law_436 ?_
  refine z_tald A2 dL_law_437 (Or.inr rfl) hn2 ⟨by omega, by omega⟩ ?_
  refine s_callV (a := 153) (k := 11) (N := 45) (sl := true) (M := mX11_bent) (n := 2) (d := 3) (mc := 0) (ms := 0) (av := [zI _, zI _]) (st := []) A2 dL_law_438 rfl (by decide) (zk_153 _) zwd1585 zwd1586 zwd1587 zwd101 zcd_X11_bent (Nat.le_of_ble_eq_true rfl) (Nat.le_of_ble_eq_true rfl) (Nat.le_of_ble_eq_true rfl) ⟨by show _ ≤ 601024; omega, by show _ ≤ 7293034; omega⟩ ⟨rfl, zhn_X11_bent⟩ rfl (Nat.le_of_ble_eq_true rfl) rfl (z_contI (fun v2 μ2 h => ?_) h)
  obtain ⟨o2, h⟩ := h
  refine s_istore (L' := zLl i (some (zI k)) (some (zI v2)) l7) A2 dL_law_441 (Nat.le_of_ble_eq_true rfl) rfl ?_
  refine s_aload_n A2 dL_law_443 rfl ?_
  refine s_callV (a := 153) (k := 11) (N := 45) (sl := true) (M := mX11_thrown) (n := 0) (d := 0) (mc := 0) (ms := 0) (av := []) (st := []) A2 dL_law_444 rfl (by decide) (zk_153 _) zwd1449 zwd1450 zwd1451 zwd101 zcd_X11_thrown (Nat.le_of_ble_eq_true rfl) (Nat.le_of_ble_eq_true rfl) (Nat.le_of_ble_eq_true rfl) ⟨by show _ ≤ 601024; omega, by show _ ≤ 7293034; omega⟩ ⟨rfl, zhn_X11_thrown⟩ rfl (Nat.le_of_ble_eq_true rfl) rfl (z_contI (fun v3 μ3 h => ?_) h)
  obtain ⟨e3, e4, h⟩ := h
  subst e3
  refine s_iload A2 dL_law_447 rfl ?_
  refine z_icmp_same (tgt := 454) A2 dL_law_449 (by decide) ?_
  refine s_iload A2 dL_law_454 rfl ?_
  refine z_if_ne (tgt := 471) A2 dL_law_456 (by decide) ok (fun _ => ?_) (fun c => ?_)
  · refine s_goto (tgt := 1691) A2 dL_law_471 (by decide) h
  · have e5 := e4 c
    subst e5
    refine s_aload_n A2 dL_law_459 rfl ?_
    refine s_iconst A2 dL_law_460 ?_
    refine z_lald A2 dL_law_461 (zk_181 _) (Nat.le_of_ble_eq_true rfl) (by decide) ?_
    refine s_iload A2 dL_law_462 rfl ?_
    refine z_i2l2 A2 dL_law_464 o2 ?_
    refine z_lc_same (tgt := 471) A2 dL_law_465 dL_law_466 (by decide) ?_
    refine s_goto (tgt := 1691) A2 dL_law_471 (by decide) h
theorem rL_row (C : zJL G J) {i : Int} {μ : zM} {cn un : Nat} {l5 l6 l7 : Option zV} (hi : 0 ≤ i ∧ i + 4 < ((zst G 40).1 : Int)) (hn : (zst G 40).1 < 2147483648) (hb : cn + 43 ≤ 601024 ∧ un + 253 ≤ 7293034) (h5 : zLi l5) (h6 : zLi l6) (h7 : zLi l7) {P : Int → zM → Prop}
    (h : zRunH G mL_row zh_row [zR (some 0), zI (zsv G (i + 1)), zR (some 181)] μ (zKI P))
    (h2 : ∀ G2, zGx G G2 → ∀ k μ1, P k μ1 → zin k ∧ qX11_row G2 (zsv G2 (i + 1)) μ1 (fun v2 μ2 => qX11_thrown G2 μ2 (fun v3 μ3 => v3 = k ∧ (k = 0 → zi μ3 181 0 = v2) ∧ J G2 1691 (zLl i (some (zI k)) (some (zL v2)) none, [], μ3, cn + 1, un + 6)))) : J G 1636 (zLl i l5 l6 l7, [], μ, cn, un) := by
  obtain ⟨p, e, s, m, below, meth, c, args, Q, A, hX, rfl⟩ := C
  refine s_aload_n A dL_law_1636 rfl ?_
  refine s_aload_nT A dL_law_1637 rfl ?_
  refine s_iload A dL_law_1638 rfl ?_
  refine s_iconst A dL_law_1640 ?_
  refine s_iadd A dL_law_1641 ?_
  refine z_tald A dL_law_1642 (Or.inr rfl) hn ⟨by omega, by omega⟩ ?_
  refine s_aload_n A dL_law_1643 rfl ?_
  refine zx_callH (M := mL_row) (hh := zh_row) (n := 3) (av := [zR (some 0), zI _, zR (some 181)]) (st := []) A hX dL_law_1644 zwd1289 zwd1290 zwd89 zcd_L_row (Nat.le_of_ble_eq_true rfl) (Nat.le_of_ble_eq_true rfl) (Nat.le_of_ble_eq_true rfl) ⟨by show _ ≤ 601024; omega, by show _ ≤ 7293034; omega⟩ zhn_L_row rfl (Nat.le_of_ble_eq_true rfl) rfl h (fun G2 hg => ⟨zLl_gx hg h5 h6 h7, fun v hv => absurd hv (by simp)⟩) ?_
  rintro G2 hg r μ1 ⟨k, rfl, hk⟩
  obtain ⟨ok, h⟩ := h2 G2 hg k μ1 hk
  have A2 := zAm_gx hg A
  have hn2 : (zst G2 40).1 < 2147483648 := by rw [zst_gx hg]; exact hn
  have hi2 : 0 ≤ i ∧ i + 4 < ((zst G2 40).1 : Int) := by rw [zst_gx hg]; exact hi
  refine s_istore (L' := zLl i (some (zI k)) l6 l7) A2 dL_law_1647 (Nat.le_of_ble_eq_true rfl) rfl ?_
  refine s_aload_n A2 dL_law_1649 rfl ?_
  refine s_aload_nT A2 dL_law_1650 rfl ?_
  refine s_iload A2 dL_law_1651 rfl ?_
  refine s_iconst A2 dL_law_1653 ?_
  refine s_iadd A2 dL_law_1654 ?_
  refine z_tald A2 dL_law_1655 (Or.inr rfl) hn2 ⟨by omega, by omega⟩ ?_
  refine s_callV (a := 153) (k := 11) (N := 45) (sl := true) (M := mX11_row) (n := 1) (d := 2) (mc := 0) (ms := 0) (av := [zI _]) (st := []) A2 dL_law_1656 rfl (by decide) (zk_153 _) zwd1925 zwd1926 zwd1927 zwd101 zcd_X11_row (Nat.le_of_ble_eq_true rfl) (Nat.le_of_ble_eq_true rfl) (Nat.le_of_ble_eq_true rfl) ⟨by show _ ≤ 601024; omega, by show _ ≤ 7293034; omega⟩ ⟨rfl, zhn_X11_row⟩ rfl (Nat.le_of_ble_eq_true rfl) rfl (z_contL (fun v2 μ2 h => ?_) h)
  refine s_lstore (L' := zLl i (some (zI k)) (some (zL v2)) none) A2 dL_law_1659 (Nat.le_of_ble_eq_true rfl) rfl ?_
  refine s_aload_n A2 dL_law_1661 rfl ?_
  refine s_callV (a := 153) (k := 11) (N := 45) (sl := true) (M := mX11_thrown) (n := 0) (d := 0) (mc := 0) (ms := 0) (av := []) (st := []) A2 dL_law_1662 rfl (by decide) (zk_153 _) zwd1449 zwd1450 zwd1451 zwd101 zcd_X11_thrown (Nat.le_of_ble_eq_true rfl) (Nat.le_of_ble_eq_true rfl) (Nat.le_of_ble_eq_true rfl) ⟨by show _ ≤ 601024; omega, by show _ ≤ 7293034; omega⟩ ⟨rfl, zhn_X11_thrown⟩ rfl (Nat.le_of_ble_eq_true rfl) rfl (z_contI (fun v3 μ3 h => ?_) h)
  obtain ⟨e3, e4, h⟩ := h
  subst e3
  refine s_iload A2 dL_law_1665 rfl ?_
  refine z_icmp_same (tgt := 1672) A2 dL_law_1667 (by decide) ?_
  refine s_iload A2 dL_law_1672 rfl ?_
  refine z_if_ne (tgt := 1688) A2 dL_law_1674 (by decide) ok (fun _ => ?_) (fun c => ?_)
  · refine s_goto (tgt := 1691) A2 dL_law_1688 (by decide) h
  · have e5 := e4 c
    subst e5
    refine s_aload_n A2 dL_law_1677 rfl ?_
    refine s_iconst A2 dL_law_1678 ?_
    refine z_lald A2 dL_law_1679 (zk_181 _) (Nat.le_of_ble_eq_true rfl) (by decide) ?_
    refine s_lload A2 dL_law_1680 rfl ?_
    refine z_lc_same (tgt := 1688) A2 dL_law_1682 dL_law_1683 (by decide) ?_
    refine s_goto (tgt := 1691) A2 dL_law_1688 (by decide) h
end
