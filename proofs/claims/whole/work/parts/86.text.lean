/-! Strings: constants and what the JDK does with them -/
theorem zwx101 : (Jvm.Cond.initialized "java/lang/String") ∈ zTw := zTw_mem (List.mem_of_getElem? (i := 101) (by decide +kernel)) rfl
theorem zwx102 : (Jvm.Cond.initialized "java/lang/StringLatin1") ∈ zTw := zTw_mem (List.mem_of_getElem? (i := 102) (by decide +kernel)) rfl
theorem zwx103 : (Jvm.Cond.initialized "jdk/internal/util/Preconditions") ∈ zTw := zTw_mem (List.mem_of_getElem? (i := 103) (by decide +kernel)) rfl
theorem zwx105 : (Jvm.Cond.initialized "java/lang/Math") ∈ zTw := zTw_mem (List.mem_of_getElem? (i := 105) (by decide +kernel)) rfl
theorem zwx406 : (Jvm.Cond.instanceMethod ({ cls := "java/lang/String", name := "length", desc := "()I" } : Jvm.MethodName)) ∈ zTw := zTw_mem (List.mem_of_getElem? (i := 406) (by decide +kernel)) rfl
theorem zwx407 : (Jvm.Cond.selects "java/lang/String" ({ cls := "java/lang/String", name := "length", desc := "()I" } : Jvm.MethodName) ({ cls := "java/lang/String", name := "length", desc := "()I" } : Jvm.MethodName)) ∈ zTw := zTw_mem (List.mem_of_getElem? (i := 407) (by decide +kernel)) rfl
theorem zwx409 : (Jvm.Cond.methodLink "java/lang/String" (335 : Nat) ({ cls := "java/lang/String", name := "coder", desc := "()B" } : Jvm.MethodName)) ∈ zTw := zTw_mem (List.mem_of_getElem? (i := 409) (by decide +kernel)) rfl
theorem zwx410 : (Jvm.Cond.instanceMethod ({ cls := "java/lang/String", name := "coder", desc := "()B" } : Jvm.MethodName)) ∈ zTw := zTw_mem (List.mem_of_getElem? (i := 410) (by decide +kernel)) rfl
theorem zwx411 : (Jvm.Cond.selects "java/lang/String" ({ cls := "java/lang/String", name := "coder", desc := "()B" } : Jvm.MethodName) ({ cls := "java/lang/String", name := "coder", desc := "()B" } : Jvm.MethodName)) ∈ zTw := zTw_mem (List.mem_of_getElem? (i := 411) (by decide +kernel)) rfl
theorem zwx413 : (Jvm.Cond.fieldLink "java/lang/String" (38 : Nat) "java/lang/String" "COMPACT_STRINGS" "Z") ∈ zTw := zTw_mem (List.mem_of_getElem? (i := 413) (by decide +kernel)) rfl
theorem zwx449 : (Jvm.Cond.methodLink "java/lang/String" (492 : Nat) ({ cls := "java/lang/String", name := "isLatin1", desc := "()Z" } : Jvm.MethodName)) ∈ zTw := zTw_mem (List.mem_of_getElem? (i := 449) (by decide +kernel)) rfl
theorem zwx450 : (Jvm.Cond.instanceMethod ({ cls := "java/lang/String", name := "isLatin1", desc := "()Z" } : Jvm.MethodName)) ∈ zTw := zTw_mem (List.mem_of_getElem? (i := 450) (by decide +kernel)) rfl
theorem zwx451 : (Jvm.Cond.selects "java/lang/String" ({ cls := "java/lang/String", name := "isLatin1", desc := "()Z" } : Jvm.MethodName) ({ cls := "java/lang/String", name := "isLatin1", desc := "()Z" } : Jvm.MethodName)) ∈ zTw := zTw_mem (List.mem_of_getElem? (i := 451) (by decide +kernel)) rfl
theorem zwx453 : (Jvm.Cond.methodLink "java/lang/String" (495 : Nat) ({ cls := "java/lang/StringLatin1", name := "charAt", desc := "([BI)C" } : Jvm.MethodName)) ∈ zTw := zTw_mem (List.mem_of_getElem? (i := 453) (by decide +kernel)) rfl
theorem zwx454 : (Jvm.Cond.static ({ cls := "java/lang/StringLatin1", name := "charAt", desc := "([BI)C" } : Jvm.MethodName)) ∈ zTw := zTw_mem (List.mem_of_getElem? (i := 454) (by decide +kernel)) rfl
theorem zwx456 : (Jvm.Cond.methodLink "java/lang/StringLatin1" (9 : Nat) ({ cls := "java/lang/String", name := "checkIndex", desc := "(II)V" } : Jvm.MethodName)) ∈ zTw := zTw_mem (List.mem_of_getElem? (i := 456) (by decide +kernel)) rfl
theorem zwx457 : (Jvm.Cond.static ({ cls := "java/lang/String", name := "checkIndex", desc := "(II)V" } : Jvm.MethodName)) ∈ zTw := zTw_mem (List.mem_of_getElem? (i := 457) (by decide +kernel)) rfl
theorem zwx459 : (Jvm.Cond.fieldLink "java/lang/String" (1053 : Nat) "jdk/internal/util/Preconditions" "SIOOBE_FORMATTER" "Ljava/util/function/BiFunction;") ∈ zTw := zTw_mem (List.mem_of_getElem? (i := 459) (by decide +kernel)) rfl
theorem zwx461 : (Jvm.Cond.methodLink "java/lang/String" (1059 : Nat) ({ cls := "jdk/internal/util/Preconditions", name := "checkIndex", desc := "(IILjava/util/function/BiFunction;)I" } : Jvm.MethodName)) ∈ zTw := zTw_mem (List.mem_of_getElem? (i := 461) (by decide +kernel)) rfl
theorem zwx462 : (Jvm.Cond.static ({ cls := "jdk/internal/util/Preconditions", name := "checkIndex", desc := "(IILjava/util/function/BiFunction;)I" } : Jvm.MethodName)) ∈ zTw := zTw_mem (List.mem_of_getElem? (i := 462) (by decide +kernel)) rfl
theorem zwx494 : (Jvm.Cond.methodLink "java/lang/String" (633 : Nat) ({ cls := "java/lang/String", name := "indexOf", desc := "(II)I" } : Jvm.MethodName)) ∈ zTw := zTw_mem (List.mem_of_getElem? (i := 494) (by decide +kernel)) rfl
theorem zwx495 : (Jvm.Cond.instanceMethod ({ cls := "java/lang/String", name := "indexOf", desc := "(II)I" } : Jvm.MethodName)) ∈ zTw := zTw_mem (List.mem_of_getElem? (i := 495) (by decide +kernel)) rfl
theorem zwx496 : (Jvm.Cond.selects "java/lang/String" ({ cls := "java/lang/String", name := "indexOf", desc := "(II)I" } : Jvm.MethodName) ({ cls := "java/lang/String", name := "indexOf", desc := "(II)I" } : Jvm.MethodName)) ∈ zTw := zTw_mem (List.mem_of_getElem? (i := 496) (by decide +kernel)) rfl
theorem zwx498 : (Jvm.Cond.methodLink "java/lang/String" (505 : Nat) ({ cls := "java/lang/String", name := "length", desc := "()I" } : Jvm.MethodName)) ∈ zTw := zTw_mem (List.mem_of_getElem? (i := 498) (by decide +kernel)) rfl
theorem zwx499 : (Jvm.Cond.methodLink "java/lang/String" (637 : Nat) ({ cls := "java/lang/StringLatin1", name := "indexOf", desc := "([BIII)I" } : Jvm.MethodName)) ∈ zTw := zTw_mem (List.mem_of_getElem? (i := 499) (by decide +kernel)) rfl
theorem zwx500 : (Jvm.Cond.static ({ cls := "java/lang/StringLatin1", name := "indexOf", desc := "([BIII)I" } : Jvm.MethodName)) ∈ zTw := zTw_mem (List.mem_of_getElem? (i := 500) (by decide +kernel)) rfl
theorem zwx502 : (Jvm.Cond.methodLink "java/lang/StringLatin1" (88 : Nat) ({ cls := "java/lang/StringLatin1", name := "canEncode", desc := "(I)Z" } : Jvm.MethodName)) ∈ zTw := zTw_mem (List.mem_of_getElem? (i := 502) (by decide +kernel)) rfl
theorem zwx503 : (Jvm.Cond.static ({ cls := "java/lang/StringLatin1", name := "canEncode", desc := "(I)Z" } : Jvm.MethodName)) ∈ zTw := zTw_mem (List.mem_of_getElem? (i := 503) (by decide +kernel)) rfl
theorem zwx505 : (Jvm.Cond.methodLink "java/lang/StringLatin1" (92 : Nat) ({ cls := "java/lang/Math", name := "max", desc := "(II)I" } : Jvm.MethodName)) ∈ zTw := zTw_mem (List.mem_of_getElem? (i := 505) (by decide +kernel)) rfl
theorem zwx506 : (Jvm.Cond.static ({ cls := "java/lang/Math", name := "max", desc := "(II)I" } : Jvm.MethodName)) ∈ zTw := zTw_mem (List.mem_of_getElem? (i := 506) (by decide +kernel)) rfl
theorem zwx507 : (Jvm.Cond.code ({ cls := "java/lang/Math", name := "max", desc := "(II)I" } : Jvm.MethodName) prog_19_method_65_code (2 : Nat) (Option.some Jvm.ClassFile.FieldType.int)) ∈ zTw := zTw_mem (List.mem_of_getElem? (i := 507) (by decide +kernel)) rfl
theorem zwx508 : (Jvm.Cond.methodLink "java/lang/StringLatin1" (38 : Nat) ({ cls := "java/lang/Math", name := "min", desc := "(II)I" } : Jvm.MethodName)) ∈ zTw := zTw_mem (List.mem_of_getElem? (i := 508) (by decide +kernel)) rfl
theorem zwx509 : (Jvm.Cond.static ({ cls := "java/lang/Math", name := "min", desc := "(II)I" } : Jvm.MethodName)) ∈ zTw := zTw_mem (List.mem_of_getElem? (i := 509) (by decide +kernel)) rfl
theorem zwx510 : (Jvm.Cond.code ({ cls := "java/lang/Math", name := "min", desc := "(II)I" } : Jvm.MethodName) prog_19_method_69_code (2 : Nat) (Option.some Jvm.ClassFile.FieldType.int)) ∈ zTw := zTw_mem (List.mem_of_getElem? (i := 510) (by decide +kernel)) rfl
theorem zwx511 : (Jvm.Cond.methodLink "java/lang/StringLatin1" (95 : Nat) ({ cls := "java/lang/StringLatin1", name := "indexOfChar", desc := "([BIII)I" } : Jvm.MethodName)) ∈ zTw := zTw_mem (List.mem_of_getElem? (i := 511) (by decide +kernel)) rfl
theorem zwx512 : (Jvm.Cond.static ({ cls := "java/lang/StringLatin1", name := "indexOfChar", desc := "([BIII)I" } : Jvm.MethodName)) ∈ zTw := zTw_mem (List.mem_of_getElem? (i := 512) (by decide +kernel)) rfl
theorem zwx1940 : (Jvm.Cond.fieldLink "java/lang/String" (9 : Nat) "java/lang/String" "value" "[B") ∈ zTw := zTw_mem (List.mem_of_getElem? (i := 1940) (by decide +kernel)) rfl
theorem zwx1941 : (Jvm.Cond.fieldLink "java/lang/String" (15 : Nat) "java/lang/String" "coder" "B") ∈ zTw := zTw_mem (List.mem_of_getElem? (i := 1941) (by decide +kernel)) rfl
def mJ0_coder_7d493 : zMeth := (yJ0_coder_7d493, cJ0_coder_7d493, 1, some .byte)
theorem zcd_J0_coder_7d493 : zcode mJ0_coder_7d493 ∈ zTw := zTw_mem (List.mem_of_getElem? (i := 412) (by decide +kernel)) rfl
theorem zhn_J0_coder_7d493 : mJ0_coder_7d493.1.cls ≠ "java/lang/invoke/MethodHandle" ∧ mJ0_coder_7d493.1.cls ≠ "java/lang/invoke/VarHandle" ∧ (parseMethodDescriptor mJ0_coder_7d493.1.desc).map (fun d => d.parameters.length) = some 0 := ⟨by decide +kernel, by decide +kernel, by decide +kernel⟩
def mJ0_isLatin1_aae02 : zMeth := (yJ0_isLatin1_aae02, cJ0_isLatin1_aae02, 1, some .boolean)
theorem zcd_J0_isLatin1_aae02 : zcode mJ0_isLatin1_aae02 ∈ zTw := zTw_mem (List.mem_of_getElem? (i := 452) (by decide +kernel)) rfl
theorem zhn_J0_isLatin1_aae02 : mJ0_isLatin1_aae02.1.cls ≠ "java/lang/invoke/MethodHandle" ∧ mJ0_isLatin1_aae02.1.cls ≠ "java/lang/invoke/VarHandle" ∧ (parseMethodDescriptor mJ0_isLatin1_aae02.1.desc).map (fun d => d.parameters.length) = some 0 := ⟨by decide +kernel, by decide +kernel, by decide +kernel⟩
def mJ0_length_8abf5 : zMeth := (yJ0_length_8abf5, cJ0_length_8abf5, 1, some .int)
theorem zcd_J0_length_8abf5 : zcode mJ0_length_8abf5 ∈ zTw := zTw_mem (List.mem_of_getElem? (i := 408) (by decide +kernel)) rfl
theorem zhn_J0_length_8abf5 : mJ0_length_8abf5.1.cls ≠ "java/lang/invoke/MethodHandle" ∧ mJ0_length_8abf5.1.cls ≠ "java/lang/invoke/VarHandle" ∧ (parseMethodDescriptor mJ0_length_8abf5.1.desc).map (fun d => d.parameters.length) = some 0 := ⟨by decide +kernel, by decide +kernel, by decide +kernel⟩
def mJ0_isEmpty_aae02 : zMeth := (yJ0_isEmpty_aae02, cJ0_isEmpty_aae02, 1, some .boolean)
theorem zcd_J0_isEmpty_aae02 : zcode mJ0_isEmpty_aae02 ∈ zTw := zTw_mem (List.mem_of_getElem? (i := 444) (by decide +kernel)) rfl
theorem zhn_J0_isEmpty_aae02 : mJ0_isEmpty_aae02.1.cls ≠ "java/lang/invoke/MethodHandle" ∧ mJ0_isEmpty_aae02.1.cls ≠ "java/lang/invoke/VarHandle" ∧ (parseMethodDescriptor mJ0_isEmpty_aae02.1.desc).map (fun d => d.parameters.length) = some 0 := ⟨by decide +kernel, by decide +kernel, by decide +kernel⟩
def mJ3_checkIndex_8e157 : zMeth := (yJ3_checkIndex_8e157, cJ3_checkIndex_8e157, 3, some .int)
theorem zcd_J3_checkIndex_8e157 : zcode mJ3_checkIndex_8e157 ∈ zTw := zTw_mem (List.mem_of_getElem? (i := 463) (by decide +kernel)) rfl
theorem zhn_J3_checkIndex_8e157 : mJ3_checkIndex_8e157.1.cls ≠ "java/lang/invoke/MethodHandle" ∧ mJ3_checkIndex_8e157.1.cls ≠ "java/lang/invoke/VarHandle" ∧ (parseMethodDescriptor mJ3_checkIndex_8e157.1.desc).map (fun d => d.parameters.length) = some 3 := ⟨by decide +kernel, by decide +kernel, by decide +kernel⟩
def mJ0_checkIndex_df160 : zMeth := (yJ0_checkIndex_df160, cJ0_checkIndex_df160, 2, none)
theorem zcd_J0_checkIndex_df160 : zcode mJ0_checkIndex_df160 ∈ zTw := zTw_mem (List.mem_of_getElem? (i := 458) (by decide +kernel)) rfl
theorem zhn_J0_checkIndex_df160 : mJ0_checkIndex_df160.1.cls ≠ "java/lang/invoke/MethodHandle" ∧ mJ0_checkIndex_df160.1.cls ≠ "java/lang/invoke/VarHandle" ∧ (parseMethodDescriptor mJ0_checkIndex_df160.1.desc).map (fun d => d.parameters.length) = some 2 := ⟨by decide +kernel, by decide +kernel, by decide +kernel⟩
def mJ1_charAt_3b067 : zMeth := (yJ1_charAt_3b067, cJ1_charAt_3b067, 2, some .char)
theorem zcd_J1_charAt_3b067 : zcode mJ1_charAt_3b067 ∈ zTw := zTw_mem (List.mem_of_getElem? (i := 455) (by decide +kernel)) rfl
theorem zhn_J1_charAt_3b067 : mJ1_charAt_3b067.1.cls ≠ "java/lang/invoke/MethodHandle" ∧ mJ1_charAt_3b067.1.cls ≠ "java/lang/invoke/VarHandle" ∧ (parseMethodDescriptor mJ1_charAt_3b067.1.desc).map (fun d => d.parameters.length) = some 2 := ⟨by decide +kernel, by decide +kernel, by decide +kernel⟩
def mJ0_charAt_5068e : zMeth := (yJ0_charAt_5068e, cJ0_charAt_5068e, 2, some .char)
theorem zcd_J0_charAt_5068e : zcode mJ0_charAt_5068e ∈ zTw := zTw_mem (List.mem_of_getElem? (i := 448) (by decide +kernel)) rfl
theorem zhn_J0_charAt_5068e : mJ0_charAt_5068e.1.cls ≠ "java/lang/invoke/MethodHandle" ∧ mJ0_charAt_5068e.1.cls ≠ "java/lang/invoke/VarHandle" ∧ (parseMethodDescriptor mJ0_charAt_5068e.1.desc).map (fun d => d.parameters.length) = some 1 := ⟨by decide +kernel, by decide +kernel, by decide +kernel⟩
def mJ1_canEncode_9a6ad : zMeth := (yJ1_canEncode_9a6ad, cJ1_canEncode_9a6ad, 1, some .boolean)
theorem zcd_J1_canEncode_9a6ad : zcode mJ1_canEncode_9a6ad ∈ zTw := zTw_mem (List.mem_of_getElem? (i := 504) (by decide +kernel)) rfl
theorem zhn_J1_canEncode_9a6ad : mJ1_canEncode_9a6ad.1.cls ≠ "java/lang/invoke/MethodHandle" ∧ mJ1_canEncode_9a6ad.1.cls ≠ "java/lang/invoke/VarHandle" ∧ (parseMethodDescriptor mJ1_canEncode_9a6ad.1.desc).map (fun d => d.parameters.length) = some 1 := ⟨by decide +kernel, by decide +kernel, by decide +kernel⟩
def mJ1_indexOfChar_4cfef : zMeth := (yJ1_indexOfChar_4cfef, cJ1_indexOfChar_4cfef, 6, some .int)
theorem zcd_J1_indexOfChar_4cfef : zcode mJ1_indexOfChar_4cfef ∈ zTw := zTw_mem (List.mem_of_getElem? (i := 513) (by decide +kernel)) rfl
theorem zhn_J1_indexOfChar_4cfef : mJ1_indexOfChar_4cfef.1.cls ≠ "java/lang/invoke/MethodHandle" ∧ mJ1_indexOfChar_4cfef.1.cls ≠ "java/lang/invoke/VarHandle" ∧ (parseMethodDescriptor mJ1_indexOfChar_4cfef.1.desc).map (fun d => d.parameters.length) = some 4 := ⟨by decide +kernel, by decide +kernel, by decide +kernel⟩
def mJ1_indexOf_4cfef : zMeth := (yJ1_indexOf_4cfef, cJ1_indexOf_4cfef, 4, some .int)
theorem zcd_J1_indexOf_4cfef : zcode mJ1_indexOf_4cfef ∈ zTw := zTw_mem (List.mem_of_getElem? (i := 501) (by decide +kernel)) rfl
theorem zhn_J1_indexOf_4cfef : mJ1_indexOf_4cfef.1.cls ≠ "java/lang/invoke/MethodHandle" ∧ mJ1_indexOf_4cfef.1.cls ≠ "java/lang/invoke/VarHandle" ∧ (parseMethodDescriptor mJ1_indexOf_4cfef.1.desc).map (fun d => d.parameters.length) = some 4 := ⟨by decide +kernel, by decide +kernel, by decide +kernel⟩
def mJ0_indexOf_7cf53 : zMeth := (yJ0_indexOf_7cf53, cJ0_indexOf_7cf53, 3, some .int)
theorem zcd_J0_indexOf_7cf53 : zcode mJ0_indexOf_7cf53 ∈ zTw := zTw_mem (List.mem_of_getElem? (i := 497) (by decide +kernel)) rfl
theorem zhn_J0_indexOf_7cf53 : mJ0_indexOf_7cf53.1.cls ≠ "java/lang/invoke/MethodHandle" ∧ mJ0_indexOf_7cf53.1.cls ≠ "java/lang/invoke/VarHandle" ∧ (parseMethodDescriptor mJ0_indexOf_7cf53.1.desc).map (fun d => d.parameters.length) = some 2 := ⟨by decide +kernel, by decide +kernel, by decide +kernel⟩
def mJ0_indexOf_0f7a4 : zMeth := (yJ0_indexOf_0f7a4, cJ0_indexOf_0f7a4, 2, some .int)
theorem zcd_J0_indexOf_0f7a4 : zcode mJ0_indexOf_0f7a4 ∈ zTw := zTw_mem (List.mem_of_getElem? (i := 493) (by decide +kernel)) rfl
theorem zhn_J0_indexOf_0f7a4 : mJ0_indexOf_0f7a4.1.cls ≠ "java/lang/invoke/MethodHandle" ∧ mJ0_indexOf_0f7a4.1.cls ≠ "java/lang/invoke/VarHandle" ∧ (parseMethodDescriptor mJ0_indexOf_0f7a4.1.desc).map (fun d => d.parameters.length) = some 1 := ⟨by decide +kernel, by decide +kernel, by decide +kernel⟩
/-- the text with a number; its signs -/
theorem zstx_r : ∀ i : Fin 20, (zstx i.val).length ≤ 11 ∧ ∀ k : Fin 12, 0 ≤ (zstx i.val).getD k.val 0 ∧ (zstx i.val).getD k.val 0 < 128 := by decide +kernel
theorem zstx_l {i : Nat} (hi : i < 20) : (zstx i).length ≤ 11 := (zstx_r ⟨i, hi⟩).1
theorem zstx_c {i k : Nat} (hi : i < 20) (hk : k < (zstx i).length) : 0 ≤ (zstx i).getD k 0 ∧ (zstx i).getD k 0 < 128 := (zstx_r ⟨i, hi⟩).2 ⟨k, by have := zstx_l hi; omega⟩
theorem zstx_s : ∀ i : Fin 20, zshr ((zstx i.val).length : Int) 0 = ((zstx i.val).length : Int) := by decide +kernel
theorem znarC : ∀ x : Fin 128, narrow .char (.int (Int32.ofInt (x.val : Int))) = .int (Int32.ofInt (x.val : Int)) := by decide +kernel
section
variable {G : zG} {ph : Bool} {p : Program} {e : Env} {R : Room} {s : State} {m : MethodId} {args : Array Value} {below : List Frame} {meth : Method} {c : Code} {Q : State → Prop} {cc : ByteArray} {own : String} {Ts : List Cond} {pc : Nat} {L L' : List (Option zV)} {st : List zV} {μ : zM} {cn un mc ms : Nat} {K : Option zV → zM → Prop}
theorem z_cstr (A : zAm G p s m args c cc own Ts) {index : Nat} (d : decode cc pc = .ok (.getstatic index, 3)) (hw : Cond.fieldLink own index "java/lang/String" "COMPACT_STRINGS" "Z" ∈ Ts) (k9 : zJd G ph p e R s m args below meth c Q (pc + 3) (L, zI 1 :: st, μ, cn, un)) : zJd G ph p e R s m args below meth c Q pc (L, st, μ, cn, un) := by
  intro H locs ls hl hh hS
  exact va_gets A.1 A.2.1 A.2.2.2.2.2.1.2.2.1 hS A.2.2.1 (A.2.2.2.1 _ hw) (fun _ h => h) d (k9 H locs ls hl hh hS)
theorem z_sioobe (A : zAm G p s m args c cc own Ts) {index : Nat} (d : decode cc pc = .ok (.getstatic index, 3)) (hw : Cond.fieldLink own index "jdk/internal/util/Preconditions" "SIOOBE_FORMATTER" "Ljava/util/function/BiFunction;" ∈ Ts) (k0 : zJd G ph p e R s m args below meth c Q (pc + 3) (L, zR none :: st, μ, cn, un)) (k9 : zJd G ph p e R s m args below meth c Q (pc + 3) (L, zT 59 :: st, μ, cn, un)) : zJd G ph p e R s m args below meth c Q pc (L, st, μ, cn, un) := by
  intro H locs ls hl hh hS
  rcases A.2.2.2.2.2.1.2.2.2.1 with h | h
  · exact va_gets A.1 A.2.1 h hS A.2.2.1 (A.2.2.2.1 _ hw) (fun _ h => h) d (k0 H locs ls hl hh hS)
  · exact va_gets A.1 A.2.1 h hS A.2.2.1 (A.2.2.2.1 _ hw) (fun _ h => h) d (k9 H locs ls hl hh hS)
theorem z_scoder (A : zAm G p s m args c cc own Ts) {index i : Nat} (d : decode cc pc = .ok (.getfield index, 3)) (hi : i < 20) (hw : Cond.fieldLink own index "java/lang/String" "coder" "B" ∈ Ts) (k9 : zJd G ph p e R s m args below meth c Q (pc + 3) (L, zI 0 :: st, μ, cn, un)) : zJd G ph p e R s m args below meth c Q pc (L, zT (60 + i) :: st, μ, cn, un) := by
  intro H locs ls hl hh hS
  exact vk_getf A.1 A.2.1 (A.2.2.2.2.2.1.2.2.2.2 i hi).2.1 hS A.2.2.1 (A.2.2.2.1 _ hw) (fun _ h => h) d (k9 H locs ls hl hh hS)
theorem z_svalue (A : zAm G p s m args c cc own Ts) {index i : Nat} (d : decode cc pc = .ok (.getfield index, 3)) (hi : i < 20) (hw : Cond.fieldLink own index "java/lang/String" "value" "[B" ∈ Ts) (k9 : zJd G ph p e R s m args below meth c Q (pc + 3) (L, zT (80 + i) :: st, μ, cn, un)) : zJd G ph p e R s m args below meth c Q pc (L, zT (60 + i) :: st, μ, cn, un) := by
  intro H locs ls hl hh hS
  exact vk_getf A.1 A.2.1 (A.2.2.2.2.2.1.2.2.2.2 i hi).2.2.1 hS A.2.2.1 (A.2.2.2.1 _ hw) (fun _ h => h) d (k9 H locs ls hl hh hS)
theorem z_sblen (A : zAm G p s m args c cc own Ts) {i : Nat} (d : decode cc pc = .ok (.arraylength, 1)) (hi : i < 20) (k9 : zJd G ph p e R s m args below meth c Q (pc + 1) (L, zI ((zstx i).length : Int) :: st, μ, cn, un)) : zJd G ph p e R s m args below meth c Q pc (L, zT (80 + i) :: st, μ, cn, un) := by
  intro H locs ls hl hh hS
  exact va_tlen A.1 A.2.1 (A.2.2.2.2.2.1.2.2.2.2 i hi).2.2.2 hS (Int32.ofInt_eq_ofNat).symm d (k9 H locs ls hl hh hS)
theorem z_sbald (A : zAm G p s m args c cc own Ts) {i : Nat} {x : Int} (d : decode cc pc = .ok (.baload, 1)) (hi : i < 20) (hx : 0 ≤ x ∧ x < ((zstx i).length : Int)) (k9 : zJd G ph p e R s m args below meth c Q (pc + 1) (L, zI ((zstx i).getD x.toNat 0) :: st, μ, cn, un)) : zJd G ph p e R s m args below meth c Q pc (L, zI x :: zT (80 + i) :: st, μ, cn, un) := by
  intro H locs ls hl hh hS
  have hll := zstx_l hi
  have hz : zw x = x := zw_id (by omega) (by omega)
  have hv : (fun j : Nat => Value.int (Int32.ofInt ((zstx i).getD j 0))) (Int32.ofInt x).toNatClampNeg = .int (Int32.ofInt ((zstx i).getD x.toNat 0)) := by
    show Value.int (Int32.ofInt ((zstx i).getD (Int32.ofInt x).toNatClampNeg 0)) = _
    rw [show (Int32.ofInt x).toNatClampNeg = x.toNat from by have := z_clamp (i := x) (by rw [hz]; exact hx); omega]
  exact va_tb A.1 A.2.1 (A.2.2.2.2.2.1.2.2.2.2 i hi).2.2.2 hS (z_in (by rw [hz]; exact hx)) hv d (k9 H locs ls hl hh hS)
theorem z_ldcT (A : zAm G p s m args c cc own Ts) {index i : Nat} (d : decode cc pc = .ok (.ldc index, 2)) (hi : i < 20) (ho : (zso i).1 = own) (hx : (zso i).2.1 = index) (k9 : zJd G ph p e R s m args below meth c Q (pc + 2) (L, zT (60 + i) :: st, μ, cn, un)) : zJd G ph p e R s m args below meth c Q pc (L, st, μ, cn, un) := by
  intro H locs ls hl hh hS
  subst ho; subst hx
  exact va_ldcS A.1 A.2.1 A.2.2.1 (A.2.2.2.2.2.2.2 i hi) d (k9 H locs ls hl hh hS)
theorem s_bret (A : zAm G p s m args c cc own zTw) (d : decode cc pc = .ok (.ireturn, 1)) (hr : meth.sig.returnType = some .byte) (hlk : meth.locks = false) (hc : cn ≤ mc) (hu : un ≤ ms) (hK : K (some (zI 0)) μ) : zJd G ph p e R s m args below meth c (MQ below (zQ G ph K) args s mc ms (zA G)) pc (L, [zI 0], μ, cn, un) := by
  intro H locs ls hl hh hS
  exact W.widen hc hu (W.zret A.1 A.2.1 hr rfl (z_end A hK hh hS) hS.2.2 d hlk)
theorem s_cret (A : zAm G p s m args c cc own zTw) {x : Int} (d : decode cc pc = .ok (.ireturn, 1)) (hr : meth.sig.returnType = some .char) (hlk : meth.locks = false) (hc : cn ≤ mc) (hu : un ≤ ms) (hx : 0 ≤ x ∧ x < 128) (hK : K (some (zI x)) μ) : zJd G ph p e R s m args below meth c (MQ below (zQ G ph K) args s mc ms (zA G)) pc (L, [zI x], μ, cn, un) := by
  intro H locs ls hl hh hS
  have hn := znarC ⟨x.toNat, by omega⟩
  rw [show (((⟨x.toNat, by omega⟩ : Fin 128).val : Nat) : Int) = x from by show ((x.toNat : Nat) : Int) = x; omega] at hn
  exact W.widen hc hu (W.zret A.1 A.2.1 hr hn (z_end A hK hh hS) hS.2.2 d hlk)
/-- a method of a String constant -/
theorem s_callVT (A : zAm G p s m args c cc own zTw) {M : zMeth} {index n d mc ms i : Nat} {av : List zV} (dd : decode cc pc = .ok (.invokevirtual index, 3)) (hi : i < 20) (hw : Cond.methodLink own index M.1 ∈ zTw) (hw2 : Cond.instanceMethod M.1 ∈ zTw) (hw5 : Cond.selects "java/lang/String" M.1 M.1 ∈ zTw) (hw3 : Cond.initialized "java/lang/String" ∈ zTw) (hw4 : zcode M ∈ zTw) (hd : d + 1 ≤ R.frames) (hm : M.2.2.1 ≤ 21) (hlo : 40 * R.frames ≤ R.locals) (hcs : cn + mc ≤ R.cells ∧ un + ms ≤ R.slots) (hn : M.1.cls = "java/lang/String" ∧ M.1.cls ≠ "java/lang/invoke/MethodHandle" ∧ M.1.cls ≠ "java/lang/invoke/VarHandle" ∧ (parseMethodDescriptor M.1.desc).map (fun d => d.parameters.length) = some n) (hav : av.length = n) (hst : (st.map zcat).sum ≤ 8) {stk : List zV} (hstk : stk = av.reverse ++ zT (60 + i) :: st)
    (k9 : zRun G ph d mc ms M (zT (60 + i) :: av) μ (fun r μ' => zJd G ph p e R s m args below meth c Q (pc + 3) (L, r.toList ++ st, μ', cn + mc, un + ms))) : zJd G ph p e R s m args below meth c Q pc (L, stk, μ, cn, un) := by
  subst hstk
  intro H locs ls hl hh hS
  have hG : GoodIn zTw (wsV own index "java/lang/String" M.1 (zcode M :: zTw)) := zTw_good (fun w h => by
    rcases List.mem_append.mp h with h | h
    · simp only [List.mem_cons, List.not_mem_nil, or_false] at h
      rcases h with rfl | rfl | rfl | rfl
      · exact hw
      · exact hw2
      · exact hw5
      · exact hw3
    · rcases List.mem_cons.mp h with rfl | h
      · exact hw4
      · exact h)
  have cw := cwV (R := R) (s := s) (args := args) (rm := zrm d mc ms) (mc := mc) (ms := ms) n A.2.2.2.1 hG (y := M.1) (bytes := M.2.1) (maxL := M.2.2.1) (ret := M.2.2.2) rfl rfl rfl hn (zlo hd hm hlo mc ms)
  have hrecv : ∃ cell : Cell, H[zsa G (60 + i)]? = some cell ∧ cell.vm.isStatics = false ∧ s.vm.findClass "java/lang/String" = some cell.cls := by
    obtain ⟨cell, h1, h2, h3, -⟩ := (A.2.2.2.2.2.1.2.2.2.2 i hi).1.kept hS.2.1
    exact ⟨cell, h1, h2, h3⟩
  refine z_after (st := st) hl hS rfl rfl (va_runV (As := av.map (cv G)) (rest := st.map (cv G)) (nL := c.maxLocals) ⟨A.1, A.2.1, rfl, A.2.2.1, A.2.2.2.1⟩ k9 cw ⟨zP.blind, hrecv, fun U hU hW => ⟨rfl, by rw [hU]; exact hh, z_env A hS hU hW⟩⟩ rfl (by rw [List.length_map]; exact hav) hl.1 ?_ (by show 2 * 0 + _ ≤ 8; rw [z_cats]; omega) dd hcs) (fun r μ' h => h)
  show List.map (cv G) (av.reverse ++ zT (60 + i) :: st) = _
  rw [List.map_append, List.map_reverse]
  rfl
end
/-- the first place of a sign in a text -/
def zixN (l : List Int) (c : Int) : Nat → Int
  | 0 => -1
  | n + 1 => if 0 ≤ zixN l c n then zixN l c n else if l.getD n 0 = c then (n : Int) else -1
def zix (i : Nat) (c : Int) : Int := zixN (zstx i) c (zstx i).length
theorem zixN_r (l : List Int) (c : Int) : ∀ n : Nat, -1 ≤ zixN l c n ∧ zixN l c n < n
  | 0 => ⟨Int.le_refl (-1), (by decide : (-1 : Int) < 0)⟩
  | n + 1 => by
    have := zixN_r l c n
    rw [zixN]
    split
    · omega
    · split <;> omega
theorem zixN_m {l : List Int} {c : Int} {n : Nat} (h : 0 ≤ zixN l c n) : ∀ m : Nat, zixN l c (n + m) = zixN l c n
  | 0 => rfl
  | m + 1 => by
    have := zixN_m h m
    show zixN l c ((n + m) + 1) = _
    rw [zixN, this, if_pos h]
theorem zix_out {i : Nat} {c : Int} (hi : i < 20) (hc : c < 0 ∨ 128 ≤ c) : zix i c = -1 := by
  have key : ∀ n : Nat, n ≤ (zstx i).length → zixN (zstx i) c n = -1 := by
    intro n
    induction n with
    | zero => intro _; rfl
    | succ n ih =>
      intro hn
      have := zstx_c hi (k := n) (by omega)
      rw [zixN, ih (by omega), if_neg (by decide), if_neg (by omega)]
  exact key _ (Nat.le_refl _)
section
variable {G : zG} {ph : Bool} {μ : zM} {i : Nat}
theorem zj_coder {F : Int → zM → Prop} (hi : i < 20) (h : F 0 μ) : zRun G ph 0 0 0 mJ0_coder_7d493 [zT (60 + i)] μ (zKI F) := by
  refine z_body (by decide +kernel) (Nat.le_of_ble_eq_true rfl) (fun J C => (?_ : J 0 ([some (zT (60 + i))], [], μ, 0, 0)))
  obtain ⟨p, e, s, m, args, below, meth, c, A, hml, hr, hlk, hnm, rfl⟩ := C
  refine z_cstr A dJ0_coder_7d493_0 zwx413 ?_
  refine z_if_eq (tgt := 13) A dJ0_coder_7d493_3 (by decide) ⟨by decide, by decide⟩ (fun z => absurd z (by decide)) (fun _ => ?_)
  refine s_aload_nT A dJ0_coder_7d493_6 rfl ?_
  refine z_scoder A dJ0_coder_7d493_7 hi zwx1941 ?_
  refine s_goto (tgt := 14) A dJ0_coder_7d493_10 (by decide) ?_
  exact s_bret A dJ0_coder_7d493_14 hr hlk (Nat.le_refl _) (Nat.le_refl _) ⟨_, rfl, h⟩
theorem zj_isLatin1 {F : Int → zM → Prop} (hi : i < 20) (h : F 1 μ) : zRun G ph 0 0 0 mJ0_isLatin1_aae02 [zT (60 + i)] μ (zKI F) := by
  refine z_body (by decide +kernel) (Nat.le_of_ble_eq_true rfl) (fun J C => (?_ : J 0 ([some (zT (60 + i))], [], μ, 0, 0)))
  obtain ⟨p, e, s, m, args, below, meth, c, A, hml, hr, hlk, hnm, rfl⟩ := C
  refine z_cstr A dJ0_isLatin1_aae02_0 zwx413 ?_
  refine z_if_eq (tgt := 17) A dJ0_isLatin1_aae02_3 (by decide) ⟨by decide, by decide⟩ (fun z => absurd z (by decide)) (fun _ => ?_)
  refine s_aload_nT A dJ0_isLatin1_aae02_6 rfl ?_
  refine z_scoder A dJ0_isLatin1_aae02_7 hi zwx1941 ?_
  refine z_if_ne (tgt := 17) A dJ0_isLatin1_aae02_10 (by decide) ⟨by decide, by decide⟩ (fun z => absurd rfl z) (fun _ => ?_)
  refine s_iconst A dJ0_isLatin1_aae02_13 ?_
  refine s_goto (tgt := 18) A dJ0_isLatin1_aae02_14 (by decide) ?_
  exact s_zret A dJ0_isLatin1_aae02_18 hr hlk (Nat.le_refl _) (Nat.le_refl _) (Or.inr rfl) ⟨_, rfl, h⟩
theorem zj_length {F : Int → zM → Prop} (hi : i < 20) (h : F ((zstx i).length : Int) μ) : zRun G ph 2 0 0 mJ0_length_8abf5 [zT (60 + i)] μ (zKI F) := by
  refine z_body (by decide +kernel) (Nat.le_of_ble_eq_true rfl) (fun J C => (?_ : J 0 ([some (zT (60 + i))], [], μ, 0, 0)))
  obtain ⟨p, e, s, m, args, below, meth, c, A, hml, hr, hlk, hnm, rfl⟩ := C
  refine s_aload_nT A dJ0_length_8abf5_0 rfl ?_
  refine z_svalue A dJ0_length_8abf5_1 hi zwx1940 ?_
  refine z_sblen A dJ0_length_8abf5_4 hi ?_
  refine s_aload_nT A dJ0_length_8abf5_5 rfl ?_
  refine s_callVT (M := mJ0_coder_7d493) (n := 0) (d := 0) (mc := 0) (ms := 0) (av := []) (st := [zI ((zstx i).length : Int)]) A dJ0_length_8abf5_6 hi zwx409 zwx410 zwx411 zwx101 zcd_J0_coder_7d493 (Nat.le_of_ble_eq_true rfl) (Nat.le_of_ble_eq_true rfl) (Nat.le_refl _) ⟨Nat.le_of_ble_eq_true rfl, Nat.le_of_ble_eq_true rfl⟩ ⟨rfl, zhn_J0_coder_7d493⟩ rfl (Nat.le_of_ble_eq_true rfl) rfl (z_contI (fun v1 μ1 hv => ?_) (zj_coder (F := fun v μ' => v = 0 ∧ μ' = μ) hi ⟨rfl, rfl⟩))
  obtain ⟨rfl, rfl⟩ := hv
  refine s_ishr A dJ0_length_8abf5_9 ?_
  have hs : zshr ((zstx i).length : Int) 0 = ((zstx i).length : Int) := zstx_s ⟨i, hi⟩
  rw [hs]
  exact s_iret A dJ0_length_8abf5_10 hr hlk (Nat.le_refl _) (Nat.le_refl _) ⟨_, rfl, h⟩
theorem zj_isEmpty {F : Int → zM → Prop} (hi : i < 20) (h : F (if (zstx i).length = 0 then 1 else 0) μ) : zRun G ph 0 0 0 mJ0_isEmpty_aae02 [zT (60 + i)] μ (zKI F) := by
  have hl := zstx_l hi
  refine z_body (by decide +kernel) (Nat.le_of_ble_eq_true rfl) (fun J C => (?_ : J 0 ([some (zT (60 + i))], [], μ, 0, 0)))
  obtain ⟨p, e, s, m, args, below, meth, c, A, hml, hr, hlk, hnm, rfl⟩ := C
  refine s_aload_nT A dJ0_isEmpty_aae02_0 rfl ?_
  refine z_svalue A dJ0_isEmpty_aae02_1 hi zwx1940 ?_
  refine z_sblen A dJ0_isEmpty_aae02_4 hi ?_
  refine z_if_ne (tgt := 12) A dJ0_isEmpty_aae02_5 (by decide) ⟨by omega, by omega⟩ (fun z => ?_) (fun z => ?_)
  · rw [if_neg (by omega)] at h
    refine s_iconst A dJ0_isEmpty_aae02_12 ?_
    exact s_zret A dJ0_isEmpty_aae02_13 hr hlk (Nat.le_refl _) (Nat.le_refl _) (Or.inl rfl) ⟨_, rfl, h⟩
  · rw [if_pos (by omega)] at h
    refine s_iconst A dJ0_isEmpty_aae02_8 ?_
    refine s_goto (tgt := 13) A dJ0_isEmpty_aae02_9 (by decide) ?_
    exact s_zret A dJ0_isEmpty_aae02_13 hr hlk (Nat.le_refl _) (Nat.le_refl _) (Or.inr rfl) ⟨_, rfl, h⟩
theorem zj_pcheck {F : Int → zM → Prop} {x n : Int} {v : zV} (hv : v = zR none ∨ v = zT 59) (hx : 0 ≤ x ∧ x < n) (hn : n < 2147483648) (h : F x μ) : zRun G ph 0 0 0 mJ3_checkIndex_8e157 [zI x, zI n, v] μ (zKI F) := by
  rcases hv with rfl | rfl
  · refine z_body (by decide +kernel) (Nat.le_of_ble_eq_true rfl) (fun J C => (?_ : J 0 ([some (zI x), some (zI n), some (zR none)], [], μ, 0, 0)))
    obtain ⟨p, e, s, m, args, below, meth, c, A, hml, hr, hlk, hnm, rfl⟩ := C
    refine s_iload_n A dJ3_checkIndex_8e157_0 rfl ?_
    refine z_if_lt (tgt := 9) A dJ3_checkIndex_8e157_1 (by decide) ⟨by omega, by omega⟩ (fun z => absurd z (by omega)) (fun _ => ?_)
    refine s_iload_n A dJ3_checkIndex_8e157_4 rfl ?_
    refine s_iload_n A dJ3_checkIndex_8e157_5 rfl ?_
    refine z_icmp_lt (tgt := 16) A dJ3_checkIndex_8e157_6 (by decide) ⟨by omega, by omega⟩ ⟨by omega, by omega⟩ (fun _ => ?_) (fun z => absurd hx.2 z)
    refine s_iload_n A dJ3_checkIndex_8e157_16 rfl ?_
    exact s_iret A dJ3_checkIndex_8e157_17 hr hlk (Nat.le_refl _) (Nat.le_refl _) ⟨_, rfl, h⟩
  · refine z_body (by decide +kernel) (Nat.le_of_ble_eq_true rfl) (fun J C => (?_ : J 0 ([some (zI x), some (zI n), some (zT 59)], [], μ, 0, 0)))
    obtain ⟨p, e, s, m, args, below, meth, c, A, hml, hr, hlk, hnm, rfl⟩ := C
    refine s_iload_n A dJ3_checkIndex_8e157_0 rfl ?_
    refine z_if_lt (tgt := 9) A dJ3_checkIndex_8e157_1 (by decide) ⟨by omega, by omega⟩ (fun z => absurd z (by omega)) (fun _ => ?_)
    refine s_iload_n A dJ3_checkIndex_8e157_4 rfl ?_
    refine s_iload_n A dJ3_checkIndex_8e157_5 rfl ?_
    refine z_icmp_lt (tgt := 16) A dJ3_checkIndex_8e157_6 (by decide) ⟨by omega, by omega⟩ ⟨by omega, by omega⟩ (fun _ => ?_) (fun z => absurd hx.2 z)
    refine s_iload_n A dJ3_checkIndex_8e157_16 rfl ?_
    exact s_iret A dJ3_checkIndex_8e157_17 hr hlk (Nat.le_refl _) (Nat.le_refl _) ⟨_, rfl, h⟩
theorem zj_scheck {F : zM → Prop} {x n : Int} (hx : 0 ≤ x ∧ x < n) (hn : n < 2147483648) (h : F μ) : zRun G ph 2 0 0 mJ0_checkIndex_df160 [zI x, zI n] μ (zKV F) := by
  refine z_body (by decide +kernel) (Nat.le_of_ble_eq_true rfl) (fun J C => (?_ : J 0 ([some (zI x), some (zI n)], [], μ, 0, 0)))
  obtain ⟨p, e, s, m, args, below, meth, c, A, hml, hr, hlk, hnm, rfl⟩ := C
  refine s_iload_n A dJ0_checkIndex_df160_0 rfl ?_
  refine s_iload_n A dJ0_checkIndex_df160_1 rfl ?_
  refine z_sioobe A dJ0_checkIndex_df160_2 zwx459 ?_ ?_
  · refine s_callS (M := mJ3_checkIndex_8e157) (n := 3) (d := 0) (mc := 0) (ms := 0) (av := [zI x, zI n, zR none]) (st := []) A dJ0_checkIndex_df160_5 zwx461 zwx462 zwx103 zcd_J3_checkIndex_8e157 (Nat.le_of_ble_eq_true rfl) (Nat.le_of_ble_eq_true rfl) (Nat.le_refl _) ⟨Nat.le_of_ble_eq_true rfl, Nat.le_of_ble_eq_true rfl⟩ zhn_J3_checkIndex_8e157 rfl (Nat.le_of_ble_eq_true rfl) rfl (z_contI (fun v1 μ1 hv => ?_) (zj_pcheck (F := fun v μ' => μ' = μ) (Or.inl rfl) hx hn rfl))
    subst hv
    refine s_pop A dJ0_checkIndex_df160_8 rfl ?_
    exact s_vret A dJ0_checkIndex_df160_9 hr hlk (Nat.le_refl _) (Nat.le_refl _) ⟨rfl, h⟩
  · refine s_callS (M := mJ3_checkIndex_8e157) (n := 3) (d := 0) (mc := 0) (ms := 0) (av := [zI x, zI n, zT 59]) (st := []) A dJ0_checkIndex_df160_5 zwx461 zwx462 zwx103 zcd_J3_checkIndex_8e157 (Nat.le_of_ble_eq_true rfl) (Nat.le_of_ble_eq_true rfl) (Nat.le_refl _) ⟨Nat.le_of_ble_eq_true rfl, Nat.le_of_ble_eq_true rfl⟩ zhn_J3_checkIndex_8e157 rfl (Nat.le_of_ble_eq_true rfl) rfl (z_contI (fun v1 μ1 hv => ?_) (zj_pcheck (F := fun v μ' => μ' = μ) (Or.inr rfl) hx hn rfl))
    subst hv
    refine s_pop A dJ0_checkIndex_df160_8 rfl ?_
    exact s_vret A dJ0_checkIndex_df160_9 hr hlk (Nat.le_refl _) (Nat.le_refl _) ⟨rfl, h⟩
theorem zj_lcharAt {F : Int → zM → Prop} {x : Int} (hi : i < 20) (hx : 0 ≤ x ∧ x < ((zstx i).length : Int)) (h : F ((zstx i).getD x.toNat 0) μ) : zRun G ph 3 0 0 mJ1_charAt_3b067 [zT (80 + i), zI x] μ (zKI F) := by
  have hl := zstx_l hi
  have hc := zstx_c hi (k := x.toNat) (by omega)
  refine z_body (by decide +kernel) (Nat.le_of_ble_eq_true rfl) (fun J C => (?_ : J 0 ([some (zT (80 + i)), some (zI x)], [], μ, 0, 0)))
  obtain ⟨p, e, s, m, args, below, meth, c, A, hml, hr, hlk, hnm, rfl⟩ := C
  refine s_iload_n A dJ1_charAt_3b067_0 rfl ?_
  refine s_aload_nT A dJ1_charAt_3b067_1 rfl ?_
  refine z_sblen A dJ1_charAt_3b067_2 hi ?_
  refine s_callS (M := mJ0_checkIndex_df160) (n := 2) (d := 2) (mc := 0) (ms := 0) (av := [zI x, zI ((zstx i).length : Int)]) (st := []) A dJ1_charAt_3b067_3 zwx456 zwx457 zwx101 zcd_J0_checkIndex_df160 (Nat.le_of_ble_eq_true rfl) (Nat.le_of_ble_eq_true rfl) (Nat.le_refl _) ⟨Nat.le_of_ble_eq_true rfl, Nat.le_of_ble_eq_true rfl⟩ zhn_J0_checkIndex_df160 rfl (Nat.le_of_ble_eq_true rfl) rfl (z_contV (fun μ1 hv => ?_) (zj_scheck (F := fun μ' => μ' = μ) hx (by omega) rfl))
  subst hv
  refine s_aload_nT A dJ1_charAt_3b067_6 rfl ?_
  refine s_iload_n A dJ1_charAt_3b067_7 rfl ?_
  refine z_sbald A dJ1_charAt_3b067_8 hi hx ?_
  refine s_sipush A dJ1_charAt_3b067_9 rfl ?_
  refine z_iand255 A dJ1_charAt_3b067_12 ?_
  refine s_i2c A dJ1_charAt_3b067_13 ?_
  rw [show (zstx i).getD x.toNat 0 % 256 % 65536 = (zstx i).getD x.toNat 0 by omega]
  exact s_cret A dJ1_charAt_3b067_14 hr hlk (Nat.le_refl _) (Nat.le_refl _) hc ⟨_, rfl, h⟩
theorem zj_charAt {F : Int → zM → Prop} {x : Int} (hi : i < 20) (hx : 0 ≤ x ∧ x < ((zstx i).length : Int)) (h : F ((zstx i).getD x.toNat 0) μ) : zRun G ph 4 0 0 mJ0_charAt_5068e [zT (60 + i), zI x] μ (zKI F) := by
  have hl := zstx_l hi
  have hc := zstx_c hi (k := x.toNat) (by omega)
  refine z_body (by decide +kernel) (Nat.le_of_ble_eq_true rfl) (fun J C => (?_ : J 0 ([some (zT (60 + i)), some (zI x)], [], μ, 0, 0)))
  obtain ⟨p, e, s, m, args, below, meth, c, A, hml, hr, hlk, hnm, rfl⟩ := C
  refine s_aload_nT A dJ0_charAt_5068e_0 rfl ?_
  refine s_callVT (M := mJ0_isLatin1_aae02) (n := 0) (d := 0) (mc := 0) (ms := 0) (av := []) (st := []) A dJ0_charAt_5068e_1 hi zwx449 zwx450 zwx451 zwx101 zcd_J0_isLatin1_aae02 (Nat.le_of_ble_eq_true rfl) (Nat.le_of_ble_eq_true rfl) (Nat.le_refl _) ⟨Nat.le_of_ble_eq_true rfl, Nat.le_of_ble_eq_true rfl⟩ ⟨rfl, zhn_J0_isLatin1_aae02⟩ rfl (Nat.le_of_ble_eq_true rfl) rfl (z_contI (fun v1 μ1 hv => ?_) (zj_isLatin1 (F := fun v μ' => v = 1 ∧ μ' = μ) hi ⟨rfl, rfl⟩))
  obtain ⟨rfl, rfl⟩ := hv
  refine z_if_eq (tgt := 16) A dJ0_charAt_5068e_4 (by decide) ⟨by decide, by decide⟩ (fun z => absurd z (by decide)) (fun _ => ?_)
  refine s_aload_nT A dJ0_charAt_5068e_7 rfl ?_
  refine z_svalue A dJ0_charAt_5068e_8 hi zwx1940 ?_
  refine s_iload_n A dJ0_charAt_5068e_11 rfl ?_
  refine s_callS (M := mJ1_charAt_3b067) (n := 2) (d := 3) (mc := 0) (ms := 0) (av := [zT (80 + i), zI x]) (st := []) A dJ0_charAt_5068e_12 zwx453 zwx454 zwx102 zcd_J1_charAt_3b067 (Nat.le_of_ble_eq_true rfl) (Nat.le_of_ble_eq_true rfl) (Nat.le_refl _) ⟨Nat.le_of_ble_eq_true rfl, Nat.le_of_ble_eq_true rfl⟩ zhn_J1_charAt_3b067 rfl (Nat.le_of_ble_eq_true rfl) rfl (z_contI (fun v1 μ2 hv => ?_) (zj_lcharAt (F := fun v μ' => v = (zstx i).getD x.toNat 0 ∧ μ' = μ1) hi hx ⟨rfl, rfl⟩))
  obtain ⟨rfl, rfl⟩ := hv
  exact s_cret A dJ0_charAt_5068e_15 hr hlk (Nat.le_refl _) (Nat.le_refl _) hc ⟨_, rfl, h⟩
theorem zj_canEncode {F : Int → zM → Prop} {x : Int} (ix : zin x) (h : F (if 0 ≤ x ∧ x ≤ 255 then 1 else 0) μ) : zRun G ph 0 0 0 mJ1_canEncode_9a6ad [zI x] μ (zKI F) := by
  refine z_body (by decide +kernel) (Nat.le_of_ble_eq_true rfl) (fun J C => (?_ : J 0 ([some (zI x)], [], μ, 0, 0)))
  obtain ⟨p, e, s, m, args, below, meth, c, A, hml, hr, hlk, hnm, rfl⟩ := C
  refine s_iload_n A dJ1_canEncode_9a6ad_0 rfl ?_
  refine z_if_lt (tgt := 15) A dJ1_canEncode_9a6ad_1 (by decide) ix (fun z => ?_) (fun z => ?_)
  · rw [if_neg (by omega)] at h
    refine s_iconst A dJ1_canEncode_9a6ad_15 ?_
    exact s_zret A dJ1_canEncode_9a6ad_16 hr hlk (Nat.le_refl _) (Nat.le_refl _) (Or.inl rfl) ⟨_, rfl, h⟩
  · refine s_iload_n A dJ1_canEncode_9a6ad_4 rfl ?_
    refine s_sipush A dJ1_canEncode_9a6ad_5 rfl ?_
    refine z_icmp_gt (tgt := 15) A dJ1_canEncode_9a6ad_8 (by decide) ix ⟨by decide, by decide⟩ (fun y => ?_) (fun y => ?_)
    · rw [if_neg (by omega)] at h
      refine s_iconst A dJ1_canEncode_9a6ad_15 ?_
      exact s_zret A dJ1_canEncode_9a6ad_16 hr hlk (Nat.le_refl _) (Nat.le_refl _) (Or.inl rfl) ⟨_, rfl, h⟩
    · rw [if_pos (by omega)] at h
      refine s_iconst A dJ1_canEncode_9a6ad_11 ?_
      refine s_goto (tgt := 16) A dJ1_canEncode_9a6ad_12 (by decide) ?_
      exact s_zret A dJ1_canEncode_9a6ad_16 hr hlk (Nat.le_refl _) (Nat.le_refl _) (Or.inr rfl) ⟨_, rfl, h⟩
theorem zj_indexOfChar {F : Int → zM → Prop} {x : Int} (hi : i < 20) (hx : 0 ≤ x ∧ x ≤ 255) (h : F (zix i x) μ) : zRun G ph 0 0 0 mJ1_indexOfChar_4cfef [zT (80 + i), zI x, zI 0, zI ((zstx i).length : Int)] μ (zKI F) := by
  have hl := zstx_l hi
  refine z_body (by decide +kernel) (Nat.le_of_ble_eq_true rfl) (fun J C => (?_ : J 0 ([some (zT (80 + i)), some (zI x), some (zI 0), some (zI ((zstx i).length : Int)), none, none], [], μ, 0, 0)))
  obtain ⟨p, e, s, m, args, below, meth, c, A, hml, hr, hlk, hnm, rfl⟩ := C
  refine s_iload_n A dJ1_indexOfChar_4cfef_0 rfl ?_
  refine s_i2b A dJ1_indexOfChar_4cfef_1 ?_
  refine s_istore (L' := [some (zT (80 + i)), some (zI x), some (zI 0), some (zI ((zstx i).length : Int)), some (zI (zb x)), none]) A dJ1_indexOfChar_4cfef_2 (Nat.le_of_ble_eq_true rfl) rfl ?_
  refine s_iload_n A dJ1_indexOfChar_4cfef_4 rfl ?_
  refine s_istore (L' := [some (zT (80 + i)), some (zI x), some (zI 0), some (zI ((zstx i).length : Int)), some (zI (zb x)), some (zI 0)]) A dJ1_indexOfChar_4cfef_5 (Nat.le_of_ble_eq_true rfl) rfl ?_
  have key : ∀ (n k : Nat), n = (zstx i).length - k → k ≤ (zstx i).length → zixN (zstx i) x k = -1 → zJd G ph p e (zrm 0 0 0) s m args below meth c (MQ below (zQ G ph (zKI F)) args s 0 0 (zA G)) 7 ([some (zT (80 + i)), some (zI x), some (zI 0), some (zI ((zstx i).length : Int)), some (zI (zb x)), some (zI (k : Int))], [], μ, 0, 0) := by
    intro n
    induction n with
    | zero =>
      intro k hk hk2 hf
      refine s_iload A dJ1_indexOfChar_4cfef_7 rfl ?_
      refine s_iload_n A dJ1_indexOfChar_4cfef_9 rfl ?_
      refine z_icmp_ge (tgt := 31) A dJ1_indexOfChar_4cfef_10 (by decide) ⟨by omega, by omega⟩ ⟨by omega, by omega⟩ (fun _ => ?_) (fun z => absurd (by omega) z)
      refine s_iconst A dJ1_indexOfChar_4cfef_31 ?_
      have e2 : zix i x = -1 := by unfold zix; rw [show (zstx i).length = k by omega]; exact hf
      rw [e2] at h
      exact s_iret A dJ1_indexOfChar_4cfef_32 hr hlk (Nat.le_refl _) (Nat.le_refl _) ⟨_, rfl, h⟩
    | succ n ih =>
      intro k hk hk2 hf
      have hc := zstx_c hi (k := k) (by omega)
      refine s_iload A dJ1_indexOfChar_4cfef_7 rfl ?_
      refine s_iload_n A dJ1_indexOfChar_4cfef_9 rfl ?_
      refine z_icmp_ge (tgt := 31) A dJ1_indexOfChar_4cfef_10 (by decide) ⟨by omega, by omega⟩ ⟨by omega, by omega⟩ (fun z => absurd z (by omega)) (fun _ => ?_)
      refine s_aload_nT A dJ1_indexOfChar_4cfef_13 rfl ?_
      refine s_iload A dJ1_indexOfChar_4cfef_14 rfl ?_
      refine z_sbald A dJ1_indexOfChar_4cfef_16 hi ⟨by omega, by omega⟩ ?_
      rw [show ((k : Int)).toNat = k by omega]
      refine s_iload A dJ1_indexOfChar_4cfef_17 rfl ?_
      have hzb : (zstx i).getD k 0 = zb x ↔ (zstx i).getD k 0 = x := by unfold zb; omega
      refine z_icmp_ne (tgt := 25) A dJ1_indexOfChar_4cfef_19 (by decide) ⟨by omega, by omega⟩ (by unfold zb; constructor <;> omega) (fun z => ?_) (fun z => ?_)
      · refine s_iinc (L' := [some (zT (80 + i)), some (zI x), some (zI 0), some (zI ((zstx i).length : Int)), some (zI (zb x)), some (zI ((k : Int) + 1))]) A dJ1_indexOfChar_4cfef_25 rfl rfl ?_
        refine s_goto (tgt := 7) A dJ1_indexOfChar_4cfef_28 (by decide) ?_
        exact ih (k + 1) (by omega) (by omega) (by rw [zixN, hf, if_neg (by decide), if_neg (fun y => z (hzb.2 y))])
      · refine s_iload A dJ1_indexOfChar_4cfef_22 rfl ?_
        have e1 : zixN (zstx i) x (k + 1) = k := by rw [zixN, hf, if_neg (by decide), if_pos (hzb.1 z)]
        have e2 : zix i x = k := by
          have := zixN_m (l := zstx i) (c := x) (n := k + 1) (by omega) ((zstx i).length - (k + 1))
          rw [show k + 1 + ((zstx i).length - (k + 1)) = (zstx i).length by omega, e1] at this
          exact this
        rw [e2] at h
        exact s_iret A dJ1_indexOfChar_4cfef_24 hr hlk (Nat.le_refl _) (Nat.le_refl _) ⟨_, rfl, h⟩
  exact key (zstx i).length 0 (by omega) (by omega) rfl
theorem zj_lindexOf {F : Int → zM → Prop} {x : Int} (hi : i < 20) (ix : zin x) (h : F (zix i x) μ) : zRun G ph 2 0 0 mJ1_indexOf_4cfef [zT (80 + i), zI x, zI 0, zI ((zstx i).length : Int)] μ (zKI F) := by
  have hl := zstx_l hi
  refine z_body (by decide +kernel) (Nat.le_of_ble_eq_true rfl) (fun J C => (?_ : J 0 ([some (zT (80 + i)), some (zI x), some (zI 0), some (zI ((zstx i).length : Int))], [], μ, 0, 0)))
  obtain ⟨p, e, s, m, args, below, meth, c, A, hml, hr, hlk, hnm, rfl⟩ := C
  refine s_iload_n A dJ1_indexOf_4cfef_0 rfl ?_
  refine s_callS (M := mJ1_canEncode_9a6ad) (n := 1) (d := 0) (mc := 0) (ms := 0) (av := [zI x]) (st := []) A dJ1_indexOf_4cfef_1 zwx502 zwx503 zwx102 zcd_J1_canEncode_9a6ad (Nat.le_of_ble_eq_true rfl) (Nat.le_of_ble_eq_true rfl) (Nat.le_refl _) ⟨Nat.le_of_ble_eq_true rfl, Nat.le_of_ble_eq_true rfl⟩ zhn_J1_canEncode_9a6ad rfl (Nat.le_of_ble_eq_true rfl) rfl (z_contI (fun v1 μ1 hv => ?_) (zj_canEncode (F := fun v μ' => v = (if 0 ≤ x ∧ x ≤ 255 then 1 else 0) ∧ μ' = μ) ix ⟨rfl, rfl⟩))
  obtain ⟨hv, rfl⟩ := hv
  by_cases hx : 0 ≤ x ∧ x ≤ 255
  · rw [if_pos hx] at hv
    subst hv
    refine z_if_ne (tgt := 9) A dJ1_indexOf_4cfef_4 (by decide) ⟨by decide, by decide⟩ (fun _ => ?_) (fun z => absurd z (by decide))
    refine s_iload_n A dJ1_indexOf_4cfef_9 rfl ?_
    refine s_iconst A dJ1_indexOf_4cfef_10 ?_
    refine z_mmax A dJ1_indexOf_4cfef_11 zwx505 zwx506 zwx105 zwx507 (Nat.le_of_ble_eq_true rfl) (Nat.le_of_ble_eq_true rfl) ⟨Nat.le_of_ble_eq_true rfl, Nat.le_of_ble_eq_true rfl⟩ ⟨by decide, by decide⟩ ⟨by decide, by decide⟩ ?_
    rw [show max (0 : Int) 0 = 0 from rfl]
    refine s_istore_n (L' := [some (zT (80 + i)), some (zI x), some (zI 0), some (zI ((zstx i).length : Int))]) A dJ1_indexOf_4cfef_14 (Nat.le_of_ble_eq_true rfl) rfl ?_
    refine s_iload_n A dJ1_indexOf_4cfef_15 rfl ?_
    refine s_aload_nT A dJ1_indexOf_4cfef_16 rfl ?_
    refine z_sblen A dJ1_indexOf_4cfef_17 hi ?_
    refine z_mmin A dJ1_indexOf_4cfef_18 zwx508 zwx509 zwx105 zwx510 (Nat.le_of_ble_eq_true rfl) (Nat.le_of_ble_eq_true rfl) ⟨Nat.le_of_ble_eq_true rfl, Nat.le_of_ble_eq_true rfl⟩ ⟨by omega, by omega⟩ ⟨by omega, by omega⟩ ?_
    rw [show min ((zstx i).length : Int) ((zstx i).length : Int) = ((zstx i).length : Int) by omega]
    refine s_istore_n (L' := [some (zT (80 + i)), some (zI x), some (zI 0), some (zI ((zstx i).length : Int))]) A dJ1_indexOf_4cfef_21 (Nat.le_of_ble_eq_true rfl) rfl ?_
    refine s_iload_n A dJ1_indexOf_4cfef_22 rfl ?_
    refine s_iload_n A dJ1_indexOf_4cfef_23 rfl ?_
    refine z_icmp_lt (tgt := 29) A dJ1_indexOf_4cfef_24 (by decide) ⟨by decide, by decide⟩ ⟨by omega, by omega⟩ (fun _ => ?_) (fun z => ?_)
    · refine s_aload_nT A dJ1_indexOf_4cfef_29 rfl ?_
      refine s_iload_n A dJ1_indexOf_4cfef_30 rfl ?_
      refine s_iload_n A dJ1_indexOf_4cfef_31 rfl ?_
      refine s_iload_n A dJ1_indexOf_4cfef_32 rfl ?_
      refine s_callS (M := mJ1_indexOfChar_4cfef) (n := 4) (d := 0) (mc := 0) (ms := 0) (av := [zT (80 + i), zI x, zI 0, zI ((zstx i).length : Int)]) (st := []) A dJ1_indexOf_4cfef_33 zwx511 zwx512 zwx102 zcd_J1_indexOfChar_4cfef (Nat.le_of_ble_eq_true rfl) (Nat.le_of_ble_eq_true rfl) (Nat.le_refl _) ⟨Nat.le_of_ble_eq_true rfl, Nat.le_of_ble_eq_true rfl⟩ zhn_J1_indexOfChar_4cfef rfl (Nat.le_of_ble_eq_true rfl) rfl (z_contI (fun v1 μ2 hv => ?_) (zj_indexOfChar (F := fun v μ' => v = zix i x ∧ μ' = μ1) hi hx ⟨rfl, rfl⟩))
      obtain ⟨rfl, rfl⟩ := hv
      exact s_iret A dJ1_indexOf_4cfef_36 hr hlk (Nat.le_refl _) (Nat.le_refl _) ⟨_, rfl, h⟩
    · refine s_iconst A dJ1_indexOf_4cfef_27 ?_
      have e2 : zix i x = -1 := by unfold zix; rw [show (zstx i).length = 0 by omega]; rfl
      rw [e2] at h
      exact s_iret A dJ1_indexOf_4cfef_28 hr hlk (Nat.le_refl _) (Nat.le_refl _) ⟨_, rfl, h⟩
  · rw [if_neg hx] at hv
    subst hv
    refine z_if_ne (tgt := 9) A dJ1_indexOf_4cfef_4 (by decide) ⟨by decide, by decide⟩ (fun z => absurd rfl z) (fun _ => ?_)
    refine s_iconst A dJ1_indexOf_4cfef_7 ?_
    rw [zix_out hi (by omega)] at h
    exact s_iret A dJ1_indexOf_4cfef_8 hr hlk (Nat.le_refl _) (Nat.le_refl _) ⟨_, rfl, h⟩
theorem zj_indexOf2 {F : Int → zM → Prop} {x : Int} (hi : i < 20) (ix : zin x) (h : F (zix i x) μ) : zRun G ph 3 0 0 mJ0_indexOf_7cf53 [zT (60 + i), zI x, zI 0] μ (zKI F) := by
  have hl := zstx_l hi
  refine z_body (by decide +kernel) (Nat.le_of_ble_eq_true rfl) (fun J C => (?_ : J 0 ([some (zT (60 + i)), some (zI x), some (zI 0)], [], μ, 0, 0)))
  obtain ⟨p, e, s, m, args, below, meth, c, A, hml, hr, hlk, hnm, rfl⟩ := C
  refine s_aload_nT A dJ0_indexOf_7cf53_0 rfl ?_
  refine s_callVT (M := mJ0_isLatin1_aae02) (n := 0) (d := 0) (mc := 0) (ms := 0) (av := []) (st := []) A dJ0_indexOf_7cf53_1 hi zwx449 zwx450 zwx451 zwx101 zcd_J0_isLatin1_aae02 (Nat.le_of_ble_eq_true rfl) (Nat.le_of_ble_eq_true rfl) (Nat.le_refl _) ⟨Nat.le_of_ble_eq_true rfl, Nat.le_of_ble_eq_true rfl⟩ ⟨rfl, zhn_J0_isLatin1_aae02⟩ rfl (Nat.le_of_ble_eq_true rfl) rfl (z_contI (fun v1 μ1 hv => ?_) (zj_isLatin1 (F := fun v μ' => v = 1 ∧ μ' = μ) hi ⟨rfl, rfl⟩))
  obtain ⟨rfl, rfl⟩ := hv
  refine z_if_eq (tgt := 23) A dJ0_indexOf_7cf53_4 (by decide) ⟨by decide, by decide⟩ (fun z => absurd z (by decide)) (fun _ => ?_)
  refine s_aload_nT A dJ0_indexOf_7cf53_7 rfl ?_
  refine z_svalue A dJ0_indexOf_7cf53_8 hi zwx1940 ?_
  refine s_iload_n A dJ0_indexOf_7cf53_11 rfl ?_
  refine s_iload_n A dJ0_indexOf_7cf53_12 rfl ?_
  refine s_aload_nT A dJ0_indexOf_7cf53_13 rfl ?_
  refine s_callVT (M := mJ0_length_8abf5) (n := 0) (d := 2) (mc := 0) (ms := 0) (av := []) (st := [zI 0, zI x, zT (80 + i)]) A dJ0_indexOf_7cf53_14 hi zwx498 zwx406 zwx407 zwx101 zcd_J0_length_8abf5 (Nat.le_of_ble_eq_true rfl) (Nat.le_of_ble_eq_true rfl) (Nat.le_refl _) ⟨Nat.le_of_ble_eq_true rfl, Nat.le_of_ble_eq_true rfl⟩ ⟨rfl, zhn_J0_length_8abf5⟩ rfl (Nat.le_of_ble_eq_true rfl) rfl (z_contI (fun v1 μ2 hv => ?_) (zj_length (F := fun v μ' => v = ((zstx i).length : Int) ∧ μ' = μ1) hi ⟨rfl, rfl⟩))
  obtain ⟨rfl, rfl⟩ := hv
  refine s_callS (M := mJ1_indexOf_4cfef) (n := 4) (d := 2) (mc := 0) (ms := 0) (av := [zT (80 + i), zI x, zI 0, zI ((zstx i).length : Int)]) (st := []) A dJ0_indexOf_7cf53_17 zwx499 zwx500 zwx102 zcd_J1_indexOf_4cfef (Nat.le_of_ble_eq_true rfl) (Nat.le_of_ble_eq_true rfl) (Nat.le_refl _) ⟨Nat.le_of_ble_eq_true rfl, Nat.le_of_ble_eq_true rfl⟩ zhn_J1_indexOf_4cfef rfl (Nat.le_of_ble_eq_true rfl) rfl (z_contI (fun v1 μ3 hv => ?_) (zj_lindexOf (F := fun v μ' => v = zix i x ∧ μ' = μ2) hi ix ⟨rfl, rfl⟩))
  obtain ⟨rfl, rfl⟩ := hv
  refine s_goto (tgt := 36) A dJ0_indexOf_7cf53_20 (by decide) ?_
  exact s_iret A dJ0_indexOf_7cf53_36 hr hlk (Nat.le_refl _) (Nat.le_refl _) ⟨_, rfl, h⟩
theorem zj_indexOf {F : Int → zM → Prop} {x : Int} (hi : i < 20) (ix : zin x) (h : F (zix i x) μ) : zRun G ph 4 0 0 mJ0_indexOf_0f7a4 [zT (60 + i), zI x] μ (zKI F) := by
  refine z_body (by decide +kernel) (Nat.le_of_ble_eq_true rfl) (fun J C => (?_ : J 0 ([some (zT (60 + i)), some (zI x)], [], μ, 0, 0)))
  obtain ⟨p, e, s, m, args, below, meth, c, A, hml, hr, hlk, hnm, rfl⟩ := C
  refine s_aload_nT A dJ0_indexOf_0f7a4_0 rfl ?_
  refine s_iload_n A dJ0_indexOf_0f7a4_1 rfl ?_
  refine s_iconst A dJ0_indexOf_0f7a4_2 ?_
  refine s_callVT (M := mJ0_indexOf_7cf53) (n := 2) (d := 3) (mc := 0) (ms := 0) (av := [zI x, zI 0]) (st := []) A dJ0_indexOf_0f7a4_3 hi zwx494 zwx495 zwx496 zwx101 zcd_J0_indexOf_7cf53 (Nat.le_of_ble_eq_true rfl) (Nat.le_of_ble_eq_true rfl) (Nat.le_refl _) ⟨Nat.le_of_ble_eq_true rfl, Nat.le_of_ble_eq_true rfl⟩ ⟨rfl, zhn_J0_indexOf_7cf53⟩ rfl (Nat.le_of_ble_eq_true rfl) rfl (z_contI (fun v1 μ1 hv => ?_) (zj_indexOf2 (F := fun v μ' => v = zix i x ∧ μ' = μ) hi ix ⟨rfl, rfl⟩))
  obtain ⟨rfl, rfl⟩ := hv
  exact s_iret A dJ0_indexOf_0f7a4_6 hr hlk (Nat.le_refl _) (Nat.le_refl _) ⟨_, rfl, h⟩
end
