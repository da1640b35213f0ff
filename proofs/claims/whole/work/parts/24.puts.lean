/-! stores in fields, conts of calls -/
theorem zfv_upI {G : zG} {μ : zM} {a k j : Nat} {sl : Bool} {x : Int} (hft : zft k j = 0) (N : Nat) (hj : j < N) : (List.range N).map (zfv G (zup μ a (j : Int) x) a sl k) = ((List.range N).map (zfv G μ a sl k)).set j (cv G (zI x)) := by
  apply List.ext_getElem?
  intro i
  rw [List.getElem?_set, List.getElem?_map, List.getElem?_map]
  by_cases hi : i < N
  · rw [List.getElem?_range hi]
    by_cases hij : j = i
    · subst hij
      rw [if_pos rfl, if_pos (by simpa using hj)]
      show some (zfv G (zup μ a (j : Int) x) a sl k j) = _
      unfold zfv
      rw [hft, zi_up, if_pos ⟨rfl, rfl⟩]
      rfl
    · rw [if_neg hij]
      show some (zfv G (zup μ a (j : Int) x) a sl k i) = some (zfv G μ a sl k i)
      unfold zfv
      rw [zi_up, if_neg (by omega)]
      rfl
  · rw [List.getElem?_eq_none (by simp; omega)]
    by_cases hij : j = i
    · omega
    · rw [if_neg hij]; rfl
theorem zfv_upR {G : zG} {μ : zM} {a k j : Nat} {sl : Bool} {r : Option Nat} (hft : zft k j = 2) (hof : sl = false ∨ zoff k j = none) (N : Nat) (hj : j < N) : (List.range N).map (zfv G (zupr μ a (j : Int) r) a sl k) = ((List.range N).map (zfv G μ a sl k)).set j (cv G (zR r)) := by
  apply List.ext_getElem?
  intro i
  rw [List.getElem?_set, List.getElem?_map, List.getElem?_map]
  by_cases hi : i < N
  · rw [List.getElem?_range hi]
    by_cases hij : j = i
    · subst hij
      rw [if_pos rfl, if_pos (by simpa using hj)]
      show some (zfv G (zupr μ a (j : Int) r) a sl k j) = _
      unfold zfv
      rw [hft, zr_upr, if_pos ⟨rfl, rfl⟩]
      rcases hof with h | h
      · subst h; rfl
      · rw [h]; cases sl <;> rfl
    · rw [if_neg hij]
      show some (zfv G (zupr μ a (j : Int) r) a sl k i) = some (zfv G μ a sl k i)
      unfold zfv
      rw [zr_upr, if_neg (by omega)]
      rfl
  · rw [List.getElem?_eq_none (by simp; omega)]
    by_cases hij : j = i
    · omega
    · rw [if_neg hij]; rfl
theorem z_contI {G : zG} {ph : Bool} {d mc ms : Nat} {M : zMeth} {av : List zV} {μ : zM} {J : Nat → zS → Prop} {F : Int → zM → Prop} {pc : Nat} {L : List (Option zV)} {st : List zV} {c u : Nat} (k : ∀ x μ', F x μ' → J pc (L, zI x :: st, μ', c, u)) (h : zRun G ph d mc ms M av μ (zKI F)) : zRun G ph d mc ms M av μ (fun r μ' => J pc (L, r.toList ++ st, μ', c, u)) :=
  h.mono (fun r μ' q => by obtain ⟨x, rfl, q⟩ := q; exact k x μ' q)
theorem z_contL {G : zG} {ph : Bool} {d mc ms : Nat} {M : zMeth} {av : List zV} {μ : zM} {J : Nat → zS → Prop} {F : Int → zM → Prop} {pc : Nat} {L : List (Option zV)} {st : List zV} {c u : Nat} (k : ∀ x μ', F x μ' → J pc (L, zL x :: st, μ', c, u)) (h : zRun G ph d mc ms M av μ (zKL F)) : zRun G ph d mc ms M av μ (fun r μ' => J pc (L, r.toList ++ st, μ', c, u)) :=
  h.mono (fun r μ' q => by obtain ⟨x, rfl, q⟩ := q; exact k x μ' q)
theorem z_contR {G : zG} {ph : Bool} {d mc ms : Nat} {M : zMeth} {av : List zV} {μ : zM} {J : Nat → zS → Prop} {F : Option Nat → zM → Prop} {pc : Nat} {L : List (Option zV)} {st : List zV} {c u : Nat} (k : ∀ x μ', F x μ' → J pc (L, zR x :: st, μ', c, u)) (h : zRun G ph d mc ms M av μ (zKR F)) : zRun G ph d mc ms M av μ (fun r μ' => J pc (L, r.toList ++ st, μ', c, u)) :=
  h.mono (fun r μ' q => by obtain ⟨x, rfl, q⟩ := q; exact k x μ' q)
theorem z_contT {G : zG} {ph : Bool} {d mc ms : Nat} {M : zMeth} {av : List zV} {μ : zM} {J : Nat → zS → Prop} {F : Nat → zM → Prop} {pc : Nat} {L : List (Option zV)} {st : List zV} {c u : Nat} (k : ∀ x μ', F x μ' → J pc (L, zT x :: st, μ', c, u)) (h : zRun G ph d mc ms M av μ (zKT F)) : zRun G ph d mc ms M av μ (fun r μ' => J pc (L, r.toList ++ st, μ', c, u)) :=
  h.mono (fun r μ' q => by obtain ⟨x, rfl, q⟩ := q; exact k x μ' q)
theorem z_contV {G : zG} {ph : Bool} {d mc ms : Nat} {M : zMeth} {av : List zV} {μ : zM} {J : Nat → zS → Prop} {F : zM → Prop} {pc : Nat} {L : List (Option zV)} {st : List zV} {c u : Nat} (k : ∀ μ', F μ' → J pc (L, st, μ', c, u)) (h : zRun G ph d mc ms M av μ (zKV F)) : zRun G ph d mc ms M av μ (fun r μ' => J pc (L, r.toList ++ st, μ', c, u)) :=
  h.mono (fun r μ' q => by obtain ⟨rfl, q⟩ := q; exact k μ' q)
section
variable {G : zG} {ph : Bool} {p : Program} {e : Env} {R : Room} {s : State} {m : MethodId} {args : Array Value} {below : List Frame} {meth : Method} {c : Code} {Q : State → Prop} {cc : ByteArray} {own : String} {Ts : List Cond} {pc : Nat} {L L' : List (Option zV)} {st st' : List zV} {μ μ' : zM} {cn un : Nat}
variable {index k N j a : Nat} {sl : Bool} {C : String} {T : u_T}
theorem z_putI (A : zAm G p s m args c cc own Ts) {x : Int} (d : decode cc pc = .ok (.putfield index, 3)) (hc : vwCl[k]? = some (C, T, N)) (hin : ∀ w ∈ u_ws C T N, w ∈ Ts) (hj : j < N) (hw : Cond.fieldLink own index (T j).1 (T j).2.1 (T j).2.2.1 ∈ Ts) (hk : k < 12) (hq : zok ph μ a (cond sl (k + 20) k, N)) (ty0 : Nat → FieldType) (hty : ∀ k, k < N → parseFieldDescriptor (T k).2.2.1 = some (ty0 k)) (hnm : ∀ a, a < N → ∀ b, b < N → a ≠ b → (T a).2.1 ≠ (T b).2.1) (hft : zft k j = 0) (htj : ty0 j = .int) (hfin : (T j).2.2.2 = false)
    (k9 : zJd G ph p e R s m args below meth c Q (pc + 3) (L, st, zup μ a (j : Int) x, cn, un)) : zJd G ph p e R s m args below meth c Q pc (L, zI x :: zR (some a) :: st, μ, cn, un) :=
  z_put (μ' := zup μ a (j : Int) x) (sl := sl) A d hc hin hj hw hk hq ty0 hty hnm rfl (fun b hb => zcell_up hb) (by rw [zcell_obj (μ := zup μ a (j : Int) x) hk hq.2, zfv_upI hft N hj]) (by rw [htj]; rfl) (by rw [htj]; rfl) hfin k9
theorem z_putZ (A : zAm G p s m args c cc own Ts) {x : Int} (d : decode cc pc = .ok (.putfield index, 3)) (hc : vwCl[k]? = some (C, T, N)) (hin : ∀ w ∈ u_ws C T N, w ∈ Ts) (hj : j < N) (hw : Cond.fieldLink own index (T j).1 (T j).2.1 (T j).2.2.1 ∈ Ts) (hk : k < 12) (hq : zok ph μ a (cond sl (k + 20) k, N)) (ty0 : Nat → FieldType) (hty : ∀ k, k < N → parseFieldDescriptor (T k).2.2.1 = some (ty0 k)) (hnm : ∀ a, a < N → ∀ b, b < N → a ≠ b → (T a).2.1 ≠ (T b).2.1) (hft : zft k j = 0) (htj : ty0 j = .boolean) (hfin : (T j).2.2.2 = false) (hx : x = 0 ∨ x = 1)
    (k9 : zJd G ph p e R s m args below meth c Q (pc + 3) (L, st, zup μ a (j : Int) x, cn, un)) : zJd G ph p e R s m args below meth c Q pc (L, zI x :: zR (some a) :: st, μ, cn, un) :=
  z_put (μ' := zup μ a (j : Int) x) (sl := sl) A d hc hin hj hw hk hq ty0 hty hnm rfl (fun b hb => zcell_up hb) (by rw [zcell_obj (μ := zup μ a (j : Int) x) hk hq.2, zfv_upI hft N hj]) (by rw [htj]; rcases hx with rfl | rfl <;> rfl) (by rw [htj]; rcases hx with rfl | rfl <;> rfl) hfin k9
theorem z_putR (A : zAm G p s m args c cc own Ts) {r : Option Nat} {ty : FieldType} (d : decode cc pc = .ok (.putfield index, 3)) (hc : vwCl[k]? = some (C, T, N)) (hin : ∀ w ∈ u_ws C T N, w ∈ Ts) (hj : j < N) (hw : Cond.fieldLink own index (T j).1 (T j).2.1 (T j).2.2.1 ∈ Ts) (hk : k < 12) (hq : zok ph μ a (cond sl (k + 20) k, N)) (ty0 : Nat → FieldType) (hty : ∀ k, k < N → parseFieldDescriptor (T k).2.2.1 = some (ty0 k)) (hnm : ∀ a, a < N → ∀ b, b < N → a ≠ b → (T a).2.1 ≠ (T b).2.1) (hft : zft k j = 2) (hof : sl = false ∨ zoff k j = none) (htj : ty0 j = ty) (hrt : (∃ n, ty = .object n) ∨ ∃ t, ty = .array t) (hfin : (T j).2.2.2 = false)
    (k9 : zJd G ph p e R s m args below meth c Q (pc + 3) (L, st, zupr μ a (j : Int) r, cn, un)) : zJd G ph p e R s m args below meth c Q pc (L, zR r :: zR (some a) :: st, μ, cn, un) :=
  z_put (μ' := zupr μ a (j : Int) r) (sl := sl) (v := zR r) A d hc hin hj hw hk hq ty0 hty hnm rfl (fun b hb => zcell_upr hb) (by rw [zcell_obj (μ := zupr μ a (j : Int) r) hk hq.2, zfv_upR hft hof N hj]) (by rw [htj]; rcases hrt with ⟨n, rfl⟩ | ⟨t, rfl⟩ <;> cases r <;> rfl) (by rw [htj]; rcases hrt with ⟨n, rfl⟩ | ⟨t, rfl⟩ <;> cases r <;> rfl) hfin k9
theorem z_putFI (A : zAm G p s m args c cc own Ts) {x : Int} (d : decode cc pc = .ok (.putfield index, 3)) (hc : vwCl[k]? = some (C, T, N)) (hin : ∀ w ∈ u_ws C T N, w ∈ Ts) (hj : j < N) (hw : Cond.fieldLink own index (T j).1 (T j).2.1 (T j).2.2.1 ∈ Ts) (hk : k < 12) (hq : zok ph μ a (cond sl (k + 20) k, N)) (ty0 : Nat → FieldType) (hty : ∀ k, k < N → parseFieldDescriptor (T k).2.2.1 = some (ty0 k)) (hnm : ∀ a, a < N → ∀ b, b < N → a ≠ b → (T a).2.1 ≠ (T b).2.1) (hft : zft k j = 0) (htj : ty0 j = .int) (hfin : (T j).2.2.2 = true) (hin2 : meth.name = "<init>") (hdecl : (T j).1 = own)
    (k9 : zJd G ph p e R s m args below meth c Q (pc + 3) (L, st, zup μ a (j : Int) x, cn, un)) : zJd G ph p e R s m args below meth c Q pc (L, zI x :: zR (some a) :: st, μ, cn, un) :=
  z_putF (μ' := zup μ a (j : Int) x) (sl := sl) A d hc hin hj hw hk hq ty0 hty hnm rfl (fun b hb => zcell_up hb) (by rw [zcell_obj (μ := zup μ a (j : Int) x) hk hq.2, zfv_upI hft N hj]) (by rw [htj]; rfl) (by rw [htj]; rfl) hfin hin2 hdecl k9
theorem z_putFR (A : zAm G p s m args c cc own Ts) {r : Option Nat} {ty : FieldType} (d : decode cc pc = .ok (.putfield index, 3)) (hc : vwCl[k]? = some (C, T, N)) (hin : ∀ w ∈ u_ws C T N, w ∈ Ts) (hj : j < N) (hw : Cond.fieldLink own index (T j).1 (T j).2.1 (T j).2.2.1 ∈ Ts) (hk : k < 12) (hq : zok ph μ a (cond sl (k + 20) k, N)) (ty0 : Nat → FieldType) (hty : ∀ k, k < N → parseFieldDescriptor (T k).2.2.1 = some (ty0 k)) (hnm : ∀ a, a < N → ∀ b, b < N → a ≠ b → (T a).2.1 ≠ (T b).2.1) (hft : zft k j = 2) (hof : sl = false ∨ zoff k j = none) (htj : ty0 j = ty) (hrt : (∃ n, ty = .object n) ∨ ∃ t, ty = .array t) (hfin : (T j).2.2.2 = true) (hin2 : meth.name = "<init>") (hdecl : (T j).1 = own)
    (k9 : zJd G ph p e R s m args below meth c Q (pc + 3) (L, st, zupr μ a (j : Int) r, cn, un)) : zJd G ph p e R s m args below meth c Q pc (L, zR r :: zR (some a) :: st, μ, cn, un) :=
  z_putF (μ' := zupr μ a (j : Int) r) (sl := sl) (v := zR r) A d hc hin hj hw hk hq ty0 hty hnm rfl (fun b hb => zcell_upr hb) (by rw [zcell_obj (μ := zupr μ a (j : Int) r) hk hq.2, zfv_upR hft hof N hj]) (by rw [htj]; rcases hrt with ⟨n, rfl⟩ | ⟨t, rfl⟩ <;> cases r <;> rfl) (by rw [htj]; rcases hrt with ⟨n, rfl⟩ | ⟨t, rfl⟩ <;> cases r <;> rfl) hfin hin2 hdecl k9
/-- Object.<init> -/
theorem z_objInit (A : zAm G p s m args c cc own Ts) (d : decode cc pc = .ok (.invokespecial index, 3)) (hw : Cond.methodLink own index objectInit ∈ Ts) (hw2 : Cond.instanceMethod objectInit ∈ Ts) (hw3 : Cond.code objectInit ⟨#[0xb1]⟩ 1 none ∈ Ts) (hfr : 1 ≤ R.frames) (hst : (st.map zcat).sum ≤ 8) (hlo : 20 ≤ R.locals)
    (k9 : zJd G ph p e R s m args below meth c Q (pc + 3) (L, st, μ, cn, un)) : zJd G ph p e R s m args below meth c Q pc (L, zR (some a) :: st, μ, cn, un) := by
  intro H locs ls hl hh hS
  refine W.objInit A.1 A.2.1 A.2.2.1 (A.2.2.2.1 _ hw) (A.2.2.2.1 _ hw2) (A.2.2.2.1 _ hw3) rfl hl.1 rfl d hfr ?_ (k9 H locs ls hl hh hS)
  show 2 * 0 + _ + _ ≤ _
  rw [z_cats]
  omega
end
