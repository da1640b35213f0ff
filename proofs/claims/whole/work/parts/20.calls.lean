/-! contracts of methods, calls, returns -/
def zTw : List Cond := lw_tbl.filter goodWord
abbrev zMeth : Type := MethodName × ByteArray × Nat × Option FieldType
def zcode (M : zMeth) : Cond := .code M.1 M.2.1 M.2.2.1 M.2.2.2
def zrm (d mc ms : Nat) : Room := { frames := d, cells := mc, slots := ms, locals := 40 * d }
def zQ (G : zG) (ph : Bool) (K : Option zV → zM → Prop) : Array Value → State → Outcome → State → Prop := fun _ st o t => (∃ (r : Option zV) (μ' : zM), K r μ' ∧ o = .returned (r.map (cv G)) ∧ zRel G ph μ' t) ∧ va_F (zA G) st t
def zP (G : zG) (ph : Bool) (av : List zV) (μ : zM) : Array Value → State → Prop := fun v U => v = (av.map (cv G)).toArray ∧ zRel G ph μ U
def zRun (G : zG) (ph : Bool) (d mc ms : Nat) (M : zMeth) (av : List zV) (μ : zM) (K : Option zV → zM → Prop) : Prop :=
  Met (zl G) M.1 (zcode M :: zTw) (zrm d mc ms) (zP G ph av μ) (zQ G ph K) mc ms (zA G)
theorem zP.blind {G : zG} {ph : Bool} {av : List zV} {μ : zM} : FrameBlind (zP G ph av μ) := fun a U g mk h => ⟨h.1, zRel.same (u := U) (U := U.calling g mk a) rfl rfl h.2⟩
theorem zTw_mem {w : Cond} (h : w ∈ lw_tbl) (hg : goodWord w = true) : w ∈ zTw := List.mem_filter.mpr ⟨h, hg⟩
theorem zTw_good {ws : List Cond} (h : ∀ w ∈ ws, w ∈ zTw) : GoodIn zTw ws := fun w hw => ⟨h w hw, good_of_word (List.mem_filter.mp (h w hw)).2⟩
theorem z_code_good (M : zMeth) : goodWord (zcode M) = true := rfl
section
variable {G : zG} {ph : Bool} {p : Program} {e : Env} {R : Room} {s : State} {m : MethodId} {args : Array Value} {below : List Frame} {meth : Method} {c : Code} {Q : State → Prop} {cc : ByteArray} {own : String} {pc : Nat} {L L' : List (Option zV)} {st : List zV} {μ μ' : zM} {cn un : Nat}
theorem z_env (A : zAm G p s m args c cc own zTw) {H : Heap} {locs : List Loc} {U : State} (hS : va_S (zA G) s.heap H locs) (hU : U.heap = H) (hW : s.WarmedH U.vm) : va_K (zD G) vwCl (zTys G) U ∧ zStat G U U.heap ∧ zNs G U :=
  ⟨A.2.2.2.2.1.moved hW.alike, by rw [hU]; exact (A.2.2.2.2.2.1.kept hS.2.1).moved hW.alike, A.2.2.2.2.2.2.warm hW⟩
theorem z_after {mc ms : Nat} {g : JFrame} {rest : List Value} {a : Array Value} {K : Option zV → zM → Prop} {H : Heap} {locs : List Loc} {ls : Array Slot} (hl : zls G c.maxLocals ls L) (hS : va_S (zA G) s.heap H locs) (hrest : rest = st.map (cv G)) (hg : g = F0 m pc ls g.stack)
    (run : va_Run p (zl G) e R s m args below meth c H locs cn un mc ms g rest (zQ G ph K a) (zA G))
    (k9 : ∀ r μ', K r μ' → zJd G ph p e R s m args below meth c Q (pc + 3) (L, r.toList ++ st, μ', cn + mc, un + ms)) : W p (zl G) e R s m args below meth c H locs cn un Q g := by
  intro T hT X
  obtain ⟨v, st₀, t, T', Lc, h0, X', hL, e1, e2, ⟨⟨r, μ', hK, ho, hrel⟩, hF⟩, hgo⟩ := run T hT X
  have hv : v = r.map (cv G) := by injection ho
  have hz : H.size ≤ T'.heap.size := by rw [e1, ← h0]; exact hF.1
  have hk : ∀ q : Nat, q < H.size → ¬ zA G q → T'.heap[q]? = H[q]? := fun q h1 h2 => by rw [e1, ← h0]; exact hF.2 q (by rw [h0]; exact h1) h2
  obtain ⟨t2, a1, b1⟩ := k9 r μ' hK T'.heap (locs ++ Lc) ls hl (by rw [e1]; exact hrel.1) ⟨Nat.le_trans hS.1 hz, fun q h1 h2 => by rw [hk q (Nat.lt_of_lt_of_le h1 hS.1) h2]; exact hS.2.1 q h1 h2, fun q hq => by
      rcases List.mem_append.mp hq with h | h
      · exact hS.2.2 q h
      · exact hL q h⟩ T' rfl X'
  refine ⟨t2, hgo t2 ?_, b1⟩
  have eg : ({ g with pc := g.pc + 3, stack := v.toList ++ rest } : JFrame) = F0 m (pc + 3) ls ((r.toList ++ st).map (cv G)) := by
    rw [hg, hv, hrest, List.map_append]
    cases r <;> rfl
  rw [eg]
  exact a1
theorem zlo {d : Nat} {M : zMeth} (hd : d + 1 ≤ R.frames) (hm : M.2.2.1 ≤ 21) (hl : 40 * R.frames ≤ R.locals) (mc ms : Nat) : (zrm d mc ms).frames + 1 ≤ R.frames ∧ 8 + (M.2.2.1 + 11) + (zrm d mc ms).locals ≤ R.locals := ⟨hd, by show 8 + (M.2.2.1 + 11) + 40 * d ≤ _; omega⟩
/-- a static method -/
theorem s_callS (A : zAm G p s m args c cc own zTw) {M : zMeth} {index n d mc ms : Nat} {av : List zV} (dd : decode cc pc = .ok (.invokestatic index, 3)) (hw : Cond.methodLink own index M.1 ∈ zTw) (hw2 : Cond.static M.1 ∈ zTw) (hw3 : Cond.initialized M.1.cls ∈ zTw) (hw4 : zcode M ∈ zTw) (hd : d + 1 ≤ R.frames) (hm : M.2.2.1 ≤ 21) (hlo : 40 * R.frames ≤ R.locals) (hcs : cn + mc ≤ R.cells ∧ un + ms ≤ R.slots) (hn : M.1.cls ≠ "java/lang/invoke/MethodHandle" ∧ M.1.cls ≠ "java/lang/invoke/VarHandle" ∧ (parseMethodDescriptor M.1.desc).map (fun d => d.parameters.length) = some n) (hav : av.length = n) (hst : (st.map zcat).sum ≤ 8) {stk : List zV} (hstk : stk = av.reverse ++ st)
    (k9 : zRun G ph d mc ms M av μ (fun r μ' => zJd G ph p e R s m args below meth c Q (pc + 3) (L, r.toList ++ st, μ', cn + mc, un + ms))) : zJd G ph p e R s m args below meth c Q pc (L, stk, μ, cn, un) := by
  subst hstk
  intro H locs ls hl hh hS
  have hG : GoodIn zTw (va_wsS own index M.1 (zcode M :: zTw)) := zTw_good (fun w h => by
    rcases List.mem_append.mp h with h | h
    · simp only [List.mem_cons, List.not_mem_nil, or_false] at h
      rcases h with rfl | rfl | rfl
      · exact hw
      · exact hw2
      · exact hw3
    · rcases List.mem_cons.mp h with rfl | h
      · exact hw4
      · exact h)
  have cw := va_cwS (R := R) (s := s) (args := args) (rm := zrm d mc ms) (mc := mc) (ms := ms) n A.2.2.2.1 hG (y := M.1) (bytes := M.2.1) (maxL := M.2.2.1) (ret := M.2.2.2) rfl rfl rfl hn (zlo hd hm hlo mc ms)
  refine z_after (st := st) hl hS rfl rfl (va_runS (As := av.map (cv G)) (rest := st.map (cv G)) (nL := c.maxLocals) ⟨A.1, A.2.1, rfl, A.2.2.1, A.2.2.2.1⟩ k9 cw ⟨zP.blind, fun U hU hW => ⟨rfl, by rw [hU]; exact hh, z_env A hS hU hW⟩⟩ rfl (by rw [List.length_map]; exact hav) hl.1 ?_ (by show 2 * 0 + _ ≤ 8; rw [z_cats]; omega) dd hcs) (fun r μ' h => h)
  show List.map (cv G) (av.reverse ++ st) = _
  rw [List.map_append, List.map_reverse]
/-- a method of a thing -/
theorem s_callV (A : zAm G p s m args c cc own zTw) {M : zMeth} {index n d mc ms a k N : Nat} {sl : Bool} {C : String} {T : u_T} {av : List zV} (dd : decode cc pc = .ok (.invokevirtual index, 3)) (hc : vwCl[k]? = some (C, T, N)) (hk : k < 12) (hq : zok ph μ a (cond sl (k + 20) k, N)) (hw : Cond.methodLink own index M.1 ∈ zTw) (hw2 : Cond.instanceMethod M.1 ∈ zTw) (hw5 : Cond.selects C M.1 M.1 ∈ zTw) (hw3 : Cond.initialized C ∈ zTw) (hw4 : zcode M ∈ zTw) (hd : d + 1 ≤ R.frames) (hm : M.2.2.1 ≤ 21) (hlo : 40 * R.frames ≤ R.locals) (hcs : cn + mc ≤ R.cells ∧ un + ms ≤ R.slots) (hn : M.1.cls = C ∧ M.1.cls ≠ "java/lang/invoke/MethodHandle" ∧ M.1.cls ≠ "java/lang/invoke/VarHandle" ∧ (parseMethodDescriptor M.1.desc).map (fun d => d.parameters.length) = some n) (hav : av.length = n) (hst : (st.map zcat).sum ≤ 8) {stk : List zV} (hstk : stk = av.reverse ++ zR (some a) :: st)
    (k9 : zRun G ph d mc ms M (zR (some a) :: av) μ (fun r μ' => zJd G ph p e R s m args below meth c Q (pc + 3) (L, r.toList ++ st, μ', cn + mc, un + ms))) : zJd G ph p e R s m args below meth c Q pc (L, stk, μ, cn, un) := by
  subst hstk
  intro H locs ls hl hh hS
  have hG : GoodIn zTw (wsV own index C M.1 (zcode M :: zTw)) := zTw_good (fun w h => by
    rcases List.mem_append.mp h with h | h
    · simp only [List.mem_cons, List.not_mem_nil, or_false] at h
      rcases h with rfl | rfl | rfl | rfl
      · exact hw
      · exact hw2
      · exact hw5
      · exact hw3
    · rcases List.mem_cons.mp h with rfl | h
      · exact hw4
      · exact h)
  have cw := cwV (R := R) (s := s) (args := args) (rm := zrm d mc ms) (mc := mc) (ms := ms) n A.2.2.2.1 hG (y := M.1) (bytes := M.2.1) (maxL := M.2.2.1) (ret := M.2.2.2) rfl rfl rfl hn (zlo hd hm hlo mc ms)
  have he := z_ok_ix hq hh
  rw [zcell_obj hk hq.2] at he
  refine z_after (st := st) hl hS rfl rfl (va_runV (As := av.map (cv G)) (rest := st.map (cv G)) (nL := c.maxLocals) ⟨A.1, A.2.1, rfl, A.2.2.1, A.2.2.2.1⟩ k9 cw ⟨zP.blind, va_recv A.2.2.2.2.1 hh.1 hc he, fun U hU hW => ⟨rfl, by rw [hU]; exact hh, z_env A hS hU hW⟩⟩ rfl (by rw [List.length_map]; exact hav) hl.1 ?_ (by show 2 * 0 + _ ≤ 8; rw [z_cats]; omega) dd hcs) (fun r μ' h => h)
  show List.map (cv G) (av.reverse ++ zR (some a) :: st) = _
  rw [List.map_append, List.map_reverse]
  rfl
/-- a constructor -/
theorem s_callI (A : zAm G p s m args c cc own zTw) {M : zMeth} {index n d mc ms a : Nat} {av : List zV} (dd : decode cc pc = .ok (.invokespecial index, 3)) (hret : M.2.2.2 = none) (hw : Cond.methodLink own index M.1 ∈ zTw) (hw2 : Cond.instanceMethod M.1 ∈ zTw) (hw3 : Cond.initialized M.1.cls ∈ zTw) (hw4 : zcode M ∈ zTw) (hy : M.1.name = "<init>") (hd : d + 1 ≤ R.frames) (hm : M.2.2.1 ≤ 21) (hlo : 40 * R.frames ≤ R.locals) (hcs : cn + mc ≤ R.cells ∧ un + ms ≤ R.slots) (hn : M.1.cls ≠ "java/lang/invoke/MethodHandle" ∧ M.1.cls ≠ "java/lang/invoke/VarHandle" ∧ (parseMethodDescriptor M.1.desc).map (fun d => d.parameters.length) = some n) (hav : av.length = n) (hst : (st.map zcat).sum ≤ 8) {stk : List zV} (hstk : stk = av.reverse ++ zR (some a) :: st)
    (k9 : zRun G ph d mc ms M (zR (some a) :: av) μ (fun r μ' => zJd G ph p e R s m args below meth c Q (pc + 3) (L, r.toList ++ st, μ', cn + mc, un + ms))) : zJd G ph p e R s m args below meth c Q pc (L, stk, μ, cn, un) := by
  subst hstk
  intro H locs ls hl hh hS
  have hG : GoodIn zTw (zcode M :: zTw) := zTw_good (fun w h => by
    rcases List.mem_cons.mp h with rfl | h
    · exact hw4
    · exact h)
  obtain ⟨y, bytes, maxL, ret⟩ := M
  have hret : ret = none := hret
  subst hret
  have cw := cwI (R := R) (s := s) (args := args) (rm := zrm d mc ms) (mc := mc) (ms := ms) n A.2.2.2.1 hG (y := y) (bytes := bytes) (maxL := maxL) rfl rfl rfl (A.2.2.2.1 _ hw3) (A.2.2.2.1 _ hw) (A.2.2.2.1 _ hw2) hy hn (zlo (M := (y, bytes, maxL, none)) hd hm hlo mc ms)
  refine z_after (st := st) hl hS rfl rfl (va_runI (As := av.map (cv G)) (b := zad G a) (rest := st.map (cv G)) (nL := c.maxLocals) ⟨A.1, A.2.1, rfl, A.2.2.1, A.2.2.2.1⟩ k9 cw ⟨zP.blind, fun U hU hW => ⟨rfl, by rw [hU]; exact hh, z_env A hS hU hW⟩⟩ rfl (by rw [List.length_map]; exact hav) hl.1 ?_ (by show 2 * 0 + _ ≤ 8; rw [z_cats]; omega) dd hcs) (fun r μ' h => h)
  show List.map (cv G) (av.reverse ++ zR (some a) :: st) = _
  rw [List.map_append, List.map_reverse]
  rfl
/-- a static method of a nest mate -/
theorem s_callSN (A : zAm G p s m args c cc own zTw) {M : zMeth} {index n d mc ms : Nat} {host : String} {av : List zV} (dd : decode cc pc = .ok (.invokestatic index, 3)) (hw : Cond.methodLinkNest own index M.1 host ∈ lw_tbl) (hw2 : Cond.static M.1 ∈ zTw) (hw3 : Cond.initialized M.1.cls ∈ zTw) (hw4 : zcode M ∈ zTw) (hd : d + 1 ≤ R.frames) (hm : M.2.2.1 ≤ 21) (hlo : 40 * R.frames ≤ R.locals) (hcs : cn + mc ≤ R.cells ∧ un + ms ≤ R.slots) (hn : M.1.cls ≠ "java/lang/invoke/MethodHandle" ∧ M.1.cls ≠ "java/lang/invoke/VarHandle" ∧ (parseMethodDescriptor M.1.desc).map (fun d => d.parameters.length) = some n) (hav : av.length = n) (hst : (st.map zcat).sum ≤ 8) {stk : List zV} (hstk : stk = av.reverse ++ st)
    (k9 : zRun G ph d mc ms M av μ (fun r μ' => zJd G ph p e R s m args below meth c Q (pc + 3) (L, r.toList ++ st, μ', cn + mc, un + ms))) : zJd G ph p e R s m args below meth c Q pc (L, stk, μ, cn, un) := by
  subst hstk
  intro H locs ls hl hh hS
  have hG : GoodIn zTw (zcode M :: zTw) := zTw_good (fun w h => by
    rcases List.mem_cons.mp h with rfl | h
    · exact hw4
    · exact h)
  have cw := va_cnB (R := R) (s := s) (args := args) (rm := zrm d mc ms) (mc := mc) (ms := ms) (host := host) (own := own) (index := index) n A.2.2.2.1 hG (y := M.1) (bytes := M.2.1) (maxL := M.2.2.1) (ret := M.2.2.2) rfl rfl rfl (A.2.2.2.2.2.2.1 _ hw rfl) (A.2.2.2.1 _ hw3) hn (zlo hd hm hlo mc ms)
  refine z_after (st := st) hl hS rfl rfl (va_runSN (As := av.map (cv G)) (rest := st.map (cv G)) (nL := c.maxLocals) ⟨A.1, A.2.1, rfl, A.2.2.1, A.2.2.2.1⟩ k9 ⟨cw, A.2.2.2.1 _ hw2, trivial⟩ ⟨zP.blind, fun U hU hW => ⟨rfl, by rw [hU]; exact hh, z_env A hS hU hW⟩⟩ rfl (by rw [List.length_map]; exact hav) hl.1 ?_ (by show 2 * 0 + _ ≤ 8; rw [z_cats]; omega) dd hcs) (fun r μ' h => h)
  show List.map (cv G) (av.reverse ++ st) = _
  rw [List.map_append, List.map_reverse]
/-- a constructor of a nest mate -/
theorem s_callIN (A : zAm G p s m args c cc own zTw) {M : zMeth} {index n d mc ms a : Nat} {host : String} {av : List zV} (dd : decode cc pc = .ok (.invokespecial index, 3)) (hret : M.2.2.2 = none) (hw : Cond.methodLinkNest own index M.1 host ∈ lw_tbl) (hw2 : Cond.instanceMethod M.1 ∈ zTw) (hw3 : Cond.initialized M.1.cls ∈ zTw) (hw4 : zcode M ∈ zTw) (hy : M.1.name = "<init>") (hd : d + 1 ≤ R.frames) (hm : M.2.2.1 ≤ 21) (hlo : 40 * R.frames ≤ R.locals) (hcs : cn + mc ≤ R.cells ∧ un + ms ≤ R.slots) (hn : M.1.cls ≠ "java/lang/invoke/MethodHandle" ∧ M.1.cls ≠ "java/lang/invoke/VarHandle" ∧ (parseMethodDescriptor M.1.desc).map (fun d => d.parameters.length) = some n) (hav : av.length = n) (hst : (st.map zcat).sum ≤ 8) {stk : List zV} (hstk : stk = av.reverse ++ zR (some a) :: st)
    (k9 : zRun G ph d mc ms M (zR (some a) :: av) μ (fun r μ' => zJd G ph p e R s m args below meth c Q (pc + 3) (L, r.toList ++ st, μ', cn + mc, un + ms))) : zJd G ph p e R s m args below meth c Q pc (L, stk, μ, cn, un) := by
  subst hstk
  intro H locs ls hl hh hS
  have hG : GoodIn zTw (zcode M :: zTw) := zTw_good (fun w h => by
    rcases List.mem_cons.mp h with rfl | h
    · exact hw4
    · exact h)
  obtain ⟨y, bytes, maxL, ret⟩ := M
  have hret : ret = none := hret
  subst hret
  have cw := va_cnB (R := R) (s := s) (args := args) (rm := zrm d mc ms) (mc := mc) (ms := ms) (host := host) (own := own) (index := index) n A.2.2.2.1 hG (y := y) (bytes := bytes) (maxL := maxL) (ret := none) rfl rfl rfl (A.2.2.2.2.2.2.1 _ hw rfl) (A.2.2.2.1 _ hw3) hn (zlo (M := (y, bytes, maxL, none)) hd hm hlo mc ms)
  refine z_after (st := st) hl hS rfl rfl (va_runIN (As := av.map (cv G)) (b := zad G a) (rest := st.map (cv G)) (nL := c.maxLocals) ⟨A.1, A.2.1, rfl, A.2.2.1, A.2.2.2.1⟩ k9 ⟨cw, hy, A.2.2.2.1 _ hw2⟩ ⟨zP.blind, fun U hU hW => ⟨rfl, by rw [hU]; exact hh, z_env A hS hU hW⟩⟩ rfl (by rw [List.length_map]; exact hav) hl.1 ?_ (by show 2 * 0 + _ ≤ 8; rw [z_cats]; omega) dd hcs) (fun r μ' h => h)
  show List.map (cv G) (av.reverse ++ zR (some a) :: st) = _
  rw [List.map_append, List.map_reverse]
  rfl
end
