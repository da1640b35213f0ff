/-! the law's helpers: they catch -/
abbrev zHt : Type := List (Nat × Nat × Nat × Nat)
def zcodeX (M : zMeth) (hh : zHt) : Cond := .codeWith M.1 M.2.1 M.2.2.1 M.2.2.2 hh
/-- the map of places goes on from G -/
def zGx (G G' : zG) : Prop := G' = G ∨ ∃ (z : Nat → Nat) (q : Nat), G' = zGz G z q ∧ ∀ b, b < 182 → z b = zad G b
theorem zGx_cv {G G' : zG} (h : zGx G G') : (∀ x, cv G' (zI x) = cv G (zI x)) ∧ (∀ x, cv G' (zL x) = cv G (zL x)) ∧ (∀ b, b < 182 → cv G' (zR (some b)) = cv G (zR (some b))) ∧ cv G' (zT 40) = cv G (zT 40) := by
  rcases h with rfl | ⟨z, q, rfl, hz⟩
  · exact ⟨fun _ => rfl, fun _ => rfl, fun _ _ => rfl, rfl⟩
  · exact ⟨fun _ => rfl, fun _ => rfl, fun b hb => by show va_rf (some (z b)) = va_rf (some (zad G b)); rw [hz b hb], by show Value.ref (zsa (zGz G z q) 40) = Value.ref (zsa G 40); rw [zsa_gz (by decide)]⟩
def zQX (G : zG) (K : Option zV → zM → Prop) : Array Value → State → Outcome → State → Prop := fun _ st o t => (∃ G', zGx G G' ∧ ∃ (r : Option zV) (μ' : zM), K r μ' ∧ o = .returned (r.map (cv G')) ∧ zRel G' true μ' t) ∧ va_F (zA G) st t
def zRunH (G : zG) (M : zMeth) (hh : zHt) (av : List zV) (μ : zM) (K : Option zV → zM → Prop) : Prop :=
  vx_Met (zl G) M.1 (zcodeX M hh :: zTw) (zrm 13 1 6) (zPx G av μ) (zQX G K) (fun _ _ _ => False) 1 6 (zA G)
def zJH (G : zG) (M : zMeth) (hh : zHt) (K : Option zV → zM → Prop) (h : (zG → (Nat → zS → Prop)) → Prop) : Prop :=
  ∀ (p : Program) (e : Env) (s : State) (m : MethodId) (args : Array Value) (below : List Frame) (meth : Method) (c : Code), zAm G p s m args c M.2.1 M.1.cls zTw → c.maxLocals = M.2.2.1 → meth.sig.returnType = M.2.2.2 → meth.locks = false → zXx G s → c.exceptionTable.toList = tableOf hh → h (fun G' => zJd G' true p e (zrm 13 1 6) s m args below meth c (vx_MQ below (zQX G K) (fun _ _ _ => False) args s 1 6 (zA G)))
theorem zh_body {G : zG} {M : zMeth} {hh : zHt} {av : List zV} {μ : zM} {K : Option zV → zM → Prop} (hy : plainName M.1.cls = true) (hlen : (zflat av).length ≤ M.2.2.1) (h : zJH G M hh K (fun J => J G 0 (zarg M.2.2.1 av, [], μ, 0, 0))) : zRunH G M hh av μ K := by
  refine vx_ofWH (cc := M.2.1) (maxL := M.2.2.1) (ret := M.2.2.2) (hh := hh) hy rfl ?_
  intro p e s m args below meth c s₁ B hml hv
  obtain ⟨⟨rfl, hrel⟩, hX⟩ := hv
  have hts := atoms_spec (ws := zcodeX M hh :: zTw) B.pre
  have hown : s.vm.findClass M.1.cls = some m.cls := findClass_of_methodNamed B.named
  have hA : zAm G p s m ((av.map (cv G)).toArray) c M.2.1 M.1.cls zTw := ⟨B.exec, B.bytes, hown, fun w hw => hts w (List.mem_cons_of_mem _ hw), hrel.2.1, hrel.2.2.1, hrel.2.2.2⟩
  have hJ := h p e s m _ below meth c hA hml B.returns B.notSynchronized hX (vx_table (x := M.1) B (hts _ List.mem_cons_self))
  rw [lg_entry_eq]
  exact hJ s.heap [] _ (by rw [hml]; exact z_entry G hlen) hrel.1 va_S.rf
theorem zMQ_mono {Q1 Q2 : Array Value → State → Outcome → State → Prop} (hq : ∀ a st o t, Q1 a st o t → Q2 a st o t) {p : Program} {l : Launch} {e : Env} {R : Room} {s : State} {m : MethodId} {args : Array Value} {below : List Frame} {meth : Method} {c : Code} {H : Heap} {locs : List Loc} {cells slots mc ms : Nat} {free : Addr → Prop} {g : JFrame} (k : W p l e R s m args below meth c H locs cells slots (MQ below Q1 args s mc ms free) g) : W p l e R s m args below meth c H locs cells slots (MQ below Q2 args s mc ms free) g := by
  intro T hT X
  obtain ⟨t, a1, o, b1, b2, b3, b4⟩ := k T hT X
  exact ⟨t, a1, o, b1, b2, hq _ _ _ _ b3, b4⟩
section
variable {G G' : zG} {p : Program} {e : Env} {R : Room} {s : State} {m : MethodId} {args : Array Value} {below : List Frame} {meth : Method} {c : Code} {cc : ByteArray} {own : String} {pc : Nat} {L L' : List (Option zV)} {st : List zV} {μ μ' : zM} {cn un : Nat} {K : Option zV → zM → Prop}
theorem zh_iret (hg : zGx G G') (A : zAm G' p s m args c cc own zTw) {x : Int} (d : decode cc pc = .ok (.ireturn, 1)) (hr : meth.sig.returnType = some .int) (hlk : meth.locks = false) (hc : cn ≤ 1) (hu : un ≤ 6) (hK : K (some (zI x)) μ) : zJd G' true p e R s m args below meth c (vx_MQ below (zQX G K) (fun _ _ _ => False) args s 1 6 (zA G)) pc (L, [zI x], μ, cn, un) := by
  have hzA : zA G' = zA G := by rcases hg with rfl | ⟨z, q, rfl, -⟩ <;> rfl
  intro H locs ls hl hh hS
  have w := s_iret (e := e) (R := R) (below := below) A d hr hlk hc hu hK H locs ls hl hh hS
  rw [hzA] at w
  exact vx_ret (zMQ_mono (fun a st o t hq => ⟨⟨G', hg, hq.1⟩, by rw [← hzA]; exact hq.2⟩) w)
/-- the call of a helper -/
theorem zx_callH (A : zAm G p s m args c cc own zTw) (hX : zXx G s) {M : zMeth} {hh : zHt} {index n : Nat} {av : List zV} {Q : State → Prop} (dd : decode cc pc = .ok (.invokestatic index, 3)) (hw : Cond.methodLink own index M.1 ∈ zTw) (hw2 : Cond.static M.1 ∈ zTw) (hw3 : Cond.initialized M.1.cls ∈ zTw) (hw4 : zcodeX M hh ∈ zTw) (hd : 14 ≤ R.frames) (hm : M.2.2.1 ≤ 21) (hlo : 40 * R.frames ≤ R.locals) (hcs : cn + 1 ≤ R.cells ∧ un + 6 ≤ R.slots) (hn : M.1.cls ≠ "java/lang/invoke/MethodHandle" ∧ M.1.cls ≠ "java/lang/invoke/VarHandle" ∧ (parseMethodDescriptor M.1.desc).map (fun d => d.parameters.length) = some n) (hav : av.length = n) (hst : (st.map zcat).sum ≤ 8) {stk : List zV} (hstk : stk = av.reverse ++ st)
    (run : zRunH G M hh av μ K)
    (hL : ∀ G', zGx G G' → (∀ v, some v ∈ L → cv G' v = cv G v) ∧ ∀ v, v ∈ st → cv G' v = cv G v)
    (k9 : ∀ G', zGx G G' → ∀ r μ', K r μ' → zJd G' true p e R s m args below meth c Q (pc + 3) (L, r.toList ++ st, μ', cn + 1, un + 6)) : zJd G true p e R s m args below meth c Q pc (L, stk, μ, cn, un) := by
  subst hstk
  intro H locs ls hl hh0 hS
  have hG : GoodIn zTw (va_wsS own index M.1 (zcodeX M hh :: zTw)) := zTw_good (fun w h => by
    rcases List.mem_append.mp h with h | h
    · simp only [List.mem_cons, List.not_mem_nil, or_false] at h
      rcases h with rfl | rfl | rfl
      · exact hw
      · exact hw2
      · exact hw3
    · rcases List.mem_cons.mp h with rfl | h
      · exact hw4
      · exact h)
  have cw := vx_cwSW (R := R) (s := s) (args := args) (rm := zrm 13 1 6) (mc := 1) (ms := 6) n A.2.2.2.1 hG (y := M.1) (bytes := M.2.1) (maxL := M.2.2.1) (ret := M.2.2.2) (hh := hh) rfl rfl rfl hn (zlo hd hm hlo 1 6)
  have run2 := vx_runSX (e := e) (below := below) (As := av.map (cv G)) (rest := st.map (cv G)) (nL := c.maxLocals) (locs := locs) (meth := meth) ⟨A.1, A.2.1, rfl, A.2.2.1, A.2.2.2.1⟩ run cw ⟨zPx.blind, fun U hU hW => ⟨⟨rfl, by rw [hU]; exact hh0, z_env A hS hU hW⟩, hX.env hS hU hW⟩⟩ (g := F0 m pc ls ((av.reverse ++ st).map (cv G))) rfl (by rw [List.length_map]; exact hav) hl.1 (by
    show List.map (cv G) (av.reverse ++ st) = _
    rw [List.map_append, List.map_reverse]) (by show 2 * 0 + _ ≤ 8; rw [z_cats]; omega) dd hcs
  intro T' hT X
  rcases run2 T' hT X with ⟨v, st₀, t, T'', Lc, h0, X', hLc, e1, e2, ⟨⟨G', hg, r, μ', hK, ho, hrel⟩, hF⟩, hgo⟩ | ⟨q, st₀, t, T'', Lc, E, ce, h0, X', hLc, e1, e2, hq, -⟩
  · have hv : v = r.map (cv G') := by injection ho
    have hzA : zA G' = zA G := by rcases hg with rfl | ⟨z, q, rfl, -⟩ <;> rfl
    have hzl : zl G' = zl G := by rcases hg with rfl | ⟨z, q, rfl, -⟩ <;> rfl
    have hz : H.size ≤ T''.heap.size := by rw [e1, ← h0]; exact hF.1
    have hkk : ∀ q : Nat, q < H.size → ¬ zA G q → T''.heap[q]? = H[q]? := fun q h1 h2 => by rw [e1, ← h0]; exact hF.2 q (by rw [h0]; exact h1) h2
    obtain ⟨l1, l2⟩ := hL G' hg
    obtain ⟨t2, a1, b1⟩ := k9 G' hg r μ' hK T''.heap (locs ++ Lc) ls ⟨hl.1, hl.2.1, hl.2.2.1, fun i v hv => by
        rw [l1 v (List.mem_of_getElem? hv)]
        exact hl.2.2.2 i v hv⟩ (by rw [e1]; exact hrel.1) (by rw [hzA]; exact ⟨Nat.le_trans hS.1 hz, fun q h1 h2 => by rw [hkk q (Nat.lt_of_lt_of_le h1 hS.1) h2]; exact hS.2.1 q h1 h2, fun q hq => by
      rcases List.mem_append.mp hq with h | h
      · exact hS.2.2 q h
      · exact hLc q h⟩) T'' rfl (by rw [hzl]; exact X')
    refine ⟨t2, hgo t2 ?_, b1⟩
    rw [hv]
    have e8 : st.map (cv G) = st.map (cv G') := List.map_congr_left (fun v hv => (l2 v hv).symm)
    have e9 : (r.map (cv G')).toList ++ st.map (cv G) = (r.toList ++ st).map (cv G') := by rw [e8]; cases r <;> rfl
    show Steps p.tables e below (T''.setTop { F0 m pc ls ((av.reverse ++ st).map (cv G)) with pc := pc + 3, stack := (r.map (cv G')).toList ++ st.map (cv G) }) t2
    rw [e9]
    exact a1
  · exact hq.elim
end
