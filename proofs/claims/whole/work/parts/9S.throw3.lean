/-! methods that may throw; their catching -/
/-- what a throw needs beside the tables -/
def zbad : List Cond := [.declares (Bundle.init0 "java/lang/RuntimeException"), .declares (Bundle.init0 "java/lang/Exception"), .declares (Bundle.init0 Bundle.tN), .castable zNSE zNSE]
def zXx (G : zG) (U : State) : Prop := vx_Zq Bundle.tN "UNASSIGNED_STACK" Bundle.steD (zA G) U U.heap ∧ vx_Zq Bundle.tN "SUPPRESSED_SENTINEL" Bundle.listD (zA G) U U.heap ∧ ∀ w ∈ zbad, w.before #[] U = true
theorem zthr_split : ∀ w ∈ vx_at0 RX10 175 zNSE zup2, goodWord w = true ∨ w ∈ zbad := by decide +kernel
theorem zthr_w {w : Cond} (hw : w ∈ vx_at0 RX10 175 zNSE zup2) (hg : goodWord w = true) : w ∈ zTw := by
  rw [zthr_in] at hw
  obtain ⟨i, -, hi⟩ := List.mem_filterMap.mp hw
  exact zTw_mem (List.mem_of_getElem? hi) hg
theorem zbad_t : ∀ w ∈ zbad, w.onTables = true := by decide +kernel
theorem zbad_moved {u U : State} (hvm : u.vm.Alike U.vm) (h : ∀ w ∈ zbad, w.before #[] u = true) : ∀ w ∈ zbad, w.before #[] U = true := by
  intro w hw
  have h0 := h w hw
  refine va_tabs (u := u.setVm U.vm) (U := U) (zbad_t w hw) rfl (A := #[]) ?_
  simp only [zbad, List.mem_cons, List.not_mem_nil, or_false] at hw
  rcases hw with rfl | rfl | rfl | rfl
  · rw [Cond.declares_setVm hvm]; exact h0
  · rw [Cond.declares_setVm hvm]; exact h0
  · rw [Cond.declares_setVm hvm]; exact h0
  · rw [Cond.castable_setVm hvm]; exact h0
theorem zXx.same {G : zG} {u U : State} (hh : U.heap = u.heap) (hv : u.vm = U.vm) (h : zXx G u) : zXx G U :=
  ⟨by rw [hh]; exact h.1.moved (by rw [hv]; exact Vm.Alike.refl _), by rw [hh]; exact h.2.1.moved (by rw [hv]; exact Vm.Alike.refl _), zbad_moved (by rw [hv]; exact Vm.Alike.refl _) h.2.2⟩
theorem zXx.env {G : zG} {s U : State} {H : Heap} {locs : List Loc} (h : zXx G s) (hS : va_S (zA G) s.heap H locs) (hU : U.heap = H) (hW : s.WarmedH U.vm) : zXx G U :=
  ⟨by rw [hU]; exact (h.1.kept hS.2.1).moved hW.alike, by rw [hU]; exact (h.2.1.kept hS.2.1).moved hW.alike, zbad_moved hW.alike h.2.2⟩
theorem zXx_gz {G : zG} {z : Nat → Nat} {q : Nat} {U : State} (h : zXx G U) : zXx (zGz G z q) U := h
def zXC (G : zG) (KX : zM → Prop) : String → State → State → Prop := fun E st t => E = zNSE ∧ (∃ μ', KX μ' ∧ ∃ H, zH G true μ' H ∧ H.size ≤ t.heap.size ∧ ∀ q, q < H.size → t.heap[q]? = H[q]?) ∧ va_F (zA G) st t
def zPx (G : zG) (av : List zV) (μ : zM) : Array Value → State → Prop := fun v U => zP G true av μ v U ∧ zXx G U
theorem zPx.blind {G : zG} {av : List zV} {μ : zM} : FrameBlind (zPx G av μ) := fun a U g mk h => ⟨zP.blind a U g mk h.1, zXx.same (u := U) (U := U.calling g mk a) rfl rfl h.2⟩
/-- a method that returns or throws -/
def zRunX (G : zG) (M : zMeth) (av : List zV) (μ : zM) (K : Option zV → zM → Prop) (KX : zM → Prop) : Prop :=
  vx_Met (zl G) M.1 (zcode M :: zTw) (zrm 11 1 6) (zPx G av μ) (zQ G true K) (zXC G KX) 1 6 (zA G)
def zJX (G : zG) (M : zMeth) (K : Option zV → zM → Prop) (KX : zM → Prop) (J : Nat → zS → Prop) : Prop :=
  ∃ (p : Program) (e : Env) (s : State) (m : MethodId) (args : Array Value) (below : List Frame) (meth : Method) (c : Code), zAm G p s m args c M.2.1 M.1.cls zTw ∧ c.maxLocals = M.2.2.1 ∧ meth.sig.returnType = M.2.2.2 ∧ meth.locks = false ∧ (zXx G s ∧ ∀ x ∈ c.exceptionTable.toList, False) ∧ J = zJd G true p e (zrm 11 1 6) s m args below meth c (vx_MQ below (zQ G true K) (zXC G KX) args s 1 6 (zA G))
section
variable {G : zG} {p : Program} {e : Env} {R : Room} {s : State} {m : MethodId} {args : Array Value} {below : List Frame} {meth : Method} {c : Code} {cc : ByteArray} {own : String} {pc : Nat} {L L' : List (Option zV)} {st : List zV} {μ μ' : zM} {cn un : Nat} {K : Option zV → zM → Prop} {KX : zM → Prop}
theorem zx_body {M : zMeth} {av : List zV} (hy : plainName M.1.cls = true) (hlen : (zflat av).length ≤ M.2.2.1) (h : ∀ J, zJX G M K KX J → J 0 (zarg M.2.2.1 av, [], μ, 0, 0)) : zRunX G M av μ K KX := by
  refine vx_ofW (cc := M.2.1) (maxL := M.2.2.1) (ret := M.2.2.2) hy rfl ?_
  intro p e s m args below meth c s₁ B hml htab hv
  obtain ⟨⟨rfl, hrel⟩, hX⟩ := hv
  have hts := atoms_spec (ws := zcode M :: zTw) B.pre
  have hown : s.vm.findClass M.1.cls = some m.cls := findClass_of_methodNamed B.named
  have hA : zAm G p s m ((av.map (cv G)).toArray) c M.2.1 M.1.cls zTw := ⟨B.exec, B.bytes, hown, fun w hw => hts w (List.mem_cons_of_mem _ hw), hrel.2.1, hrel.2.2.1, hrel.2.2.2⟩
  have hJ := h _ ⟨p, e, s, m, _, below, meth, c, hA, hml, B.returns, B.notSynchronized, ⟨hX, htab⟩, rfl⟩
  rw [lg_entry_eq]
  exact hJ s.heap [] _ (by rw [hml]; exact z_entry G hlen) hrel.1 va_S.rf
theorem zx_iret (A : zAm G p s m args c cc own zTw) {x : Int} (d : decode cc pc = .ok (.ireturn, 1)) (hr : meth.sig.returnType = some .int) (hlk : meth.locks = false) (hc : cn ≤ 1) (hu : un ≤ 6) (hK : K (some (zI x)) μ) : zJd G true p e R s m args below meth c (vx_MQ below (zQ G true K) (zXC G KX) args s 1 6 (zA G)) pc (L, [zI x], μ, cn, un) :=
  fun H locs ls hl hh hS => vx_ret (s_iret A d hr hlk hc hu hK H locs ls hl hh hS)
theorem zx_lret (A : zAm G p s m args c cc own zTw) {x : Int} (d : decode cc pc = .ok (.lreturn, 1)) (hr : meth.sig.returnType = some .long) (hlk : meth.locks = false) (hc : cn ≤ 1) (hu : un ≤ 6) (hK : K (some (zL x)) μ) : zJd G true p e R s m args below meth c (vx_MQ below (zQ G true K) (zXC G KX) args s 1 6 (zA G)) pc (L, [zL x], μ, cn, un) :=
  fun H locs ls hl hh hS => vx_ret (s_lret A d hr hlk hc hu hK H locs ls hl hh hS)
theorem zx_throw (hfl : (zl G).stackTraces = false) (A : zAm G p s m args c cc RX10 zTw) (hX : zXx G s ∧ ∀ x ∈ c.exceptionTable.toList, False) (hlk : meth.locks = false) (d0 : decode cc pc = .ok (.new 173, 3)) (d3 : decode cc (pc + 3) = .ok (.dup, 1)) (d4 : decode cc (pc + 4) = .ok (.invokespecial 175, 3)) (d7 : decode cc (pc + 7) = .ok (.athrow, 1)) (hK : KX μ) : zJd G true p e (zrm 11 1 6) s m args below meth c (vx_MQ below (zQ G true K) (zXC G KX) args s 1 6 (zA G)) pc (L, [], μ, 0, 0) := by
  intro H locs ls hl hh hS
  refine vx_throw0 (own := RX10) (cls := zNSE) (names := zup2) (ik := 173) (ic := 175) (A := zA G) A.1 A.2.1 hfl A.2.2.1 zthr_fit.1 zthr_fit.2 (A.2.2.2.1 _ zthr_k) (A.2.2.2.1 _ zthr_i) (fun w hw => ?_) zthr_ot hX.1.1 hX.1.2.1 hS hl.1 d0 d3 d4 d7 (fun x hx => (hX.2 x hx).elim) (by decide) (Nat.le_of_ble_eq_true rfl) (Nat.le_of_ble_eq_true rfl) (Nat.le_of_ble_eq_true rfl) hlk (fun t hvm hsz hold => ⟨rfl, ⟨μ, hK, H, hh, hsz, hold⟩, Nat.le_trans hS.1 hsz, fun q h1 h2 => by rw [hold q (Nat.lt_of_lt_of_le h1 hS.1)]; exact hS.2.1 q h1 h2⟩) hS.2.2 (Nat.le_of_ble_eq_true rfl) (Nat.le_of_ble_eq_true rfl)
  rcases zthr_split w hw with hg | hb
  · exact A.2.2.2.1 _ (zthr_w hw hg)
  · exact va_any (zbad_t w hb) (hX.1.2.2 w hb)
/-- the call of a method that may throw, where a handler stands -/
theorem zx_callC (A : zAm G p s m args c cc own zTw) (hX : zXx G s) {M : zMeth} {index n a k N ct hpc : Nat} {sl : Bool} {C : String} {T : u_T} {av : List zV} {x0 : ExceptionTableEntry} (dd : decode cc pc = .ok (.invokevirtual index, 3)) (hc : vwCl[k]? = some (C, T, N)) (hk : k < 12) (hq : zok true μ a (cond sl (k + 20) k, N)) (hw : Cond.methodLink own index M.1 ∈ zTw) (hw2 : Cond.instanceMethod M.1 ∈ zTw) (hw5 : Cond.selects C M.1 M.1 ∈ zTw) (hw3 : Cond.initialized C ∈ zTw) (hw4 : zcode M ∈ zTw) (hd : 12 ≤ R.frames) (hm : M.2.2.1 ≤ 21) (hlo : 40 * R.frames ≤ R.locals) (hcs : cn + 1 ≤ R.cells ∧ un + 6 ≤ R.slots) (hn : M.1.cls = C ∧ M.1.cls ≠ "java/lang/invoke/MethodHandle" ∧ M.1.cls ≠ "java/lang/invoke/VarHandle" ∧ (parseMethodDescriptor M.1.desc).map (fun d => d.parameters.length) = some n) (hav : av.length = n) (hst : (st.map zcat).sum ≤ 8) {stk : List zV} (hstk : stk = av.reverse ++ zR (some a) :: st) {Q : State → Prop}
    (htab : c.exceptionTable.toList = [x0]) (hcov : covers x0 pc = true) (hct : x0.catchType = ct) (hct0 : ct ≠ 0) (hlk : Cond.classLink own ct zNSE ∈ zTw) (hh0 : x0.handlerPc = hpc)
    (run : zRunX G M (zR (some a) :: av) μ K KX)
    (k9 : ∀ r μ', K r μ' → zJd G true p e R s m args below meth c Q (pc + 3) (L, r.toList ++ st, μ', cn + 1, un + 6))
    (hcl : ∀ μ', KX μ' → zcld μ') (hL : ∀ (z : Nat → Nat) (q : Nat) (μ' : zM), KX μ' → 182 ≤ zn μ' → (∀ b, b < zn μ' → z b = zad G b) → ∀ v, some v ∈ L → cv (zGz G z q) v = cv G v)
    (kx : ∀ (z : Nat → Nat) (q : Nat) (μ' : zM), KX μ' → 182 ≤ zn μ' → (∀ b, b < zn μ' → z b = zad G b) → zJd (zGz G z q) true p e R s m args below meth c Q hpc (L, [zT 41], μ', cn + 1, un + 6)) : zJd G true p e R s m args below meth c Q pc (L, stk, μ, cn, un) := by
  subst hstk
  intro H locs ls hl hh hS
  have hG : GoodIn zTw (wsV own index C M.1 (zcode M :: zTw)) := zTw_good (fun w h => by
    rcases List.mem_append.mp h with h | h
    · simp only [List.mem_cons, List.not_mem_nil, or_false] at h
      rcases h with rfl | rfl | rfl | rfl
      · exact hw
      · exact hw2
      · exact hw5
      · exact hw3
    · rcases List.mem_cons.mp h with rfl | h
      · exact hw4
      · exact h)
  have cw := cwV (R := R) (s := s) (args := args) (rm := zrm 11 1 6) (mc := 1) (ms := 6) n A.2.2.2.1 hG (y := M.1) (bytes := M.2.1) (maxL := M.2.2.1) (ret := M.2.2.2) rfl rfl rfl hn (zlo hd hm hlo 1 6)
  have he := z_ok_ix hq hh
  rw [zcell_obj hk hq.2] at he
  have run2 := vx_runV (e := e) (below := below) (As := av.map (cv G)) (rest := st.map (cv G)) (nL := c.maxLocals) (locs := locs) (meth := meth) ⟨A.1, A.2.1, rfl, A.2.2.1, A.2.2.2.1⟩ run cw ⟨zPx.blind, va_recv A.2.2.2.2.1 hh.1 hc he, fun U hU hW => ⟨⟨rfl, by rw [hU]; exact hh, z_env A hS hU hW⟩, hX.env hS hU hW⟩⟩ (g := F0 m pc ls ((av.reverse ++ zR (some a) :: st).map (cv G))) rfl (by rw [List.length_map]; exact hav) hl.1 (by
    show List.map (cv G) (av.reverse ++ zR (some a) :: st) = _
    rw [List.map_append, List.map_reverse]
    rfl) (by show 2 * 0 + _ ≤ 8; rw [z_cats]; omega) dd hcs
  intro T' hT X
  rcases run2 T' hT X with ⟨v, st₀, t, T'', Lc, h0, X', hLc, e1, e2, ⟨⟨r, μ', hK, ho, hrel⟩, hF⟩, hgo⟩ | ⟨q, st₀, t, T'', Lc, E, ce, h0, X', hLc, e1, e2, ⟨hE, ⟨μ', hK, H0, hz0, hsz, hold⟩, hF⟩, hce, hcv, hcls, hgo⟩
  · have hv : v = r.map (cv G) := by injection ho
    have hz : H.size ≤ T''.heap.size := by rw [e1, ← h0]; exact hF.1
    have hkk : ∀ q : Nat, q < H.size → ¬ zA G q → T''.heap[q]? = H[q]? := fun q h1 h2 => by rw [e1, ← h0]; exact hF.2 q (by rw [h0]; exact h1) h2
    obtain ⟨t2, a1, b1⟩ := k9 r μ' hK T''.heap (locs ++ Lc) ls hl (by rw [e1]; exact hrel.1) ⟨Nat.le_trans hS.1 hz, fun q h1 h2 => by rw [hkk q (Nat.lt_of_lt_of_le h1 hS.1) h2]; exact hS.2.1 q h1 h2, fun q hq => by
      rcases List.mem_append.mp hq with h | h
      · exact hS.2.2 q h
      · exact hLc q h⟩ T'' rfl X'
    refine ⟨t2, hgo t2 ?_, b1⟩
    rw [hv]
    have e9 : (r.map (cv G)).toList ++ st.map (cv G) = (r.toList ++ st).map (cv G) := by cases r <;> rfl
    show Steps p.tables e below (T''.setTop { F0 m pc ls ((av.reverse ++ zR (some a) :: st).map (cv G)) with pc := pc + 3, stack := (r.map (cv G)).toList ++ st.map (cv G) }) t2
    rw [e9]
    exact a1
  · have hz : H.size ≤ T''.heap.size := by rw [e1, ← h0]; exact hF.1
    have hkk : ∀ q : Nat, q < H.size → ¬ zA G q → T''.heap[q]? = H[q]? := fun q h1 h2 => by rw [e1, ← h0]; exact hF.2 q (by rw [h0]; exact h1) h2
    have hn' : 182 ≤ zn μ' := hz0.2.2.2.2 rfl
    have hzb : ∀ b, b < zn μ' → (fun i => if i < zn μ' then zad G i else T''.heap.size + (i - zn μ')) b = zad G b := fun b hb => if_pos hb
    have hS2 : va_S (zA G) s.heap T''.heap (locs ++ Lc) := ⟨Nat.le_trans hS.1 hz, fun q h1 h2 => by rw [hkk q (Nat.lt_of_lt_of_le h1 hS.1) h2]; exact hS.2.1 q h1 h2, fun q hq => by
      rcases List.mem_append.mp hq with h | h
      · exact hS.2.2 q h
      · exact hLc q h⟩
    have hH2 : zH (zGz G (fun i => if i < zn μ' then zad G i else T''.heap.size + (i - zn μ')) q) true μ' T''.heap := zH_gz hz0 (hcl μ' hK) (by rw [e1]; exact hsz) (fun k hk => by rw [e1]; exact hold k hk) hzb (fun j => by
      show (if zn μ' + j < zn μ' then _ else _) = _
      rw [if_neg (by omega)]; congr 1; omega)
    have hl2 : zls (zGz G (fun i => if i < zn μ' then zad G i else T''.heap.size + (i - zn μ')) q) c.maxLocals ls L := ⟨hl.1, hl.2.1, hl.2.2.1, fun i v hv => by
      rw [hL _ q μ' hK hn' hzb v (List.mem_of_getElem? hv)]
      exact hl.2.2.2 i v hv⟩
    have w := kx _ q μ' hK hn' hzb T''.heap (locs ++ Lc) ls hl2 hH2 hS2
    have cx := vx_catch (p := p) (l := zl G) (e := e) (R := R) (s := s) (m := m) (args := args) (below := below) (meth := meth) (c := c) (H := T''.heap) (locs := locs ++ Lc) (cells := cn + 1) (slots := un + 6) (Q := Q) (pc := pc) (ls := ls) (rest := st.map (cv G)) (own := own) (name := zNSE) (E := E) (ce := ce) (q := q) A.2.2.1 [] x0 [] htab (fun z hz => by cases hz) hcov (by rw [hct]; exact hct0) (by rw [hct]; exact A.2.2.2.1 _ hlk) (by rw [hE]; exact va_any rfl (hX.2.2 _ (by decide +kernel))) (by rw [e1]; exact hce) hcv hcls (by rw [hh0]; exact w)
    obtain ⟨t2, a1, b1⟩ := cx T'' rfl X'
    exact ⟨t2, hgo.trans a1, b1⟩
end
