/-! a method's frame: its judgement J, returns, its beginning -/
def zflat : List zV → List (Option zV)
  | [] => []
  | v :: vs => if zcat v = 2 then some v :: none :: zflat vs else some v :: zflat vs
def zarg (n : Nat) (av : List zV) : List (Option zV) := zflat av ++ List.replicate (n - (zflat av).length) none
def zJ (G : zG) (ph : Bool) (D mc ms : Nat) (M : zMeth) (K : Option zV → zM → Prop) (J : Nat → zS → Prop) : Prop :=
  ∃ (p : Program) (e : Env) (s : State) (m : MethodId) (args : Array Value) (below : List Frame) (meth : Method) (c : Code), zAm G p s m args c M.2.1 M.1.cls zTw ∧ c.maxLocals = M.2.2.1 ∧ meth.sig.returnType = M.2.2.2 ∧ meth.locks = false ∧ meth.name = M.1.name ∧ J = zJd G ph p e (zrm D mc ms) s m args below meth c (MQ below (zQ G ph K) args s mc ms (zA G))
section
variable {G : zG} {ph : Bool} {p : Program} {e : Env} {R : Room} {s : State} {m : MethodId} {args : Array Value} {below : List Frame} {meth : Method} {c : Code} {cc : ByteArray} {own : String} {pc : Nat} {L L' : List (Option zV)} {st : List zV} {μ μ' : zM} {cn un mc ms : Nat} {K : Option zV → zM → Prop}
theorem z_end (A : zAm G p s m args c cc own zTw) {r : Option zV} (hK : K r μ) {H : Heap} {locs : List Loc} (hh : zH G ph μ H) (hS : va_S (zA G) s.heap H locs) : ∀ t : State, t.heap = H → s.WarmedH t.vm → zQ G ph K args s (.returned (r.map (cv G))) t :=
  fun t ht hW => ⟨⟨r, μ, hK, rfl, by rw [ht]; exact hh, z_env A hS ht hW⟩, hS.F ht⟩
theorem s_iret (A : zAm G p s m args c cc own zTw) {x : Int} (d : decode cc pc = .ok (.ireturn, 1)) (hr : meth.sig.returnType = some .int) (hlk : meth.locks = false) (hc : cn ≤ mc) (hu : un ≤ ms) (hK : K (some (zI x)) μ) : zJd G ph p e R s m args below meth c (MQ below (zQ G ph K) args s mc ms (zA G)) pc (L, [zI x], μ, cn, un) := by
  intro H locs ls hl hh hS
  exact W.widen hc hu (W.iret A.1 A.2.1 hr (z_end A hK hh hS) hS.2.2 d hlk)
theorem s_zret (A : zAm G p s m args c cc own zTw) {x : Int} (d : decode cc pc = .ok (.ireturn, 1)) (hr : meth.sig.returnType = some .boolean) (hlk : meth.locks = false) (hc : cn ≤ mc) (hu : un ≤ ms) (hx : x = 0 ∨ x = 1) (hK : K (some (zI x)) μ) : zJd G ph p e R s m args below meth c (MQ below (zQ G ph K) args s mc ms (zA G)) pc (L, [zI x], μ, cn, un) := by
  intro H locs ls hl hh hS
  exact W.widen hc hu (W.zret A.1 A.2.1 hr (by rcases hx with rfl | rfl <;> rfl) (z_end A hK hh hS) hS.2.2 d hlk)
theorem s_lret (A : zAm G p s m args c cc own zTw) {x : Int} (d : decode cc pc = .ok (.lreturn, 1)) (hr : meth.sig.returnType = some .long) (hlk : meth.locks = false) (hc : cn ≤ mc) (hu : un ≤ ms) (hK : K (some (zL x)) μ) : zJd G ph p e R s m args below meth c (MQ below (zQ G ph K) args s mc ms (zA G)) pc (L, [zL x], μ, cn, un) := by
  intro H locs ls hl hh hS
  exact W.widen hc hu (W.lret A.1 A.2.1 hr (z_end A hK hh hS) hS.2.2 d hlk)
theorem s_aret (A : zAm G p s m args c cc own zTw) {r : Option Nat} {rt : FieldType} (d : decode cc pc = .ok (.areturn, 1)) (hr : meth.sig.returnType = some rt) (hrt : (∃ n, rt = .object n) ∨ ∃ t, rt = .array t) (hlk : meth.locks = false) (hc : cn ≤ mc) (hu : un ≤ ms) (hK : K (some (zR r)) μ) : zJd G ph p e R s m args below meth c (MQ below (zQ G ph K) args s mc ms (zA G)) pc (L, [zR r], μ, cn, un) := by
  intro H locs ls hl hh hS
  exact W.widen hc hu (W.aret A.1 A.2.1 hr hrt (by cases r; exact Or.inl rfl; exact Or.inr ⟨_, rfl⟩) (z_end A hK hh hS) hS.2.2 d hlk)
theorem s_aretT (A : zAm G p s m args c cc own zTw) {k : Nat} {rt : FieldType} (d : decode cc pc = .ok (.areturn, 1)) (hr : meth.sig.returnType = some rt) (hrt : (∃ n, rt = .object n) ∨ ∃ t, rt = .array t) (hlk : meth.locks = false) (hc : cn ≤ mc) (hu : un ≤ ms) (hK : K (some (zT k)) μ) : zJd G ph p e R s m args below meth c (MQ below (zQ G ph K) args s mc ms (zA G)) pc (L, [zT k], μ, cn, un) := by
  intro H locs ls hl hh hS
  exact W.widen hc hu (W.aret A.1 A.2.1 hr hrt (Or.inr ⟨_, rfl⟩) (z_end A hK hh hS) hS.2.2 d hlk)
theorem s_vret (A : zAm G p s m args c cc own zTw) (d : decode cc pc = .ok (.return_, 1)) (hr : meth.sig.returnType = none) (hlk : meth.locks = false) (hc : cn ≤ mc) (hu : un ≤ ms) (hK : K none μ) : zJd G ph p e R s m args below meth c (MQ below (zQ G ph K) args s mc ms (zA G)) pc (L, [], μ, cn, un) := by
  intro H locs ls hl hh hS
  exact W.widen hc hu (W.vret A.1 A.2.1 hr (z_end A hK hh hS) hS.2.2 d hlk)
end
theorem zflat_len (G : zG) : ∀ av : List zV, (zflat av).length = (lg_sl (av.map (cv G))).length
  | [] => rfl
  | v :: vs => by
    have h := zflat_len G vs
    unfold lg_sl at h ⊢
    rw [List.map_cons, List.flatMap_cons, List.length_append, cv_cat, zflat]
    by_cases hc : zcat v = 2
    · rw [if_pos hc, if_pos hc]; simp [h]; omega
    · rw [if_neg hc, if_neg hc]; simp [h]; omega
theorem zflat_args (G : zG) : ∀ (av : List zV) (k i : Nat) (v : zV), (zflat av)[i]? = some (some v) → (k + i, cv G v) ∈ lv_args k (av.map (cv G))
  | [], _, _, _, h => by simp [zflat] at h
  | w :: vs, k, i, v, h => by
    rw [List.map_cons, lv_args, cv_cat]
    rw [zflat] at h
    by_cases hc : zcat w = 2
    · rw [if_pos hc] at h ⊢
      match i, h with
      | 0, h => simp at h; rw [h]; exact List.mem_cons_self
      | 1, h => simp at h
      | i + 2, h =>
        have := zflat_args G vs (k + 2) i v (by simpa using h)
        exact List.mem_cons_of_mem _ (by rw [show k + (i + 2) = k + 2 + i by omega]; exact this)
    · rw [if_neg hc] at h ⊢
      match i, h with
      | 0, h => simp at h; rw [h]; exact List.mem_cons_self
      | i + 1, h =>
        have := zflat_args G vs (k + 1) i v (by simpa using h)
        exact List.mem_cons_of_mem _ (by rw [show k + (i + 1) = k + 1 + i by omega]; exact this)
theorem z_entry (G : zG) {n : Nat} {av : List zV} (h : (zflat av).length ≤ n) : zls G n ((lg_sl (av.map (cv G)) ++ List.replicate (n - (lg_sl (av.map (cv G))).length) Slot.unset).toArray) (zarg n av) := by
  have hl := lv_entry (av.map (cv G)) (n := n) (by rw [← zflat_len]; exact h)
  refine ⟨hl.1, by simp [zarg]; omega, hl.2.1, fun i v hi => ?_⟩
  unfold zarg at hi
  by_cases hlt : i < (zflat av).length
  · rw [List.getElem?_append_left hlt] at hi
    have := zflat_args G av 0 i v hi
    rw [Nat.zero_add] at this
    exact hl.2.2 _ this
  · rw [List.getElem?_append_right (by omega), List.getElem?_replicate] at hi
    split at hi <;> simp at hi
theorem z_body {G : zG} {ph : Bool} {d mc ms : Nat} {M : zMeth} {av : List zV} {μ : zM} {K : Option zV → zM → Prop} (hy : plainName M.1.cls = true) (hlen : (zflat av).length ≤ M.2.2.1) (h : ∀ J, zJ G ph d mc ms M K J → J 0 (zarg M.2.2.1 av, [], μ, 0, 0)) : zRun G ph d mc ms M av μ K := by
  refine Met.ofW (cc := M.2.1) (maxL := M.2.2.1) (ret := M.2.2.2) hy rfl ?_
  intro p e s m args below meth c s₁ B hml hv
  obtain ⟨rfl, hrel⟩ := hv
  have hts := atoms_spec (ws := zcode M :: zTw) B.pre
  have hown : s.vm.findClass M.1.cls = some m.cls := findClass_of_methodNamed B.named
  have hA : zAm G p s m ((av.map (cv G)).toArray) c M.2.1 M.1.cls zTw := ⟨B.exec, B.bytes, hown, fun w hw => hts w (List.mem_cons_of_mem _ hw), hrel.2.1, hrel.2.2.1, hrel.2.2.2⟩
  have hJ := h (zJd G ph p e (zrm d mc ms) s m ((av.map (cv G)).toArray) below meth c (MQ below (zQ G ph K) ((av.map (cv G)).toArray) s mc ms (zA G))) ⟨p, e, s, m, _, below, meth, c, hA, hml, B.returns, B.notSynchronized, (name_of_methodNamed B.named B.method).1, rfl⟩
  rw [lg_entry_eq]
  exact hJ s.heap [] _ (by rw [hml]; exact z_entry G hlen) hrel.1 va_S.rf
theorem zRun.mono {G : zG} {ph : Bool} {d mc ms : Nat} {M : zMeth} {av : List zV} {μ : zM} {K K' : Option zV → zM → Prop} (h : zRun G ph d mc ms M av μ K) (hK : ∀ r μ', K r μ' → K' r μ') : zRun G ph d mc ms M av μ K' := by
  intro p e ha hc hk s m args below hf happ hp ht
  obtain ⟨k, o, h1, h2, h3, ⟨⟨r, μ', g1, g2, g3⟩, g4⟩, h5⟩ := h p e ha hc hk s m args below hf happ hp ht
  exact ⟨k, o, h1, h2, h3, ⟨⟨r, μ', hK r μ' g1, g2, g3⟩, g4⟩, h5⟩
