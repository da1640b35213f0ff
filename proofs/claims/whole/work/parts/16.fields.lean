section
variable {G : zG} {ph : Bool} {p : Program} {e : Env} {R : Room} {s : State} {m : MethodId} {args : Array Value} {below : List Frame} {meth : Method} {c : Code} {Q : State → Prop} {cc : ByteArray} {own : String} {Ts : List Cond} {pc : Nat} {L L' : List (Option zV)} {st : List zV} {μ μ' : zM} {cn un : Nat}
theorem s_getf (A : zAm G p s m args c cc own Ts) {index k N j a : Nat} {sl : Bool} {C : String} {T : u_T} {v : zV} (d : decode cc pc = .ok (.getfield index, 3)) (hc : vwCl[k]? = some (C, T, N)) (hin : ∀ w ∈ u_ws C T N, w ∈ Ts) (hj : j < N) (hw : Cond.fieldLink own index (T j).1 (T j).2.1 (T j).2.2.1 ∈ Ts) (hk : k < 12) (hq : zok ph μ a (cond sl (k + 20) k, N)) (hv : zfv G μ a sl k j = cv G v) (k9 : zJd G ph p e R s m args below meth c Q (pc + 3) (L, v :: st, μ, cn, un)) : zJd G ph p e R s m args below meth c Q pc (L, zR (some a) :: st, μ, cn, un) := by
  intro H locs ls hl hh hS
  have e := zW_get (G := G) (ph := ph) (hq.lt hh)
  rw [zcell_obj hk hq.2] at e
  exact va_get A.1 A.2.1 A.2.2.2.1 hin A.2.2.1 A.2.2.2.2.1 hh.1 a e hc j hj (A.2.2.2.1 _ hw) (fun _ h => h) (v := cv G v) (by rw [List.getElem?_map, List.getElem?_range hj, ← hv]; rfl) d (k9 H locs ls hl hh hS)
theorem z_put (A : zAm G p s m args c cc own Ts) {index k N j a : Nat} {sl : Bool} {C : String} {T : u_T} {v : zV} (d : decode cc pc = .ok (.putfield index, 3)) (hc : vwCl[k]? = some (C, T, N)) (hin : ∀ w ∈ u_ws C T N, w ∈ Ts) (hj : j < N) (hw : Cond.fieldLink own index (T j).1 (T j).2.1 (T j).2.2.1 ∈ Ts) (hk : k < 12) (hq : zok ph μ a (cond sl (k + 20) k, N)) (ty0 : Nat → FieldType) (hty : ∀ k, k < N → parseFieldDescriptor (T k).2.2.1 = some (ty0 k)) (hnm : ∀ a, a < N → ∀ b, b < N → a ≠ b → (T a).2.1 ≠ (T b).2.1) (hμn : zn μ' = zn μ) (hμo : ∀ b, b ≠ a → zcell G ph μ' b = zcell G ph μ b) (hμa : zcell G ph μ' a = .inr (k, ((List.range N).map (zfv G μ a sl k)).set j (cv G v))) (hn : narrow (ty0 j) (cv G v) = cv G v) (hfit : fits (ty0 j) (cv G v) = true) (hfin : (T j).2.2.2 = false) (k9 : zJd G ph p e R s m args below meth c Q (pc + 3) (L, st, μ', cn, un)) : zJd G ph p e R s m args below meth c Q pc (L, v :: zR (some a) :: st, μ, cn, un) := by
  intro H locs ls hl hh hS
  have e0 := zW_get (G := G) (ph := ph) (hq.lt hh)
  rw [zcell_obj hk hq.2] at e0
  have hK := A.2.2.2.2.1
  have hap := va_apart (own := own) A.2.2.2.1 hin ty0 hty hnm hK hc
  obtain ⟨r, h1, cell, q1, q2, q3, q4⟩ := hh.1 a _ e0
  have hr : r = (C, T, N) := Option.some.inj (h1.symm.trans hc)
  subst hr
  obtain ⟨hSl, hfc, kC, hkC, hkind⟩ := hK.1 k _ hc
  obtain ⟨cf, kf, fi, f, hi, hsl⟩ := hSl j hj
  have hlay := A.2.2.2.1 _ (hin _ (u_in_lay hj))
  unfold u_lay at hlay
  rw [if_neg (by rw [hfin]; decide)] at hlay
  have hst := (u_facts hfc hkC (u_lays A.2.2.2.1 hin hj) hi).1
  have h6 := u_store hfc hkC hkind hlay hi (hty j hj) hn hfit
  refine W.putK A.1 A.2.1 (f := f) ⟨A.2.2.1, A.2.2.2.1 _ hw, ⟨_, _, _, hi⟩, hst⟩ (by rw [q2]; exact h6) q1 q3 (by rw [hsl]; exact k2_hasslot (q4 j hj)) rfl rfl d fun H' e1 e2 e3 => ?_
  rw [hsl] at e1 ⊢
  refine k9 H' _ ls hl (zH.set hh hμn (fun b _ hb => hμo b hb) hμa (hh.1.set hh.2.1 e0 ⟨_, hc, t_OB.to (V := updV (vp_V ((List.range N).map (zfv G μ a sl k))) j (cv G v)) ⟨_, e1, q2, q3, t_set q4 hap hj (cv G v)⟩ (fun j' _ => vp_updV_set (by simpa using hj) (cv G v) j')⟩ e3) (hh.2.1.set e0) e2) (hS.put e2 e3 (hh.2.1.2 a _ e0))
theorem z_putF (A : zAm G p s m args c cc own Ts) {index k N j a : Nat} {sl : Bool} {C : String} {T : u_T} {v : zV} (d : decode cc pc = .ok (.putfield index, 3)) (hc : vwCl[k]? = some (C, T, N)) (hin : ∀ w ∈ u_ws C T N, w ∈ Ts) (hj : j < N) (hw : Cond.fieldLink own index (T j).1 (T j).2.1 (T j).2.2.1 ∈ Ts) (hk : k < 12) (hq : zok ph μ a (cond sl (k + 20) k, N)) (ty0 : Nat → FieldType) (hty : ∀ k, k < N → parseFieldDescriptor (T k).2.2.1 = some (ty0 k)) (hnm : ∀ a, a < N → ∀ b, b < N → a ≠ b → (T a).2.1 ≠ (T b).2.1) (hμn : zn μ' = zn μ) (hμo : ∀ b, b ≠ a → zcell G ph μ' b = zcell G ph μ b) (hμa : zcell G ph μ' a = .inr (k, ((List.range N).map (zfv G μ a sl k)).set j (cv G v))) (hn : narrow (ty0 j) (cv G v) = cv G v) (hfit : fits (ty0 j) (cv G v) = true) (hfin : (T j).2.2.2 = true) (hin2 : meth.name = "<init>") (hdecl : (T j).1 = own) (k9 : zJd G ph p e R s m args below meth c Q (pc + 3) (L, st, μ', cn, un)) : zJd G ph p e R s m args below meth c Q pc (L, v :: zR (some a) :: st, μ, cn, un) := by
  intro H locs ls hl hh hS
  have e0 := zW_get (G := G) (ph := ph) (hq.lt hh)
  rw [zcell_obj hk hq.2] at e0
  have hK := A.2.2.2.2.1
  have hap := va_apart (own := own) A.2.2.2.1 hin ty0 hty hnm hK hc
  obtain ⟨r, h1, cell, q1, q2, q3, q4⟩ := hh.1 a _ e0
  have hr : r = (C, T, N) := Option.some.inj (h1.symm.trans hc)
  subst hr
  obtain ⟨hSl, hfc, kC, hkC, hkind⟩ := hK.1 k _ hc
  obtain ⟨cf, kf, fi, f, hi, hsl⟩ := hSl j hj
  have hlay := A.2.2.2.1 _ (hin _ (u_in_lay hj))
  unfold u_lay at hlay
  rw [if_pos hfin] at hlay
  have hst := (u_facts hfc hkC (u_lays A.2.2.2.1 hin hj) hi).1
  have hcf : m.cls = cf := by
    obtain ⟨_, _, c', _, _, _, -, -, hf', -, -, -, hown2, -⟩ := Cond.laysFinal_spec hlay
    have e1 : c' = cf := by have := hi.symm.trans hf'; simp at this; exact this.1.symm
    rw [hdecl] at hown2
    exact Option.some.inj (A.2.2.1.symm.trans (by rw [← e1]; exact hown2))
  have h6 := u_fits hfc hkC hkind (Or.inr hlay) hi (hty j hj) hn hfit
  refine W.putFinK A.1 A.2.1 A.2.2.1 (A.2.2.2.1 _ hw) hi hst hcf hin2 (by rw [q2]; exact h6) q1 q3 (by rw [hsl]; exact k2_hasslot (q4 j hj)) rfl rfl d fun H' e1 e2 e3 => ?_
  rw [hsl] at e1 ⊢
  refine k9 H' _ ls hl (zH.set hh hμn (fun b _ hb => hμo b hb) hμa (hh.1.set hh.2.1 e0 ⟨_, hc, t_OB.to (V := updV (vp_V ((List.range N).map (zfv G μ a sl k))) j (cv G v)) ⟨_, e1, q2, q3, t_set q4 hap hj (cv G v)⟩ (fun j' _ => vp_updV_set (by simpa using hj) (cv G v) j')⟩ e3) (hh.2.1.set e0) e2) (hS.put e2 e3 (hh.2.1.2 a _ e0))
end
