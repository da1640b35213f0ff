section
variable {G : zG} {ph : Bool} {p : Program} {e : Env} {R : Room} {s : State} {m : MethodId} {args : Array Value} {below : List Frame} {meth : Method} {c : Code} {Q : State → Prop} {cc : ByteArray} {own : String} {Ts : List Cond} {pc : Nat} {L L' : List (Option zV)} {st : List zV} {μ μ' : zM} {cn un : Nat}
theorem z_cats (G : zG) (st : List zV) : ((st.map (cv G)).map fun v => v.category).sum = (st.map zcat).sum := by
  rw [List.map_map]
  congr 2
  funext v
  exact cv_cat G v
theorem z_le0 (x : Int) : (0 : Int32) ≤ Int32.ofInt x ↔ 0 ≤ zw x := z_le 0 x
def zdv : Nat → Value
  | 0 => .int 0
  | 1 => .long 0
  | _ => .null
theorem zi_new (μ : zM) (q : Nat × Nat) (b : Nat) (j : Int) : zi (znew μ q) b j = if b = zn μ then 0 else zi μ b j := rfl
theorem zr_new (μ : zM) (q : Nat × Nat) (b : Nat) (j : Int) : zr (znew μ q) b j = if b = zn μ then none else zr μ b j := rfl
theorem zn_new (μ : zM) (q : Nat × Nat) : zn (znew μ q) = zn μ + 1 := rfl
theorem zh_new (μ : zM) (q : Nat × Nat) (b : Nat) : zh (znew μ q) b = if b = zn μ then q else zh μ b := rfl
theorem zfv_new {q : Nat × Nat} (k j : Nat) : zfv G (znew μ q) (zn μ) false k j = zdv (zft k j) := by
  unfold zfv zdv
  rw [zi_new, if_pos rfl, zr_new, if_pos rfl]
  rcases zft k j with _ | _ | n <;> rfl
theorem s_new (A : zAm G p s m args c cc own Ts) {index k N : Nat} {C : String} {T : u_T} (d : decode cc pc = .ok (.new index, 3)) (hc : vwCl[k]? = some (C, T, N)) (hin : ∀ w ∈ u_ws C T N, w ∈ Ts) (ty0 : Nat → FieldType) (hty : ∀ k, k < N → parseFieldDescriptor (T k).2.2.1 = some (ty0 k)) (hdef : ∀ j, j < N → defaultValue (ty0 j) = zdv (zft k j)) (hk : k < 12) (hcl : Cond.classLink own index C ∈ Ts) (hinst : Cond.instantiable C N ∈ Ts) (hini : Cond.initialized C ∈ Ts) (hz : zs ph (znew μ (k, N)) (zn μ) = (k, N)) (hcells : cn + 1 ≤ R.cells) (hslots : un + N ≤ R.slots) (k9 : zJd G ph p e R s m args below meth c Q (pc + 3) (L, zR (some (zn μ)) :: st, znew μ (k, N), cn + 1, un + N)) : zJd G ph p e R s m args below meth c Q pc (L, st, μ, cn, un) := by
  intro H locs ls hl hh hS
  have hKn := A.2.2.2.2.1.1 k _ hc
  refine W.newcK A.1 A.2.1 A.2.2.1 (A.2.2.2.1 _ hcl) (A.2.2.2.1 _ hinst) (A.2.2.2.1 _ hini) rfl d hcells hslots hKn.2.1 rfl fun H1 kC hkC e1 z1 o1 => ?_
  have ha : zad G (zn μ) = H.size := hh.2.2.1 0
  have h9 := k9 H1 locs ls hl (zH.push hh rfl (fun b hb => zcell_new hb) ?_ z1 o1) (z_stay hS z1 o1)
  · have e9 : cv G (zR (some (zn μ))) = .ref H.size := by rw [← ha]; rfl
    show W _ _ _ _ _ _ _ _ _ _ _ _ _ _ _ (F0 m (pc + 3) ls (.ref H.size :: st.map (cv G)))
    rw [← e9]
    exact h9
  · rw [zcell_obj (sl := false) hk hz]
    refine ⟨_, hc, (u_born ty0 A.2.2.2.1 hin hKn hkC e1 hty).to (fun j hj => ?_)⟩
    rw [hdef j hj]
    unfold vp_V
    rw [List.getD_eq_getElem?_getD, List.getElem?_map, List.getElem?_range hj]
    exact (zfv_new k j).symm
theorem s_newa_int (A : zAm G p s m args c cc own Ts) {n : Nat} {x : Int} (d : decode cc pc = .ok (.newarray .int, 2)) (hx : x = (n : Int)) (hn : n < 100000) (hac : Cond.arrayClass (newarray.typeOf .int) ∈ Ts) (hz : zs ph (znew μ (40, n)) (zn μ) = (40, n)) (hcells : cn + 1 ≤ R.cells) (hslots : un + n ≤ R.slots) (k9 : zJd G ph p e R s m args below meth c Q (pc + 2) (L, zR (some (zn μ)) :: st, znew μ (40, n), cn + 1, un + n)) : zJd G ph p e R s m args below meth c Q pc (L, zI x :: st, μ, cn, un) := by
  intro H locs ls hl hh hS
  have hx2 : zw x = n := by rw [hx]; exact zw_id (by omega) (by omega)
  have hcl : (Int32.ofInt x).toNatClampNeg = n := by have := z_cl (z := x) (by omega); omega
  refine va_newaK A.1 A.2.1 (A.2.2.2.1 _ hac) rfl d rfl (fun q => ?_) hcl (by show n * 4 ≤ _; omega) hcells hslots rfl fun H1 cA e1 z1 o1 hAr hNm => ?_
  · have := (z_lt x 0).mp q
    have h0 : zw 0 = 0 := rfl
    omega
  have ha : zad G (zn μ) = H.size := hh.2.2.1 0
  have hcA : cA = zcA G 0 := Option.some.inj (hNm.symm.trans (A.2.2.2.2.1.2 0 _ rfl).2)
  have h9 := k9 H1 locs ls hl (zH.push hh rfl (fun b hb => zcell_new hb) ?_ z1 o1) (z_stay hS z1 o1)
  · have e9 : cv G (zR (some (zn μ))) = .ref H.size := by rw [← ha]; rfl
    show W _ _ _ _ _ _ _ _ _ _ _ _ _ _ _ (F0 m (pc + 2) ls (.ref H.size :: st.map (cv G)))
    rw [← e9]
    exact h9
  · rw [zcell_i (by decide) hz]
    show H1[H.size]? = some (vp_cell _ _)
    rw [e1, hcA]
    rw [vp_cell_i]
    congr 2
    funext j
    show Value.int 0 = _
    congr 1
    show _ = Int32.ofInt (zi (znew μ (40, n)) (zn μ) j)
    rw [zi_new, if_pos rfl]
    rfl
theorem s_newa_long (A : zAm G p s m args c cc own Ts) {n : Nat} {x : Int} (d : decode cc pc = .ok (.newarray .long, 2)) (hx : x = (n : Int)) (hn : n < 100000) (hac : Cond.arrayClass (newarray.typeOf .long) ∈ Ts) (hz : zs ph (znew μ (41, n)) (zn μ) = (41, n)) (hcells : cn + 1 ≤ R.cells) (hslots : un + n ≤ R.slots) (k9 : zJd G ph p e R s m args below meth c Q (pc + 2) (L, zR (some (zn μ)) :: st, znew μ (41, n), cn + 1, un + n)) : zJd G ph p e R s m args below meth c Q pc (L, zI x :: st, μ, cn, un) := by
  intro H locs ls hl hh hS
  have hx2 : zw x = n := by rw [hx]; exact zw_id (by omega) (by omega)
  have hcl : (Int32.ofInt x).toNatClampNeg = n := by have := z_cl (z := x) (by omega); omega
  refine va_newaK A.1 A.2.1 (A.2.2.2.1 _ hac) rfl d rfl (fun q => ?_) hcl (by show n * 8 ≤ _; omega) hcells hslots rfl fun H1 cA e1 z1 o1 hAr hNm => ?_
  · have := (z_lt x 0).mp q
    have h0 : zw 0 = 0 := rfl
    omega
  have ha : zad G (zn μ) = H.size := hh.2.2.1 0
  have hcA : cA = zcA G 1 := Option.some.inj (hNm.symm.trans (A.2.2.2.2.1.2 1 _ rfl).2)
  have h9 := k9 H1 locs ls hl (zH.push hh rfl (fun b hb => zcell_new hb) ?_ z1 o1) (z_stay hS z1 o1)
  · have e9 : cv G (zR (some (zn μ))) = .ref H.size := by rw [← ha]; rfl
    show W _ _ _ _ _ _ _ _ _ _ _ _ _ _ _ (F0 m (pc + 2) ls (.ref H.size :: st.map (cv G)))
    rw [← e9]
    exact h9
  · rw [zcell_l hz]
    show H1[H.size]? = some (vp_cell _ _)
    rw [e1, hcA]
    rw [vp_cell_l]
    congr 2
    funext j
    show Value.long 0 = _
    congr 1
    show _ = Int64.ofInt (zi (znew μ (41, n)) (zn μ) j)
    rw [zi_new, if_pos rfl]
    rfl
theorem s_newa_bool (A : zAm G p s m args c cc own Ts) {n : Nat} {x : Int} (d : decode cc pc = .ok (.newarray .boolean, 2)) (hx : x = (n : Int)) (hn : n < 100000) (hac : Cond.arrayClass (newarray.typeOf .boolean) ∈ Ts) (hz : zs ph (znew μ (42, n)) (zn μ) = (42, n)) (hcells : cn + 1 ≤ R.cells) (hslots : un + n ≤ R.slots) (k9 : zJd G ph p e R s m args below meth c Q (pc + 2) (L, zR (some (zn μ)) :: st, znew μ (42, n), cn + 1, un + n)) : zJd G ph p e R s m args below meth c Q pc (L, zI x :: st, μ, cn, un) := by
  intro H locs ls hl hh hS
  have hx2 : zw x = n := by rw [hx]; exact zw_id (by omega) (by omega)
  have hcl : (Int32.ofInt x).toNatClampNeg = n := by have := z_cl (z := x) (by omega); omega
  refine va_newaK A.1 A.2.1 (A.2.2.2.1 _ hac) rfl d rfl (fun q => ?_) hcl (by show n * 1 ≤ _; omega) hcells hslots rfl fun H1 cA e1 z1 o1 hAr hNm => ?_
  · have := (z_lt x 0).mp q
    have h0 : zw 0 = 0 := rfl
    omega
  have ha : zad G (zn μ) = H.size := hh.2.2.1 0
  have hcA : cA = zcA G 2 := Option.some.inj (hNm.symm.trans (A.2.2.2.2.1.2 2 _ rfl).2)
  have h9 := k9 H1 locs ls hl (zH.push hh rfl (fun b hb => zcell_new hb) ?_ z1 o1) (z_stay hS z1 o1)
  · have e9 : cv G (zR (some (zn μ))) = .ref H.size := by rw [← ha]; rfl
    show W _ _ _ _ _ _ _ _ _ _ _ _ _ _ _ (F0 m (pc + 2) ls (.ref H.size :: st.map (cv G)))
    rw [← e9]
    exact h9
  · rw [zcell_i (by decide) hz]
    show H1[H.size]? = some (vp_cell _ _)
    rw [e1, hcA]
    rw [vp_cell_i]
    congr 2
    funext j
    show Value.int 0 = _
    congr 1
    show _ = Int32.ofInt (zi (znew μ (42, n)) (zn μ) j)
    rw [zi_new, if_pos rfl]
    rfl
theorem s_newa_byte (A : zAm G p s m args c cc own Ts) {n : Nat} {x : Int} (d : decode cc pc = .ok (.newarray .byte, 2)) (hx : x = (n : Int)) (hn : n < 100000) (hac : Cond.arrayClass (newarray.typeOf .byte) ∈ Ts) (hz : zs ph (znew μ (43, n)) (zn μ) = (43, n)) (hcells : cn + 1 ≤ R.cells) (hslots : un + n ≤ R.slots) (k9 : zJd G ph p e R s m args below meth c Q (pc + 2) (L, zR (some (zn μ)) :: st, znew μ (43, n), cn + 1, un + n)) : zJd G ph p e R s m args below meth c Q pc (L, zI x :: st, μ, cn, un) := by
  intro H locs ls hl hh hS
  have hx2 : zw x = n := by rw [hx]; exact zw_id (by omega) (by omega)
  have hcl : (Int32.ofInt x).toNatClampNeg = n := by have := z_cl (z := x) (by omega); omega
  refine va_newaK A.1 A.2.1 (A.2.2.2.1 _ hac) rfl d rfl (fun q => ?_) hcl (by show n * 1 ≤ _; omega) hcells hslots rfl fun H1 cA e1 z1 o1 hAr hNm => ?_
  · have := (z_lt x 0).mp q
    have h0 : zw 0 = 0 := rfl
    omega
  have ha : zad G (zn μ) = H.size := hh.2.2.1 0
  have hcA : cA = zcA G 3 := Option.some.inj (hNm.symm.trans (A.2.2.2.2.1.2 3 _ rfl).2)
  have h9 := k9 H1 locs ls hl (zH.push hh rfl (fun b hb => zcell_new hb) ?_ z1 o1) (z_stay hS z1 o1)
  · have e9 : cv G (zR (some (zn μ))) = .ref H.size := by rw [← ha]; rfl
    show W _ _ _ _ _ _ _ _ _ _ _ _ _ _ _ (F0 m (pc + 2) ls (.ref H.size :: st.map (cv G)))
    rw [← e9]
    exact h9
  · rw [zcell_i (by decide) hz]
    show H1[H.size]? = some (vp_cell _ _)
    rw [e1, hcA]
    rw [vp_cell_i]
    congr 2
    funext j
    show Value.int 0 = _
    congr 1
    show _ = Int32.ofInt (zi (znew μ (43, n)) (zn μ) j)
    rw [zi_new, if_pos rfl]
    rfl
theorem s_anew_State (A : zAm G p s m args c cc own Ts) {index n : Nat} {x : Int} (d : decode cc pc = .ok (.anewarray index, 3)) (hx : x = (n : Int)) (hn : n < 100000) (hclk : Cond.classLink own index RX7 ∈ Ts) (hover : Cond.arrayOver (.object RX7) ∈ lw_tbl) (hz : zs ph (znew μ (44, n)) (zn μ) = (44, n)) (hcells : cn + 1 ≤ R.cells) (hslots : un + n ≤ R.slots) (k9 : zJd G ph p e R s m args below meth c Q (pc + 3) (L, zR (some (zn μ)) :: st, znew μ (44, n), cn + 1, un + n)) : zJd G ph p e R s m args below meth c Q pc (L, zI x :: st, μ, cn, un) := by
  intro H locs ls hl hh hS
  have hx2 : zw x = n := by rw [hx]; exact zw_id (by omega) (by omega)
  have hcl : (Int32.ofInt x).toNatClampNeg = n := by have := z_cl (z := x) (by omega); omega
  refine W.anew A.1 A.2.1 A.2.2.1 (A.2.2.2.1 _ hclk) (va_AO.use (A.2.2.2.2.2.2.1 _ hover rfl)) rfl d rfl (fun q => ?_) (by rw [hcl]; omega) hcells (by rw [hcl]; exact hslots) fun cA kA comp f1 f2 f3 f4 => ?_
  · have := (z_lt x 0).mp q
    have h0 : zw 0 = 0 := rfl
    omega
  rw [hcl]
  generalize hH1 : H.push ({ cls := cA, slots := Array.replicate n .null, vm := .none } : Cell) = H1
  have z1 : H1.size = H.size + 1 := by rw [← hH1, Array.size_push]
  have e1 : H1[H.size]? = some (arrV cA n (fun _ => .null)) := by rw [← hH1, Array.getElem?_push_size, ← arrV_new]
  have o1 : ∀ q : Nat, q < H.size → H1[q]? = H[q]? := fun q hq => by rw [← hH1, Array.getElem?_push, if_neg (Nat.ne_of_lt hq)]
  have ha : zad G (zn μ) = H.size := hh.2.2.1 0
  obtain ⟨kA', comp', -, -, -, g4⟩ := (A.2.2.2.2.1.2 4 _ rfl).2
  have hcA : cA = zcA G 4 := Option.some.inj (f1.symm.trans g4)
  have h9 := k9 H1 locs ls hl (zH.push hh rfl (fun b hb => zcell_new hb) ?_ z1 o1) (z_stay hS z1 o1)
  · have e9 : cv G (zR (some (zn μ))) = .ref H.size := by rw [← ha]; rfl
    show W _ _ _ _ _ _ _ _ _ _ _ _ _ _ _ (F0 m (pc + 3) ls (.ref H.size :: st.map (cv G)))
    rw [← e9]
    exact h9
  · rw [zcell_r (by decide) hz]
    show H1[H.size]? = some (vp_cell _ _)
    rw [e1, hcA]
    rw [vp_cell_q]
    congr 2
    funext j
    show Value.null = va_rf ((zr (znew μ (44, n)) (zn μ) j).map (zad G))
    rw [zr_new, if_pos rfl]
    rfl
theorem s_aast_State (A : zAm G p s m args c cc own Ts) {i : Int} {a v n N : Nat} {sl : Bool} (d : decode cc pc = .ok (.aastore, 1)) (hq : zok ph μ a (44, n)) (hi : 0 ≤ zw i ∧ zw i < (n : Int)) (hv : zok ph μ v (cond sl (7 + 20) 7, N)) (k9 : zJd G ph p e R s m args below meth c Q (pc + 1) (L, st, zupr μ a (zw i) (some v), cn, un)) : zJd G ph p e R s m args below meth c Q pc (L, zR (some v) :: zI i :: zR (some a) :: st, μ, cn, un) := by
  intro H locs ls hl hh hS
  have e := z_ok_ix hq hh
  rw [zcell_r (by decide) hq.2] at e
  have ev := z_ok_ix hv hh
  rw [zcell_obj (by decide) hv.2] at ev
  have hi2 := z_in hi
  have hlt : (Int32.ofInt i).toNatClampNeg < n := Nat.not_le.mp fun q => hi2 (Or.inr q)
  have h0 : ¬ Int32.ofInt i < 0 := fun q => hi2 (Or.inl q)
  obtain ⟨r', hr', cellV, g1, g2, g3, -⟩ := hh.1 v _ ev
  have hcls := (A.2.2.2.2.1.1 7 _ rfl).2
  obtain ⟨kA, comp, k1, k2, k3, -⟩ := (A.2.2.2.2.1.2 4 _ rfl).2
  have hcomp : comp = (zD G).1 7 := Option.some.inj (k3.symm.trans hcls.1)
  subst hcomp
  obtain ⟨kC, hkC, -⟩ := hcls.2
  refine W.aast A.1 A.2.1 (hh.1 a _ e) (fun q h => by cases h) (fun h => by cases h) k1 k2 rfl hkC ⟨h0, by show _ < (arrV _ _ _).slots.size; rw [arrV_size]; exact hlt⟩ g1 (fun q h => by rw [g3] at h; cases h) (by rw [g2]; exact hkC) (by rw [g2]; exact va_assign hcls) rfl rfl d fun H1 e1 z1 oq => ?_
  refine k9 H1 _ ls hl (zH.set hh rfl (fun b _ hb => zcell_upr hb) (zcell_rup (by decide) hq.2 hi.1) (hh.1.set hh.2.1 e ?_ oq) (hh.2.1.set e) z1) (hS.put z1 oq (hh.2.1.2 a _ e))
  show H1[zad G a]? = some (vp_cell _ _)
  rw [e1]
  rw [vp_cell_q, vp_cell_q, arrV_store]
  congr 2
  funext q
  by_cases hq9 : q = (Int32.ofInt i).toNatClampNeg
  · subst hq9
    simp [updV, va_up, va_rf]
  · simp [updV, va_up, hq9]
theorem s_anew_Step (A : zAm G p s m args c cc own Ts) {index n : Nat} {x : Int} (d : decode cc pc = .ok (.anewarray index, 3)) (hx : x = (n : Int)) (hn : n < 100000) (hclk : Cond.classLink own index RX8 ∈ Ts) (hover : Cond.arrayOver (.object RX8) ∈ lw_tbl) (hz : zs ph (znew μ (45, n)) (zn μ) = (45, n)) (hcells : cn + 1 ≤ R.cells) (hslots : un + n ≤ R.slots) (k9 : zJd G ph p e R s m args below meth c Q (pc + 3) (L, zR (some (zn μ)) :: st, znew μ (45, n), cn + 1, un + n)) : zJd G ph p e R s m args below meth c Q pc (L, zI x :: st, μ, cn, un) := by
  intro H locs ls hl hh hS
  have hx2 : zw x = n := by rw [hx]; exact zw_id (by omega) (by omega)
  have hcl : (Int32.ofInt x).toNatClampNeg = n := by have := z_cl (z := x) (by omega); omega
  refine W.anew A.1 A.2.1 A.2.2.1 (A.2.2.2.1 _ hclk) (va_AO.use (A.2.2.2.2.2.2.1 _ hover rfl)) rfl d rfl (fun q => ?_) (by rw [hcl]; omega) hcells (by rw [hcl]; exact hslots) fun cA kA comp f1 f2 f3 f4 => ?_
  · have := (z_lt x 0).mp q
    have h0 : zw 0 = 0 := rfl
    omega
  rw [hcl]
  generalize hH1 : H.push ({ cls := cA, slots := Array.replicate n .null, vm := .none } : Cell) = H1
  have z1 : H1.size = H.size + 1 := by rw [← hH1, Array.size_push]
  have e1 : H1[H.size]? = some (arrV cA n (fun _ => .null)) := by rw [← hH1, Array.getElem?_push_size, ← arrV_new]
  have o1 : ∀ q : Nat, q < H.size → H1[q]? = H[q]? := fun q hq => by rw [← hH1, Array.getElem?_push, if_neg (Nat.ne_of_lt hq)]
  have ha : zad G (zn μ) = H.size := hh.2.2.1 0
  obtain ⟨kA', comp', -, -, -, g4⟩ := (A.2.2.2.2.1.2 5 _ rfl).2
  have hcA : cA = zcA G 5 := Option.some.inj (f1.symm.trans g4)
  have h9 := k9 H1 locs ls hl (zH.push hh rfl (fun b hb => zcell_new hb) ?_ z1 o1) (z_stay hS z1 o1)
  · have e9 : cv G (zR (some (zn μ))) = .ref H.size := by rw [← ha]; rfl
    show W _ _ _ _ _ _ _ _ _ _ _ _ _ _ _ (F0 m (pc + 3) ls (.ref H.size :: st.map (cv G)))
    rw [← e9]
    exact h9
  · rw [zcell_r (by decide) hz]
    show H1[H.size]? = some (vp_cell _ _)
    rw [e1, hcA]
    rw [vp_cell_q]
    congr 2
    funext j
    show Value.null = va_rf ((zr (znew μ (45, n)) (zn μ) j).map (zad G))
    rw [zr_new, if_pos rfl]
    rfl
theorem s_aast_Step (A : zAm G p s m args c cc own Ts) {i : Int} {a v n N : Nat} {sl : Bool} (d : decode cc pc = .ok (.aastore, 1)) (hq : zok ph μ a (45, n)) (hi : 0 ≤ zw i ∧ zw i < (n : Int)) (hv : zok ph μ v (cond sl (8 + 20) 8, N)) (k9 : zJd G ph p e R s m args below meth c Q (pc + 1) (L, st, zupr μ a (zw i) (some v), cn, un)) : zJd G ph p e R s m args below meth c Q pc (L, zR (some v) :: zI i :: zR (some a) :: st, μ, cn, un) := by
  intro H locs ls hl hh hS
  have e := z_ok_ix hq hh
  rw [zcell_r (by decide) hq.2] at e
  have ev := z_ok_ix hv hh
  rw [zcell_obj (by decide) hv.2] at ev
  have hi2 := z_in hi
  have hlt : (Int32.ofInt i).toNatClampNeg < n := Nat.not_le.mp fun q => hi2 (Or.inr q)
  have h0 : ¬ Int32.ofInt i < 0 := fun q => hi2 (Or.inl q)
  obtain ⟨r', hr', cellV, g1, g2, g3, -⟩ := hh.1 v _ ev
  have hcls := (A.2.2.2.2.1.1 8 _ rfl).2
  obtain ⟨kA, comp, k1, k2, k3, -⟩ := (A.2.2.2.2.1.2 5 _ rfl).2
  have hcomp : comp = (zD G).1 8 := Option.some.inj (k3.symm.trans hcls.1)
  subst hcomp
  obtain ⟨kC, hkC, -⟩ := hcls.2
  refine W.aast A.1 A.2.1 (hh.1 a _ e) (fun q h => by cases h) (fun h => by cases h) k1 k2 rfl hkC ⟨h0, by show _ < (arrV _ _ _).slots.size; rw [arrV_size]; exact hlt⟩ g1 (fun q h => by rw [g3] at h; cases h) (by rw [g2]; exact hkC) (by rw [g2]; exact va_assign hcls) rfl rfl d fun H1 e1 z1 oq => ?_
  refine k9 H1 _ ls hl (zH.set hh rfl (fun b _ hb => zcell_upr hb) (zcell_rup (by decide) hq.2 hi.1) (hh.1.set hh.2.1 e ?_ oq) (hh.2.1.set e) z1) (hS.put z1 oq (hh.2.1.2 a _ e))
  show H1[zad G a]? = some (vp_cell _ _)
  rw [e1]
  rw [vp_cell_q, vp_cell_q, arrV_store]
  congr 2
  funext q
  by_cases hq9 : q = (Int32.ofInt i).toNatClampNeg
  · subst hq9
    simp [updV, va_up, va_rf]
  · simp [updV, va_up, hq9]
theorem s_mmax (A : zAm G p s m args c cc own Ts) {index : Nat} {x y : Int} (d : decode cc pc = .ok (.invokestatic index, 3)) (hw : Cond.methodLink own index Lib.Math.max.name ∈ Ts) (hw2 : Cond.static Lib.Math.max.name ∈ Ts) (hw3 : Cond.initialized "java/lang/Math" ∈ Ts) (hw4 : Cond.code Lib.Math.max.name Lib.Math.max.code 2 (some .int) ∈ Ts) (hfr : 1 ≤ R.frames) (hlo : (st.map zcat).sum + 13 ≤ R.locals) (hcs : cn ≤ R.cells ∧ un ≤ R.slots) (k9 : zJd G ph p e R s m args below meth c Q (pc + 3) (L, zI (if zw x < zw y then y else x) :: st, μ, cn, un)) : zJd G ph p e R s m args below meth c Q pc (L, zI y :: zI x :: st, μ, cn, un) := by
  intro H locs ls hl hh hS
  refine va_mmax A.1 A.2.1 hl.1.symm A.2.2.1 (A.2.2.2.1 _ hw) (A.2.2.2.1 _ hw2) (A.2.2.2.1 _ hw3) (A.2.2.2.1 _ hw4) hfr (by rw [z_cats]; omega) hcs.1 hcs.2 d ?_
  have h9 := k9 H locs ls hl hh hS
  have e9 : cv G (zI (if zw x < zw y then y else x)) = .int (if Int32.ofInt x < Int32.ofInt y then Int32.ofInt y else Int32.ofInt x) := by
    by_cases h : zw x < zw y
    · rw [if_pos h, if_pos ((z_lt x y).mpr h)]; rfl
    · rw [if_neg h, if_neg (fun q => h ((z_lt x y).mp q))]; rfl
  rw [← e9]
  exact h9
theorem s_mmin (A : zAm G p s m args c cc own Ts) {index : Nat} {x y : Int} (d : decode cc pc = .ok (.invokestatic index, 3)) (hw : Cond.methodLink own index Lib.Math.min.name ∈ Ts) (hw2 : Cond.static Lib.Math.min.name ∈ Ts) (hw3 : Cond.initialized "java/lang/Math" ∈ Ts) (hw4 : Cond.code Lib.Math.min.name Lib.Math.min.code 2 (some .int) ∈ Ts) (hfr : 1 ≤ R.frames) (hlo : (st.map zcat).sum + 13 ≤ R.locals) (hcs : cn ≤ R.cells ∧ un ≤ R.slots) (k9 : zJd G ph p e R s m args below meth c Q (pc + 3) (L, zI (if zw y < zw x then y else x) :: st, μ, cn, un)) : zJd G ph p e R s m args below meth c Q pc (L, zI y :: zI x :: st, μ, cn, un) := by
  intro H locs ls hl hh hS
  refine va_mmin A.1 A.2.1 hl.1.symm A.2.2.1 (A.2.2.2.1 _ hw) (A.2.2.2.1 _ hw2) (A.2.2.2.1 _ hw3) (A.2.2.2.1 _ hw4) hfr (by rw [z_cats]; omega) hcs.1 hcs.2 d ?_
  have h9 := k9 H locs ls hl hh hS
  have e9 : cv G (zI (if zw y < zw x then y else x)) = .int (if Int32.ofInt y < Int32.ofInt x then Int32.ofInt y else Int32.ofInt x) := by
    by_cases h : zw y < zw x
    · rw [if_pos h, if_pos ((z_lt y x).mpr h)]; rfl
    · rw [if_neg h, if_neg (fun q => h ((z_lt y x).mp q))]; rfl
  rw [← e9]
  exact h9
theorem s_mabs (A : zAm G p s m args c cc own Ts) {index : Nat} {x : Int} (d : decode cc pc = .ok (.invokestatic index, 3)) (hw : Cond.methodLink own index Lib.Math.abs.name ∈ Ts) (hw2 : Cond.static Lib.Math.abs.name ∈ Ts) (hw3 : Cond.initialized "java/lang/Math" ∈ Ts) (hw4 : Cond.code Lib.Math.abs.name Lib.Math.abs.code 1 (some .int) ∈ Ts) (hfr : 1 ≤ R.frames) (hlo : (st.map zcat).sum + 13 ≤ R.locals) (hcs : cn ≤ R.cells ∧ un ≤ R.slots) (k9 : zJd G ph p e R s m args below meth c Q (pc + 3) (L, zI (if 0 ≤ zw x then x else -x) :: st, μ, cn, un)) : zJd G ph p e R s m args below meth c Q pc (L, zI x :: st, μ, cn, un) := by
  intro H locs ls hl hh hS
  refine va_mabs A.1 A.2.1 hl.1.symm A.2.2.1 (A.2.2.2.1 _ hw) (A.2.2.2.1 _ hw2) (A.2.2.2.1 _ hw3) (A.2.2.2.1 _ hw4) hfr (by rw [z_cats]; omega) hcs.1 hcs.2 d ?_
  have h9 := k9 H locs ls hl hh hS
  have e9 : cv G (zI (if 0 ≤ zw x then x else -x)) = .int (if (0 : Int32) ≤ Int32.ofInt x then Int32.ofInt x else 0 - Int32.ofInt x) := by
    by_cases h : 0 ≤ zw x
    · rw [if_pos h, if_pos ((z_le0 x).mpr h)]; rfl
    · rw [if_neg h, if_neg (fun q => h ((z_le0 x).mp q))]; rw [show (0 : Int32) - Int32.ofInt x = Int32.ofInt (0 - x) from (Int32.ofInt_sub 0 x).symm, Int.zero_sub]; rfl
  rw [← e9]
  exact h9
end
