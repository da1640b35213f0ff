section
variable {G : zG} {ph : Bool} {p : Program} {e : Env} {R : Room} {s : State} {m : MethodId} {args : Array Value} {below : List Frame} {meth : Method} {c : Code} {Q : State → Prop} {cc : ByteArray} {own : String} {Ts : List Cond} {pc : Nat} {L L' : List (Option zV)} {st : List zV} {μ μ' : zM} {cn un : Nat}
theorem z_ok_ix {ph : Bool} {G : zG} {μ : zM} {H : Heap} {a : Nat} {q : Nat × Nat} (hq : zok ph μ a q) (hh : zH G ph μ H) : (zW G ph μ)[a]? = some (zad G a, zcell G ph μ a) := zW_get (hq.lt hh)
theorem z_clamp {i : Int} {n : Nat} (h : 0 ≤ zw i ∧ zw i < n) : ((Int32.ofInt i).toNatClampNeg : Int) = zw i := z_cl h.1
theorem zcell_iup {k n a : Nat} {i y : Int} (hk : k = 40 ∨ k = 42 ∨ k = 43) (hq : zs ph μ a = (k, n)) (hi : 0 ≤ zw i) : zcell G ph (zup μ a (zw i) y) a = .inl (zcA G (k - 40), n, .inl (upd (fun j => Int32.ofInt (zi μ a j)) (Int32.ofInt i).toNatClampNeg (Int32.ofInt y))) := by
  rw [zcell_i (μ := zup μ a (zw i) y) hk hq]
  congr 4
  funext j
  have e := z_cl hi
  rw [zi_up]
  unfold upd
  by_cases hj : j = (Int32.ofInt i).toNatClampNeg
  · rw [if_pos hj, if_pos ⟨rfl, by rw [hj]; exact e⟩]
  · rw [if_neg hj, if_neg (fun q => hj (by have := q.2; omega))]
theorem zcell_lup {n a : Nat} {i y : Int} (hq : zs ph μ a = (41, n)) (hi : 0 ≤ zw i) : zcell G ph (zup μ a (zw i) y) a = .inl (zcA G 1, n, .inr (.inl (vp_updL (fun j => Int64.ofInt (zi μ a j)) (Int32.ofInt i).toNatClampNeg (Int64.ofInt y)))) := by
  rw [zcell_l (μ := zup μ a (zw i) y) hq]
  congr 5
  funext j
  have e := z_cl hi
  rw [zi_up]
  unfold vp_updL
  by_cases hj : j = (Int32.ofInt i).toNatClampNeg
  · rw [if_pos hj, if_pos ⟨rfl, by rw [hj]; exact e⟩]
  · rw [if_neg hj, if_neg (fun q => hj (by have := q.2; omega))]
theorem zcell_rup {k n a v : Nat} {i : Int} (hk : k = 44 ∨ k = 45) (hq : zs ph μ a = (k, n)) (hi : 0 ≤ zw i) : zcell G ph (zupr μ a (zw i) (some v)) a = .inl (zcA G (if k = 45 then 5 else 4), n, .inr (.inr (.inr (.inr (va_up (fun j => (zel μ a k j).map (zad G)) (Int32.ofInt i).toNatClampNeg (some (zad G v))))))) := by
  rw [zcell_r (μ := zupr μ a (zw i) (some v)) (by omega) hq]
  congr 7
  funext j
  have e := z_cl hi
  have hz : ∀ μ j, zel μ a k j = zr μ a j := fun μ j => by unfold zel; rw [if_neg (by omega), if_neg (by omega)]
  rw [hz]
  unfold va_up
  by_cases hj : j = (Int32.ofInt i).toNatClampNeg
  · rw [if_pos hj, zr_upr, if_pos ⟨rfl, by rw [hj]; exact e⟩]
    rfl
  · rw [if_neg hj]
    show _ = Option.map (zad G) (zel μ a k j)
    rw [hz, zr_upr, if_neg (fun q => hj (by have := q.2; omega))]
theorem s_iald (A : zAm G p s m args c cc own Ts) {i : Int} {a n : Nat} (d : decode cc pc = .ok (.iaload, 1)) (hq : zok ph μ a (40, n)) (hi : 0 ≤ zw i ∧ zw i < (n : Int)) (k9 : zJd G ph p e R s m args below meth c Q (pc + 1) (L, zI (zi μ a (zw i)) :: st, μ, cn, un)) : zJd G ph p e R s m args below meth c Q pc (L, zI i :: zR (some a) :: st, μ, cn, un) := by
  intro H locs ls hl hh hS
  have e := z_ok_ix hq hh
  rw [zcell_i (by decide) hq.2] at e
  refine va_iald A.1 A.2.1 A.2.2.2.2.1 hh.1 a 0 e rfl (z_in hi) d ?_
  show W _ _ _ _ _ _ _ _ _ _ _ _ _ _ _ (F0 m (pc + 1) ls (.int (Int32.ofInt (zi μ a ((Int32.ofInt i).toNatClampNeg : Int))) :: _))
  rw [z_clamp hi]
  exact k9 H locs ls hl hh hS
theorem s_zald (A : zAm G p s m args c cc own Ts) {i : Int} {a n : Nat} (d : decode cc pc = .ok (.baload, 1)) (hq : zok ph μ a (42, n)) (hi : 0 ≤ zw i ∧ zw i < (n : Int)) (k9 : zJd G ph p e R s m args below meth c Q (pc + 1) (L, zI (zi μ a (zw i)) :: st, μ, cn, un)) : zJd G ph p e R s m args below meth c Q pc (L, zI i :: zR (some a) :: st, μ, cn, un) := by
  intro H locs ls hl hh hS
  have e := z_ok_ix hq hh
  rw [zcell_i (by decide) hq.2] at e
  refine va_zald A.1 A.2.1 A.2.2.2.2.1 hh.1 a 2 e rfl (z_in hi) d ?_
  show W _ _ _ _ _ _ _ _ _ _ _ _ _ _ _ (F0 m (pc + 1) ls (.int (Int32.ofInt (zi μ a ((Int32.ofInt i).toNatClampNeg : Int))) :: _))
  rw [z_clamp hi]
  exact k9 H locs ls hl hh hS
theorem s_bald (A : zAm G p s m args c cc own Ts) {i : Int} {a n : Nat} (d : decode cc pc = .ok (.baload, 1)) (hq : zok ph μ a (43, n)) (hi : 0 ≤ zw i ∧ zw i < (n : Int)) (k9 : zJd G ph p e R s m args below meth c Q (pc + 1) (L, zI (zi μ a (zw i)) :: st, μ, cn, un)) : zJd G ph p e R s m args below meth c Q pc (L, zI i :: zR (some a) :: st, μ, cn, un) := by
  intro H locs ls hl hh hS
  have e := z_ok_ix hq hh
  rw [zcell_i (by decide) hq.2] at e
  refine va_bald A.1 A.2.1 A.2.2.2.2.1 hh.1 a 3 e rfl (z_in hi) d ?_
  show W _ _ _ _ _ _ _ _ _ _ _ _ _ _ _ (F0 m (pc + 1) ls (.int (Int32.ofInt (zi μ a ((Int32.ofInt i).toNatClampNeg : Int))) :: _))
  rw [z_clamp hi]
  exact k9 H locs ls hl hh hS
theorem s_lald (A : zAm G p s m args c cc own Ts) {i : Int} {a n : Nat} (d : decode cc pc = .ok (.laload, 1)) (hq : zok ph μ a (41, n)) (hi : 0 ≤ zw i ∧ zw i < (n : Int)) (k9 : zJd G ph p e R s m args below meth c Q (pc + 1) (L, zL (zi μ a (zw i)) :: st, μ, cn, un)) : zJd G ph p e R s m args below meth c Q pc (L, zI i :: zR (some a) :: st, μ, cn, un) := by
  intro H locs ls hl hh hS
  have e := z_ok_ix hq hh
  rw [zcell_l hq.2] at e
  refine va_lald A.1 A.2.1 A.2.2.2.2.1 hh.1 a 1 e rfl (z_in hi) d ?_
  show W _ _ _ _ _ _ _ _ _ _ _ _ _ _ _ (F0 m (pc + 1) ls (.long (Int64.ofInt (zi μ a ((Int32.ofInt i).toNatClampNeg : Int))) :: _))
  rw [z_clamp hi]
  exact k9 H locs ls hl hh hS
theorem s_iast (A : zAm G p s m args c cc own Ts) {i x : Int} {a n : Nat} (d : decode cc pc = .ok (.iastore, 1)) (hq : zok ph μ a (40, n)) (hi : 0 ≤ zw i ∧ zw i < (n : Int)) (k9 : zJd G ph p e R s m args below meth c Q (pc + 1) (L, st, zup μ a (zw i) (x), cn, un)) : zJd G ph p e R s m args below meth c Q pc (L, zI x :: zI i :: zR (some a) :: st, μ, cn, un) := by
  intro H locs ls hl hh hS
  have e := z_ok_ix hq hh
  rw [zcell_i (by decide) hq.2] at e
  refine W.iast A.1 A.2.1 (hh.1 a _ e) ((A.2.2.2.2.1.2 0 _ rfl).1 n (fun j => .int (Int32.ofInt (zi μ a j)))) (fun q => by cases q) (by show ¬ (_ ∨ (arrV _ _ _).slots.size ≤ _); rw [arrV_size]; exact z_in hi) rfl rfl d fun H1 e1 z1 oq => ?_
  refine k9 H1 _ ls hl (zH.set hh rfl (fun b _ hb => zcell_up hb) (zcell_iup (by decide) hq.2 hi.1) (hh.1.set hh.2.1 e ?_ oq) (hh.2.1.set e) z1) (hS.put z1 oq (hh.2.1.2 a _ e))
  show H1[zad G a]? = some (vp_cell _ _)
  rw [e1]
  rw [vp_cell_i, vp_cell_i, arrV_store]
  congr 2
  funext q
  by_cases hqq : q = (Int32.ofInt i).toNatClampNeg
  · subst hqq
    simp only [updV, upd, if_true]
    
  · simp only [updV, upd, if_neg hqq]
theorem s_bast (A : zAm G p s m args c cc own Ts) {i x : Int} {a n : Nat} (d : decode cc pc = .ok (.bastore, 1)) (hq : zok ph μ a (43, n)) (hi : 0 ≤ zw i ∧ zw i < (n : Int)) (k9 : zJd G ph p e R s m args below meth c Q (pc + 1) (L, st, zup μ a (zw i) (zb x), cn, un)) : zJd G ph p e R s m args below meth c Q pc (L, zI x :: zI i :: zR (some a) :: st, μ, cn, un) := by
  intro H locs ls hl hh hS
  have e := z_ok_ix hq hh
  rw [zcell_i (by decide) hq.2] at e
  refine W.bast A.1 A.2.1 (hh.1 a _ e) ((A.2.2.2.2.1.2 3 _ rfl).1 n (fun j => .int (Int32.ofInt (zi μ a j)))) (fun q => by cases q) (by show ¬ (_ ∨ (arrV _ _ _).slots.size ≤ _); rw [arrV_size]; exact z_in hi) rfl rfl d fun H1 e1 z1 oq => ?_
  refine k9 H1 _ ls hl (zH.set hh rfl (fun b _ hb => zcell_up hb) (zcell_iup (by decide) hq.2 hi.1) (hh.1.set hh.2.1 e ?_ oq) (hh.2.1.set e) z1) (hS.put z1 oq (hh.2.1.2 a _ e))
  show H1[zad G a]? = some (vp_cell _ _)
  rw [e1]
  rw [vp_cell_i, vp_cell_i, arrV_store]
  congr 2
  funext q
  by_cases hqq : q = (Int32.ofInt i).toNatClampNeg
  · subst hqq
    simp only [updV, upd, if_true]
    show Value.int (Int32.ofInt x).toInt8.toInt32 = _
    rw [z_i2b]
  · simp only [updV, upd, if_neg hqq]
theorem s_zast (A : zAm G p s m args c cc own Ts) {i x : Int} {a n : Nat} (d : decode cc pc = .ok (.bastore, 1)) (hq : zok ph μ a (42, n)) (hi : 0 ≤ zw i ∧ zw i < (n : Int)) (hx : x = 0 ∨ x = 1) (k9 : zJd G ph p e R s m args below meth c Q (pc + 1) (L, st, zup μ a (zw i) (x), cn, un)) : zJd G ph p e R s m args below meth c Q pc (L, zI x :: zI i :: zR (some a) :: st, μ, cn, un) := by
  intro H locs ls hl hh hS
  have e := z_ok_ix hq hh
  rw [zcell_i (by decide) hq.2] at e
  refine W.zast A.1 A.2.1 (hh.1 a _ e) ((A.2.2.2.2.1.2 2 _ rfl).1 n (fun j => .int (Int32.ofInt (zi μ a j)))) (fun q => by cases q) (by show ¬ (_ ∨ (arrV _ _ _).slots.size ≤ _); rw [arrV_size]; exact z_in hi) rfl rfl d fun H1 e1 z1 oq => ?_
  refine k9 H1 _ ls hl (zH.set hh rfl (fun b _ hb => zcell_up hb) (zcell_iup (by decide) hq.2 hi.1) (hh.1.set hh.2.1 e ?_ oq) (hh.2.1.set e) z1) (hS.put z1 oq (hh.2.1.2 a _ e))
  show H1[zad G a]? = some (vp_cell _ _)
  rw [e1]
  rw [vp_cell_i, vp_cell_i, arrV_store]
  congr 2
  funext q
  by_cases hqq : q = (Int32.ofInt i).toNatClampNeg
  · subst hqq
    simp only [updV, upd, if_true]
    rcases hx with rfl | rfl <;> rfl
  · simp only [updV, upd, if_neg hqq]
theorem s_last (A : zAm G p s m args c cc own Ts) {i x : Int} {a n : Nat} (d : decode cc pc = .ok (.lastore, 1)) (hq : zok ph μ a (41, n)) (hi : 0 ≤ zw i ∧ zw i < (n : Int)) (k9 : zJd G ph p e R s m args below meth c Q (pc + 1) (L, st, zup μ a (zw i) x, cn, un)) : zJd G ph p e R s m args below meth c Q pc (L, zL x :: zI i :: zR (some a) :: st, μ, cn, un) := by
  intro H locs ls hl hh hS
  have e := z_ok_ix hq hh
  rw [zcell_l hq.2] at e
  refine W.last A.1 A.2.1 (hh.1 a _ e) ((A.2.2.2.2.1.2 1 _ rfl).1 n (fun j => .long (Int64.ofInt (zi μ a j)))) (fun q => by cases q) (by show ¬ (_ ∨ (arrV _ _ _).slots.size ≤ _); rw [arrV_size]; exact z_in hi) rfl rfl d fun H1 e1 z1 oq => ?_
  refine k9 H1 _ ls hl (zH.set hh rfl (fun b _ hb => zcell_up hb) (zcell_lup hq.2 hi.1) (hh.1.set hh.2.1 e ?_ oq) (hh.2.1.set e) z1) (hS.put z1 oq (hh.2.1.2 a _ e))
  show H1[zad G a]? = some (vp_cell _ _)
  rw [e1]
  rw [vp_cell_l, vp_cell_l, arrV_store]
  congr 2
  funext q
  by_cases hqq : q = (Int32.ofInt i).toNatClampNeg
  · subst hqq
    simp only [updV, vp_updL, if_true]
  · simp only [updV, vp_updL, if_neg hqq]
theorem s_alen (A : zAm G p s m args c cc own Ts) {a k n : Nat} (d : decode cc pc = .ok (.arraylength, 1)) (hk : k = 40 ∨ k = 41 ∨ k = 42 ∨ ((44 ≤ k ∧ k ≠ 45) ∨ k = 45)) (hq : zok ph μ a (k, n)) (k9 : zJd G ph p e R s m args below meth c Q (pc + 1) (L, zI (n : Int) :: st, μ, cn, un)) : zJd G ph p e R s m args below meth c Q pc (L, zR (some a) :: st, μ, cn, un) := by
  intro H locs ls hl hh hS
  have e := z_ok_ix hq hh
  have hi : Int32.ofNat n = Int32.ofInt (n : Int) := (Int32.ofInt_eq_ofNat).symm
  rcases hk with h | h | h | h
  · subst h; rw [zcell_i (by decide) hq.2] at e
    exact va_alen A.1 A.2.1 A.2.2.2.2.1 hh.1 a 0 e (ty := .int) rfl hi d (k9 H locs ls hl hh hS)
  · subst h; rw [zcell_l hq.2] at e
    exact va_alen A.1 A.2.1 A.2.2.2.2.1 hh.1 a 1 e (ty := .long) rfl hi d (k9 H locs ls hl hh hS)
  · subst h; rw [zcell_i (by decide) hq.2] at e
    exact va_alen A.1 A.2.1 A.2.2.2.2.1 hh.1 a 2 e (ty := .boolean) rfl hi d (k9 H locs ls hl hh hS)
  · rw [zcell_r (by omega) hq.2] at e
    rcases h with h | h
    · rw [if_neg (by omega)] at e
      exact va_alen A.1 A.2.1 A.2.2.2.2.1 hh.1 a 4 e (ty := .object RX7) rfl hi d (k9 H locs ls hl hh hS)
    · rw [if_pos h] at e
      exact va_alen A.1 A.2.1 A.2.2.2.2.1 hh.1 a 5 e (ty := .object RX8) rfl hi d (k9 H locs ls hl hh hS)
theorem s_tlen (A : zAm G p s m args c cc own Ts) {t : Nat} (d : decode cc pc = .ok (.arraylength, 1)) (ht : t < 12 ∨ t = 40) (k9 : zJd G ph p e R s m args below meth c Q (pc + 1) (L, zI ((zst G t).1 : Int) :: st, μ, cn, un)) : zJd G ph p e R s m args below meth c Q pc (L, zT t :: st, μ, cn, un) := by
  intro H locs ls hl hh hS
  exact va_tlen A.1 A.2.1 (A.2.2.2.2.2.1.2.1 t ht) hS (Int32.ofInt_eq_ofNat).symm d (k9 H locs ls hl hh hS)
theorem s_tald (A : zAm G p s m args c cc own Ts) {i : Int} {t : Nat} (d : decode cc pc = .ok (.iaload, 1)) (ht : t < 12 ∨ t = 40) (hi : 0 ≤ zw i ∧ zw i < ((zst G t).1 : Int)) (k9 : zJd G ph p e R s m args below meth c Q (pc + 1) (L, zI ((zst G t).2 (zw i).toNat) :: st, μ, cn, un)) : zJd G ph p e R s m args below meth c Q pc (L, zI i :: zT t :: st, μ, cn, un) := by
  intro H locs ls hl hh hS
  have hv : (fun j : Nat => Value.int (Int32.ofInt ((zst G t).2 j))) (Int32.ofInt i).toNatClampNeg = .int (Int32.ofInt ((zst G t).2 (zw i).toNat)) := by
    show Value.int (Int32.ofInt ((zst G t).2 (Int32.ofInt i).toNatClampNeg)) = _
    rw [show (Int32.ofInt i).toNatClampNeg = (zw i).toNat from by have := z_clamp hi; omega]
  exact va_ti A.1 A.2.1 (A.2.2.2.2.2.1.2.1 t ht) hS (z_in hi) hv d (k9 H locs ls hl hh hS)
theorem s_getsT (A : zAm G p s m args c cc own Ts) {t index : Nat} (d : decode cc pc = .ok (.getstatic index, 3)) (ht : t < 12) (hw : Cond.fieldLink own index (zsn t).1 (zsn t).2 "[I" ∈ Ts) (k9 : zJd G ph p e R s m args below meth c Q (pc + 3) (L, zT t :: st, μ, cn, un)) : zJd G ph p e R s m args below meth c Q pc (L, st, μ, cn, un) := by
  intro H locs ls hl hh hS
  exact va_gets A.1 A.2.1 (A.2.2.2.2.2.1.1 t ht) hS A.2.2.1 (A.2.2.2.1 _ hw) (fun _ h => h) d (k9 H locs ls hl hh hS)
theorem s_aald (A : zAm G p s m args c cc own Ts) {i : Int} {a k n : Nat} {r : Option Nat} (d : decode cc pc = .ok (.aaload, 1)) (hk : 44 ≤ k) (hq : zok ph μ a (k, n)) (hi : 0 ≤ zw i ∧ zw i < (n : Int)) (hr : zel μ a k (zw i).toNat = r) (k9 : zJd G ph p e R s m args below meth c Q (pc + 1) (L, zR r :: st, μ, cn, un)) : zJd G ph p e R s m args below meth c Q pc (L, zI i :: zR (some a) :: st, μ, cn, un) := by
  intro H locs ls hl hh hS
  have e := z_ok_ix hq hh
  rw [zcell_r (by omega) hq.2] at e
  have ev : (zel μ a k (Int32.ofInt i).toNatClampNeg).map (zad G) = r.map (zad G) := by rw [← hr]; congr 2; have := z_clamp hi; omega
  by_cases h5 : k = 45
  · rw [if_pos h5] at e
    refine va_aldq A.1 A.2.1 A.2.2.2.2.1 hh.1 a 5 e (C := RX8) rfl (z_in hi) d ?_
    rw [ev]
    exact k9 H locs ls hl hh hS
  · rw [if_neg h5] at e
    refine va_aldq A.1 A.2.1 A.2.2.2.2.1 hh.1 a 4 e (C := RX7) rfl (z_in hi) d ?_
    rw [ev]
    exact k9 H locs ls hl hh hS
end
