/-- arraycopy(b, 0, a, 0, n) -/
def zcopy (μ : zM) (b a : Nat) (n : Nat) : zM := (fun a' i => if a' = a ∧ 0 ≤ i ∧ i < (n : Int) then μ.1 b i else μ.1 a' i, μ.2)
theorem zi_copy (μ : zM) (b a n : Nat) (x : Nat) (j : Int) : zi (zcopy μ b a n) x j = if x = a ∧ 0 ≤ j ∧ j < (n : Int) then zi μ b j else zi μ x j := rfl
theorem zr_copy (μ : zM) (b a n : Nat) (x : Nat) (j : Int) : zr (zcopy μ b a n) x j = zr μ x j := rfl
theorem zn_copy (μ : zM) (b a n : Nat) : zn (zcopy μ b a n) = zn μ := rfl
theorem zh_copy (μ : zM) (b a n : Nat) : zh (zcopy μ b a n) = zh μ := rfl
theorem zs_copy (ph : Bool) (μ : zM) (b a n x : Nat) : zs ph (zcopy μ b a n) x = zs ph μ x := rfl
theorem zcell_copy {G : zG} {ph : Bool} {μ : zM} {a b c n : Nat} (hb : c ≠ a) : zcell G ph (zcopy μ b a n) c = zcell G ph μ c := by
  have e : ∀ j, zi (zcopy μ b a n) c j = zi μ c j := fun j => if_neg (fun q => hb q.1)
  have e2 : ∀ sl k j, zfv G (zcopy μ b a n) c sl k j = zfv G μ c sl k j := fun sl k j => by unfold zfv; rw [e]; rfl
  have e3 : ∀ k j, zel (zcopy μ b a n) c k j = zel μ c k j := fun k j => rfl
  have e4 : ∀ sl k, zfv G (zcopy μ b a n) c sl k = zfv G μ c sl k := fun sl k => funext (e2 sl k)
  unfold zcell
  rw [show zs ph (zcopy μ b a n) c = zs ph μ c from rfl]
  simp only [e, e3, e4]
section
variable {G : zG} {ph : Bool} {p : Program} {e : Env} {R : Room} {s : State} {m : MethodId} {args : Array Value} {below : List Frame} {meth : Method} {c : Code} {Q : State → Prop} {cc : ByteArray} {own : String} {Ts : List Cond} {pc : Nat} {L L' : List (Option zV)} {st : List zV} {μ μ' : zM} {cn un : Nat}
/-- follows va_copyi of the kit, with the heap's size told -/
theorem s_copy (A : zAm G p s m args c cc own Ts) {index a b n n0 n1 : Nat} (d : decode cc pc = .ok (.invokestatic index, 3)) (hw : Cond.methodLink own index arraycopyName ∈ Ts) (hw2 : Cond.native arraycopyName ∈ Ts) (hw3 : Cond.static arraycopyName ∈ Ts) (hw4 : Cond.initialized "java/lang/System" ∈ Ts) (hq0 : zok ph μ b (40, n0)) (hq1 : zok ph μ a (40, n1)) (hn0 : n ≤ n0) (hn1 : n ≤ n1) (hn : n < 100000) (hframes : 1 ≤ R.frames) (hlo : (st.map zcat).sum + (nativeFrameWords "java/lang/System" "arraycopy" 5 + 11) ≤ R.locals)
    (k9 : zJd G ph p e R s m args below meth c Q (pc + 3) (L, st, zcopy μ b a n, cn, un)) : zJd G ph p e R s m args below meth c Q pc (L, zI (n : Int) :: zI 0 :: zR (some a) :: zI 0 :: zR (some b) :: st, μ, cn, un) := by
  intro H locs ls hl hh hS
  have ha0 := z_ok_ix hq0 hh
  rw [zcell_i (by decide) hq0.2] at ha0
  have ha1 := z_ok_ix hq1 hh
  rw [zcell_i (by decide) hq1.2] at ha1
  have hwn : zw (n : Int) = n := zw_id (by omega) (by omega)
  have hcl : (Int32.ofInt (n : Int)).toNatClampNeg = n := by have := z_cl (z := (n : Int)) (by omega); omega
  have hc0 := hh.1 b _ ha0
  have hc1 := hh.1 a _ ha1
  have hT0 := A.2.2.2.2.1.2 0 _ rfl
  obtain ⟨-, k0, hk0, cm0, hkk0⟩ := hT0.1 n0 (fun j => .int (Int32.ofInt (zi μ b j)))
  obtain ⟨-, k1, hk1, cm1, hkk1⟩ := hT0.1 n1 (fun j => .int (Int32.ofInt (zi μ a j)))
  intro T hT X
  have hneg : ¬ Int32.ofInt (n : Int) < 0 := fun q => by have := (z_lt (n : Int) 0).mp q; have h0 : zw 0 = 0 := rfl; omega
  have h00 : ¬ Int32.ofInt 0 < 0 := by decide
  obtain ⟨vm', X', step⟩ := X.arraycopy A.1 A.2.2.1 (A.2.2.2.1 _ hw) (A.2.2.2.1 _ hw2) (A.2.2.2.1 _ hw3) (A.2.2.2.1 _ hw4) (src := zad G b) (dst := zad G a) (cs := vp_cell (zcA G 0) (n0, .inl (fun j => Int32.ofInt (zi μ b j)))) (cd := vp_cell (zcA G 0) (n1, .inl (fun j => Int32.ofInt (zi μ a j)))) (srcPos := Int32.ofInt 0) (destPos := Int32.ofInt 0) (n := Int32.ofInt (n : Int)) (by rw [hT]; exact hc0) (by rw [hT]; exact hc1)
    (fun _ h => by cases h) (fun _ h => by cases h) (fun h => by cases h) (fun h => by cases h) hk0 hk1 hkk0 hkk1 (by simp [refKind]) h00 h00 hneg
    (by rw [z_toInt, z_toInt, hwn]; show ¬ _ > ((arrV (zcA G 0) n0 (fun j => .int (Int32.ofInt (zi μ b j)))).slots.size : Int); rw [arrV_size]; have h0 : zw 0 = 0 := rfl; omega)
    (by rw [z_toInt, z_toInt, hwn]; show ¬ _ > ((arrV (zcA G 0) n1 (fun j => .int (Int32.ofInt (zi μ a j)))).slots.size : Int); rw [arrV_size]; have h0 : zw 0 = 0 := rfl; omega)
    (fun vm₁ _ i hi => by
      rw [hcl] at hi
      have e : (vp_cell (zcA G 0) (n0, .inl (fun j => Int32.ofInt (zi μ b j)))).slots.getD ((Int32.ofInt 0).toNatClampNeg + i) .null = .int (Int32.ofInt (zi μ b (((Int32.ofInt 0).toNatClampNeg + i : Nat) : Int))) := by
        show (arrV (zcA G 0) n0 (fun j => .int (Int32.ofInt (zi μ b j)))).slots.getD _ _ = _
        rw [Array.getD_eq_getD_getElem?, arrV_read _ _ (by show 0 + i < n0; omega)]
        rfl
      rw [e]
      exact ⟨rfl, trivial⟩)
    (g := F0 m pc ls (.int (Int32.ofInt (n : Int)) :: .int (Int32.ofInt 0) :: .ref (zad G a) :: .int (Int32.ofInt 0) :: .ref (zad G b) :: st.map (cv G))) rfl (by exact hl.1) (rest := st.map (cv G)) rfl (by rw [A.2.1]; exact d) hframes (by show 2 * 0 + _ + _ ≤ _; rw [z_cats]; omega)
  have e1 : copied (vp_cell (zcA G 0) (n0, .inl (fun j => Int32.ofInt (zi μ b j)))) (vp_cell (zcA G 0) (n1, .inl (fun j => Int32.ofInt (zi μ a j)))) (Int32.ofInt 0) (Int32.ofInt 0) (Int32.ofInt (n : Int)) = vp_cell (zcA G 0) (n1, .inl (va_cpy (fun j => Int32.ofInt (zi μ b j)) (fun j => Int32.ofInt (zi μ a j)) 0 0 n)) := by
    have q := va_copied (fun z => .int z) (zcA G 0) (zcA G 0) (n0 := n0) (n1 := n1) (sp := (Int32.ofInt 0).toNatClampNeg) (dp := (Int32.ofInt 0).toNatClampNeg) (n := (Int32.ofInt (n : Int)).toNatClampNeg) (fun j => Int32.ofInt (zi μ b j)) (fun j => Int32.ofInt (zi μ a j)) (by rw [hcl]; show 0 + n ≤ n0; omega)
    rw [hcl] at q
    unfold copied
    rw [hcl]
    exact q
  rw [e1] at X' step
  have e2 : va_cpy (fun j : Nat => Int32.ofInt (zi μ b j)) (fun j : Nat => Int32.ofInt (zi μ a j)) 0 0 n = fun j : Nat => Int32.ofInt (zi (zcopy μ b a n) a j) := by
    funext j
    rw [zi_copy]
    unfold va_cpy
    by_cases hj : j < n
    · rw [if_pos ⟨by omega, by omega⟩, if_pos ⟨rfl, by omega, by omega⟩]
      simp
    · rw [if_neg (by omega), if_neg (by omega)]
  rw [e2] at X' step
  have hl1 : zad G a < H.size := (Array.getElem?_eq_some_iff.mp hc1).1
  have hheap : ((T.setVm vm').setCell (zad G a) (vp_cell (zcA G 0) (n1, .inl (fun j => Int32.ofInt (zi (zcopy μ b a n) a j))))).heap = H.setIfInBounds (zad G a) (vp_cell (zcA G 0) (n1, .inl (fun j => Int32.ofInt (zi (zcopy μ b a n) a j)))) := by rw [← hT]; rfl
  have oq : ∀ q : Nat, q ≠ zad G a → (H.setIfInBounds (zad G a) (vp_cell (zcA G 0) (n1, .inl (fun j => Int32.ofInt (zi (zcopy μ b a n) a j)))))[q]? = H[q]? := fun q hq => by simp [Array.getElem?_setIfInBounds, Ne.symm hq]
  have hAa : zA G (zad G a) := hh.2.1.2 a _ ha1
  obtain ⟨t, a1, b1⟩ := k9 _ _ ls hl (zH.set (a := a) (μ' := zcopy μ b a n) (w := .inl (zcA G 0, n1, .inl (fun j => Int32.ofInt (zi (zcopy μ b a n) a j)))) hh rfl (fun x _ hx => zcell_copy hx) (zcell_i (μ := zcopy μ b a n) (by decide) hq1.2) (hh.1.set hh.2.1 ha1 (show (H.setIfInBounds (zad G a) _)[zad G a]? = some _ by simp [Array.getElem?_setIfInBounds, hl1]) oq) (hh.2.1.set ha1) (by simp)) ⟨by simp; exact hS.1, fun q g1 g2 => by
      rw [oq q (fun e => g2 (by rw [e]; exact hAa))]
      exact hS.2.1 q g1 g2, fun q hq => by
      rcases List.mem_append.mp hq with h | h
      · exact hS.2.2 q h
      · obtain ⟨z, -, hz⟩ := List.mem_map.mp h
        rw [← hz]
        exact hAa⟩ _ hheap X'
  exact ⟨t, step t a1, b1⟩
end
