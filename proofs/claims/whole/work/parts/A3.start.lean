/-! what is known at the start -/
section
variable {s : State} {b : Nat}
theorem zbeg_arr {args : Array Value} {ty : FieldType} (h : (Cond.arrayClass ty).before args s = true) : ∃ cA : ClassId, ArrOfT s cA ty ∧ s.vm.findClass ("[" ++ ty.toString) = some cA := by
  obtain ⟨cA, kA, comp, h1, h2, h3⟩ := Cond.arrayClass_spec h
  exact ⟨cA, fun n z => ⟨fun k h => (by cases h), kA, h2, comp, h3⟩, h1⟩
/-- the static rows of the classes -/
def zTb : Nat → List Int := fun k => ([[1000, 100, 10, 1], [729, 81, 9, 1], [27, 9, 3, 1], [0, 1, 2, 3, 6, 9, 18, 27, 54], [8, 0, 0, 0, 1, 1, 1], [32, 4, 99999, 8, 9, 9, 9], [32, 2, 0, 8, 1, 1, 1], [27, 9, 3, 1], [1000, 100, 10, 1], [0, 1, 2, 3, 6, 9, 18, 27, 54], [8, 0, 0, 0, 1, 1, 1], [32, 4, 99999, 8, 9, 9, 9]] : List (List Int)).getD k []
theorem zst_tb (G : zG) {k : Nat} (h : k < 12) : zst G k = ((zTb k).length, fun j => (zTb k).getD j 0) := by
  have hk : k = 0 ∨ k = 1 ∨ k = 2 ∨ k = 3 ∨ k = 4 ∨ k = 5 ∨ k = 6 ∨ k = 7 ∨ k = 8 ∨ k = 9 ∨ k = 10 ∨ k = 11 := by omega
  rcases hk with rfl | rfl | rfl | rfl | rfl | rfl | rfl | rfl | rfl | rfl | rfl | rfl <;> rfl
abbrev zgv : Cond := Jvm.Cond.and given_1 narrow_1
abbrev ztm (k : Nat) : Term := .static (zsn k).1 (zsn k).2 "[I"
theorem zbeg_T (hg : zgv.before #[Value.ref b] s = true) (k : Fin 12) : ∃ t : Nat, (ztm k.val).eval #[Value.ref b] s none [] s = some (.ref t) ∧ va_T .int t (zTb k.val).length (fun j => .int (Int32.ofInt ((zTb k.val).getD j 0))) (fun q : Nat => s.heap.size ≤ q) s s.heap := by
  have hs := flat_of_before _ hg
  have m1 := (by decide +kernel : ∀ k : Fin 12, Cond.arrayOf (ztm k.val) .int ∈ flatC zgv) k
  have m2 := (by decide +kernel : ∀ k : Fin 12, Cond.eq (.length (ztm k.val)) (.int (Int32.ofNat (zTb k.val).length)) ∈ flatC zgv) k
  have m3 := (by decide +kernel : ∀ k : Fin 12, ∀ j : Fin (zTb k.val).length, Cond.eq (.elem (ztm k.val) (.int (Int32.ofNat j.val))) (.int (Int32.ofInt ((zTb k.val).getD j.val 0))) ∈ flatC zgv) k
  have h9 : (zTb k.val).length < 2 ^ 31 := (by decide +kernel : ∀ k : Fin 12, (zTb k.val).length < 2 ^ 31) k
  exact va_Tof h9 (hs _ m1) (va_eqt (hs _ m2)) (fun j hj => va_eqt (hs _ (m3 ⟨j, hj⟩))) (fun a ha => Nat.not_le.mpr ha)
theorem zbeg_arrO {args : Array Value} {C : String} (h : (Cond.arrayOver (.object C)).before args s = true) : ∃ cA : ClassId, ArrOfT s cA (.object C) ∧ va_RA s cA (.object C) := by
  obtain ⟨comp, cA, kA, h1, h2, h3, h4, h5⟩ := Cond.arrayOver_spec h
  exact ⟨cA, fun n z => ⟨fun k h => (by cases h), kA, h3, comp, h4⟩, kA, comp, h3, h4, h1, h5⟩
theorem zbeg_vw (hts : ∀ w ∈ zTw, w.before #[Value.ref b] s = true) : ∃ D : va_G, ∀ (k : Nat) (q : vw_C), vwCl[k]? = some q → u_Kn s q.1 q.2.1 q.2.2 (D.1 k) (D.2 k) := by
  have key : ∀ k : Nat, ∃ d : ClassId × (Nat → Nat), ∀ q : vw_C, vwCl[k]? = some q → u_Kn s q.1 q.2.1 q.2.2 d.1 d.2 := by
    intro k
    cases hq : vwCl[k]? with
    | none => exact ⟨(default, fun _ => 0), fun q h => by cases h⟩
    | some q =>
      have hin : (∀ w ∈ u_ws q.1 q.2.1 q.2.2, w ∈ zTw) ∧ Cond.instantiable q.1 q.2.2 ∈ lw_tbl := by
        have hk : k < 12 := (List.getElem?_eq_some_iff.mp hq).1
        have hk : k = 0 ∨ k = 1 ∨ k = 2 ∨ k = 3 ∨ k = 4 ∨ k = 5 ∨ k = 6 ∨ k = 7 ∨ k = 8 ∨ k = 9 ∨ k = 10 ∨ k = 11 := by omega
        rcases hk with rfl | rfl | rfl | rfl | rfl | rfl | rfl | rfl | rfl | rfl | rfl | rfl <;> injection hq with hq <;> subst hq
        · exact ⟨zuw_X0, by decide +kernel⟩
        · exact ⟨zuw_X1, by decide +kernel⟩
        · exact ⟨zuw_X2, by decide +kernel⟩
        · exact ⟨zuw_X3, by decide +kernel⟩
        · exact ⟨zuw_X4, by decide +kernel⟩
        · exact ⟨zuw_X5, by decide +kernel⟩
        · exact ⟨zuw_X6, by decide +kernel⟩
        · exact ⟨zuw_X7, by decide +kernel⟩
        · exact ⟨zuw_X8, by decide +kernel⟩
        · exact ⟨zuw_X9, by decide +kernel⟩
        · exact ⟨zuw_X10, by decide +kernel⟩
        · exact ⟨zuw_X11, by decide +kernel⟩
      obtain ⟨c, f, h⟩ := u_known hts hin.1 (hts _ (zTw_mem hin.2 rfl))
      exact ⟨(c, f), fun q2 h2 => by injection h2 with h2; subst h2; exact h⟩
  exact ⟨(fun k => (Classical.choose (key k)).1, fun k => (Classical.choose (key k)).2), fun k q hq => Classical.choose_spec (key k) q hq⟩
end
