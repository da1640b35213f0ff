/-! what is known at the start: texts, statics; the whole -/
section
variable {s : State} {b : Nat}
abbrev zte (k : Nat) : Term := .string (zso k).1 (zso k).2.1
abbrev zteV (k : Nat) : Term := .field (zte k) "java/lang/String" "value" "[B"
theorem zbeg_S (hg : zgv.before #[Value.ref b] s = true) (k : Fin 20) : ∃ a v : Nat, (zte k.val).eval #[Value.ref b] s none [] s = some (.ref a) ∧ va_O "java/lang/String" a (fun q : Nat => s.heap.size ≤ q) s s.heap ∧ va_OF "java/lang/String" "coder" "B" (.int 0) a (fun q : Nat => s.heap.size ≤ q) s s.heap ∧ va_OF "java/lang/String" "value" "[B" (.ref v) a (fun q : Nat => s.heap.size ≤ q) s s.heap ∧ va_T .byte v (zstx k.val).length (fun j => .int (Int32.ofInt ((zstx k.val).getD j 0))) (fun q : Nat => s.heap.size ≤ q) s s.heap := by
  have hs := flat_of_before _ hg
  have hA : ∀ a : Nat, a < s.heap.size → ¬ (fun q : Nat => s.heap.size ≤ q) a := fun a ha => Nat.not_le.mpr ha
  have m1 := (by decide +kernel : ∀ k : Fin 20, Cond.exactly (zte k.val) "java/lang/String" ∈ flatC zgv) k
  have m2 := (by decide +kernel : ∀ k : Fin 20, Cond.eq (.field (zte k.val) "java/lang/String" "coder" "B") (.int 0) ∈ flatC zgv) k
  have m3 := (by decide +kernel : ∀ k : Fin 20, Cond.arrayOf (zteV k.val) .byte ∈ flatC zgv) k
  have m4 := (by decide +kernel : ∀ k : Fin 20, Cond.eq (.length (zteV k.val)) (.int (Int32.ofNat (zstx k.val).length)) ∈ flatC zgv) k
  have m5 := (by decide +kernel : ∀ k : Fin 20, ∀ j : Fin (zstx k.val).length, Cond.eq (.elem (zteV k.val) (.int (Int32.ofNat j.val))) (.int (Int32.ofInt ((zstx k.val).getD j.val 0))) ∈ flatC zgv) k
  have h9 : (zstx k.val).length < 2 ^ 31 := (by decide +kernel : ∀ k : Fin 20, (zstx k.val).length < 2 ^ 31) k
  obtain ⟨a, c, cA, kA, q1, q2, q3, q4, q5, q6, -⟩ := Cond.exactly_spec (args := #[Value.ref b]) (first := s) (o := none) (s := s) (idx := []) (t := zte k.val) (cls := "java/lang/String") (hs _ m1)
  obtain ⟨t, ht, hT⟩ := va_Tof (f := fun j => .int (Int32.ofInt ((zstx k.val).getD j 0))) (A := fun q : Nat => s.heap.size ≤ q) h9 (hs _ m3) (va_eqt (hs _ m4)) (fun j hj => va_eqt (hs _ (m5 ⟨j, hj⟩))) hA
  exact ⟨a, t, q1, ⟨cA, q3, q5, by rw [q6]; exact q2, hA a (Array.getElem?_eq_some_iff.mp q3).1⟩, vk_OFof q1 (va_eqt (hs _ m2)) hA, vk_OFof q1 ht hA, hT⟩
/-- the map at the start -/
def zGs (l : Launch) (s : State) (b L : Nat) (xs : Nat → Int) (D : va_G) (cA : Nat → ClassId) (ta tb tc : Nat → Nat) (tf : Nat) : zG :=
  (l, (fun k => s.heap.size + k), (fun k => if k < 12 then ta k else if k = 40 then b else if k = 59 then tf else if k < 80 then tb (k - 60) else tc (k - 80)), D, cA, s.heap.size, (L, xs))
theorem zbeg (l : Launch) (hts : ∀ w ∈ lw_tbl, w.before #[Value.ref b] s = true) (hg : zgv.before #[Value.ref b] s = true) {L : Nat} {xs : Nat → Int32} (hX : va_X b L xs s s.heap) (hbl : b < s.heap.size) (hL : L ≤ 2560) : ∃ G : zG, zl G = l ∧ (∀ k, zad G k = s.heap.size + k) ∧ zs0 G = s.heap.size ∧ zst G 40 = (L, fun j => (xs j).toInt) ∧ zsa G 40 = b ∧ va_K (zD G) vwCl (zTys G) s ∧ zStat G s s.heap ∧ zNs G s ∧ zXx G s := by
  have hs := flat_of_before _ hg
  have hA : ∀ a : Nat, a < s.heap.size → ¬ (fun q : Nat => s.heap.size ≤ q) a := fun a ha => Nat.not_le.mpr ha
  obtain ⟨D, hD⟩ := zbeg_vw (fun w hw => hts w (List.mem_filter.mp hw).1)
  obtain ⟨c0, a0, n0⟩ := zbeg_arr (ty := .int) (hts _ (List.mem_of_getElem? (i := 137) (by decide +kernel)))
  obtain ⟨c1, a1, n1⟩ := zbeg_arr (ty := .long) (hts _ (List.mem_of_getElem? (i := 153) (by decide +kernel)))
  obtain ⟨c2, a2, n2⟩ := zbeg_arr (ty := .boolean) (hts _ (List.mem_of_getElem? (i := 183) (by decide +kernel)))
  obtain ⟨c3, a3, n3⟩ := zbeg_arr (ty := .byte) (hts _ (List.mem_of_getElem? (i := 620) (by decide +kernel)))
  obtain ⟨c4, a4, n4⟩ := zbeg_arrO (C := RX7) (hts (.arrayOver (.object RX7)) (by decide +kernel))
  obtain ⟨c5, a5, n5⟩ := zbeg_arrO (C := RX8) (hts (.arrayOver (.object RX8)) (by decide +kernel))
  have hT : ∀ k : Nat, ∃ t : Nat, k < 12 → ((ztm k).eval #[Value.ref b] s none [] s = some (.ref t) ∧ va_T .int t (zTb k).length (fun j => .int (Int32.ofInt ((zTb k).getD j 0))) (fun q : Nat => s.heap.size ≤ q) s s.heap) := fun k => by
    by_cases h : k < 12
    · obtain ⟨t, ht⟩ := zbeg_T hg ⟨k, h⟩
      exact ⟨t, fun _ => ht⟩
    · exact ⟨0, fun z => absurd z h⟩
  obtain ⟨ta, hta⟩ := Classical.axiomOfChoice hT
  have hSt : ∀ k : Nat, ∃ q : Nat × Nat, k < 20 → ((zte k).eval #[Value.ref b] s none [] s = some (.ref q.1) ∧ va_O "java/lang/String" q.1 (fun q : Nat => s.heap.size ≤ q) s s.heap ∧ va_OF "java/lang/String" "coder" "B" (.int 0) q.1 (fun q : Nat => s.heap.size ≤ q) s s.heap ∧ va_OF "java/lang/String" "value" "[B" (.ref q.2) q.1 (fun q : Nat => s.heap.size ≤ q) s s.heap ∧ va_T .byte q.2 (zstx k).length (fun j => .int (Int32.ofInt ((zstx k).getD j 0))) (fun q : Nat => s.heap.size ≤ q) s s.heap) := fun k => by
    by_cases h : k < 20
    · obtain ⟨a, v, ht⟩ := zbeg_S hg ⟨k, h⟩
      exact ⟨(a, v), fun _ => ht⟩
    · exact ⟨(0, 0), fun z => absurd z h⟩
  obtain ⟨tb, htb⟩ := Classical.axiomOfChoice hSt
  have hF : ∃ tf : Nat, va_Z "jdk/internal/util/Preconditions" "SIOOBE_FORMATTER" "Ljava/util/function/BiFunction;" .null (fun q : Nat => s.heap.size ≤ q) s s.heap ∨ va_Z "jdk/internal/util/Preconditions" "SIOOBE_FORMATTER" "Ljava/util/function/BiFunction;" (.ref tf) (fun q : Nat => s.heap.size ≤ q) s s.heap := by
    rcases va_Zqof (hts (.laysStatic "jdk/internal/util/Preconditions" "SIOOBE_FORMATTER" "Ljava/util/function/BiFunction;") (List.mem_of_getElem? (i := 460) (by decide +kernel))) (hts _ (List.mem_of_getElem? (i := 103) (by decide +kernel))) (hs _ (by decide +kernel)) hA with h | ⟨t, h⟩
    · exact ⟨0, Or.inl h⟩
    · exact ⟨t, Or.inr h⟩
  obtain ⟨tf, htf⟩ := hF
  refine ⟨zGs l s b L (fun j => (xs j).toInt) D (fun k => if k = 0 then c0 else if k = 1 then c1 else if k = 2 then c2 else if k = 3 then c3 else if k = 4 then c4 else c5) ta (fun k => (tb k).1) (fun k => (tb k).2) tf, rfl, fun _ => rfl, rfl, rfl, rfl, ⟨hD, fun k q hk => ?_⟩, ⟨fun k hk => ?_, fun k hk => ?_, ?_, ?_, fun i hi => ?_⟩, ⟨fun w hw hn => ?_, fun i hi => ?_⟩, ?_, ?_, ?_⟩
  · have h6 : k < 6 := (List.getElem?_eq_some_iff.mp hk).1
    have h6 : k = 0 ∨ k = 1 ∨ k = 2 ∨ k = 3 ∨ k = 4 ∨ k = 5 := by omega
    rcases h6 with rfl | rfl | rfl | rfl | rfl | rfl <;> injection hk with hk <;> subst hk
    · exact ⟨a0, n0⟩
    · exact ⟨a1, n1⟩
    · exact ⟨a2, n2⟩
    · exact ⟨a3, n3⟩
    · exact ⟨a4, n4⟩
    · exact ⟨a5, n5⟩
  · have e : ∀ x y : Nat, (if k < 12 then x else y) = x := fun x y => if_pos hk
    show va_Z (zsn k).1 (zsn k).2 "[I" (.ref (if k < 12 then ta k else _)) _ _ _
    rw [e]
    have w1 := (by decide +kernel : ∀ k : Fin 12, Cond.laysStatic (zsn k.val).1 (zsn k.val).2 "[I" ∈ lw_tbl) ⟨k, hk⟩
    have w2 := (by decide +kernel : ∀ k : Fin 12, Cond.initialized (zsn k.val).1 ∈ lw_tbl) ⟨k, hk⟩
    exact va_Zof (hts _ w1) (hts _ w2) (hta k hk).1 hA
  · rcases hk with hk | rfl
    · have e : ∀ x y : Nat, (if k < 12 then x else y) = x := fun x y => if_pos hk
      rw [zst_tb _ hk]
      show va_T .int (if k < 12 then ta k else _) _ _ _ _ _
      rw [e]
      exact (hta k hk).2
    · obtain ⟨scr, x1, x2, x3, x4, x5⟩ := hX
      refine ⟨scr, x1, x2, x3, Nat.le_of_eq x4.symm, by rw [x4]; rfl, fun j hj => ?_, hA b hbl⟩
      rw [x5 j hj]
      show some (Value.int (xs j)) = some (Value.int (Int32.ofInt (xs j).toInt))
      rw [Int32.ofInt_toInt]
  · exact va_Zof (hts _ (List.mem_of_getElem? (i := 414) (by decide +kernel))) (hts _ (List.mem_of_getElem? (i := 101) (by decide +kernel))) (va_eqt (hs (.eq (.static "java/lang/String" "COMPACT_STRINGS" "Z") (.int 1)) (by decide +kernel))) hA
  · exact htf
  · have e1 : zsa (zGs l s b L (fun j => (xs j).toInt) D (fun k => if k = 0 then c0 else if k = 1 then c1 else if k = 2 then c2 else if k = 3 then c3 else if k = 4 then c4 else c5) ta (fun k => (tb k).1) (fun k => (tb k).2) tf) (60 + i) = (tb i).1 := by
      show (if 60 + i < 12 then _ else if 60 + i = 40 then _ else if 60 + i = 59 then _ else if 60 + i < 80 then (tb (60 + i - 60)).1 else _) = _
      rw [if_neg (by omega), if_neg (by omega), if_neg (by omega), if_pos (by omega), Nat.add_sub_cancel_left]
    have e2 : zsa (zGs l s b L (fun j => (xs j).toInt) D (fun k => if k = 0 then c0 else if k = 1 then c1 else if k = 2 then c2 else if k = 3 then c3 else if k = 4 then c4 else c5) ta (fun k => (tb k).1) (fun k => (tb k).2) tf) (80 + i) = (tb i).2 := by
      show (if 80 + i < 12 then _ else if 80 + i = 40 then _ else if 80 + i = 59 then _ else if 80 + i < 80 then _ else (tb (80 + i - 80)).2) = _
      rw [if_neg (by omega), if_neg (by omega), if_neg (by omega), if_neg (by omega), Nat.add_sub_cancel_left]
    rw [e1, e2]
    exact (htb i hi).2
  · have h1 := hts w hw
    cases w with
    | fieldLinkNest a b c d e f => exact va_Nw.of rfl h1
    | methodLinkNest a b c d => exact va_Nw.of rfl h1
    | arrayOver t =>
      cases t with
      | object C => exact va_AO.of h1
      | _ => cases hn
    | _ => cases hn
  · have e1 : zsa (zGs l s b L (fun j => (xs j).toInt) D (fun k => if k = 0 then c0 else if k = 1 then c1 else if k = 2 then c2 else if k = 3 then c3 else if k = 4 then c4 else c5) ta (fun k => (tb k).1) (fun k => (tb k).2) tf) (60 + i) = (tb i).1 := by
      show (if 60 + i < 12 then _ else if 60 + i = 40 then _ else if 60 + i = 59 then _ else if 60 + i < 80 then (tb (60 + i - 60)).1 else _) = _
      rw [if_neg (by omega), if_neg (by omega), if_neg (by omega), if_pos (by omega), Nat.add_sub_cancel_left]
    rw [e1]
    have w1 := (by decide +kernel : ∀ k : Fin 20, Cond.stringRef (zso k.val).1 (zso k.val).2.1 (zso k.val).2.2 ∈ lw_tbl) ⟨i, hi⟩
    exact vk_R.of (hts _ w1) (htb i hi).1
  · exact vx_Zqof (hts _ (List.mem_of_getElem? (i := 1242) (by decide +kernel))) (hts _ (List.mem_of_getElem? (i := 109) (by decide +kernel))) (hs (.isRef (.static Bundle.tN "UNASSIGNED_STACK" Bundle.steD)) (by decide +kernel)) hA
  · exact vx_Zqof (hts _ (List.mem_of_getElem? (i := 1244) (by decide +kernel))) (hts _ (List.mem_of_getElem? (i := 109) (by decide +kernel))) (hs (.isRef (.static Bundle.tN "SUPPRESSED_SENTINEL" Bundle.listD)) (by decide +kernel)) hA
  · intro w hw
    have w1 := (by decide +kernel : ∀ w ∈ zbad, w ∈ lw_tbl) w hw
    exact va_any (zbad_t w hw) (hts w w1)
end
