section
variable {G : zG} {ph : Bool} {p : Program} {e : Env} {R : Room} {s : State} {m : MethodId} {args : Array Value} {below : List Frame} {meth : Method} {c : Code} {Q : State → Prop} {cc : ByteArray} {own : String} {Ts : List Cond} {pc : Nat} {L L' : List (Option zV)} {st st' : List zV} {μ μ' : zM} {cn un : Nat}
theorem z_if_eq (A : zAm G p s m args c cc own Ts) {x : Int} {off : Int} {tgt : Nat} (d : decode cc pc = .ok (.ifCond .eq off, 3)) (ht : (pc : Int) + off = (tgt : Int)) (hx : zin x) (kt : x = 0 → zJd G ph p e R s m args below meth c Q tgt (L, st, μ, cn, un)) (kf : ¬ (x = 0) → zJd G ph p e R s m args below meth c Q (pc + 3) (L, st, μ, cn, un)) : zJd G ph p e R s m args below meth c Q pc (L, zI x :: st, μ, cn, un) := by
  refine s_if_eq A d ht (fun q => ?_) (fun q => ?_)
  · rw [zin_w hx] at q; exact kt q
  · rw [zin_w hx] at q; exact kf q
theorem z_icmp_eq (A : zAm G p s m args c cc own Ts) {x y : Int} {off : Int} {tgt : Nat} (d : decode cc pc = .ok (.if_icmp .eq off, 3)) (ht : (pc : Int) + off = (tgt : Int)) (hx : zin x) (hy : zin y) (kt : x = y → zJd G ph p e R s m args below meth c Q tgt (L, st, μ, cn, un)) (kf : ¬ (x = y) → zJd G ph p e R s m args below meth c Q (pc + 3) (L, st, μ, cn, un)) : zJd G ph p e R s m args below meth c Q pc (L, zI y :: zI x :: st, μ, cn, un) := by
  refine s_icmp_eq A d ht (fun q => ?_) (fun q => ?_)
  · rw [zin_w hx, zin_w hy] at q; exact kt q
  · rw [zin_w hx, zin_w hy] at q; exact kf q
theorem z_lc_eq (A : zAm G p s m args c cc own Ts) {x y : Int} {off : Int} {tgt : Nat} (d : decode cc pc = .ok (.lcmp, 1)) (d2 : decode cc (pc + 1) = .ok (.ifCond .eq off, 3)) (ht : (pc : Int) + 1 + off = (tgt : Int)) (hx : zin64 x) (hy : zin64 y) (kt : x = y → zJd G ph p e R s m args below meth c Q tgt (L, st, μ, cn, un)) (kf : ¬ (x = y) → zJd G ph p e R s m args below meth c Q (pc + 4) (L, st, μ, cn, un)) : zJd G ph p e R s m args below meth c Q pc (L, zL y :: zL x :: st, μ, cn, un) := by
  have e1 : zw (zlcmp x y) = if y < x then 1 else if x = y then 0 else -1 := by
    unfold zlcmp
    rw [zin_w64 hx, zin_w64 hy]
    split
    · rfl
    · split <;> rfl
  refine s_lcmp A d (s_if_eq A d2 (by omega) (fun q => kt ?_) (fun q => kf ?_)) <;> (rw [e1] at q; split at q <;> (try split at q) <;> omega)
theorem z_if_ne (A : zAm G p s m args c cc own Ts) {x : Int} {off : Int} {tgt : Nat} (d : decode cc pc = .ok (.ifCond .ne off, 3)) (ht : (pc : Int) + off = (tgt : Int)) (hx : zin x) (kt : ¬ x = 0 → zJd G ph p e R s m args below meth c Q tgt (L, st, μ, cn, un)) (kf : x = 0 → zJd G ph p e R s m args below meth c Q (pc + 3) (L, st, μ, cn, un)) : zJd G ph p e R s m args below meth c Q pc (L, zI x :: st, μ, cn, un) := by
  refine s_if_ne A d ht (fun q => ?_) (fun q => ?_)
  · rw [zin_w hx] at q; exact kt q
  · rw [zin_w hx] at q; exact kf q
theorem z_icmp_ne (A : zAm G p s m args c cc own Ts) {x y : Int} {off : Int} {tgt : Nat} (d : decode cc pc = .ok (.if_icmp .ne off, 3)) (ht : (pc : Int) + off = (tgt : Int)) (hx : zin x) (hy : zin y) (kt : ¬ x = y → zJd G ph p e R s m args below meth c Q tgt (L, st, μ, cn, un)) (kf : x = y → zJd G ph p e R s m args below meth c Q (pc + 3) (L, st, μ, cn, un)) : zJd G ph p e R s m args below meth c Q pc (L, zI y :: zI x :: st, μ, cn, un) := by
  refine s_icmp_ne A d ht (fun q => ?_) (fun q => ?_)
  · rw [zin_w hx, zin_w hy] at q; exact kt q
  · rw [zin_w hx, zin_w hy] at q; exact kf q
theorem z_lc_ne (A : zAm G p s m args c cc own Ts) {x y : Int} {off : Int} {tgt : Nat} (d : decode cc pc = .ok (.lcmp, 1)) (d2 : decode cc (pc + 1) = .ok (.ifCond .ne off, 3)) (ht : (pc : Int) + 1 + off = (tgt : Int)) (hx : zin64 x) (hy : zin64 y) (kt : ¬ x = y → zJd G ph p e R s m args below meth c Q tgt (L, st, μ, cn, un)) (kf : x = y → zJd G ph p e R s m args below meth c Q (pc + 4) (L, st, μ, cn, un)) : zJd G ph p e R s m args below meth c Q pc (L, zL y :: zL x :: st, μ, cn, un) := by
  have e1 : zw (zlcmp x y) = if y < x then 1 else if x = y then 0 else -1 := by
    unfold zlcmp
    rw [zin_w64 hx, zin_w64 hy]
    split
    · rfl
    · split <;> rfl
  refine s_lcmp A d (s_if_ne A d2 (by omega) (fun q => kt ?_) (fun q => kf ?_)) <;> (rw [e1] at q; split at q <;> (try split at q) <;> omega)
theorem z_if_lt (A : zAm G p s m args c cc own Ts) {x : Int} {off : Int} {tgt : Nat} (d : decode cc pc = .ok (.ifCond .lt off, 3)) (ht : (pc : Int) + off = (tgt : Int)) (hx : zin x) (kt : x < 0 → zJd G ph p e R s m args below meth c Q tgt (L, st, μ, cn, un)) (kf : ¬ (x < 0) → zJd G ph p e R s m args below meth c Q (pc + 3) (L, st, μ, cn, un)) : zJd G ph p e R s m args below meth c Q pc (L, zI x :: st, μ, cn, un) := by
  refine s_if_lt A d ht (fun q => ?_) (fun q => ?_)
  · rw [zin_w hx] at q; exact kt q
  · rw [zin_w hx] at q; exact kf q
theorem z_icmp_lt (A : zAm G p s m args c cc own Ts) {x y : Int} {off : Int} {tgt : Nat} (d : decode cc pc = .ok (.if_icmp .lt off, 3)) (ht : (pc : Int) + off = (tgt : Int)) (hx : zin x) (hy : zin y) (kt : x < y → zJd G ph p e R s m args below meth c Q tgt (L, st, μ, cn, un)) (kf : ¬ (x < y) → zJd G ph p e R s m args below meth c Q (pc + 3) (L, st, μ, cn, un)) : zJd G ph p e R s m args below meth c Q pc (L, zI y :: zI x :: st, μ, cn, un) := by
  refine s_icmp_lt A d ht (fun q => ?_) (fun q => ?_)
  · rw [zin_w hx, zin_w hy] at q; exact kt q
  · rw [zin_w hx, zin_w hy] at q; exact kf q
theorem z_lc_lt (A : zAm G p s m args c cc own Ts) {x y : Int} {off : Int} {tgt : Nat} (d : decode cc pc = .ok (.lcmp, 1)) (d2 : decode cc (pc + 1) = .ok (.ifCond .lt off, 3)) (ht : (pc : Int) + 1 + off = (tgt : Int)) (hx : zin64 x) (hy : zin64 y) (kt : x < y → zJd G ph p e R s m args below meth c Q tgt (L, st, μ, cn, un)) (kf : ¬ (x < y) → zJd G ph p e R s m args below meth c Q (pc + 4) (L, st, μ, cn, un)) : zJd G ph p e R s m args below meth c Q pc (L, zL y :: zL x :: st, μ, cn, un) := by
  have e1 : zw (zlcmp x y) = if y < x then 1 else if x = y then 0 else -1 := by
    unfold zlcmp
    rw [zin_w64 hx, zin_w64 hy]
    split
    · rfl
    · split <;> rfl
  refine s_lcmp A d (s_if_lt A d2 (by omega) (fun q => kt ?_) (fun q => kf ?_)) <;> (rw [e1] at q; split at q <;> (try split at q) <;> omega)
theorem z_if_ge (A : zAm G p s m args c cc own Ts) {x : Int} {off : Int} {tgt : Nat} (d : decode cc pc = .ok (.ifCond .ge off, 3)) (ht : (pc : Int) + off = (tgt : Int)) (hx : zin x) (kt : 0 ≤ x → zJd G ph p e R s m args below meth c Q tgt (L, st, μ, cn, un)) (kf : ¬ (0 ≤ x) → zJd G ph p e R s m args below meth c Q (pc + 3) (L, st, μ, cn, un)) : zJd G ph p e R s m args below meth c Q pc (L, zI x :: st, μ, cn, un) := by
  refine s_if_ge A d ht (fun q => ?_) (fun q => ?_)
  · rw [zin_w hx] at q; exact kt q
  · rw [zin_w hx] at q; exact kf q
theorem z_icmp_ge (A : zAm G p s m args c cc own Ts) {x y : Int} {off : Int} {tgt : Nat} (d : decode cc pc = .ok (.if_icmp .ge off, 3)) (ht : (pc : Int) + off = (tgt : Int)) (hx : zin x) (hy : zin y) (kt : y ≤ x → zJd G ph p e R s m args below meth c Q tgt (L, st, μ, cn, un)) (kf : ¬ (y ≤ x) → zJd G ph p e R s m args below meth c Q (pc + 3) (L, st, μ, cn, un)) : zJd G ph p e R s m args below meth c Q pc (L, zI y :: zI x :: st, μ, cn, un) := by
  refine s_icmp_ge A d ht (fun q => ?_) (fun q => ?_)
  · rw [zin_w hx, zin_w hy] at q; exact kt q
  · rw [zin_w hx, zin_w hy] at q; exact kf q
theorem z_lc_ge (A : zAm G p s m args c cc own Ts) {x y : Int} {off : Int} {tgt : Nat} (d : decode cc pc = .ok (.lcmp, 1)) (d2 : decode cc (pc + 1) = .ok (.ifCond .ge off, 3)) (ht : (pc : Int) + 1 + off = (tgt : Int)) (hx : zin64 x) (hy : zin64 y) (kt : y ≤ x → zJd G ph p e R s m args below meth c Q tgt (L, st, μ, cn, un)) (kf : ¬ (y ≤ x) → zJd G ph p e R s m args below meth c Q (pc + 4) (L, st, μ, cn, un)) : zJd G ph p e R s m args below meth c Q pc (L, zL y :: zL x :: st, μ, cn, un) := by
  have e1 : zw (zlcmp x y) = if y < x then 1 else if x = y then 0 else -1 := by
    unfold zlcmp
    rw [zin_w64 hx, zin_w64 hy]
    split
    · rfl
    · split <;> rfl
  refine s_lcmp A d (s_if_ge A d2 (by omega) (fun q => kt ?_) (fun q => kf ?_)) <;> (rw [e1] at q; split at q <;> (try split at q) <;> omega)
theorem z_if_gt (A : zAm G p s m args c cc own Ts) {x : Int} {off : Int} {tgt : Nat} (d : decode cc pc = .ok (.ifCond .gt off, 3)) (ht : (pc : Int) + off = (tgt : Int)) (hx : zin x) (kt : 0 < x → zJd G ph p e R s m args below meth c Q tgt (L, st, μ, cn, un)) (kf : ¬ (0 < x) → zJd G ph p e R s m args below meth c Q (pc + 3) (L, st, μ, cn, un)) : zJd G ph p e R s m args below meth c Q pc (L, zI x :: st, μ, cn, un) := by
  refine s_if_gt A d ht (fun q => ?_) (fun q => ?_)
  · rw [zin_w hx] at q; exact kt q
  · rw [zin_w hx] at q; exact kf q
theorem z_icmp_gt (A : zAm G p s m args c cc own Ts) {x y : Int} {off : Int} {tgt : Nat} (d : decode cc pc = .ok (.if_icmp .gt off, 3)) (ht : (pc : Int) + off = (tgt : Int)) (hx : zin x) (hy : zin y) (kt : y < x → zJd G ph p e R s m args below meth c Q tgt (L, st, μ, cn, un)) (kf : ¬ (y < x) → zJd G ph p e R s m args below meth c Q (pc + 3) (L, st, μ, cn, un)) : zJd G ph p e R s m args below meth c Q pc (L, zI y :: zI x :: st, μ, cn, un) := by
  refine s_icmp_gt A d ht (fun q => ?_) (fun q => ?_)
  · rw [zin_w hx, zin_w hy] at q; exact kt q
  · rw [zin_w hx, zin_w hy] at q; exact kf q
theorem z_lc_gt (A : zAm G p s m args c cc own Ts) {x y : Int} {off : Int} {tgt : Nat} (d : decode cc pc = .ok (.lcmp, 1)) (d2 : decode cc (pc + 1) = .ok (.ifCond .gt off, 3)) (ht : (pc : Int) + 1 + off = (tgt : Int)) (hx : zin64 x) (hy : zin64 y) (kt : y < x → zJd G ph p e R s m args below meth c Q tgt (L, st, μ, cn, un)) (kf : ¬ (y < x) → zJd G ph p e R s m args below meth c Q (pc + 4) (L, st, μ, cn, un)) : zJd G ph p e R s m args below meth c Q pc (L, zL y :: zL x :: st, μ, cn, un) := by
  have e1 : zw (zlcmp x y) = if y < x then 1 else if x = y then 0 else -1 := by
    unfold zlcmp
    rw [zin_w64 hx, zin_w64 hy]
    split
    · rfl
    · split <;> rfl
  refine s_lcmp A d (s_if_gt A d2 (by omega) (fun q => kt ?_) (fun q => kf ?_)) <;> (rw [e1] at q; split at q <;> (try split at q) <;> omega)
theorem z_if_le (A : zAm G p s m args c cc own Ts) {x : Int} {off : Int} {tgt : Nat} (d : decode cc pc = .ok (.ifCond .le off, 3)) (ht : (pc : Int) + off = (tgt : Int)) (hx : zin x) (kt : x ≤ 0 → zJd G ph p e R s m args below meth c Q tgt (L, st, μ, cn, un)) (kf : ¬ (x ≤ 0) → zJd G ph p e R s m args below meth c Q (pc + 3) (L, st, μ, cn, un)) : zJd G ph p e R s m args below meth c Q pc (L, zI x :: st, μ, cn, un) := by
  refine s_if_le A d ht (fun q => ?_) (fun q => ?_)
  · rw [zin_w hx] at q; exact kt q
  · rw [zin_w hx] at q; exact kf q
theorem z_icmp_le (A : zAm G p s m args c cc own Ts) {x y : Int} {off : Int} {tgt : Nat} (d : decode cc pc = .ok (.if_icmp .le off, 3)) (ht : (pc : Int) + off = (tgt : Int)) (hx : zin x) (hy : zin y) (kt : x ≤ y → zJd G ph p e R s m args below meth c Q tgt (L, st, μ, cn, un)) (kf : ¬ (x ≤ y) → zJd G ph p e R s m args below meth c Q (pc + 3) (L, st, μ, cn, un)) : zJd G ph p e R s m args below meth c Q pc (L, zI y :: zI x :: st, μ, cn, un) := by
  refine s_icmp_le A d ht (fun q => ?_) (fun q => ?_)
  · rw [zin_w hx, zin_w hy] at q; exact kt q
  · rw [zin_w hx, zin_w hy] at q; exact kf q
theorem z_lc_le (A : zAm G p s m args c cc own Ts) {x y : Int} {off : Int} {tgt : Nat} (d : decode cc pc = .ok (.lcmp, 1)) (d2 : decode cc (pc + 1) = .ok (.ifCond .le off, 3)) (ht : (pc : Int) + 1 + off = (tgt : Int)) (hx : zin64 x) (hy : zin64 y) (kt : x ≤ y → zJd G ph p e R s m args below meth c Q tgt (L, st, μ, cn, un)) (kf : ¬ (x ≤ y) → zJd G ph p e R s m args below meth c Q (pc + 4) (L, st, μ, cn, un)) : zJd G ph p e R s m args below meth c Q pc (L, zL y :: zL x :: st, μ, cn, un) := by
  have e1 : zw (zlcmp x y) = if y < x then 1 else if x = y then 0 else -1 := by
    unfold zlcmp
    rw [zin_w64 hx, zin_w64 hy]
    split
    · rfl
    · split <;> rfl
  refine s_lcmp A d (s_if_le A d2 (by omega) (fun q => kt ?_) (fun q => kf ?_)) <;> (rw [e1] at q; split at q <;> (try split at q) <;> omega)
theorem z_mmax (A : zAm G p s m args c cc own Ts) {index : Nat} {x y : Int} (d : decode cc pc = .ok (.invokestatic index, 3)) (hw : Cond.methodLink own index Lib.Math.max.name ∈ Ts) (hw2 : Cond.static Lib.Math.max.name ∈ Ts) (hw3 : Cond.initialized "java/lang/Math" ∈ Ts) (hw4 : Cond.code Lib.Math.max.name Lib.Math.max.code 2 (some .int) ∈ Ts) (hfr : 1 ≤ R.frames) (hlo : (st.map zcat).sum + 13 ≤ R.locals) (hcs : cn ≤ R.cells ∧ un ≤ R.slots) (hx : zin x) (hy : zin y) (k9 : zJd G ph p e R s m args below meth c Q (pc + 3) (L, zI (max x y) :: st, μ, cn, un)) : zJd G ph p e R s m args below meth c Q pc (L, zI y :: zI x :: st, μ, cn, un) := by
  refine s_mmax A d hw hw2 hw3 hw4 hfr hlo hcs ?_
  rw [zin_w hx, zin_w hy]
  have e1 : (if x < y then y else x) = max x y := by split <;> omega
  rw [e1]
  exact k9
theorem z_mmin (A : zAm G p s m args c cc own Ts) {index : Nat} {x y : Int} (d : decode cc pc = .ok (.invokestatic index, 3)) (hw : Cond.methodLink own index Lib.Math.min.name ∈ Ts) (hw2 : Cond.static Lib.Math.min.name ∈ Ts) (hw3 : Cond.initialized "java/lang/Math" ∈ Ts) (hw4 : Cond.code Lib.Math.min.name Lib.Math.min.code 2 (some .int) ∈ Ts) (hfr : 1 ≤ R.frames) (hlo : (st.map zcat).sum + 13 ≤ R.locals) (hcs : cn ≤ R.cells ∧ un ≤ R.slots) (hx : zin x) (hy : zin y) (k9 : zJd G ph p e R s m args below meth c Q (pc + 3) (L, zI (min x y) :: st, μ, cn, un)) : zJd G ph p e R s m args below meth c Q pc (L, zI y :: zI x :: st, μ, cn, un) := by
  refine s_mmin A d hw hw2 hw3 hw4 hfr hlo hcs ?_
  rw [zin_w hx, zin_w hy]
  have e1 : (if y < x then y else x) = min x y := by split <;> omega
  rw [e1]
  exact k9
theorem z_mabs (A : zAm G p s m args c cc own Ts) {index : Nat} {x : Int} (d : decode cc pc = .ok (.invokestatic index, 3)) (hw : Cond.methodLink own index Lib.Math.abs.name ∈ Ts) (hw2 : Cond.static Lib.Math.abs.name ∈ Ts) (hw3 : Cond.initialized "java/lang/Math" ∈ Ts) (hw4 : Cond.code Lib.Math.abs.name Lib.Math.abs.code 1 (some .int) ∈ Ts) (hfr : 1 ≤ R.frames) (hlo : (st.map zcat).sum + 13 ≤ R.locals) (hcs : cn ≤ R.cells ∧ un ≤ R.slots) (hx : zin x) (k9 : zJd G ph p e R s m args below meth c Q (pc + 3) (L, zI (max x (-x)) :: st, μ, cn, un)) : zJd G ph p e R s m args below meth c Q pc (L, zI x :: st, μ, cn, un) := by
  refine s_mabs A d hw hw2 hw3 hw4 hfr hlo hcs ?_
  rw [zin_w hx]
  have e1 : (if 0 ≤ x then x else -x) = max x (-x) := by split <;> omega
  rw [e1]
  exact k9
def ztg (pc : Nat) (dflt lo hi : Int) (offs : Array Int) (x : Int) (tgt : Nat) : Prop := (lo ≤ x ∧ x ≤ hi ∧ offs[(x - lo).toNat]? = some ((tgt : Int) - pc)) ∨ ((x < lo ∨ hi < x) ∧ (tgt : Int) = pc + dflt)
theorem z_tsw (A : zAm G p s m args c cc own Ts) {dflt lo hi : Int} {offs : Array Int} {len : Nat} {x : Int} (d : decode cc pc = .ok (.tableswitch dflt lo hi offs, len)) (hx : zin x) (hok : ∀ i : Nat, i < (hi - lo).toNat + 1 → i < offs.size ∧ 0 ≤ offs.getD i 0 + (pc : Int)) (hd : ∃ t : Nat, (t : Int) = pc + dflt) (h : ∀ tgt, ztg pc dflt lo hi offs x tgt → zJd G ph p e R s m args below meth c Q tgt (L, st, μ, cn, un)) : zJd G ph p e R s m args below meth c Q pc (L, zI x :: st, μ, cn, un) := by
  intro H locs ls hl hh hS
  have ex : (Int32.ofInt x).toInt = x := by rw [z_toInt, zin_w hx]
  by_cases h1 : x < lo ∨ hi < x
  · obtain ⟨t, ht⟩ := hd
    exact lv_tableOut A.1 A.2.1 d (by rw [ex]; exact h1) ht.symm (h t (Or.inr ⟨h1, ht⟩) H locs ls hl hh hS)
  · obtain ⟨h2, h3⟩ := hok (x - lo).toNat (by omega)
    obtain ⟨t, ht⟩ : ∃ t : Nat, offs[(x - lo).toNat]? = some ((t : Int) - pc) := by
      refine ⟨(offs.getD (x - lo).toNat 0 + (pc : Int)).toNat, ?_⟩
      rw [Int.toNat_of_nonneg h3, Array.getD_eq_getD_getElem?, Array.getElem?_eq_getElem h2]
      simp
    exact lv_tableIn A.1 A.2.1 d (by rw [ex]; omega) (by rw [ex]; omega) (by rw [ex]; exact ht) (by omega) (h t (Or.inl ⟨by omega, by omega, ht⟩) H locs ls hl hh hS)
theorem ztg_in {pc : Nat} {dflt lo hi : Int} {offs : Array Int} {x : Int} {tgt t : Nat} (h : ztg pc dflt lo hi offs x tgt) (v : Int) (hv : x = v) (hr : lo ≤ v ∧ v ≤ hi) (ho : offs[(v - lo).toNat]? = some ((t : Int) - pc)) : tgt = t := by
  subst hv
  rcases h with ⟨-, -, q⟩ | ⟨q, -⟩
  · have := Option.some.inj (ho.symm.trans q); omega
  · omega
theorem ztg_out {pc : Nat} {dflt lo hi : Int} {offs : Array Int} {x : Int} {tgt t : Nat} (h : ztg pc dflt lo hi offs x tgt) (hv : x < lo ∨ hi < x) (ho : (t : Int) = pc + dflt) : tgt = t := by
  rcases h with ⟨h1, h2, -⟩ | ⟨-, q⟩ <;> omega
theorem z_lsw (A : zAm G p s m args c cc own Ts) {dflt : Int} {ps : Array (Int × Int)} {len : Nat} {x : Int} (d : decode cc pc = .ok (.lookupswitch dflt ps, len)) (hx : zin x) (hp : (ps.toList.zip (ps.toList.drop 1)).all (fun (a, next) => a.1 < next.1) = true) {tgt : Nat} (ht : (pc : Int) + Op.lookupswitch.offset ps.toList dflt x = (tgt : Int)) (k9 : zJd G ph p e R s m args below meth c Q tgt (L, st, μ, cn, un)) : zJd G ph p e R s m args below meth c Q pc (L, zI x :: st, μ, cn, un) := by
  intro H locs ls hl hh hS
  have ex : (Int32.ofInt x).toInt = x := by rw [z_toInt, zin_w hx]
  exact lv_lookup A.1 A.2.1 d hp rfl (by rw [ex]; exact ht) (k9 H locs ls hl hh hS)
theorem z_andm (x : Int) {m : Int} (k M : Nat) (hM : 2 ^ k = M) (hk : M < 2147483648) (hm : (Int32.ofInt m).toBitVec.toNat = 2 ^ k - 1) : zand x m = ((x % 4294967296).toNat % M : Nat) := by
  unfold zand
  rw [pk_and (Int32.ofInt x) k hm, hM]
  have e : (Int32.ofInt x).toBitVec.toNat = (x % 4294967296).toNat := by
    rw [Int32.toBitVec_ofInt, BitVec.toNat_ofInt]
    rfl
  rw [e]
  have h0 : 0 < M := by rw [← hM]; exact Nat.two_pow_pos k
  exact nI_toInt (Nat.lt_trans (Nat.mod_lt _ h0) hk)
theorem z_and1 (x : Int) : zand x 1 = x % 2 := by rw [z_andm x 1 2 rfl (by decide) rfl]; omega
theorem z_and63 (x : Int) : zand x 63 = x % 64 := by rw [z_andm x 6 64 rfl (by decide) rfl]; omega
theorem z_and255 (x : Int) : zand x 255 = x % 256 := by rw [z_andm x 8 256 rfl (by decide) rfl]; omega
theorem z_iand1 (A : zAm G p s m args c cc own Ts) {x : Int} (d : decode cc pc = .ok (.iand, 1)) (k9 : zJd G ph p e R s m args below meth c Q (pc + 1) (L, zI (x % 2) :: st, μ, cn, un)) : zJd G ph p e R s m args below meth c Q pc (L, zI 1 :: zI x :: st, μ, cn, un) := s_iand A d (by rw [z_and1]; exact k9)
theorem z_iand63 (A : zAm G p s m args c cc own Ts) {x : Int} (d : decode cc pc = .ok (.iand, 1)) (k9 : zJd G ph p e R s m args below meth c Q (pc + 1) (L, zI (x % 64) :: st, μ, cn, un)) : zJd G ph p e R s m args below meth c Q pc (L, zI 63 :: zI x :: st, μ, cn, un) := s_iand A d (by rw [z_and63]; exact k9)
theorem z_iand255 (A : zAm G p s m args c cc own Ts) {x : Int} (d : decode cc pc = .ok (.iand, 1)) (k9 : zJd G ph p e R s m args below meth c Q (pc + 1) (L, zI (x % 256) :: st, μ, cn, un)) : zJd G ph p e R s m args below meth c Q pc (L, zI 255 :: zI x :: st, μ, cn, un) := s_iand A d (by rw [z_and255]; exact k9)
end
