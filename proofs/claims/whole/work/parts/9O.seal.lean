/-! what is made once stands from now on -/
theorem zcell_q {cA : ClassId} {n : Nat} {f g : Nat → Option Nat} (h : ∀ j, j < n → f j = g j) : vp_cell cA (n, .inr (.inr (.inr (.inr f)))) = vp_cell cA (n, .inr (.inr (.inr (.inr g)))) := by
  rw [vp_cell_q, vp_cell_q]
  unfold arrV
  have e : (fun j : Fin n => va_rf (f j.val)) = fun j : Fin n => va_rf (g j.val) := funext fun j => by rw [h j.val j.isLt]
  show ({ cls := cA, slots := Array.ofFn fun j : Fin n => va_rf (f j.val) } : Cell) = { cls := cA, slots := Array.ofFn fun j : Fin n => va_rf (g j.val) }
  rw [e]
theorem zfv_seal {G : zG} {μ : zM} {a k j : Nat} (h : ∀ d, zoff k j = some d → zr μ a j = some (a + d)) : zfv G μ a true k j = zfv G μ a false k j := by
  unfold zfv
  generalize zft k j = t
  match t with
  | 0 => rfl
  | 1 => rfl
  | t + 2 =>
    show va_rf (Option.map (zad G) (match true, zoff k j with | true, some d => some (a + d) | _, _ => zr μ a j)) = va_rf (Option.map (zad G) (zr μ a j))
    cases ho : zoff k j with
    | none => rfl
    | some d => rw [h d ho]
theorem zsl_kinds : ∀ a : Fin 182, zsTab a.val = zsTabR a.val ∨ ((zsTabR a.val).1 < 12 ∧ zsTab a.val = ((zsTabR a.val).1 + 20, (zsTabR a.val).2)) ∨ a.val = 14 ∨ a.val = 103 := by decide +kernel
theorem zsl_objs : ∀ a : Fin 182, (zsTabR a.val).1 < 12 → (zsTabR a.val).1 = 3 ∨ a.val = 0 ∨ a.val = 1 ∨ a.val = 3 ∨ a.val = 5 ∨ a.val = 13 ∨ (15 ≤ a.val ∧ a.val ≤ 95 ∧ (a.val - 15) % 8 = 0) ∨ a.val = 105 ∨ a.val = 111 ∨ a.val = 119 ∨ a.val = 125 ∨ a.val = 128 ∨ a.val = 130 ∨ a.val = 137 ∨ a.val = 145 ∨ a.val = 153 := by decide +kernel
theorem zoff_10 : ∀ j : Fin 15, zoff 10 j.val = zex0 j.val := by decide +kernel
theorem zoff_11 : ∀ j : Fin 45, ∀ d : Fin 28, zoff 11 j.val = some d.val → ∃ k : Fin 27, zfld k.val = (j.val : Int) ∧ d.val = k.val + 1 := by decide +kernel
theorem zoff_11b : ∀ j : Fin 45, zoff 11 j.val = none ∨ ∃ d : Fin 28, zoff 11 j.val = some d.val := by decide +kernel
theorem zoff_7 : ∀ j : Fin 9, zoff 7 j.val = if j.val < 6 then some (j.val + 1) else none := by decide +kernel
theorem zoff_0 : ∀ j : Fin 5, zoff 0 j.val = some (j.val + 1) := by decide +kernel
theorem zoff_5 : ∀ j : Fin 3, zoff 5 j.val = some (j.val + 1) := by decide +kernel
theorem zoff_4 : ∀ j : Fin 9, zoff 4 j.val = if j.val = 0 then some 1 else if j.val = 4 then some 2 else none := by decide +kernel
theorem zoff_1 : ∀ j : Fin 3, zoff 1 j.val = if j.val = 0 then some 1 else none := by decide +kernel
theorem zoff_6 : ∀ j : Fin 2, (zoff 6 j.val = if j.val = 0 then some 1 else none) ∧ (zoff 9 j.val = if j.val = 0 then some 1 else none) := by decide +kernel
theorem zoff_2 : zoff 2 0 = some 1 := rfl
/-- the references that are known by their places -/
def zsld (μ : zM) : Prop := (∀ a, a < 182 → (zsTabR a).1 < 12 → ∀ j, j < (zsTabR a).2 → ∀ d, zoff (zsTabR a).1 j = some d → zr μ a j = some (a + d)) ∧ (∀ v : Nat, v < 11 → zr μ 14 v = some (15 + 8 * v)) ∧ ∀ v : Nat, v < 2 → zr μ 103 v = some (137 + 8 * v)
theorem zsTabR_st : ∀ v : Fin 11, zsTabR (15 + 8 * v.val) = (7, 9) := by decide +kernel
theorem zmade_sld {μ : zM} (h : zmade μ) (h2 : ∀ k : Nat, k < 27 → zr μ 153 (zfld k) = some (154 + k)) : zsld μ := by
  obtain ⟨a0, a1, a3, a5, a13, a15, a105, a111, a119, a125, a125b, a128, a130, a137, -⟩ := h
  refine ⟨fun a ha hk j hj d hd => ?_, fun v hv => (a15 v hv).1, fun v hv => (a137 v hv).1⟩
  have st : ∀ b : Nat, zsTabR b = (7, 9) → (∀ j : Nat, j < 6 → zr μ b j = some (b + 1 + j)) → a = b → zr μ a j = some (a + d) := by
    intro b hb hs e
    subst e
    rw [hb] at hj hd
    have := zoff_7 ⟨j, hj⟩
    have this : zoff 7 j = if j < 6 then some (j + 1) else none := this
    have hd : zoff 7 j = some d := hd
    rw [this] at hd
    by_cases c : j < 6
    · rw [if_pos c] at hd
      injection hd with hd
      rw [hs j c, ← hd]
      congr 1; omega
    · rw [if_neg c] at hd; cases hd
  rcases zsl_objs ⟨a, ha⟩ hk with c | c | c | c | c | c | c | c | c | c | c | c | c | c | c | c
  · have c : (zsTabR a).1 = 3 := c
    rw [c] at hd
    cases hd
  · have c : a = 0 := c
    subst c
    have t : zsTabR 0 = (10, 15) := by decide +kernel
    rw [t] at hj hd
    have e := zoff_10 ⟨j, hj⟩
    have e : zoff 10 j = zex0 j := e
    have hd : zoff 10 j = some d := hd
    rw [a0 j hj, ← e, hd, Nat.zero_add]
  · have c : a = 1 := c
    subst c
    have t : zsTabR 1 = (9, 2) := by decide +kernel
    rw [t] at hj hd
    have e := (zoff_6 ⟨j, hj⟩).2
    have e : zoff 9 j = if j = 0 then some 1 else none := e
    have hd : zoff 9 j = some d := hd
    rw [e] at hd
    by_cases c : j = 0
    · rw [if_pos c] at hd; injection hd with hd
      rw [c, ← hd]; exact a1
    · rw [if_neg c] at hd; cases hd
  · have c : a = 3 := c
    subst c
    have t : zsTabR 3 = (6, 2) := by decide +kernel
    rw [t] at hj hd
    have e := (zoff_6 ⟨j, hj⟩).1
    have e : zoff 6 j = if j = 0 then some 1 else none := e
    have hd : zoff 6 j = some d := hd
    rw [e] at hd
    by_cases c : j = 0
    · rw [if_pos c] at hd; injection hd with hd
      rw [c, ← hd]; exact a3
    · rw [if_neg c] at hd; cases hd
  · exact st 5 (by decide +kernel) a5.2.2.2.2.2.2.2.2.2.2.1 c
  · have c : a = 13 := c
    subst c
    have t : zsTabR 13 = (1, 3) := by decide +kernel
    rw [t] at hj hd
    have e := zoff_1 ⟨j, hj⟩
    have e : zoff 1 j = if j = 0 then some 1 else none := e
    have hd : zoff 1 j = some d := hd
    rw [e] at hd
    by_cases c : j = 0
    · rw [if_pos c] at hd; injection hd with hd
      rw [c, ← hd]; exact a13
    · rw [if_neg c] at hd; cases hd
  · have c : 15 ≤ a ∧ a ≤ 95 ∧ (a - 15) % 8 = 0 := c
    have e : a = 15 + 8 * ((a - 15) / 8) := by omega
    exact st (15 + 8 * ((a - 15) / 8)) (zsTabR_st ⟨(a - 15) / 8, by omega⟩) (a15 ((a - 15) / 8) (by omega)).2 e
  · have c : a = 105 := c
    subst c
    have t : zsTabR 105 = (0, 5) := by decide +kernel
    rw [t] at hj hd
    have e := zoff_0 ⟨j, hj⟩
    have e : zoff 0 j = some (j + 1) := e
    have hd : zoff 0 j = some d := hd
    rw [e] at hd; injection hd with hd
    rw [a105 j hj, ← hd]; congr 1; omega
  · exact st 111 (by decide +kernel) a111 c
  · have c : a = 119 := c
    subst c
    have t : zsTabR 119 = (0, 5) := by decide +kernel
    rw [t] at hj hd
    have e := zoff_0 ⟨j, hj⟩
    have e : zoff 0 j = some (j + 1) := e
    have hd : zoff 0 j = some d := hd
    rw [e] at hd; injection hd with hd
    rw [a119 j hj, ← hd]; congr 1; omega
  · have c : a = 125 := c
    subst c
    have t : zsTabR 125 = (4, 9) := by decide +kernel
    rw [t] at hj hd
    have e := zoff_4 ⟨j, hj⟩
    have e : zoff 4 j = if j = 0 then some 1 else if j = 4 then some 2 else none := e
    have hd : zoff 4 j = some d := hd
    rw [e] at hd
    by_cases c : j = 0
    · rw [if_pos c] at hd; injection hd with hd
      rw [c, ← hd]; exact a125
    · rw [if_neg c] at hd
      by_cases c4 : j = 4
      · rw [if_pos c4] at hd; injection hd with hd
        rw [c4, ← hd]; exact a125b
      · rw [if_neg c4] at hd; cases hd
  · have c : a = 128 := c
    subst c
    have t : zsTabR 128 = (2, 1) := by decide +kernel
    rw [t] at hj hd
    have e : j = 0 := by have hj : j < 1 := hj; omega
    subst e
    have hd : zoff 2 0 = some d := hd
    rw [zoff_2] at hd; injection hd with hd
    rw [← hd]; exact a128
  · have c : a = 130 := c
    subst c
    have t : zsTabR 130 = (5, 3) := by decide +kernel
    rw [t] at hj hd
    have e := zoff_5 ⟨j, hj⟩
    have e : zoff 5 j = some (j + 1) := e
    have hd : zoff 5 j = some d := hd
    rw [e] at hd; injection hd with hd
    rw [a130 j hj, ← hd]; congr 1; omega
  · exact st 137 (by decide +kernel) (a137 0 (by decide)).2 c
  · exact st 145 (by decide +kernel) (a137 1 (by decide)).2 c
  · have c : a = 153 := c
    subst c
    have t : zsTabR 153 = (11, 45) := by decide +kernel
    rw [t] at hj hd
    have hd : zoff 11 j = some d := hd
    rcases zoff_11b ⟨j, hj⟩ with e | ⟨d', e⟩
    · have e : zoff 11 j = none := e
      rw [e] at hd; cases hd
    · have e1 : zoff 11 j = some d'.val := e
      rw [e1] at hd; injection hd with hd
      obtain ⟨k, k1, k2⟩ := zoff_11 ⟨j, hj⟩ d' e
      have k1 : zfld k.val = (j : Int) := k1
      have := h2 k.val k.isLt
      rw [k1] at this
      rw [this, ← hd, k2]; congr 1; omega
theorem zH_seal {G : zG} {μ : zM} {H : Heap} (hn : zn μ = 182) (hs : zsld μ) (h : zH G false μ H) : zH G true μ H := by
  obtain ⟨h1, h2, h3, h4, -⟩ := h
  obtain ⟨s1, s2, s3⟩ := hs
  -- the same addresses
  have ad : ∀ (k : Nat) (q : Nat × va_E), (zW G true μ)[k]? = some q → k < 182 ∧ q = (zad G k, zcell G true μ k) := fun k q hq => by
    have hk : k < zn μ := by
      have := (List.getElem?_eq_some_iff.mp hq).1
      rw [zW_len] at this; exact this
    rw [zW_get hk] at hq
    injection hq with hq
    exact ⟨by omega, hq.symm⟩
  have fe : ∀ k, k < 182 → (zW G false μ)[k]? = some (zad G k, zcell G false μ k) := fun k hk => zW_get (by omega)
  refine ⟨fun k q hq => ?_, ⟨fun i j p q hp hq e => ?_, fun k q hq => ?_⟩, h3, h4, fun _ => by omega⟩
  · obtain ⟨hk, rfl⟩ := ad k q hq
    have h0 := h1 k _ (fe k hk)
    have eT : zs true μ k = zsTab k := by unfold zs; rw [if_pos hk]; rfl
    have eF : zs false μ k = zsTabR k := zsF hk
    rcases zsl_kinds ⟨k, hk⟩ with c | ⟨c1, c2⟩ | c | c
    · have c : zsTab k = zsTabR k := c
      have e : zcell G true μ k = zcell G false μ k := by unfold zcell; rw [eT, eF, c]
      rw [e]; exact h0
    · have c1 : (zsTabR k).1 < 12 := c1
      have c2 : zsTab k = ((zsTabR k).1 + 20, (zsTabR k).2) := c2
      have e : zcell G true μ k = zcell G false μ k := by
        unfold zcell
        rw [eT, eF, c2]
        have hs1 := s1 k hk c1
        generalize zsTabR k = t at *
        obtain ⟨kk, n⟩ := t
        have c1 : kk < 12 := c1
        show (if kk + 20 < 12 then _ else if kk + 20 < 32 then _ else _) = (if kk < 12 then _ else _)
        rw [if_neg (by omega), if_pos (by omega), if_pos c1, Nat.add_sub_cancel]
        congr 2
        exact List.map_congr_left (fun j hj => zfv_seal (hs1 j (List.mem_range.mp hj)))
      rw [e]; exact h0
    · have c : k = 14 := c
      subst c
      have e1 : zcell G true μ 14 = .inl (zcA G 4, 11, .inr (.inr (.inr (.inr (fun j => (zel μ 14 46 j).map (zad G)))))) := by
        unfold zcell
        rw [eT, zTab_len.2.2.2.1]; rfl
      have e2 : zcell G false μ 14 = .inl (zcA G 4, 11, .inr (.inr (.inr (.inr (fun j => (zel μ 14 44 j).map (zad G)))))) := by
        unfold zcell
        rw [eF, show zsTabR 14 = (44, 11) by decide +kernel]; rfl
      rw [e1]
      rw [e2] at h0
      have h0 : H[zad G 14]? = some (vp_cell (zcA G 4) (11, .inr (.inr (.inr (.inr (fun j => (zel μ 14 44 j).map (zad G))))))) := h0
      show H[zad G 14]? = some (vp_cell (zcA G 4) (11, .inr (.inr (.inr (.inr (fun j => (zel μ 14 46 j).map (zad G)))))))
      rw [h0]
      congr 1
      refine zcell_q (fun j hj => ?_)
      have e3 : zel μ 14 44 j = zr μ 14 j := rfl
      have e4 : zel μ 14 46 j = some (14 + 1 + 8 * j) := rfl
      rw [e3, e4, s2 j hj]
    · have c : k = 103 := c
      subst c
      have e1 : zcell G true μ 103 = .inl (zcA G 4, 2, .inr (.inr (.inr (.inr (fun j => (zel μ 103 47 j).map (zad G)))))) := by
        unfold zcell
        rw [eT, zTab_len.2.2.2.2]; rfl
      have e2 : zcell G false μ 103 = .inl (zcA G 4, 2, .inr (.inr (.inr (.inr (fun j => (zel μ 103 44 j).map (zad G)))))) := by
        unfold zcell
        rw [eF, show zsTabR 103 = (44, 2) by decide +kernel]; rfl
      rw [e1]
      rw [e2] at h0
      have h0 : H[zad G 103]? = some (vp_cell (zcA G 4) (2, .inr (.inr (.inr (.inr (fun j => (zel μ 103 44 j).map (zad G))))))) := h0
      show H[zad G 103]? = some (vp_cell (zcA G 4) (2, .inr (.inr (.inr (.inr (fun j => (zel μ 103 47 j).map (zad G)))))))
      rw [h0]
      congr 1
      refine zcell_q (fun j hj => ?_)
      have e3 : zel μ 103 44 j = zr μ 103 j := rfl
      have e4 : zel μ 103 47 j = some (103 + 34 + 8 * j) := rfl
      rw [e3, e4, s3 j hj]
  · obtain ⟨hi, rfl⟩ := ad i p hp
    obtain ⟨hj, rfl⟩ := ad j q hq
    exact h2.1 i j _ _ (fe i hi) (fe j hj) e
  · obtain ⟨hk, rfl⟩ := ad k q hq
    have := h2.2 k _ (fe k hk)
    exact this
