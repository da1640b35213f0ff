/-! rows for fields, arrays, new things -/
theorem zcell_obj {G : zG} {ph : Bool} {μ : zM} {a k N : Nat} {sl : Bool} (hk : k < 12) (h : zs ph μ a = (cond sl (k + 20) k, N)) : zcell G ph μ a = .inr (k, (List.range N).map (zfv G μ a sl k)) := by
  unfold zcell
  rw [h]
  cases sl
  · simp only [cond_false, if_pos hk]
  · simp only [cond_true]
    rw [if_neg (by omega), if_pos (by omega), Nat.add_sub_cancel]
theorem zcell_i {G : zG} {ph : Bool} {μ : zM} {a k N : Nat} (hk : k = 40 ∨ k = 42 ∨ k = 43) (h : zs ph μ a = (k, N)) : zcell G ph μ a = .inl (zcA G (k - 40), N, .inl (fun j => Int32.ofInt (zi μ a j))) := by
  unfold zcell
  rw [h]
  show (if k < 12 then _ else _) = _
  rw [if_neg (by omega), if_neg (by omega), if_neg (by omega), if_pos (by omega)]
theorem zcell_l {G : zG} {ph : Bool} {μ : zM} {a N : Nat} (h : zs ph μ a = (41, N)) : zcell G ph μ a = .inl (zcA G 1, N, .inr (.inl (fun j => Int64.ofInt (zi μ a j)))) := by
  unfold zcell
  rw [h]
  rfl
theorem zcell_r {G : zG} {ph : Bool} {μ : zM} {a k N : Nat} (hk : 44 ≤ k) (h : zs ph μ a = (k, N)) : zcell G ph μ a = .inl (zcA G (if k = 45 then 5 else 4), N, .inr (.inr (.inr (.inr (fun j => (zel μ a k j).map (zad G)))))) := by
  unfold zcell
  rw [h]
  show (if k < 12 then _ else _) = _
  rw [if_neg (by omega), if_neg (by omega), if_neg (by omega), if_neg (by omega)]
theorem zcell_up {G : zG} {ph : Bool} {μ : zM} {a b : Nat} {i v : Int} (hb : b ≠ a) : zcell G ph (zup μ a i v) b = zcell G ph μ b := by
  have e : ∀ j, zi (zup μ a i v) b j = zi μ b j := fun j => if_neg (fun q => hb q.1)
  have e2 : ∀ sl k j, zfv G (zup μ a i v) b sl k j = zfv G μ b sl k j := fun sl k j => by unfold zfv; rw [e]; rfl
  have e3 : ∀ k j, zel (zup μ a i v) b k j = zel μ b k j := fun k j => rfl
  have e4 : ∀ sl k, zfv G (zup μ a i v) b sl k = zfv G μ b sl k := fun sl k => funext (e2 sl k)
  unfold zcell
  rw [show zs ph (zup μ a i v) b = zs ph μ b from rfl]
  simp only [e, e3, e4]
theorem zcell_upr {G : zG} {ph : Bool} {μ : zM} {a b : Nat} {i : Int} {v : Option Nat} (hb : b ≠ a) : zcell G ph (zupr μ a i v) b = zcell G ph μ b := by
  have e : ∀ j, zr (zupr μ a i v) b j = zr μ b j := fun j => if_neg (fun q => hb q.1)
  have e2 : ∀ sl k j, zfv G (zupr μ a i v) b sl k j = zfv G μ b sl k j := fun sl k j => by unfold zfv; rw [e]; rfl
  have e3 : ∀ k j, zel (zupr μ a i v) b k j = zel μ b k j := fun k j => by unfold zel; rw [e]
  have e4 : ∀ sl k, zfv G (zupr μ a i v) b sl k = zfv G μ b sl k := fun sl k => funext (e2 sl k)
  unfold zcell
  rw [show zs ph (zupr μ a i v) b = zs ph μ b from rfl]
  simp only [show ∀ j, zi (zupr μ a i v) b j = zi μ b j from fun _ => rfl, e3, e4]
theorem zcell_new {G : zG} {ph : Bool} {μ : zM} {b : Nat} {q : Nat × Nat} (hb : b < zn μ) : zcell G ph (znew μ q) b = zcell G ph μ b := by
  have hb : b ≠ μ.2.2.2 := Nat.ne_of_lt hb
  have e : ∀ j, zi (znew μ q) b j = zi μ b j := fun j => if_neg hb
  have er : ∀ j, zr (znew μ q) b j = zr μ b j := fun j => if_neg hb
  have es : zs ph (znew μ q) b = zs ph μ b := by
    unfold zs
    rw [show zh (znew μ q) b = zh μ b from if_neg hb]
  have e2 : ∀ sl k j, zfv G (znew μ q) b sl k j = zfv G μ b sl k j := fun sl k j => by unfold zfv; rw [e, er]
  have e3 : ∀ k j, zel (znew μ q) b k j = zel μ b k j := fun k j => by unfold zel; rw [er]
  have e4 : ∀ sl k, zfv G (znew μ q) b sl k = zfv G μ b sl k := fun sl k => funext (e2 sl k)
  unfold zcell
  rw [es]
  simp only [e, e3, e4]
theorem zH.set {G : zG} {ph : Bool} {μ μ' : zM} {a : Nat} {H1 H : Heap} (h : zH G ph μ H) (hn : zn μ' = zn μ) (ho : ∀ b, b < zn μ → b ≠ a → zcell G ph μ' b = zcell G ph μ b) {w : va_E} (he : zcell G ph μ' a = w) (hP : va_P (zD G) vwCl ((zW G ph μ).set a (zad G a, w)) H1) (hD : va_D (zA G) ((zW G ph μ).set a (zad G a, w))) (hz : H1.size = H.size) : zH G ph μ' H1 := by
  have e := zW_set hn ho
  rw [he] at e
  rw [← e] at hP hD
  exact ⟨hP, hD, fun j => by rw [hn, hz]; exact h.2.2.1 j, by rw [hz]; exact h.2.2.2.1, fun q => by rw [hn]; exact h.2.2.2.2 q⟩
theorem zH.push {G : zG} {ph : Bool} {μ μ' : zM} {H1 H : Heap} (h : zH G ph μ H) (hn : zn μ' = zn μ + 1) (ho : ∀ b, b < zn μ → zcell G ph μ' b = zcell G ph μ b) (hat : va_at (zD G) vwCl (H.size, zcell G ph μ' (zn μ)) H1) (hz : H1.size = H.size + 1) (hk : ∀ q, q < H.size → H1[q]? = H[q]?) : zH G ph μ' H1 := by
  have ha : zad G (zn μ) = H.size := h.2.2.1 0
  have hk' : ∀ (k : Nat) (x : Nat × va_E), (zW G ph μ)[k]? = some x → H1[x.1]? = H[x.1]? := fun k x hx => hk x.1 ((h.1 k x hx).lt)
  have e := zW_push hn ho
  refine ⟨?_, ?_, fun j => ?_, by rw [hz]; have := h.2.2.2.1; omega, fun q => by rw [hn]; have := h.2.2.2.2 q; omega⟩
  · rw [e]
    refine (h.1.kept hk').app (fun k x hx => ?_)
    have hzz : k < 1 := (List.getElem?_eq_some_iff.mp hx).1
    rw [show k = 0 by omega] at hx
    cases hx
    rw [ha]
    exact hat
  · rw [e]
    exact h.2.1.push h.1 ha (by rw [ha]; exact h.2.2.2.1)
  · rw [hn, hz, show zn μ + 1 + j = zn μ + (1 + j) by omega, h.2.2.1 (1 + j)]; omega
theorem z_stay {A : Nat → Prop} {H0 H H1 : Heap} {locs : List Loc} (hS : va_S A H0 H locs) (hz : H1.size = H.size + 1) (hk : ∀ q, q < H.size → H1[q]? = H[q]?) : va_S A H0 H1 locs :=
  ⟨Nat.le_trans hS.1 (by omega), fun x h1 h2 => (hk x (Nat.lt_of_lt_of_le h1 hS.1)).trans (hS.2.1 x h1 h2), hS.2.2⟩
