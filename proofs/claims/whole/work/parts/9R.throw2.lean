/-! another map of places: where an exception lies between -/
def zGz (G : zG) (z : Nat → Nat) (q : Nat) : zG := (G.1, z, (fun k => if k = 41 then q else zsa G k), G.2.2.2)
theorem zsa_gz {G : zG} {z : Nat → Nat} {q k : Nat} (h : k ≠ 41) : zsa (zGz G z q) k = zsa G k := if_neg h
theorem zst_gz {G : zG} {z : Nat → Nat} {q : Nat} : zst (zGz G z q) = zst G := rfl
theorem zTxt_gz {G : zG} {z : Nat → Nat} {q : Nat} {U : State} {H : Heap} (h : zTxt G U H) : zTxt (zGz G z q) U H := by
  obtain ⟨h1, h2, h3⟩ := h
  refine ⟨h1, ?_, fun i hi => ?_⟩
  · rw [zsa_gz (by decide)]; exact h2
  · rw [zsa_gz (by omega), zsa_gz (by omega)]; exact h3 i hi
theorem zStat_gz {G : zG} {z : Nat → Nat} {q : Nat} {U : State} {H : Heap} (h : zStat G U H) : zStat (zGz G z q) U H :=
  ⟨fun k hk => by rw [zsa_gz (by omega)]; exact h.1 k hk, fun k hk => by rw [zsa_gz (by omega)]; exact h.2.1 k hk, zTxt_gz h.2.2⟩
theorem zNs_gz {G : zG} {z : Nat → Nat} {q : Nat} {U : State} (h : zNs G U) : zNs (zGz G z q) U := ⟨h.1, fun i hi => by rw [zsa_gz (by omega)]; exact h.2 i hi⟩
theorem zAm_gz {G : zG} {z : Nat → Nat} {q : Nat} {p : Program} {s : State} {m : MethodId} {args : Array Value} {c : Code} {cc : ByteArray} {own : String} {Ts : List Cond} (A : zAm G p s m args c cc own Ts) : zAm (zGz G z q) p s m args c cc own Ts :=
  ⟨A.1, A.2.1, A.2.2.1, A.2.2.2.1, A.2.2.2.2.1, zStat_gz A.2.2.2.2.2.1, zNs_gz A.2.2.2.2.2.2⟩
theorem zoff_in : ∀ a : Fin 182, ∀ j : Fin 45, ∀ d, zoff ((zsTab a.val).1 - 20) j.val = some d → 20 ≤ (zsTab a.val).1 → (zsTab a.val).1 < 32 → a.val + d < 182 := by
  have h : ∀ a : Fin 182, ∀ j : Fin 45, (match zoff ((zsTab a.val).1 - 20) j.val with | some d => decide (20 ≤ (zsTab a.val).1 → (zsTab a.val).1 < 32 → a.val + d < 182) | none => true) = true := by decide +kernel
  intro a j d hd h1 h2
  have := h a j
  rw [hd] at this
  exact of_decide_eq_true this h1 h2
theorem zsTab_n : ∀ a : Fin 182, (20 ≤ (zsTab a.val).1 → (zsTab a.val).1 < 32 → (zsTab a.val).2 ≤ 45) ∧ ((zsTab a.val).1 = 46 → a.val = 14 ∧ (zsTab a.val).2 = 11) ∧ ((zsTab a.val).1 = 47 → a.val = 103 ∧ (zsTab a.val).2 = 2) := by decide +kernel
section
variable {G : zG} {μ : zM} {z : Nat → Nat} {q : Nat}
theorem zfv_gz {a k j : Nat} {sl : Bool} (hz : ∀ b, b < zn μ → z b = zad G b) (hc : zcld μ) (ho : sl = true → ∀ d, zoff k j = some d → a + d < zn μ) : zfv (zGz G z q) μ a sl k j = zfv G μ a sl k j := by
  have rr : ∀ r : Option Nat, (∀ b, r = some b → b < zn μ) → r.map (zad (zGz G z q)) = r.map (zad G) := fun r hr => by
    cases r with
    | none => rfl
    | some b => show some (z b) = some (zad G b); rw [hz b (hr b rfl)]
  have hj : ∀ b, zr μ a j = some b → b < zn μ := fun b hb => hc.1 a j b (by omega) hb
  unfold zfv
  generalize zft k j = t
  rcases t with _ | _ | t
  · rfl
  · rfl
  · refine congrArg va_rf (rr _ (fun b hb => ?_))
    split at hb
    · rename_i d hd
      injection hb with hb
      rw [← hb]
      exact ho rfl d hd
    · exact hj b hb
theorem zcell_gz {a x : Nat} {H : Heap} (ha : a < zn μ) (hn : 182 ≤ zn μ) (hz : ∀ b, b < zn μ → z b = zad G b) (hc : zcld μ) (h : va_at (zD G) vwCl (x, zcell G true μ a) H) : va_at (zD G) vwCl (x, zcell (zGz G z q) true μ a) H := by
  have hk : zs true μ a = zs true μ a := rfl
  unfold zcell at h ⊢
  generalize ht : zs true μ a = t at h ⊢
  obtain ⟨k, n⟩ := t
  dsimp only at h ⊢
  have tab : a < 182 → zsTab a = (k, n) := fun h => by rw [← ht]; unfold zs; rw [if_pos h]; rfl
  have kin : ¬ a < 182 → k < 12 ∨ (32 ≤ k ∧ k ≠ 46 ∧ k ≠ 47) := fun h => by
    have := hc.2 a (by omega) ha
    have e : zh μ a = (k, n) := by rw [← ht]; unfold zs; rw [if_neg h]
    rw [e] at this; exact this
  by_cases c1 : k < 12
  · rw [if_pos c1] at h ⊢
    rw [show (List.range n).map (zfv (zGz G z q) μ a false k) = (List.range n).map (zfv G μ a false k) from List.map_congr_left (fun j _ => zfv_gz hz hc (fun e => by cases e))]
    exact h
  rw [if_neg c1] at h ⊢
  by_cases c2 : k < 32
  · rw [if_pos c2] at h ⊢
    have hlt : a < 182 := by
      by_cases y : a < 182
      · exact y
      · have := kin y; omega
    have et := tab hlt
    have hb := zsTab_n ⟨a, hlt⟩
    have hb1 : 20 ≤ k → k < 32 → n ≤ 45 := by have := hb.1; rw [show zsTab (⟨a, hlt⟩ : Fin 182).val = (k, n) from et] at this; exact this
    by_cases c3 : 20 ≤ k
    · rw [show (List.range n).map (zfv (zGz G z q) μ a true (k - 20)) = (List.range n).map (zfv G μ a true (k - 20)) from List.map_congr_left (fun j hj => zfv_gz hz hc (fun _ d hd => by
        have hj := List.mem_range.mp hj
        have hn45 := hb1 c3 c2
        have := zoff_in ⟨a, hlt⟩ ⟨j, by omega⟩ d
        rw [show zsTab (⟨a, hlt⟩ : Fin 182).val = (k, n) from et] at this
        have := this hd c3 c2
        have : a + d < 182 := this
        omega))]
      exact h
    · have hk0 : k - 20 = 0 := by omega
      have : ∀ a : Fin 182, (zsTab a.val).1 < 12 ∨ 20 ≤ (zsTab a.val).1 := by decide +kernel
      have := this ⟨a, hlt⟩
      rw [show zsTab (⟨a, hlt⟩ : Fin 182).val = (k, n) from et] at this
      have : k < 12 ∨ 20 ≤ k := this
      omega
  rw [if_neg c2] at h ⊢
  by_cases c3 : k = 41
  · rw [if_pos c3] at h ⊢; exact h
  rw [if_neg c3] at h ⊢
  by_cases c4 : k < 44
  · rw [if_pos c4] at h ⊢; exact h
  rw [if_neg c4] at h ⊢
  have e : vp_cell (zcA G (if k = 45 then 5 else 4)) (n, .inr (.inr (.inr (.inr (fun j => (zel μ a k j).map (zad (zGz G z q))))))) = vp_cell (zcA G (if k = 45 then 5 else 4)) (n, .inr (.inr (.inr (.inr (fun j => (zel μ a k j).map (zad G)))))) := by
    refine zcell_q (fun j hj => ?_)
    have hlt : ∀ b, zel μ a k j = some b → b < zn μ := fun b hb => by
      unfold zel at hb
      by_cases k46 : k = 46
      · rw [if_pos k46] at hb
        injection hb with hb
        by_cases y : a < 182
        · have hq := (zsTab_n ⟨a, y⟩).2.1
          rw [show zsTab (⟨a, y⟩ : Fin 182).val = (k, n) from tab y] at hq
          have := hq k46
          have : a = 14 ∧ n = 11 := this
          omega
        · have := kin y; omega
      · rw [if_neg k46] at hb
        by_cases k47 : k = 47
        · rw [if_pos k47] at hb
          injection hb with hb
          by_cases y : a < 182
          · have hq := (zsTab_n ⟨a, y⟩).2.2
            rw [show zsTab (⟨a, y⟩ : Fin 182).val = (k, n) from tab y] at hq
            have := hq k47
            have : a = 103 ∧ n = 2 := this
            omega
          · have := kin y; omega
        · rw [if_neg k47] at hb
          exact hc.1 a j b (by omega) hb
    cases hr : zel μ a k j with
    | none => rfl
    | some b => show some (z b) = some (zad G b); rw [hz b (hlt b hr)]
  have h : H[x]? = some (vp_cell (zcA G (if k = 45 then 5 else 4)) (n, .inr (.inr (.inr (.inr (fun j => (zel μ a k j).map (zad G))))))) := h
  show H[x]? = some (vp_cell (zcA G (if k = 45 then 5 else 4)) (n, .inr (.inr (.inr (.inr (fun j => (zel μ a k j).map (zad (zGz G z q))))))))
  rw [e]; exact h
/-- the world stands when something strange lies above it -/
theorem zH_gz {H H' : Heap} (h : zH G true μ H) (hc : zcld μ) (hsz : H.size ≤ H'.size) (hold : ∀ k, k < H.size → H'[k]? = H[k]?) (hz : ∀ b, b < zn μ → z b = zad G b) (hz2 : ∀ j, z (zn μ + j) = H'.size + j) : zH (zGz G z q) true μ H' := by
  obtain ⟨h1, h2, h3, h4, h5⟩ := h
  have hn := h5 rfl
  have ad : ∀ (k : Nat) (q' : Nat × va_E), (zW (zGz G z q) true μ)[k]? = some q' → k < zn μ ∧ q' = (zad G k, zcell (zGz G z q) true μ k) := fun k q' hq => by
    have hk : k < zn μ := by
      have := (List.getElem?_eq_some_iff.mp hq).1
      rw [zW_len] at this; exact this
    rw [zW_get hk] at hq
    injection hq with hq
    refine ⟨hk, ?_⟩
    rw [← hq]
    show (z k, _) = _
    rw [hz k hk]
  refine ⟨fun k q' hq => ?_, ⟨fun i j p' q' hp hq e => ?_, fun k q' hq => ?_⟩, fun j => hz2 j, Nat.le_trans h4 hsz, fun _ => hn⟩
  · obtain ⟨hk, rfl⟩ := ad k q' hq
    have h0 := h1 k _ (zW_get hk)
    have hl := h0.lt
    exact zcell_gz (G := G) (z := z) (q := q) hk hn hz hc (h0.kept (hold _ hl))
  · obtain ⟨hi, rfl⟩ := ad i p' hp
    obtain ⟨hj, rfl⟩ := ad j q' hq
    exact h2.1 i j _ _ (zW_get hi) (zW_get hj) e
  · obtain ⟨hk, rfl⟩ := ad k q' hq
    have := h2.2 k _ (zW_get hk)
    exact this
end
