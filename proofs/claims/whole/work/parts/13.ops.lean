/-! local places -/
def zclr : Option zV → Option zV
  | some (.inr (.inl _)) => none
  | o => o
def zset1 : List (Option zV) → Nat → zV → List (Option zV)
  | [], _, _ => []
  | _ :: L, 0, v => some v :: L
  | o :: L, i + 1, v => (if i = 0 then zclr o else o) :: zset1 L i v
def zset2 : List (Option zV) → Nat → zV → List (Option zV)
  | [], _, _ => []
  | _ :: L, 0, v => some v :: L.set 0 none
  | o :: L, i + 1, v => (if i = 0 then zclr o else o) :: zset2 L i v
def zcat : zV → Nat
  | .inr (.inl _) => 2
  | _ => 1
theorem cv_cat (G : zG) (v : zV) : (cv G v).category = zcat v := by
  rcases v with x | x | r | k
  · rfl
  · rfl
  · cases r <;> rfl
  · rfl
theorem zclr_some {o : Option zV} {w : zV} (h : zclr o = some w) : o = some w ∧ zcat w = 1 := by
  rcases o with _ | v
  · exact absurd h (by simp [zclr])
  · rcases v with x | x | r | k
    · exact ⟨h, by cases h; rfl⟩
    · exact absurd h (by simp [zclr])
    · exact ⟨h, by cases h; rfl⟩
    · exact ⟨h, by cases h; rfl⟩
theorem zset1_len : ∀ (L : List (Option zV)) (i : Nat) (v : zV), (zset1 L i v).length = L.length
  | [], _, _ => rfl
  | _ :: _, 0, _ => rfl
  | _ :: L, i + 1, v => by simp [zset1, zset1_len L i v]
theorem zset2_len : ∀ (L : List (Option zV)) (i : Nat) (v : zV), (zset2 L i v).length = L.length
  | [], _, _ => rfl
  | _ :: _, 0, _ => by simp [zset2]
  | _ :: L, i + 1, v => by simp [zset2, zset2_len L i v]
theorem zset1_get : ∀ (L : List (Option zV)) (i : Nat) (v : zV) (j : Nat) (w : zV), (zset1 L i v)[j]? = some (some w) → (j = i ∧ w = v) ∨ (j ≠ i ∧ L[j]? = some (some w) ∧ ¬ (j + 1 = i ∧ zcat w = 2))
  | [], _, _, _, _, h => by simp [zset1] at h
  | _ :: L, 0, v, 0, w, h => by simp [zset1] at h; exact Or.inl ⟨rfl, h.symm⟩
  | _ :: L, 0, v, j + 1, w, h => by
    simp [zset1] at h
    exact Or.inr ⟨by omega, by simpa using h, by omega⟩
  | o :: L, i + 1, v, 0, w, h => by
    refine Or.inr ⟨by omega, ?_, ?_⟩
    · simp only [zset1] at h
      by_cases hi : i = 0
      · rw [if_pos hi] at h
        have h2 : zclr o = some w := by simpa using h
        simp [(zclr_some h2).1]
      · rw [if_neg hi] at h; simpa using h
    · rintro ⟨h1, h2⟩
      have hi : i = 0 := by omega
      simp only [zset1, if_pos hi] at h
      have h3 : zclr o = some w := by simpa using h
      have := (zclr_some h3).2
      omega
  | o :: L, i + 1, v, j + 1, w, h => by
    simp only [zset1, List.getElem?_cons_succ] at h
    rcases zset1_get L i v j w h with ⟨h1, h2⟩ | ⟨h1, h2, h3⟩
    · exact Or.inl ⟨by omega, h2⟩
    · exact Or.inr ⟨by omega, by simpa using h2, fun q => h3 ⟨by omega, q.2⟩⟩
theorem zset2_get : ∀ (L : List (Option zV)) (i : Nat) (v : zV) (j : Nat) (w : zV), (zset2 L i v)[j]? = some (some w) → (j = i ∧ w = v) ∨ (j ≠ i ∧ j ≠ i + 1 ∧ L[j]? = some (some w) ∧ ¬ (j + 1 = i ∧ zcat w = 2))
  | [], _, _, _, _, h => by simp [zset2] at h
  | _ :: L, 0, v, 0, w, h => by simp [zset2] at h; exact Or.inl ⟨rfl, h.symm⟩
  | _ :: L, 0, v, j + 1, w, h => by
    simp only [zset2, List.getElem?_cons_succ, List.getElem?_set] at h
    by_cases hj : 0 = j
    · subst hj; simp at h
    · rw [if_neg hj] at h
      exact Or.inr ⟨by omega, by omega, by simpa using h, by omega⟩
  | o :: L, i + 1, v, 0, w, h => by
    refine Or.inr ⟨by omega, by omega, ?_, ?_⟩
    · simp only [zset2] at h
      by_cases hi : i = 0
      · rw [if_pos hi] at h
        have h2 : zclr o = some w := by simpa using h
        simp [(zclr_some h2).1]
      · rw [if_neg hi] at h; simpa using h
    · rintro ⟨h1, h2⟩
      have hi : i = 0 := by omega
      simp only [zset2, if_pos hi] at h
      have h3 : zclr o = some w := by simpa using h
      have := (zclr_some h3).2
      omega
  | o :: L, i + 1, v, j + 1, w, h => by
    simp only [zset2, List.getElem?_cons_succ] at h
    rcases zset2_get L i v j w h with ⟨h1, h2⟩ | ⟨h1, h0, h2, h3⟩
    · exact Or.inl ⟨by omega, h2⟩
    · exact Or.inr ⟨by omega, by omega, by simpa using h2, fun q => h3 ⟨by omega, q.2⟩⟩
def zls (G : zG) (n : Nat) (ls : Array Slot) (L : List (Option zV)) : Prop := ls.size = n ∧ L.length = n ∧ lv_wf ls ∧ ∀ (i : Nat) (v : zV), L[i]? = some (some v) → ls[i]? = some (.val (cv G v))
def zas (G : zG) (L : List (Option zV)) : List (Nat × Value) := (List.range L.length).filterMap (fun i => (L.getD i none).map (fun v => (i, cv G v)))
theorem zas_mem {G : zG} {L : List (Option zV)} {i : Nat} {w : Value} : (i, w) ∈ zas G L ↔ ∃ v, L[i]? = some (some v) ∧ cv G v = w := by
  unfold zas
  rw [List.mem_filterMap]
  constructor
  · rintro ⟨j, hj, h⟩
    have hjl := List.mem_range.mp hj
    rw [List.getD_eq_getElem?_getD] at h
    cases hv : L.getD j none with
    | none => rw [List.getD_eq_getElem?_getD] at hv; rw [hv] at h; simp at h
    | some v =>
      rw [List.getD_eq_getElem?_getD] at hv
      rw [hv] at h
      simp at h
      obtain ⟨rfl, rfl⟩ := h
      refine ⟨v, ?_, rfl⟩
      rw [List.getElem?_eq_getElem hjl] at hv ⊢
      simp at hv; rw [hv]
  · rintro ⟨v, hv, rfl⟩
    have hl : i < L.length := by
      rcases Nat.lt_or_ge i L.length with h | h
      · exact h
      · rw [List.getElem?_eq_none h] at hv; cases hv
    refine ⟨i, List.mem_range.mpr hl, ?_⟩
    rw [List.getD_eq_getElem?_getD, hv]
    rfl
theorem zls.has {G : zG} {n : Nat} {ls : Array Slot} {L : List (Option zV)} (h : zls G n ls L) : lv_has ls n (zas G L) := by
  refine ⟨h.1, h.2.2.1, ?_⟩
  rintro ⟨i, w⟩ hq
  obtain ⟨v, hv, rfl⟩ := zas_mem.mp hq
  exact h.2.2.2 i v hv
theorem zls.set1 {G : zG} {n i : Nat} {ls ls' : Array Slot} {L : List (Option zV)} {v : zV} (h : zls G n ls L) (h' : lv_has ls' n ((i, cv G v) :: (zas G L).filter (fun q => !(q.1 == i) && !(q.1 + 1 == i && q.2.category == 2)))) : zls G n ls' (zset1 L i v) := by
  refine ⟨h'.1, by rw [zset1_len]; exact h.2.1, h'.2.1, fun j w hj => ?_⟩
  rcases zset1_get _ _ _ _ _ hj with ⟨rfl, rfl⟩ | ⟨h1, h2, h3⟩
  · exact h'.2.2 (j, cv G w) List.mem_cons_self
  · refine h'.2.2 (j, cv G w) (List.mem_cons_of_mem _ (List.mem_filter.mpr ⟨zas_mem.mpr ⟨w, h2, rfl⟩, ?_⟩))
    show (!(j == i) && !(j + 1 == i && (cv G w).category == 2)) = true
    rw [cv_cat]
    by_cases hc : j + 1 = i
    · have : zcat w ≠ 2 := fun q => h3 ⟨hc, q⟩
      simp [h1, this]
    · simp [h1, hc]
theorem zls.set2 {G : zG} {n i : Nat} {ls ls' : Array Slot} {L : List (Option zV)} {v : zV} (h : zls G n ls L) (h' : lv_has ls' n ((i, cv G v) :: (zas G L).filter (fun q => !(q.1 == i) && (!(q.1 == i + 1) && !(q.1 + 1 == i && q.2.category == 2))))) : zls G n ls' (zset2 L i v) := by
  refine ⟨h'.1, by rw [zset2_len]; exact h.2.1, h'.2.1, fun j w hj => ?_⟩
  rcases zset2_get _ _ _ _ _ hj with ⟨rfl, rfl⟩ | ⟨h1, h0, h2, h3⟩
  · exact h'.2.2 (j, cv G w) List.mem_cons_self
  · refine h'.2.2 (j, cv G w) (List.mem_cons_of_mem _ (List.mem_filter.mpr ⟨zas_mem.mpr ⟨w, h2, rfl⟩, ?_⟩))
    show (!(j == i) && (!(j == i + 1) && !(j + 1 == i && (cv G w).category == 2))) = true
    rw [cv_cat]
    by_cases hc : j + 1 = i
    · have : zcat w ≠ 2 := fun q => h3 ⟨hc, q⟩
      simp [h1, h0, this]
    · simp [h1, h0, hc]
theorem zls.lt {G : zG} {n i : Nat} {ls : Array Slot} {L : List (Option zV)} {v : zV} (h : zls G n ls L) (hi : L[i]? = some v) : i < n := by
  rw [← h.2.1]
  rcases Nat.lt_or_ge i L.length with q | q
  · exact q
  · rw [List.getElem?_eq_none q] at hi; cases hi
