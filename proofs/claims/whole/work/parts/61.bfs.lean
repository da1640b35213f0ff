/-! ways: the search breadth first, without memory -/
def zE (S : Int → Int) (d p q : Int) : Prop := (∃ c, 0 ≤ c ∧ c < 8 ∧ zchg p c = q) ∧ zPl q ∧ zopen S q ∧ zbw S p q ≤ d
theorem zchg_inv {p c : Int} (hp : zPl p) (hc : 0 ≤ c ∧ c < 8) (hq : zPl (zchg p c)) : zchg (zchg p c) ((c + 4) % 8) = p := by
  rcases zchg_pl hp hc with e | ⟨z1, z2, z3⟩
  · rw [e] at hq; exact absurd hq.1 (by decide)
  · obtain ⟨a0, a1, a2, a3⟩ := z3 0
    have r0 := zam_r p 0; have r1 := zam_r p 1; have r2 := zam_r p 2; have r3 := zam_r p 3
    have e1 := zpl_e hp
    have e2 := zpl_e z1
    have hcc : c = 0 ∨ c = 1 ∨ c = 2 ∨ c = 3 ∨ c = 4 ∨ c = 5 ∨ c = 6 ∨ c = 7 := by omega
    generalize zchg p c = q at *
    rcases hcc with rfl | rfl | rfl | rfl | rfl | rfl | rfl | rfl <;> simp at a0 a1 a2 a3
    · unfold zchg; rw [show ((0 : Int) + 4) % 8 = 4 from rfl, show (4 : Int) % 4 = 0 from rfl, if_neg (show ¬ (4 : Int) < 4 by decide), if_pos (show 0 ≤ zam q 0 + 1 ∧ zam q 0 + 1 ≤ 8 by omega), zt10]; omega
    · unfold zchg; rw [show ((1 : Int) + 4) % 8 = 5 from rfl, show (5 : Int) % 4 = 1 from rfl, if_neg (show ¬ (5 : Int) < 4 by decide), if_pos (show 0 ≤ zam q 1 + 1 ∧ zam q 1 + 1 ≤ 8 by omega), zt11]; omega
    · unfold zchg; rw [show ((2 : Int) + 4) % 8 = 6 from rfl, show (6 : Int) % 4 = 2 from rfl, if_neg (show ¬ (6 : Int) < 4 by decide), if_pos (show 0 ≤ zam q 2 + 1 ∧ zam q 2 + 1 ≤ 8 by omega), zt12]; omega
    · unfold zchg; rw [show ((3 : Int) + 4) % 8 = 7 from rfl, show (7 : Int) % 4 = 3 from rfl, if_neg (show ¬ (7 : Int) < 4 by decide), if_pos (show 0 ≤ zam q 3 + 1 ∧ zam q 3 + 1 ≤ 8 by omega), zt13]; omega
    · unfold zchg; rw [show ((4 : Int) + 4) % 8 = 0 from rfl, show (0 : Int) % 4 = 0 from rfl, if_pos (show (0 : Int) < 4 by decide), if_pos (show 0 ≤ zam q 0 + -1 ∧ zam q 0 + -1 ≤ 8 by omega), zt10]; omega
    · unfold zchg; rw [show ((5 : Int) + 4) % 8 = 1 from rfl, show (1 : Int) % 4 = 1 from rfl, if_pos (show (1 : Int) < 4 by decide), if_pos (show 0 ≤ zam q 1 + -1 ∧ zam q 1 + -1 ≤ 8 by omega), zt11]; omega
    · unfold zchg; rw [show ((6 : Int) + 4) % 8 = 2 from rfl, show (2 : Int) % 4 = 2 from rfl, if_pos (show (2 : Int) < 4 by decide), if_pos (show 0 ≤ zam q 2 + -1 ∧ zam q 2 + -1 ≤ 8 by omega), zt12]; omega
    · unfold zchg; rw [show ((7 : Int) + 4) % 8 = 3 from rfl, show (3 : Int) % 4 = 3 from rfl, if_pos (show (3 : Int) < 4 by decide), if_pos (show 0 ≤ zam q 3 + -1 ∧ zam q 3 + -1 ≤ 8 by omega), zt13]; omega
theorem zE_sym {S : Int → Int} {d p q : Int} (hp : zPl p) (ho : zopen S p) (h : zE S d p q) : zE S d q p := by
  obtain ⟨⟨c, c0, c1, e⟩, h2, h3, h4⟩ := h
  refine ⟨⟨(c + 4) % 8, by omega, by omega, ?_⟩, hp, ho, by rw [zbw_c]; exact h4⟩
  have := zchg_inv hp ⟨c0, c1⟩ (by rw [e]; exact h2)
  rw [e] at this
  exact this
/-- as many different numbers below n as there are, at most n -/
theorem zpig : ∀ (n : Nat) (l : List Int), l.Pairwise (· ≠ ·) → (∀ x ∈ l, 0 ≤ x ∧ x < n) → l.length ≤ n
  | 0, l, _, h => by
    match l, h with
    | [], _ => exact Nat.le_refl _
    | x :: _, h => have := h x List.mem_cons_self; omega
  | n + 1, l, hp, h => by
    have h2 := zpig n (l.filter (fun x : Int => decide (x ≠ (n : Int)))) (hp.filter _) (fun x hx => by
      obtain ⟨a, b⟩ := List.mem_filter.1 hx
      have := h x a
      have b : x ≠ n := by simpa using b
      omega)
    have key : ∀ l : List Int, l.Pairwise (· ≠ ·) → l.length ≤ (l.filter (fun x : Int => decide (x ≠ (n : Int)))).length + 1 := by
      intro l
      induction l with
      | nil => intro _; exact Nat.zero_le _
      | cons x xs ih =>
        intro hp
        obtain ⟨h1, h3⟩ := List.pairwise_cons.1 hp
        by_cases c : x = n
        · have e : xs.filter (fun x : Int => decide (x ≠ (n : Int))) = xs := List.filter_eq_self.2 (fun y hy => by
            have := h1 y hy
            simp; intro z; exact this (by rw [c, z]))
          rw [List.filter_cons_of_neg (by simp [c]), e]
          exact Nat.le_refl _
        · rw [List.filter_cons_of_pos (by simp [c])]
          have := ih h3
          simp only [List.length_cons]
          omega
    have := key l hp
    omega
theorem zget_mem {l : List Int} {i : Nat} (h : i < l.length) : l.getD i 0 ∈ l := by rw [zgetD h]; exact List.getElem_mem _
theorem zget_ex {l : List Int} {x : Int} (h : x ∈ l) : ∃ i, i < l.length ∧ l.getD i 0 = x := by
  obtain ⟨i, hi, e⟩ := List.getElem_of_mem h
  exact ⟨i, hi, by rw [zgetD hi]; exact e⟩
theorem zget_left {l : List Int} {q : Int} {i : Nat} (h : i < l.length) : (l ++ [q]).getD i 0 = l.getD i 0 := by
  rw [List.getD_eq_getElem?_getD, List.getD_eq_getElem?_getD, List.getElem?_append_left h]
theorem zget_last {l : List Int} {q : Int} : (l ++ [q]).getD l.length 0 = q := by
  rw [List.getD_eq_getElem?_getD, List.getElem?_append_right (Nat.le_refl _)]; simp
/-- the search has gone through dn of the places found -/
def zbI (S : Int → Int) (d last : Int) (dn : Nat) (D : Int → Int) (l : List Int) : Prop :=
  l.Pairwise (· ≠ ·) ∧ (∀ x ∈ l, (zPl x ∧ zopen S x) ∧ 0 ≤ D x ∧ D x < l.length) ∧ (∀ x, zPl x → x ∉ l → D x = -1) ∧ (last ∈ l ∧ D last = 0) ∧ l.Pairwise (fun a b => D a ≤ D b) ∧ (dn < l.length → ∀ x ∈ l, D x ≤ D (l.getD dn 0) + 1) ∧ (∀ i, i < dn → i < l.length → ∀ q, zE S d (l.getD i 0) q → 0 ≤ D q ∧ D q ≤ D (l.getD i 0) + 1) ∧ ∀ q ∈ l, q = last ∨ ∃ p ∈ l, D p + 1 = D q ∧ zE S d p q
theorem zbI_0 {S : Int → Int} {d last : Int} (hl : zPl last) (ho : zopen S last) : zbI S d last 0 (zupd (fun _ => -1) last 0) [last] := by
  have e : zupd (fun _ => -1) last 0 last = 0 := if_pos rfl
  refine ⟨List.pairwise_singleton _ _, fun x hx => ?_, fun x hx hn => ?_, ⟨List.mem_singleton.2 rfl, e⟩, List.pairwise_singleton _ _, fun _ x hx => ?_, fun i hi => absurd hi (Nat.not_lt_zero _), fun q hq => Or.inl (List.mem_singleton.1 hq)⟩
  · have := List.mem_singleton.1 hx; subst this
    exact ⟨⟨hl, ho⟩, by rw [e]; decide, by rw [e]; show (0 : Int) < ((1 : Nat) : Int); decide⟩
  · unfold zupd; rw [if_neg (fun z => hn (by rw [z]; exact List.mem_singleton.2 rfl))]
  · have := List.mem_singleton.1 hx; subst this
    show zupd _ x 0 x ≤ zupd _ x 0 x + 1
    omega
theorem zbI_len {S : Int → Int} {d last : Int} {dn : Nat} {D : Int → Int} {l : List Int} (h : zbI S d last dn D l) : l.length ≤ 6561 :=
  zpig 6561 l h.1 (fun x hx => by have := (h.2.1 x hx).1.1; exact ⟨this.1, by have := this.2; omega⟩)
theorem zbI_len2 {S : Int → Int} {d last : Int} {dn : Nat} {D : Int → Int} {l : List Int} (h : zbI S d last dn D l) {q : Int} (hq : zPl q) (hD : D q = -1) : l.length < 6561 ∧ q ∉ l := by
  have hn : q ∉ l := fun z => by have := (h.2.1 q z).2.1; omega
  refine ⟨?_, hn⟩
  have := zpig 6561 (q :: l) (List.pairwise_cons.2 ⟨fun x hx z => hn (by rw [z]; exact hx), h.1⟩) (fun x hx => by
    rcases List.mem_cons.1 hx with z | z
    · rw [z]; exact ⟨hq.1, by have := hq.2; omega⟩
    · have := (h.2.1 x z).1.1; exact ⟨this.1, by have := this.2; omega⟩)
  simp at this
  omega
theorem zbI_add {S : Int → Int} {d last : Int} {dn : Nat} {D : Int → Int} {l : List Int} (h : zbI S d last dn D l) (hd : dn < l.length) {q : Int} (hE : zE S d (l.getD dn 0) q) (hD : D q = -1) : zbI S d last dn (zupd D q (D (l.getD dn 0) + 1)) (l ++ [q]) := by
  obtain ⟨h1, h2, h3, h4, h5, h6, h7, h8⟩ := id h
  obtain ⟨-, hn⟩ := zbI_len2 h hE.2.1 hD
  have hp := zget_mem hd
  have u : ∀ x, x ≠ q → zupd D q (D (l.getD dn 0) + 1) x = D x := fun x hx => if_neg hx
  have uq : zupd D q (D (l.getD dn 0) + 1) q = D (l.getD dn 0) + 1 := if_pos rfl
  have um : ∀ x, x ∈ l → zupd D q (D (l.getD dn 0) + 1) x = D x := fun x hx => u x (fun z => hn (by rw [← z]; exact hx))
  have hpq : zupd D q (D (l.getD dn 0) + 1) (l.getD dn 0) = D (l.getD dn 0) := um _ hp
  have up : ∀ x, 0 ≤ D x → zupd D q (D (l.getD dn 0) + 1) x = D x := fun x hx => u x (fun z => by rw [z] at hx; omega)
  refine ⟨?_, fun x hx => ?_, fun x hx hnx => ?_, ⟨List.mem_append_left _ h4.1, by rw [um _ h4.1]; exact h4.2⟩, ?_, fun hlt x hx => ?_, fun i hi hil q' hq' => ?_, fun x hx => ?_⟩
  · rw [List.pairwise_append]
    exact ⟨h1, List.pairwise_singleton _ _, fun a ha b hb => by rw [List.mem_singleton.1 hb]; exact fun z => hn (by rw [← z]; exact ha)⟩
  · rw [List.length_append]
    rcases List.mem_append.1 hx with z | z
    · rw [um x z]
      have := h2 x z
      exact ⟨this.1, this.2.1, by have := this.2.2; have : [q].length = 1 := rfl; omega⟩
    · have z := List.mem_singleton.1 z
      rw [z, uq]
      have := h2 _ hp
      exact ⟨⟨hE.2.1, hE.2.2.1⟩, by omega, by have : [q].length = 1 := rfl; omega⟩
  · rw [u x (fun z => hnx (by rw [z]; exact List.mem_append_right _ (List.mem_singleton.2 rfl)))]
    exact h3 x hx (fun z => hnx (List.mem_append_left _ z))
  · rw [List.pairwise_append]
    refine ⟨h5.imp_of_mem (fun {a b} ha hb hab => by rw [um a ha, um b hb]; exact hab), List.pairwise_singleton _ _, fun a ha b hb => ?_⟩
    rw [List.mem_singleton.1 hb, uq, um a ha]
    exact h6 hd a ha
  · rw [zget_left hd, hpq]
    rcases List.mem_append.1 hx with z | z
    · rw [um x z]; exact h6 hd x z
    · rw [List.mem_singleton.1 z, uq]; exact Int.le_refl _
  · have hil2 : i < l.length := by omega
    rw [zget_left hil2] at hq' ⊢
    rw [um _ (zget_mem hil2)]
    have := h7 i hi hil2 q' hq'
    rw [up q' this.1]
    exact this
  · rcases List.mem_append.1 hx with z | z
    · rcases h8 x z with e | ⟨p, p1, p2, p3⟩
      · exact Or.inl e
      · exact Or.inr ⟨p, List.mem_append_left _ p1, by rw [um p p1, um x z]; exact p2, p3⟩
    · have z := List.mem_singleton.1 z
      rw [z]
      exact Or.inr ⟨_, List.mem_append_left _ hp, by rw [hpq, uq], hE⟩
theorem zbI_nx {S : Int → Int} {d last : Int} {dn : Nat} {D : Int → Int} {l : List Int} (h : zbI S d last dn D l) (hd : dn < l.length) (hq : ∀ q, zE S d (l.getD dn 0) q → 0 ≤ D q ∧ D q ≤ D (l.getD dn 0) + 1) : zbI S d last (dn + 1) D l := by
  obtain ⟨h1, h2, h3, h4, h5, h6, h7, h8⟩ := h
  refine ⟨h1, h2, h3, h4, h5, fun hlt x hx => ?_, fun i hi hil q hq' => ?_, h8⟩
  · have := h6 hd x hx
    have hs := List.pairwise_iff_getElem.1 h5 dn (dn + 1) hd hlt (Nat.lt_succ_self _)
    rw [← zgetD hd, ← zgetD hlt] at hs
    omega
  · by_cases c : i = dn
    · subst c; exact hq q hq'
    · exact h7 i (by omega) hil q hq'
/-- what is found in the end -/
def zwP (S : Int → Int) (d last : Int) (D : Int → Int) : Prop := ∃ l, zbI S d last l.length D l
theorem zwP_le {S : Int → Int} {d last : Int} {D D' : Int → Int} (h : zwP S d last D) (h' : zwP S d last D') : ∀ (n : Nat) (x : Int), zPl x → D x = n → 0 ≤ D' x ∧ D' x ≤ n := by
  obtain ⟨l, h1, h2, h3, h4, h5, h6, h7, h8⟩ := h
  obtain ⟨l', g1, g2, g3, g4, g5, g6, g7, g8⟩ := h'
  intro n
  induction n with
  | zero =>
    intro x hx e
    have hm : x ∈ l := by
      by_cases c : x ∈ l
      · exact c
      · have := h3 x hx c; omega
    rcases h8 x hm with z | ⟨p, p1, p2, p3⟩
    · rw [z, g4.2]; exact ⟨Int.le_refl _, Int.le_refl _⟩
    · have := (h2 p p1).2.1; omega
  | succ n ih =>
    intro x hx e
    have hm : x ∈ l := by
      by_cases c : x ∈ l
      · exact c
      · have := h3 x hx c; omega
    rcases h8 x hm with z | ⟨p, p1, p2, p3⟩
    · rw [z, h4.2] at e; omega
    · have q := ih p (h2 p p1).1.1 (by omega)
      have hm' : p ∈ l' := by
        by_cases c : p ∈ l'
        · exact c
        · have := g3 p (h2 p p1).1.1 c; omega
      obtain ⟨i, i1, i2⟩ := zget_ex hm'
      have := g7 i i1 i1 x (by rw [i2]; exact p3)
      rw [i2] at this
      omega
theorem zwP_eq {S : Int → Int} {d last : Int} {D D' : Int → Int} (h : zwP S d last D) (h' : zwP S d last D') {x : Int} (hx : zPl x) : D x = D' x := by
  have lo : ∀ D, zwP S d last D → D x = -1 ∨ 0 ≤ D x := fun D h => by
    obtain ⟨l, h1, h2, h3, -⟩ := h
    by_cases c : x ∈ l
    · exact Or.inr (h2 x c).2.1
    · exact Or.inl (h3 x hx c)
  have k1 := zwP_le h h' (D x).toNat x hx
  have k2 := zwP_le h' h (D' x).toNat x hx
  rcases lo D h with a | a <;> rcases lo D' h' with b | b
  · omega
  · have := k2 (by omega); omega
  · have := k1 (by omega); omega
  · have q1 := k1 (by omega); have q2 := k2 (by omega); omega
noncomputable def zwD (S : Int → Int) (d last : Int) : Int → Int := Classical.epsilon (zwP S d last)
theorem zwD_e {S : Int → Int} {d last : Int} {D : Int → Int} (h : zwP S d last D) {x : Int} (hx : zPl x) : D x = zwD S d last x := zwP_eq h (Classical.epsilon_spec (p := zwP S d last) ⟨D, h⟩) hx
/-- the first of the way -/
def zwF (S : Int → Int) (d last p v : Int) : Prop := (∃ c, 0 ≤ c ∧ c < 8 ∧ zchg p c = v) ∧ zPl v ∧ zwD S d last v = zwD S d last p - 1 ∧ zbw S p v ≤ d
noncomputable def zwf (S : Int → Int) (d last p : Int) : Int := Classical.epsilon (fun v => zwF S d last p v ∧ ∀ w, zwF S d last p w → v ≤ w)
theorem zwf_e {S : Int → Int} {d last p v : Int} (h : zwF S d last p v) (hm : ∀ w, zwF S d last p w → v ≤ w) : v = zwf S d last p := by
  have := Classical.epsilon_spec (p := fun v => zwF S d last p v ∧ ∀ w, zwF S d last p w → v ≤ w) ⟨v, h, hm⟩
  have a : zwF S d last p (zwf S d last p) := this.1
  have b : ∀ w, zwF S d last p w → zwf S d last p ≤ w := this.2
  have := hm _ a; have := b _ h
  omega
theorem zwF_ex {S : Int → Int} {d last p : Int} {D : Int → Int} (h : zwP S d last D) (hp : zPl p) (h0 : 0 < zwD S d last p) : ∃ v, zwF S d last p v := by
  have e := zwD_e h hp
  obtain ⟨l, hl⟩ := id h
  obtain ⟨h1, h2, h3, h4, h5, h6, h7, h8⟩ := hl
  have hm : p ∈ l := by
    by_cases c : p ∈ l
    · exact c
    · have := h3 p hp c; omega
  rcases h8 p hm with z | ⟨v, v1, v2, v3⟩
  · rw [← e, z, h4.2] at h0; omega
  · have ev := zwD_e h (h2 v v1).1.1
    obtain ⟨a, b, c, f⟩ := zE_sym (h2 v v1).1.1 (h2 v v1).1.2 v3
    exact ⟨v, a, b, by omega, f⟩
theorem zwP_open {S : Int → Int} {d last : Int} {D : Int → Int} (h : zwP S d last D) {x : Int} (hx : zPl x) (h0 : 0 ≤ zwD S d last x) : zopen S x := by
  have e := zwD_e h hx
  obtain ⟨l, h1, h2, h3, -⟩ := id h
  by_cases c : x ∈ l
  · exact (h2 x c).1.2
  · have := h3 x hx c; omega
theorem zwP_r {S : Int → Int} {d last : Int} {D : Int → Int} (h : zwP S d last D) {x : Int} (hx : zPl x) : -1 ≤ zwD S d last x ∧ zwD S d last x ≤ 6561 := by
  have e := zwD_e h hx
  obtain ⟨l, hl⟩ := id h
  have hlen := zbI_len hl
  obtain ⟨h1, h2, h3, -⟩ := hl
  by_cases c : x ∈ l
  · have := (h2 x c).2; omega
  · have := h3 x hx c; omega
/-- the turns of the reference rise -/
theorem zturn_r {t : Int} (ht : 0 ≤ t ∧ t < 8) : 0 ≤ zturn t ∧ zturn t < 8 := by unfold zturn; split <;> omega
theorem zturn_t {c : Int} (hc : 0 ≤ c ∧ c < 8) : zturn (zturn c) = c := by
  by_cases h : c < 4
  · rw [show zturn c = c from if_pos h]; exact if_pos h
  · rw [show zturn c = 11 - c from if_neg h, show zturn (11 - c) = 11 - (11 - c) from if_neg (by omega)]; omega
theorem zchg_v (p : Int) {c : Int} (hc : 0 ≤ c ∧ c < 8) (h : zPl (zchg p c)) : zchg p c = p + (if c = 0 then -729 else if c = 1 then -81 else if c = 2 then -9 else if c = 3 then -1 else if c = 4 then 729 else if c = 5 then 81 else if c = 6 then 9 else 1) := by
  unfold zchg at h ⊢
  by_cases k : 0 ≤ zam p (c % 4) + (if c < 4 then -1 else 1) ∧ zam p (c % 4) + (if c < 4 then -1 else 1) ≤ 8
  · rw [if_pos k]
    have hcc : c = 0 ∨ c = 1 ∨ c = 2 ∨ c = 3 ∨ c = 4 ∨ c = 5 ∨ c = 6 ∨ c = 7 := by omega
    clear h k
    rcases hcc with rfl | rfl | rfl | rfl | rfl | rfl | rfl | rfl <;> rfl
  · rw [if_neg k] at h
    exact absurd h.1 (by decide)
theorem zturn_lt {p t u : Int} (ht : 0 ≤ t) (h : t < u) (hu : u < 8) (h1 : zPl (zchg p (zturn t))) (h2 : zPl (zchg p (zturn u))) : zchg p (zturn t) < zchg p (zturn u) := by
  rw [zchg_v p (zturn_r ⟨ht, by omega⟩) h1, zchg_v p (zturn_r ⟨by omega, hu⟩) h2]
  have a : t = 0 ∨ t = 1 ∨ t = 2 ∨ t = 3 ∨ t = 4 ∨ t = 5 ∨ t = 6 ∨ t = 7 := by omega
  have b : u = 0 ∨ u = 1 ∨ u = 2 ∨ u = 3 ∨ u = 4 ∨ u = 5 ∨ u = 6 ∨ u = 7 := by omega
  clear h1 h2
  rcases a with rfl | rfl | rfl | rfl | rfl | rfl | rfl | rfl <;> rcases b with rfl | rfl | rfl | rfl | rfl | rfl | rfl | rfl <;> first | exact absurd h (by decide) | exact Int.add_lt_add_left (by decide) p
