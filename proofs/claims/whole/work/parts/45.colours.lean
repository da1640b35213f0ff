/-! colours of all places; S is a state as the reference holds it -/
abbrev zSet (S : Int → Int) : Prop := (0 ≤ S 704 ∧ S 704 ≤ 32) ∧ (0 ≤ S 705 ∧ S 705 ≤ 4) ∧ (0 ≤ S 706 ∧ S 706 ≤ 99999) ∧ (0 ≤ S 707 ∧ S 707 ≤ 8) ∧ (1 ≤ S 708 ∧ S 708 ≤ 9) ∧ (1 ≤ S 709 ∧ S 709 ≤ 9) ∧ (1 ≤ S 710 ∧ S 710 ≤ 9)
def zXs (μ : zM) (s : Nat) (S : Int → Int) : Prop :=
  (∀ p, 0 ≤ p → p < 243 → zi μ (s + 1) p = S p) ∧ (∀ p, 0 ≤ p → p < 81 → zi μ (s + 2) p = S (243 + p)) ∧ (∀ i, 0 ≤ i → i < 7 → zi μ (s + 3) i = S (704 + i)) ∧
  (∀ i, 0 ≤ i → i < 36 → zi μ (s + 4) i = S (324 + i)) ∧ (∀ i, 0 ≤ i → i < 24 → zi μ (s + 5) i = S (614 + i)) ∧ zi μ s 6 = S 702 ∧ zi μ s 7 = S 703 ∧ (∀ i, 0 ≤ i → i < S 702 * S 703 → zi μ (s + 6) i = S (638 + i))
def zMs (μ : zM) (S : Int → Int) : Prop := ∀ i, 0 ≤ i → i < 711 → zi μ 154 i = S i
theorem zXs.sm {P : Nat → Int → Prop} {μ μ' : zM} {s : Nat} {S : Int → Int} (h : zXs μ s S) (hm : zsm P μ μ') (hP : ∀ b j, s ≤ b → b ≤ s + 6 → ¬ P b j) : zXs μ' s S := by
  obtain ⟨h1, h2, h3, h4, h5, h6, h7, h8⟩ := h
  refine ⟨?_, ?_, ?_, ?_, ?_, ?_, ?_, ?_⟩
  · intro i h0 hi; rw [hm.1 _ _ (hP _ _ (by omega) (by omega))]; exact h1 i h0 hi
  · intro i h0 hi; rw [hm.1 _ _ (hP _ _ (by omega) (by omega))]; exact h2 i h0 hi
  · intro i h0 hi; rw [hm.1 _ _ (hP _ _ (by omega) (by omega))]; exact h3 i h0 hi
  · intro i h0 hi; rw [hm.1 _ _ (hP _ _ (by omega) (by omega))]; exact h4 i h0 hi
  · intro i h0 hi; rw [hm.1 _ _ (hP _ _ (by omega) (by omega))]; exact h5 i h0 hi
  · rw [hm.1 _ _ (hP _ _ (by omega) (by omega))]; exact h6
  · rw [hm.1 _ _ (hP _ _ (by omega) (by omega))]; exact h7
  · intro i h0 hi; rw [hm.1 _ _ (hP _ _ (by omega) (by omega))]; exact h8 i h0 hi
theorem zMs.sm {P : Nat → Int → Prop} {μ μ' : zM} {S : Int → Int} (h : zMs μ S) (hm : zsm P μ μ') (hP : ∀ j, ¬ P 154 j) : zMs μ' S := fun i h0 hi => by
  rw [hm.1 _ _ (hP _)]; exact h i h0 hi
def zlg (S : Int → Int) (i : Int) : Int := zlt S (i / 3) (i % 3)
def zC (S : Int → Int) (p b : Int) : Int := zcol (zlg S) p b
theorem zlg_at (S : Int → Int) {p b : Int} (hb : 0 ≤ b ∧ b < 3) : zlg S (3 * p + b) = zlt S p b := by
  unfold zlg
  rw [show (3 * p + b) / 3 = p by omega, show (3 * p + b) % 3 = b by omega]
theorem zlg_r {S : Int → Int} (hr : zLr S) (i : Int) (h0 : 0 ≤ i) (h1 : i < 243) : 0 ≤ zlg S i ∧ zlg S i ≤ 100 := zlt_r hr ⟨by omega, by omega⟩ ⟨by omega, by omega⟩
theorem zC_r {S : Int → Int} (hr : zLr S) {p b : Int} (hb : 0 ≤ b ∧ b < 3) : 0 ≤ zC S p b ∧ zC S p b ≤ 400 := zcol_r (fun i h0 h1 => zlg_r hr i h0 h1) hb
theorem zcol_c {L L' : Int → Int} (h : ∀ i, 0 ≤ i → i < 243 → L i = L' i) {p b : Int} (hb : 0 ≤ b ∧ b < 3) : zcol L p b = zcol L' p b := by
  have e : ∀ n : Nat, n ≤ 5 → zcl L p b n = zcl L' p b n := by
    intro n
    induction n with
    | zero => intro _; rfl
    | succ n ih =>
      intro hn
      have := zpt_r p (k := n) (by omega)
      rw [zcl, zcl, ih (by omega), h _ (by omega) (by omega)]
  exact e 5 (by decide)
/-- the open places -/
abbrev zopen (S : Int → Int) (p : Int) : Prop := ztot p ≤ S 704 ∧ zam p 3 ≤ S 707
def zol (S : Int → Int) : Nat → List Int
  | 0 => []
  | n + 1 => zol S n ++ (if zopen S n then [(n : Int)] else [])
theorem zol_len (S : Int → Int) : ∀ n, (zol S n).length ≤ n
  | 0 => Nat.le_refl _
  | n + 1 => by
    have := zol_len S n
    unfold zol
    rw [List.length_append]
    split <;> simp <;> omega
theorem zol_mem (S : Int → Int) (x : Int) : ∀ n : Nat, x ∈ zol S n ↔ (0 ≤ x ∧ x < n) ∧ zopen S x
  | 0 => by unfold zol; simp; omega
  | n + 1 => by
    unfold zol
    rw [List.mem_append, zol_mem S x n]
    split
    · rename_i h
      rw [List.mem_singleton]
      constructor
      · rintro (⟨h1, h2⟩ | h1)
        · exact ⟨⟨h1.1, by omega⟩, h2⟩
        · subst h1; exact ⟨⟨by omega, by omega⟩, h⟩
      · rintro ⟨h1, h2⟩
        by_cases hx : x = n
        · exact Or.inr hx
        · exact Or.inl ⟨⟨h1.1, by omega⟩, h2⟩
    · rename_i h
      constructor
      · rintro (⟨h1, h2⟩ | h1)
        · exact ⟨⟨h1.1, by omega⟩, h2⟩
        · exact absurd h1 List.not_mem_nil
      · rintro ⟨h1, h2⟩
        by_cases hx : x = n
        · subst hx; exact absurd h2 h
        · exact Or.inl ⟨⟨h1.1, by omega⟩, h2⟩
theorem zol_sorted (S : Int → Int) : ∀ n : Nat, (zol S n).Pairwise (· < ·)
  | 0 => List.Pairwise.nil
  | n + 1 => by
    unfold zol
    rw [List.pairwise_append]
    refine ⟨zol_sorted S n, ?_, ?_⟩
    · split
      · exact List.pairwise_singleton _ _
      · exact List.Pairwise.nil
    · intro a ha b hb
      have := ((zol_mem S a n).1 ha).1
      split at hb
      · rw [List.mem_singleton] at hb; omega
      · exact absurd hb List.not_mem_nil
theorem zgetD {l : List Int} {k : Nat} (h : k < l.length) : l.getD k 0 = l[k] := by rw [List.getD_eq_getElem?_getD, List.getElem?_eq_getElem h]; rfl
theorem zol_g1 {S : Int → Int} {n k : Nat} (h : k < (zol S n).length) : (0 ≤ (zol S n).getD k 0 ∧ (zol S n).getD k 0 < n) ∧ zopen S ((zol S n).getD k 0) := by
  rw [zgetD h]
  exact (zol_mem S _ n).1 (List.getElem_mem _)
theorem zol_g2 {S : Int → Int} {n k l : Nat} (h : k < l) (hl : l < (zol S n).length) : (zol S n).getD k 0 < (zol S n).getD l 0 := by
  rw [zgetD hl, zgetD (Nat.lt_trans h hl)]
  exact List.pairwise_iff_getElem.1 (zol_sorted S n) k l _ hl h
theorem zol_g3 {S : Int → Int} {n : Nat} {p : Int} (h0 : 0 ≤ p) (h1 : p < n) (ho : zopen S p) : ∃ k, k < (zol S n).length ∧ (zol S n).getD k 0 = p := by
  obtain ⟨k, hk, e⟩ := List.getElem_of_mem ((zol_mem S p n).2 ⟨⟨h0, h1⟩, ho⟩)
  exact ⟨k, hk, by rw [zgetD hk]; exact e⟩
/-- 6561, kept closed -/
theorem z65 : ∃ n : Nat, n = 6561 := ⟨6561, rfl⟩
noncomputable def zN65 : Nat := Classical.choose z65
theorem zN65_e : zN65 = 6561 := Classical.choose_spec z65
/-- the k-th open place, how many they are -/
noncomputable def zO (S : Int → Int) (k : Nat) : Int := (zol S zN65).getD k 0
noncomputable def zON (S : Int → Int) : Nat := (zol S zN65).length
theorem zON_le (S : Int → Int) : zON S ≤ 6561 := by
  have := zol_len S zN65
  rw [← zN65_e]; exact this
theorem zO_mem {S : Int → Int} {k : Nat} (h : k < zON S) : zPl (zO S k) ∧ zopen S (zO S k) := by
  obtain ⟨⟨h1, h2⟩, h3⟩ := zol_g1 (S := S) (n := zN65) (k := k) h
  have e := zN65_e
  exact ⟨⟨h1, by unfold zO; omega⟩, h3⟩
theorem zO_lt {S : Int → Int} {k l : Nat} (h : k < l) (hl : l < zON S) : zO S k < zO S l := zol_g2 (n := zN65) h hl
theorem zO_ex {S : Int → Int} {p : Int} (hp : zPl p) (ho : zopen S p) : ∃ k, k < zON S ∧ zO S k = p := zol_g3 (n := zN65) hp.1 (by have := hp.2; rw [zN65_e]; omega) ho
theorem zopen0 {S : Int → Int} (hs : zSet S) : zopen S 0 := ⟨hs.1.1, hs.2.2.2.1.1⟩
theorem zON_pos {S : Int → Int} (hs : zSet S) : 0 < zON S := by
  obtain ⟨k, hk, -⟩ := zO_ex (p := 0) (by decide) (zopen0 hs)
  omega
theorem zO_0 {S : Int → Int} (hs : zSet S) : zO S 0 = 0 := by
  obtain ⟨k, hk, e⟩ := zO_ex (p := 0) (by decide) (zopen0 hs)
  by_cases h : k = 0
  · rw [← h]; exact e
  · have := zO_lt (S := S) (k := 0) (l := k) (by omega) hk
    have := (zO_mem (S := S) (k := 0) (by omega)).1.1
    omega
theorem zol_at {S : Int → Int} {n : Nat} (f : Int → Int) (hf : ∀ k : Nat, k < (zol S n).length → f k = (zol S n).getD k 0) (h : zopen S n) (hn : f (zol S n).length = n) : ∀ k : Nat, k < (zol S (n + 1)).length → f k = (zol S (n + 1)).getD k 0 := by
  intro k hk
  have e : zol S (n + 1) = zol S n ++ [(n : Int)] := by rw [zol, if_pos h]
  rw [e] at hk ⊢
  rw [List.length_append] at hk
  by_cases hc : k < (zol S n).length
  · rw [hf k hc, List.getD_eq_getElem?_getD, List.getD_eq_getElem?_getD, List.getElem?_append_left hc]
  · have hk2 : k = (zol S n).length := by simp at hk; omega
    subst hk2
    rw [hn, List.getD_eq_getElem?_getD, List.getElem?_append_right (Nat.le_refl _)]
    simp
/-- what a chart is -/
def zchis (μ : zM) (a : Nat) (S : Int → Int) : Prop := (∀ i, 0 ≤ i → i < 243 → zi μ (a + 1) i = zlg S i) ∧ ∀ p b, zPl p → 0 ≤ b → b < 3 → zi μ (a + 2) (p * 3 + b) = zC S p b
def zcho (μ : zM) (a : Nat) : Prop := (∀ i, 0 ≤ i → i < 243 → zi μ (a + 1) i = -1) ∨ ∃ S, zLr S ∧ zchis μ a S
theorem zchis.sm {P : Nat → Int → Prop} {μ μ' : zM} {a : Nat} {S : Int → Int} (h : zchis μ a S) (hm : zsm P μ μ') (hP : ∀ b j, a + 1 ≤ b → b ≤ a + 2 → ¬ P b j) : zchis μ' a S :=
  ⟨fun i h0 h1 => by rw [hm.1 _ _ (hP _ _ (by omega) (by omega))]; exact h.1 i h0 h1, fun p b hp h0 h1 => by rw [hm.1 _ _ (hP _ _ (by omega) (by omega))]; exact h.2 p b hp h0 h1⟩
theorem zcho.sm {P : Nat → Int → Prop} {μ μ' : zM} {a : Nat} (h : zcho μ a) (hm : zsm P μ μ') (hP : ∀ b j, a + 1 ≤ b → b ≤ a + 2 → ¬ P b j) : zcho μ' a := by
  rcases h with h | ⟨S, hS, h⟩
  · exact Or.inl fun i h0 h1 => by rw [hm.1 _ _ (hP _ _ (by omega) (by omega))]; exact h i h0 h1
  · exact Or.inr ⟨S, hS, h.sm hm hP⟩
section
variable {G : zG} {μ : zM} {S : Int → Int}
theorem kX0_reckon {F : zM → Prop} {a : Nat} (ha : zIsCh a) {L : Int → Int} (hL : ∀ i, 0 ≤ i → i < 243 → zi μ (a + 1) i = L i) {p : Int} (hp : zPl p) (h : ∀ μ', zsm (fun b j => b = a + 3 ∨ b = a + 4 ∨ b = a + 5 ∨ (b = a + 2 ∧ 3 * p ≤ j ∧ j < 3 * p + 3)) μ μ' → (∀ b, 0 ≤ b → b < 3 → zi μ' (a + 2) (p * 3 + b) = zcol L p b) → F μ') : qX0_reckon G a p μ F := by
  refine eX0_reckon fun J C => rX0_reckon_e C ha _ (kX0_goTo ha hp fun μ1 hs1 hw1 => ?_)
  have hs1 := hs1.mono (Q := fun b j => b = a + 3 ∨ b = a + 4 ∨ b = a + 5 ∨ (b = a + 2 ∧ 3 * p ≤ j ∧ j < 3 * p + 3)) (fun b j => by omega)
  refine znfor (N := 3) (P := fun n => ∀ μ', zsm (fun b j => b = a + 3 ∨ b = a + 4 ∨ b = a + 5 ∨ (b = a + 2 ∧ 3 * p ≤ j ∧ j < 3 * p + 3)) μ μ' → (∀ k : Nat, k ≤ 4 → zi μ' (a + 3) k = zpt p k ∧ zi μ' (a + 4) k = zcnt p k) → (∀ b : Int, 0 ≤ b → b < n → zi μ' (a + 2) (p * 3 + b) = zcol L p b) → J 7 ([some (zR (some a)), some (zI p), some (zI (n : Int)), none, none], [], μ', 0, 0)) ?_ ?_ μ1 hs1 hw1 (fun b h0 h1 => absurd h0 (by omega))
  · intro μ2 hs hw hnn
    exact rX0_reckon_7 C ha _ _ ⟨by decide, fun _ => h μ2 hs (fun b h0 h1 => hnn b h0 (by omega)), fun c => absurd (by decide) c⟩
  · intro n hn hj μ2 hs hw hnn
    refine rX0_reckon_7 C ha _ _ ⟨by constructor <;> omega, fun c => absurd c (by omega), fun _ => ?_⟩
    refine znfor (N := 5) (P := fun k => J 17 ([some (zR (some a)), some (zI p), some (zI (n : Int)), some (zI (zcl L p n k)), some (zI (k : Int))], [], μ2, 0, 0)) ?_ ?_
    · refine rX0_reckon_17 C ha _ _ _ _ ⟨by decide, fun _ => ⟨by obtain ⟨q1, q2⟩ := hp; constructor <;> omega, ?_⟩, fun c => absurd (by decide) c⟩
      refine hj _ (hs.up _ (by omega)) ?_ ?_
      · intro k hk
        rw [zi_off (by omega), zi_off (by omega)]
        exact hw k hk
      · intro b h0 h1
        by_cases hb : b = n
        · subst hb; exact zi_at
        · rw [zi_off (by omega)]; exact hnn b h0 (by omega)
    · intro k hk hj2
      have hz := zpt_r p (k := k) (by omega)
      refine rX0_reckon_17 C ha _ _ _ _ ⟨by constructor <;> omega, fun c => absurd c (by omega), fun _ => ⟨by omega, ?_⟩⟩
      obtain ⟨w1, w2⟩ := hw k (by omega)
      rw [w1, w2]
      refine ⟨by omega, ?_⟩
      rw [show zi μ2 (a + 1) (zpt p k * 3 + n) = L (3 * zpt p k + n) by
        rw [hs.1 _ _ (by omega), hL _ (by omega) (by omega)]; congr 1; omega]
      exact hj2
theorem kX0_follow {F : zM → Prop} {a s : Nat} (ha : zIsCh a) (hs : zIsSt s) (hd : s + 6 < a ∨ a + 5 < s) (hX : zXs μ s S) (hr : zLr S) (hc : zcho μ a) (h : ∀ μ', zsm (fun b _ => a < b ∧ b ≤ a + 5) μ μ' → zchis μ' a S → F μ') : qX0_follow G a s μ F := by
  refine eX0_follow fun J C => rX0_follow_e C ha hs ?_
  refine znfor (N := 81) (P := fun n => ∀ (μ' : zM) (x : Int), zsm (fun b _ => b = a + 1) μ μ' → (∀ i, 0 ≤ i → i < 3 * (n : Int) → zi μ' (a + 1) i = zlg S i) → (x = 0 ∨ x = 1) → (x = 0 → ∀ i, zi μ' (a + 1) i = zi μ (a + 1) i) → (∀ i, 3 * (n : Int) ≤ i → i < 243 → zi μ' (a + 1) i = zi μ (a + 1) i) → J 4 ([some (zR (some a)), some (zR (some s)), some (zI x), some (zI (n : Int)), none, none], [], μ', 0, 0)) ?_ ?_ μ 0 (zsm.refl _ _) (fun i h0 h1 => absurd h0 (by omega)) (Or.inl rfl) (fun _ _ => rfl) (fun _ _ _ => rfl)
  · intro μ1 x h1 h2 h3 h4 h5
    refine rX0_follow_4 C ha hs _ _ ⟨by decide, fun _ => ⟨by constructor <;> omega, fun hx => ?_, fun hx => ?_⟩, fun c => absurd (by decide) c⟩
    · refine h μ1 (h1.mono (fun b j => by omega)) ?_
      rcases hc with hc | ⟨S', hS', hc⟩
      · exfalso
        have e1 := h2 0 (by decide) (by decide)
        rw [h4 hx 0, hc 0 (by decide) (by decide)] at e1
        have := zlg_r hr 0 (by decide) (by decide)
        omega
      · refine ⟨fun i q0 q1 => h2 i q0 (by omega), fun p b hp q0 q1 => ?_⟩
        rw [h1.1 _ _ (by omega), hc.2 p b hp q0 q1]
        refine zcol_c (fun i r0 r1 => ?_) ⟨q0, q1⟩
        rw [← h2 i r0 (by omega), h4 hx i, hc.1 i r0 r1]
    · refine zfor (lo := 0) (hi := 6561) (by decide) (P := fun p => ∀ μ', zsm (fun b _ => a < b ∧ b ≤ a + 5) μ μ' → (∀ i, 0 ≤ i → i < 243 → zi μ' (a + 1) i = zlg S i) → (∀ q b, 0 ≤ q → q < p → 0 ≤ b → b < 3 → zi μ' (a + 2) (q * 3 + b) = zC S q b) → J 77 ([some (zR (some a)), none, none, some (zI p), none, none], [], μ', 0, 0)) ?_ ?_ μ1 (h1.mono (fun b j => by omega)) (fun i q0 q1 => h2 i q0 (by omega)) (fun q b r0 r1 => absurd r0 (by omega))
      · intro μ2 g1 g2 g3
        exact rX0_follow_77 C ha _ ⟨by decide, fun _ => h μ2 g1 ⟨g2, fun p b hp q0 q1 => g3 p b hp.1 hp.2 q0 q1⟩, fun c => absurd (by decide) c⟩
      · intro p p0 p1 hj μ2 g1 g2 g3
        refine rX0_follow_77 C ha _ ⟨by constructor <;> omega, fun c => absurd c (by omega), fun _ => kX0_reckon ha g2 ⟨p0, p1⟩ fun μ3 k1 k2 => ?_⟩
        refine hj μ3 (g1.trans (k1.mono (fun b j => by omega))) (fun i q0 q1 => by rw [k1.1 _ _ (by omega)]; exact g2 i q0 q1) (fun q b q0 q1 b0 b1 => ?_)
        by_cases hq : q = p
        · subst hq; exact k2 b b0 b1
        · rw [k1.1 _ _ (by omega)]; exact g3 q b q0 (by omega) b0 b1
  · intro n hn hj μ1 x h1 h2 h3 h4 h5
    refine rX0_follow_4 C ha hs _ _ ⟨by constructor <;> omega, fun c => absurd c (by omega), fun _ => ?_⟩
    refine znfor (N := 3) (P := fun m => ∀ (μ' : zM) (x : Int), zsm (fun b _ => b = a + 1) μ μ' → (∀ i, 0 ≤ i → i < 3 * (n : Int) + m → zi μ' (a + 1) i = zlg S i) → (x = 0 ∨ x = 1) → (x = 0 → ∀ i, zi μ' (a + 1) i = zi μ (a + 1) i) → (∀ i, 3 * (n : Int) + m ≤ i → i < 243 → zi μ' (a + 1) i = zi μ (a + 1) i) → J 13 ([some (zR (some a)), some (zR (some s)), some (zI x), some (zI (n : Int)), some (zI (m : Int)), none], [], μ', 0, 0)) ?_ ?_ μ1 x h1 (fun i q0 q1 => h2 i q0 (by omega)) h3 h4 (fun i q0 q1 => h5 i (by omega) q1)
    · intro μ2 x2 g1 g2 g3 g4 g5
      exact rX0_follow_13 C ha hs _ _ _ ⟨by decide, fun _ => hj μ2 x2 g1 (fun i q0 q1 => g2 i q0 (by omega)) g3 g4 (fun i q0 q1 => g5 i (by omega) q1), fun c => absurd (by decide) c⟩
    · intro m hm hj2 μ2 x2 g1 g2 g3 g4 g5
      have hX2 := hX.sm g1 (fun b j _ _ => by omega)
      have hl := zlt_r hr (p := n) (b := m) ⟨by omega, by omega⟩ ⟨by omega, by omega⟩
      have el : zlg S (3 * n + m) = zlt S n m := zlg_at S ⟨by omega, by omega⟩
      have eo : zi μ2 (a + 1) (n * 3 + m) = zi μ (a + 1) (3 * n + m) := by rw [g5 _ (by omega) (by omega)]; congr 1; omega
      have ho : zin (zi μ (a + 1) (3 * n + m)) := by
        rcases hc with hc | ⟨S', hS', hc⟩
        · rw [hc _ (by omega) (by omega)]; decide
        · rw [hc.1 _ (by omega) (by omega)]; have := zlg_r hS' (3 * n + m) (by omega) (by omega); constructor <;> omega
      refine rX0_follow_13 C ha hs _ _ _ ⟨by constructor <;> omega, fun c => absurd c (by omega), fun _ => kX7_lightOf hs hX2.1 hX2.2.1 hr ⟨by omega, by omega⟩ ⟨by omega, by omega⟩ ?_⟩
      rw [eo]
      refine ⟨⟨by omega, by omega⟩, ho, by constructor <;> omega, fun c => ?_, fun c => ?_⟩
      · refine hj2 μ2 x2 g1 (fun i q0 q1 => ?_) g3 g4 (fun i q0 q1 => g5 i (by omega) q1)
        by_cases hi : i = 3 * n + m
        · subst hi; rw [el, ← c, ← eo]; congr 1; omega
        · exact g2 i q0 (by omega)
      · refine hj2 _ 1 (g1.up _ rfl) (fun i q0 q1 => ?_) (Or.inr rfl) (fun q => absurd q (by decide)) (fun i q0 q1 => by rw [zi_off (by omega)]; exact g5 i (by omega) q1)
        by_cases hi : i = 3 * n + m
        · rw [zi_up, if_pos ⟨rfl, by omega⟩, hi, el]
        · rw [zi_off (by omega)]; exact g2 i q0 (by omega)
end
