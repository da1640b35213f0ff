/-! history on both sides -/
theorem zXr.q {P Q : Nat → Int → Prop} {μ μ' : zM} {R : List Int} (h : zXr μ R) (hm : zsr P Q μ μ') (h1 : ¬ P 3 1) (h2 : ∀ j, ¬ P 4 j) : zXr μ' R := h.sm (μ' := (μ'.1, μ.2)) hm.m h1 h2
theorem zU_app_l {U : List (Int → Int)} {S : Int → Int} {k : Nat} (h : k < U.length) : zU (U ++ [S]) k = zU U k := by
  unfold zU
  rw [List.getD_eq_getElem?_getD, List.getD_eq_getElem?_getD, List.getElem?_append_left h]
theorem zU_app_r {U : List (Int → Int)} {S : Int → Int} {k : Nat} (h : k = U.length) : zU (U ++ [S]) k = S := by
  subst h
  unfold zU
  simp
theorem zpush_len (U : List (Int → Int)) (S : Int → Int) (h : U.length ≤ 10) : (zpush U S).length ≤ 10 := by
  unfold zpush
  split
  · rw [List.length_append]; simp; omega
  · rw [List.length_append, List.length_tail]; simp; omega
theorem zpush_mem {U : List (Int → Int)} {S V : Int → Int} (h : V ∈ zpush U S) : V ∈ U ∨ V = S := by
  unfold zpush at h
  split at h
  · rcases List.mem_append.1 h with z | z
    · exact Or.inl z
    · exact Or.inr (List.mem_singleton.1 z)
  · rcases List.mem_append.1 h with z | z
    · exact Or.inl (List.mem_of_mem_tail z)
    · exact Or.inr (List.mem_singleton.1 z)
theorem zslo_ne {g : Int} {k n : Nat} (hk : k < n) (hn : n ≤ 10) : (zslo g k + 7 ≤ zslo g n ∨ zslo g n + 7 ≤ zslo g k) ∧ zslo g k ≠ zslo g n := by
  unfold zslo
  omega
section
variable {G : zG} {μ : zM} {S : Int → Int} {W U : List (Int → Int)} {kp : Int → Int} {K : Int → Int → Int} {T R : List Int}
theorem kX1_draft {F : zM → Prop} (hx : zXg μ S U.length U kp K T R) (hu : U.length ≤ 10) (hc : S 702 * S 703 ≤ 64) (hr : zLr S) (h : ∀ μ', zxm μ μ' → zXg μ' S U.length (U ++ [S]) kp K T R → F μ') : qX1_draft G 5 μ F := by
  obtain ⟨h1, h2, ⟨g, hg, e1, e2, h3⟩, ⟨h4, h5⟩, h6, h7, h8⟩ := hx
  refine eX1_draft fun J C => rX1_draft_e C zSt_5 (eX1_draftSlot fun J C => rX1_draftSlot_e C ?_)
  rw [e1, e2]
  refine ⟨by omega, by omega, kX7_copyFrom (zSt_slot (by omega)) zSt_5 (by omega) (fun p p0 p1 => by rw [h1.2.1 p p0 p1]; exact hr.2 p p0 p1) fun μ1 g1 x1 r1 => ?_⟩
  have ha : ∃ v : Nat, v < 11 ∧ zslo g U.length = 15 + 8 * v := ⟨((g + (U.length : Int)) % 11).toNat, by omega, rfl⟩
  have x1 := x1 S h1 hc
  have g1 : zsr (fun c _ => zslo g U.length ≤ c ∧ c ≤ zslo g U.length + 6) (fun c j => c = zslo g U.length ∧ j = 8) μ μ1 := g1
  have x1 : zXs μ1 (zslo g U.length) S := x1
  have r1 : zr μ1 (zslo g U.length) 8 = zr μ 5 8 := r1
  have hne : ∀ k : Nat, k < U.length → (zslo g k + 7 ≤ zslo g U.length ∨ zslo g U.length + 7 ≤ zslo g k) ∧ zslo g k ≠ zslo g U.length := fun k hk => zslo_ne hk hu
  generalize hga : zslo g U.length = a at *
  obtain ⟨v, hv, rfl⟩ := ha
  have hP : ∀ (b : Nat) (j : Int), (15 + 8 * v ≤ b ∧ b ≤ 15 + 8 * v + 6) → b < 182 ∧ ¬ zlb b := fun b j z => ⟨by omega, fun y => by rcases y with y | ⟨i, hi, y⟩ | y | y | y <;> omega⟩
  have hQ : ∀ (b : Nat) (j : Int), (b = 15 + 8 * v ∧ j = 8) → b < 182 ∧ ¬ zlb b := fun b j z => hP b j (by omega)
  refine h μ1 (g1.xm (fun b j z => by omega) (fun b j z => ⟨5, 8, by decide, by rw [z.1, z.2]; exact r1⟩)) ⟨h1.q g1 (fun b j i0 i1 z => by omega), ?_, ⟨g, hg, ?_, ?_, fun k hk => ?_⟩, ⟨fun i i0 i1 => ⟨?_, fun e => ((h4 i i0 i1).2 e).q g1 (fun b j q0 q1 z => by omega)⟩, fun i i0 i1 e => ?_⟩, ⟨?_, fun k hk => ?_⟩, h7.q g1 (by omega) (by omega), h8.q g1 (by omega)⟩
  · rw [g1.2.1 5 8 (by omega)]; exact h2.q g1 hP hQ
  · rw [g1.1 13 1 (by omega)]; exact e1
  · rw [g1.1 13 2 (by omega)]; exact e2
  · rw [List.length_append, List.length_singleton] at hk
    by_cases c : k < U.length
    · rw [zU_app_l c]
      obtain ⟨n1, n2⟩ := hne k c
      exact ⟨(h3 k c).1.q g1 (fun b j i0 i1 z => by omega), by rw [g1.2.1 _ 8 (fun z => n2 z.1)]; exact (h3 k c).2.q g1 hP hQ⟩
    · have hk2 : k = U.length := by omega
      rw [zU_app_r hk2]
      have : zslo g k = 15 + 8 * v := by rw [hk2]; exact hga
      rw [this]
      exact ⟨x1, by rw [r1]; exact h2.q g1 hP hQ⟩
  · rw [g1.1 104 i (by omega)]; exact (h4 i i0 i1).1
  · rw [g1.2.1 _ 8 (by omega)]; exact (h5 i i0 i1 e).q g1 hP hQ
  · rw [g1.1 1 1 (by omega)]; exact h6.1
  · rw [g1.1 2 k (by omega)]; exact h6.2 k hk
/-- a draft that is not wanted -/
theorem zXg.drop {c : Int} {V : Int → Int} (h : zXg μ S c (U ++ [V]) kp K T R) : zXg μ S c U kp K T R := by
  obtain ⟨h1, h2, ⟨g, hg, e1, e2, h3⟩, h4⟩ := h
  refine ⟨h1, h2, ⟨g, hg, e1, e2, fun k hk => ?_⟩, h4⟩
  have := h3 k (by rw [List.length_append]; omega)
  rw [zU_app_l hk] at this
  exact this
/-- only the places of 13 change -/
theorem zXg.h13 {μ' : zM} {c c' : Int} {P : Nat → Int → Prop} {W' : List (Int → Int)} (h : zXg μ S c W kp K T R) (hm : zsm P μ μ') (hP : ∀ b j, P b j → b = 13) (hh : (∃ g, (0 ≤ g ∧ g < 11) ∧ zi μ 13 1 = g ∧ zi μ 13 2 = c ∧ ∀ k : Nat, k < W.length → zXs μ (zslo g k) (zU W k) ∧ zLnk (zU W k) μ (zr μ (zslo g k) 8)) → ∃ g, (0 ≤ g ∧ g < 11) ∧ zi μ' 13 1 = g ∧ zi μ' 13 2 = c' ∧ ∀ k : Nat, k < W'.length → zXs μ (zslo g k) (zU W' k) ∧ zLnk (zU W' k) μ (zr μ (zslo g k) 8)) : zXg μ' S c' W' kp K T R := by
  obtain ⟨h1, h2, h3, ⟨h4, h5⟩, h6, h7, h8⟩ := h
  have hL : ∀ b j, zlb b → ¬ P b j := fun b j hb z => by
    have := hP b j z
    rcases hb with y | ⟨i, hi, y⟩ | y | y | y <;> omega
  obtain ⟨g, hg, e1, e2, h3⟩ := hh h3
  refine ⟨h1.sm hm (fun b j i0 i1 z => by have := hP b j z; omega), by rw [hm.2.1]; exact h2.sm hm hL, ⟨g, hg, e1, e2, fun k hk => ⟨(h3 k hk).1.sm hm (fun b j i0 i1 z => by have := hP b j z; unfold zslo at *; omega), by rw [hm.2.1]; exact (h3 k hk).2.sm hm hL⟩⟩, ⟨h4.sm hm (fun b j q z => by have := hP b j z; omega), fun i i0 i1 e => by rw [hm.2.1]; exact (h5 i i0 i1 e).sm hm hL⟩, ⟨?_, fun k hk => ?_⟩, h7.sm hm (fun z => by have := hP _ _ z; omega) (fun j z => by have := hP _ _ z; omega), h8.sm hm (fun b j q z => by have := hP b j z; omega)⟩
  · rw [hm.1 1 1 (fun z => by have := hP _ _ z; omega)]; exact h6.1
  · rw [hm.1 2 k (fun z => by have := hP _ _ z; omega)]; exact h6.2 k hk
theorem kX1_settle {F : zM → Prop} {V : Int → Int} (hx : zXg μ S U.length (U ++ [V]) kp K T R) (hu : U.length ≤ 10) (h : ∀ μ', zsm (fun b _ => b = 13) μ μ' → zXa μ' S (zpush U V) kp K T R → F μ') : qX1_settle G μ F := by
  obtain ⟨g, hg, e1, e2, h3⟩ := id hx.2.2.1
  refine eX1_settle fun J C => rX1_settle_e C ?_
  rw [e1, e2]
  refine ⟨by constructor <;> omega, fun c => ⟨by omega, ?_⟩, fun c => ?_⟩
  · have gm : zsm (fun b _ => b = 13) μ (zup μ 13 1 ((g + 1) % 11)) := (zsm.refl _ _).up _ rfl
    have hz : zpush U V = U.tail ++ [V] := by unfold zpush; rw [if_neg (by omega)]
    have hl : (zpush U V).length = U.length := by rw [hz, List.length_append, List.length_tail]; simp; omega
    refine h _ gm ⟨by omega, ?_⟩
    rw [hl]
    refine hx.h13 gm (fun b j z => z) (fun _ => ⟨(g + 1) % 11, by omega, zi_at, by rw [zi_off (by omega)]; exact e2, fun k hk => ?_⟩)
    rw [hl] at hk
    have e : zU (zpush U V) k = zU (U ++ [V]) (k + 1) := by
      rw [hz]
      cases U with
      | nil => simp at c
      | cons x U => rfl
    have es : zslo ((g + 1) % 11) k = zslo g (k + 1) := by
      show 15 + 8 * (((g + 1) % 11 + (k : Int)) % 11).toNat = 15 + 8 * ((g + ((k + 1 : Nat) : Int)) % 11).toNat
      omega
    rw [e, es]
    exact h3 (k + 1) (by rw [List.length_append]; simp; omega)
  · have gm : zsm (fun b _ => b = 13) μ (zup μ 13 2 ((U.length : Int) + 1)) := (zsm.refl _ _).up _ rfl
    have hz : zpush U V = U ++ [V] := by unfold zpush; rw [if_pos (by omega)]
    have hl : (zpush U V).length = U.length + 1 := by rw [hz, List.length_append]; rfl
    refine h _ gm ⟨by omega, ?_⟩
    rw [hl]
    refine hx.h13 gm (fun b j z => z) (fun _ => ⟨g, hg, by rw [zi_off (by omega)]; exact e1, zi_at, fun k hk => ?_⟩)
    rw [hz] at hk ⊢
    exact h3 k hk
theorem kX10_settled {F : Int → zM → Prop} {V : Int → Int} {v : Int} (iv : zin v) (hx : zXg μ S U.length (U ++ [V]) kp K T R) (hu : U.length ≤ 10) (hn : v < 0 → zXa μ S U kp K T R → F v μ) (hp : 0 ≤ v → ∀ μ', zxm μ μ' → zXa μ' S (zpush U V) kp K T R → F v μ') : qX10_settled G v μ F :=
  eX10_settled fun J C => rX10_settled_e C _ ⟨iv, fun c => hn c ⟨hu, hx.drop⟩, fun c => kX1_settle hx hu fun μ1 g1 x1 => hp (by omega) μ1 (g1.xm (fun b j z => by omega)) x1⟩
theorem kX11_note {F : zM → Prop} {S : Int → Int} (hU : zMu μ U) (hS : ∀ i, 0 ≤ i → i < 711 → zi μ 177 i = S i) (h : ∀ μ', zsm (fun b j => b = 175 ∨ (b = 153 ∧ j = 39)) μ μ' → zMu μ' (zpush U S) → F μ') : qX11_note G μ F := by
  obtain ⟨hu, e, hm⟩ := hU
  refine eX11_note fun J C => rX11_note_e C ?_
  -- the last part: what lies ahead is laid behind
  have fin : ∀ (V : List (Int → Int)) (μ1 : zM), zsm (fun b j => b = 175 ∨ (b = 153 ∧ j = 39)) μ μ1 → V.length ≤ 9 → zi μ1 153 39 = V.length → (∀ k : Nat, k < V.length → ∀ i, 0 ≤ i → i < 711 → zi μ1 175 (711 * k + i) = zU V k i) → V ++ [S] = zpush U S → J 52 ([some (zR (some 153)), some (zI 0)], [], μ1, 0, 0) := by
    intro V μ1 g1 hv e1 m1 hz
    have e2 : zi μ1 153 39 = V.length := e1
    refine zfor (lo := 0) (hi := 711) (by decide) (P := fun n => ∀ μ2, zsm (fun b _ => b = 175) μ1 μ2 → (∀ k : Nat, k < V.length → ∀ i, 0 ≤ i → i < 711 → zi μ2 175 (711 * k + i) = zU V k i) → (∀ i, 0 ≤ i → i < n → zi μ2 175 (711 * (V.length : Int) + i) = S i) → J 52 ([some (zR (some 153)), some (zI n)], [], μ2, 0, 0)) ?_ ?_ μ1 (zsm.refl _ _) m1 (fun i i0 i1 => absurd i1 (by omega))
    · intro μ2 g2 m2 s2
      have e3 : zi μ2 153 39 = V.length := by rw [g2.1 _ _ (by omega)]; exact e1
      refine rX11_note_52 C _ ⟨by decide, fun _ => h _ ((g1.trans (g2.mono (fun b j => by omega))).up _ (Or.inr ⟨rfl, rfl⟩)) ?_, fun z => absurd (by decide) z⟩
      rw [← hz]
      refine ⟨by rw [List.length_append]; simp; omega, by rw [zi_at, e3, List.length_append]; simp, fun k hk i i0 i1 => ?_⟩
      rw [List.length_append, List.length_singleton] at hk
      rw [zi_off (by omega)]
      by_cases c : k < V.length
      · rw [zU_app_l c]; exact m2 k c i i0 i1
      · have hk2 : k = V.length := by omega
        rw [zU_app_r hk2, hk2]; exact s2 i i0 i1
    · intro n n0 n1 ih μ2 g2 m2 s2
      have e3 : zi μ2 153 39 = V.length := by rw [g2.1 _ _ (by omega)]; exact e1
      refine rX11_note_52 C _ ⟨by constructor <;> omega, fun z => absurd z (by omega), fun _ => ⟨⟨n0, n1⟩, by rw [e3]; omega, ?_⟩⟩
      rw [e3]
      have e4 : zi μ2 177 n = S n := by rw [g2.1 _ _ (by omega), g1.1 _ _ (by omega)]; exact hS n n0 n1
      rw [e4]
      refine ih _ (g2.up _ rfl) (fun k hk i i0 i1 => ?_) (fun i i0 i1 => ?_)
      · rw [zi_off (by omega)]; exact m2 k hk i i0 i1
      · by_cases c : i = n
        · subst c; exact zi_at
        · rw [zi_off (by omega)]; exact s2 i i0 (by omega)
  rw [e]
  refine ⟨by constructor <;> omega, fun c => ?_, fun c => ?_⟩
  · exact fin U μ (zsm.refl _ _) (by omega) e hm (by unfold zpush; rw [if_pos (by omega)])
  · refine zfor (lo := 0) (hi := 6399) (by decide) (P := fun n => ∀ μ1, zsm (fun b _ => b = 175) μ μ1 → (∀ i, 0 ≤ i → i < n → zi μ1 175 i = zi μ 175 (i + 711)) → (∀ i, n ≤ i → zi μ1 175 i = zi μ 175 i) → J 11 ([some (zR (some 153)), some (zI n)], [], μ1, 0, 0)) ?_ ?_ μ (zsm.refl _ _) (fun i i0 i1 => absurd i1 (by omega)) (fun i _ => rfl)
    · intro μ1 g1 a1 b1
      have e3 : zi μ1 153 39 = U.length := by rw [g1.1 _ _ (by omega)]; exact e
      refine rX11_note_11 C _ ⟨by decide, fun _ => ?_, fun z => absurd (by decide) z⟩
      rw [e3]
      have hl : U.tail.length = U.length - 1 := List.length_tail
      refine fin U.tail _ ((g1.mono (fun b j => by omega)).up _ (Or.inr ⟨rfl, rfl⟩)) (by omega) (by rw [zi_at]; omega) (fun k hk i i0 i1 => ?_) (by unfold zpush; rw [if_neg (by omega)])
      rw [zi_off (by omega), a1 _ (by omega) (by omega)]
      have eu : zU U.tail k = zU U (k + 1) := by
        cases U with
        | nil => simp at hk
        | cons x U => rfl
      rw [eu, ← hm (k + 1) (by omega) i i0 i1]
      congr 1
      omega
    · intro n n0 n1 ih μ1 g1 a1 b1
      refine rX11_note_11 C _ ⟨by constructor <;> omega, fun z => absurd z (by omega), fun _ => ⟨by omega, by omega, ?_⟩⟩
      refine ih _ (g1.up _ rfl) (fun i i0 i1 => ?_) (fun i i0 => ?_)
      · by_cases c : i = n
        · subst c; rw [zi_at]; exact b1 _ (by omega)
        · rw [zi_off (by omega)]; exact a1 i i0 (by omega)
      · rw [zi_off (by omega)]; exact b1 i (by omega)
theorem kX11_change {F : zM → Prop} (hM : zMs μ S) (hU : zMu μ U) (h : ∀ μ', zsm (fun b j => b = 175 ∨ b = 177 ∨ (b = 153 ∧ j = 39)) μ μ' → zMu μ' (zpush U S) → F μ') : qX11_change G μ F := by
  refine eX11_change fun J C => rX11_change_e C ?_
  refine zfor (lo := 0) (hi := 711) (by decide) (P := fun n => ∀ μ1, zsm (fun b _ => b = 177) μ μ1 → (∀ i, 0 ≤ i → i < n → zi μ1 177 i = S i) → J 2 ([some (zR (some 153)), some (zI n)], [], μ1, 0, 0)) ?_ ?_ μ (zsm.refl _ _) (fun i i0 i1 => absurd i1 (by omega))
  · intro μ1 g1 a1
    exact rX11_change_2 C _ ⟨by decide, fun _ => kX11_note (hU.sm g1 (by omega) (by omega)) a1 fun μ2 g2 u2 => h μ2 ((g1.mono (fun b j => by omega)).trans (g2.mono (fun b j => by omega))) u2, fun z => absurd (by decide) z⟩
  · intro n n0 n1 ih μ1 g1 a1
    refine rX11_change_2 C _ ⟨by constructor <;> omega, fun z => absurd z (by omega), fun _ => ⟨⟨n0, n1⟩, ?_⟩⟩
    rw [hM.sm g1 (by omega) n n0 n1]
    refine ih _ (g1.up _ rfl) (fun i i0 i1 => ?_)
    by_cases c : i = n
    · subst c; exact zi_at
    · rw [zi_off (by omega)]; exact a1 i i0 (by omega)
end
