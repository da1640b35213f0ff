/-! rows; what the class keeps between calls -/
def zXr (μ : zM) (R : List Int) : Prop := R.length ≤ 9 ∧ zi μ 3 1 = R.length ∧ ∀ k : Nat, k < R.length → zi μ 4 k = R.getD k 0
def zMr (μ : zM) (R : List Int) : Prop := R.length ≤ 9 ∧ zi μ 153 4 = R.length ∧ ∀ k : Nat, k < R.length → zi μ 156 k = R.getD k 0
theorem zXr.sm {P : Nat → Int → Prop} {μ μ' : zM} {R : List Int} (h : zXr μ R) (hm : zsm P μ μ') (h1 : ¬ P 3 1) (h2 : ∀ j, ¬ P 4 j) : zXr μ' R := ⟨h.1, by rw [hm.1 _ _ h1]; exact h.2.1, fun k hk => by rw [hm.1 _ _ (h2 _)]; exact h.2.2 k hk⟩
theorem zMr.sm {P : Nat → Int → Prop} {μ μ' : zM} {R : List Int} (h : zMr μ R) (hm : zsm P μ μ') (h1 : ¬ P 153 4) (h2 : ∀ j, ¬ P 156 j) : zMr μ' R := ⟨h.1, by rw [hm.1 _ _ h1]; exact h.2.1, fun k hk => by rw [hm.1 _ _ (h2 _)]; exact h.2.2 k hk⟩
theorem zMr.nil (μ : zM) : zMr (zup μ 153 4 0) [] := ⟨Nat.zero_le _, zi_at, fun k hk => absurd hk (Nat.not_lt_zero _)⟩
theorem zget_app {R : List Int} {v : Int} {f : Int → Int} (h : ∀ k : Nat, k < R.length → f k = R.getD k 0) (hv : f R.length = v) : ∀ k : Nat, k < (R ++ [v]).length → f k = (R ++ [v]).getD k 0 := by
  intro k hk
  rw [List.length_append] at hk
  by_cases hc : k < R.length
  · rw [h k hc, List.getD_eq_getElem?_getD, List.getD_eq_getElem?_getD, List.getElem?_append_left hc]
  · have hk2 : k = R.length := by simp at hk; omega
    subst hk2
    rw [hv, List.getD_eq_getElem?_getD, List.getElem?_append_right (Nat.le_refl _)]
    simp
/-- the matcher's list, as it was made -/
def zmch (μ : zM) : Prop := zi μ 125 2 = -1 ∨ ∃ S, zSet S ∧ zi μ 125 2 = S 704 ∧ zi μ 125 3 = S 707 ∧ zmop μ S
def zXc (μ : zM) : Prop := zcho μ 105 ∧ zcho μ 119 ∧ zmch μ
theorem zmch.sm {P : Nat → Int → Prop} {μ μ' : zM} (h : zmch μ) (hm : zsm P μ μ') (h1 : ∀ j, j ≤ 3 → ¬ P 125 j) (h2 : ∀ j, ¬ P 126 j) : zmch μ' := by
  rcases h with h | ⟨S, hS, e1, e2, h⟩
  · exact Or.inl (by rw [hm.1 _ _ (h1 _ (by decide))]; exact h)
  · exact Or.inr ⟨S, hS, by rw [hm.1 _ _ (h1 _ (by decide))]; exact e1, by rw [hm.1 _ _ (h1 _ (by decide))]; exact e2, h.sm hm h2 (h1 _ (by decide))⟩
theorem zXc.sm {P : Nat → Int → Prop} {μ μ' : zM} (h : zXc μ) (hm : zsm P μ μ') (hP : ∀ b j, (106 ≤ b ∧ b ≤ 107) ∨ (120 ≤ b ∧ b ≤ 121) ∨ (b = 125 ∧ j ≤ 3) ∨ b = 126 → ¬ P b j) : zXc μ' :=
  ⟨h.1.sm hm (fun b j _ _ => hP b j (by omega)), h.2.1.sm hm (fun b j _ _ => hP b j (by omega)), h.2.2.sm hm (fun j _ => hP 125 j (by omega)) (fun j => hP 126 j (by omega))⟩
theorem zol_c {S S' : Int → Int} (h4 : S' 704 = S 704) (h7 : S' 707 = S 707) : ∀ n, zol S' n = zol S n
  | 0 => rfl
  | n + 1 => by
    unfold zol
    rw [zol_c h4 h7 n]
    have : zopen S' n ↔ zopen S n := by unfold zopen; rw [h4, h7]
    by_cases c : zopen S n
    · rw [if_pos c, if_pos (this.2 c)]
    · rw [if_neg c, if_neg (fun z => c (this.1 z))]
theorem zmop.c {μ : zM} {S S' : Int → Int} (h : zmop μ S') (h4 : S' 704 = S 704) (h7 : S' 707 = S 707) : zmop μ S := by
  have e := zol_c h4 h7 zN65
  obtain ⟨h1, h2⟩ := h
  unfold zON at h1 h2
  unfold zO at h2
  rw [e] at h1 h2
  exact ⟨h1, h2⟩
theorem zXs.set {μ : zM} {s : Nat} {S : Int → Int} (h : zXs μ s S) : zsX μ s S := h.2.2.1
theorem zMs.set {μ : zM} {S : Int → Int} (h : zMs μ S) : zsMM μ S := fun i h0 h1 => h (704 + i) (by omega) (by omega)
section
variable {G : zG} {μ : zM} {S : Int → Int}
theorem kX6_clear {F : zM → Prop} (h : ∀ μ', zsm (fun b j => b = 4 ∨ (b = 3 ∧ j = 1)) μ μ' → zXr μ' [] → F μ') : qX6_clear G μ F :=
  eX6_clear fun J C => rX6_clear_e C (h _ ((zsm.refl _ _).up _ (Or.inr ⟨rfl, rfl⟩)) ⟨Nat.zero_le _, zi_at, fun k hk => absurd hk (Nat.not_lt_zero _)⟩)
theorem kX6_append {F : zM → Prop} {R : List Int} {v : Int} (hR : zXr μ R) (hl : R.length < 9) (h : ∀ μ', zsm (fun b j => b = 4 ∨ (b = 3 ∧ j = 1)) μ μ' → zXr μ' (R ++ [v]) → F μ') : qX6_append G v μ F := by
  obtain ⟨h1, h2, h3⟩ := hR
  refine eX6_append fun J C => rX6_append_e C _ ?_
  rw [h2]
  refine ⟨by constructor <;> omega, fun c => absurd c (by omega), fun _ => ⟨by omega, h _ (((zsm.refl _ _).up _ (Or.inl rfl)).up _ (Or.inr ⟨rfl, rfl⟩)) ⟨by rw [List.length_append]; simp; omega, ?_, ?_⟩⟩⟩
  · rw [zi_at, zi_off (by omega), h2, List.length_append]; simp
  · refine zget_app (f := fun k => zi _ 4 k) (fun k hk => ?_) ?_
    · rw [zi_off (by omega), zi_off (by omega)]; exact h3 k hk
    · show zi _ 4 _ = v
      rw [zi_off (by omega)]; exact zi_at
theorem kX11_tell {F : zM → Prop} {R : List Int} {v : Int} (hR : zMr μ R) (hl : R.length < 9) (h : ∀ μ', zsm (fun b j => b = 156 ∨ (b = 153 ∧ j = 4)) μ μ' → zMr μ' (R ++ [v]) → F μ') : qX11_tell G v μ F := by
  obtain ⟨h1, h2, h3⟩ := hR
  refine eX11_tell fun J C => rX11_tell_e C _ ?_
  rw [h2]
  refine ⟨by omega, h _ (((zsm.refl _ _).up _ (Or.inl rfl)).up _ (Or.inr ⟨rfl, rfl⟩)) ⟨by rw [List.length_append]; simp; omega, ?_, ?_⟩⟩
  · rw [zi_at, zi_off (by omega), h2, List.length_append]; simp
  · refine zget_app (f := fun k => zi _ 156 k) (fun k hk => ?_) ?_
    · rw [zi_off (by omega), zi_off (by omega)]; exact h3 k hk
    · show zi _ 156 _ = v
      rw [zi_off (by omega)]; exact zi_at
theorem kX4_follow {F : zM → Prop} {s : Nat} (hs : zIsSt s) (hs2 : s + 6 < 125 ∨ 126 < s) (hX : zXs μ s S) (hv : zSet S) (hc : zmch μ) (h : ∀ μ', zsm (fun b j => b = 126 ∨ (b = 125 ∧ 1 ≤ j ∧ j ≤ 3)) μ μ' → zmop μ' S → zmch μ' → F μ') : qX4_follow G s μ F := by
  have e4 : zi μ (s + 3) 0 = S 704 := hX.set 0 (by decide) (by decide)
  have e7 : zi μ (s + 3) 3 = S 707 := hX.set 3 (by decide) (by decide)
  obtain ⟨s4, -, -, s7, -⟩ := id hv
  refine eX4_follow fun J C => rX4_follow_e C hs ?_
  have key : ∀ (N : Nat), N ≤ 6561 → N = zN65 → J 54 ([some (zR (some 125)), some (zR (some s)), some (zI 0)], [], zup (zup (zup μ 125 2 (zi μ (s + 3) 0)) 125 3 (zi (zup μ 125 2 (zi μ (s + 3) 0)) (s + 3) 3)) 125 1 0, 0, 0) := by
    intro N hN eN
    refine znfor (N := N) (P := fun n => ∀ μ', zsm (fun b j => b = 126 ∨ (b = 125 ∧ 1 ≤ j ∧ j ≤ 3)) μ μ' → zi μ' 125 2 = S 704 → zi μ' 125 3 = S 707 → zi μ' 125 1 = (zol S n).length → (∀ k : Nat, k < (zol S n).length → zi μ' 126 k = (zol S n).getD k 0) → J 54 ([some (zR (some 125)), some (zR (some s)), some (zI (n : Int))], [], μ', 0, 0)) ?_ ?_ _ ((((zsm.refl _ _).up _ (by omega)).up _ (by omega)).up _ (by omega)) ?_ ?_ zi_at (fun k hk => absurd hk (by unfold zol; simp))
    · intro μ2 g1 g2 g3 g4 g5
      have e := zN65_e
      have ho : zmop μ2 S := ⟨by rw [g4, eN]; rfl, by rw [eN] at g5; exact g5⟩
      exact rX4_follow_54 C hs _ ⟨by constructor <;> omega, fun _ => h μ2 g1 ho (Or.inr ⟨S, hv, g2, g3, ho⟩), fun c => absurd (by omega) c⟩
    · intro k hk hj μ2 g1 g2 g3 g4 g5
      have hlen := zol_len S k
      refine rX4_follow_54 C hs _ ⟨by constructor <;> omega, fun c => absurd c (by omega), fun _ => kX7_isOpen hs (hX.sm g1 (fun b j q1 q2 => by omega)) hv ⟨by omega, by omega⟩ (fun hop => ⟨by decide, fun q => absurd q (by decide), fun _ => ?_⟩) (fun hop => ⟨by decide, fun _ => ?_, fun q => absurd rfl q⟩)⟩
      · have e1 : (zol S (k + 1)).length = (zol S k).length + 1 := by rw [zol, if_pos hop, List.length_append]; rfl
        rw [g4]
        refine ⟨by omega, hj _ ((g1.up _ (by omega)).up _ (by omega)) ?_ ?_ ?_ ?_⟩
        · rw [zi_off (by omega), zi_off (by omega)]; exact g2
        · rw [zi_off (by omega), zi_off (by omega)]; exact g3
        · rw [zi_at, zi_off (by omega), g4, e1]; omega
        · refine zol_at (fun j => zi _ 126 j) (fun m hm => ?_) hop ?_
          · rw [zi_off (by omega), zi_off (by omega)]; exact g5 m hm
          · show zi _ 126 _ = _
            rw [zi_off (by omega)]; exact zi_at
      · have e1 : zol S (k + 1) = zol S k := by rw [zol, if_neg hop, List.append_nil]
        exact hj _ g1 g2 g3 (by rw [e1]; exact g4) (by rw [e1]; exact g5)
    · rw [zi_off (by omega), zi_off (by omega), zi_at, e4]
    · rw [zi_off (by omega), zi_at, zi_off (by omega), e7]
  have key := key zN65 (by rw [zN65_e]; omega) rfl
  rcases hc with hc | ⟨S', hS', c1, c2, c3⟩
  · rw [hc, e4]
    refine ⟨by decide, by constructor <;> omega, fun _ => ?_, fun c => absurd c (by omega)⟩
    rw [e4] at key; exact key
  · obtain ⟨t4, -, -, t7, -⟩ := id hS'
    rw [c1, c2, e4, e7]
    rw [e4] at key
    refine ⟨by constructor <;> omega, by constructor <;> omega, fun _ => key, fun d1 => ⟨by constructor <;> omega, by constructor <;> omega, fun _ => key, fun d2 => ?_⟩⟩
    have ho := c3.c d1 d2
    exact h μ (zsm.refl _ _) ho (Or.inr ⟨S', hS', c1, c2, c3⟩)
theorem kX10_refresh {F : zM → Prop} (hX : zXs μ 5 S) (hr : zLr S) (hv : zSet S) (hc : zXc μ) (h : ∀ μ', zsm (fun b j => (106 ≤ b ∧ b ≤ 110) ∨ b = 126 ∨ (b = 125 ∧ 1 ≤ j ∧ j ≤ 3)) μ μ' → zXc μ' → zchis μ' 105 S → zmop μ' S → F μ') : qX10_refresh G μ F :=
  eX10_refresh fun J C => rX10_refresh_e C (kX0_follow zCh_105 zSt_5 (by decide) hX hr hc.1 fun μ1 g1 g2 =>
    kX4_follow zSt_5 (by decide) (hX.sm g1 (by omega)) hv (hc.2.2.sm g1 (by omega) (by omega)) fun μ2 t1 t2 t3 =>
      h μ2 ((g1.mono (fun b j => by omega)).trans (t1.mono (fun b j => by omega))) ⟨Or.inr ⟨S, hr, g2.sm t1 (by omega)⟩, (hc.2.1.sm g1 (by omega)).sm t1 (by omega), t3⟩ (g2.sm t1 (by omega)) t2)
theorem kX10_tellColour {F : zM → Prop} {R : List Int} (hR : zXr μ R) (hl : R.length < 7) (hc : zchis μ 105 S) (hr : zLr S) {p : Int} (hp : zPl p) (h : ∀ μ', zsm (fun b j => b = 4 ∨ (b = 3 ∧ j = 1)) μ μ' → zXr μ' (R ++ [zC S p 0] ++ [zC S p 1] ++ [zC S p 2]) → F μ') : qX10_tellColour G p μ F := by
  have c0 := zC_r hr (p := p) (b := 0) (by decide); have c1 := zC_r hr (p := p) (b := 1) (by decide); have c2 := zC_r hr (p := p) (b := 2) (by decide)
  refine eX10_tellColour fun J C => rX10_tellColour_e C _ (rX10_tellColour_2 C _ _ ⟨by decide, fun c => absurd c (by decide), fun _ => kX0_number zCh_105 hc hp (by decide) ⟨by constructor <;> omega, kX6_append hR (by omega) fun μ1 g1 r1 => ?_⟩⟩)
  refine rX10_tellColour_2 C _ _ ⟨by decide, fun c => absurd c (by decide), fun _ => kX0_number zCh_105 (hc.sm g1 (by omega)) hp (by decide) ⟨?_, kX6_append r1 (by simp; omega) fun μ2 g2 r2 => ?_⟩⟩
  · show zin (zC S p 1); constructor <;> omega
  refine rX10_tellColour_2 C _ _ ⟨by decide, fun c => absurd c (by decide), fun _ => kX0_number zCh_105 ((hc.sm g1 (by omega)).sm g2 (by omega)) hp (by decide) ⟨?_, kX6_append r2 (by simp; omega) fun μ3 g3 r3 => ?_⟩⟩
  · show zin (zC S p 2); constructor <;> omega
  exact rX10_tellColour_2 C _ _ ⟨by decide, fun _ => h μ3 ((g1.trans g2).trans g3) r3, fun c => absurd (by decide) c⟩
end
