/-! the class makes a step of a link -/
/-- in the second part all that is made once stands -/
theorem zJ_n {G : zG} {D mc ms : Nat} {M : zMeth} {K : Option zV → zM → Prop} {J : Nat → zS → Prop} (C : zJ G true D mc ms M K J) {pc : Nat} {L : List (Option zV)} {st : List zV} {μ : zM} {cn un : Nat} (h : 182 ≤ zn μ → J pc (L, st, μ, cn, un)) : J pc (L, st, μ, cn, un) := by
  obtain ⟨p, ev, s, m, args, below, meth, c, -, -, -, -, -, rfl⟩ := C
  intro H locs ls h1 h2 h3
  exact h (h2.2.2.2.2 rfl) H locs ls h1 h2 h3
/-- an operand, as the class sees it -/
def zopd (T : List Int) (i : Int) : Int := if zik (zat T i) < 0 then zat T i - 48 else zik (zat T i)
/-- a step was made -/
def zmad (μ μ' : zM) : Prop := zn μ' = zn μ + 1 ∧ zh μ' (zn μ) = (8, 6) ∧ ∀ b, b < zn μ → zh μ' b = zh μ b ∧ (∀ j, zi μ' b j = zi μ b j) ∧ ∀ j, zr μ' b j = zr μ b j
section
variable {G : zG} {μ μ' : zM} {T : List Int}
theorem zat_all {T : List Int} (hT : zTv T) {i : Int} (h : 0 ≤ i) : 0 ≤ zat T i ∧ zat T i < 256 := by
  by_cases c : i < T.length
  · exact zat_r hT h c
  · have e : zat T i = 0 := by
      unfold zat
      rw [List.getD_eq_getElem?_getD, List.getElem?_eq_none (by omega)]
      rfl
    rw [e]; decide
theorem kX9_operand {F : Int → zM → Prop} (ht : zXt μ T) (hT : zTv T) {i : Int} (h0 : 0 ≤ i ∧ i < 1000) (h : F (zopd T i) μ) : qX9_operand G i μ F := by
  have hr := zat_all hT h0.1
  have hk := zik_r (zat T i)
  unfold zopd at h
  refine eX9_operand fun J C => rX9_operand_e C _ (kX9_at ht hT (by constructor <;> omega) ?_)
  rw [if_pos h0.1]
  refine kX9_inkOf hr ⟨by constructor <;> omega, fun z => ?_, fun z => ?_⟩
  · rw [if_pos z] at h; exact kX9_digit ht hT (by constructor <;> omega) h0.1 h
  · rw [if_neg z] at h; exact h
theorem kX9_has {F : Int → zM → Prop} (ht : zXt μ T) (hT : zTv T) (h : F (zhpI T) μ) : qX9_has G 112 μ F := by
  have hl := hT.1
  refine eX9_has fun J C => rX9_has_e C _ ?_
  have key : ∀ (n k : Nat), k + n = T.length → (∀ i : Nat, i < k → zat T i ≠ 112) → J 2 ([some (zR (some 1)), some (zI 112), some (zI k)], [], μ, 0, 0) := by
    intro n
    induction n with
    | zero =>
      intro k hk hn
      refine rX9_has_2 C _ _ ?_
      rw [ht.1]
      refine ⟨by constructor <;> omega, by constructor <;> omega, fun _ => ?_, fun z => absurd (by omega) z⟩
      rcases zhpI_r T with ⟨-, i, q1, q2⟩ | ⟨q1, -⟩
      · exact absurd q2 (hn i (by omega))
      · rw [q1] at h; exact h
    | succ n ih =>
      intro k hk hn
      have hr := zat_r hT (i := (k : Int)) (by omega) (by omega)
      have e : zi μ 2 k = zat T k := ht.2 k (by omega)
      refine rX9_has_2 C _ _ ?_
      rw [ht.1, e]
      refine ⟨by constructor <;> omega, by constructor <;> omega, fun z => absurd z (by omega), fun _ => ⟨by omega, by constructor <;> omega, by decide, fun z => ?_, fun z => ?_⟩⟩
      · have := ih (k + 1) (by omega) (fun i hi => by
          by_cases c : i = k
          · rw [c]; exact z
          · exact hn i (by omega))
        rw [show ((k + 1 : Nat) : Int) = (k : Int) + 1 by omega] at this
        exact this
      · rcases zhpI_r T with ⟨q1, -⟩ | ⟨-, q2⟩
        · rw [q1] at h; exact h
        · exact absurd z (q2 k (by omega))
  exact key T.length 0 (by omega) (fun i hi => absurd hi (by omega))
theorem zsnew (h : 182 ≤ zn μ) (q : Nat × Nat) : zs true (znew μ q) (zn μ) = q := by
  unfold zs
  rw [if_neg (by omega), zh_new, if_pos rfl]
theorem kX8_init {F : zM → Prop} {a0 : Nat} (ho : zok true μ a0 (8, 6)) {x1 x2 x3 : Int} (h : F (zup (zup (zup μ a0 0 x1) a0 1 x2) a0 2 x3)) : qX8_init G true a0 x1 x2 x3 μ F :=
  eX8_init fun J C => rX8_init_e C _ _ _ _ ⟨ho, ho, ho, h⟩
theorem zmad_new {c x y : Int} : zmad μ (zup (zup (zup (znew μ (8, 6)) (zn μ) 0 c) (zn μ) 1 x) (zn μ) 2 y) := by
  refine ⟨rfl, ?_, fun b hb => ⟨?_, fun j => ?_, fun j => ?_⟩⟩
  · rw [zh_up, zh_up, zh_up, zh_new, if_pos rfl]
  · rw [zh_up, zh_up, zh_up, zh_new, if_neg (by omega)]
  · rw [zi_off (by omega), zi_off (by omega), zi_off (by omega), zi_new, if_neg (by omega)]
  · rw [zr_up, zr_up, zr_up, zr_new, if_neg (by omega)]
theorem znew_cld {μ : zM} {q : Nat × Nat} (h : zcld μ) (hq : zn μ < 182 ∨ q.1 < 12 ∨ (32 ≤ q.1 ∧ q.1 ≠ 46 ∧ q.1 ≠ 47)) : zcld (znew μ q) := ⟨fun a j b h0 hb => by
  rw [zr_new] at hb
  rw [zn_new]
  split at hb
  · cases hb
  · have := h.1 a j b h0 hb; omega, fun a h0 h1 => by
  rw [zn_new] at h1
  rw [zh_new]
  split
  · rcases hq with hq | hq
    · omega
    · exact hq
  · exact h.2 a h0 (by omega)⟩
theorem zupr_cld {μ : zM} {a : Nat} {i : Int} {v : Option Nat} (h : zcld μ) (hv : ∀ b, v = some b → b < zn μ) : zcld (zupr μ a i v) := ⟨fun c j b h0 hb => by
  rw [zr_upr] at hb
  rw [zn_upr]
  split at hb
  · exact hv b hb
  · exact h.1 c j b h0 hb, h.2⟩
theorem zup_cld {μ : zM} {a : Nat} {i v : Int} (h : zcld μ) : zcld (zup μ a i v) := h
theorem kX3_readStep {F : Option Nat → zM → Prop} (h182 : 182 ≤ zn μ) (ht : zXt μ T) (hT : zTv T) {p : Nat} (hp : p < T.length) {bf : Nat} (hf : zok true μ bf (3, 3)) (hbf : bf < zn μ) {lim : Int} (h : ∀ μ', zmad μ μ' → (zcld μ → zcld μ') → zi μ' (zn μ) 0 = zat T p → (zat T p = 108 → zi μ' (zn μ) 1 = lim) → (zat T p = 112 → zi μ' (zn μ) 1 = zi μ bf 1 ∧ zr μ' (zn μ) 3 = zr μ bf 0) → (zat T p ≠ 108 → zat T p ≠ 112 → zi μ' (zn μ) 1 = zopd T ((p : Int) + 1) ∧ zi μ' (zn μ) 2 = zopd T ((p : Int) + 2)) → (zat T p ≠ 112 → zr μ' (zn μ) 3 = none) → zr μ' (zn μ) 4 = none → zr μ' (zn μ) 5 = none → F (some (zn μ)) μ') : qX3_readStep G p (some bf) lim μ F := by
  have hl := hT.1
  have hr := zat_r hT (i := (p : Int)) (by omega) (by omega)
  have hs := zsnew (μ := μ) h182 (8, 6)
  have ht' : zXt (znew μ (8, 6)) T := ⟨by rw [zi_new, if_neg (by omega)]; exact ht.1, fun k hk => by rw [zi_new, if_neg (by omega)]; exact ht.2 k hk⟩
  have ok1 : zok true (znew μ (8, 6)) (zn μ) (8, 6) := ⟨Or.inl (by rw [zn_new]; omega), hs⟩
  have ok3 : zok true (znew μ (8, 6)) bf (3, 3) := by
    refine ⟨Or.inl (by rw [zn_new]; omega), ?_⟩
    have := hf.2
    unfold zs at this ⊢
    by_cases c : bf < 182
    · rw [if_pos c] at this ⊢; exact this
    · rw [if_neg c] at this ⊢; rw [zh_new, if_neg (by omega)]; exact this
  have e0 : ∀ c x y : Int, zi (zup (zup (zup (znew μ (8, 6)) (zn μ) 0 c) (zn μ) 1 x) (zn μ) 2 y) (zn μ) 0 = c := fun c x y => by rw [zi_off (by omega), zi_off (by omega), zi_at]
  have e1 : ∀ c x y : Int, zi (zup (zup (zup (znew μ (8, 6)) (zn μ) 0 c) (zn μ) 1 x) (zn μ) 2 y) (zn μ) 1 = x := fun c x y => by rw [zi_off (by omega), zi_at]
  have e2 : ∀ c x y : Int, zi (zup (zup (zup (znew μ (8, 6)) (zn μ) 0 c) (zn μ) 1 x) (zn μ) 2 y) (zn μ) 2 = y := fun c x y => by rw [zi_at]
  have en : ∀ (c x y j : Int), zr (zup (zup (zup (znew μ (8, 6)) (zn μ) 0 c) (zn μ) 1 x) (zn μ) 2 y) (zn μ) j = none := fun c x y j => by rw [zr_up, zr_up, zr_up, zr_new, if_pos rfl]
  refine eX3_readStep fun J C => rX3_readStep_e C _ _ _ (kX9_at ht hT (by constructor <;> omega) ?_)
  rw [if_pos (by omega)]
  refine ⟨by constructor <;> omega, fun z1 => ⟨fun z2 => ⟨hs, fun b μ1 eb em => ?_⟩, fun z2 => ⟨hs, fun b μ1 eb em => ?_⟩⟩, fun z1 => ⟨hs, fun b μ1 eb em => ?_⟩⟩
  · subst eb em
    refine kX9_operand ht' hT (by omega) (kX9_operand ht' hT (by omega) (kX8_init ok1 ?_))
    exact h _ zmad_new (fun z => zup_cld (zup_cld (zup_cld (znew_cld z (Or.inr (Or.inl (by decide))))))) (e0 _ _ _) (fun z => absurd z z1) (fun z => absurd z z2) (fun _ _ => ⟨e1 _ _ _, e2 _ _ _⟩) (fun _ => en _ _ _ _) (en _ _ _ _) (en _ _ _ _)
  · subst eb em
    refine ⟨bf, rfl, ok3, kX8_init ok1 ⟨ok3, ok1, ?_⟩⟩
    have e3 : zi (znew μ (8, 6)) bf 1 = zi μ bf 1 := by rw [zi_new, if_neg (by omega)]
    have e4 : zr (zup (zup (zup (znew μ (8, 6)) (zn μ) 0 (zat T p)) (zn μ) 1 (zi (znew μ (8, 6)) bf 1)) (zn μ) 2 0) bf 0 = zr μ bf 0 := by rw [zr_up, zr_up, zr_up, zr_new, if_neg (by omega)]
    rw [e4, e3]
    obtain ⟨m1, m2, m3⟩ := zmad_new (μ := μ) (c := zat T p) (x := zi μ bf 1) (y := 0)
    refine h _ ⟨m1, m2, fun b hb => ⟨(m3 b hb).1, (m3 b hb).2.1, fun j => ?_⟩⟩ (fun z => zupr_cld (zup_cld (zup_cld (zup_cld (znew_cld z (Or.inr (Or.inl (by decide))))))) (fun b hb => by have := z.1 bf 0 b (by decide) hb; show b < zn μ + 1; omega)) ?_ (fun z => absurd z z1) (fun _ => ⟨?_, ?_⟩) (fun _ z => absurd z2 z) (fun z => absurd z2 z) ?_ ?_
    · rw [zr_upr, if_neg (by omega)]; exact (m3 b hb).2.2 j
    · rw [zi_upr]; exact e0 _ _ _
    · rw [zi_upr]; exact e1 _ _ _
    · rw [zr_upr, if_pos ⟨rfl, rfl⟩]
    · rw [zr_upr, if_neg (by omega)]; exact en _ _ _ _
    · rw [zr_upr, if_neg (by omega)]; exact en _ _ _ _
  · subst eb em
    refine kX8_init ok1 ?_
    exact h _ zmad_new (fun z => zup_cld (zup_cld (zup_cld (znew_cld z (Or.inr (Or.inl (by decide))))))) (e0 _ _ _) (fun _ => e1 _ _ _) (fun z => absurd z (by omega)) (fun z => absurd z1 z) (fun _ => en _ _ _ _) (en _ _ _ _) (en _ _ _ _)
end
