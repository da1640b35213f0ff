/-! where a text is wrong: the class's look -/
theorem zink_f : ∀ c : Fin 256, (if (c.val : Int) ≤ 0 then -1 else zix 18 ((c.val : Int) % 65536)) = zik (c.val : Int) := by decide +kernel
theorem zink_e {c : Int} (hc : 0 ≤ c ∧ c < 256) : (if c ≤ 0 then -1 else zix 18 (c % 65536)) = zik c := by
  have := zink_f ⟨c.toNat, by omega⟩
  rw [show (((⟨c.toNat, by omega⟩ : Fin 256).val : Nat) : Int) = c from by show ((c.toNat : Nat) : Int) = c; omega] at this
  exact this
theorem zik_r (c : Int) : -1 ≤ zik c ∧ zik c ≤ 3 := by unfold zik; split <;> (try split) <;> (try split) <;> (try split) <;> omega
/-- the forms of steps, of what a day tells -/
def zsf (c : Int) : Nat := if c = 108 ∨ c = 112 ∨ c = 118 then 2 else if c = 103 then 3 else if c = 117 then 4 else if c = 97 ∨ c = 115 ∨ c = 119 then 5 else if c = 104 then 6 else if c = 120 then 7 else if c = 110 then 8 else if c = 111 then 9 else if c = 105 then 10 else if c = 106 then 11 else 0
def zaf (c : Int) : Nat := if c = 109 then 12 else if c = 102 then 13 else if c = 108 then 14 else if c = 103 ∨ c = 116 then 15 else if c = 119 then 16 else if c = 101 then 17 else 0
def zfor3 (tl c : Int) : Nat := if tl = 0 then 1 else if tl = 1 then zsf c else zaf c
theorem zsf_r (c : Int) : zsf c < 20 := by unfold zsf; (repeat' split) <;> decide
theorem zaf_r (c : Int) : zaf c < 20 := by unfold zaf; (repeat' split) <;> decide
theorem zfor3_r (tl c : Int) : zfor3 tl c < 20 := by
  unfold zfor3
  split
  · omega
  · split
    · exact zsf_r c
    · exact zaf_r c
abbrev zfch (t j : Nat) : Int := (zstx t).getD j 0
abbrev zcs (c f d : Int) : Prop := f = 42 ∨ (f = 40 ∧ c = 40 ∧ d < 3) ∨ (f = 107 ∧ 0 ≤ zik c) ∨ (f = 104 ∧ 97 ≤ c ∧ c ≤ 104) ∨ (f ≠ 42 ∧ f ≠ 40 ∧ f ≠ 107 ∧ f ≠ 104 ∧ 48 ≤ c ∧ c ≤ f)
/-- from place p on, in a form, as deep as d: where it is wrong -/
def zwro (T : List Int) (tl most : Int) : Nat → Nat → Nat → Nat → Int → Int
  | 0, _, t, j, d => if most < T.length then most else if j < (zstx t).length ∨ 0 < d then (T.length : Int) else -1
  | n + 1, p, t, j, d =>
    if j = (zstx t).length ∧ zat T p = 41 ∧ 0 < d then zwro T tl most n (p + 1) t j (d - 1)
    else if j = (zstx t).length then
      (if (zstx (zfor3 tl (zat T p))).length = 0 ∨ ¬ zcs (zat T p) (zfch (zfor3 tl (zat T p)) 0) d then (p : Int)
       else zwro T tl most n (p + 1) (zfor3 tl (zat T p)) 1 (if zfch (zfor3 tl (zat T p)) 0 = 40 then d + 1 else d))
    else (if ¬ zcs (zat T p) (zfch t j) d then (p : Int) else zwro T tl most n (p + 1) t (j + 1) (if zfch t j = 40 then d + 1 else d))
theorem zwro_r {T : List Int} {tl most : Int} (hm : 0 ≤ most) : ∀ (n p t j : Nat) (d : Int), -1 ≤ zwro T tl most n p t j d ∧ zwro T tl most n p t j d ≤ max (max most T.length) (n + p)
  | 0, p, t, j, d => by
    rw [zwro]
    split
    · omega
    · split <;> omega
  | n + 1, p, t, j, d => by
    rw [zwro]
    split
    · have := zwro_r hm (T := T) (tl := tl) n (p + 1) t j (d - 1); omega
    · split
      · split
        · omega
        · have := zwro_r hm (T := T) (tl := tl) n (p + 1) (zfor3 tl (zat T p)) 1 (if zfch (zfor3 tl (zat T p)) 0 = 40 then d + 1 else d); omega
      · split
        · omega
        · have := zwro_r hm (T := T) (tl := tl) n (p + 1) t (j + 1) (if zfch t j = 40 then d + 1 else d); omega
section
variable {G : zG} {μ : zM} {T : List Int}
theorem kX9_inkOf {F : Int → zM → Prop} {c : Int} (hc : 0 ≤ c ∧ c < 256) (h : F (zik c) μ) : qX9_inkOf G c μ F := by
  rw [← zink_e hc] at h
  refine eX9_inkOf fun J C => rX9_inkOf_e C _ ⟨by constructor <;> omega, fun z => ?_, fun z => ⟨by constructor <;> omega, ?_⟩⟩
  · rw [if_pos z] at h; exact h
  · rw [if_neg z] at h; exact h
theorem kX9_stepForm {F : Nat → zM → Prop} {c : Int} (ic : zin c) (h : F (60 + zsf c) μ) : qX9_stepForm G c μ F := by
  unfold zsf at h
  refine eX9_stepForm fun J C => rX9_stepForm_e C _ ⟨ic, fun z => ?_, fun z => ?_, fun z => ?_, fun z => ?_, fun z => ?_, fun z => ?_, fun z => ?_, fun z => ?_, fun z => ?_, fun z => ?_, fun z => ?_⟩
  · rw [if_neg (by omega), if_neg (by omega), if_neg (by omega), if_pos (by omega)] at h; exact h
  · rw [if_neg (by omega), if_pos (by omega)] at h; exact h
  · rw [if_neg (by omega), if_neg (by omega), if_neg (by omega), if_neg (by omega), if_pos (by omega)] at h; exact h
  · rw [if_neg (by omega), if_neg (by omega), if_neg (by omega), if_neg (by omega), if_neg (by omega), if_neg (by omega), if_neg (by omega), if_neg (by omega), if_pos (by omega)] at h; exact h
  · rw [if_neg (by omega), if_neg (by omega), if_neg (by omega), if_neg (by omega), if_neg (by omega), if_neg (by omega), if_neg (by omega), if_neg (by omega), if_neg (by omega), if_pos (by omega)] at h; exact h
  · rw [if_pos (by omega)] at h; exact h
  · rw [if_neg (by omega), if_neg (by omega), if_neg (by omega), if_neg (by omega), if_neg (by omega), if_neg (by omega), if_pos (by omega)] at h; exact h
  · rw [if_neg (by omega), if_neg (by omega), if_neg (by omega), if_neg (by omega), if_neg (by omega), if_neg (by omega), if_neg (by omega), if_pos (by omega)] at h; exact h
  · rw [if_neg (by omega), if_neg (by omega), if_pos (by omega)] at h; exact h
  · rw [if_neg (by omega), if_neg (by omega), if_neg (by omega), if_neg (by omega), if_neg (by omega), if_pos (by omega)] at h; exact h
  · rw [if_neg (by omega), if_neg (by omega), if_neg (by omega), if_neg (by omega), if_neg (by omega), if_neg (by omega), if_neg (by omega), if_neg (by omega), if_neg (by omega), if_neg (by omega)] at h; exact h
theorem kX9_actForm {F : Nat → zM → Prop} {c : Int} (ic : zin c) (h : F (60 + zaf c) μ) : qX9_actForm G c μ F := by
  unfold zaf at h
  refine eX9_actForm fun J C => rX9_actForm_e C _ ⟨ic, fun z => ?_, fun z => ?_, fun z => ?_, fun z => ?_, fun z => ?_, fun z => ?_, fun z => ?_⟩
  · rw [if_neg (by omega), if_neg (by omega), if_neg (by omega), if_neg (by omega), if_neg (by omega), if_pos (by omega)] at h; exact h
  · rw [if_neg (by omega), if_pos (by omega)] at h; exact h
  · rw [if_neg (by omega), if_neg (by omega), if_neg (by omega), if_pos (by omega)] at h; exact h
  · rw [if_neg (by omega), if_neg (by omega), if_pos (by omega)] at h; exact h
  · rw [if_pos (by omega)] at h; exact h
  · rw [if_neg (by omega), if_neg (by omega), if_neg (by omega), if_neg (by omega), if_pos (by omega)] at h; exact h
  · rw [if_neg (by omega), if_neg (by omega), if_neg (by omega), if_neg (by omega), if_neg (by omega), if_neg (by omega)] at h; exact h
theorem kX9_formOf {F : Nat → zM → Prop} {tl c : Int} (it : zin tl) (ic : zin c) (h : F (60 + zfor3 tl c) μ) : qX9_formOf G tl c μ F := by
  unfold zfor3 at h
  refine eX9_formOf fun J C => rX9_formOf_e C _ _ ⟨it, fun z => ⟨fun y => kX9_actForm ic ⟨zaf c, zaf_r c, rfl, ?_⟩, fun y => kX9_stepForm ic ⟨zsf c, zsf_r c, rfl, ?_⟩⟩, fun z => ?_⟩
  · rw [if_neg z, if_neg y] at h; exact h
  · rw [if_neg z, if_pos y] at h; exact h
  · rw [if_pos z] at h; exact h
theorem kX9_canStand {F : Int → zM → Prop} {c f d : Int} (hc : 0 ≤ c ∧ c < 256) (hf : 0 ≤ f ∧ f < 128) (id : zin d) (h1 : zcs c f d → F 1 μ) (h0 : ¬ zcs c f d → F 0 μ) : qX9_canStand G c f d μ F := by
  have hk := zik_r c
  refine eX9_canStand fun J C => rX9_canStand_e C _ _ _ ⟨by constructor <;> omega, fun z => ⟨by constructor <;> omega, fun y => h0 (by unfold zcs; omega), fun y => ⟨id, fun x => h0 (by unfold zcs; omega), fun x => h1 (by unfold zcs; omega)⟩⟩, fun z => h1 (Or.inl z), fun z => ⟨by constructor <;> omega, fun y => h0 (by unfold zcs; omega), fun y => ⟨fun x => h0 (by unfold zcs; omega), fun x => h1 (by unfold zcs; omega)⟩⟩, fun z => kX9_inkOf hc ⟨by constructor <;> omega, fun y => h0 (by unfold zcs; omega), fun y => h1 (by unfold zcs; omega)⟩, fun z => ⟨by constructor <;> omega, fun y => h0 (by unfold zcs; omega), fun y => ⟨fun x => h0 (by unfold zcs; omega), fun x => h1 (by unfold zcs; omega)⟩⟩⟩
theorem kX9_wrongAt {F : Int → zM → Prop} (ht : zXt μ T) (hT : zTv T) {tl most : Int} (htl : 0 ≤ tl ∧ tl ≤ 2) (hm : 0 ≤ most ∧ most ≤ 80) (h : F (zwro T tl most (min T.length most.toNat) 0 0 0 0) μ) : qX9_wrongAt G tl most μ F := by
  have hl := hT.1
  refine eX9_wrongAt fun J C => rX9_wrongAt_e C _ _ ?_
  have key : ∀ (n p t j : Nat) (d : Int), n = min T.length most.toNat - p → p ≤ min T.length most.toNat → t < 20 → j ≤ (zstx t).length → 0 ≤ d → d ≤ 3 → F (zwro T tl most n p t j d) μ → J 12 ([some (zR (some 1)), some (zI tl), some (zI most), some (zT (60 + t)), some (zI (j : Int)), some (zI d), some (zI (p : Int)), none], [], μ, 0, 0) := by
    intro n
    induction n with
    | zero =>
      intro p t j d hn hp ht20 hj hd0 hd3 h
      have hll := zstx_l ht20
      rw [zwro] at h
      refine rX9_wrongAt_12 C _ _ ht20 _ _ _ ?_
      rw [ht.1]
      have go : J 122 ([some (zR (some 1)), none, some (zI most), some (zT (60 + t)), some (zI (j : Int)), some (zI d), none, none], [], μ, 0, 0) := by
        refine rX9_wrongAt_122 C _ ht20 _ _ ?_
        rw [ht.1]
        refine ⟨by constructor <;> omega, by constructor <;> omega, fun z => ⟨by constructor <;> omega, by constructor <;> omega, fun y => ?_, fun y => ⟨by constructor <;> omega, fun x => ?_, fun x => ?_⟩⟩, fun z => ?_⟩
        · rw [if_neg (by omega), if_pos (by omega)] at h; exact h
        · rw [if_neg (by omega), if_neg (by omega)] at h; exact h
        · rw [if_neg (by omega), if_pos (by omega)] at h; exact h
        · rw [if_pos (by omega)] at h; exact h
      exact ⟨by constructor <;> omega, by constructor <;> omega, fun _ => go, fun _ => ⟨by constructor <;> omega, fun _ => go, fun z => absurd z (by omega)⟩⟩
    | succ n ih =>
      intro p t j d hn hp ht20 hj hd0 hd3 h
      have hll := zstx_l ht20
      have e : zi μ 2 p = zat T p := ht.2 p (by omega)
      have hr := zat_r hT (i := (p : Int)) (by omega) (by omega)
      rw [zwro] at h
      -- a sign in a form
      have go : ∀ (t' j' : Nat), t' < 20 → ((zstx t').length = 0 ∨ j' < (zstx t').length) → F (if (zstx t').length = 0 ∨ ¬ zcs (zat T p) (zfch t' j') d then (p : Int) else zwro T tl most n (p + 1) t' (j' + 1) (if zfch t' j' = 40 then d + 1 else d)) μ → J 73 ([some (zR (some 1)), some (zI tl), some (zI most), some (zT (60 + t')), some (zI (j' : Int)), some (zI d), some (zI (p : Int)), some (zI (zat T p))], [], μ, 0, 0) := by
        intro t' j' ht' hj' h
        have hl' := zstx_l ht'
        refine rX9_wrongAt_73 C _ _ ht' _ _ _ _ ⟨by split <;> decide, fun z => ?_, fun z => ?_⟩
        · by_cases y : (zstx t').length = 0
          · rw [if_pos (Or.inl y)] at h; exact h
          · rw [if_neg y] at z; exact absurd rfl z
        · have y : ¬ (zstx t').length = 0 := fun y => by rw [if_pos y] at z; exact absurd z (by decide)
          have hjl : j' < (zstx t').length := by omega
          have hc := zstx_c ht' hjl
          rw [show ((j' : Int)).toNat = j' by omega]
          refine ⟨by omega, kX9_canStand hr hc (by constructor <;> omega) (fun q => ⟨by decide, fun _ => ⟨by omega, by constructor <;> omega, fun x => ?_, fun x => ?_⟩, fun z => absurd z (by decide)⟩) (fun q => ⟨by decide, fun z => absurd rfl z, fun _ => ?_⟩)⟩
          · rw [if_neg (fun w => w.elim y (fun w => w q)), if_neg x] at h
            exact ih (p + 1) t' (j' + 1) d (by omega) (by omega) ht' (by omega) hd0 hd3 h
          · rw [if_neg (fun w => w.elim y (fun w => w q)), if_pos x] at h
            have hd : d < 3 := by have q2 : zfch t' j' = 40 := x; unfold zcs at q; omega
            exact ih (p + 1) t' (j' + 1) (d + 1) (by omega) (by omega) ht' (by omega) (by omega) (by omega) h
          · rw [if_pos (Or.inr q)] at h; exact h
      refine rX9_wrongAt_12 C _ _ ht20 _ _ _ ?_
      rw [ht.1, e]
      refine ⟨by constructor <;> omega, by constructor <;> omega, fun z => absurd z (by omega), fun _ => ⟨by constructor <;> omega, fun z => absurd z (by omega), fun _ => ⟨by omega, by constructor <;> omega, by constructor <;> omega, fun z => ?_, fun z => ⟨by constructor <;> omega, fun y => ?_, fun y => ⟨by constructor <;> omega, fun x => ?_, fun x => ?_⟩⟩⟩⟩⟩
      · rw [if_neg (by omega), if_neg (by omega)] at h
        refine go t j ht20 (by omega) ?_
        by_cases q : zcs (zat T p) (zfch t j) d
        · rw [if_neg (fun w => w q)] at h
          rw [if_neg (fun w => w.elim (by omega) (fun w => w q))]
          exact h
        · rw [if_pos q] at h
          rw [if_pos (Or.inr q)]
          exact h
      · rw [if_neg (by omega), if_pos (by omega)] at h
        exact kX9_formOf (by constructor <;> omega) (by constructor <;> omega) ⟨_, zfor3_r tl (zat T p), rfl, go _ 0 (zfor3_r tl (zat T p)) (by omega) h⟩
      · rw [if_neg (by omega), if_pos (by omega)] at h
        exact kX9_formOf (by constructor <;> omega) (by constructor <;> omega) ⟨_, zfor3_r tl (zat T p), rfl, go _ 0 (zfor3_r tl (zat T p)) (by omega) h⟩
      · rw [if_pos (by omega)] at h
        exact ih (p + 1) t j (d - 1) (by omega) (by omega) ht20 hj (by omega) (by omega) h
  exact key _ 0 0 0 0 (by omega) (by omega) (by decide) (by decide) (by decide) (by decide) h
end
