/-! LONG of the steps; a link read -/
section
variable {G : zG} {T : List Int} {lim L : Int} {r0 : Option Nat} {bf : Nat}
theorem znd_ok {μ : zM} {b : Nat} (h : znd μ b) : zok true μ b (8, 6) := ⟨Or.inl h.2.1, by unfold zs; rw [if_neg (by have := h.1; omega)]; exact h.2.2⟩
theorem zkin_z {c : Int} (h : zkin c) : zin c := by unfold zkin zaro at h; constructor <;> omega
theorem kX8_long {S : Int → Int} {lo hi : Nat} (hL : r0 = none → L = 0) : ∀ (f D dd : Nat) {F : Int → zM → Prop} {J : Nat → zS → Prop} {μ : zM} {r : Option Nat} {k t x1 x2 : Int}, zJ G true (2 + dd) 0 0 mX8_longOf (zKI F) J → zWF S f D 0 k t → zTY S L r0 μ lo hi f r k t → 0 ≤ x1 → x1 + D ≤ 40 → D ≤ dd → F (x2 + zlgo S L 0 f k t) μ → J 12 ([none, some (zI x1), some (zI x2), some (zR r)], [], μ, 0, 0) := by
  intro f
  induction f with
  | zero => intro D dd F J μ r k t x1 x2 C h; exact h.elim
  | succ f ih =>
    intro D dd F J μ r k t x1 x2 C hw hy h0 h1 hd h
    rw [zlgo] at h
    rcases hy with ⟨e, er⟩ | ⟨q1, q2, q3, q4⟩ | ⟨q1, b, q2, q3, q4, q5, q6, q7, q8, q9, q10⟩
    · rw [if_pos (by omega), Int.add_zero] at h
      refine rX8_longOf_12 C _ _ _ ⟨fun _ => h, fun b1 z => ?_⟩
      rw [er] at z; cases z
    · rcases hw with hw | ⟨w1, w2, w3, w4, w5, w6⟩
      · omega
      · rw [if_neg (by omega), if_neg (by unfold zaro; omega), if_pos q2, hL q3, Int.zero_add] at h
        rw [hL q3] at q4 ih
        exact ih D dd C (w5 q2).2 q4 h0 h1 hd h
    · rcases hw with hw | ⟨w1, w2, w3, w4, w5, w6⟩
      · omega
      · replace w4 := fun (_ : Unit) => w4
        replace w5 := fun (_ : Unit) => w5
        replace w6 := fun (_ : Unit) => w6
        have okb := znd_ok q4
        subst q2
        rw [if_neg (by omega)] at h
        refine rX8_longOf_12 C _ _ _ ⟨(fun z => by cases z), fun b1 z => ?_⟩
        injection z with z
        subst z
        refine ⟨okb, by rw [q5]; exact zkin_z w2, fun z => ?_, fun z => ?_, fun z => ?_, fun z => ?_, fun z => ?_⟩
        · rw [q5] at z
          have ca : zaro (S (zba 0 + k)) := by unfold zaro; omega
          obtain ⟨-, -, -, -, ⟨D1, eD, b5⟩, b6⟩ := w4 () ca
          obtain ⟨y1, y2⟩ := q8 ca
          rw [if_pos ca] at h
          refine ⟨okb, dd - 1, by omega, eX8_longOf fun J' C' => rX8_longOf_e C' _ _ ⟨by constructor <;> omega, fun _ => ?_, fun y => absurd (by omega) y⟩⟩
          refine ih D1 (dd - 1) C' b5 y1 (by omega) (by omega) (by omega) ⟨okb, ?_⟩
          refine ih D dd C b6 y2 h0 h1 hd ?_
          rw [show zmul (S (zba 0 + k)) (zf1 S 0 k) = 1 by unfold zmul; rw [if_neg (by omega), if_neg (by omega)], Int.one_mul] at h
          rw [Int.zero_add, Int.add_assoc]
          exact h
        · rw [q5] at z
          have ca : zaro (S (zba 0 + k)) := by unfold zaro; omega
          obtain ⟨-, -, -, -, ⟨D1, eD, b5⟩, b6⟩ := w4 () ca
          obtain ⟨y1, y2⟩ := q8 ca
          rw [if_pos ca] at h
          refine ⟨okb, okb, dd - 1, by omega, eX8_longOf fun J' C' => rX8_longOf_e C' _ _ ⟨by constructor <;> omega, fun _ => ?_, fun y => absurd (by omega) y⟩⟩
          refine ih D1 (dd - 1) C' b5 y1 (by omega) (by omega) (by omega) ⟨okb, ?_⟩
          refine ih D dd C b6 y2 h0 h1 hd ?_
          rw [show zmul (S (zba 0 + k)) (zf1 S 0 k) = zf1 S 0 k by unfold zmul; rw [if_pos z]] at h
          rw [Int.zero_add, Int.add_assoc, q6 (by unfold zuf1 zaro; omega)]
          exact h
        · rw [q5] at z
          have ca : zaro (S (zba 0 + k)) := by unfold zaro; omega
          obtain ⟨-, -, -, -, ⟨D1, eD, b5⟩, b6⟩ := w4 () ca
          obtain ⟨y1, y2⟩ := q8 ca
          rw [if_pos ca] at h
          refine ⟨okb, dd - 1, by omega, eX8_longOf fun J' C' => rX8_longOf_e C' _ _ ⟨by constructor <;> omega, fun _ => ?_, fun y => absurd (by omega) y⟩⟩
          refine ih D1 (dd - 1) C' b5 y1 (by omega) (by omega) (by omega) ⟨okb, ?_⟩
          refine ih D dd C b6 y2 h0 h1 hd ?_
          rw [show zmul (S (zba 0 + k)) (zf1 S 0 k) = 8 by unfold zmul; rw [if_neg (by omega), if_pos z]] at h
          rw [Int.zero_add, Int.add_assoc]
          exact h
        · rw [q5] at z
          obtain ⟨y1, y2, y3, y4⟩ := q9 z
          rw [if_neg (by unfold zaro; omega), if_pos z] at h
          refine ⟨okb, okb, ih D dd C (w5 () z).2 y4 h0 h1 hd ?_⟩
          rw [Int.add_assoc, y2]
          exact h
        · rw [q5] at z
          have ca : ¬ zaro (S (zba 0 + k)) := by unfold zaro; omega
          obtain ⟨y1, y2⟩ := q10 ca z.2.2.2.2
          rw [if_neg ca, if_neg z.2.2.2.2] at h
          refine ⟨okb, ih D dd C (w6 () ca z.2.2.2.2).2 y2 h0 h1 hd ?_⟩
          rw [Int.add_assoc]
          exact h
theorem zr_ne {μ : zM} {a b : Nat} {i j : Int} {v : Option Nat} (h : ¬ (b = a ∧ j = i)) : zr (zupr μ a i v) b j = zr μ b j := by rw [zr_upr, if_neg h]
/-- nothing older changed -/
def zold (μ μ' : zM) : Prop := zn μ ≤ zn μ' ∧ (∀ b, b < zn μ → zh μ' b = zh μ b ∧ (∀ j, zi μ' b j = zi μ b j) ∧ ∀ j, zr μ' b j = zr μ b j) ∧ (zcld μ → zcld μ')
theorem kX3_read {F : Option Nat → zM → Prop} {μ : zM} {A : Int} (hT : zTv T) (h40 : T.length ≤ 40) (hw : zWF (zsT T lim) (T.length + 1) 3 0 0 T.length) (h182 : 182 ≤ zn μ) (hX : zXt μ T) (hbf : zok true μ bf (3, 3)) (hbf2 : bf < zn μ) (hL : zi μ bf 1 = L) (hr0 : zr μ bf 0 = r0) (hA : zi μ bf 2 = A) (hrL : r0 = none → L = 0) (h : ∀ (μ' : zM) (b lo hi : Nat), zold μ μ' → 182 ≤ b → zok true μ' b (3, 3) → zi μ' b 1 = zlgo (zsT T lim) L 0 (T.length + 1) 0 T.length → zi μ' b 2 = (if T.length = 0 then 0 else if zhpI T = 0 then 1 else A + 1) → zTY (zsT T lim) L r0 μ' lo hi (T.length + 1) (zr μ' b 0) 0 T.length → F (some b) μ') : qX3_read G (some bf) lim μ F := by
  refine eX3_read fun J C => rX3_read_e C _ _ ⟨zsnew h182 _, fun b1 μ1 e1 em1 => ?_⟩
  subst e1 em1
  have ok1 : zok true (znew μ (8, 6)) (zn μ) (8, 6) := ⟨Or.inl (by rw [zn_new]; omega), zsnew h182 _⟩
  refine kX8_init ok1 ?_
  have mk := zmad_new (μ := μ) (c := 110) (x := 1) (y := 0)
  have hc2 : zcld μ → zcld (zup (zup (zup (znew μ (8, 6)) (zn μ) 0 110) (zn μ) 1 1) (zn μ) 2 0) := fun z => zup_cld (zup_cld (zup_cld (znew_cld z (Or.inr (Or.inl (by decide))))))
  have hr4 : ∀ j, zr (zup (zup (zup (znew μ (8, 6)) (zn μ) 0 110) (zn μ) 1 1) (zn μ) 2 0) (zn μ) j = none := fun j => by rw [zr_up, zr_up, zr_up, zr_new, if_pos rfl]
  generalize zup (zup (zup (znew μ (8, 6)) (zn μ) 0 110) (zn μ) 1 1) (zn μ) 2 0 = μ2 at *
  obtain ⟨m1, m2, m3⟩ := mk
  refine ⟨zsnew (by omega) _, fun b3 μ3 e3 em3 => ?_⟩
  subst e3
  have n3 : zn μ3 = zn μ2 + 1 := by rw [em3]; rfl
  have hc3 : zcld μ → zcld μ3 := fun z => by rw [em3]; exact znew_cld (hc2 z) (Or.inr (Or.inr (by decide)))
  have h3 : ∀ b, zh μ3 b = if b = zn μ2 then (45, 4) else zh μ2 b := fun b => by rw [em3, zh_new]
  have i3 : ∀ b j, b ≠ zn μ2 → zi μ3 b j = zi μ2 b j := fun b j hb => by rw [em3, zi_new, if_neg hb]
  have r3 : ∀ b j, b ≠ zn μ2 → zr μ3 b j = zr μ2 b j := fun b j hb => by rw [em3, zr_new, if_neg hb]
  have ok3 : zok true μ3 (zn μ2) (45, 4) := ⟨Or.inl (by omega), by unfold zs; rw [if_neg (by omega), h3, if_pos rfl]⟩
  have ok4 : zok true μ3 (zn μ) (8, 6) := ⟨Or.inl (by omega), by unfold zs; rw [if_neg (by omega), h3, if_neg (by omega)]; exact m2⟩
  refine ⟨ok3, ok4, ?_⟩
  -- the loop
  have n5 : zn (zupr μ3 (zn μ2) 0 (some (zn μ))) = zn μ3 := rfl
  have hc5 : zcld μ → zcld (zupr μ3 (zn μ2) 0 (some (zn μ))) := fun z => zupr_cld (hc3 z) (fun c e => by injection e with e; omega)
  have h5 : zh (zupr μ3 (zn μ2) 0 (some (zn μ))) = zh μ3 := rfl
  have i5 : ∀ b j, zi (zupr μ3 (zn μ2) 0 (some (zn μ))) b j = zi μ3 b j := fun _ _ => rfl
  have r5 : ∀ b j, zr (zupr μ3 (zn μ2) 0 (some (zn μ))) b j = if b = zn μ2 ∧ j = 0 then some (zn μ) else zr μ3 b j := fun b j => zr_upr _ _ _ _ _ _
  generalize zupr μ3 (zn μ2) 0 (some (zn μ)) = μ5 at *
  have old5 : ∀ b, b < zn μ → zh μ5 b = zh μ b ∧ (∀ j, zi μ5 b j = zi μ b j) ∧ ∀ j, zr μ5 b j = zr μ b j := fun b hb => by
    obtain ⟨a1, a2, a3⟩ := m3 b hb
    exact ⟨by rw [h5, h3, if_neg (by omega), a1], fun j => by rw [i5, i3 _ _ (by omega), a2], fun j => by rw [r5, if_neg (by omega), r3 _ _ (by omega), a3]⟩
  have okp : ∀ {b : Nat} {q : Nat × Nat}, zok true μ3 b q → zok true μ5 b q := fun {b q} h => ⟨by rw [n5]; exact h.1, by have := h.2; unfold zs at this ⊢; rw [h5]; exact this⟩
  have b4 : ∀ j : Int, zr μ5 (zn μ) j = none := fun j => by rw [r5, if_neg (by omega), r3 _ _ (by omega)]; exact hr4 j
  have key := kX3_build (lim := lim) (L := L) (r0 := r0) (bf := bf) C hT h40 (a3 := zn μ) (a4 := zn μ2) (T.length + 1) 3 0 0 T.length μ5 2 10 (zn μ) none hw rfl (Nat.le_refl _) (by decide) (by decide) (by omega) ⟨by rw [(old5 1 (by omega)).2.1]; exact hX.1, fun k hk => by rw [(old5 2 (by omega)).2.1]; exact hX.2 k hk⟩ (zok_old (by omega) hbf2 (old5 bf hbf2).1 hbf) (by omega) (by rw [(old5 bf hbf2).2.1]; exact hL) (by rw [(old5 bf hbf2).2.2]; exact hr0) (okp ok3) (by omega) (by omega) (by rw [r5, if_pos ⟨rfl, rfl⟩]) (okp ok4) (by omega) (by omega) (by omega) (b4 4) (fun _ => b4 3) (fun l hl => by cases hl) (fun μ6 r cn un hcn hun fr ty t3 _ => ?_)
  · exact key
  · have t3 := t3 rfl
    obtain ⟨f1, f2, f3⟩ := fr
    have old6 : ∀ b, b < zn μ → zh μ6 b = zh μ b ∧ (∀ j, zi μ6 b j = zi μ b j) ∧ ∀ j, zr μ6 b j = zr μ b j := fun b hb => by
      obtain ⟨a1, a2, a3⟩ := f2 b (by omega)
      obtain ⟨a4, a5, a6⟩ := old5 b hb
      exact ⟨by rw [a1, a4], fun j => by rw [a2, a5], fun j => by rw [a3 j (by omega) (fun y => by cases y.1) (by omega), a6]⟩
    have hX6 : zXt μ6 T := ⟨by rw [(old6 1 (by omega)).2.1]; exact hX.1, fun k hk => by rw [(old6 2 (by omega)).2.1]; exact hX.2 k hk⟩
    have hb6 : zh μ6 (zn μ) = (8, 6) := by rw [(f2 (zn μ) (by omega)).1, h5, h3, if_neg (by omega)]; exact m2
    -- the last things
    have last : ∀ (age : Int), age = (if T.length = 0 then 0 else if zhpI T = 0 then 1 else A + 1) → zs true (znew μ6 (3, 3)) (zn μ6) = (3, 3) ∧ (cn + 1 ≤ 43 ∧ un + 3 ≤ 253) ∧ ∀ b9 μ9, b9 = zn μ6 → μ9 = znew μ6 (3, 3) → zok true μ9 (zn μ) (8, 6) ∧ zok true μ9 (zn μ) (8, 6) ∧ (cn + 1 + 0 ≤ 43 ∧ un + 3 + 0 ≤ 253) ∧ qX8_longOf G 20 (zr μ9 (zn μ) 3) 0 μ9 (fun v12 μ12 => (cn + 1 + 0 ≤ 43 ∧ un + 3 + 0 ≤ 253) ∧ qX3_init G true b9 (zr μ9 (zn μ) 3) v12 age μ12 (fun μ13 => (cn + 1 ≤ 43 ∧ un + 3 ≤ 253) ∧ F (some b9) μ13)) := by
      intro age hage
      refine ⟨zsnew (by omega) _, ⟨by omega, by omega⟩, fun b9 μ9 e9 em9 => ?_⟩
      subst e9
      have n9 : zn μ9 = zn μ6 + 1 := by rw [em9]; rfl
      have hc9 : zcld μ → zcld μ9 := fun z => by rw [em9]; exact znew_cld (f3 (hc5 z)) (Or.inr (Or.inl (by decide)))
      have h9 : ∀ b, b ≠ zn μ6 → zh μ9 b = zh μ6 b := fun b hb => by rw [em9, zh_new, if_neg hb]
      have i9 : ∀ b j, b ≠ zn μ6 → zi μ9 b j = zi μ6 b j := fun b j hb => by rw [em9, zi_new, if_neg hb]
      have r9 : ∀ b j, b ≠ zn μ6 → zr μ9 b j = zr μ6 b j := fun b j hb => by rw [em9, zr_new, if_neg hb]
      have ok9 : zok true μ9 (zn μ6) (3, 3) := ⟨Or.inl (by omega), by rw [em9]; exact zsnew (by omega) _⟩
      have oka : zok true μ9 (zn μ) (8, 6) := ⟨Or.inl (by omega), by unfold zs; rw [if_neg (by omega), h9 _ (by omega)]; exact hb6⟩
      have ty9 : zTY (zsT T lim) L r0 μ9 (zn μ5) (zn μ6) (T.length + 1) r 0 T.length := zTY_fr (fun b b0 b1 => ⟨h9 _ (by omega), fun j => i9 _ _ (by omega), fun j => r9 _ _ (by omega)⟩) (by omega) (Nat.le_refl _) (Nat.le_refl _) _ _ _ _ ty
      have e3 : zr μ9 (zn μ) 3 = r := by rw [r9 _ _ (by omega)]; exact t3
      rw [e3]
      refine ⟨oka, oka, ⟨by omega, by omega⟩, eX8_longOf fun J' C' => rX8_longOf_e C' _ _ ⟨by decide, fun _ => ?_, fun y => absurd (by decide) y⟩⟩
      refine kX8_long hrL (T.length + 1) 3 20 C' hw ty9 (by decide) (by decide) (by decide) ⟨⟨by omega, by omega⟩, eX3_init fun J2 C2 => rX3_init_e C2 _ _ _ _ ⟨ok9, ok9, ok9, ⟨by omega, by omega⟩, ?_⟩⟩
      refine h _ (zn μ6) (zn μ5) (zn μ6) ⟨by show zn μ ≤ zn μ9; omega, fun b hb => ⟨?_, fun j => ?_, fun j => ?_⟩, fun z => zup_cld (zup_cld (zupr_cld (hc9 z) (fun c e => by rw [← e3] at e; exact (hc9 z).1 _ _ _ (by decide) e)))⟩ (by omega) ok9 ?_ ?_ ?_
      · show zh μ9 b = zh μ b
        rw [h9 _ (by omega)]; exact (old6 b hb).1
      · rw [zi_off (by omega), zi_off (by omega), zi_upr, i9 _ _ (by omega)]; exact (old6 b hb).2.1 j
      · rw [zr_up, zr_up, zr_ne (by omega), r9 _ _ (by omega)]; exact (old6 b hb).2.2 j
      · rw [zi_off (by omega), zi_at, Int.zero_add]
      · rw [zi_at]; exact hage
      · rw [show zr (zup (zup (zupr μ9 (zn μ6) 0 r) (zn μ6) 1 (0 + zlgo (zsT T lim) L 0 (T.length + 1) 0 T.length)) (zn μ6) 2 age) (zn μ6) 0 = r by rw [zr_up, zr_up, zr_upr, if_pos ⟨rfl, rfl⟩]]
        refine zTY_fr (μ := μ9) (μ' := zup (zup (zupr μ9 (zn μ6) 0 r) (zn μ6) 1 (0 + zlgo (zsT T lim) L 0 (T.length + 1) 0 T.length)) (zn μ6) 2 age) (fun b b0 b1 => ⟨rfl, fun j => ?_, fun j => ?_⟩) (Nat.le_refl (zn μ9)) (Nat.le_refl _) (Nat.le_refl _) _ _ _ _ ty9
        · rw [zi_off (by omega), zi_off (by omega), zi_upr]
        · rw [zr_up, zr_up, zr_ne (by omega)]
    have hl80 := hT.1
    refine rX3_read_29 C _ _ _ _ _ _ ?_
    rw [hX6.1]
    refine ⟨by constructor <;> omega, by constructor <;> omega, fun _ => ⟨⟨by omega, by omega⟩, kX9_has hX6 hT ?_⟩, fun z => absurd (Int.le_refl _) z⟩
    refine ⟨by rcases zhpI_r T with q | q <;> rw [q.1] <;> decide, fun z => ?_, fun z => ?_⟩
    · rw [hX6.1]
      exact ⟨by constructor <;> omega, ⟨by omega, by omega⟩, last _ (by
        by_cases c : T.length = 0
        · rw [if_pos c]; omega
        · rw [if_neg c, if_pos z]; omega)⟩
    · refine ⟨bf, rfl, zok_old (by have := (old6 bf hbf2).1; omega) hbf2 (old6 bf hbf2).1 hbf, ?_⟩
      rw [(old6 bf hbf2).2.1, hA]
      exact last _ (by
        by_cases c : T.length = 0
        · exfalso
          rcases zhpI_r T with ⟨-, k, q1, -⟩ | ⟨q1, -⟩
          · omega
          · exact z q1
        · rw [if_neg c, if_neg z])
end
