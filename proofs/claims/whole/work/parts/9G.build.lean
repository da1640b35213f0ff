/-! the class builds the steps of a link -/
/-- the steps of a text in the memory, at places from lo up to hi -/
def zTY (S : Int → Int) (L : Int) (r0 : Option Nat) (μ : zM) (lo hi : Nat) : Nat → Option Nat → Int → Int → Prop
  | 0, _, _, _ => False
  | f + 1, r, k, t => (k = t ∧ r = none) ∨ (k < t ∧ S (zba 0 + k) = 112 ∧ r0 = none ∧ zTY S L r0 μ lo hi f r (k + 1) t) ∨
      (k < t ∧ ∃ b, r = some b ∧ (lo ≤ b ∧ b < hi) ∧ znd μ b ∧ zi μ b 0 = S (zba 0 + k) ∧ (zuf1 (S (zba 0 + k)) → zi μ b 1 = zf1 S 0 k) ∧ (zus1 (S (zba 0 + k)) → zi μ b 2 = zf2 S 0 k) ∧
        (zaro (S (zba 0 + k)) → zTY S L r0 μ lo hi f (zr μ b 3) (k + zqp (S (zba 0 + k)) + 1) (zcl1 S 0 k) ∧ zTY S L r0 μ lo hi f (zr μ b 5) (zcl1 S 0 k + 1) t) ∧
        (S (zba 0 + k) = 112 → r0 ≠ none ∧ zi μ b 1 = L ∧ zr μ b 3 = r0 ∧ zTY S L r0 μ lo hi f (zr μ b 5) (k + 1) t) ∧
        (¬ zaro (S (zba 0 + k)) → S (zba 0 + k) ≠ 112 → zr μ b 3 = none ∧ zTY S L r0 μ lo hi f (zr μ b 5) (k + zwd (S (zba 0 + k))) t))
theorem zTY_fr {S : Int → Int} {L : Int} {r0 : Option Nat} {μ μ' : zM} {lo hi lo' hi' : Nat} (hm : ∀ b, lo ≤ b → b < hi → zh μ' b = zh μ b ∧ (∀ j, zi μ' b j = zi μ b j) ∧ ∀ j, zr μ' b j = zr μ b j) (hn : zn μ ≤ zn μ') (h1 : lo' ≤ lo) (h2 : hi ≤ hi') : ∀ (f : Nat) (r : Option Nat) (k t : Int), zTY S L r0 μ lo hi f r k t → zTY S L r0 μ' lo' hi' f r k t
  | 0, _, _, _, h => h
  | f + 1, r, k, t, h => by
    rcases h with h | ⟨q1, q2, q3, q4⟩ | ⟨q1, b, q2, q3, q4, q5, q6, q7, q8, q9, q10⟩
    · exact Or.inl h
    · exact Or.inr (Or.inl ⟨q1, q2, q3, zTY_fr hm hn h1 h2 f _ _ _ q4⟩)
    · obtain ⟨e1, e2, e3⟩ := hm b q3.1 q3.2
      refine Or.inr (Or.inr ⟨q1, b, q2, ⟨Nat.le_trans h1 q3.1, Nat.lt_of_lt_of_le q3.2 h2⟩, ⟨q4.1, Nat.lt_of_lt_of_le q4.2.1 hn, by rw [e1]; exact q4.2.2⟩, by rw [e2]; exact q5, fun z => by rw [e2]; exact q6 z, fun z => by rw [e2]; exact q7 z, fun z => ?_, fun z => ?_, fun z y => ?_⟩)
      · rw [e3, e3]; exact ⟨zTY_fr hm hn h1 h2 f _ _ _ (q8 z).1, zTY_fr hm hn h1 h2 f _ _ _ (q8 z).2⟩
      · rw [e3, e3, e2]; exact ⟨(q9 z).1, (q9 z).2.1, (q9 z).2.2.1, zTY_fr hm hn h1 h2 f _ _ _ (q9 z).2.2.2⟩
      · rw [e3, e3]; exact ⟨(q10 z y).1, zTY_fr hm hn h1 h2 f _ _ _ (q10 z y).2⟩
/-- what may change while steps are hung up -/
def zfra (o : Nat) (ol : Option Nat) (a4 : Nat) (d : Int) (μ μ' : zM) : Prop := zn μ ≤ zn μ' ∧ (∀ b, b < zn μ → zh μ' b = zh μ b ∧ (∀ j, zi μ' b j = zi μ b j) ∧ ∀ j, ¬ (b = o ∧ (j = 4 ∨ (j = 3 ∧ ol = none))) → ¬ (ol = some b ∧ j = 5) → ¬ (b = a4 ∧ d < j) → zr μ' b j = zr μ b j) ∧ (zcld μ → zcld μ')
theorem zok_old {μ μ' : zM} {b : Nat} {q : Nat × Nat} (hn : zn μ ≤ zn μ') (hb : b < zn μ) (hh : zh μ' b = zh μ b) (h : zok true μ b q) : zok true μ' b q := by
  refine ⟨Or.inl (Nat.lt_of_lt_of_le hb hn), ?_⟩
  have := h.2
  unfold zs at this ⊢
  rw [hh]; exact this
theorem zopd_d {T : List Int} {i : Int} (h : 48 ≤ zat T i ∧ zat T i ≤ 57) : zopd T i = zat T i - 48 := by
  have e : zik (zat T i) = -1 := by unfold zik; rw [if_neg (by omega), if_neg (by omega), if_neg (by omega), if_neg (by omega)]
  unfold zopd
  rw [if_pos (by rw [e]; decide)]
theorem zopd_i {T : List Int} {i : Int} (h : 0 ≤ zik (zat T i)) : zopd T i = zik (zat T i) := by
  unfold zopd
  rw [if_neg (by omega)]
/-- the operands that the class sees are those that are told -/
theorem zopd_1 {T : List Int} {lim : Int} {a : Nat} (ha : a < 100) (hf : zfok (zat T a) (zf1 (zsT T lim) 0 a) (zf2 (zsT T lim) 0 a)) : (zuf1 (zat T a) → zat T a ≠ 108 → zopd T ((a : Int) + 1) = zf1 (zsT T lim) 0 a) ∧ (zus1 (zat T a) → zopd T ((a : Int) + 2) = zf2 (zsT T lim) 0 a) := by
  have e0 : zsT T lim (zba 0 + a) = zat T a := zsT_at (by omega) (by omega)
  have e1 : zsT T lim (zba 0 + a + 1) = zat T ((a : Int) + 1) := by rw [show zba 0 + (a : Int) + 1 = zba 0 + ((a : Int) + 1) by omega]; exact zsT_at (by omega) (by omega)
  have e2 : zsT T lim (zba 0 + a + 2) = zat T ((a : Int) + 2) := by rw [show zba 0 + (a : Int) + 2 = zba 0 + ((a : Int) + 2) by omega]; exact zsT_at (by omega) (by omega)
  obtain ⟨o1, o2, o3, o4, o5, o6, o7⟩ := hf
  unfold zf1 at *
  unfold zf2 at *
  rw [e0, e1] at *
  rw [e2] at *
  refine ⟨fun z y => ?_, fun z => ?_⟩
  · rw [if_neg y]
    by_cases c : zat T a = 103 ∨ zat T a = 117 ∨ zat T a = 110
    · rw [if_pos c]
      rw [if_neg y, if_pos c] at o2 o3 o5
      exact zopd_d (by omega)
    · rw [if_neg c]
      rw [if_neg y, if_neg c] at o4
      exact zopd_i (o4 (by unfold zuf1 zaro at z; omega)).1
  · by_cases c : zat T a = 120 ∨ zat T a = 106
    · rw [if_pos c]
      rw [if_pos c] at o7
      exact zopd_i (o7 c).1
    · rw [if_neg c]
      rw [if_neg c] at o6
      have := o6 (by unfold zus1 at z; omega)
      exact zopd_d (by omega)
section
variable {G : zG} {T : List Int} {lim L : Int} {r0 : Option Nat} {bf : Nat}
theorem kX8_append {F : zM → Prop} {μ : zM} {o b : Nat} {ol : Option Nat} (ho : zok true μ o (8, 6)) (hol : zr μ o 4 = ol) (hl : ∀ l, ol = some l → zok true μ l (8, 6)) (h : ∀ μ', zn μ' = zn μ → zh μ' = zh μ → (∀ b j, zi μ' b j = zi μ b j) → (∀ x j, ¬ (x = o ∧ (j = 4 ∨ (j = 3 ∧ ol = none))) → ¬ (ol = some x ∧ j = 5) → zr μ' x j = zr μ x j) → zr μ' o 4 = some b → (ol = none → zr μ' o 3 = some b) → (∀ l, ol = some l → zr μ' l 5 = some b) → (b < zn μ → zcld μ → zcld μ') → F μ') : qX8_append G o (some b) μ F := by
  refine eX8_append fun J C => rX8_append_e C _ _ ⟨ho, fun z => ⟨ho, ho, ?_⟩, fun b2 z => ⟨ho, ?_, ho, ?_⟩⟩
  · have e : ol = none := by rw [← hol]; exact z
    refine h _ rfl rfl (fun _ _ => rfl) (fun x j h1 h2 => ?_) ?_ (fun _ => ?_) (fun l hl2 => ?_) (fun hb hc => zupr_cld (zupr_cld hc (fun c e => by injection e with e; omega)) (fun c e => by injection e with e; show c < zn μ; omega))
    · rw [zr_upr, if_neg (fun y => h1 ⟨y.1, Or.inl y.2⟩), zr_upr, if_neg (fun y => h1 ⟨y.1, Or.inr ⟨y.2, e⟩⟩)]
    · rw [zr_upr, if_pos ⟨rfl, rfl⟩]
    · rw [zr_upr, if_neg (by omega), zr_upr, if_pos ⟨rfl, rfl⟩]
    · rw [e] at hl2; cases hl2
  · exact hl b2 (by rw [← hol]; exact z)
  · have e : ol = some b2 := by rw [← hol]; exact z
    refine h _ rfl rfl (fun _ _ => rfl) (fun x j h1 h2 => ?_) ?_ (fun e2 => ?_) (fun l hl2 => ?_) (fun hb hc => zupr_cld (zupr_cld hc (fun c e => by injection e with e; omega)) (fun c e => by injection e with e; show c < zn μ; omega))
    · rw [zr_upr, if_neg (fun y => h1 ⟨y.1, Or.inl y.2⟩), zr_upr, if_neg (fun y => h2 ⟨by rw [y.1]; exact e, y.2⟩)]
    · rw [zr_upr, if_pos ⟨rfl, rfl⟩]
    · rw [e] at e2; cases e2
    · have e3 : l = b2 := by rw [e] at hl2; injection hl2 with e3; exact e3.symm
      rw [e3, zr_upr, if_neg (by omega), zr_upr, if_pos ⟨rfl, rfl⟩]
theorem kX3_build {F : Option Nat → zM → Prop} {J : Nat → zS → Prop} (C : zJ G true (23) 43 253 mX3_read (zKR F) J) (hT : zTv T) (h40 : T.length ≤ 40) {a3 a4 : Nat} : ∀ (f D d : Nat) (k t : Nat) (μ : zM) (cn un o : Nat) (ol : Option Nat), zWF (zsT T lim) f D 0 k t → D + d = 3 → t ≤ T.length → cn ≤ 2 + k → un ≤ 10 + 6 * k → 182 ≤ zn μ → zXt μ T → zok true μ bf (3, 3) → bf < zn μ → zi μ bf 1 = L → zr μ bf 0 = r0 → zok true μ a4 (45, 4) → a4 < zn μ → 182 ≤ a4 → zr μ a4 d = some o → zok true μ o (8, 6) → o < zn μ → 182 ≤ o → o ≠ a4 → zr μ o 4 = ol → (ol = none → zr μ o 3 = none) → (∀ l, ol = some l → zok true μ l (8, 6) ∧ l < zn μ ∧ 182 ≤ l ∧ l ≠ a4 ∧ zr μ l 5 = none) → (∀ (μ' : zM) (r : Option Nat) (cn' un' : Nat), cn' ≤ 2 + t → un' ≤ 10 + 6 * t → zfra o ol a4 d μ μ' → zTY (zsT T lim) L r0 μ' (zn μ) (zn μ') f r k t → (ol = none → zr μ' o 3 = r) → (∀ l, ol = some l → zr μ' l 5 = r) → J 29 ([some (zR (some 1)), some (zR (some bf)), some (zI lim), some (zR (some a3)), some (zR (some a4)), some (zI d), some (zI t), none, none], [], μ', cn', un')) → J 29 ([some (zR (some 1)), some (zR (some bf)), some (zI lim), some (zR (some a3)), some (zR (some a4)), some (zI d), some (zI k), none, none], [], μ, cn, un) := by
  intro f
  induction f with
  | zero => intro D d k t μ cn un o ol h; exact h.elim
  | succ f ih =>
    intro D d k t μ cn un o ol hw hD ht hcn hun h182 hX hbf hbf2 hL hr0 ha4 ha42 ha43 hopen ho ho2 ho3 hoa hol hol3 hl hcont
    have hl80 := hT.1
    rcases hw with hw | ⟨w1, w2, w3, w4, w5, w6⟩
    · have e : k = t := by omega
      subst e
      exact hcont μ none cn un hcn hun ⟨Nat.le_refl _, fun b _ => ⟨rfl, fun _ => rfl, fun _ _ _ _ => rfl⟩, id⟩ (Or.inl ⟨rfl, rfl⟩) hol3 (fun l hl2 => (hl l hl2).2.2.2.2)
    · have hkt : k < t := by omega
      have e0 : zsT T lim (zba 0 + k) = zat T k := zsT_at (by omega) (by omega)
      rw [e0] at w2 w3 w4 w5 w6
      replace w4 := fun (_ : Unit) => w4
      replace w5 := fun (_ : Unit) => w5
      replace w6 := fun (_ : Unit) => w6
      have hr := zat_r hT (i := (k : Int)) (by omega) (by omega)
      have c41 : zat T k ≠ 41 := by unfold zkin zaro at w2; omega
      obtain ⟨p1, p2⟩ := zopd_1 (a := k) (by omega) w3
      obtain ⟨hl0, -⟩ := zsf_pos w2
      refine rX3_read_29 C _ _ _ _ _ _ ?_
      rw [hX.1]
      refine ⟨by constructor <;> omega, by constructor <;> omega, fun z => absurd z (by omega), fun _ => ⟨⟨by omega, by omega⟩, kX9_at hX hT (by constructor <;> omega) ?_⟩⟩
      rw [if_pos (by omega)]
      refine ⟨by constructor <;> omega, fun _ => ⟨⟨by omega, by omega⟩, kX9_at hX hT (by constructor <;> omega) ?_⟩, fun z => absurd z c41⟩
      rw [if_pos (by omega)]
      refine ⟨⟨by omega, by omega⟩, kX9_stepForm (by constructor <;> omega) ⟨zsf (zat T k), zsf_r _, rfl, ⟨by omega, by omega⟩, ?_⟩⟩
      refine kX3_readStep h182 hX hT (by omega) hbf hbf2 fun μ1 hm hc1 i0 i1 i2 i3 nn3 n4 n5 => ?_
      obtain ⟨m1, m2, m3⟩ := hm
      have okb : zok true μ1 (zn μ) (8, 6) := ⟨Or.inl (by omega), by unfold zs; rw [if_neg (by omega)]; exact m2⟩
      have ok1 : ∀ {x : Nat} {q : Nat × Nat}, x < zn μ → zok true μ x q → zok true μ1 x q := fun hx h => zok_old (by omega) hx (m3 _ hx).1 h
      have hX1 : zXt μ1 T := ⟨by rw [(m3 1 (by omega)).2.1]; exact hX.1, fun k hk => by rw [(m3 2 (by omega)).2.1]; exact hX.2 k hk⟩
      -- what the new step holds
      have v1 : zuf1 (zat T k) → zi μ1 (zn μ) 1 = zf1 (zsT T lim) 0 k := fun z => by
        by_cases c : zat T k = 108
        · rw [i1 c]
          unfold zf1
          rw [e0, if_pos c]
          unfold zsT
          rw [if_pos (by decide)]
        · rw [(i3 c (by unfold zuf1 zaro at z; omega)).1]
          exact p1 z c
      have v2 : zus1 (zat T k) → zi μ1 (zn μ) 2 = zf2 (zsT T lim) 0 k := fun z => by
        rw [(i3 (by unfold zus1 at z; omega) (by unfold zus1 at z; omega)).2]
        exact p2 z
      -- behind the step: no bracket
      have plain : ¬ zaro (zat T k) → ∀ (μ2 : zM), zXt μ2 T → zn μ ≤ zn μ2 → J 29 ([some (zR (some 1)), some (zR (some bf)), some (zI lim), some (zR (some a3)), some (zR (some a4)), some (zI d), some (zI ((k + (zstx (zsf (zat T k))).length : Nat) : Int)), none, none], [], μ2, cn + 1, un + 6) → J 111 ([some (zR (some 1)), some (zR (some bf)), some (zI lim), some (zR (some a3)), some (zR (some a4)), some (zI d), some (zI k), some (zT (60 + zsf (zat T k))), some (zR (some (zn μ)))], [], μ2, cn + 1, un + 6) := by
        intro ca μ2 hX2 hn2 hJ
        obtain ⟨l1, -⟩ := zsf_no w2 ca
        have hll := zstx_l (zsf_r (zat T k))
        refine rX3_read_111 C _ _ _ _ _ _ (zsf_r _) _ ⟨⟨by omega, by omega⟩, by constructor <;> omega, ⟨by omega, by omega⟩, ⟨by omega, by omega⟩, kX9_at hX2 hT (by constructor <;> omega) ?_⟩
        rw [if_pos (by omega)]
        have hm : max 0 (((zstx (zsf (zat T k))).length : Int) - 1) = ((zstx (zsf (zat T k))).length : Int) - 1 := by omega
        rw [hm]
        have hne : zat T ((k : Int) + (((zstx (zsf (zat T k))).length : Int) - 1)) ≠ 40 := by
          have hz := (zfok_1 (S := zsT T lim) (a := 0) (k := k) (by rw [e0]; exact w2) (by rw [e0]; exact w3))
          rw [e0] at hz
          have hwd := zwd_r (zat T k)
          by_cases d1 : (zstx (zsf (zat T k))).length = 1
          · rw [d1, show (k : Int) + (((1 : Nat) : Int) - 1) = k by omega]; exact hz.1.2
          · by_cases d2 : (zstx (zsf (zat T k))).length = 2
            · have h3 := (hz.2.1 (Or.inr (by omega))).2.1
              rw [zsT_at (by omega) (by omega)] at h3
              rw [d2, show (k : Int) + (((2 : Nat) : Int) - 1) = k + 1 by omega]; exact h3
            · have h3 := (hz.2.2 (Or.inr (Or.inr (by omega)))).2.1
              rw [zsT_at (by omega) (by omega)] at h3
              rw [show (zstx (zsf (zat T k))).length = 3 by omega, show (k : Int) + (((3 : Nat) : Int) - 1) = k + 2 by omega]; exact h3
        have hr2 := zat_all hT (i := (k : Int) + (((zstx (zsf (zat T k))).length : Int) - 1)) (by omega)
        refine ⟨by constructor <;> omega, fun _ => ?_, fun z => absurd z hne⟩
        rw [show (k : Int) + (((zstx (zsf (zat T k))).length : Int) - 1) + 1 = ((k + (zstx (zsf (zat T k))).length : Nat) : Int) by omega]
        exact hJ
      -- the step is hung up
      have keep : zat T k ≠ 112 ∨ r0 ≠ none → (∀ (μ2 : zM), zn μ2 = zn μ + 1 → zh μ2 = zh μ1 → (∀ x j, zi μ2 x j = zi μ1 x j) → (∀ x j, ¬ (x = o ∧ (j = 4 ∨ (j = 3 ∧ ol = none))) → ¬ (ol = some x ∧ j = 5) → zr μ2 x j = zr μ1 x j) → zr μ2 o 4 = some (zn μ) → (ol = none → zr μ2 o 3 = some (zn μ)) → (∀ l, ol = some l → zr μ2 l 5 = some (zn μ)) → (zcld μ → zcld μ2) → J 111 ([some (zR (some 1)), some (zR (some bf)), some (zI lim), some (zR (some a3)), some (zR (some a4)), some (zI d), some (zI k), some (zT (60 + zsf (zat T k))), some (zR (some (zn μ)))], [], μ2, cn + 1, un + 6)) := by
        intro hk μ2 k1 k2 k3 k4 k5 k6 k7 k8
        have b4 : ∀ {x : Nat}, x < zn μ → zh μ2 x = zh μ x := fun hx => by rw [k2]; exact (m3 _ hx).1
        have okx : ∀ {x : Nat} {q : Nat × Nat}, x < zn μ → zok true μ x q → zok true μ2 x q := fun hx h => zok_old (by omega) hx (b4 hx) h
        have okb2 : zok true μ2 (zn μ) (8, 6) := ⟨Or.inl (by omega), by unfold zs; rw [if_neg (by omega), k2]; exact m2⟩
        have hX2 : zXt μ2 T := ⟨by rw [k3]; exact hX1.1, fun k hk => by rw [k3]; exact hX1.2 k hk⟩
        have nl : ∀ {x : Nat} (j : Int), zn μ ≤ x → zr μ2 x j = zr μ1 x j := fun {x} j hx => k4 x j (by omega) (fun y => by have := (hl x y.1).2.1; omega)
        have hb3 : zr μ2 (zn μ) 3 = zr μ1 (zn μ) 3 := nl 3 (Nat.le_refl _)
        have hb4 : zr μ2 (zn μ) 4 = none := by rw [nl 4 (Nat.le_refl _)]; exact n4
        have hb5 : zr μ2 (zn μ) 5 = none := by rw [nl 5 (Nat.le_refl _)]; exact n5
        -- the frame up to here
        have fr2 : ∀ x, x < zn μ → zh μ2 x = zh μ x ∧ (∀ j, zi μ2 x j = zi μ x j) ∧ ∀ j, ¬ (x = o ∧ (j = 4 ∨ (j = 3 ∧ ol = none))) → ¬ (ol = some x ∧ j = 5) → zr μ2 x j = zr μ x j := fun x hx => ⟨b4 hx, fun j => by rw [k3]; exact (m3 x hx).2.1 j, fun j h1 h2 => by rw [k4 x j h1 h2]; exact (m3 x hx).2.2 j⟩
        have opn : ∀ j : Int, zr μ2 a4 j = zr μ a4 j := fun j => (fr2 a4 ha42).2.2 j (fun y => hoa y.1.symm) (fun y => (hl a4 y.1).2.2.2.1 rfl)
        by_cases ca : zaro (zat T k)
        · -- a bracket
          obtain ⟨l1, l2, l3⟩ := zsf_br ca
          obtain ⟨q1, q2, q3, q4, ⟨D1, eD, q5⟩, q6⟩ := w4 () ca
          have hq := zqp_r (zat T k)
          generalize hcl : zcl1 (zsT T lim) 0 k = cl at *
          generalize hqq : zqp (zat T k) = q at *
          obtain ⟨qn, hqn⟩ : ∃ qn : Nat, (qn : Int) = q := ⟨q.toNat, by omega⟩
          obtain ⟨cn1, hcn1⟩ : ∃ n : Nat, (n : Int) = cl := ⟨cl.toNat, by omega⟩
          rw [show zba 0 + (k : Int) + q = zba 0 + ((k + qn : Nat) : Int) by omega, zsT_at (by omega) (by omega)] at q1
          rw [← hcn1, zsT_at (by omega) (by omega)] at q2
          have hlen : (zstx (zsf (zat T k))).length = qn + 1 := by omega
          refine rX3_read_111 C _ _ _ _ _ _ (zsf_r _) _ ⟨⟨by omega, by omega⟩, by constructor <;> omega, ⟨by omega, by omega⟩, ⟨by omega, by omega⟩, kX9_at hX2 hT (by constructor <;> omega) ?_⟩
          rw [if_pos (by omega)]
          have hm : max 0 (((zstx (zsf (zat T k))).length : Int) - 1) = qn := by omega
          rw [hm, show (k : Int) + (qn : Int) = ((k + qn : Nat) : Int) by omega, q1]
          refine ⟨by decide, fun z => absurd rfl z, fun _ => ⟨by constructor <;> omega, fun z => absurd z (by omega), fun _ => ⟨okx ha42 ha4, by omega, zn μ, rfl, okb2, ?_⟩⟩⟩
          -- in the bracket
          have o3 : ∀ x j, zr (zupr μ2 a4 ((d : Int) + 1) (some (zn μ))) x j = if x = a4 ∧ j = (d : Int) + 1 then some (zn μ) else zr μ2 x j := fun x j => zr_upr _ _ _ _ _ _
          have n3 : zn (zupr μ2 a4 ((d : Int) + 1) (some (zn μ))) = zn μ2 := rfl
          have h3 : zh (zupr μ2 a4 ((d : Int) + 1) (some (zn μ))) = zh μ2 := rfl
          have i3 : ∀ x j, zi (zupr μ2 a4 ((d : Int) + 1) (some (zn μ))) x j = zi μ2 x j := fun _ _ => rfl
          have hc3 : zcld μ → zcld (zupr μ2 a4 ((d : Int) + 1) (some (zn μ))) := fun z => zupr_cld (k8 z) (fun c e => by injection e with e; omega)
          generalize zupr μ2 a4 ((d : Int) + 1) (some (zn μ)) = μ3 at *
          have ok3 : ∀ {x : Nat} {q : Nat × Nat}, zok true μ2 x q → zok true μ3 x q := fun {x q} h => ⟨by rw [n3]; exact h.1, by have := h.2; unfold zs at this ⊢; rw [h3]; exact this⟩
          rw [show ((k + qn : Nat) : Int) + 1 = ((k + qn + 1 : Nat) : Int) by omega, show (d : Int) + 1 = ((d + 1 : Nat) : Int) by omega]
          refine ih D1 (d + 1) (k + qn + 1) cn1 μ3 (cn + 1) (un + 6) (zn μ) none (by rw [show ((k + qn + 1 : Nat) : Int) = (k : Int) + q + 1 by omega, hcn1]; exact q5) (by omega) (by omega) (by omega) (by omega) (by rw [n3]; omega) ⟨by rw [i3]; exact hX2.1, fun k hk => by rw [i3]; exact hX2.2 k hk⟩ (ok3 (okx hbf2 hbf)) (by rw [n3]; omega) (by rw [i3, (fr2 bf hbf2).2.1]; exact hL) (by rw [o3, if_neg (by omega), (fr2 bf hbf2).2.2 0 (by omega) (by omega)]; exact hr0) (ok3 (okx ha42 ha4)) (by rw [n3]; omega) ha43 (by rw [o3, if_pos ⟨rfl, by omega⟩]) (ok3 okb2) (by rw [n3]; omega) (by omega) (by omega) (by rw [o3, if_neg (by omega)]; exact hb4) (fun _ => by rw [o3, if_neg (by omega), hb3]; exact nn3 (by unfold zaro at ca; omega)) (fun l hl2 => by cases hl2) (fun μ4 r4 cn4 un4 c4 u4 f4 t4 s4 _ => ?_)
          have s4 := s4 rfl
          obtain ⟨f41, f42, f43⟩ := f4
          rw [n3] at f41 f42 t4
          have hX4 : zXt μ4 T := ⟨by rw [(f42 1 (by omega)).2.1, i3]; exact hX2.1, fun k hk => by rw [(f42 2 (by omega)).2.1, i3]; exact hX2.2 k hk⟩
          -- the closing bracket
          refine rX3_read_29 C _ _ _ _ _ _ ?_
          rw [hX4.1]
          refine ⟨by constructor <;> omega, by constructor <;> omega, fun z => absurd z (by omega), fun _ => ⟨⟨by omega, by omega⟩, kX9_at hX4 hT (by constructor <;> omega) ?_⟩⟩
          rw [if_pos (by omega), q2]
          refine ⟨by decide, fun z => absurd rfl z, fun _ => ⟨by constructor <;> omega, ⟨by omega, by omega⟩, ?_⟩⟩
          rw [show max 0 (((d + 1 : Nat) : Int) - 1) = (d : Int) by omega, show (cn1 : Int) + 1 = ((cn1 + 1 : Nat) : Int) by omega]
          have x4 : ∀ x, x < zn μ → zh μ4 x = zh μ2 x ∧ (∀ j, zi μ4 x j = zi μ2 x j) ∧ ∀ j, ¬ (x = a4 ∧ (d : Int) < j) → zr μ4 x j = zr μ2 x j := fun x hx => by
            obtain ⟨y1, y2, y3⟩ := f42 x (by omega)
            refine ⟨by rw [y1, h3], fun j => by rw [y2, i3], fun j hj => ?_⟩
            rw [y3 j (by omega) (fun y => by cases y.1) (by omega), o3, if_neg (by omega)]
          have ok4 : ∀ {x : Nat} {q : Nat × Nat}, x < zn μ → zok true μ2 x q → zok true μ4 x q := fun hx h => zok_old (by omega) (by omega) (x4 _ hx).1 h
          obtain ⟨y1, y2, y3⟩ := f42 (zn μ) (by omega)
          have b45 : zr μ4 (zn μ) 5 = none := by rw [y3 5 (by omega) (fun y => by cases y.1) (by omega), o3, if_neg (by omega)]; exact hb5
          have b4h : zh μ4 (zn μ) = (8, 6) := by rw [y1, h3, k2]; exact m2
          refine ih D d (cn1 + 1) t μ4 cn4 un4 o (some (zn μ)) (by rw [show ((cn1 + 1 : Nat) : Int) = cl + 1 by omega]; exact q6) hD ht (by omega) (by omega) (by omega) hX4 (ok4 hbf2 (okx hbf2 hbf)) (by omega) (by rw [(x4 bf hbf2).2.1, (fr2 bf hbf2).2.1]; exact hL) (by rw [(x4 bf hbf2).2.2 0 (by omega), (fr2 bf hbf2).2.2 0 (by omega) (by omega)]; exact hr0) (ok4 ha42 (okx ha42 ha4)) (by omega) ha43 (by rw [(x4 a4 ha42).2.2 d (by omega), opn]; exact hopen) (ok4 ho2 (okx ho2 ho)) (by omega) ho3 hoa (by rw [(x4 o ho2).2.2 4 (fun y => hoa y.1)]; exact k5) (fun y => by cases y) (fun l hl2 => ?_) (fun μ5 r5 cn5 un5 c5 u5 f5 t5 _ s5 => ?_)
          · injection hl2 with hl2
            subst hl2
            exact ⟨⟨Or.inl (by omega), by unfold zs; rw [if_neg (by omega)]; exact b4h⟩, by omega, by omega, by omega, b45⟩
          · have s5 := s5 _ rfl
            obtain ⟨f51, f52, f53⟩ := f5
            obtain ⟨z1, z2, z3⟩ := f52 (zn μ) (by omega)
            have tot : ∀ x, x < zn μ → zh μ5 x = zh μ x ∧ (∀ j, zi μ5 x j = zi μ x j) ∧ ∀ j, ¬ (x = o ∧ (j = 4 ∨ (j = 3 ∧ ol = none))) → ¬ (ol = some x ∧ j = 5) → ¬ (x = a4 ∧ (d : Int) < j) → zr μ5 x j = zr μ x j := fun x hx => by
              obtain ⟨a1, a2, a3⟩ := f52 x (by omega)
              obtain ⟨a5, a6, a7⟩ := x4 x hx
              obtain ⟨a8, a9, a10⟩ := fr2 x hx
              refine ⟨by rw [a1, a5, a8], fun j => by rw [a2, a6, a9], fun j h1 h2 h3 => ?_⟩
              rw [a3 j (fun y => h1 ⟨y.1, y.2.elim Or.inl (fun y => by cases y.2)⟩) (fun y => by have := y.1; injection this with this; omega) h3, a7 j h3, a10 j h1 h2]
            refine hcont μ5 (some (zn μ)) cn5 un5 c5 u5 ⟨by omega, tot, fun z => f53 (f43 (hc3 z))⟩ ?_ (fun y => ?_) (fun l hl2 => ?_)
            · refine Or.inr (Or.inr ⟨by omega, zn μ, rfl, ⟨by omega, by omega⟩, ⟨by omega, by omega, by rw [z1]; exact b4h⟩, ?_, fun y => ?_, fun y => ?_, fun _ => ?_, fun y => ?_, fun y => ?_⟩)
              · rw [z2, y2, i3, k3, e0]; exact i0
              · rw [e0] at y; rw [z2, y2, i3, k3]; exact v1 y
              · rw [e0] at y; rw [z2, y2, i3, k3]; exact v2 y
              · rw [e0, hqq, hcl, s5, z3 3 (by omega) (by omega) (by omega), s4]
                rw [show ((k + qn + 1 : Nat) : Int) = (k : Int) + q + 1 by omega, hcn1] at t4
                rw [show ((cn1 + 1 : Nat) : Int) = cl + 1 by omega] at t5
                refine ⟨zTY_fr (fun x x0 x1 => ?_) f51 (by omega) f51 _ _ _ _ t4, zTY_fr (fun x x0 x1 => ⟨rfl, fun _ => rfl, fun _ => rfl⟩) (Nat.le_refl _) (by omega) (Nat.le_refl _) _ _ _ _ t5⟩
                obtain ⟨a1, a2, a3⟩ := f52 x x1
                exact ⟨a1, a2, fun j => a3 j (by omega) (fun y => by have := y.1; injection this with this; omega) (by omega)⟩
              · rw [e0] at y; unfold zaro at ca; omega
              · rw [e0] at y; exact absurd ca y
            · rw [(f52 o (by omega)).2.2 3 (fun y => y.2.elim (fun y => absurd y (by decide)) (fun y => by cases y.2)) (fun y => by have := y.1; injection this with this; omega) (fun y => hoa y.1), (x4 o ho2).2.2 3 (fun y => hoa y.1)]
              exact k6 y
            · obtain ⟨u1, u2, u3, u4, u5'⟩ := hl l hl2
              rw [(f52 l (by omega)).2.2 5 (by omega) (fun y => by have := y.1; injection this with this; omega) (fun y => u4 y.1), (x4 l u2).2.2 5 (fun y => u4 y.1)]
              exact k7 l hl2
        · -- no bracket
          obtain ⟨l1, -⟩ := zsf_no w2 ca
          have hwd := zwd_r (zat T k)
          have w112 : zat T k = 112 → zwd (zat T k) = 1 := fun z => by rw [z]; rfl
          have wrest : zWF (zsT T lim) f D 0 ((k + (zstx (zsf (zat T k))).length : Nat) : Int) t := by
            by_cases c : zat T k = 112
            · have := (w5 () c).2
              rw [show ((k + (zstx (zsf (zat T k))).length : Nat) : Int) = (k : Int) + 1 by have := w112 c; omega]
              exact this
            · have := (w6 () ca c).2
              rw [show ((k + (zstx (zsf (zat T k))).length : Nat) : Int) = (k : Int) + zwd (zat T k) by omega]
              exact this
          have hle := zWF_le wrest
          refine plain ca μ2 hX2 (by omega) ?_
          have b2h : zh μ2 (zn μ) = (8, 6) := by rw [k2]; exact m2
          refine ih D d (k + (zstx (zsf (zat T k))).length) t μ2 (cn + 1) (un + 6) o (some (zn μ)) wrest hD ht (by omega) (by omega) (by omega) hX2 (okx hbf2 hbf) (by omega) (by rw [(fr2 bf hbf2).2.1]; exact hL) (by rw [(fr2 bf hbf2).2.2 0 (by omega) (by omega)]; exact hr0) (okx ha42 ha4) (by omega) ha43 (by rw [opn]; exact hopen) (okx ho2 ho) (by omega) ho3 hoa k5 (fun y => by cases y) (fun l hl2 => ?_) (fun μ5 r5 cn5 un5 c5 u5 f5 t5 _ s5 => ?_)
          · injection hl2 with hl2
            subst hl2
            exact ⟨okb2, by omega, by omega, by omega, hb5⟩
          · have s5 := s5 _ rfl
            obtain ⟨f51, f52, f53⟩ := f5
            obtain ⟨z1, z2, z3⟩ := f52 (zn μ) (by omega)
            have b3e : zr μ5 (zn μ) 3 = zr μ1 (zn μ) 3 := by rw [z3 3 (by omega) (by omega) (by omega)]; exact hb3
            have tot : ∀ x, x < zn μ → zh μ5 x = zh μ x ∧ (∀ j, zi μ5 x j = zi μ x j) ∧ ∀ j, ¬ (x = o ∧ (j = 4 ∨ (j = 3 ∧ ol = none))) → ¬ (ol = some x ∧ j = 5) → ¬ (x = a4 ∧ (d : Int) < j) → zr μ5 x j = zr μ x j := fun x hx => by
              obtain ⟨a1, a2, a3⟩ := f52 x (by omega)
              obtain ⟨a8, a9, a10⟩ := fr2 x hx
              refine ⟨by rw [a1, a8], fun j => by rw [a2, a9], fun j h1 h2 h3 => ?_⟩
              rw [a3 j (fun y => h1 ⟨y.1, y.2.elim Or.inl (fun y => by cases y.2)⟩) (fun y => by have := y.1; injection this with this; omega) h3, a10 j h1 h2]
            have t6 : zTY (zsT T lim) L r0 μ5 (zn μ) (zn μ5) f (zr μ5 (zn μ) 5) ((k + (zstx (zsf (zat T k))).length : Nat) : Int) t := by
              rw [s5]
              exact zTY_fr (fun x x0 x1 => ⟨rfl, fun _ => rfl, fun _ => rfl⟩) (Nat.le_refl _) (by omega) (Nat.le_refl _) _ _ _ _ t5
            refine hcont μ5 (some (zn μ)) cn5 un5 c5 u5 ⟨by omega, tot, fun z => f53 (k8 z)⟩ ?_ (fun y => ?_) (fun l hl2 => ?_)
            · refine Or.inr (Or.inr ⟨by omega, zn μ, rfl, ⟨by omega, by omega⟩, ⟨by omega, by omega, by rw [z1]; exact b2h⟩, ?_, fun y => ?_, fun y => ?_, fun y => ?_, fun y => ?_, fun y1 y2 => ?_⟩)
              · rw [z2, k3, e0]; exact i0
              · rw [e0] at y; rw [z2, k3]; exact v1 y
              · rw [e0] at y; rw [z2, k3]; exact v2 y
              · rw [e0] at y; exact absurd y ca
              · rw [e0] at y
                obtain ⟨j1, j2⟩ := i2 y
                have hne : r0 ≠ none := hk.elim (fun z => absurd y z) id
                refine ⟨hne, by rw [z2, k3, j1]; exact hL, by rw [b3e, j2]; exact hr0, ?_⟩
                rw [show ((k + (zstx (zsf (zat T k))).length : Nat) : Int) = (k : Int) + 1 by have := w112 y; omega] at t6
                exact t6
              · rw [e0] at y2 ⊢
                refine ⟨by rw [b3e]; exact nn3 y2, ?_⟩
                rw [show ((k + (zstx (zsf (zat T k))).length : Nat) : Int) = (k : Int) + zwd (zat T k) by omega] at t6
                exact t6
            · rw [(f52 o (by omega)).2.2 3 (fun y => y.2.elim (fun y => absurd y (by decide)) (fun y => by cases y.2)) (fun y => by have := y.1; injection this with this; omega) (fun y => hoa y.1)]
              exact k6 y
            · obtain ⟨u1, u2, u3, u4, u5'⟩ := hl l hl2
              rw [(f52 l (by omega)).2.2 5 (by omega) (fun y => by have := y.1; injection this with this; omega) (fun y => u4 y.1)]
              exact k7 l hl2
      have hang : zat T k ≠ 112 ∨ r0 ≠ none → qX8_append G o (some (zn μ)) μ1 (fun μ2 => J 111 ([some (zR (some 1)), some (zR (some bf)), some (zI lim), some (zR (some a3)), some (zR (some a4)), some (zI d), some (zI k), some (zT (60 + zsf (zat T k))), some (zR (some (zn μ)))], [], μ2, cn + 1, un + 6)) := fun hk =>
        kX8_append (ok1 ho2 ho) (by rw [(m3 o ho2).2.2]; exact hol) (fun l hl2 => ok1 (hl l hl2).2.1 (hl l hl2).1) (fun μ2 k1 k2 k3 k4 k5 k6 k7 k8 => keep hk μ2 (by rw [k1, m1]) k2 k3 k4 k5 k6 k7 (fun z => k8 (by omega) (hc1 z)))
      refine ⟨zn μ, rfl, okb, by rw [i0]; constructor <;> omega, fun z => ?_, fun z => ?_⟩
      · rw [i0] at z
        exact ⟨ok1 ha42 ha4, ⟨by omega, by omega⟩, o, by rw [(m3 a4 ha42).2.2]; exact hopen, ok1 ho2 ho, ⟨by omega, by omega⟩, hang (Or.inl z)⟩
      · rw [i0] at z
        obtain ⟨j1, j2⟩ := i2 z
        have er : zr μ1 (zn μ) 3 = r0 := by rw [j2]; exact hr0
        refine ⟨okb, fun z2 => ?_, fun b37 z2 => ?_⟩
        · -- a p that does nothing
          have ca : ¬ zaro (zat T k) := by unfold zaro; omega
          obtain ⟨l1, -⟩ := zsf_no w2 ca
          have hw1 : zwd (zat T k) = 1 := by rw [z]; rfl
          have hr0n : r0 = none := by rw [← er]; exact z2
          have wrest := (w5 () z).2
          have hle := zWF_le wrest
          refine plain ca μ1 hX1 (by omega) ?_
          rw [show k + (zstx (zsf (zat T k))).length = k + 1 by omega]
          refine ih D d (k + 1) t μ1 (cn + 1) (un + 6) o ol (by rw [show ((k + 1 : Nat) : Int) = (k : Int) + 1 by omega]; exact wrest) hD ht (by omega) (by omega) (by omega) hX1 (ok1 hbf2 hbf) (by omega) (by rw [(m3 bf hbf2).2.1]; exact hL) (by rw [(m3 bf hbf2).2.2]; exact hr0) (ok1 ha42 ha4) (by omega) ha43 (by rw [(m3 a4 ha42).2.2]; exact hopen) (ok1 ho2 ho) (by omega) ho3 hoa (by rw [(m3 o ho2).2.2]; exact hol) (fun y => by rw [(m3 o ho2).2.2]; exact hol3 y) (fun l hl2 => ?_) (fun μ5 r5 cn5 un5 c5 u5 f5 t5 s51 s52 => ?_)
          · obtain ⟨u1, u2, u3, u4, u5'⟩ := hl l hl2
            exact ⟨ok1 u2 u1, by omega, u3, u4, by rw [(m3 l u2).2.2]; exact u5'⟩
          · obtain ⟨f51, f52, f53⟩ := f5
            refine hcont μ5 r5 cn5 un5 c5 u5 ⟨by omega, fun x hx => ?_, fun z => f53 (hc1 z)⟩ (Or.inr (Or.inl ⟨by omega, by rw [e0]; exact z, hr0n, ?_⟩)) s51 s52
            · obtain ⟨a1, a2, a3⟩ := f52 x (by omega)
              obtain ⟨a8, a9, a10⟩ := m3 x hx
              exact ⟨by rw [a1, a8], fun j => by rw [a2, a9], fun j h1 h2 h3 => by rw [a3 j h1 h2 h3, a10]⟩
            · rw [show ((k + 1 : Nat) : Int) = (k : Int) + 1 by omega] at t5
              exact zTY_fr (fun x x0 x1 => ⟨rfl, fun _ => rfl, fun _ => rfl⟩) (Nat.le_refl _) (by omega) (Nat.le_refl _) _ _ _ _ t5
        · have hne : r0 ≠ none := fun y => by rw [← er, z2] at y; cases y
          exact ⟨ok1 ha42 ha4, ⟨by omega, by omega⟩, o, by rw [(m3 a4 ha42).2.2]; exact hopen, ok1 ho2 ho, ⟨by omega, by omega⟩, hang (Or.inr hne)⟩
end
