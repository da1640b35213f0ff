/-! all that the two sides hold; history -/
/-- things made are as they were; there may be more -/
def zxt (μ μ' : zM) : Prop := (∀ b, 182 ≤ b → b < zn μ → zh μ' b = zh μ b ∧ (∀ j, zi μ' b j = zi μ b j) ∧ ∀ j, zr μ' b j = zr μ b j) ∧ zn μ ≤ zn μ'
theorem zxt.refl (μ : zM) : zxt μ μ := ⟨fun _ _ _ => ⟨rfl, fun _ => rfl, fun _ => rfl⟩, Nat.le_refl _⟩
theorem zxt.trans {μ μ' μ'' : zM} (h : zxt μ μ') (h2 : zxt μ' μ'') : zxt μ μ'' :=
  ⟨fun b h0 h1 => by
    obtain ⟨a1, a2, a3⟩ := h.1 b h0 h1
    obtain ⟨b1, b2, b3⟩ := h2.1 b h0 (Nat.lt_of_lt_of_le h1 h.2)
    exact ⟨b1.trans a1, fun j => (b2 j).trans (a2 j), fun j => (b3 j).trans (a3 j)⟩, Nat.le_trans h.2 h2.2⟩
theorem zsr.x {P Q : Nat → Int → Prop} {μ μ' : zM} (h : zsr P Q μ μ') (hP : ∀ b j, P b j ∨ Q b j → b < 182) : zxt μ μ' :=
  ⟨fun b h0 _ => ⟨by rw [h.2.2.1], fun j => h.1 b j (fun z => by have := hP b j (Or.inl z); omega), fun j => h.2.1 b j (fun z => by have := hP b j (Or.inr z); omega)⟩, by rw [h.2.2.2]; exact Nat.le_refl _⟩
theorem zsm.x {P : Nat → Int → Prop} {μ μ' : zM} (h : zsm P μ μ') (hP : ∀ b j, P b j → b < 182) : zxt μ μ' :=
  (h.q (Q := fun _ _ => False)).x (fun b j z => z.elim (hP b j) False.elim)
theorem zTX.x {S : Int → Int} {μ μ' : zM} (hm : zxt μ μ') : ∀ (f : Nat) (r : Option Nat) (a k t : Int), zTX S μ f r a k t → zTX S μ' f r a k t
  | 0, _, _, _, _, h => h
  | f + 1, r, a, k, t, h => by
    rcases h with h | ⟨h1, h2, h3, h4⟩ | ⟨h1, b, h2, h3, h4, h5, h6, h7, h8, h9⟩
    · exact Or.inl h
    · exact Or.inr (Or.inl ⟨h1, h2, fun z => zTX.x hm f _ _ _ _ (h3 z), zTX.x hm f _ _ _ _ h4⟩)
    · obtain ⟨e0, e, er⟩ := hm.1 b h3.1 h3.2.1
      refine Or.inr (Or.inr ⟨h1, b, h2, ⟨h3.1, Nat.lt_of_lt_of_le h3.2.1 hm.2, by rw [e0]; exact h3.2.2⟩, by rw [e]; exact h4, fun z => by rw [e]; exact h5 z, fun z => by rw [e]; exact h6 z, fun z => ?_, fun z => ?_, fun z w => ?_⟩)
      · rw [er, er]; exact ⟨zTX.x hm f _ _ _ _ (h7 z).1, zTX.x hm f _ _ _ _ (h7 z).2⟩
      · rw [er, er]; exact ⟨(h8 z).1, zTX.x hm f _ _ _ _ (h8 z).2.1, zTX.x hm f _ _ _ _ (h8 z).2.2⟩
      · rw [er, er]; exact ⟨(h9 z w).1, zTX.x hm f _ _ _ _ (h9 z w).2⟩
theorem zLnk.x {S : Int → Int} {μ μ' : zM} {r : Option Nat} (h : zLnk S μ r) (hm : zxt μ μ') (hb : ∀ b, zlb b → b < 182 → (∀ j, zi μ' b j = zi μ b j) ∧ zr μ' b 0 = zr μ b 0) : zLnk S μ' r := by
  obtain ⟨b, h1, h2, h3, h4, h5, h6, h7⟩ := h
  have h8 : (∀ j, zi μ' b j = zi μ b j) ∧ zr μ' b 0 = zr μ b 0 ∧ zok true μ' b (3, 3) := by
    by_cases c : b < 182
    · obtain ⟨q1, q2⟩ := hb b h2 c
      refine ⟨q1, q2, Or.inr ⟨rfl, c⟩, ?_⟩
      have := h3.2
      unfold zs at this ⊢
      rw [if_pos c] at this ⊢
      exact this
    · have hl : b < zn μ := by rcases h3.1 with z | z; exact z; omega
      obtain ⟨q0, q1, q2⟩ := hm.1 b (by omega) hl
      refine ⟨q1, q2 0, Or.inl (Nat.lt_of_lt_of_le hl hm.2), ?_⟩
      have := h3.2
      unfold zs at this ⊢
      rw [if_neg c] at this ⊢
      rw [q0]; exact this
  obtain ⟨e1, e2, e3⟩ := h8
  exact ⟨b, h1, h2, e3, by rw [e1]; exact h4, by rw [e1]; exact h5, fun z => by rw [e2]; exact h6 z, fun z => by rw [e2]; exact zTX.x hm _ _ _ _ _ (h7 z)⟩
theorem zLnk.q {S : Int → Int} {P Q : Nat → Int → Prop} {μ μ' : zM} {r : Option Nat} (h : zLnk S μ r) (hm : zsr P Q μ μ') (hP : ∀ b j, P b j → b < 182 ∧ ¬ zlb b) (hQ : ∀ b j, Q b j → b < 182 ∧ ¬ zlb b) : zLnk S μ' r :=
  h.x (hm.x (fun b j z => z.elim (fun z => (hP b j z).1) (fun z => (hQ b j z).1))) (fun b hb _ => ⟨fun j => hm.1 b j (fun z => (hP b j z).2 hb), hm.2.1 b 0 (fun z => (hQ b 0 z).2 hb)⟩)
/-- what a state may be -/
def zval (S : Int → Int) : Prop := zLr S ∧ zSet S ∧ zPic S ∧ zCv S ∧ zLw S ∧ zSx S ∧ (∀ p, 0 ≤ p → p < 81 → zplain p → S (243 + p) = 0) ∧ 8 ≤ S 704 ∧ S 613 ≤ 500
/-- the texts -/
def zTv (T : List Int) : Prop := T.length ≤ 80 ∧ ∀ k : Nat, k < T.length → 0 ≤ T.getD k 0 ∧ T.getD k 0 < 256
def zXt (μ : zM) (T : List Int) : Prop := zi μ 1 1 = T.length ∧ ∀ k : Nat, k < T.length → zi μ 2 k = T.getD k 0
def zMt (μ : zM) (T : List Int) : Prop := zi μ 153 2 = T.length ∧ ∀ k : Nat, k < T.length → zi μ 155 k = if T.getD k 0 < 128 then T.getD k 0 else T.getD k 0 - 256
/-- the states to come back to -/
abbrev zslo (g : Int) (k : Nat) : Nat := 15 + 8 * ((g + k) % 11).toNat
abbrev zU (U : List (Int → Int)) (k : Nat) : Int → Int := U.getD k (fun _ => 0)
def zXh (μ : zM) (c : Int) (U : List (Int → Int)) : Prop := ∃ g, (0 ≤ g ∧ g < 11) ∧ zi μ 13 1 = g ∧ zi μ 13 2 = c ∧ ∀ k : Nat, k < U.length → zXs μ (zslo g k) (zU U k) ∧ zLnk (zU U k) μ (zr μ (zslo g k) 8)
def zMu (μ : zM) (U : List (Int → Int)) : Prop := U.length ≤ 10 ∧ zi μ 153 39 = U.length ∧ ∀ k : Nat, k < U.length → ∀ i, 0 ≤ i → i < 711 → zi μ 175 (711 * k + i) = zU U k i
def zpush (U : List (Int → Int)) (S : Int → Int) : List (Int → Int) := if U.length < 10 then U ++ [S] else U.tail ++ [S]
def zXK (μ : zM) (kp : Int → Int) (K : Int → Int → Int) : Prop := zXk μ kp K ∧ ∀ i, 0 ≤ i → i < 2 → kp i = 1 → zLnk (K i) μ (zr μ (137 + 8 * i.toNat) 8)
def zXg (μ : zM) (S : Int → Int) (c : Int) (W : List (Int → Int)) (kp : Int → Int) (K : Int → Int → Int) (T R : List Int) : Prop :=
  zXs μ 5 S ∧ zLnk S μ (zr μ 5 8) ∧ zXh μ c W ∧ zXK μ kp K ∧ zXt μ T ∧ zXr μ R ∧ zXc μ
def zXa (μ : zM) (S : Int → Int) (U : List (Int → Int)) (kp : Int → Int) (K : Int → Int → Int) (T R : List Int) : Prop := U.length ≤ 10 ∧ zXg μ S U.length U kp K T R
def zMa (μ : zM) (S : Int → Int) (U : List (Int → Int)) (kp : Int → Int) (K : Int → Int → Int) (T R : List Int) : Prop :=
  zMs μ S ∧ zMu μ U ∧ zMk μ kp K ∧ zMt μ T ∧ zMr μ R ∧ zcds μ
/-- the reference's part is as it was -/
def zxm (μ μ' : zM) : Prop := (∀ b j, 153 ≤ b → b ≤ 181 → zi μ' b j = zi μ b j) ∧ (zcld μ → zcld μ')
theorem zxm.refl (μ : zM) : zxm μ μ := ⟨fun _ _ _ _ => rfl, id⟩
theorem zxm.trans {μ μ' μ'' : zM} (h : zxm μ μ') (h2 : zxm μ' μ'') : zxm μ μ'' := ⟨fun b j h0 h1 => (h2.1 b j h0 h1).trans (h.1 b j h0 h1), fun z => h2.2 (h.2 z)⟩
theorem zsr.xm {P Q : Nat → Int → Prop} {μ μ' : zM} (h : zsr P Q μ μ') (hP : ∀ b j, P b j → b < 153 ∨ 181 < b) (hq : ∀ b j, Q b j → ∃ (c : Nat) (k : Int), 0 ≤ k ∧ zr μ' b j = zr μ c k) : zxm μ μ' := ⟨fun b j h0 h1 => h.1 b j (fun z => by have := hP b j z; omega), h.cld hq⟩
theorem zsm.xm {P : Nat → Int → Prop} {μ μ' : zM} (h : zsm P μ μ') (hP : ∀ b j, P b j → b < 153 ∨ 181 < b) : zxm μ μ' := ⟨fun b j h0 h1 => h.1 b j (fun z => by have := hP b j z; omega), h.cld⟩
abbrev zPW (b : Nat) (_ : Int) : Prop := 153 ≤ b ∧ b ≤ 181
theorem zMt.sm {P : Nat → Int → Prop} {μ μ' : zM} {T : List Int} (h : zMt μ T) (hm : zsm P μ μ') (h1 : ¬ P 153 2) (h2 : ∀ j, ¬ P 155 j) : zMt μ' T := ⟨by rw [hm.1 _ _ h1]; exact h.1, fun k hk => by rw [hm.1 _ _ (h2 _)]; exact h.2 k hk⟩
theorem zMu.sm {P : Nat → Int → Prop} {μ μ' : zM} {U : List (Int → Int)} (h : zMu μ U) (hm : zsm P μ μ') (h1 : ¬ P 153 39) (h2 : ∀ j, ¬ P 175 j) : zMu μ' U := ⟨h.1, by rw [hm.1 _ _ h1]; exact h.2.1, fun k hk i h0 h3 => by rw [hm.1 _ _ (h2 _)]; exact h.2.2 k hk i h0 h3⟩
theorem zMa.x {μ μ' : zM} {S : Int → Int} {U : List (Int → Int)} {kp : Int → Int} {K : Int → Int → Int} {T R : List Int} (h : zMa μ S U kp K T R) (hm : zxm μ μ') : zMa μ' S U kp K T R := by
  have g : zsm (fun b _ => b < 153 ∨ 181 < b) μ (μ'.1 , μ.2) → zMa μ' S U kp K T R := fun _ => by
    obtain ⟨h1, h2, h3, h4, h5, h6⟩ := h
    refine ⟨fun i i0 i1 => ?_, ⟨h2.1, ?_, fun k hk i i0 i1 => ?_⟩, fun i i0 i1 => ⟨?_, fun e k k0 k1 => ?_⟩, ⟨?_, fun k hk => ?_⟩, ⟨h5.1, ?_, fun k hk => ?_⟩, fun i i0 i1 => ?_⟩
    · rw [hm.1 _ _ (by decide) (by decide)]; exact h1 i i0 i1
    · rw [hm.1 _ _ (by decide) (by decide)]; exact h2.2.1
    · rw [hm.1 _ _ (by decide) (by decide)]; exact h2.2.2 k hk i i0 i1
    · rw [hm.1 _ _ (by decide) (by decide)]; exact (h3 i i0 i1).1
    · rw [hm.1 _ _ (by decide) (by decide)]; exact (h3 i i0 i1).2 e k k0 k1
    · rw [hm.1 _ _ (by decide) (by decide)]; exact h4.1
    · rw [hm.1 _ _ (by decide) (by decide)]; exact h4.2 k hk
    · rw [hm.1 _ _ (by decide) (by decide)]; exact h5.2.1
    · rw [hm.1 _ _ (by decide) (by decide)]; exact h5.2.2 k hk
    · rw [hm.1 _ _ (by decide) (by decide)]; exact h6 i i0 i1
  exact g ⟨fun b j q => hm.1 b j (by omega) (by omega), rfl, rfl, rfl⟩
theorem zMa.pub {μ μ' : zM} {S : Int → Int} {U : List (Int → Int)} {kp : Int → Int} {K : Int → Int → Int} {T R R' : List Int} (h : zMa μ S U kp K T R) (hm : zsm zPM μ μ') (hR : zMr μ' R') : zMa μ' S U kp K T R' :=
  ⟨h.1.pm hm, h.2.1.sm hm (by unfold zPM; omega) (fun j => by unfold zPM; omega), h.2.2.1.sm hm (fun b j z => by unfold zPM; omega), h.2.2.2.1.sm hm (by unfold zPM; omega) (fun j => by unfold zPM; omega), hR, h.2.2.2.2.2.pm hm⟩
section
variable {μ μ' : zM} {S : Int → Int} {c : Int} {W U : List (Int → Int)} {kp : Int → Int} {K : Int → Int → Int} {T R : List Int}
/-- the class's part, whatever changes outside of its now -/
theorem zXg.gen {P Q : Nat → Int → Prop} {S' : Int → Int} {R' : List Int} (h : zXg μ S c W kp K T R) (hm : zsr P Q μ μ') (hP : ∀ b j, P b j → (5 ≤ b ∧ b ≤ 11) ∨ zPX b j ∨ (153 ≤ b ∧ b ≤ 181)) (hQ : ∀ b j, Q b j → 105 ≤ b ∧ b ≤ 136 ∧ ¬ zlb b) (hX : zXs μ' 5 S') (hL : zLnk S' μ (zr μ 5 8)) (hR : zXr μ' R') (hc : zXc μ') : zXg μ' S' c W kp K T R' := by
  have hP2 : ∀ b j, P b j → b < 182 ∧ ¬ zlb b := fun b j z => ⟨by have := hP b j z; unfold zPX at this; omega, fun y => by
    have := hP b j z
    unfold zPX at this
    rcases y with y | ⟨i, hi, y⟩ | y | y | y <;> omega⟩
  have hQ2 : ∀ b j, Q b j → b < 182 ∧ ¬ zlb b := fun b j z => ⟨by have := hQ b j z; omega, (hQ b j z).2.2⟩
  obtain ⟨h1, h2, ⟨g, hg, e1, e2, h3⟩, ⟨h4, h5⟩, h6, h7, h8⟩ := h
  refine ⟨hX, ?_, ⟨g, hg, ?_, ?_, fun k hk => ⟨(h3 k hk).1.q hm (fun b j i0 i1 z => ?_), ?_⟩⟩, ⟨fun i i0 i1 => ⟨?_, fun e => ((h4 i i0 i1).2 e).q hm (fun b j q0 q1 z => ?_)⟩, fun i i0 i1 e => ?_⟩, ⟨?_, fun k hk => ?_⟩, hR, hc⟩
  · rw [hm.2.1 5 8 (fun z => by have := hQ _ _ z; omega)]; exact hL.q hm hP2 hQ2
  · rw [hm.1 13 1 (fun z => by have := hP _ _ z; unfold zPX at this; omega)]; exact e1
  · rw [hm.1 13 2 (fun z => by have := hP _ _ z; unfold zPX at this; omega)]; exact e2
  · have := hP _ _ z; unfold zPX at this; unfold zslo at *; omega
  · rw [hm.2.1 _ 8 (fun z => by have := hQ _ _ z; unfold zslo at *; omega)]; exact (h3 k hk).2.q hm hP2 hQ2
  · rw [hm.1 104 i (fun z => by have := hP _ _ z; unfold zPX at this; omega)]; exact (h4 i i0 i1).1
  · have := hP _ _ z; unfold zPX at this; omega
  · rw [hm.2.1 _ 8 (fun z => by have := hQ _ _ z; omega)]; exact (h5 i i0 i1 e).q hm hP2 hQ2
  · rw [hm.1 1 1 (fun z => by have := hP _ _ z; unfold zPX at this; omega)]; exact h6.1
  · rw [hm.1 2 k (fun z => by have := hP _ _ z; unfold zPX at this; omega)]; exact h6.2 k hk
/-- a call that leaves the state -/
theorem zXg.pub {R' : List Int} (h : zXg μ S c W kp K T R) (hm : zsm zPX μ μ') (hc : zXc μ') (hR : zXr μ' R') : zXg μ' S c W kp K T R' :=
  h.gen (hm.q (Q := fun _ _ => False)) (fun b j z => Or.inr (Or.inl z)) (fun b j z => z.elim) (h.1.px hm (by decide)) h.2.1 hR hc
theorem zXa.pub {R' : List Int} (h : zXa μ S U kp K T R) (hm : zsm zPX μ μ') (hc : zXc μ') (hR : zXr μ' R') : zXa μ' S U kp K T R' := ⟨h.1, h.2.pub hm hc hR⟩
/-- the reference's calls -/
theorem zXa.m (h : zXa μ S U kp K T R) (hm : zsm zPW μ μ') : zXa μ' S U kp K T R :=
  ⟨h.1, h.2.gen (hm.q (Q := fun _ _ => False)) (fun b j z => Or.inr (Or.inr z)) (fun b j z => z.elim) (h.2.1.sm hm (fun b j q0 q1 z => by have := z.1; omega)) h.2.2.1 (h.2.2.2.2.2.2.1.sm hm (by decide) (fun j z => by have := z.1; omega)) (h.2.2.2.2.2.2.2.sm hm (fun b j z y => by have := y.1; omega))⟩
/-- a change of the state that leaves the link -/
theorem zXg.st {P : Nat → Int → Prop} {S' : Int → Int} (h : zXg μ S c W kp K T R) (hm : zsm P μ μ') (hP : ∀ b j, P b j → 5 ≤ b ∧ b ≤ 11) (hX : zXs μ' 5 S') (hs : ∀ i, 360 ≤ i → i < 614 → S' i = S i) (hw : zLw S) : zXg μ' S' c W kp K T R :=
  h.gen (hm.q (Q := fun _ _ => False)) (fun b j z => Or.inl (hP b j z)) (fun b j z => z.elim) hX (zLnk_c hs hw h.2.1) (h.2.2.2.2.2.1.sm hm (fun z => by have := hP _ _ z; omega) (fun j z => by have := hP _ _ z; omega)) (h.2.2.2.2.2.2.sm hm (fun b j z y => by have := hP _ _ y; omega))
end
