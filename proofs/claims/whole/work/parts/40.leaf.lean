/-! contracts of the small functions -/
theorem zta_4 {k : Nat} (hk : k = 0 ∨ k = 1 ∨ k = 2 ∨ k = 7 ∨ k = 8) {i : Int} (h0 : 0 ≤ i) (h1 : i < 4) : 1 ≤ zta k i ∧ zta k i ≤ 1000 := by
  have hi : i = 0 ∨ i = 1 ∨ i = 2 ∨ i = 3 := by omega
  rcases hk with rfl | rfl | rfl | rfl | rfl <;> rcases hi with rfl | rfl | rfl | rfl <;> decide
/-- a loop that counts up -/
theorem zfor {lo hi : Int} (hlo : lo ≤ hi) {P : Int → Prop} (hend : P hi) (hstep : ∀ i, lo ≤ i → i < hi → P (i + 1) → P i) : P lo := by
  have h : ∀ (n : Nat) (i : Int), lo ≤ i → i + n = hi → P i := by
    intro n
    induction n with
    | zero => intro i _ he; rw [show i = hi by omega]; exact hend
    | succ n ih => intro i h0 he; exact hstep i h0 (by omega) (ih (i + 1) (by omega) (by omega))
  exact h (hi - lo).toNat lo (Int.le_refl _) (by omega)
/-- any loop whose measure falls -/
theorem zwhile {α : Type} (m : α → Nat) {P : α → Prop} (hstep : ∀ a, (∀ b, m b < m a → P b) → P a) (a : α) : P a := by
  have h : ∀ (n : Nat) (a : α), m a < n → P a := by
    intro n
    induction n with
    | zero => intro a h; omega
    | succ n ih => intro a h; exact hstep a (fun b hb => ih b (by omega))
  exact h (m a + 1) a (by omega)
/-- amounts, levels -/
def zam (p i : Int) : Int := p / zta 1 i % 9
def zlv (p i : Int) : Int := p / zta 2 i % 3
def zcam (c i : Int) : Int := c / zta 0 i % 10
section
variable {G : zG} {ph : Bool} {μ : zM} {F : Int → zM → Prop}
theorem kX10_isIn {x lo hi : Int} (hx : zin x) (hl : zin lo) (hh : zin hi) (h1 : lo ≤ x ∧ x ≤ hi → F 1 μ) (h0 : ¬ (lo ≤ x ∧ x ≤ hi) → F 0 μ) : qX10_isIn G ph x lo hi μ F :=
  eX10_isIn fun J C => rX10_isIn_e C _ _ _ ⟨hx, hl, fun c => h0 (by omega), fun c => ⟨hh, fun c => h0 (by omega), fun c => h1 (by omega)⟩⟩
theorem kX11_in {x lo hi : Int} (hx : zin x) (hl : zin lo) (hh : zin hi) (h1 : lo ≤ x ∧ x ≤ hi → F 1 μ) (h0 : ¬ (lo ≤ x ∧ x ≤ hi) → F 0 μ) : qX11_in G ph x lo hi μ F :=
  eX11_in fun J C => rX11_in_e C _ _ _ ⟨hx, hl, fun c => h0 (by omega), fun c => ⟨hh, fun c => h0 (by omega), fun c => h1 (by omega)⟩⟩
theorem kX10_amountOf {p i : Int} (h0 : 0 ≤ p) (h1 : p < 100000) (h2 : 0 ≤ i) (h3 : i < 4) (h : F (zam p i) μ) : qX10_amountOf G ph p i μ F := by
  obtain ⟨hz, hz2⟩ := zta_4 (k := 1) (by omega) h2 h3
  have hd : 0 ≤ p / zta 1 i ∧ p / zta 1 i ≤ p := ⟨Int.ediv_nonneg h0 (by omega), Int.ediv_le_self _ h0⟩
  exact eX10_amountOf fun J C => rX10_amountOf_e C _ _ ⟨⟨h2, h3⟩, ⟨h0, by omega⟩, ⟨by omega, by omega⟩, ⟨hd.1, by omega⟩, h⟩
theorem kX10_levelOf {p i : Int} (h0 : 0 ≤ p) (h1 : p < 100000) (h2 : 0 ≤ i) (h3 : i < 4) (h : F (zlv p i) μ) : qX10_levelOf G ph p i μ F := by
  obtain ⟨hz, hz2⟩ := zta_4 (k := 2) (by omega) h2 h3
  have hd : 0 ≤ p / zta 2 i ∧ p / zta 2 i ≤ p := ⟨Int.ediv_nonneg h0 (by omega), Int.ediv_le_self _ h0⟩
  exact eX10_levelOf fun J C => rX10_levelOf_e C _ _ ⟨⟨h2, h3⟩, ⟨h0, by omega⟩, ⟨by omega, by omega⟩, ⟨hd.1, by omega⟩, h⟩
theorem kX11_amountOf {p i : Int} (h0 : 0 ≤ p) (h1 : p < 100000) (h2 : 0 ≤ i) (h3 : i < 4) (h : F (zcam p i) μ) : qX11_amountOf G ph p i μ F := by
  obtain ⟨hz, hz2⟩ := zta_4 (k := 8) (by omega) h2 h3
  have hd : 0 ≤ p / zta 8 i ∧ p / zta 8 i ≤ p := ⟨Int.ediv_nonneg h0 (by omega), Int.ediv_le_self _ h0⟩
  exact eX11_amountOf fun J C => rX11_amountOf_e C _ _ ⟨⟨h2, h3⟩, ⟨h0, by omega⟩, ⟨by omega, by omega⟩, ⟨hd.1, by omega⟩, h⟩
theorem kX11_levelOf {p i : Int} (h0 : 0 ≤ p) (h1 : p < 100000) (h2 : 0 ≤ i) (h3 : i < 4) (h : F (zlv p i) μ) : qX11_levelOf G ph p i μ F := by
  obtain ⟨hz, hz2⟩ := zta_4 (k := 7) (by omega) h2 h3
  have hd : 0 ≤ p / zta 7 i ∧ p / zta 7 i ≤ p := ⟨Int.ediv_nonneg h0 (by omega), Int.ediv_le_self _ h0⟩
  exact eX11_levelOf fun J C => rX11_levelOf_e C _ _ ⟨⟨h2, h3⟩, ⟨h0, by omega⟩, ⟨by omega, by omega⟩, ⟨hd.1, by omega⟩, h⟩
theorem kX10_isInk {x : Int} (hx : zin x) (h1 : 0 ≤ x ∧ x ≤ 3 → F 1 μ) (h0 : ¬ (0 ≤ x ∧ x ≤ 3) → F 0 μ) : qX10_isInk G ph x μ F :=
  eX10_isInk fun J C => rX10_isInk_e C _ (kX10_isIn hx (by decide) (by decide) (fun c => ⟨Or.inr rfl, h1 c⟩) (fun c => ⟨Or.inl rfl, h0 c⟩))
theorem kX10_isBand {x : Int} (hx : zin x) (h1 : 0 ≤ x ∧ x ≤ 2 → F 1 μ) (h0 : ¬ (0 ≤ x ∧ x ≤ 2) → F 0 μ) : qX10_isBand G ph x μ F :=
  eX10_isBand fun J C => rX10_isBand_e C _ (kX10_isIn hx (by decide) (by decide) (fun c => ⟨Or.inr rfl, h1 c⟩) (fun c => ⟨Or.inl rfl, h0 c⟩))
theorem kX10_isPatch {x : Int} (hx : zin x) (h1 : 0 ≤ x ∧ x ≤ 80 → F 1 μ) (h0 : ¬ (0 ≤ x ∧ x ≤ 80) → F 0 μ) : qX10_isPatch G ph x μ F :=
  eX10_isPatch fun J C => rX10_isPatch_e C _ (kX10_isIn hx (by decide) (by decide) (fun c => ⟨Or.inr rfl, h1 c⟩) (fun c => ⟨Or.inl rfl, h0 c⟩))
theorem kX10_isHow {x : Int} (hx : zin x) (h1 : 0 ≤ x ∧ x ≤ 1 → F 1 μ) (h0 : ¬ (0 ≤ x ∧ x ≤ 1) → F 0 μ) : qX10_isHow G ph x μ F :=
  eX10_isHow fun J C => rX10_isHow_e C _ (kX10_isIn hx (by decide) (by decide) (fun c => ⟨Or.inr rfl, h1 c⟩) (fun c => ⟨Or.inl rfl, h0 c⟩))
theorem kX11_isInk {x : Int} (hx : zin x) (h1 : 0 ≤ x ∧ x ≤ 3 → F 1 μ) (h0 : ¬ (0 ≤ x ∧ x ≤ 3) → F 0 μ) : qX11_isInk G ph x μ F :=
  eX11_isInk fun J C => rX11_isInk_e C _ (kX11_in hx (by decide) (by decide) (fun c => ⟨Or.inr rfl, h1 c⟩) (fun c => ⟨Or.inl rfl, h0 c⟩))
abbrev zcol3 (r q b : Int) : Prop := (0 ≤ r ∧ r ≤ 400) ∧ (0 ≤ q ∧ q ≤ 400) ∧ (0 ≤ b ∧ b ≤ 400)
theorem kX10_isColour {r q b : Int} (hr : zin r) (hq : zin q) (hb : zin b) (h1 : zcol3 r q b → F 1 μ) (h0 : ¬ zcol3 r q b → F 0 μ) : qX10_isColour G ph r q b μ F :=
  eX10_isColour fun J C => rX10_isColour_e C _ _ _ (kX10_isIn hr (by decide) (by decide) (fun c => ⟨by decide, fun q => absurd q (by decide), fun _ => kX10_isIn hq (by decide) (by decide) (fun c2 => ⟨by decide, fun q => absurd q (by decide), fun _ => kX10_isIn hb (by decide) (by decide) (fun c3 => ⟨by decide, fun q => absurd q (by decide), fun _ => h1 ⟨c, c2, c3⟩⟩) (fun c3 => ⟨by decide, fun _ => h0 (fun z => c3 z.2.2), fun q => absurd rfl q⟩)⟩) (fun c2 => ⟨by decide, fun _ => h0 (fun z => c2 z.2.1), fun q => absurd rfl q⟩)⟩) (fun c => ⟨by decide, fun _ => h0 (fun z => c z.1), fun q => absurd rfl q⟩))
theorem kX11_isWanted {r q b : Int} (hr : zin r) (hq : zin q) (hb : zin b) (h1 : zcol3 r q b → F 1 μ) (h0 : ¬ zcol3 r q b → F 0 μ) : qX11_isWanted G ph r q b μ F :=
  eX11_isWanted fun J C => rX11_isWanted_e C _ _ _ (kX11_in hr (by decide) (by decide) (fun c => ⟨by decide, fun q => absurd q (by decide), fun _ => kX11_in hq (by decide) (by decide) (fun c2 => ⟨by decide, fun q => absurd q (by decide), fun _ => kX11_in hb (by decide) (by decide) (fun c3 => ⟨by decide, fun q => absurd q (by decide), fun _ => h1 ⟨c, c2, c3⟩⟩) (fun c3 => ⟨by decide, fun _ => h0 (fun z => c3 z.2.2), fun q => absurd rfl q⟩)⟩) (fun c2 => ⟨by decide, fun _ => h0 (fun z => c2 z.2.1), fun q => absurd rfl q⟩)⟩) (fun c => ⟨by decide, fun _ => h0 (fun z => c z.1), fun q => absurd rfl q⟩))
theorem kX10_put {v m : Int} (hv : zin v) (hm : 0 ≤ m ∧ m < 1000000) (h : F (max 0 (min v m)) μ) : qX10_put G ph v m μ F :=
  eX10_put fun J C => rX10_put_e C _ _ (by
    refine ⟨hv, ⟨by omega, by omega⟩, ?_⟩
    refine ⟨by constructor <;> omega, ?_⟩
    exact h)
theorem kX11_within {v : Int} (hv : zin v) (h : F (max 0 (min 400 v)) μ) : qX11_within G ph v μ F :=
  eX11_within fun J C => rX11_within_e C _ (by
    refine ⟨hv, ⟨by constructor <;> omega, ?_⟩⟩
    exact h)
/-- how many of the first n levels are above 0 -/
def zpn (p : Int) : Nat → Int
  | 0 => 0
  | n + 1 => zpn p n + (if zlv p n ≤ 0 then 0 else 1)
abbrev zplain (p : Int) : Prop := zpn p (3 + 1) ≤ 1
theorem zlv_r (p : Int) {i : Int} (h : 0 ≤ p) : 0 ≤ zlv p i ∧ zlv p i < 3 := by
  unfold zlv
  omega
theorem kX10_isPlain {p : Int} (h0 : 0 ≤ p) (h1 : p < 100000) (ht : zplain p → F 1 μ) (hf : ¬ zplain p → F 0 μ) : qX10_isPlain G ph p μ F :=
  eX10_isPlain fun J C => rX10_isPlain_e C _ (by
    have step : ∀ n : Nat, n < 4 → J 4 ([some (zI p), some (zI (zpn p (n + 1))), some (zI ((n : Int) + 1))], [], μ, 0, 0) → J 4 ([some (zI p), some (zI (zpn p n)), some (zI (n : Int))], [], μ, 0, 0) := by
      intro n hn h
      refine rX10_isPlain_4 C _ _ _ ⟨by constructor <;> omega, fun c => absurd c (by omega), fun _ => kX10_levelOf h0 h1 (by omega) (by omega) ?_⟩
      have hr := zlv_r p (i := n) h0
      refine ⟨by constructor <;> omega, fun c => ?_, fun c => ?_⟩
      · rw [zpn, if_pos c, Int.add_zero] at h; exact h
      · rw [zpn, if_neg c] at h; exact h
    have hb : 0 ≤ zpn p (3 + 1) ∧ zpn p (3 + 1) ≤ 4 := by
      simp only [zpn]
      refine ⟨?_, ?_⟩ <;> (repeat' split) <;> omega
    refine step 0 (by decide) (step 1 (by decide) (step 2 (by decide) (step 3 (by decide) (rX10_isPlain_4 C _ _ _ ⟨by decide, fun _ => ⟨by constructor <;> omega, fun c => ?_, fun c => ?_⟩, fun c => absurd (by decide) c⟩))))
    · exact hf (fun q => by unfold zplain at q; omega)
    · exact ht (by unfold zplain; omega))
theorem kX11_isPlain {p : Int} (h0 : 0 ≤ p) (h1 : p < 100000) (ht : zplain p → F 1 μ) (hf : ¬ zplain p → F 0 μ) : qX11_isPlain G ph p μ F :=
  eX11_isPlain fun J C => rX11_isPlain_e C _ (by
    have step : ∀ n : Nat, n < 4 → J 4 ([some (zI p), some (zI (zpn p (n + 1))), some (zI ((n : Int) + 1))], [], μ, 0, 0) → J 4 ([some (zI p), some (zI (zpn p n)), some (zI (n : Int))], [], μ, 0, 0) := by
      intro n hn h
      refine rX11_isPlain_4 C _ _ _ ⟨by constructor <;> omega, fun c => absurd c (by omega), fun _ => kX11_levelOf h0 h1 (by omega) (by omega) ?_⟩
      have hr := zlv_r p (i := n) h0
      refine ⟨by constructor <;> omega, fun c => ?_, fun c => ?_⟩
      · rw [zpn, if_pos c] at h; exact h
      · rw [zpn, if_neg c] at h; exact h
    have hb : 0 ≤ zpn p (3 + 1) ∧ zpn p (3 + 1) ≤ 4 := by
      simp only [zpn]
      refine ⟨?_, ?_⟩ <;> (repeat' split) <;> omega
    refine step 0 (by decide) (step 1 (by decide) (step 2 (by decide) (step 3 (by decide) (rX11_isPlain_4 C _ _ _ ⟨by decide, fun _ => ⟨by constructor <;> omega, fun c => ?_, fun c => ?_⟩, fun c => absurd (by decide) c⟩))))
    · exact hf (fun q => by unfold zplain at q; omega)
    · exact ht (by unfold zplain; omega))
end
