/-! steps of a link, one by one -/
def zik (c : Int) : Int := if c = 99 then 0 else if c = 109 then 1 else if c = 121 then 2 else if c = 107 then 3 else -1
abbrev zaro (c : Int) : Prop := c = 110 ∨ c = 111 ∨ c = 105 ∨ c = 106
abbrev zuf1 (c : Int) : Prop := c = 108 ∨ c = 103 ∨ c = 117 ∨ c = 97 ∨ c = 115 ∨ c = 119 ∨ c = 104 ∨ c = 120 ∨ zaro c
abbrev zus1 (c : Int) : Prop := c = 97 ∨ c = 115 ∨ c = 119 ∨ c = 120 ∨ c = 105 ∨ c = 106
def zkin (c : Int) : Prop := c = 108 ∨ c = 118 ∨ c = 103 ∨ c = 117 ∨ c = 97 ∨ c = 115 ∨ c = 119 ∨ c = 104 ∨ c = 120 ∨ c = 112 ∨ zaro c
def zqp (c : Int) : Int := if c = 110 ∨ c = 111 then 2 else 3
def zwd (c : Int) : Int := if c = 103 ∨ c = 117 ∨ c = 104 then 2 else if c = 97 ∨ c = 115 ∨ c = 119 ∨ c = 120 then 3 else 1
abbrev zba (a : Int) : Int := 360 + 40 * a
def zf1 (S : Int → Int) (a k : Int) : Int := if S (zba a + k) = 108 then S (606 + a) else if S (zba a + k) = 103 ∨ S (zba a + k) = 117 ∨ S (zba a + k) = 110 then S (zba a + k + 1) - 48 else zik (S (zba a + k + 1))
def zf2 (S : Int → Int) (a k : Int) : Int := if S (zba a + k) = 120 ∨ S (zba a + k) = 106 then zik (S (zba a + k + 2)) else S (zba a + k + 2) - 48
def zfok (c f s : Int) : Prop := (c = 108 → 8 ≤ f ∧ f ≤ 32) ∧ (c = 103 → 0 ≤ f ∧ f ≤ 4) ∧ (c = 117 → 0 ≤ f ∧ f ≤ 8) ∧ ((c = 97 ∨ c = 115 ∨ c = 119 ∨ c = 104 ∨ c = 120 ∨ c = 111 ∨ c = 105 ∨ c = 106) → 0 ≤ f ∧ f < 4) ∧ (c = 110 → 0 ≤ f ∧ f ≤ 9) ∧ ((c = 97 ∨ c = 115 ∨ c = 119 ∨ c = 105) → 0 ≤ s ∧ s ≤ 8) ∧ ((c = 120 ∨ c = 106) → 0 ≤ s ∧ s < 4)
def ztr (A : Int → Int) (y : Int) : Int → Int := fun i => if i < 3 then A i + y else A i - y
def zgrn2 (A : Int → Int) (d : Int) : Int := min (min (A 0) (min (A 1) (A 2)) * d / 4) (8 - A 3)
def zund (A : Int → Int) (d : Int) : Int := min d (min (A 3) (8 - max (A 0) (max (A 1) (A 2))))
def zon (S : Int → Int) (c f s : Int) (A : Int → Int) : Int → Int :=
  if c = 108 then zLim A f else if c = 118 then (fun i => S (324 + 9 * i + A i)) else if c = 103 then ztr A (-(zgrn2 A f)) else if c = 117 then ztr A (zund A f)
  else if c = 97 then zupd A f (min 8 (A f + s)) else if c = 115 then zupd A f (max 0 (A f - s)) else if c = 119 then zupd A f (min (A f) s) else if c = 104 then zupd A f (A f / 2)
  else if c = 120 then zupd (zupd A f (A s)) s (A f) else A
/-- how often what is in brackets is done -/
def ztmo (c f s : Int) (A : Int → Int) : Int := if c = 110 then f else if c = 111 then A f else if c = 105 then (if A f ≤ s then 0 else 1) else if c = 106 then (if A f ≤ A s then 0 else 1) else if c = 112 then 1 else 0
def zCv (S : Int → Int) : Prop := ∀ i, 0 ≤ i → i < 36 → 0 ≤ S (324 + i) ∧ S (324 + i) ≤ 8
theorem zupd_am {A : Int → Int} (h : zAmt A) {f v : Int} (hv : 0 ≤ v ∧ v ≤ 8) : zAmt (zupd A f v) := fun i h0 h1 => by
  unfold zupd
  split
  · exact hv
  · exact h i h0 h1
theorem zmd4 {g d : Int} (hg : 0 ≤ g ∧ g ≤ 8) (hd : 0 ≤ d ∧ d ≤ 4) : 0 ≤ g * d ∧ g * d ≤ 4 * g := zmul4 hg.1 hg.2 hd.1 hd.2
theorem zon_am {S A : Int → Int} (h : zAmt A) (hc : zCv S) {c f s : Int} (ho : zfok c f s) : zAmt (zon S c f s A) := by
  have q0 := h 0 (by decide) (by decide); have q1 := h 1 (by decide) (by decide); have q2 := h 2 (by decide) (by decide); have q3 := h 3 (by decide) (by decide)
  obtain ⟨o1, o2, o3, o4, o5, o6, o7⟩ := ho
  unfold zon
  by_cases c1 : c = 108
  · rw [if_pos c1]; exact zLim_am h f
  rw [if_neg c1]
  by_cases c2 : c = 118
  · rw [if_pos c2]
    intro i i0 i1
    have := h i i0 i1
    have := hc (9 * i + A i) (by omega) (by omega)
    show 0 ≤ S (324 + 9 * i + A i) ∧ S (324 + 9 * i + A i) ≤ 8
    rw [show 324 + 9 * i + A i = 324 + (9 * i + A i) by omega]; exact this
  rw [if_neg c2]
  by_cases c3 : c = 103
  · rw [if_pos c3]
    have hf := o2 c3
    have m := zmd4 (g := min (A 0) (min (A 1) (A 2))) (d := f) (by omega) hf
    intro i i0 i1
    have qi := h i i0 i1
    have hi : i = 0 ∨ i = 1 ∨ i = 2 ∨ i = 3 := by omega
    have hG : 0 ≤ zgrn2 A f ∧ zgrn2 A f ≤ min (A 0) (min (A 1) (A 2)) ∧ zgrn2 A f ≤ 8 - A 3 := by unfold zgrn2; omega
    unfold ztr
    generalize zgrn2 A f = g at *
    rcases hi with rfl | rfl | rfl | rfl
    · rw [if_pos (by decide)]; omega
    · rw [if_pos (by decide)]; omega
    · rw [if_pos (by decide)]; omega
    · rw [if_neg (by decide)]; omega
  rw [if_neg c3]
  by_cases c4 : c = 117
  · rw [if_pos c4]
    have hf := o3 c4
    intro i i0 i1
    have hi : i = 0 ∨ i = 1 ∨ i = 2 ∨ i = 3 := by omega
    have hG : 0 ≤ zund A f ∧ zund A f ≤ A 3 ∧ zund A f ≤ 8 - max (A 0) (max (A 1) (A 2)) := by unfold zund; omega
    unfold ztr
    generalize zund A f = g at *
    rcases hi with rfl | rfl | rfl | rfl
    · rw [if_pos (by decide)]; omega
    · rw [if_pos (by decide)]; omega
    · rw [if_pos (by decide)]; omega
    · rw [if_neg (by decide)]; omega
  rw [if_neg c4]
  by_cases c5 : c = 97
  · rw [if_pos c5]
    have hf := o4 (Or.inl c5); have hs := o6 (Or.inl c5); have := h f hf.1 hf.2
    exact zupd_am h (by omega)
  rw [if_neg c5]
  by_cases c6 : c = 115
  · rw [if_pos c6]
    have hf := o4 (by omega); have hs := o6 (by omega); have := h f hf.1 hf.2
    exact zupd_am h (by omega)
  rw [if_neg c6]
  by_cases c7 : c = 119
  · rw [if_pos c7]
    have hf := o4 (by omega); have hs := o6 (by omega); have := h f hf.1 hf.2
    exact zupd_am h (by omega)
  rw [if_neg c7]
  by_cases c8 : c = 104
  · rw [if_pos c8]
    have hf := o4 (by omega); have := h f hf.1 hf.2
    exact zupd_am h (by omega)
  rw [if_neg c8]
  by_cases c9 : c = 120
  · rw [if_pos c9]
    have hf := o4 (by omega); have hs := o7 (by omega); have a1 := h f hf.1 hf.2; have a2 := h s hs.1 hs.2
    exact zupd_am (zupd_am h a2) a1
  rw [if_neg c9]
  exact h
section
variable {G : zG} {μ : zM} {S : Int → Int}
theorem zisA_up {a : Nat} {A : Int → Int} (h : zisA μ a A) (f v : Int) : zisA (zup μ a f v) a (zupd A f v) := fun i h0 h1 => by
  unfold zupd
  by_cases c : i = f
  · rw [if_pos c, c, zi_at]
  · rw [if_neg c, zi_off (by omega)]; exact h i h0 h1
theorem kX2_move {F : zM → Prop} {A : Int → Int} (hA : zisA μ 129 A) {y : Int} (h : ∀ μ', zsm (fun b _ => b = 129) μ μ' → zisA μ' 129 (ztr A (-y)) → F μ') : qX2_move G y μ F := by
  refine eX2_move fun J C => rX2_move_e C _ ?_
  refine znfor (N := 3) (P := fun n => ∀ μ', zsm (fun b _ => b = 129) μ μ' → (∀ i : Int, 0 ≤ i → i < n → zi μ' 129 i = A i - y) → (∀ i : Int, n ≤ i → i < 4 → zi μ' 129 i = A i) → J 2 ([some (zR (some 128)), some (zI y), some (zI (n : Int))], [], μ', 0, 0)) ?_ ?_ μ (zsm.refl _ _) (fun i h0 h1 => absurd h0 (by omega)) (fun i h0 h1 => hA i (by omega) h1)
  · intro μ1 g1 g2 g3
    refine rX2_move_2 C _ _ ⟨by decide, fun _ => h _ (g1.up _ rfl) (fun i h0 h1 => ?_), fun c => absurd (by decide) c⟩
    unfold ztr
    by_cases c : i < 3
    · rw [if_pos c, zi_off (by omega), g2 i h0 c]; omega
    · have : i = 3 := by omega
      subst this
      rw [if_neg (by decide), zi_at, g3 3 (by decide) (by decide)]; omega
  · intro n hn hj μ1 g1 g2 g3
    refine rX2_move_2 C _ _ ⟨by constructor <;> omega, fun c => absurd c (by omega), fun _ => ⟨by omega, hj _ (g1.up _ rfl) (fun i h0 h1 => ?_) (fun i h0 h1 => by rw [zi_off (by omega)]; exact g3 i (by omega) h1)⟩⟩
    by_cases e : i = n
    · subst e; rw [zi_at, g3 _ (Int.le_refl _) (by omega)]
    · rw [zi_off (by omega)]; exact g2 i h0 (by omega)
theorem kX11_trade {F : zM → Prop} {A : Int → Int} (hA : zisA μ 164 A) {y : Int} (h : ∀ μ', zsm (fun b _ => b = 164) μ μ' → zisA μ' 164 (ztr A y) → F μ') : qX11_trade G y μ F := by
  refine eX11_trade fun J C => rX11_trade_e C _ ?_
  refine znfor (N := 3) (P := fun n => ∀ μ', zsm (fun b _ => b = 164) μ μ' → (∀ i : Int, 0 ≤ i → i < n → zi μ' 164 i = A i + y) → (∀ i : Int, n ≤ i → i < 4 → zi μ' 164 i = A i) → J 2 ([some (zR (some 153)), some (zI y), some (zI (n : Int))], [], μ', 0, 0)) ?_ ?_ μ (zsm.refl _ _) (fun i h0 h1 => absurd h0 (by omega)) (fun i h0 h1 => hA i (by omega) h1)
  · intro μ1 g1 g2 g3
    refine rX11_trade_2 C _ _ ⟨by decide, fun _ => h _ (g1.up _ rfl) (fun i h0 h1 => ?_), fun c => absurd (by decide) c⟩
    unfold ztr
    by_cases c : i < 3
    · rw [if_pos c, zi_off (by omega), g2 i h0 c]
    · have : i = 3 := by omega
      subst this
      rw [if_neg (by decide), zi_at, g3 3 (by decide) (by decide)]
  · intro n hn hj μ1 g1 g2 g3
    refine rX11_trade_2 C _ _ ⟨by constructor <;> omega, fun c => absurd c (by omega), fun _ => ⟨by omega, hj _ (g1.up _ rfl) (fun i h0 h1 => ?_) (fun i h0 h1 => by rw [zi_off (by omega)]; exact g3 i (by omega) h1)⟩⟩
    by_cases e : i = n
    · subst e; rw [zi_at, g3 _ (Int.le_refl _) (by omega)]
    · rw [zi_off (by omega)]; exact g2 i h0 (by omega)
theorem kX2_bend {F : zM → Prop} {A : Int → Int} (hA : zisA μ 129 A) (hm : zAmt A) (hS : ∀ i, 0 ≤ i → i < 36 → zi μ 9 i = S (324 + i)) (h : ∀ μ', zsm (fun b _ => b = 129) μ μ' → zisA μ' 129 (fun i => S (324 + 9 * i + A i)) → F μ') : qX2_bend G 9 μ F := by
  have z9 : zIsAr 9 36 := ⟨by decide, by decide +kernel⟩
  refine eX2_bend fun J C => rX2_bend_e C z9 (by decide) ?_
  refine znfor (N := 4) (P := fun n => ∀ μ', zsm (fun b _ => b = 129) μ μ' → (∀ i : Int, 0 ≤ i → i < n → zi μ' 129 i = S (324 + 9 * i + A i)) → (∀ i : Int, n ≤ i → i < 4 → zi μ' 129 i = A i) → J 2 ([some (zR (some 128)), some (zR (some 9)), some (zI (n : Int))], [], μ', 0, 0)) ?_ ?_ μ (zsm.refl _ _) (fun i h0 h1 => absurd h0 (by omega)) (fun i h0 h1 => hA i (by omega) h1)
  · intro μ1 g1 g2 g3
    exact rX2_bend_2 C z9 (by decide) _ ⟨by decide, fun _ => h _ g1 (fun i h0 h1 => g2 i h0 (by omega)), fun c => absurd (by decide) c⟩
  · intro n hn hj μ1 g1 g2 g3
    have q := hm n (by omega) (by omega)
    refine rX2_bend_2 C z9 (by decide) _ ⟨by constructor <;> omega, fun c => absurd c (by omega), fun _ => ⟨by omega, ?_⟩⟩
    rw [g3 n (Int.le_refl _) (by omega)]
    refine ⟨by omega, hj _ (g1.up _ rfl) (fun i h0 h1 => ?_) (fun i h0 h1 => by rw [zi_off (by omega)]; exact g3 i (by omega) h1)⟩
    by_cases e : i = n
    · subst e
      rw [zi_at, g1.1 _ _ (by omega), hS _ (by omega) (by omega)]
      congr 1; omega
    · rw [zi_off (by omega)]; exact g2 i h0 (by omega)
/-- a node of a link in the memory -/
def znd (μ : zM) (b : Nat) : Prop := 182 ≤ b ∧ b < zn μ ∧ zh μ b = (8, 6)
theorem znd.ok {b : Nat} (h : znd μ b) : zok true μ b (8, 6) := ⟨Or.inl h.2.1, by unfold zs; rw [if_neg (by have := h.1; omega)]; exact h.2.2⟩
theorem znd.sm {P : Nat → Int → Prop} {μ' : zM} {b : Nat} (h : znd μ b) (hm : zsm P μ μ') : znd μ' b := ⟨h.1, by rw [hm.2.2.2]; exact h.2.1, by rw [hm.2.2.1]; exact h.2.2⟩
theorem kX2_doOne {F : zM → Prop} {A : Int → Int} (hA : zisA μ 129 A) (hm : zAmt A) (hS : ∀ i, 0 ≤ i → i < 36 → zi μ 9 i = S (324 + i)) {b : Nat} (hb : znd μ b) {c f s : Int} (hk : zkin c) (ho : zfok c f s) (h0 : zi μ b 0 = c) (h1 : zuf1 c → zi μ b 1 = f) (h2 : zus1 c → zi μ b 2 = s) (h : ∀ μ', zsm (fun b _ => b = 129) μ μ' → zisA μ' 129 (zon S c f s A) → F μ') : qX2_doOne G (some b) 9 μ F := by
  have z9 : zIsAr 9 36 := ⟨by decide, by decide +kernel⟩
  have q0 := hm 0 (by decide) (by decide); have q1 := hm 1 (by decide) (by decide); have q2 := hm 2 (by decide) (by decide); have q3 := hm 3 (by decide) (by decide)
  have a0 := hA 0 (by decide) (by decide); have a1 := hA 1 (by decide) (by decide); have a2 := hA 2 (by decide) (by decide); have a3 := hA 3 (by decide) (by decide)
  have hok := hb.ok
  have self : zsm (fun b _ => b = 129) μ μ := zsm.refl _ _
  obtain ⟨o1, o2, o3, o4, o5, o6, o7⟩ := ho
  refine eX2_doOne fun J C => rX2_doOne_e C _ z9 (by decide) ⟨b, rfl, hok, ?_⟩
  rw [h0]
  refine ⟨by unfold zkin zaro at hk; constructor <;> omega, fun e => ?_, fun e => ?_, fun e => ?_, fun e => ?_, fun e => ?_, fun e => ?_, fun e => ?_, fun e => ?_, fun e => ?_, fun e => ?_⟩
  · have hf := o4 (by omega); have hs := o6 (by omega); have af := hm f hf.1 hf.2
    rw [h1 (by unfold zuf1; omega), h2 (by unfold zus1; omega), hA f hf.1 hf.2]
    refine ⟨hok, hok, hf, hok, by constructor <;> omega, h _ (self.up _ rfl) ?_⟩
    rw [zon, if_neg (by omega), if_neg (by omega), if_neg (by omega), if_neg (by omega), if_pos e]
    exact zisA_up hA f _
  · have hf := o2 e
    have m := zmd4 (g := min (A 0) (min (A 1) (A 2))) (d := f) (by omega) hf
    rw [h1 (by unfold zuf1; omega)]
    refine ⟨hok, eX2_greyToBlack fun J2 C2 => rX2_greyToBlack_e C2 _ ?_⟩
    rw [a0, a1, a2, a3]
    refine ⟨by constructor <;> omega, by constructor <;> omega, by constructor <;> omega, by constructor <;> omega, by omega, by constructor <;> omega, by constructor <;> omega, kX2_move hA fun μ2 g2 t2 => h μ2 g2 ?_⟩
    rw [zon, if_neg (by omega), if_neg (by omega), if_pos e]
    exact t2
  · have hf := o4 (by omega); have af := hm f hf.1 hf.2
    rw [h1 (by unfold zuf1; omega), hA f hf.1 hf.2]
    refine ⟨hok, hf, by omega, h _ (self.up _ rfl) ?_⟩
    rw [zon, if_neg (by omega), if_neg (by omega), if_neg (by omega), if_neg (by omega), if_neg (by omega), if_neg (by omega), if_neg (by omega), if_pos e]
    exact zisA_up hA f _
  · have hf := o1 e
    rw [h1 (by unfold zuf1; omega)]
    refine ⟨hok, kX2_limitTo hA hm hf fun μ2 g2 t2 => h μ2 g2 ?_⟩
    rw [zon, if_pos e]
    exact t2
  · have hf := o4 (by omega); have hs := o6 (by omega); have af := hm f hf.1 hf.2
    rw [h1 (by unfold zuf1; omega), h2 (by unfold zus1; omega), hA f hf.1 hf.2]
    refine ⟨hok, hok, hf, hok, by constructor <;> omega, h _ (self.up _ rfl) ?_⟩
    rw [zon, if_neg (by omega), if_neg (by omega), if_neg (by omega), if_neg (by omega), if_neg (by omega), if_pos e]
    exact zisA_up hA f _
  · have hf := o3 e
    rw [h1 (by unfold zuf1; omega)]
    refine ⟨hok, eX2_blackToGrey fun J2 C2 => rX2_blackToGrey_e C2 _ ?_⟩
    rw [a0, a1, a2, a3]
    refine ⟨by constructor <;> omega, by constructor <;> omega, by constructor <;> omega, by constructor <;> omega, by constructor <;> omega, by constructor <;> omega, by constructor <;> omega, by constructor <;> omega, kX2_move hA fun μ2 g2 t2 => h μ2 g2 ?_⟩
    rw [zon, if_neg (by omega), if_neg (by omega), if_neg (by omega), if_pos e]
    rw [Int.neg_neg] at t2
    exact t2
  · refine kX2_bend hA hm hS fun μ2 g2 t2 => h μ2 g2 ?_
    rw [zon, if_neg (by omega), if_pos e]
    exact t2
  · have hf := o4 (by omega); have hs := o6 (by omega); have af := hm f hf.1 hf.2
    rw [h1 (by unfold zuf1; omega), h2 (by unfold zus1; omega), hA f hf.1 hf.2]
    refine ⟨hok, hok, hf, hok, by constructor <;> omega, by constructor <;> omega, h _ (self.up _ rfl) ?_⟩
    rw [zon, if_neg (by omega), if_neg (by omega), if_neg (by omega), if_neg (by omega), if_neg (by omega), if_neg (by omega), if_pos e]
    exact zisA_up hA f _
  · have hf := o4 (by omega); have hs := o7 (by omega)
    rw [h1 (by unfold zuf1; omega), h2 (by unfold zus1; omega)]
    refine ⟨hok, hok, eX2_exchange fun J2 C2 => rX2_exchange_e C2 _ _ ⟨hf, hs, ?_⟩⟩
    rw [hA f hf.1 hf.2, hA s hs.1 hs.2]
    refine h _ ((self.up _ rfl).up _ rfl) ?_
    rw [zon, if_neg (by omega), if_neg (by omega), if_neg (by omega), if_neg (by omega), if_neg (by omega), if_neg (by omega), if_neg (by omega), if_neg (by omega), if_pos e]
    exact zisA_up (zisA_up hA f _) s _
  · refine h _ self ?_
    rw [zon, if_neg (by omega), if_neg (by omega), if_neg (by omega), if_neg (by omega), if_neg (by omega), if_neg (by omega), if_neg (by omega), if_neg (by omega), if_neg (by omega)]
    exact hA
theorem kX2_timesOf {F : Int → zM → Prop} {A : Int → Int} (hA : zisA μ 129 A) (hm : zAmt A) {b : Nat} (hb : znd μ b) {c f s : Int} (hk : zkin c) (ho : zfok c f s) (h0 : zi μ b 0 = c) (h1 : zuf1 c → zi μ b 1 = f) (h2 : zus1 c → zi μ b 2 = s) (hn : zr μ b 3 = none → F 0 μ) (h : zr μ b 3 ≠ none → F (ztmo c f s A) μ) : qX2_timesOf G (some b) μ F := by
  have hok := hb.ok
  obtain ⟨o1, o2, o3, o4, o5, o6, o7⟩ := ho
  refine eX2_timesOf fun J C => rX2_timesOf_e C _ ⟨b, rfl, hok, hn, fun b3 hb3 => ?_⟩
  have h := h (by rw [hb3]; exact fun z => by cases z)
  unfold ztmo at h
  rw [h0]
  refine ⟨hok, by unfold zkin zaro at hk; constructor <;> omega, fun e => ?_, fun e => ?_, fun e => ?_, fun e => ?_, fun e => ?_, fun e => ?_⟩
  · have hf := o4 (by omega); have hs := o6 (by omega); have af := hm f hf.1 hf.2
    rw [h1 (by unfold zuf1 zaro; omega), h2 (by unfold zus1; omega), hA f hf.1 hf.2]
    rw [if_neg (by omega), if_neg (by omega), if_pos e] at h
    exact ⟨hok, hf, hok, by constructor <;> omega, by constructor <;> omega, fun z => by rw [if_pos z] at h; exact h, fun z => by rw [if_neg z] at h; exact h⟩
  · have hf := o4 (by omega); have hs := o7 (by omega); have af := hm f hf.1 hf.2; have as := hm s hs.1 hs.2
    rw [h1 (by unfold zuf1 zaro; omega), h2 (by unfold zus1; omega), hA f hf.1 hf.2, hA s hs.1 hs.2]
    rw [if_neg (by omega), if_neg (by omega), if_neg (by omega), if_pos e] at h
    exact ⟨hok, hf, hok, hs, by constructor <;> omega, by constructor <;> omega, fun z => by rw [if_pos z] at h; exact h, fun z => by rw [if_neg z] at h; exact h⟩
  · rw [h1 (by unfold zuf1 zaro; omega)]
    rw [if_pos e] at h
    exact ⟨hok, h⟩
  · have hf := o4 (by omega)
    rw [h1 (by unfold zuf1 zaro; omega), hA f hf.1 hf.2]
    rw [if_neg (by omega), if_pos e] at h
    exact ⟨hok, hf, h⟩
  · rw [if_neg (by omega), if_neg (by omega), if_neg (by omega), if_neg (by omega), if_pos e] at h
    exact h
  · rw [if_neg (by omega), if_neg (by omega), if_neg (by omega), if_neg (by omega), if_neg (by omega)] at h
    exact h
theorem kX11_inkBy {F : Int → zM → Prop} {x : Int} (hx : zin x) (h : F (zik x) μ) : qX11_inkBy G true x μ F := by
  refine eX11_inkBy fun J C => rX11_inkBy_e C _ ⟨hx, fun c0 => ⟨fun c1 => ⟨fun c2 => ⟨fun c3 => ?_, fun c3 => ?_⟩, fun c2 => ?_⟩, fun c1 => ?_⟩, fun c0 => ?_⟩
  · rw [zik, if_neg c0, if_neg c1, if_neg c2, if_neg c3] at h; exact h
  · rw [zik, if_neg c0, if_neg c1, if_neg c2, if_pos c3] at h; exact h
  · rw [zik, if_neg c0, if_neg c1, if_pos c2] at h; exact h
  · rw [zik, if_neg c0, if_pos c1] at h; exact h
  · rw [zik, if_pos c0] at h; exact h
theorem kX11_isAround {F : Int → zM → Prop} {x : Int} (hx : zin x) (h1 : zaro x → F 1 μ) (h0 : ¬ zaro x → F 0 μ) : qX11_isAround G true x μ F := by
  unfold zaro at h1 h0
  exact eX11_isAround fun J C => rX11_isAround_e C _ ⟨hx, fun c => h1 (by omega), fun _ => ⟨fun c => h1 (by omega), fun _ => ⟨fun c => h1 (by omega), fun _ => ⟨fun c => h0 (by omega), fun c => h1 (by omega)⟩⟩⟩⟩
theorem kX11_more {F : zM → Prop} {A : Int → Int} (hA : zisA μ 164 A) (hm : zAmt A) {f y : Int} (hf : 0 ≤ f ∧ f < 4) (hy : -9 ≤ y ∧ y ≤ 9) (h : ∀ μ', zsm (fun b _ => b = 164) μ μ' → zisA μ' 164 (zupd A f (max 0 (min 8 (A f + y)))) → F μ') : qX11_more G f y μ F := by
  have af := hm f hf.1 hf.2
  refine eX11_more fun J C => rX11_more_e C _ _ ⟨hf, ?_⟩
  rw [hA f hf.1 hf.2]
  exact ⟨by constructor <;> omega, by constructor <;> omega, h _ ((zsm.refl _ _).up _ rfl) (zisA_up hA f _)⟩
end
