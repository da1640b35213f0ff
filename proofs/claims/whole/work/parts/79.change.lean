/-! measure, forgets, sets, paints, count -/
theorem zupd_id {S : Int → Int} {a v : Int} (h : S a = v) : zupd S a v = S := by
  funext x
  unfold zupd
  split
  · rename_i c; rw [c, h]
  · rfl
theorem zupd_at {S : Int → Int} {a v : Int} : zupd S a v a = v := by unfold zupd; rw [if_pos rfl]
theorem zupd_off {S : Int → Int} {a v x : Int} (h : x ≠ a) : zupd S a v x = S x := by unfold zupd; rw [if_neg h]
theorem zXs.up {μ : zM} {S : Int → Int} (hX : zXs μ 5 S) (hc : S 702 * S 703 ≤ 64) {b : Nat} {i v o : Int} (hb : (b = 6 ∧ o = i ∧ 0 ≤ i ∧ i < 243) ∨ (b = 7 ∧ o = 243 + i ∧ 0 ≤ i ∧ i < 81) ∨ (b = 8 ∧ o = 704 + i ∧ 0 ≤ i ∧ i < 7) ∨ (b = 9 ∧ o = 324 + i ∧ 0 ≤ i ∧ i < 36) ∨ (b = 10 ∧ o = 614 + i ∧ 0 ≤ i ∧ i < 24)) : zXs (zup μ b i v) 5 (zupd S o v) := by
  obtain ⟨h1, h2, h3, h4, h5, h6, h7, h8⟩ := hX
  have e1 : zupd S o v 702 = S 702 := zupd_off (by omega)
  have e2 : zupd S o v 703 = S 703 := zupd_off (by omega)
  refine ⟨fun p p0 p1 => ?_, fun p p0 p1 => ?_, fun p p0 p1 => ?_, fun p p0 p1 => ?_, fun p p0 p1 => ?_, ?_, ?_, ?_⟩
  · show zi (zup μ b i v) 6 p = _
    unfold zupd; rw [zi_up]
    by_cases c : 6 = b ∧ p = i
    · rw [if_pos c, if_pos (by omega)]
    · rw [if_neg c, if_neg (by omega)]; exact h1 p p0 p1
  · show zi (zup μ b i v) 7 p = _
    unfold zupd; rw [zi_up]
    by_cases c : 7 = b ∧ p = i
    · rw [if_pos c, if_pos (by omega)]
    · rw [if_neg c, if_neg (by omega)]; exact h2 p p0 p1
  · show zi (zup μ b i v) 8 p = _
    unfold zupd; rw [zi_up]
    by_cases c : 8 = b ∧ p = i
    · rw [if_pos c, if_pos (by omega)]
    · rw [if_neg c, if_neg (by omega)]; exact h3 p p0 p1
  · show zi (zup μ b i v) 9 p = _
    unfold zupd; rw [zi_up]
    by_cases c : 9 = b ∧ p = i
    · rw [if_pos c, if_pos (by omega)]
    · rw [if_neg c, if_neg (by omega)]; exact h4 p p0 p1
  · show zi (zup μ b i v) 10 p = _
    unfold zupd; rw [zi_up]
    by_cases c : 10 = b ∧ p = i
    · rw [if_pos c, if_pos (by omega)]
    · rw [if_neg c, if_neg (by omega)]; exact h5 p p0 p1
  · rw [e1, zi_off (by omega)]; exact h6
  · rw [e2, zi_off (by omega)]; exact h7
  · rw [e1, e2]
    intro p p0 p1
    rw [zi_off (by omega), zupd_off (by omega)]; exact h8 p p0 p1
theorem zMs.up {μ : zM} {S : Int → Int} (hM : zMs μ S) (o v : Int) : zMs (zup μ 154 o v) (zupd S o v) := fun i i0 i1 => by
  unfold zupd
  rw [zi_up]
  by_cases c : i = o
  · rw [if_pos ⟨rfl, c⟩, if_pos c]
  · rw [if_neg (fun z => c z.2), if_neg c]; exact hM i i0 i1
def zput3 (S : Int → Int) (a r q b : Int) : Int → Int := zupd (zupd (zupd S a r) (a + 1) q) (a + 2) b
theorem zput3_v (S : Int → Int) (a r q b x : Int) : zput3 S a r q b x = if x = a + 2 then b else if x = a + 1 then q else if x = a then r else S x := rfl
def zcme (S : Int → Int) : Nat → Int
  | 0 => 0
  | n + 1 => zcme S n + S (243 + (n : Int))
theorem zcme_r {S : Int → Int} (hr : zLr S) : ∀ n : Nat, n ≤ 81 → 0 ≤ zcme S n ∧ zcme S n ≤ n
  | 0, _ => ⟨Int.le_refl _, Int.le_refl _⟩
  | n + 1, hn => by
    have h1 := zcme_r hr n (by omega)
    have h2 := hr.2 n (by omega) (by omega)
    rw [zcme]
    omega
def zmeaS (S : Int → Int) (p r q b : Int) : Int → Int := if zplain p then zput3 S (3 * p) r q b else zupd (zput3 S (3 * p) r q b) (243 + p) 1
abbrev zmeaO (p r q b : Int) : Prop := (0 ≤ p ∧ p ≤ 80) ∧ (0 ≤ r ∧ r ≤ 100) ∧ (0 ≤ q ∧ q ≤ 100) ∧ (0 ≤ b ∧ b ≤ 100)
/-- states that differ in lights only -/
theorem zval.lo {S S' : Int → Int} (h : zval S) (hs : ∀ i, 324 ≤ i → S' i = S i) (hl : zLr S') (hp : ∀ p, 0 ≤ p → p < 81 → zplain p → S' (243 + p) = 0) : zval S' := by
  obtain ⟨h1, h2, h3, h4, h5, h6, h7, h8, h9⟩ := h
  refine ⟨hl, zSet_c (fun i i0 _ => hs i (by omega)) h2, ?_, fun i i0 i1 => by rw [hs _ (by omega)]; exact h4 i i0 i1, zLw_c (fun i i0 _ => hs i (by omega)) h5, fun i i0 i1 => ?_, hp, by rw [hs _ (by decide)]; exact h8, by rw [hs _ (by decide)]; exact h9⟩
  · obtain ⟨q1, q2, q3⟩ := h3
    refine ⟨by rw [hs 702 (by decide), hs 703 (by decide)]; exact q1, fun i i0 i1 => by rw [hs _ (by omega)]; exact q2 i i0 i1, fun i i0 i1 => by rw [hs _ (by omega)]; exact q3 i i0 i1⟩
  · by_cases c : 324 ≤ i
    · rw [hs i c]; exact h6 i i0 i1
    · by_cases d : i < 243
      · have := hl.1 i i0 d; constructor <;> omega
      · have := hl.2 (i - 243) (by omega) (by omega)
        rw [show 243 + (i - 243) = i by omega] at this
        constructor <;> omega
theorem zmeaS_v {S : Int → Int} (h : zval S) {p r q b : Int} (hO : zmeaO p r q b) : zval (zmeaS S p r q b) := by
  obtain ⟨hp, h1, h2, h3⟩ := hO
  obtain ⟨l1, l2⟩ := h.1
  have hpl := h.2.2.2.2.2.2.1
  have e : ∀ x, x < 243 → zmeaS S p r q b x = zput3 S (3 * p) r q b x := fun x hx => by
    unfold zmeaS
    split
    · rfl
    · exact zupd_off (by omega)
  have e2 : ∀ x, 243 ≤ x → x ≠ 243 + p → zmeaS S p r q b x = S x := fun x hx hn => by
    have : zput3 S (3 * p) r q b x = S x := by rw [zput3_v, if_neg (by omega), if_neg (by omega), if_neg (by omega)]
    unfold zmeaS
    split
    · exact this
    · rw [zupd_off hn]; exact this
  have e3 : zmeaS S p r q b (243 + p) = if zplain p then S (243 + p) else 1 := by
    unfold zmeaS
    split
    · rw [zput3_v, if_neg (by omega), if_neg (by omega), if_neg (by omega)]
    · exact zupd_at
  refine h.lo (fun i i0 => e2 i (by omega) (by omega)) ⟨fun x x0 x1 => ?_, fun x x0 x1 => ?_⟩ (fun x x0 x1 hx => ?_)
  · rw [e x x1, zput3_v]
    split
    · exact h3
    · split
      · exact h2
      · split
        · exact h1
        · exact l1 x x0 x1
  · by_cases c : x = p
    · rw [c, e3]
      split
      · exact l2 p (by omega) (by omega)
      · exact Or.inr rfl
    · rw [e2 _ (by omega) (by omega)]; exact l2 x x0 x1
  · by_cases c : x = p
    · rw [c] at hx ⊢
      rw [e3, if_pos hx]; exact hpl p (by omega) (by omega) hx
    · rw [e2 _ (by omega) (by omega)]; exact hpl x x0 x1 hx
section
variable {G : zG} {μ : zM} {S : Int → Int} {c : Int} {W U : List (Int → Int)} {kp : Int → Int} {K : Int → Int → Int} {T R : List Int}
theorem kX7_countMeasured {F : Int → zM → Prop} {a : Nat} (ha : zIsSt a) (hX : zXs μ a S) (hr : zLr S) (h : F (zcme S 81) μ) : qX7_countMeasured G a μ F := by
  refine eX7_countMeasured fun J C => rX7_countMeasured_e C ha ?_
  refine znfor (N := 81) (P := fun n => J 4 ([some (zR (some a)), some (zI (zcme S n)), some (zI (n : Int))], [], μ, 0, 0)) ?_ ?_
  · exact rX7_countMeasured_4 C ha _ _ ⟨by decide, fun _ => h, fun z => absurd (by decide) z⟩
  · intro n hn hj
    have e := hX.2.1 n (by omega) (by omega)
    have hv := hr.2 n (by omega) (by omega)
    refine rX7_countMeasured_4 C ha _ _ ⟨by constructor <;> omega, fun z => absurd z (by omega), fun _ => ⟨by omega, ?_⟩⟩
    rw [e]
    have e2 : zcme S (n + 1) = zcme S n + S (243 + (n : Int)) := rfl
    refine ⟨by rcases hv with z | z <;> rw [z] <;> decide, fun z => ?_, fun z => ?_⟩
    · rw [e2, z, Int.add_zero] at hj; exact hj
    · have : S (243 + (n : Int)) = 1 := by omega
      rw [e2, this] at hj; exact hj
theorem kX11_measured {F : Int → zM → Prop} (hM : zMs μ S) (h : F (zcme S 81) μ) : qX11_measured G μ F := by
  refine eX11_measured fun J C => rX11_measured_e C ?_
  refine znfor (N := 81) (P := fun n => J 4 ([some (zR (some 153)), some (zI (zcme S n)), some (zI (n : Int))], [], μ, 0, 0)) ?_ ?_
  · exact rX11_measured_4 C _ _ ⟨by decide, fun _ => h, fun z => absurd (by decide) z⟩
  · intro n hn hj
    have e := hM (243 + (n : Int)) (by omega) (by omega)
    refine rX11_measured_4 C _ _ ⟨by constructor <;> omega, fun z => absurd z (by omega), fun _ => ⟨by omega, ?_⟩⟩
    rw [e]
    exact hj
theorem kX7_tellPatch {F : Int → zM → Prop} (hx : zXg μ S c W kp K T R) (hv : zval S) {p r q b : Int} (ip : zin p) (ir : zin r) (iq : zin q) (ib : zin b) (h : ∀ μ', zsm (fun b _ => b = 6 ∨ b = 7) μ μ' → zXg μ' (if zmeaO p r q b then zmeaS S p r q b else S) c W kp K T R → F (if zmeaO p r q b then zcme (zmeaS S p r q b) 81 else -1) μ') : qX7_tellPatch G 5 p r q b μ F := by
  have hno : ¬ zmeaO p r q b → F (-1) μ := fun z => by
    have := h μ (zsm.refl _ _)
    rw [if_neg z, if_neg z] at this
    exact this hx
  refine eX7_tellPatch fun J C => rX7_tellPatch_e C zSt_5 _ _ _ _ (kX10_isPatch ip (fun c1 => ⟨by decide, fun z => absurd z (by decide), fun _ => ?_⟩) (fun c1 => ⟨by decide, fun _ => hno (fun z => c1 z.1), fun z => absurd rfl z⟩))
  refine kX10_isIn ir (by decide) (by decide) (fun c2 => ⟨by decide, fun z => absurd z (by decide), fun _ => ?_⟩) (fun c2 => ⟨by decide, fun _ => hno (fun z => c2 z.2.1), fun z => absurd rfl z⟩)
  refine kX10_isIn iq (by decide) (by decide) (fun c3 => ⟨by decide, fun z => absurd z (by decide), fun _ => ?_⟩) (fun c3 => ⟨by decide, fun _ => hno (fun z => c3 z.2.2.1), fun z => absurd rfl z⟩)
  refine kX10_isIn ib (by decide) (by decide) (fun c4 => ⟨by decide, fun _ => ?_, fun z => absurd z (by decide)⟩) (fun c4 => ⟨by decide, fun z => absurd rfl z, fun _ => hno (fun z => c4 z.2.2.2)⟩)
  have hO : zmeaO p r q b := ⟨c1, c2, c3, c4⟩
  rw [if_pos hO, if_pos hO] at h
  have hv' := zmeaS_v hv hO
  refine ⟨by omega, by omega, by omega, ?_⟩
  rw [Int.mul_comm p 3]
  show qX10_isPlain G true p (zup (zup (zup μ 6 (3 * p) r) 6 (3 * p + 1) q) 6 (3 * p + 2) b) _
  have g3 : zsm (fun b _ => b = 6 ∨ b = 7) μ (zup (zup (zup μ 6 (3 * p) r) 6 (3 * p + 1) q) 6 (3 * p + 2) b) := ((((zsm.refl _ _).up _ (Or.inl rfl)).up _ (Or.inl rfl)).up _ (Or.inl rfl))
  have hc0 := hv.pic
  have q1 : zupd S (3 * p) r 702 * zupd S (3 * p) r 703 ≤ 64 := by rw [zupd_off (by omega), zupd_off (by omega)]; exact hc0
  have q2 : zupd (zupd S (3 * p) r) (3 * p + 1) q 702 * zupd (zupd S (3 * p) r) (3 * p + 1) q 703 ≤ 64 := by rw [zupd_off (x := 702) (a := 3 * p + 1) (by omega), zupd_off (x := 703) (a := 3 * p + 1) (by omega)]; exact q1
  have q3 : zput3 S (3 * p) r q b 702 * zput3 S (3 * p) r q b 703 ≤ 64 := by unfold zput3; rw [zupd_off (x := 702) (a := 3 * p + 2) (by omega), zupd_off (x := 703) (a := 3 * p + 2) (by omega)]; exact q2
  have x3 : zXs (zup (zup (zup μ 6 (3 * p) r) 6 (3 * p + 1) q) 6 (3 * p + 2) b) 5 (zput3 S (3 * p) r q b) := ((hx.1.up hc0 (b := 6) (Or.inl ⟨rfl, rfl, by omega, by omega⟩)).up q1 (b := 6) (Or.inl ⟨rfl, rfl, by omega, by omega⟩)).up q2 (b := 6) (Or.inl ⟨rfl, rfl, by omega, by omega⟩)
  generalize zup (zup (zup μ 6 (3 * p) r) 6 (3 * p + 1) q) 6 (3 * p + 2) b = μ3 at *
  have hsame : ∀ i, 360 ≤ i → i < 614 → zmeaS S p r q b i = S i := fun i i0 _ => by
    have : zput3 S (3 * p) r q b i = S i := by rw [zput3_v, if_neg (by omega), if_neg (by omega), if_neg (by omega)]
    unfold zmeaS
    split
    · exact this
    · rw [zupd_off (by omega)]; exact this
  refine kX10_isPlain c1.1 (by omega) (fun hp => ⟨by decide, fun _ => ⟨by omega, ?_⟩, fun z => absurd z (by decide)⟩) (fun hp => ⟨by decide, fun z => absurd rfl z, fun _ => ⟨by omega, ?_⟩⟩)
  · have e : zmeaS S p r q b = zupd (zput3 S (3 * p) r q b) (243 + p) 0 := by
      have : zmeaS S p r q b = zput3 S (3 * p) r q b := by unfold zmeaS; rw [if_pos hp]
      rw [this]
      refine (zupd_id ?_).symm
      rw [zput3_v, if_neg (by omega), if_neg (by omega), if_neg (by omega)]
      exact hv.2.2.2.2.2.2.1 p c1.1 (by omega) hp
    have x4 : zXs (zup μ3 7 p 0) 5 (zmeaS S p r q b) := by rw [e]; exact x3.up q3 (b := 7) (Or.inr (Or.inl ⟨rfl, rfl, by omega, by omega⟩))
    have g4 : zsm (fun b _ => b = 6 ∨ b = 7) μ (zup μ3 7 p 0) := g3.up _ (Or.inr rfl)
    exact kX7_countMeasured zSt_5 x4 hv'.1 (h _ g4 (hx.st g4 (fun b j z => by omega) x4 hsame hv.2.2.2.2.1))
  · have e : zmeaS S p r q b = zupd (zput3 S (3 * p) r q b) (243 + p) 1 := by unfold zmeaS; rw [if_neg hp]
    have x4 : zXs (zup μ3 7 p 1) 5 (zmeaS S p r q b) := by rw [e]; exact x3.up q3 (b := 7) (Or.inr (Or.inl ⟨rfl, rfl, by omega, by omega⟩))
    have g4 : zsm (fun b _ => b = 6 ∨ b = 7) μ (zup μ3 7 p 1) := g3.up _ (Or.inr rfl)
    exact kX7_countMeasured zSt_5 x4 hv'.1 (h _ g4 (hx.st g4 (fun b j z => by omega) x4 hsame hv.2.2.2.2.1))
theorem kX10_measure {F : Int → zM → Prop} (hx : zXa μ S U kp K T R) (hv : zval S) {p r q b : Int} (ip : zin p) (ir : zin r) (iq : zin q) (ib : zin b) (h : ∀ μ', zxm μ μ' → zXa μ' (if zmeaO p r q b then zmeaS S p r q b else S) (if zmeaO p r q b then zpush U S else U) kp K T R → F (if zmeaO p r q b then zcme (zmeaS S p r q b) 81 else -1) μ') : qX10_measure G p r q b μ F := by
  obtain ⟨hu, hx⟩ := hx
  refine eX10_measure fun J C => rX10_measure_e C _ _ _ _ (kX1_draft hx hu hv.pic hv.1 fun μ1 g1 x1 => kX7_tellPatch x1 hv ip ir iq ib fun μ2 g2 x2 => ?_)
  have gx := g1.trans (g2.xm (fun b j z => by omega))
  by_cases c : zmeaO p r q b
  · rw [if_pos c] at x2 ⊢
    rw [if_pos c, if_pos c, if_pos c] at h
    have := zcme_r (zmeaS_v hv c).1 81 (by decide)
    exact kX10_settled (by constructor <;> omega) x2 hu (fun z => absurd z (by omega)) (fun _ μ3 g3 x3 => h μ3 (gx.trans g3) x3)
  · rw [if_neg c] at x2 ⊢
    rw [if_neg c, if_neg c, if_neg c] at h
    exact kX10_settled (by decide) x2 hu (fun _ x3 => h μ2 gx x3) (fun z => absurd z (by decide))
theorem kX11_putLight {F : zM → Prop} (hM : zMs μ S) {p r q b : Int} (hp : 0 ≤ p ∧ p ≤ 80) (h : ∀ μ', zsm (fun b _ => b = 154) μ μ' → zMs μ' (zmeaS S p r q b) → F μ') : qX11_putLight G p r q b μ F := by
  refine eX11_putLight fun J C => rX11_putLight_e C _ _ _ _ ⟨by omega, by omega, by omega, ?_⟩
  have g3 : zsm (fun b _ => b = 154) μ (zup (zup (zup μ 154 (3 * p) r) 154 (3 * p + 1) q) 154 (3 * p + 2) b) := (((zsm.refl _ _).up _ rfl).up _ rfl).up _ rfl
  have m3 : zMs (zup (zup (zup μ 154 (3 * p) r) 154 (3 * p + 1) q) 154 (3 * p + 2) b) (zput3 S (3 * p) r q b) := ((hM.up _ _).up _ _).up _ _
  generalize zup (zup (zup μ 154 (3 * p) r) 154 (3 * p + 1) q) 154 (3 * p + 2) b = μ3 at *
  refine kX11_isPlain hp.1 (by omega) (fun hq => ⟨by decide, fun _ => h _ g3 ?_, fun z => absurd z (by decide)⟩) (fun hq => ⟨by decide, fun z => absurd rfl z, fun _ => ⟨by omega, h _ (g3.up _ rfl) ?_⟩⟩)
  · unfold zmeaS; rw [if_pos hq]; exact m3
  · unfold zmeaS; rw [if_neg hq]; exact m3.up _ _
/-- the reference's part after a change of its row -/
theorem zMa.st {μ' : zM} {P : Nat → Int → Prop} {S' : Int → Int} {U' : List (Int → Int)} (h : zMa μ S U kp K T R) (hm : zsm P μ μ') (hP : ∀ b j, P b j → b = 154 ∨ b = 175 ∨ b = 177 ∨ (b = 153 ∧ j = 39)) (hM : zMs μ' S') (hU : zMu μ' U') : zMa μ' S' U' kp K T R :=
  ⟨hM, hU, h.2.2.1.sm hm (fun b j z y => by have := hP _ _ y; omega), h.2.2.2.1.sm hm (fun z => by have := hP _ _ z; omega) (fun j z => by have := hP _ _ z; omega), h.2.2.2.2.1.sm hm (fun z => by have := hP _ _ z; omega) (fun j z => by have := hP _ _ z; omega), h.2.2.2.2.2.sm hm (fun j z => by have := hP _ _ z; omega)⟩
theorem kX11_measure {F : Int → zM → Prop} (hM : zMa μ S U kp K T R) {p r q b : Int} (ip : zin p) (ir : zin r) (iq : zin q) (ib : zin b) (h : ∀ μ', zsm zPW μ μ' → zMa μ' (if zmeaO p r q b then zmeaS S p r q b else S) (if zmeaO p r q b then zpush U S else U) kp K T R → F (if zmeaO p r q b then zcme (zmeaS S p r q b) 81 else -1) μ') : qX11_measure G p r q b μ F := by
  have g0 : zsm zPW μ (zup μ 153 5 0) := (zsm.refl _ _).up _ (by decide)
  have hM := hM.pub (zMthr μ) hM.2.2.2.2.1.thr
  refine eX11_measure fun J C => rX11_measure_e C _ _ _ _ ?_
  generalize zup μ 153 5 0 = μ0 at *
  have hno : ¬ zmeaO p r q b → F (-1) μ0 := fun z => by
    have := h μ0 g0
    rw [if_neg z, if_neg z, if_neg z] at this
    exact this hM
  refine kX11_in ip (by decide) (by decide) (fun c1 => ⟨by decide, fun z => absurd z (by decide), fun _ => ?_⟩) (fun c1 => ⟨by decide, fun _ => hno (fun z => c1 z.1), fun z => absurd rfl z⟩)
  refine kX11_in ir (by decide) (by decide) (fun c2 => ⟨by decide, fun z => absurd z (by decide), fun _ => ?_⟩) (fun c2 => ⟨by decide, fun _ => hno (fun z => c2 z.2.1), fun z => absurd rfl z⟩)
  refine kX11_in iq (by decide) (by decide) (fun c3 => ⟨by decide, fun z => absurd z (by decide), fun _ => ?_⟩) (fun c3 => ⟨by decide, fun _ => hno (fun z => c3 z.2.2.1), fun z => absurd rfl z⟩)
  refine kX11_in ib (by decide) (by decide) (fun c4 => ⟨by decide, fun _ => ?_, fun z => absurd z (by decide)⟩) (fun c4 => ⟨by decide, fun z => absurd rfl z, fun _ => hno (fun z => c4 z.2.2.2)⟩)
  have hO : zmeaO p r q b := ⟨c1, c2, c3, c4⟩
  rw [if_pos hO, if_pos hO, if_pos hO] at h
  refine kX11_change hM.1 hM.2.1 fun μ1 g1 u1 => kX11_putLight (hM.1.sm g1 (by omega)) c1 fun μ2 g2 m2 => kX11_measured m2 (h μ2 ((g0.trans (g1.mono (fun b j => by unfold zPW; omega))).trans (g2.mono (fun b j => by unfold zPW; omega))) ?_)
  exact hM.st ((g1.mono (Q := fun b j => b = 154 ∨ b = 175 ∨ b = 177 ∨ (b = 153 ∧ j = 39)) (fun b j => by omega)).trans (g2.mono (fun b j => by omega))) (fun b j z => z) m2 (u1.sm g2 (by omega) (by omega))
end
