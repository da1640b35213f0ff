/-! forgets, sets, paints, count -/
abbrev zfogO (S : Int → Int) (p : Int) : Prop := (0 ≤ p ∧ p ≤ 80) ∧ S (243 + p) = 1
def zfogS (S : Int → Int) (p : Int) : Int → Int := if zfogO S p then zupd S (243 + p) 0 else S
def zfogA (S : Int → Int) (p : Int) : Int := if 0 ≤ p ∧ p ≤ 80 then (if S (243 + p) = 1 then zcme (zupd S (243 + p) 0) 81 else -2) else -1
theorem zfog_v {S : Int → Int} (h : zval S) {p : Int} (hp : 0 ≤ p ∧ p ≤ 80) : zval (zupd S (243 + p) 0) := by
  obtain ⟨l1, l2⟩ := h.1
  refine h.lo (fun i i0 => zupd_off (by omega)) ⟨fun x x0 x1 => by rw [zupd_off (by omega)]; exact l1 x x0 x1, fun x x0 x1 => ?_⟩ (fun x x0 x1 hx => ?_)
  · by_cases c : x = p
    · rw [c, zupd_at]; exact Or.inl rfl
    · rw [zupd_off (by omega)]; exact l2 x x0 x1
  · by_cases c : x = p
    · rw [c, zupd_at]
    · rw [zupd_off (by omega)]; exact h.2.2.2.2.2.2.1 x x0 x1 hx
theorem zfogS_v {S : Int → Int} (h : zval S) (p : Int) : zval (zfogS S p) := by
  unfold zfogS
  split
  · rename_i c; exact zfog_v h c.1
  · exact h
theorem zta_45 : ∀ w : Fin 7, (0 ≤ zta 4 (w.val : Int) ∧ zta 4 (w.val : Int) ≤ 8) ∧ (0 ≤ zta 5 (w.val : Int) ∧ zta 5 (w.val : Int) ≤ 99999) := by decide +kernel
theorem zta_45I {w : Int} (h : 0 ≤ w ∧ w ≤ 6) : (0 ≤ zta 4 w ∧ zta 4 w ≤ 8) ∧ (0 ≤ zta 5 w ∧ zta 5 w ≤ 99999) := by
  have := zta_45 ⟨w.toNat, by omega⟩
  rw [show (((⟨w.toNat, by omega⟩ : Fin 7).val : Nat) : Int) = w from by show ((w.toNat : Nat) : Int) = w; omega] at this
  exact this
abbrev zsetO (S : Int → Int) (w v : Int) : Prop := ((0 ≤ w ∧ w ≤ 6) ∧ zta 4 w ≤ v ∧ v ≤ zta 5 w) ∧ S (704 + w) ≠ v
def zsetS (S : Int → Int) (w v : Int) : Int → Int := if zsetO S w v then zupd S (704 + w) v else S
def zsetA (S : Int → Int) (w v : Int) : Int := if (0 ≤ w ∧ w ≤ 6) ∧ zta 4 w ≤ v ∧ v ≤ zta 5 w then (if S (704 + w) = v then -2 else S (704 + w)) else -1
/-- states that differ in settings only -/
theorem zset_v {S : Int → Int} (h : zval S) {w v : Int} (hO : (0 ≤ w ∧ w ≤ 6) ∧ zta 4 w ≤ v ∧ v ≤ zta 5 w) : zval (zupd S (704 + w) v) := by
  obtain ⟨h1, h2, h3, h4, h5, h6, h7, h8, h9⟩ := h
  obtain ⟨hw, v0, v1⟩ := hO
  have hr := zta_45I hw
  have hs : ∀ i, i < 704 → zupd S (704 + w) v i = S i := fun i hi => zupd_off (by omega)
  have hv : zSet (zupd S (704 + w) v) ∧ 8 ≤ zupd S (704 + w) v 704 := by
    obtain ⟨q1, q2, q3, q4, q5, q6, q7⟩ := h2
    have hw2 : w = 0 ∨ w = 1 ∨ w = 2 ∨ w = 3 ∨ w = 4 ∨ w = 5 ∨ w = 6 := by omega
    rcases hw2 with rfl | rfl | rfl | rfl | rfl | rfl | rfl
    · have e0 : (8 : Int) ≤ v := v0
      have e1 : v ≤ (32 : Int) := v1
      refine ⟨⟨?_, ?_, ?_, ?_, ?_, ?_, ?_⟩, ?_⟩ <;> simp only [zupd] <;> simp <;> omega
    · have e0 : (0 : Int) ≤ v := v0
      have e1 : v ≤ (4 : Int) := v1
      refine ⟨⟨?_, ?_, ?_, ?_, ?_, ?_, ?_⟩, ?_⟩ <;> simp only [zupd] <;> simp <;> omega
    · have e0 : (0 : Int) ≤ v := v0
      have e1 : v ≤ (99999 : Int) := v1
      refine ⟨⟨?_, ?_, ?_, ?_, ?_, ?_, ?_⟩, ?_⟩ <;> simp only [zupd] <;> simp <;> omega
    · have e0 : (0 : Int) ≤ v := v0
      have e1 : v ≤ (8 : Int) := v1
      refine ⟨⟨?_, ?_, ?_, ?_, ?_, ?_, ?_⟩, ?_⟩ <;> simp only [zupd] <;> simp <;> omega
    · have e0 : (1 : Int) ≤ v := v0
      have e1 : v ≤ (9 : Int) := v1
      refine ⟨⟨?_, ?_, ?_, ?_, ?_, ?_, ?_⟩, ?_⟩ <;> simp only [zupd] <;> simp <;> omega
    · have e0 : (1 : Int) ≤ v := v0
      have e1 : v ≤ (9 : Int) := v1
      refine ⟨⟨?_, ?_, ?_, ?_, ?_, ?_, ?_⟩, ?_⟩ <;> simp only [zupd] <;> simp <;> omega
    · have e0 : (1 : Int) ≤ v := v0
      have e1 : v ≤ (9 : Int) := v1
      refine ⟨⟨?_, ?_, ?_, ?_, ?_, ?_, ?_⟩, ?_⟩ <;> simp only [zupd] <;> simp <;> omega
  refine ⟨⟨fun x x0 x1 => by rw [hs _ (by omega)]; exact h1.1 x x0 x1, fun x x0 x1 => by rw [hs _ (by omega)]; exact h1.2 x x0 x1⟩, hv.1, ?_, fun i i0 i1 => by rw [hs _ (by omega)]; exact h4 i i0 i1, zLw_c (fun i i0 _ => hs i (by omega)) h5, fun i i0 i1 => ?_, fun x x0 x1 hx => by rw [hs _ (by omega)]; exact h7 x x0 x1 hx, hv.2, by rw [hs _ (by decide)]; exact h9⟩
  · obtain ⟨q1, q2, q3⟩ := h3
    refine ⟨by rw [hs 702 (by decide), hs 703 (by decide)]; exact q1, fun i i0 i1 => by rw [hs _ (by omega)]; exact q2 i i0 i1, fun i i0 i1 => by rw [hs _ (by omega)]; exact q3 i i0 i1⟩
  · by_cases c : i = 704 + w
    · rw [c, zupd_at]; constructor <;> omega
    · rw [zupd_off c]; exact h6 i i0 i1
theorem zsetS_v {S : Int → Int} (h : zval S) (w v : Int) : zval (zsetS S w v) := by
  unfold zsetS
  split
  · rename_i c; exact zset_v h c.1
  · exact h
abbrev zpaiO (l r q b : Int) : Prop := (0 ≤ l ∧ l ≤ 7) ∧ zcol3 r q b
def zpaiS (S : Int → Int) (l r q b : Int) : Int → Int := if zpaiO l r q b then zput3 S (614 + 3 * l) r q b else S
def zpaiA (S : Int → Int) (l r q b : Int) : Int := if zpaiO l r q b then zdw S (S (614 + 3 * l) - r) (S (614 + 3 * l + 1) - q) (S (614 + 3 * l + 2) - b) else -1
theorem zpai_v {S : Int → Int} (h : zval S) {l r q b : Int} (hO : zpaiO l r q b) : zval (zput3 S (614 + 3 * l) r q b) := by
  obtain ⟨h1, h2, h3, h4, h5, h6, h7, h8, h9⟩ := h
  obtain ⟨hl, hr, hq, hb⟩ := hO
  have hs : ∀ i, i < 614 ∨ 638 ≤ i → zput3 S (614 + 3 * l) r q b i = S i := fun i hi => by rw [zput3_v, if_neg (by omega), if_neg (by omega), if_neg (by omega)]
  have hp : ∀ i, 0 ≤ i → i < 24 → 0 ≤ zput3 S (614 + 3 * l) r q b (614 + i) ∧ zput3 S (614 + 3 * l) r q b (614 + i) ≤ 400 := fun i i0 i1 => by
    rw [zput3_v]
    split
    · exact hb
    · split
      · exact hq
      · split
        · exact hr
        · exact h3.2.2 i i0 i1
  refine ⟨⟨fun x x0 x1 => by rw [hs _ (by omega)]; exact h1.1 x x0 x1, fun x x0 x1 => by rw [hs _ (by omega)]; exact h1.2 x x0 x1⟩, zSet_c (fun i i0 i1 => hs i (by omega)) h2, ⟨by rw [hs 702 (by decide), hs 703 (by decide)]; exact h3.1, fun i i0 i1 => by rw [hs _ (by omega)]; exact h3.2.1 i i0 i1, hp⟩, fun i i0 i1 => by rw [hs _ (by omega)]; exact h4 i i0 i1, zLw_c (fun i i0 _ => hs i (by omega)) h5, fun i i0 i1 => ?_, fun x x0 x1 hx => by rw [hs _ (by omega)]; exact h7 x x0 x1 hx, by rw [hs _ (by decide)]; exact h8, by rw [hs _ (by decide)]; exact h9⟩
  by_cases c : i < 614 ∨ 638 ≤ i
  · rw [hs i c]; exact h6 i i0 i1
  · have := hp (i - 614) (by omega) (by omega)
    rw [show 614 + (i - 614) = i by omega] at this
    constructor <;> omega
theorem zpaiS_v {S : Int → Int} (h : zval S) (l r q b : Int) : zval (zpaiS S l r q b) := by
  unfold zpaiS
  split
  · rename_i c; exact zpai_v h c
  · exact h
section
variable {G : zG} {μ : zM} {S : Int → Int} {c : Int} {W U : List (Int → Int)} {kp : Int → Int} {K : Int → Int → Int} {T R : List Int}
theorem kX7_dropPatch {F : Int → zM → Prop} (hx : zXg μ S c W kp K T R) (hv : zval S) {p : Int} (ip : zin p) (h : ∀ μ', zsm (fun b _ => b = 7) μ μ' → zXg μ' (zfogS S p) c W kp K T R → F (zfogA S p) μ') : qX7_dropPatch G 5 p μ F := by
  unfold zfogA zfogS at h
  refine eX7_dropPatch fun J C => rX7_dropPatch_e C zSt_5 _ (kX10_isPatch ip (fun c1 => ⟨by decide, fun _ => ⟨by omega, ?_⟩, fun z => absurd z (by decide)⟩) (fun c1 => ⟨by decide, fun z => absurd rfl z, fun _ => ?_⟩))
  · have e : zi μ (5 + 2) p = S (243 + p) := hx.1.2.1 p c1.1 (by omega)
    have hv1 := hv.1.2 p c1.1 (by omega)
    rw [e]
    rw [if_pos c1] at h
    refine ⟨by rcases hv1 with z | z <;> rw [z] <;> decide, fun z => ?_, fun z => ?_⟩
    · have hO : S (243 + p) = 1 := by omega
      rw [if_pos ⟨c1, hO⟩, if_pos hO] at h
      have hv' := zfog_v hv c1
      have g1 : zsm (fun b _ => b = 7) μ (zup μ 7 p 0) := (zsm.refl _ _).up _ rfl
      have x4 : zXs (zup μ 7 p 0) 5 (zupd S (243 + p) 0) := hx.1.up hv.pic (b := 7) (Or.inr (Or.inl ⟨rfl, rfl, by omega, by omega⟩))
      exact kX7_countMeasured zSt_5 x4 hv'.1 (h _ g1 (hx.st g1 (fun b j z => by omega) x4 (fun i i0 i1 => zupd_off (by omega)) hv.2.2.2.2.1))
    · rw [if_neg (fun y => by have := y.2; omega), if_neg (by omega)] at h
      exact h μ (zsm.refl _ _) hx
  · rw [if_neg (fun y => c1 y.1), if_neg c1] at h
    exact h μ (zsm.refl _ _) hx
theorem zfogA_r {S : Int → Int} (hv : zval S) (p : Int) : -2 ≤ zfogA S p ∧ zfogA S p ≤ 81 ∧ (0 ≤ zfogA S p ↔ zfogO S p) := by
  unfold zfogA
  by_cases c1 : 0 ≤ p ∧ p ≤ 80
  · rw [if_pos c1]
    by_cases c2 : S (243 + p) = 1
    · rw [if_pos c2]
      have := zcme_r (zfog_v hv c1).1 81 (by decide)
      exact ⟨by omega, by omega, fun _ => ⟨c1, c2⟩, fun _ => by omega⟩
    · rw [if_neg c2]
      exact ⟨by omega, by omega, fun z => absurd z (by omega), fun z => absurd z.2 c2⟩
  · rw [if_neg c1]
    exact ⟨by omega, by omega, fun z => absurd z (by omega), fun z => absurd z.1 c1⟩
theorem kX10_forgets {F : Int → zM → Prop} (hx : zXa μ S U kp K T R) (hv : zval S) {p : Int} (ip : zin p) (h : ∀ μ', zxm μ μ' → zXa μ' (zfogS S p) (if zfogO S p then zpush U S else U) kp K T R → F (zfogA S p) μ') : qX10_forgets G p μ F := by
  obtain ⟨hu, hx⟩ := hx
  refine eX10_forgets fun J C => rX10_forgets_e C _ (kX1_draft hx hu hv.pic hv.1 fun μ1 g1 x1 => kX7_dropPatch x1 hv ip fun μ2 g2 x2 => ?_)
  have gx := g1.trans (g2.xm (fun b j z => by omega))
  obtain ⟨r1, r2, r3⟩ := zfogA_r hv p
  refine kX10_settled (by constructor <;> omega) x2 hu (fun z x3 => ?_) (fun z μ3 g3 x3 => ?_)
  · rw [if_neg (fun y => by have := r3.2 y; omega)] at h
    exact h μ2 gx x3
  · rw [if_pos (r3.1 z)] at h
    exact h μ3 (gx.trans g3) x3
theorem kX11_forgets {F : Int → zM → Prop} (hM : zMa μ S U kp K T R) (hv : zval S) {p : Int} (ip : zin p) (h : ∀ μ', zsm zPW μ μ' → zMa μ' (zfogS S p) (if zfogO S p then zpush U S else U) kp K T R → F (zfogA S p) μ') : qX11_forgets G p μ F := by
  have g0 : zsm zPW μ (zup μ 153 5 0) := (zsm.refl _ _).up _ (by decide)
  have hM := hM.pub (zMthr μ) hM.2.2.2.2.1.thr
  unfold zfogA zfogS at h
  refine eX11_forgets fun J C => rX11_forgets_e C _ ?_
  generalize zup μ 153 5 0 = μ0 at *
  refine kX11_in ip (by decide) (by decide) (fun c1 => ⟨by decide, fun _ => ⟨by omega, ?_⟩, fun z => absurd z (by decide)⟩) (fun c1 => ⟨by decide, fun z => absurd rfl z, fun _ => ?_⟩)
  · have e := hM.1 (243 + p) (by omega) (by omega)
    have hv1 := hv.1.2 p c1.1 (by omega)
    rw [e]
    rw [if_pos c1] at h
    refine ⟨by rcases hv1 with z | z <;> rw [z] <;> decide, fun z => ?_, fun z => ?_⟩
    · have hO : S (243 + p) = 1 := by omega
      rw [if_pos ⟨c1, hO⟩, if_pos ⟨c1, hO⟩, if_pos hO] at h
      refine kX11_change hM.1 hM.2.1 fun μ1 g1 u1 => ?_
      have m2 : zMs (zup μ1 154 (243 + p) 0) (zupd S (243 + p) 0) := (hM.1.sm g1 (by omega)).up _ _
      have g2 : zsm (fun b _ => b = 154) μ1 (zup μ1 154 (243 + p) 0) := (zsm.refl _ _).up _ rfl
      refine kX11_measured m2 (h _ ((g0.trans (g1.mono (fun b j => by unfold zPW; omega))).trans (g2.mono (fun b j => by unfold zPW; omega))) ?_)
      exact hM.st ((g1.mono (Q := fun b j => b = 154 ∨ b = 175 ∨ b = 177 ∨ (b = 153 ∧ j = 39)) (fun b j => by omega)).trans (g2.mono (fun b j => by omega))) (fun b j z => z) m2 (u1.sm g2 (by omega) (by omega))
    · rw [if_neg (fun y => by have := y.2; omega), if_neg (fun y => by have := y.2; omega), if_neg (by omega)] at h
      exact h μ0 g0 hM
  · rw [if_neg (fun y => c1 y.1), if_neg (fun y => c1 y.1), if_neg c1] at h
    exact h μ0 g0 hM
theorem kX7_change {F : Int → zM → Prop} (hx : zXg μ S c W kp K T R) (hv : zval S) {w v : Int} (iw : zin w) (iv : zin v) (h : ∀ μ', zsm (fun b _ => b = 8) μ μ' → zXg μ' (zsetS S w v) c W kp K T R → F (zsetA S w v) μ') : qX7_change G 5 w v μ F := by
  unfold zsetA zsetS at h
  refine eX7_change fun J C => rX7_change_e C zSt_5 _ _ (kX10_isIn iw (by decide) (by decide) (fun c1 => ⟨by decide, fun z => absurd z (by decide), fun _ => ⟨by omega, ?_⟩⟩) (fun c1 => ⟨by decide, fun _ => ?_, fun z => absurd rfl z⟩))
  · have hr := zta_45I c1
    refine kX10_isIn iv (by constructor <;> omega) (by constructor <;> omega) (fun c2 => ⟨by decide, fun _ => ?_, fun z => absurd z (by decide)⟩) (fun c2 => ⟨by decide, fun z => absurd rfl z, fun _ => ?_⟩)
    · have e : zi μ (5 + 3) w = S (704 + w) := hx.1.2.2.1 w c1.1 (by omega)
      have g1 : zsm (fun b _ => b = 8) μ (zup μ 8 w v) := (zsm.refl _ _).up _ rfl
      have x4 : zXs (zup μ 8 w v) 5 (zupd S (704 + w) v) := hx.1.up hv.pic (b := 8) (Or.inr (Or.inr (Or.inl ⟨rfl, rfl, by omega, by omega⟩)))
      have hx4 := hx.st g1 (fun b j z => by omega) x4 (fun i i0 i1 => zupd_off (by omega)) hv.2.2.2.2.1
      rw [e]
      have hin := hv.2.2.2.2.2.1 (704 + w) (by omega) (by omega)
      have hc : (0 ≤ w ∧ w ≤ 6) ∧ zta 4 w ≤ v ∧ v ≤ zta 5 w := ⟨c1, c2⟩
      rw [if_pos hc] at h
      refine ⟨hin, iv, fun z => ?_, fun z => ?_⟩
      · rw [if_pos ⟨hc, z⟩, if_neg z] at h
        exact h _ g1 hx4
      · rw [if_neg (fun y => y.2 z), if_pos z] at h
        rw [zupd_id z] at hx4
        exact h _ g1 hx4
    · rw [if_neg (fun y => c2 y.1.2), if_neg (fun y => c2 y.2)] at h
      exact h μ (zsm.refl _ _) hx
  · rw [if_neg (fun y => c1 y.1.1), if_neg (fun y => c1 y.1)] at h
    exact h μ (zsm.refl _ _) hx
theorem zsetA_r {S : Int → Int} (hv : zval S) (w v : Int) : -2 ≤ zsetA S w v ∧ zsetA S w v ≤ 99999 ∧ (0 ≤ zsetA S w v ↔ zsetO S w v) := by
  unfold zsetA
  by_cases c1 : (0 ≤ w ∧ w ≤ 6) ∧ zta 4 w ≤ v ∧ v ≤ zta 5 w
  · rw [if_pos c1]
    by_cases c2 : S (704 + w) = v
    · rw [if_pos c2]
      exact ⟨by omega, by omega, fun z => absurd z (by omega), fun z => absurd c2 z.2⟩
    · rw [if_neg c2]
      have hr : 0 ≤ S (704 + w) ∧ S (704 + w) ≤ 99999 := by
        obtain ⟨q1, q2, q3, q4, q5, q6, q7⟩ := hv.2.1
        obtain ⟨⟨w0, w1⟩, -⟩ := c1
        have hw2 : w = 0 ∨ w = 1 ∨ w = 2 ∨ w = 3 ∨ w = 4 ∨ w = 5 ∨ w = 6 := by omega
        rcases hw2 with rfl | rfl | rfl | rfl | rfl | rfl | rfl <;> simp <;> omega
      exact ⟨by omega, by omega, fun _ => ⟨c1, c2⟩, fun _ => by omega⟩
  · rw [if_neg c1]
    exact ⟨by omega, by omega, fun z => absurd z (by omega), fun z => absurd z.1 c1⟩
theorem kX10_sets {F : Int → zM → Prop} (hx : zXa μ S U kp K T R) (hv : zval S) {w v : Int} (iw : zin w) (iv : zin v) (h : ∀ μ', zxm μ μ' → zXa μ' (zsetS S w v) (if zsetO S w v then zpush U S else U) kp K T R → F (zsetA S w v) μ') : qX10_sets G w v μ F := by
  obtain ⟨hu, hx⟩ := hx
  refine eX10_sets fun J C => rX10_sets_e C _ _ (kX1_draft hx hu hv.pic hv.1 fun μ1 g1 x1 => kX7_change x1 hv iw iv fun μ2 g2 x2 => ?_)
  have gx := g1.trans (g2.xm (fun b j z => by omega))
  obtain ⟨r1, r2, r3⟩ := zsetA_r hv w v
  refine kX10_settled (by constructor <;> omega) x2 hu (fun z x3 => ?_) (fun z μ3 g3 x3 => ?_)
  · rw [if_neg (fun y => by have := r3.2 y; omega)] at h
    exact h μ2 gx x3
  · rw [if_pos (r3.1 z)] at h
    exact h μ3 (gx.trans g3) x3
theorem kX11_refusesSet {F : Int → zM → Prop} (hM : zMs μ S) (hv : zval S) {w v : Int} (iw : zin w) (iv : zin v) (h1 : zsetO S w v → F 0 μ) (h0 : ¬ zsetO S w v → F (zsetA S w v) μ) : qX11_refusesSet G w v μ F := by
  unfold zsetA at h0
  refine eX11_refusesSet fun J C => rX11_refusesSet_e C _ _ (kX11_in iw (by decide) (by decide) (fun c1 => ⟨by decide, fun z => absurd z (by decide), fun _ => ⟨by omega, ?_⟩⟩) (fun c1 => ⟨by decide, fun _ => ?_, fun z => absurd rfl z⟩))
  · have hr := zta_45I c1
    show qX11_in G true v (zta 4 w) (zta 5 w) μ _
    refine kX11_in iv (by constructor <;> omega) (by constructor <;> omega) (fun c2 => ⟨by decide, fun _ => ⟨by omega, ?_⟩, fun z => absurd z (by decide)⟩) (fun c2 => ⟨by decide, fun z => absurd rfl z, fun _ => ?_⟩)
    · have hc : (0 ≤ w ∧ w ≤ 6) ∧ zta 4 w ≤ v ∧ v ≤ zta 5 w := ⟨c1, c2⟩
      rw [hM (704 + w) (by omega) (by omega)]
      rw [if_pos hc] at h0
      refine ⟨hv.2.2.2.2.2.1 (704 + w) (by omega) (by omega), iv, fun z => h1 ⟨hc, z⟩, fun z => ?_⟩
      rw [if_pos z] at h0
      exact h0 (fun y => y.2 z)
    · rw [if_neg (fun y => c2 y.2)] at h0
      exact h0 (fun y => c2 y.1.2)
  · rw [if_neg (fun y => c1 y.1)] at h0
    exact h0 (fun y => c1 y.1.1)
theorem kX11_sets {F : Int → zM → Prop} (hM : zMa μ S U kp K T R) (hv : zval S) {w v : Int} (iw : zin w) (iv : zin v) (h : ∀ μ', zsm zPW μ μ' → zMa μ' (zsetS S w v) (if zsetO S w v then zpush U S else U) kp K T R → F (zsetA S w v) μ') : qX11_sets G w v μ F := by
  have g0 : zsm zPW μ (zup μ 153 5 0) := (zsm.refl _ _).up _ (by decide)
  have hM := hM.pub (zMthr μ) hM.2.2.2.2.1.thr
  obtain ⟨r1, r2, r3⟩ := zsetA_r hv w v
  refine eX11_sets fun J C => rX11_sets_e C _ _ ?_
  generalize zup μ 153 5 0 = μ0 at *
  unfold zsetS at h
  refine kX11_refusesSet hM.1 hv iw iv (fun hO => ⟨by decide, fun _ => ?_, fun z => absurd (by decide) z⟩) (fun hO => ⟨by constructor <;> omega, fun z => absurd (r3.1 z) hO, fun _ => ?_⟩)
  · rw [if_pos hO, if_pos hO] at h
    have ea : zsetA S w v = S (704 + w) := by unfold zsetA; rw [if_pos hO.1, if_neg hO.2]
    refine kX11_change hM.1 hM.2.1 fun μ1 g1 u1 => ⟨by omega, ?_⟩
    rw [(hM.1.sm g1 (by omega)) (704 + w) (by omega) (by omega), ← ea]
    have m2 : zMs (zup μ1 154 (704 + w) v) (zupd S (704 + w) v) := (hM.1.sm g1 (by omega)).up _ _
    have g2 : zsm (fun b _ => b = 154) μ1 (zup μ1 154 (704 + w) v) := (zsm.refl _ _).up _ rfl
    refine h _ ((g0.trans (g1.mono (fun b j => by unfold zPW; omega))).trans (g2.mono (fun b j => by unfold zPW; omega))) ?_
    exact hM.st ((g1.mono (Q := fun b j => b = 154 ∨ b = 175 ∨ b = 177 ∨ (b = 153 ∧ j = 39)) (fun b j => by omega)).trans (g2.mono (fun b j => by omega))) (fun b j z => z) m2 (u1.sm g2 (by omega) (by omega))
  · rw [if_neg hO, if_neg hO] at h
    exact h μ0 g0 hM
theorem kX7_paintLetter {F : Int → zM → Prop} (hx : zXg μ S c W kp K T R) (hv : zval S) {l r q b : Int} (il : zin l) (ir : zin r) (iq : zin q) (ib : zin b) (h : ∀ μ', zsm (fun b _ => b = 10) μ μ' → zXg μ' (zpaiS S l r q b) c W kp K T R → F (zpaiA S l r q b) μ') : qX7_paintLetter G 5 l r q b μ F := by
  unfold zpaiA zpaiS at h
  refine eX7_paintLetter fun J C => rX7_paintLetter_e C zSt_5 _ _ _ _ (kX10_isIn il (by decide) (by decide) (fun c1 => ⟨by decide, fun z => absurd z (by decide), fun _ => ?_⟩) (fun c1 => ⟨by decide, fun _ => ?_, fun z => absurd rfl z⟩))
  · refine kX10_isColour ir iq ib (fun c2 => ⟨by decide, fun _ => ⟨by omega, by omega, by omega, ?_⟩, fun z => absurd z (by decide)⟩) (fun c2 => ⟨by decide, fun z => absurd rfl z, fun _ => ?_⟩)
    · rw [if_pos ⟨c1, c2⟩, if_pos ⟨c1, c2⟩] at h
      rw [Int.mul_comm l 3]
      have hp := hx.1.2.2.2.2.1
      have e0 : zi μ (5 + 5) (3 * l) = S (614 + 3 * l) := hp _ (by omega) (by omega)
      have e1 : zi μ (5 + 5) (3 * l + 1) = S (614 + 3 * l + 1) := by have := hp (3 * l + 1) (by omega) (by omega); rw [show 614 + 3 * l + 1 = 614 + (3 * l + 1) by omega]; exact this
      have e2 : zi μ (5 + 5) (3 * l + 2) = S (614 + 3 * l + 2) := by have := hp (3 * l + 2) (by omega) (by omega); rw [show 614 + 3 * l + 2 = 614 + (3 * l + 2) by omega]; exact this
      rw [e0, e1, e2]
      refine kX7_weighed zSt_5 hx.1.set ?_
      have g3 : zsm (fun b _ => b = 10) μ (zup (zup (zup μ 10 (3 * l) r) 10 (3 * l + 1) q) 10 (3 * l + 2) b) := (((zsm.refl _ _).up _ rfl).up _ rfl).up _ rfl
      have hc0 := hv.pic
      have q1 : zupd S (614 + 3 * l) r 702 * zupd S (614 + 3 * l) r 703 ≤ 64 := by rw [zupd_off (by omega), zupd_off (by omega)]; exact hc0
      have q2 : zupd (zupd S (614 + 3 * l) r) (614 + 3 * l + 1) q 702 * zupd (zupd S (614 + 3 * l) r) (614 + 3 * l + 1) q 703 ≤ 64 := by rw [zupd_off (x := 702) (a := 614 + 3 * l + 1) (by omega), zupd_off (x := 703) (a := 614 + 3 * l + 1) (by omega)]; exact q1
      have x3 : zXs (zup (zup (zup μ 10 (3 * l) r) 10 (3 * l + 1) q) 10 (3 * l + 2) b) 5 (zput3 S (614 + 3 * l) r q b) := ((hx.1.up hc0 (b := 10) (Or.inr (Or.inr (Or.inr (Or.inr ⟨rfl, rfl, by omega, by omega⟩))))).up q1 (b := 10) (Or.inr (Or.inr (Or.inr (Or.inr ⟨rfl, by omega, by omega, by omega⟩))))).up q2 (b := 10) (Or.inr (Or.inr (Or.inr (Or.inr ⟨rfl, by omega, by omega, by omega⟩))))
      exact h _ g3 (hx.st g3 (fun b j z => by omega) x3 (fun i i0 i1 => by rw [zput3_v, if_neg (by omega), if_neg (by omega), if_neg (by omega)]) hv.2.2.2.2.1)
    · rw [if_neg (fun y => c2 y.2), if_neg (fun y => c2 y.2)] at h
      exact h μ (zsm.refl _ _) hx
  · rw [if_neg (fun y => c1 y.1), if_neg (fun y => c1 y.1)] at h
    exact h μ (zsm.refl _ _) hx
theorem zpaiA_r {S : Int → Int} (hv : zval S) (l r q b : Int) : -1 ≤ zpaiA S l r q b ∧ zpaiA S l r q b ≤ 4320000 ∧ (0 ≤ zpaiA S l r q b ↔ zpaiO l r q b) := by
  unfold zpaiA
  by_cases c1 : zpaiO l r q b
  · rw [if_pos c1]
    obtain ⟨hl, hr, hq, hb⟩ := id c1
    have p0 := hv.2.2.1.2.2 (3 * l) (by omega) (by omega)
    have p1 := hv.2.2.1.2.2 (3 * l + 1) (by omega) (by omega)
    have p2 := hv.2.2.1.2.2 (3 * l + 2) (by omega) (by omega)
    rw [show 614 + (3 * l + 1) = 614 + 3 * l + 1 by omega] at p1
    rw [show 614 + (3 * l + 2) = 614 + 3 * l + 2 by omega] at p2
    have := zdw_r hv.2.1 (x := S (614 + 3 * l) - r) (y := S (614 + 3 * l + 1) - q) (z := S (614 + 3 * l + 2) - b) (by omega) (by omega) (by omega)
    exact ⟨by omega, by omega, fun _ => c1, fun _ => this.1⟩
  · rw [if_neg c1]
    exact ⟨by omega, by omega, fun z => absurd z (by omega), fun z => absurd z c1⟩
theorem kX10_paints {F : Int → zM → Prop} (hx : zXa μ S U kp K T R) (hv : zval S) {l r q b : Int} (il : zin l) (ir : zin r) (iq : zin q) (ib : zin b) (h : ∀ μ', zxm μ μ' → zXa μ' (zpaiS S l r q b) (if zpaiO l r q b then zpush U S else U) kp K T R → F (zpaiA S l r q b) μ') : qX10_paints G l r q b μ F := by
  obtain ⟨hu, hx⟩ := hx
  refine eX10_paints fun J C => rX10_paints_e C _ _ _ _ (kX1_draft hx hu hv.pic hv.1 fun μ1 g1 x1 => kX7_paintLetter x1 hv il ir iq ib fun μ2 g2 x2 => ?_)
  have gx := g1.trans (g2.xm (fun b j z => by omega))
  obtain ⟨r1, r2, r3⟩ := zpaiA_r hv l r q b
  refine kX10_settled (by constructor <;> omega) x2 hu (fun z x3 => ?_) (fun z μ3 g3 x3 => ?_)
  · rw [if_neg (fun y => by have := r3.2 y; omega)] at h
    exact h μ2 gx x3
  · rw [if_pos (r3.1 z)] at h
    exact h μ3 (gx.trans g3) x3
theorem kX11_paint {F : zM → Prop} (hM : zMs μ S) {l r q b : Int} (hl : 0 ≤ l ∧ l ≤ 7) (h : ∀ μ', zsm (fun b _ => b = 154) μ μ' → zMs μ' (zput3 S (614 + 3 * l) r q b) → F μ') : qX11_paint G l r q b μ F :=
  eX11_paint fun J C => rX11_paint_e C _ _ _ _ ⟨by omega, by omega, by omega, h _ ((((zsm.refl _ _).up _ rfl).up _ rfl).up _ rfl) (((hM.up _ _).up _ _).up _ _)⟩
theorem kX11_paints {F : Int → zM → Prop} (hM : zMa μ S U kp K T R) (hv : zval S) {l r q b : Int} (il : zin l) (ir : zin r) (iq : zin q) (ib : zin b) (h : ∀ μ', zsm zPW μ μ' → zMa μ' (zpaiS S l r q b) (if zpaiO l r q b then zpush U S else U) kp K T R → F (zpaiA S l r q b) μ') : qX11_paints G l r q b μ F := by
  have g0 : zsm zPW μ (zup μ 153 5 0) := (zsm.refl _ _).up _ (by decide)
  have hM := hM.pub (zMthr μ) hM.2.2.2.2.1.thr
  unfold zpaiA zpaiS at h
  refine eX11_paints fun J C => rX11_paints_e C _ _ _ _ ?_
  generalize zup μ 153 5 0 = μ0 at *
  refine kX11_in il (by decide) (by decide) (fun c1 => ⟨by decide, fun z => absurd z (by decide), fun _ => ?_⟩) (fun c1 => ⟨by decide, fun _ => ?_, fun z => absurd rfl z⟩)
  · refine kX11_isWanted ir iq ib (fun c2 => ⟨by decide, fun _ => ?_, fun z => absurd z (by decide)⟩) (fun c2 => ⟨by decide, fun z => absurd rfl z, fun _ => ?_⟩)
    · rw [if_pos ⟨c1, c2⟩, if_pos ⟨c1, c2⟩, if_pos ⟨c1, c2⟩] at h
      refine kX11_change hM.1 hM.2.1 fun μ1 g1 u1 => ?_
      have m1 := hM.1.sm g1 (by omega)
      refine kX11_apart ⟨by decide, by decide +kernel⟩ (n := 711) (by decide) m1.set (by omega) (by omega) ?_
      rw [m1 (614 + 3 * l) (by omega) (by omega), m1 (614 + 3 * l + 1) (by omega) (by omega), m1 (614 + 3 * l + 2) (by omega) (by omega)]
      refine kX11_paint m1 c1 fun μ2 g2 m2 => ?_
      refine h _ ((g0.trans (g1.mono (fun b j => by unfold zPW; omega))).trans (g2.mono (fun b j => by unfold zPW; omega))) ?_
      exact hM.st ((g1.mono (Q := fun b j => b = 154 ∨ b = 175 ∨ b = 177 ∨ (b = 153 ∧ j = 39)) (fun b j => by omega)).trans (g2.mono (fun b j => by omega))) (fun b j z => z) m2 (u1.sm g2 (by omega) (by omega))
    · rw [if_neg (fun y => c2 y.2), if_neg (fun y => c2 y.2), if_neg (fun y => c2 y.2)] at h
      exact h μ0 g0 hM
  · rw [if_neg (fun y => c1 y.1), if_neg (fun y => c1 y.1), if_neg (fun y => c1 y.1)] at h
    exact h μ0 g0 hM
def zcouA (S : Int → Int) (u r t w : Int) : Int := if w = 0 then zcme S 81 else if w = 1 then S 704 else if w = 2 then S 705 else if w = 3 then S 706 else if w = 4 then S 707 else if w = 5 then S 613 else if w = 6 then S 612 else if w = 7 then S 702 else if w = 8 then S 703 else if w = 9 then u else if w = 10 then r else if w = 11 then t else if w = 12 ∨ w = 13 ∨ w = 14 then S (696 + w) else -1
theorem kX10_count {F : Int → zM → Prop} (hx : zXa μ S U kp K T R) (hv : zval S) {w : Int} (iw : zin w) (h : F (zcouA S U.length R.length T.length w) μ) : qX10_count G w μ F := by
  obtain ⟨hu, h1, ⟨b, b1, b2, b3, b4, b5, -⟩, ⟨g, hg, e1, e2, h3⟩, h4, h6, h7, h8⟩ := hx
  have hs := h1.2.2.1
  refine eX10_count fun J C => rX10_count_e C _ ⟨iw, fun e => ?_, fun e => ?_, fun e => ⟨b, b1, b3, ?_⟩, fun e => ⟨b, b1, b3, ?_⟩, fun e => ?_, fun e => ?_, fun e => ?_, fun e => ?_, fun e => ?_, fun e => ?_, fun e => ?_⟩
  · subst e; exact kX7_countMeasured zSt_5 h1 hv.1 h
  · refine ⟨by omega, ?_⟩
    rcases e with e | e | e | e <;> subst e
    · have := hs 0 (by decide) (by decide); show F (zi μ 8 0) μ; rw [this]; exact h
    · have := hs 1 (by decide) (by decide); show F (zi μ 8 1) μ; rw [this]; exact h
    · have := hs 2 (by decide) (by decide); show F (zi μ 8 2) μ; rw [this]; exact h
    · have := hs 3 (by decide) (by decide); show F (zi μ 8 3) μ; rw [this]; exact h
  · subst e; rw [b4]; exact h
  · subst e; rw [b5]; exact h
  · subst e; rw [h1.2.2.2.2.2.1]; exact h
  · subst e; rw [h1.2.2.2.2.2.2.1]; exact h
  · subst e; rw [e2]; exact h
  · subst e; rw [h7.2.1]; exact h
  · subst e; rw [h6.1]; exact h
  · refine ⟨by omega, ?_⟩
    rcases e with e | e | e <;> subst e
    · have := hs 4 (by decide) (by decide); show F (zi μ 8 4) μ; rw [this]; exact h
    · have := hs 5 (by decide) (by decide); show F (zi μ 8 5) μ; rw [this]; exact h
    · have := hs 6 (by decide) (by decide); show F (zi μ 8 6) μ; rw [this]; exact h
  · unfold zcouA at h
    rw [if_neg (by omega), if_neg (by omega), if_neg (by omega), if_neg (by omega), if_neg (by omega), if_neg (by omega), if_neg (by omega), if_neg (by omega), if_neg (by omega), if_neg (by omega), if_neg (by omega), if_neg (by omega), if_neg (by omega)] at h
    exact h
theorem kX11_count {F : Int → zM → Prop} (hM : zMa μ S U kp K T R) {w : Int} (iw : zin w) (h : ∀ μ', zsm zPW μ μ' → zMa μ' S U kp K T R → F (zcouA S U.length R.length T.length w) μ') : qX11_count G w μ F := by
  have g0 : zsm zPW μ (zup μ 153 5 0) := (zsm.refl _ _).up _ (by decide)
  have hM := hM.pub (zMthr μ) hM.2.2.2.2.1.thr
  refine eX11_count fun J C => rX11_count_e C _ ?_
  generalize zup μ 153 5 0 = μ0 at *
  have h := h μ0 g0 hM
  obtain ⟨h1, ⟨hu, e2, h3⟩, h4, h6, h7, h8⟩ := hM
  refine ⟨iw, fun e => ?_, fun e => ?_, fun e => ?_, fun e => ?_, fun e => ?_, fun e => ?_, fun e => ?_, fun e => ?_, fun e => ?_, fun e => ?_, fun e => ?_, fun e => ?_, fun e => ?_, fun e => ?_⟩
  · subst e; exact kX11_measured h1 h
  · subst e; rw [h1 704 (by decide) (by decide)]; exact h
  · subst e; rw [h1 705 (by decide) (by decide)]; exact h
  · subst e; rw [h1 706 (by decide) (by decide)]; exact h
  · subst e; rw [h1 707 (by decide) (by decide)]; exact h
  · subst e; rw [h1 613 (by decide) (by decide)]; exact h
  · subst e; rw [h1 612 (by decide) (by decide)]; exact h
  · subst e; rw [h1 702 (by decide) (by decide)]; exact h
  · subst e; rw [h1 703 (by decide) (by decide)]; exact h
  · subst e; rw [e2]; exact h
  · subst e; rw [h7.2.1]; exact h
  · subst e; rw [h6.1]; exact h
  · refine ⟨by omega, ?_⟩
    rcases e with e | e | e <;> subst e
    · have := h1 708 (by decide) (by decide); show F (zi μ0 154 708) μ0; rw [this]; exact h
    · have := h1 709 (by decide) (by decide); show F (zi μ0 154 709) μ0; rw [this]; exact h
    · have := h1 710 (by decide) (by decide); show F (zi μ0 154 710) μ0; rw [this]; exact h
  · unfold zcouA at h
    rw [if_neg (by omega), if_neg (by omega), if_neg (by omega), if_neg (by omega), if_neg (by omega), if_neg (by omega), if_neg (by omega), if_neg (by omega), if_neg (by omega), if_neg (by omega), if_neg (by omega), if_neg (by omega), if_neg (by omega)] at h
    exact h
end
