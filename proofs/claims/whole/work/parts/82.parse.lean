/-! the reference reads a text sign by sign; the class looks at signs -/
def zPs (μ : zM) (T : List Int) (top a w : Int) : Prop := zi μ 153 6 = T.length ∧ zi μ 153 7 = top ∧ zi μ 153 8 = a ∧ zi μ 153 9 = w ∧ ∀ k : Nat, k < T.length → zi μ 155 k = if T.getD k 0 < 128 then T.getD k 0 else T.getD k 0 - 256
abbrev zPp (b : Nat) (j : Int) : Prop := b = 153 ∧ (j = 8 ∨ j = 9)
/-- the sign that stands at a place, or nothing -/
abbrev zat (T : List Int) (i : Int) : Int := T.getD i.toNat 0
def zher (T : List Int) (top a : Int) : Int := if a < T.length ∧ a < top then zat T a else -1
theorem zat_r {T : List Int} (hT : zTv T) {i : Int} (h0 : 0 ≤ i) (h1 : i < T.length) : 0 ≤ zat T i ∧ zat T i < 256 := hT.2 _ (by omega)
theorem zher_r {T : List Int} (hT : zTv T) {top a : Int} (h0 : 0 ≤ a) : -1 ≤ zher T top a ∧ zher T top a < 256 := by
  unfold zher
  split
  · rename_i c; have := zat_r hT h0 c.1; omega
  · omega
theorem zPs.sm {P : Nat → Int → Prop} {μ μ' : zM} {T : List Int} {top a w : Int} (h : zPs μ T top a w) (hm : zsm P μ μ') (hP : ∀ j, j = 6 ∨ j = 7 ∨ j = 8 ∨ j = 9 → ¬ P 153 j) (h2 : ∀ j, ¬ P 155 j) : zPs μ' T top a w :=
  ⟨by rw [hm.1 _ _ (hP 6 (by decide))]; exact h.1, by rw [hm.1 _ _ (hP 7 (by decide))]; exact h.2.1, by rw [hm.1 _ _ (hP 8 (by decide))]; exact h.2.2.1, by rw [hm.1 _ _ (hP 9 (by decide))]; exact h.2.2.2.1, fun k hk => by rw [hm.1 _ _ (h2 _)]; exact h.2.2.2.2 k hk⟩
section
variable {G : zG} {μ : zM} {S : Int → Int} {c : Int} {W U : List (Int → Int)} {kp : Int → Int} {K : Int → Int → Int} {T R : List Int} {top a w : Int}
theorem kX11_begin {F : zM → Prop} (hM : zMa μ S U kp K T R) {most : Int} (h : ∀ μ', zsm zPM (zup μ 153 2 0) μ' → zsm zPW μ μ' → zMa μ' S U kp K [] R → zPs μ' T most 0 (-1) → F μ') : qX11_begin G most μ F := by
  refine eX11_begin fun J C => rX11_begin_e C _ ?_
  have ht := hM.2.2.2.1
  have gm : zsm (fun b j => b = 153 ∧ (j = 2 ∨ j = 6 ∨ j = 7 ∨ j = 8 ∨ j = 9)) μ (zup (zup (zup (zup (zup μ 153 6 (zi μ 153 2)) 153 7 most) 153 8 0) 153 9 (-1)) 153 2 0) := (((((zsm.refl _ _).up _ ⟨rfl, by decide⟩).up _ ⟨rfl, by decide⟩).up _ ⟨rfl, by decide⟩).up _ ⟨rfl, by decide⟩).up _ ⟨rfl, by decide⟩
  have e2 : zi (zup (zup (zup (zup (zup μ 153 6 (zi μ 153 2)) 153 7 most) 153 8 0) 153 9 (-1)) 153 2 0) 153 2 = 0 := zi_at
  have e6 : zi (zup (zup (zup (zup (zup μ 153 6 (zi μ 153 2)) 153 7 most) 153 8 0) 153 9 (-1)) 153 2 0) 153 6 = T.length := by rw [zi_off (by decide), zi_off (by decide), zi_off (by decide), zi_off (by decide), zi_at]; exact ht.1
  have e7 : zi (zup (zup (zup (zup (zup μ 153 6 (zi μ 153 2)) 153 7 most) 153 8 0) 153 9 (-1)) 153 2 0) 153 7 = most := by rw [zi_off (by decide), zi_off (by decide), zi_off (by decide), zi_at]
  have e8 : zi (zup (zup (zup (zup (zup μ 153 6 (zi μ 153 2)) 153 7 most) 153 8 0) 153 9 (-1)) 153 2 0) 153 8 = 0 := by rw [zi_off (by decide), zi_off (by decide), zi_at]
  have e9 : zi (zup (zup (zup (zup (zup μ 153 6 (zi μ 153 2)) 153 7 most) 153 8 0) 153 9 (-1)) 153 2 0) 153 9 = -1 := by rw [zi_off (by decide), zi_at]
  generalize zup (zup (zup (zup (zup μ 153 6 (zi μ 153 2)) 153 7 most) 153 8 0) 153 9 (-1)) 153 2 0 = μ1 at *
  refine h μ1 ⟨fun b j q => ?_, gm.2.1, gm.2.2.1, gm.2.2.2⟩ (gm.mono (fun b j => by unfold zPW; omega)) ⟨hM.1.sm gm (by omega), hM.2.1.sm gm (by omega) (by omega), hM.2.2.1.sm gm (by omega), ⟨e2, fun k hk => absurd hk (by simp)⟩, hM.2.2.2.2.1.sm gm (by omega) (by omega), hM.2.2.2.2.2.sm gm (by omega)⟩ ⟨e6, e7, e8, e9, fun k hk => by rw [gm.1 _ _ (by omega)]; exact ht.2 k hk⟩
  rw [zi_up]
  split
  · rename_i c; rw [c.1, c.2]; exact e2
  · exact gm.1 b j (by unfold zPM at q; omega)
theorem kX11_here {F : Int → zM → Prop} (hp : zPs μ T top a w) (hT : zTv T) (ha : 0 ≤ a) (ha2 : a < 2147483648) (ht : zin top) (h : F (zher T top a) μ) : qX11_here G μ F := by
  obtain ⟨h6, h7, h8, h9, h5⟩ := hp
  have hl := hT.1
  unfold zher at h
  refine eX11_here fun J C => rX11_here_e C ?_
  rw [h6, h7, h8]
  refine ⟨by constructor <;> omega, by constructor <;> omega, fun c1 => ?_, fun c1 => ⟨ht, fun c2 => ?_, fun c2 => ⟨by omega, ?_⟩⟩⟩
  · rw [if_neg (by omega)] at h; exact h
  · rw [if_neg (by omega)] at h; exact h
  · rw [if_pos (by omega)] at h
    have e := h5 a.toNat (by omega)
    rw [show ((a.toNat : Nat) : Int) = a by omega] at e
    have hr := hT.2 a.toNat (by omega)
    rw [e]
    have : (if T.getD a.toNat 0 < 128 then T.getD a.toNat 0 else T.getD a.toNat 0 - 256) % 256 = zat T a := by
      unfold zat
      split <;> omega
    rw [this]
    exact h
theorem kX11_fine {F : Int → zM → Prop} (hp : zPs μ T top a w) (hw : zin w) (h1 : w = -1 → F 1 μ) (h0 : ¬ w = -1 → F 0 μ) : qX11_fine G μ F := by
  refine eX11_fine fun J C => rX11_fine_e C ?_
  rw [hp.2.2.2.1]
  exact ⟨hw, h0, h1⟩
theorem kX11_fault {F : zM → Prop} (hp : zPs μ T top a w) (hw : zin w) {v : Int} (h : ∀ μ', zsm zPp μ μ' → zPs μ' T top a (if w = -1 then v else w) → F μ') : qX11_fault G v μ F := by
  refine eX11_fault fun J C => rX11_fault_e C _ (kX11_fine hp hw (fun c1 => ⟨by decide, fun z => absurd z (by decide), fun _ => ?_⟩) (fun c1 => ⟨by decide, fun _ => ?_, fun z => absurd rfl z⟩))
  · rw [if_pos c1] at h
    exact h _ ((zsm.refl _ _).up _ ⟨rfl, Or.inr rfl⟩) ⟨by rw [zi_off (by decide)]; exact hp.1, by rw [zi_off (by decide)]; exact hp.2.1, by rw [zi_off (by decide)]; exact hp.2.2.1, zi_at, fun k hk => by rw [zi_off (by omega)]; exact hp.2.2.2.2 k hk⟩
  · rw [if_neg c1] at h
    exact h μ (zsm.refl _ _) hp
theorem kX11_oneOf {F : Int → zM → Prop} (hp : zPs μ T top a w) (hw : zin w) (hT : zTv T) (ha : 0 ≤ a) (ha2 : a < 2147483648) (ht : zin top) {f m : Int} (hf : 0 ≤ f) (hm : 1 ≤ m) (hfm : f + m ≤ 128) (hno : ¬ w = -1 → F 0 μ) (hok : w = -1 → f ≤ zher T top a ∧ zher T top a < f + m → ∀ μ', zsm zPp μ μ' → zPs μ' T top (a + 1) (-1) → F (zat T a - f) μ') (hbad : w = -1 → ¬ (f ≤ zher T top a ∧ zher T top a < f + m) → ∀ μ', zsm zPp μ μ' → zPs μ' T top a a → F 0 μ') : qX11_oneOf G f m μ F := by
  have hl := hT.1
  have hr := zher_r hT (top := top) ha
  refine eX11_oneOf fun J C => rX11_oneOf_e C _ _ (kX11_fine hp hw (fun c1 => ⟨by decide, fun _ => ?_, fun z => absurd z (by decide)⟩) (fun c1 => ⟨by decide, fun z => absurd rfl z, fun _ => hno c1⟩))
  refine kX11_here hp hT ha ha2 ht (kX11_in (by constructor <;> omega) (by constructor <;> omega) (by constructor <;> omega) (fun c2 => ⟨by decide, fun _ => ?_, fun z => absurd z (by decide)⟩) (fun c2 => ⟨by decide, fun z => absurd rfl z, fun _ => ?_⟩))
  · have hc : a < T.length ∧ a < top := by
      by_cases z : a < T.length ∧ a < top
      · exact z
      · have e : zher T top a = -1 := by unfold zher; rw [if_neg z]
        omega
    have he : zher T top a = zat T a := by unfold zher; rw [if_pos hc]
    rw [zi_at, hp.2.2.1, zi_off (by omega), show a + 1 - 1 = a by omega]
    have e := hp.2.2.2.2 a.toNat (by omega)
    rw [show ((a.toNat : Nat) : Int) = a by omega] at e
    have e2 : zi μ 155 a = zat T a := by
      rw [e]
      unfold zat at he ⊢
      rw [if_pos (by omega)]
    rw [e2]
    refine ⟨by omega, hok c1 (by omega) _ ((zsm.refl _ _).up _ ⟨rfl, Or.inl rfl⟩) ⟨by rw [zi_off (by decide)]; exact hp.1, by rw [zi_off (by decide)]; exact hp.2.1, zi_at, by rw [zi_off (by decide), hp.2.2.2.1]; exact c1, fun k hk => by rw [zi_off (by omega)]; exact hp.2.2.2.2 k hk⟩⟩
  · rw [hp.2.2.1]
    refine kX11_fault hp hw fun μ1 g1 p1 => ?_
    rw [if_pos c1] at p1
    exact hbad c1 (by omega) μ1 g1 p1
theorem kX11_wasRight {F : Int → zM → Prop} (hp : zPs μ T top a w) (hw : zin w) (hT : zTv T) (ha : 0 ≤ a) (ha2 : a < 2147483648) (h : ∀ μ', zsm zPp μ μ' → zPs μ' T top a (if w = -1 ∧ a < T.length then a else w) → F (if w = -1 ∧ ¬ a < T.length then 1 else 0) μ') : qX11_wasRight G μ F := by
  have hl := hT.1
  refine eX11_wasRight fun J C => rX11_wasRight_e C ?_
  rw [hp.1, hp.2.2.1]
  refine ⟨by constructor <;> omega, by constructor <;> omega, fun c1 => ?_, fun c1 => ?_⟩
  · have h := h μ (zsm.refl _ _)
    rw [if_neg (by omega)] at h
    refine kX11_fine hp hw (fun c2 => ⟨Or.inr rfl, ?_⟩) (fun c2 => ⟨Or.inl rfl, ?_⟩)
    · rw [if_pos (by omega)] at h; exact h hp
    · rw [if_neg (by omega)] at h; exact h hp
  · refine kX11_fault hp hw fun μ1 g1 p1 => ?_
    have h := h μ1 g1
    rw [if_neg (by omega : ¬ (w = -1 ∧ ¬ a < (T.length : Int)))] at h
    by_cases c2 : w = -1
    · rw [if_pos c2] at p1
      rw [if_pos (by omega)] at h
      exact kX11_fine p1 (by constructor <;> omega) (fun c3 => absurd c3 (by omega)) (fun c3 => ⟨Or.inl rfl, h p1⟩)
    · rw [if_neg c2] at p1
      rw [if_neg (by omega)] at h
      exact kX11_fine p1 hw (fun c3 => absurd c3 c2) (fun c3 => ⟨Or.inl rfl, h p1⟩)
/-- the class's look at a sign -/
theorem kX9_at {F : Int → zM → Prop} (ht : zXt μ T) (hT : zTv T) {i : Int} (ii : zin i) (h : F (if 0 ≤ i then zat T i else 0) μ) : qX9_at G i μ F := by
  have hl := hT.1
  refine eX9_at fun J C => rX9_at_e C _ ?_
  rw [ht.1]
  refine ⟨ii, fun c1 => ?_, fun c1 => ⟨by constructor <;> omega, fun c2 => ?_, fun c2 => ⟨by omega, ?_⟩⟩⟩
  · rw [if_neg (by omega)] at h; exact h
  · rw [if_pos (by omega)] at h
    have e : zat T i = 0 := by
      unfold zat
      rw [List.getD_eq_getElem?_getD, List.getElem?_eq_none (by omega)]
      rfl
    rw [e] at h
    exact h
  · rw [if_pos (by omega)] at h
    have e := ht.2 i.toNat (by omega)
    rw [show ((i.toNat : Nat) : Int) = i by omega] at e
    rw [e]; exact h
theorem kX9_digit {F : Int → zM → Prop} (ht : zXt μ T) (hT : zTv T) {i : Int} (ii : zin i) (h0 : 0 ≤ i) (h : F (zat T i - 48) μ) : qX9_digit G i μ F :=
  eX9_digit fun J C => rX9_digit_e C _ (kX9_at ht hT ii (by rw [if_pos h0]; exact h))
theorem kX10_refusedText {F : Int → zM → Prop} (hx : zXa μ S U kp K T R) {v : Int} (h : ∀ μ', zxm μ μ' → zXa μ' S U kp K [] R → F (-1 - v) μ') : qX10_refusedText G v μ F := by
  have gm : zsm (fun b _ => b = 1 ∨ b = 2) μ (zup μ 1 1 0) := (zsm.refl _ _).up _ (Or.inl rfl)
  exact eX10_refusedText fun J C => rX10_refusedText_e C _ (h _ (gm.xm (fun b j z => by omega)) (hx.txt gm ⟨zi_at, fun k hk => absurd hk (by simp)⟩))
end
