/-! colours laid, open places, distances -/
/-- distance of two colours that differ so -/
def zdw (S : Int → Int) (x y z : Int) : Int := S 708 * x * x + S 709 * y * y + S 710 * z * z
theorem zsq {x : Int} (h : -400 ≤ x ∧ x ≤ 400) : 0 ≤ x * x ∧ x * x ≤ 160000 := by
  have h1 : 0 ≤ x * x := by
    by_cases c : 0 ≤ x
    · exact Int.mul_nonneg c c
    · have := Int.mul_nonneg (a := -x) (b := -x) (by omega) (by omega)
      rw [Int.neg_mul_neg] at this; exact this
  refine ⟨h1, ?_⟩
  by_cases c : 0 ≤ x
  · have := Int.mul_le_mul h.2 h.2 c (by decide : (0 : Int) ≤ 400); omega
  · have := Int.mul_le_mul (a := -x) (b := -x) (c := 400) (d := 400) (by omega) (by omega) (by omega) (by decide)
    rw [Int.neg_mul_neg] at this; omega
theorem zwsq {w x : Int} (hw : 1 ≤ w ∧ w ≤ 9) (h : -400 ≤ x ∧ x ≤ 400) : 0 ≤ w * x * x ∧ w * x * x ≤ 1440000 := by
  have := zsq h
  rw [Int.mul_assoc]
  have hb : w = 1 ∨ w = 2 ∨ w = 3 ∨ w = 4 ∨ w = 5 ∨ w = 6 ∨ w = 7 ∨ w = 8 ∨ w = 9 := by omega
  rcases hb with rfl | rfl | rfl | rfl | rfl | rfl | rfl | rfl | rfl <;> omega
theorem zdw_r {S : Int → Int} (hs : zSet S) {x y z : Int} (hx : -400 ≤ x ∧ x ≤ 400) (hy : -400 ≤ y ∧ y ≤ 400) (hz : -400 ≤ z ∧ z ≤ 400) : 0 ≤ zdw S x y z ∧ zdw S x y z ≤ 4320000 := by
  have h1 := zwsq hs.2.2.2.2.1 hx; have h2 := zwsq hs.2.2.2.2.2.1 hy; have h3 := zwsq hs.2.2.2.2.2.2 hz
  unfold zdw
  omega
/-- of a place from what is wanted -/
noncomputable def zdi (S : Int → Int) (p r q b : Int) : Int := zdw S (zC S p 0 - r) (zC S p 1 - q) (zC S p 2 - b)
abbrev zw4 (r : Int) : Prop := 0 ≤ r ∧ r ≤ 400
theorem zdi_r {S : Int → Int} (hs : zSet S) (hr : zLr S) {p r q b : Int} (h1 : zw4 r) (h2 : zw4 q) (h3 : zw4 b) : 0 ≤ zdi S p r q b ∧ zdi S p r q b ≤ 4320000 := by
  have c0 := zC_r hr (p := p) (b := 0) (by decide); have c1 := zC_r hr (p := p) (b := 1) (by decide); have c2 := zC_r hr (p := p) (b := 2) (by decide)
  exact zdw_r hs (by omega) (by omega) (by omega)
/-- what the reference knows when colours are laid -/
def zcds (μ : zM) : Prop := ∀ i, 0 ≤ i → i < 6561 → zi μ 162 i = zcd i
def zlaid (μ : zM) (S : Int → Int) : Prop := (∀ i, 0 ≤ i → i < 243 → zi μ 158 i = zlg S i) ∧ (∀ p b, zPl p → 0 ≤ b → b < 3 → zi μ 159 (3 * p + b) = zC S p b) ∧ zi μ 153 18 = zON S ∧ ∀ k : Nat, k < zON S → zi μ 163 k = zO S k
section
variable {G : zG} {μ : zM} {S : Int → Int}
theorem kX11_layColour {F : zM → Prop} {p : Int} {a n : Nat} (ha : zIsAr a n) (hn : n < 2147483648) (hd : a ≠ 158 ∧ a ≠ 160 ∧ a ≠ 161) {L : Int → Int} (hL : ∀ i, 0 ≤ i → i < 243 → zi μ 158 i = L i) {x : Int} (hx : 0 ≤ x) (hx3 : x + 3 ≤ n) (h : ∀ μ', zsm (fun b j => b = 160 ∨ b = 161 ∨ (b = a ∧ x ≤ j ∧ j < x + 3)) μ μ' → (∀ b, 0 ≤ b → b < 3 → zi μ' a (x + b) = zcol L p b) → F μ') : qX11_layColour G (zcd p) a x μ F := by
  refine eX11_layColour fun J C => rX11_layColour_e C _ ha hn _ (kX11_layWay fun μ1 hs1 hw1 => ?_)
  refine znfor (N := 3) (P := fun n => ∀ μ', zsm (fun b j => b = 160 ∨ b = 161 ∨ (b = a ∧ x ≤ j ∧ j < x + 3)) μ μ' → (∀ k : Nat, k ≤ 4 → zi μ' 160 k = zpt p k ∧ zi μ' 161 k = zcnt p k) → (∀ b : Int, 0 ≤ b → b < n → zi μ' a (x + b) = zcol L p b) → J 8 ([some (zR (some 153)), none, some (zR (some a)), some (zI x), some (zI (n : Int)), none, none], [], μ', 0, 0)) ?_ ?_ μ1 (hs1.mono (fun b j => by omega)) hw1 (fun b h0 h1 => absurd h0 (by omega))
  · intro μ2 hs hw hnn
    exact rX11_layColour_8 C ha hn _ _ ⟨by decide, fun _ => h μ2 hs (fun b h0 h1 => hnn b h0 (by omega)), fun c => absurd (by decide) c⟩
  · intro m hm hj μ2 hs hw hnn
    refine rX11_layColour_8 C ha hn _ _ ⟨by constructor <;> omega, fun c => absurd c (by omega), fun _ => ?_⟩
    refine znfor (N := 5) (P := fun k => J 20 ([some (zR (some 153)), none, some (zR (some a)), some (zI x), some (zI (m : Int)), some (zI (zcl L p m k)), some (zI (k : Int))], [], μ2, 0, 0)) ?_ ?_
    · refine rX11_layColour_20 C ha hn _ _ _ _ ⟨by decide, fun _ => ⟨by omega, ?_⟩, fun c => absurd (by decide) c⟩
      refine hj _ (hs.up _ (by omega)) ?_ ?_
      · intro k hk
        rw [zi_off (by omega), zi_off (by omega)]
        exact hw k hk
      · intro b h0 h1
        by_cases hb : b = m
        · subst hb; exact zi_at
        · rw [zi_off (by omega)]; exact hnn b h0 (by omega)
    · intro k hk hj2
      have hz := zpt_r p (k := k) (by omega)
      obtain ⟨w1, w2⟩ := hw k (by omega)
      have hc : 0 ≤ zcnt p k ∧ zcnt p k ≤ 4 := by
        have := zcnt_r p
        have hk' : k = 0 ∨ k = 1 ∨ k = 2 ∨ k = 3 ∨ k = 4 := by omega
        rcases hk' with rfl | rfl | rfl | rfl | rfl <;> omega
      refine rX11_layColour_20 C ha hn _ _ _ _ ⟨by constructor <;> omega, fun c => absurd c (by omega), fun _ => ⟨by omega, ?_⟩⟩
      rw [w1, w2]
      refine ⟨by constructor <;> omega, fun c => ?_, fun c => ⟨by omega, ?_⟩⟩
      · rw [zcl, show zcnt p k = 0 by omega, Int.zero_mul, Int.add_zero] at hj2
        exact hj2
      · rw [show zi μ2 158 (3 * zpt p k + m) = L (3 * zpt p k + m) by
          rw [hs.1 _ _ (by omega), hL _ (by omega) (by omega)]]
        exact hj2
theorem kX11_layLights {F : zM → Prop} {a n : Nat} (ha : zIsAr a n) (hn : n < 2147483648) (hd : a ≠ 158) (h324 : 324 ≤ n) (hS : ∀ p, 0 ≤ p → p < 324 → zi μ a p = S p) (hr : zLr S) (h : ∀ μ', zsm (fun b _ => b = 158) μ μ' → (∀ i, 0 ≤ i → i < 243 → zi μ' 158 i = zlg S i) → F μ') : qX11_layLights G a μ F := by
  refine eX11_layLights fun J C => rX11_layLights_e C ha hn ?_
  refine znfor (N := 81) (P := fun n => ∀ (μ' : zM), zsm (fun b _ => b = 158) μ μ' → (∀ i, 0 ≤ i → i < 3 * (n : Int) → zi μ' 158 i = zlg S i) → J 2 ([some (zR (some 153)), some (zR (some a)), some (zI (n : Int)), none], [], μ', 0, 0)) ?_ ?_ μ (zsm.refl _ _) (fun i h0 h1 => absurd h0 (by omega))
  · intro μ1 h1 h2
    exact rX11_layLights_2 C ha hn _ ⟨by decide, fun _ => h μ1 h1 (fun i q0 q1 => h2 i q0 (by omega)), fun c => absurd (by decide) c⟩
  · intro k hk hj μ1 h1 h2
    refine rX11_layLights_2 C ha hn _ ⟨by constructor <;> omega, fun c => absurd c (by omega), fun _ => ?_⟩
    refine znfor (N := 3) (P := fun m => ∀ (μ' : zM), zsm (fun b _ => b = 158) μ μ' → (∀ i, 0 ≤ i → i < 3 * (k : Int) + m → zi μ' 158 i = zlg S i) → J 10 ([some (zR (some 153)), some (zR (some a)), some (zI (k : Int)), some (zI (m : Int))], [], μ', 0, 0)) ?_ ?_ μ1 h1 (fun i q0 q1 => h2 i q0 (by omega))
    · intro μ2 g1 g2
      exact rX11_layLights_10 C ha hn _ _ ⟨by decide, fun _ => hj μ2 g1 (fun i q0 q1 => g2 i q0 (by omega)), fun c => absurd (by decide) c⟩
    · intro m hm hj2 μ2 g1 g2
      refine rX11_layLights_10 C ha hn _ _ ⟨by constructor <;> omega, fun c => absurd c (by omega), fun _ => kX11_lightOf ha hn h324 (fun p q0 q1 => by rw [g1.1 _ _ hd]; exact hS p q0 q1) hr ⟨by omega, by omega⟩ ⟨by omega, by omega⟩ ⟨⟨by omega, by omega⟩, ?_⟩⟩
      refine hj2 _ (g1.up _ rfl) (fun i q0 q1 => ?_)
      by_cases hi : i = 3 * k + m
      · rw [hi, zi_at, zlg_at S ⟨by omega, by omega⟩]
      · rw [zi_off (by omega)]; exact g2 i q0 (by omega)
theorem kX11_open {F : Int → zM → Prop} (hM : zMs μ S) (hs : zSet S) {p : Int} (h1 : zopen S p → F 1 μ) (h0 : ¬ zopen S p → F 0 μ) : qX11_open G (zcd p) μ F := by
  have e4 := hM 704 (by decide) (by decide)
  have e7 := hM 707 (by decide) (by decide)
  have r := ztot_r p
  have a := zam_r p 3
  obtain ⟨s1, s2, s3, s4, -⟩ := hs
  refine eX11_open fun J C => rX11_open_e C _ (kX11_totalOf ⟨by constructor <;> omega, by rw [e4]; constructor <;> omega, fun c => h0 (fun z => ?_), fun c => kX11_am (by decide) (by decide) ⟨by constructor <;> omega, by rw [e7]; constructor <;> omega, fun c2 => h0 (fun z => ?_), fun c2 => h1 ⟨?_, ?_⟩⟩⟩)
  · rw [e4] at c; have := z.1; omega
  · rw [e7] at c2; have := z.2; omega
  · rw [e4] at c; omega
  · rw [e7] at c2; omega
theorem kX7_isOpen {F : Int → zM → Prop} {s : Nat} (ha : zIsSt s) (hX : zXs μ s S) (hs : zSet S) {p : Int} (hp : zPl p) (h1 : zopen S p → F 1 μ) (h0 : ¬ zopen S p → F 0 μ) : qX7_isOpen G s p μ F := by
  have e4 := hX.2.2.1 0 (by decide) (by decide)
  have e7 := hX.2.2.1 3 (by decide) (by decide)
  rw [show (704 : Int) + 0 = 704 from rfl] at e4
  rw [show (704 : Int) + 3 = 707 from rfl] at e7
  have r := ztot_r p
  have a := zam_r p 3
  obtain ⟨s1, s2, s3, s4, -⟩ := hs
  refine eX7_isOpen fun J C => rX7_isOpen_e C ha _ (kX10_totalOf hp ⟨by constructor <;> omega, by rw [e4]; constructor <;> omega, fun c => h0 (fun z => ?_), fun c => kX10_am hp (by decide) (by decide) ⟨by constructor <;> omega, by rw [e7]; constructor <;> omega, fun c2 => h0 (fun z => ?_), fun c2 => h1 ⟨?_, ?_⟩⟩⟩)
  · rw [e4] at c; have := z.1; omega
  · rw [e7] at c2; have := z.2; omega
  · rw [e4] at c; omega
  · rw [e7] at c2; omega
theorem z159 : zIsAr 159 19683 := ⟨by decide, by decide +kernel⟩
theorem kX11_layColours {F : zM → Prop} {a n : Nat} (ha : zIsAr a n) (hn : n < 2147483648) (hd : a ≠ 158) (h324 : 324 ≤ n) {S' : Int → Int} (hM : zMs μ S') (hss : zSet S') (h7 : S' 704 = S 704 ∧ S' 707 = S 707) (hS : ∀ p, 0 ≤ p → p < 324 → zi μ a p = S p) (hr : zLr S) (hcd : zcds μ) (h : ∀ μ', zsm (fun b j => (158 ≤ b ∧ b ≤ 161) ∨ b = 163 ∨ (b = 153 ∧ j = 18)) μ μ' → zlaid μ' S → F μ') : qX11_layColours G a μ F := by
  have ho : ∀ p, zopen S' p ↔ zopen S p := fun p => by unfold zopen; rw [h7.1, h7.2]
  refine eX11_layColours fun J C => rX11_layColours_e C ha hn (kX11_layLights ha hn hd h324 hS hr fun μ1 hs1 hl1 => ?_)
  have hs2 : zsm (fun b j => (158 ≤ b ∧ b ≤ 161) ∨ b = 163 ∨ (b = 153 ∧ j = 18)) μ (zup μ1 153 18 0) := (hs1.mono (fun b j => by omega)).up _ (by omega)
  have key : ∀ (N : Nat), N ≤ 6561 → N = zN65 → J 12 ([some (zR (some 153)), none, some (zI 0)], [], zup μ1 153 18 0, 0, 0) := by
    intro N hN eN
    refine znfor (N := N) (P := fun n => ∀ μ', zsm (fun b j => (158 ≤ b ∧ b ≤ 161) ∨ b = 163 ∨ (b = 153 ∧ j = 18)) μ μ' → (∀ i, 0 ≤ i → i < 243 → zi μ' 158 i = zlg S i) → (∀ p b : Int, 0 ≤ p → p < n → 0 ≤ b → b < 3 → zi μ' 159 (3 * p + b) = zC S p b) → zi μ' 153 18 = (zol S n).length → (∀ k : Nat, k < (zol S n).length → zi μ' 163 k = (zol S n).getD k 0) → J 12 ([some (zR (some 153)), none, some (zI (n : Int))], [], μ', 0, 0)) ?_ ?_ _ hs2 (fun i h0 h1 => by rw [zi_off (by omega)]; exact hl1 i h0 h1) (fun p b h0 h1 => absurd h0 (by omega)) zi_at (fun k hk => absurd hk (by unfold zol; simp))
    · intro μ2 g1 g2 g3 g4 g5
      have e := zN65_e
      refine rX11_layColours_12 C _ ⟨by constructor <;> omega, fun _ => h μ2 g1 ⟨g2, fun p b hp h0 h1 => g3 p b hp.1 (by have := hp.2; omega) h0 h1, ?_, ?_⟩, fun c => absurd (by omega) c⟩
      · rw [g4, eN]; rfl
      · rw [eN] at g5; exact g5
    · intro k hk hj μ2 g1 g2 g3 g4 g5
      refine rX11_layColours_12 C _ ⟨by constructor <;> omega, fun c => absurd c (by omega), fun _ => ⟨by omega, ?_⟩⟩
      rw [show zi μ2 162 k = zcd k by rw [g1.1 _ _ (by omega)]; exact hcd _ (by omega) (by omega)]
      refine kX11_layColour z159 (by decide) (by decide) g2 (by omega) (by omega) fun μ3 t1 t2 => ?_
      have e162 : zi μ3 162 k = zcd k := by rw [t1.1 _ _ (by omega), g1.1 _ _ (by omega)]; exact hcd _ (by omega) (by omega)
      rw [e162]
      have gg1 := g1.trans (t1.mono (fun b j => by omega))
      have u2 : ∀ i, 0 ≤ i → i < 243 → zi μ3 158 i = zlg S i := fun i q0 q1 => by rw [t1.1 _ _ (by omega)]; exact g2 i q0 q1
      have u3 : ∀ p b : Int, 0 ≤ p → p < (k : Int) + 1 → 0 ≤ b → b < 3 → zi μ3 159 (3 * p + b) = zC S p b := fun p b q0 q1 q2 q3 => by
        by_cases hp : p = k
        · subst hp; exact t2 b q2 q3
        · rw [t1.1 _ _ (by omega)]; exact g3 p b q0 (by omega) q2 q3
      have u4 : zi μ3 153 18 = (zol S k).length := by rw [t1.1 _ _ (by omega)]; exact g4
      have u5 : ∀ m : Nat, m < (zol S k).length → zi μ3 163 m = (zol S k).getD m 0 := fun m hm => by rw [t1.1 _ _ (by omega)]; exact g5 m hm
      have hM3 : zMs μ3 S' := hM.sm gg1 (fun j => by omega)
      refine kX11_open hM3 hss (fun hop => ?_) (fun hop => ?_)
      · rw [ho] at hop
        have hlen := zol_len S k
        have e1 : (zol S (k + 1)).length = (zol S k).length + 1 := by rw [zol, if_pos hop, List.length_append]; rfl
        refine ⟨by decide, fun q => absurd q (by decide), fun _ => ?_⟩
        rw [u4]
        refine ⟨by omega, hj _ ((gg1.up _ (by omega)).up _ (by omega)) ?_ ?_ ?_ ?_⟩
        · intro i q0 q1; rw [zi_off (by omega), zi_off (by omega)]; exact u2 i q0 q1
        · intro p b q0 q1 q2 q3; rw [zi_off (by omega), zi_off (by omega)]; exact u3 p b q0 (by omega) q2 q3
        · rw [zi_off (by omega), zi_at, e1]; omega
        · refine zol_at (fun j => zi _ 163 j) (fun m hm => ?_) hop ?_
          · rw [zi_off (by omega), zi_off (by omega)]; exact u5 m hm
          · exact zi_at
      · rw [ho] at hop
        have e1 : zol S (k + 1) = zol S k := by rw [zol, if_neg hop, List.append_nil]
        refine ⟨by decide, fun _ => hj _ gg1 u2 (fun p b q0 q1 q2 q3 => u3 p b q0 (by omega) q2 q3) ?_ ?_, fun q => absurd rfl q⟩
        · rw [e1]; exact u4
        · rw [e1]; exact u5
  exact key zN65 (by rw [zN65_e]; omega) rfl
end
