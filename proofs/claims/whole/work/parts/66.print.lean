/-! pictures printed -/
def zPic (S : Int → Int) : Prop := ((0 ≤ S 702 ∧ S 702 ≤ 8) ∧ 0 ≤ S 703 ∧ S 703 ≤ 8) ∧ (∀ i, 0 ≤ i → i < 64 → 0 ≤ S (638 + i) ∧ S (638 + i) ≤ 7) ∧ ∀ i, 0 ≤ i → i < 24 → 0 ≤ S (614 + i) ∧ S (614 + i) ≤ 400
theorem zPic_n {S : Int → Int} (h : zPic S) : 0 ≤ S 702 * S 703 ∧ S 702 * S 703 ≤ 64 := by
  obtain ⟨⟨hw, hh⟩, -⟩ := h
  generalize S 702 = W at *
  generalize S 703 = H at *
  have : W = 0 ∨ W = 1 ∨ W = 2 ∨ W = 3 ∨ W = 4 ∨ W = 5 ∨ W = 6 ∨ W = 7 ∨ W = 8 := by omega
  rcases this with rfl | rfl | rfl | rfl | rfl | rfl | rfl | rfl | rfl <;> omega
theorem zright {W H i : Int} (hw : 0 < W ∧ W ≤ 8) (hh : 0 ≤ H ∧ H ≤ 8) (hi : 0 ≤ i ∧ i < W * H) : (0 ≤ i % W ∧ i % W < W) ∧ (0 ≤ i / W ∧ i / W < 64) ∧ (i % W + 1 < W → i + 1 < W * H) := by
  have : W = 1 ∨ W = 2 ∨ W = 3 ∨ W = 4 ∨ W = 5 ∨ W = 6 ∨ W = 7 ∨ W = 8 := by omega
  rcases this with rfl | rfl | rfl | rfl | rfl | rfl | rfl | rfl <;> omega
/-- what a cell wants of its letter -/
def zpa (S : Int → Int) (i b : Int) : Int := S (614 + (3 * S (638 + i) + b))
theorem zpa_r {S : Int → Int} (h : zPic S) {i b : Int} (h0 : 0 ≤ i) (h1 : i < 64) (hb : 0 ≤ b ∧ b < 3) : zw4 (zpa S i b) ∧ 0 ≤ 3 * S (638 + i) + b ∧ 3 * S (638 + i) + b < 24 := by
  have c := h.2.1 i h0 h1
  exact ⟨h.2.2 _ (by omega) (by omega), by omega, by omega⟩
noncomputable def zpr0 (S : Int → Int) (i : Int) : Int := zmat S (zpa S i 0) (zpa S i 1) (zpa S i 2)
def zwn (S C : Int → Int) (i b : Int) : Int := max 0 (min (zpa S i b + C (3 * i + b)) 400)
noncomputable def zpmm (S C : Int → Int) (i : Int) : Int := zmat S (zwn S C i 0) (zwn S C i 1) (zwn S C i 2)
noncomputable def zlf1 (S C : Int → Int) (i b : Int) : Int := zwn S C i b - zC S (zpmm S C i) b
noncomputable def zcms (S C : Int → Int) (i x : Int) : Int := C x + (if i % S 702 + 1 < S 702 ∧ x / 3 = i + 1 then (zlf1 S C i (x % 3)).tdiv 2 else 0) + (if i + S 702 < S 702 * S 703 ∧ x / 3 = i + S 702 then zlf1 S C i (x % 3) - (zlf1 S C i (x % 3)).tdiv 2 else 0)
/-- what came to the cells when so many are printed -/
noncomputable def zcm (S : Int → Int) : Nat → Int → Int
  | 0 => fun _ => 0
  | n + 1 => zcms S (zcm S n) n
noncomputable def zpr (S : Int → Int) (how : Int) (i : Nat) : Int := if how = 0 then zpr0 S i else zpmm S (zcm S i) i
theorem zwn_r (S C : Int → Int) (i b : Int) : zw4 (zwn S C i b) := by unfold zwn; omega
theorem ztd2 (x : Int) : (0 ≤ x → 0 ≤ x.tdiv 2 ∧ x.tdiv 2 ≤ x) ∧ (x < 0 → x ≤ x.tdiv 2 ∧ x.tdiv 2 ≤ 0) := by
  have e : 0 ≤ x ∧ x.tdiv 2 = x / 2 ∨ x < 0 ∧ x.tdiv 2 = -((-x) / 2) := by
    by_cases h : 0 ≤ x
    · exact Or.inl ⟨h, Int.tdiv_eq_ediv_of_nonneg h⟩
    · refine Or.inr ⟨by omega, ?_⟩
      rw [← Int.tdiv_eq_ediv_of_nonneg (by omega : 0 ≤ -x), Int.neg_tdiv, Int.neg_neg]
  rcases e with ⟨a, b⟩ | ⟨a, b⟩ <;> exact ⟨fun h => by omega, fun h => by omega⟩
theorem zlf1_r {S : Int → Int} (hr : zLr S) (C : Int → Int) (i : Int) {b : Int} (hb : 0 ≤ b ∧ b < 3) : (-400 ≤ zlf1 S C i b ∧ zlf1 S C i b ≤ 400) ∧ (-400 ≤ (zlf1 S C i b).tdiv 2 ∧ (zlf1 S C i b).tdiv 2 ≤ 400) ∧ -400 ≤ zlf1 S C i b - (zlf1 S C i b).tdiv 2 ∧ zlf1 S C i b - (zlf1 S C i b).tdiv 2 ≤ 400 := by
  have a := zwn_r S C i b
  have c := zC_r hr (p := zpmm S C i) hb
  have l : -400 ≤ zlf1 S C i b ∧ zlf1 S C i b ≤ 400 := by unfold zlf1; omega
  have t := ztd2 (zlf1 S C i b)
  generalize zlf1 S C i b = x at *
  refine ⟨l, ?_⟩
  by_cases h : 0 ≤ x
  · have := t.1 h; omega
  · have := t.2 (by omega); omega
theorem zcm_r {S : Int → Int} (hr : zLr S) : ∀ (n : Nat) (x : Int), 0 ≤ x → -(800 * (n : Int)) ≤ zcm S n x ∧ zcm S n x ≤ 800 * n
  | 0, x, _ => by show -(800 * ((0 : Nat) : Int)) ≤ 0 ∧ (0 : Int) ≤ 800 * ((0 : Nat) : Int); omega
  | n + 1, x, hx => by
    have ih := zcm_r hr n x hx
    have l := zlf1_r hr (zcm S n) n (b := x % 3) (by omega)
    show -(800 * ((n + 1 : Nat) : Int)) ≤ zcms S (zcm S n) n x ∧ zcms S (zcm S n) n x ≤ 800 * ((n + 1 : Nat) : Int)
    unfold zcms
    split <;> split <;> omega
theorem zpr_pl {S : Int → Int} (hv : zSet S) (hr : zLr S) (hp : zPic S) {how : Int} {i : Nat} (hi : i < 64) : zPl (zpr S how i) := by
  unfold zpr
  split
  · exact zmat_pl hv hr (zpa_r hp (by omega) (by omega) (by decide)).1 (zpa_r hp (by omega) (by omega) (by decide)).1 (zpa_r hp (by omega) (by omega) (by decide)).1
  · exact zmat_pl hv hr (zwn_r _ _ _ _) (zwn_r _ _ _ _) (zwn_r _ _ _ _)
theorem zwn_0 {S : Int → Int} (hp : zPic S) {C : Int → Int} {i b : Int} (h0 : 0 ≤ i) (h1 : i < 64) (hb : 0 ≤ b ∧ b < 3) (hC : C (3 * i + b) = 0) : zwn S C i b = zpa S i b := by
  have := (zpa_r hp h0 h1 hb).1
  unfold zwn
  rw [hC]
  omega
section
variable {G : zG} {μ : zM} {S : Int → Int}
theorem kX7_cellCount {F : Int → zM → Prop} {s : Nat} (hs : zIsSt s) (h6 : zi μ s 6 = S 702) (h7 : zi μ s 7 = S 703) (h : F (S 702 * S 703) μ) : qX7_cellCount G s μ F := by
  refine eX7_cellCount fun J C => rX7_cellCount_e C hs ?_
  rw [h6, h7]; exact h
theorem kX11_cells {F : Int → zM → Prop} (hM : zMs μ S) (h : F (S 702 * S 703) μ) : qX11_cells G μ F := by
  refine eX11_cells fun J C => rX11_cells_e C ?_
  rw [hM 702 (by decide) (by decide), hM 703 (by decide) (by decide)]; exact h
/-- the cells, the palette of the class -/
theorem zXs_pic (hX : zXs μ 5 S) (hp : zPic S) : zi μ 5 6 = S 702 ∧ zi μ 5 7 = S 703 ∧ (∀ i, 0 ≤ i → i < S 702 * S 703 → zi μ 11 i = S (638 + i)) ∧ ∀ i b, 0 ≤ i → i < S 702 * S 703 → 0 ≤ b → b < 3 → zi μ 10 (S (638 + i) * 3 + b) = zpa S i b := by
  obtain ⟨x1, x2, x3, x4, x5, x6, x7, x8⟩ := hX
  have hn := zPic_n hp
  refine ⟨x6, x7, x8, fun i b i0 i1 b0 b1 => ?_⟩
  have := zpa_r hp i0 (by omega) (b := b) ⟨b0, b1⟩
  have e := x5 (3 * S (638 + i) + b) this.2.1 this.2.2
  rw [show S (638 + i) * 3 + b = 3 * S (638 + i) + b by omega]
  exact e
theorem kX5_firstOfLetter {F : Int → zM → Prop} (hX : zXs μ 5 S) (hp : zPic S) {i : Int} (h0 : 0 ≤ i) (h1 : i < S 702 * S 703) (h : ∀ j, 0 ≤ j → j ≤ i → (j < i → S (638 + j) = S (638 + i)) → F j μ) : qX5_firstOfLetter G 5 i μ F := by
  have hn := zPic_n hp
  obtain ⟨-, -, x8, -⟩ := zXs_pic hX hp
  refine eX5_firstOfLetter fun J C => rX5_firstOfLetter_e C zSt_5 _ ?_
  refine zfor (lo := 0) (hi := i) h0 (P := fun j => J 2 ([some (zR (some 5)), some (zI i), some (zI j)], [], μ, 0, 0)) ?_ ?_
  · exact rX5_firstOfLetter_2 C zSt_5 _ _ ⟨by constructor <;> omega, by constructor <;> omega, fun _ => h i h0 (Int.le_refl _) (fun z => absurd z (by omega)), fun z => absurd (Int.le_refl _) z⟩
  · intro j j0 j1 hj
    have r1 := hp.2.1 i h0 (by omega); have r2 := hp.2.1 j j0 (by omega)
    refine rX5_firstOfLetter_2 C zSt_5 _ _ ⟨by constructor <;> omega, by constructor <;> omega, fun z => absurd z (by omega), fun _ => ⟨by omega, by omega, ?_⟩⟩
    rw [x8 j j0 (by omega), x8 i h0 h1]
    exact ⟨by constructor <;> omega, by constructor <;> omega, fun _ => hj, fun z => h j j0 (by omega) (fun _ => z)⟩
theorem kX11_sameAhead {F : Int → zM → Prop} (hM : zMs μ S) (hp : zPic S) {i : Int} (h0 : 0 ≤ i) (h1 : i < 64) (hn : F (-1) μ) (h : ∀ j, 0 ≤ j → j < i → S (638 + j) = S (638 + i) → F j μ) : qX11_sameAhead G i μ F := by
  refine eX11_sameAhead fun J C => rX11_sameAhead_e C _ ?_
  refine zfor (lo := 0) (hi := i) h0 (P := fun j => J 2 ([some (zR (some 153)), some (zI i), some (zI j)], [], μ, 0, 0)) ?_ ?_
  · exact rX11_sameAhead_2 C _ _ ⟨by constructor <;> omega, by constructor <;> omega, fun _ => hn, fun z => absurd (Int.le_refl _) z⟩
  · intro j j0 j1 hj
    have r1 := hp.2.1 i h0 (by omega); have r2 := hp.2.1 j j0 (by omega)
    refine rX11_sameAhead_2 C _ _ ⟨by constructor <;> omega, by constructor <;> omega, fun z => absurd z (by omega), fun _ => ⟨by omega, by omega, ?_⟩⟩
    rw [hM (638 + j) (by omega) (by omega), hM (638 + i) (by omega) (by omega)]
    exact ⟨by constructor <;> omega, by constructor <;> omega, fun _ => hj, fun z => h j j0 j1 z⟩
theorem kX5_handOn {F : zM → Prop} (hX : zXs μ 5 S) (hc : zchis μ 105 S) (hr : zLr S) (hp : zPic S) {i : Nat} (hi : (i : Int) < S 702 * S 703) {C0 : Int → Int} (h131 : zi μ 131 i = zpmm S C0 i) (hpm : zPl (zpmm S C0 i)) (h133 : ∀ b, 0 ≤ b → b < 3 → zi μ 133 b = zwn S C0 i b) (h132 : ∀ x, 0 ≤ x → x < 192 → zi μ 132 x = C0 x) (h : ∀ μ', zsm (fun b _ => b = 132) μ μ' → (∀ x, 0 ≤ x → x < 192 → zi μ' 132 x = zcms S C0 i x) → F μ') : qX5_handOn G 5 105 i μ F := by
  have hn := zPic_n hp
  obtain ⟨⟨pw, ph⟩, -⟩ := id hp
  refine eX5_handOn fun J C => rX5_handOn_e C zSt_5 zCh_105 _ ?_
  refine znfor (N := 3) (P := fun b => ∀ μ', zsm (fun b _ => b = 132) μ μ' → (∀ x, 0 ≤ x → x < 192 → zi μ' 132 x = if x % 3 < b then zcms S C0 i x else C0 x) → J 3 ([some (zR (some 130)), some (zR (some 5)), some (zR (some 105)), some (zI (i : Int)), some (zI (b : Int)), none], [], μ', 0, 0)) ?_ ?_ μ (zsm.refl _ _) (fun x h0 h1 => by rw [if_neg (by omega)]; exact h132 x h0 h1)
  · intro μ1 g1 f1
    exact rX5_handOn_3 C zSt_5 zCh_105 _ _ ⟨by decide, fun _ => h μ1 g1 (fun x h0 h1 => by rw [f1 x h0 h1, if_pos (by omega)]), fun z => absurd (by decide) z⟩
  · intro b hb hj μ1 g1 f1
    have hX1 := hX.sm g1 (by omega)
    obtain ⟨w6, w7, -, -⟩ := zXs_pic hX1 hp
    have l := zlf1_r hr C0 i (b := b) ⟨by omega, by omega⟩
    have hW0 : 0 < S 702 := by
      by_cases c : 0 < S 702
      · exact c
      · have : S 702 = 0 := by omega
        rw [this] at hi; omega
    have hrt := zright (W := S 702) (H := S 703) ⟨hW0, pw.2⟩ ph ⟨by omega, hi⟩
    have eb : ∀ x : Int, x % 3 < ((b + 1 : Nat) : Int) ↔ x % 3 < b ∨ x % 3 = b := fun x => by omega
    have fin : ∀ μ2, zsm (fun b _ => b = 132) μ1 μ2 → (∀ x : Int, 0 ≤ x → x < 192 → x % 3 ≠ b → zi μ2 132 x = zi μ1 132 x) → (∀ x : Int, 0 ≤ x → x < 192 → x % 3 = b → zi μ2 132 x = zcms S C0 i x) → J 3 ([some (zR (some 130)), some (zR (some 5)), some (zR (some 105)), some (zI (i : Int)), some (zI ((b : Int) + 1)), none], [], μ2, 0, 0) := fun μ2 g2 k1 k2 => by
      refine hj μ2 (g1.trans g2) (fun x h0 h1 => ?_)
      by_cases c : x % 3 = b
      · rw [k2 x h0 h1 c, if_pos (by omega)]
      · rw [k1 x h0 h1 c, f1 x h0 h1]
        by_cases d : x % 3 < b
        · rw [if_pos d, if_pos (by omega)]
        · rw [if_neg d, if_neg (by omega)]
    have old : ∀ x : Int, 0 ≤ x → x < 192 → x % 3 = b → zi μ1 132 x = C0 x := fun x h0 h1 hx => by rw [f1 x h0 h1, if_neg (by omega)]
    -- below, from a memory in which the right cell is done
    have below : ∀ μ2, zsm (fun b _ => b = 132) μ1 μ2 → (∀ x : Int, 0 ≤ x → x < 192 → x % 3 ≠ b → zi μ2 132 x = zi μ1 132 x) → (∀ x : Int, 0 ≤ x → x < 192 → x % 3 = b → zi μ2 132 x = C0 x + (if (i : Int) % S 702 + 1 < S 702 ∧ x / 3 = (i : Int) + 1 then (zlf1 S C0 i b).tdiv 2 else 0)) → ∀ L, L = zlf1 S C0 i b → qX7_cellCount G 5 μ2 (fun v8 μ8 => zin ((i : Int) + S 702) ∧ zin v8 ∧ ((v8 ≤ (i : Int) + S 702 → J 3 ([some (zR (some 130)), some (zR (some 5)), some (zR (some 105)), some (zI (i : Int)), some (zI ((b : Int) + 1)), none], [], μ8, 0, 0)) ∧ (¬ (v8 ≤ (i : Int) + S 702) → (0 ≤ (((i : Int) + (zi μ8 5 6)) * 3) + b ∧ (((i : Int) + (zi μ8 5 6)) * 3) + b < 192) ∧ zin L ∧ J 3 ([some (zR (some 130)), some (zR (some 5)), some (zR (some 105)), some (zI (i : Int)), some (zI ((b : Int) + 1)), none], [], zup μ8 132 ((((i : Int) + (zi μ8 5 6)) * 3) + b) ((zi μ8 132 ((((i : Int) + (zi μ8 5 6)) * 3) + b)) + (L - L.tdiv 2)), 0, 0)))) := by
      intro μ2 g2 k1 k2 L hL
      subst hL
      have hX2 := hX1.sm g2 (by omega)
      obtain ⟨u6, u7, -, -⟩ := zXs_pic hX2 hp
      refine kX7_cellCount (S := S) zSt_5 u6 u7 ⟨by constructor <;> omega, by constructor <;> omega, fun z => ?_, fun z => ?_⟩
      · refine fin μ2 g2 k1 (fun x h0 h1 hx => ?_)
        rw [k2 x h0 h1 hx]
        unfold zcms
        rw [if_neg (show ¬ ((i : Int) + S 702 < S 702 * S 703 ∧ x / 3 = (i : Int) + S 702) from fun q => absurd q.1 (by omega)), hx, Int.add_zero]
      · rw [u6]
        refine ⟨by omega, by constructor <;> omega, fin _ (g2.up _ rfl) (fun x h0 h1 hx => ?_) (fun x h0 h1 hx => ?_)⟩
        · rw [zi_off (by omega)]; exact k1 x h0 h1 hx
        · unfold zcms
          rw [hx]
          by_cases c : x = ((i : Int) + S 702) * 3 + b
          · rw [c, zi_at, k2 _ (by omega) (by omega) (by omega), if_pos (show (i : Int) + S 702 < S 702 * S 703 ∧ (((i : Int) + S 702) * 3 + b) / 3 = (i : Int) + S 702 from ⟨by omega, by omega⟩)]
          · rw [zi_off (by omega), k2 x h0 h1 hx, if_neg (show ¬ ((i : Int) + S 702 < S 702 * S 703 ∧ x / 3 = (i : Int) + S 702) from fun q => c (by omega)), Int.add_zero]
    refine rX5_handOn_3 C zSt_5 zCh_105 _ _ ⟨by constructor <;> omega, fun z => absurd z (by omega), fun _ => ⟨by omega, by omega, ?_⟩⟩
    rw [show zi μ1 131 i = zpmm S C0 i by rw [g1.1 _ _ (by omega)]; exact h131, show zi μ1 133 b = zwn S C0 i b by rw [g1.1 _ _ (by omega)]; exact h133 b (by omega) (by omega)]
    refine kX0_number zCh_105 (hc.sm g1 (by omega)) hpm ⟨by omega, by omega⟩ ?_
    rw [w6]
    change zin (S 702) ∧ ((S 702 ≤ 0 → _) ∧ (¬ (S 702 ≤ 0) → _))
    refine ⟨by constructor <;> omega, fun z => absurd z (by omega), fun _ => ⟨by omega, by omega, by constructor <;> omega, fun z => ?_, fun z => ⟨by omega, by constructor <;> (show _ ; unfold zlf1 at l; omega), ?_⟩⟩⟩
    · exact below μ1 (zsm.refl _ _) (fun _ _ _ _ => rfl) (fun x h0 h1 hx => by rw [old x h0 h1 hx, if_neg (show ¬ ((i : Int) % S 702 + 1 < S 702 ∧ x / 3 = (i : Int) + 1) from fun q => absurd q.1 (by omega)), Int.add_zero]) _ rfl
    · have e6 : zi (zup μ1 132 (((i : Int) + 1) * 3 + b) (zi μ1 132 (((i : Int) + 1) * 3 + b) + (zwn S C0 i b - zC S (zpmm S C0 i) b).tdiv 2)) 5 6 = S 702 := by rw [zi_off (by omega)]; exact w6
      rw [e6]
      refine below _ ((zsm.refl _ _).up _ rfl) (fun x h0 h1 hx => zi_off (by omega)) (fun x h0 h1 hx => ?_) _ rfl
      by_cases c : x = ((i : Int) + 1) * 3 + b
      · rw [c, zi_at, old _ (by omega) (by omega) (by omega), if_pos (show (i : Int) % S 702 + 1 < S 702 ∧ (((i : Int) + 1) * 3 + b) / 3 = (i : Int) + 1 from ⟨by omega, by omega⟩)]
        rfl
      · rw [zi_off (by omega), old x h0 h1 hx, if_neg (show ¬ ((i : Int) % S 702 + 1 < S 702 ∧ x / 3 = (i : Int) + 1) from fun q => c (by omega)), Int.add_zero]
theorem kX5_print {F : zM → Prop} (hX : zXs μ 5 S) (hc : zchis μ 105 S) (hO : zmop μ S) (hr : zLr S) (hv : zSet S) (hp : zPic S) {how : Int} (hh : how = 0 ∨ how = 1) {n : Nat} (hn : (n : Int) ≤ S 702 * S 703) (h : ∀ μ', zsm (fun b j => b = 127 ∨ (b = 125 ∧ 5 ≤ j) ∨ (131 ≤ b ∧ b ≤ 133)) μ μ' → (∀ i : Nat, i < n → zi μ' 131 i = zpr S how i) → F μ') : qX5_print G 5 105 how n μ F := by
  have hN := zPic_n hp
  have zk132 : ∀ μ' : zM, zok true μ' 132 (40, 192) := fun μ' => zk_132 μ'
  refine eX5_print fun J C => rX5_print_e C zSt_5 zCh_105 _ _ (kJ7_fill zk132 (by decide) fun μ1 g1 f1 => ?_)
  refine znfor (N := n) (P := fun i => ∀ μ', zsm (fun b j => b = 127 ∨ (b = 125 ∧ 5 ≤ j) ∨ (131 ≤ b ∧ b ≤ 133)) μ μ' → (∀ j : Nat, j < i → zi μ' 131 j = zpr S how j) → (∀ x, 0 ≤ x → x < 192 → zi μ' 132 x = if how = 0 then 0 else zcm S i x) → J 11 ([some (zR (some 130)), some (zR (some 5)), some (zR (some 105)), some (zR (some 125)), some (zI how), some (zI (n : Int)), some (zI (i : Int)), none, none, none], [], μ', 0, 0)) ?_ ?_ μ1 (g1.mono (fun b j => by omega)) (fun j hj => absurd hj (Nat.not_lt_zero _)) (fun x h0 h1 => by rw [f1 x h0 (by omega)]; split <;> rfl)
  · intro μ2 g2 f2 f3
    exact rX5_print_11 C zSt_5 zCh_105 _ _ _ ⟨by constructor <;> omega, by constructor <;> omega, fun _ => h μ2 g2 f2, fun z => absurd (Int.le_refl _) z⟩
  · intro i hi hj μ2 g2 f2 f3
    have hX2 := hX.sm g2 (by omega)
    have i64 : (i : Int) < 64 := by omega
    obtain ⟨-, -, x8, x5⟩ := zXs_pic hX2 hp
    have own : J 58 ([some (zR (some 130)), some (zR (some 5)), some (zR (some 105)), some (zR (some 125)), some (zI how), some (zI (n : Int)), some (zI (i : Int)), none, some (zI 0), none], [], μ2, 0, 0) := by
      obtain ⟨C0, hC0⟩ : ∃ C0 : Int → Int, C0 = fun x => if how = 0 then 0 else zcm S i x := ⟨_, rfl⟩
      have f3 : ∀ x, 0 ≤ x → x < 192 → zi μ2 132 x = C0 x := fun x h0 h1 => by rw [hC0]; exact f3 x h0 h1
      have cr : ∀ x, 0 ≤ x → -52000 ≤ C0 x ∧ C0 x ≤ 52000 := fun x hx => by
        have := zcm_r hr i x hx
        rw [hC0]
        simp only
        split <;> omega
      have ez : zpmm S C0 i = zpr S how i := by
        unfold zpr
        rcases hh with e | e
        · rw [if_pos e]
          have z : ∀ x, C0 x = 0 := fun x => by rw [hC0]; exact if_pos e
          unfold zpmm zpr0
          rw [zwn_0 hp (by omega) i64 (by decide) (z _), zwn_0 hp (by omega) i64 (by decide) (z _), zwn_0 hp (by omega) i64 (by decide) (z _)]
        · rw [if_neg (by omega)]
          have z : C0 = zcm S i := by rw [hC0]; funext x; exact if_neg (by omega)
          rw [z]
      have hpl : zPl (zpmm S C0 i) := by rw [ez]; exact zpr_pl hv hr hp (by omega)
      refine znfor (N := 3) (P := fun b => ∀ μ', zsm (fun b _ => b = 133) μ2 μ' → (∀ b' : Int, 0 ≤ b' → b' < b → zi μ' 133 b' = zwn S C0 i b') → J 58 ([some (zR (some 130)), some (zR (some 5)), some (zR (some 105)), some (zR (some 125)), some (zI how), some (zI (n : Int)), some (zI (i : Int)), none, some (zI (b : Int)), none], [], μ', 0, 0)) ?_ ?_ μ2 (zsm.refl _ _) (fun b h0 h1 => absurd h0 (by omega))
      · intro μ3 g3 w3
        have gg := g2.trans (g3.mono (Q := fun b j => b = 127 ∨ (b = 125 ∧ 5 ≤ j) ∨ (131 ≤ b ∧ b ≤ 133)) (fun b j => by omega))
        refine rX5_print_58 C zSt_5 zCh_105 _ _ _ _ ⟨by decide, fun _ => ?_, fun z => absurd (by decide) z⟩
        rw [w3 0 (by decide) (by decide), w3 1 (by decide) (by decide), w3 2 (by decide) (by decide)]
        refine kX4_find zCh_105 zSt_5 (by decide) (by decide) (hc.sm gg (by omega)) (hX.sm gg (by omega)).set (hO.sm gg (by omega) (by omega)) hv hr (zwn_r _ _ _ _) (zwn_r _ _ _ _) (zwn_r _ _ _ _) fun μ4 g4 _ _ _ _ => ⟨by omega, by omega, ?_⟩
        change (how = 0 → J 11 (_, _, zup μ4 131 i (zpmm S C0 i), 0, 0)) ∧ (¬ how = 0 → qX5_handOn G 5 105 i (zup μ4 131 i (zpmm S C0 i)) _)
        have g5 : zsm (fun b j => b = 127 ∨ (b = 125 ∧ 5 ≤ j) ∨ (131 ≤ b ∧ b ≤ 133)) μ (zup μ4 131 i (zpmm S C0 i)) := (gg.trans (g4.mono (fun b j => by omega))).up _ (by omega)
        have g6 : zsm (fun b j => b = 127 ∨ (b = 125 ∧ 5 ≤ j) ∨ b = 131 ∨ b = 133) μ2 (zup μ4 131 i (zpmm S C0 i)) := ((g3.mono (fun b j => by omega)).trans (g4.mono (fun b j => by omega))).up _ (by omega)
        have k131 : ∀ j : Nat, j < i + 1 → zi (zup μ4 131 i (zpmm S C0 i)) 131 j = zpr S how j := fun j hj => by
          by_cases c : j = i
          · subst c; rw [zi_at]; exact ez
          · rw [zi_off (by omega), g4.1 _ _ (by omega), g3.1 _ _ (by omega)]; exact f2 j (by omega)
        have k133 : ∀ b, 0 ≤ b → b < 3 → zi (zup μ4 131 i (zpmm S C0 i)) 133 b = zwn S C0 i b := fun b h0 h1 => by rw [zi_off (by omega), g4.1 _ _ (by omega)]; exact w3 b h0 h1
        have k132 : ∀ x, 0 ≤ x → x < 192 → zi (zup μ4 131 i (zpmm S C0 i)) 132 x = C0 x := fun x h0 h1 => by rw [g6.1 _ _ (by omega)]; exact f3 x h0 h1
        have a131 : zi (zup μ4 131 i (zpmm S C0 i)) 131 i = zpmm S C0 i := zi_at
        have hX5 := hX.sm g5 (by omega)
        have hc5 := hc.sm g5 (by omega)
        generalize zup μ4 131 i (zpmm S C0 i) = μ5 at *
        refine ⟨fun z => hj μ5 g5 k131 (fun x h0 h1 => by rw [k132 x h0 h1, if_pos z, hC0]; exact if_pos z), fun z => kX5_handOn hX5 hc5 hr hp (by omega) a131 hpl k133 k132 fun μ6 g6 c6 => ?_⟩
        refine hj μ6 (g5.trans (g6.mono (fun b j => by omega))) (fun j hj => by rw [g6.1 _ _ (by omega)]; exact k131 j hj) (fun x h0 h1 => ?_)
        rw [c6 x h0 h1, if_neg z]
        have e : C0 = zcm S i := by rw [hC0]; funext x; exact if_neg z
        rw [e]; rfl
      · intro b hb hj2 μ3 g3 w3
        have hX3 := hX2.sm g3 (by omega)
        obtain ⟨-, -, y8, y5⟩ := zXs_pic hX3 hp
        have pr := zpa_r hp (i := i) (b := b) (by omega) i64 ⟨by omega, by omega⟩
        have c1 := cr (3 * i + b) (by omega)
        refine rX5_print_58 C zSt_5 zCh_105 _ _ _ _ ⟨by constructor <;> omega, fun z => absurd z (by omega), fun _ => ⟨by omega, ?_⟩⟩
        rw [y8 i (by omega) (by omega), y5 i b (by omega) (by omega) (by omega) (by omega), show zi μ3 132 ((i : Int) * 3 + b) = C0 (3 * i + b) by rw [g3.1 _ _ (by omega), show (i : Int) * 3 + b = 3 * i + b by omega]; exact f3 _ (by omega) (by omega)]
        refine ⟨by omega, by omega, kX10_put (by constructor <;> omega) (by decide) ⟨by omega, hj2 _ (g3.up _ rfl) (fun b' h0 h1 => ?_)⟩⟩
        by_cases c : b' = b
        · rw [c, zi_at]; rfl
        · rw [zi_off (by omega)]; exact w3 b' h0 (by omega)
    refine rX5_print_11 C zSt_5 zCh_105 _ _ _ ⟨by constructor <;> omega, by constructor <;> omega, fun z => absurd z (by omega), fun _ => kX5_firstOfLetter hX2 hp (by omega) (by omega) fun j j0 j1 j2 => ⟨by omega, fun _ => own, fun hz => ⟨by constructor <;> omega, fun _ => own, fun hlt => ⟨by omega, by omega, ?_⟩⟩⟩⟩
    obtain ⟨k, rfl⟩ : ∃ k : Nat, (k : Int) = j := ⟨j.toNat, by omega⟩
    have hk : k < i := by omega
    rw [f2 k hk]
    have es : zpr S how k = zpr S how i := by
      unfold zpr
      rw [if_pos hz, if_pos hz]
      unfold zpr0 zpa
      rw [j2 (by omega)]
    refine hj _ (g2.up _ (by omega)) (fun m hm => ?_) (fun x h0 h1 => by rw [zi_off (by omega), f3 x h0 h1, if_pos hz, if_pos hz])
    by_cases c : m = i
    · subst c; rw [zi_at]; exact es
    · rw [zi_off (by omega)]; exact f2 m (by omega)
theorem kX11_layPress {F : zM → Prop} (hM : zMs μ S) (hcd : zcds μ) (hl : zlaid μ S) (hr : zLr S) (hv : zSet S) (hp : zPic S) {how : Int} (hh : how = 0 ∨ how = 1) (h : ∀ μ', zsm (fun b j => b = 165 ∨ (b = 153 ∧ 20 ≤ j ∧ j ≤ 23) ∨ b = 166 ∨ b = 171 ∨ b = 172) μ μ' → (∀ i : Nat, (i : Int) < S 702 * S 703 → zi μ' 171 i = zcd (zpr S how i)) → F μ') : qX11_layPress G how μ F := by
  have hN := zPic_n hp
  obtain ⟨⟨pw, ph⟩, -⟩ := id hp
  refine eX11_layPress fun J C => rX11_layPress_e C _ ?_
  rw [hM 702 (by decide) (by decide)]
  refine znfor (N := 192) (P := fun k => ∀ μ', zsm (fun b j => b = 165 ∨ (b = 153 ∧ 20 ≤ j ∧ j ≤ 23) ∨ b = 166 ∨ b = 171 ∨ b = 172) μ μ' → (∀ x : Int, 0 ≤ x → x < k → zi μ' 172 x = 0) → J 11 ([some (zR (some 153)), some (zI how), some (zI (S 702)), some (zI (k : Int)), none, none, none, none], [], μ', 0, 0)) ?_ ?_ μ (zsm.refl _ _) (fun x h0 h1 => absurd h0 (by omega))
  · intro μ1 g1 f1
    refine rX11_layPress_11 C _ _ _ ⟨by decide, fun _ => ?_, fun z => absurd (by decide) z⟩
    obtain ⟨n, hn⟩ : ∃ n : Nat, (n : Int) = S 702 * S 703 := ⟨(S 702 * S 703).toNat, by omega⟩
    refine znfor (N := n) (P := fun i => ∀ μ', zsm (fun b j => b = 165 ∨ (b = 153 ∧ 20 ≤ j ∧ j ≤ 23) ∨ b = 166 ∨ b = 171 ∨ b = 172) μ μ' → (∀ j : Nat, j < i → zi μ' 171 j = zcd (zpr S how j)) → (∀ x, 0 ≤ x → x < 192 → zi μ' 172 x = if how = 0 then 0 else zcm S i x) → J 35 ([some (zR (some 153)), some (zI how), some (zI (S 702)), some (zI (i : Int)), none, none, none, none], [], μ', 0, 0)) ?_ ?_ μ1 g1 (fun j hj => absurd hj (Nat.not_lt_zero _)) (fun x h0 h1 => by rw [f1 x h0 (by omega)]; split <;> rfl)
    · intro μ2 g2 f2 f3
      have hM2 := hM.sm g2 (by omega)
      exact rX11_layPress_35 C _ _ _ (kX11_cells hM2 ⟨by constructor <;> omega, by constructor <;> omega, fun _ => h μ2 g2 (fun i hi => f2 i (by omega)), fun z => absurd (by omega) z⟩)
    · intro i hi hj μ2 g2 f2 f3
      have hM2 := hM.sm g2 (by omega)
      have i64 : (i : Int) < 64 := by omega
      have hcell := hp.2.1 i (by omega) i64
      obtain ⟨C0, hC0⟩ : ∃ C0 : Int → Int, C0 = fun x => if how = 0 then 0 else zcm S i x := ⟨_, rfl⟩
      have f3 : ∀ x, 0 ≤ x → x < 192 → zi μ2 172 x = C0 x := fun x h0 h1 => by rw [hC0]; exact f3 x h0 h1
      have cr : ∀ x, 0 ≤ x → -52000 ≤ C0 x ∧ C0 x ≤ 52000 := fun x hx => by
        have := zcm_r hr i x hx
        rw [hC0]
        simp only
        split <;> omega
      have ez : zpmm S C0 i = zpr S how i := by
        unfold zpr
        rcases hh with e | e
        · rw [if_pos e]
          have z : ∀ x, C0 x = 0 := fun x => by rw [hC0]; exact if_pos e
          unfold zpmm zpr0
          rw [zwn_0 hp (by omega) i64 (by decide) (z _), zwn_0 hp (by omega) i64 (by decide) (z _), zwn_0 hp (by omega) i64 (by decide) (z _)]
        · rw [if_neg (by omega)]
          have z : C0 = zcm S i := by rw [hC0]; funext x; exact if_neg (by omega)
          rw [z]
      have hpl : zPl (zpmm S C0 i) := by rw [ez]; exact zpr_pl hv hr hp (by omega)
      have hW0 : 0 < S 702 := by
        by_cases c : 0 < S 702
        · exact c
        · have : S 702 = 0 := by omega
          rw [this] at hn; omega
      have hrt := zright (W := S 702) (H := S 703) ⟨hW0, pw.2⟩ ph (i := i) ⟨by omega, by omega⟩
      refine rX11_layPress_35 C _ _ _ (kX11_cells hM2 ⟨by constructor <;> omega, by constructor <;> omega, fun z => absurd z (by omega), fun _ => ⟨by omega, ?_⟩⟩)
      rw [hM2 (638 + i) (by omega) (by omega)]
      refine znfor (N := 3) (P := fun b => ∀ μ', zsm (fun b _ => b = 166) μ2 μ' → (∀ b' : Int, 0 ≤ b' → b' < b → zi μ' 166 b' = zwn S C0 i b') → J 64 ([some (zR (some 153)), some (zI how), some (zI (S 702)), some (zI (i : Int)), some (zI (614 + 3 * S (638 + i))), some (zI (b : Int)), none, none], [], μ', 0, 0)) ?_ ?_ μ2 (zsm.refl _ _) (fun b h0 h1 => absurd h0 (by omega))
      · intro μ3 g3 w3
        have gg := g2.trans (g3.mono (Q := fun b j => b = 165 ∨ (b = 153 ∧ 20 ≤ j ∧ j ≤ 23) ∨ b = 166 ∨ b = 171 ∨ b = 172) (fun b j => by omega))
        have hM3 := hM.sm gg (by omega)
        -- the cell is told; hand on where it is asked
        have put : ∀ μ4, zsm (fun b j => b = 165 ∨ (b = 153 ∧ 20 ≤ j ∧ j ≤ 23)) μ3 μ4 → (how = 0 → J 35 ([some (zR (some 153)), some (zI how), some (zI (S 702)), some (zI ((i : Int) + 1)), none, none, none, none], [], zup μ4 171 i (zcd (zpr S how i)), 0, 0)) ∧ (¬ how = 0 → J 177 ([some (zR (some 153)), some (zI how), some (zI (S 702)), some (zI (i : Int)), none, none, some (zI 0), none], [], zup μ4 171 i (zcd (zpr S how i)), 0, 0)) := by
          intro μ4 g4
          have g5 : zsm (fun b j => b = 165 ∨ (b = 153 ∧ 20 ≤ j ∧ j ≤ 23) ∨ b = 166 ∨ b = 171 ∨ b = 172) μ (zup μ4 171 i (zcd (zpr S how i))) := (gg.trans (g4.mono (fun b j => by omega))).up _ (by omega)
          have g6 : zsm (fun b j => b = 165 ∨ (b = 153 ∧ 20 ≤ j ∧ j ≤ 23) ∨ b = 171 ∨ b = 166) μ2 (zup μ4 171 i (zcd (zpr S how i))) := ((g3.mono (fun b j => by omega)).trans (g4.mono (fun b j => by omega))).up _ (by omega)
          have k171 : ∀ j : Nat, j < i + 1 → zi (zup μ4 171 i (zcd (zpr S how i))) 171 j = zcd (zpr S how j) := fun j hj => by
            by_cases c : j = i
            · subst c; exact zi_at
            · rw [zi_off (by omega), g4.1 _ _ (by omega), g3.1 _ _ (by omega)]; exact f2 j (by omega)
          have k166 : ∀ b, 0 ≤ b → b < 3 → zi (zup μ4 171 i (zcd (zpr S how i))) 166 b = zwn S C0 i b := fun b h0 h1 => by rw [zi_off (by omega), g4.1 _ _ (by omega)]; exact w3 b h0 h1
          have k172 : ∀ x, 0 ≤ x → x < 192 → zi (zup μ4 171 i (zcd (zpr S how i))) 172 x = C0 x := fun x h0 h1 => by rw [g6.1 _ _ (by omega)]; exact f3 x h0 h1
          have hM5 := hM.sm g5 (by omega)
          have hC5 : ∀ p b, zPl p → 0 ≤ b → b < 3 → zi (zup μ4 171 i (zcd (zpr S how i))) 159 (3 * p + b) = zC S p b := fun p b hp q0 q1 => by rw [g5.1 _ _ (by omega)]; exact hl.2.1 p b hp q0 q1
          generalize zup μ4 171 i (zcd (zpr S how i)) = μ5 at *
          refine ⟨fun z => hj μ5 g5 k171 (fun x h0 h1 => by rw [k172 x h0 h1, if_pos z, hC0]; exact if_pos z), fun z => ?_⟩
          have eC : C0 = zcm S i := by rw [hC0]; funext x; exact if_neg z
          refine znfor (N := 3) (P := fun b => ∀ μ', zsm (fun b _ => b = 172) μ5 μ' → (∀ x, 0 ≤ x → x < 192 → zi μ' 172 x = if x % 3 < b then zcms S C0 i x else C0 x) → J 177 ([some (zR (some 153)), some (zI how), some (zI (S 702)), some (zI (i : Int)), none, none, some (zI (b : Int)), none], [], μ', 0, 0)) ?_ ?_ μ5 (zsm.refl _ _) (fun x h0 h1 => by rw [if_neg (by omega)]; exact k172 x h0 h1)
          · intro μ6 g6 c6
            refine rX11_layPress_177 C _ _ _ _ ⟨by decide, fun _ => hj μ6 (g5.trans (g6.mono (fun b j => by omega))) (fun j hj => by rw [g6.1 _ _ (by omega)]; exact k171 j hj) (fun x h0 h1 => ?_), fun z => absurd (by decide) z⟩
            rw [c6 x h0 h1, if_pos (by omega), if_neg z, eC]; rfl
          · intro b hb hj3 μ6 g6 c6
            have hM6 := hM5.sm g6 (by omega)
            have l := zlf1_r hr C0 i (b := b) ⟨by omega, by omega⟩
            obtain ⟨q0, q1⟩ := id hpl
            have fin : ∀ μ7, zsm (fun b _ => b = 172) μ6 μ7 → (∀ x : Int, 0 ≤ x → x < 192 → x % 3 ≠ b → zi μ7 172 x = zi μ6 172 x) → (∀ x : Int, 0 ≤ x → x < 192 → x % 3 = b → zi μ7 172 x = zcms S C0 i x) → J 177 ([some (zR (some 153)), some (zI how), some (zI (S 702)), some (zI (i : Int)), none, none, some (zI ((b : Int) + 1)), none], [], μ7, 0, 0) := fun μ7 g7 m1 m2 => by
              refine hj3 μ7 (g6.trans g7) (fun x h0 h1 => ?_)
              by_cases c : x % 3 = b
              · rw [m2 x h0 h1 c, if_pos (by omega)]
              · rw [m1 x h0 h1 c, c6 x h0 h1]
                by_cases d : x % 3 < b
                · rw [if_pos d, if_pos (by omega)]
                · rw [if_neg d, if_neg (by omega)]
            have old : ∀ x : Int, 0 ≤ x → x < 192 → x % 3 = b → zi μ6 172 x = C0 x := fun x h0 h1 hx => by rw [c6 x h0 h1, if_neg (by omega)]
            have below : ∀ μ7, zsm (fun b _ => b = 172) μ6 μ7 → (∀ x : Int, 0 ≤ x → x < 192 → x % 3 ≠ b → zi μ7 172 x = zi μ6 172 x) → (∀ x : Int, 0 ≤ x → x < 192 → x % 3 = b → zi μ7 172 x = C0 x + (if (i : Int) % S 702 + 1 < S 702 ∧ x / 3 = (i : Int) + 1 then (zlf1 S C0 i b).tdiv 2 else 0)) → ∀ L, L = zlf1 S C0 i b → qX11_cells G μ7 (fun v10 μ10 => zin ((i : Int) + S 702) ∧ zin v10 ∧ ((v10 ≤ (i : Int) + S 702 → J 177 ([some (zR (some 153)), some (zI how), some (zI (S 702)), some (zI (i : Int)), none, none, some (zI ((b : Int) + 1)), none], [], μ10, 0, 0)) ∧ (¬ (v10 ≤ (i : Int) + S 702) → (0 ≤ (3 * ((i : Int) + S 702)) + b ∧ (3 * ((i : Int) + S 702)) + b < 192) ∧ zin L ∧ J 177 ([some (zR (some 153)), some (zI how), some (zI (S 702)), some (zI (i : Int)), none, none, some (zI ((b : Int) + 1)), none], [], zup μ10 172 ((3 * ((i : Int) + S 702)) + b) ((zi μ10 172 ((3 * ((i : Int) + S 702)) + b)) + (L - L.tdiv 2)), 0, 0)))) := by
              intro μ7 g7 m1 m2 L hL
              subst hL
              refine kX11_cells (hM6.sm g7 (by omega)) ⟨by constructor <;> omega, by constructor <;> omega, fun z => ?_, fun z => ⟨by omega, by constructor <;> omega, fin _ (g7.up _ rfl) (fun x h0 h1 hx => ?_) (fun x h0 h1 hx => ?_)⟩⟩
              · refine fin μ7 g7 m1 (fun x h0 h1 hx => ?_)
                rw [m2 x h0 h1 hx]
                unfold zcms
                rw [if_neg (show ¬ ((i : Int) + S 702 < S 702 * S 703 ∧ x / 3 = (i : Int) + S 702) from fun q => absurd q.1 (by omega)), hx, Int.add_zero]
              · rw [zi_off (by omega)]; exact m1 x h0 h1 hx
              · unfold zcms
                rw [hx]
                by_cases c : x = 3 * ((i : Int) + S 702) + b
                · rw [c, zi_at, m2 _ (by omega) (by omega) (by omega), if_pos (show (i : Int) + S 702 < S 702 * S 703 ∧ (3 * ((i : Int) + S 702) + b) / 3 = (i : Int) + S 702 from ⟨by omega, by omega⟩)]
                · rw [zi_off (by omega), m2 x h0 h1 hx, if_neg (show ¬ ((i : Int) + S 702 < S 702 * S 703 ∧ x / 3 = (i : Int) + S 702) from fun q => c (by omega)), Int.add_zero]
            refine rX11_layPress_177 C _ _ _ _ ⟨by constructor <;> omega, fun z => absurd z (by omega), fun _ => ⟨by omega, by omega, ?_⟩⟩
            rw [show zi μ6 171 i = zcd (zpmm S C0 i) by rw [g6.1 _ _ (by omega), k171 i (by omega), ez]]
            refine kX11_numberOf hpl ?_
            rw [show zi μ6 166 b = zwn S C0 i b by rw [g6.1 _ _ (by omega)]; exact k166 b (by omega) (by omega), show zi μ6 159 (3 * zpmm S C0 i + b) = zC S (zpmm S C0 i) b by rw [g6.1 _ _ (by omega)]; exact hC5 _ _ hpl (by omega) (by omega)]
            refine ⟨by omega, by omega, by omega, by constructor <;> omega, by constructor <;> omega, fun z => ?_, fun z => ⟨by omega, by constructor <;> (show _ ; unfold zlf1 at l; omega), ?_⟩⟩
            · exact below μ6 (zsm.refl _ _) (fun _ _ _ _ => rfl) (fun x h0 h1 hx => by rw [old x h0 h1 hx, if_neg (show ¬ ((i : Int) % S 702 + 1 < S 702 ∧ x / 3 = (i : Int) + 1) from fun q => absurd q.1 (by omega)), Int.add_zero]) _ rfl
            · refine below _ ((zsm.refl _ _).up _ rfl) (fun x h0 h1 hx => zi_off (by omega)) (fun x h0 h1 hx => ?_) _ rfl
              by_cases c : x = 3 * ((i : Int) + 1) + b
              · rw [c, zi_at, old _ (by omega) (by omega) (by omega), if_pos (show (i : Int) % S 702 + 1 < S 702 ∧ (3 * ((i : Int) + 1) + b) / 3 = (i : Int) + 1 from ⟨by omega, by omega⟩)]
                rfl
              · rw [zi_off (by omega), old x h0 h1 hx, if_neg (show ¬ ((i : Int) % S 702 + 1 < S 702 ∧ x / 3 = (i : Int) + 1) from fun q => c (by omega)), Int.add_zero]
        have own : J 121 ([some (zR (some 153)), some (zI how), some (zI (S 702)), some (zI (i : Int)), none, none, none, none], [zI (-1)], μ3, 0, 0) := by
          refine rX11_layPress_121 C _ _ _ _ ⟨by decide, fun z => absurd rfl z, fun _ => ?_⟩
          rw [w3 0 (by decide) (by decide), w3 1 (by decide) (by decide), w3 2 (by decide) (by decide)]
          refine kX11_matchOf (hcd.sm gg (by omega)) hM3.set (hl.sm gg (by omega) (by omega) (by omega) (by omega)) hv hr (zwn_r _ _ _ _) (zwn_r _ _ _ _) (zwn_r _ _ _ _) fun μ4 g4 _ _ _ _ => ⟨by omega, by omega, ?_⟩
          change (¬ how = 0 → J 177 (_, _, zup μ4 171 i (zcd (zpmm S C0 i)), 0, 0)) ∧ (how = 0 → J 35 (_, _, zup μ4 171 i (zcd (zpmm S C0 i)), 0, 0))
          rw [ez]
          have := put μ4 g4
          exact ⟨this.2, this.1⟩
        refine rX11_layPress_64 C _ _ _ _ _ ⟨by decide, fun _ => ⟨by omega, fun _ => own, fun hz => kX11_sameAhead hM3 hp (by omega) i64 own fun j j0 j1 j2 => ?_⟩, fun z => absurd (by decide) z⟩
        obtain ⟨k, rfl⟩ : ∃ k : Nat, (k : Int) = j := ⟨j.toNat, by omega⟩
        have es : zpr S how k = zpr S how i := by
          unfold zpr
          rw [if_pos hz, if_pos hz]
          unfold zpr0 zpa
          rw [j2]
        refine rX11_layPress_121 C _ _ _ _ ⟨by constructor <;> omega, fun _ => ⟨by omega, by omega, by omega, ?_⟩, fun z => absurd z (by omega)⟩
        rw [show zi μ3 171 k = zcd (zpr S how i) by rw [g3.1 _ _ (by omega), f2 k (by omega), es]]
        have := put μ3 (zsm.refl _ _)
        exact ⟨this.2, this.1⟩
      · intro b hb hj2 μ3 g3 w3
        have pr := zpa_r hp (i := i) (b := b) (by omega) i64 ⟨by omega, by omega⟩
        have c1 := cr (3 * i + b) (by omega)
        have hM3 := hM2.sm g3 (by omega)
        refine rX11_layPress_64 C _ _ _ _ _ ⟨by constructor <;> omega, fun z => absurd z (by omega), fun _ => ⟨by omega, by omega, ?_⟩⟩
        rw [hM3 (614 + 3 * S (638 + i) + b) (by omega) (by omega), show S (614 + 3 * S (638 + i) + b) = zpa S i b by unfold zpa; congr 1; omega, show zi μ3 172 (3 * (i : Int) + b) = C0 (3 * i + b) by rw [g3.1 _ _ (by omega)]; exact f3 _ (by omega) (by omega)]
        refine kX11_within (by constructor <;> omega) ⟨by omega, hj2 _ (g3.up _ rfl) (fun b' h0 h1 => ?_)⟩
        by_cases c : b' = b
        · rw [c, zi_at]; unfold zwn; rw [Int.min_comm]
        · rw [zi_off (by omega)]; exact w3 b' h0 (by omega)
  · intro k hk hj μ1 g1 f1
    refine rX11_layPress_11 C _ _ _ ⟨by constructor <;> omega, fun z => absurd z (by omega), fun _ => ⟨by omega, hj _ (g1.up _ (by omega)) (fun x h0 h1 => ?_)⟩⟩
    by_cases c : x = k
    · subst c; exact zi_at
    · rw [zi_off (by omega)]; exact f1 x h0 (by omega)
end
