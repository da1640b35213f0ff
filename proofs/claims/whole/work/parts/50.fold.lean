/-! folds -/
def zfx (r q b x t : Int) : Int := zfold x ((r + q + b) / 3) t
noncomputable def zfl (S : Int → Int) (r q b t : Int) : Int := zlst S (zfx r q b r t) (zfx r q b q t) (zfx r q b b t)
/-- the best fold of the first n -/
noncomputable def zfb (S : Int → Int) (r q b : Int) : Nat → Nat
  | 0 => 0
  | n + 1 => if n = 0 ∨ zfl S r q b n < zfl S r q b (zfb S r q b n : Nat) then n else zfb S r q b n
/-- what fold is found from t on, with k more -/
noncomputable def zfR (S : Int → Int) (r q b : Int) : Nat → Nat → Nat
  | 0, _ => zfb S r q b 9
  | k + 1, t => if zfl S r q b t ≤ S 706 then t else zfR S r q b k (t + 1)
noncomputable def zfo (S : Int → Int) (r q b : Int) : Nat := zfR S r q b 9 0
theorem zfx_r {r q b x : Int} (h1 : zw4 r) (h2 : zw4 q) (h3 : zw4 b) (hx : zw4 x) {t : Int} (ht : 0 ≤ t ∧ t ≤ 8) : zw4 (zfx r q b x t) := zfold_r hx (by omega) ht
theorem zfl_r {S : Int → Int} (hs : zSet S) (hr : zLr S) {r q b : Int} (h1 : zw4 r) (h2 : zw4 q) (h3 : zw4 b) {t : Int} (ht : 0 ≤ t ∧ t ≤ 8) : 0 ≤ zfl S r q b t ∧ zfl S r q b t ≤ 4320000 := by
  obtain ⟨a, c, -⟩ := zlst_r hs hr (zfx_r h1 h2 h3 h1 ht) (zfx_r h1 h2 h3 h2 ht) (zfx_r h1 h2 h3 h3 ht)
  exact ⟨a, c⟩
theorem zfb_r (S : Int → Int) (r q b : Int) : ∀ n : Nat, zfb S r q b n ≤ n ∧ (0 < n → zfb S r q b n < n)
  | 0 => ⟨Nat.le_refl _, fun h => absurd h (by omega)⟩
  | n + 1 => by
    have := zfb_r S r q b n
    unfold zfb
    split <;> omega
theorem zfR_r (S : Int → Int) (r q b : Int) : ∀ k t : Nat, k + t = 9 → zfR S r q b k t ≤ 8
  | 0, t, _ => by have := (zfb_r S r q b 9).2 (by decide); unfold zfR; omega
  | k + 1, t, h => by
    have := zfR_r S r q b k (t + 1) (by omega)
    unfold zfR
    split <;> omega
theorem zfo_r (S : Int → Int) (r q b : Int) : zfo S r q b ≤ 8 := zfR_r S r q b 9 0 rfl
theorem zfR_s {S : Int → Int} {r q b : Int} {n : Nat} (hn : n < 9) : zfR S r q b (9 - n) n = if zfl S r q b n ≤ S 706 then n else zfR S r q b (9 - (n + 1)) (n + 1) := by
  rw [show 9 - n = (9 - (n + 1)) + 1 by omega, zfR]
section
variable {G : zG} {μ : zM} {S : Int → Int}
theorem kX10_leastFolded {F : Int → zM → Prop} (hc : zchis μ 105 S) (hX : zsX μ 5 S) (hO : zmop μ S) (hv : zSet S) (hr : zLr S) {r q b t : Int} (h1 : zw4 r) (h2 : zw4 q) (h3 : zw4 b) (ht : 0 ≤ t ∧ t ≤ 8) (h : ∀ μ', zsm (fun b _ => b = 127) μ μ' → F (zfl S r q b t) μ') : qX10_leastFolded G r q b t μ F := by
  refine eX10_leastFolded fun J C => rX10_leastFolded_e C _ _ _ _ ⟨by omega, kX10_folded (by omega) (by omega) ht (kX10_folded (by omega) (by omega) ht (kX10_folded (by omega) (by omega) ht (kX4_leastDistance zCh_105 zSt_5 (by decide) (by decide) hc hX hO hv hr (zfx_r h1 h2 h3 h1 ht) (zfx_r h1 h2 h3 h2 ht) (zfx_r h1 h2 h3 h3 ht) fun μ1 g1 _ => h μ1 g1)))⟩
theorem kX10_foldOf {F : Int → zM → Prop} (hc : zchis μ 105 S) (hX : zsX μ 5 S) (hO : zmop μ S) (hv : zSet S) (hr : zLr S) {r q b : Int} (h1 : zw4 r) (h2 : zw4 q) (h3 : zw4 b) (h : ∀ μ', zsm (fun b _ => b = 127) μ μ' → F (zfo S r q b : Nat) μ') : qX10_foldOf G r q b μ F := by
  refine eX10_foldOf fun J C => rX10_foldOf_e C _ _ _ ?_
  have hsl := hv.2.2.1
  refine znfor (N := 9) (P := fun n => ∀ μ', zsm (fun b _ => b = 127) μ μ' → zfR S r q b (9 - n) n = zfo S r q b → J 11 ([some (zR (some 0)), some (zI r), some (zI q), some (zI b), some (zI (zfb S r q b n : Nat)), some (zI (if n = 0 then 2147483647 else zfl S r q b (zfb S r q b n : Nat))), some (zI (n : Int)), none], [], μ', 0, 0)) ?_ ?_ μ (zsm.refl _ _) rfl
  · intro μ1 g1 e
    refine rX10_foldOf_11 C _ _ _ _ _ _ ⟨by decide, fun _ => ?_, fun c => absurd (by decide) c⟩
    have e : zfb S r q b 9 = zfo S r q b := e
    rw [e]; exact h μ1 g1
  · intro n hn hj μ1 g1 e
    rw [zfR_s hn] at e
    have hf := zfl_r hv hr h1 h2 h3 (t := n) ⟨by omega, by omega⟩
    have hb := zfb_r S r q b n
    have hfb := zfl_r hv hr h1 h2 h3 (t := (zfb S r q b n : Nat)) ⟨by omega, by omega⟩
    refine rX10_foldOf_11 C _ _ _ _ _ _ ⟨by constructor <;> omega, fun c => absurd c (by omega), fun _ => kX10_leastFolded (hc.sm g1 (by omega)) (hX.sm g1 (by omega)) (hO.sm g1 (by omega) (by omega)) hv hr h1 h2 h3 ⟨by omega, by omega⟩ fun μ2 g2 => ?_⟩
    have gg := g1.trans g2
    rw [show zi μ2 8 2 = S 706 from (hX.sm gg (by omega)) 2 (by decide) (by decide)]
    refine ⟨by constructor <;> omega, by constructor <;> omega, fun c => ⟨by split <;> constructor <;> omega, fun c2 => ?_, fun c2 => ?_⟩, fun c => ?_⟩
    · rw [if_neg (by omega)] at e
      have hn0 : ¬ n = 0 := by
        intro z; rw [if_pos z] at c2; omega
      rw [if_neg hn0] at c2
      have hnx : zfb S r q b (n + 1) = zfb S r q b n := by rw [zfb, if_neg]; omega
      have hj := hj μ2 gg e
      rw [if_neg (by omega), hnx] at hj
      rw [if_neg hn0]; exact hj
    · rw [if_neg (by omega)] at e
      have hnx : zfb S r q b (n + 1) = n := by
        rw [zfb, if_pos]
        by_cases z : n = 0
        · exact Or.inl z
        · rw [if_neg z] at c2; exact Or.inr (by omega)
      have hj := hj μ2 gg e
      rw [if_neg (by omega), hnx] at hj
      exact hj
    · rw [if_pos (by omega)] at e
      rw [e]
      exact h μ2 gg
theorem kX11_layFold {F : zM → Prop} {r q b t : Int} (h1 : zw4 r) (h2 : zw4 q) (h3 : zw4 b) (ht : 0 ≤ t ∧ t ≤ 8) (h : ∀ μ', zsm (fun b _ => b = 166) μ μ' → zi μ' 166 0 = zfx r q b r t → zi μ' 166 1 = zfx r q b q t → zi μ' 166 2 = zfx r q b b t → F μ') : qX11_layFold G t r q b μ F := by
  have e3 : (r + q + b).tdiv 3 = (r + q + b) / 3 := Int.tdiv_eq_ediv_of_nonneg (by omega)
  refine eX11_layFold fun J C => rX11_layFold_e C _ _ _ _ ?_
  rw [e3]
  have m : ∀ x, zw4 x → zin ((x - (r + q + b) / 3) * (8 - t)) := fun x hx => by
    have := zmul8 (a := x - (r + q + b) / 3) (b := 8 - t) (A := 400) (by omega) (by omega) (by omega) (by omega)
    constructor <;> omega
  refine ⟨by constructor <;> omega, m r h1, m q h2, m b h3, h _ (((zsm.refl _ _).up _ rfl |>.up _ rfl).up _ rfl) ?_ ?_ ?_⟩
  · rw [zi_off (by omega), zi_off (by omega)]; exact zi_at
  · rw [zi_off (by omega)]; exact zi_at
  · exact zi_at
theorem kX11_foldOf {F : Int → zM → Prop} (hM : zsMM μ S) (hl : zlaid μ S) (hv : zSet S) (hr : zLr S) {r q b : Int} (h1 : zw4 r) (h2 : zw4 q) (h3 : zw4 b) (h : ∀ μ', zsm (fun b j => b = 165 ∨ b = 166 ∨ (b = 153 ∧ j = 26)) μ μ' → zi μ' 166 0 = zfx r q b r (zfo S r q b : Nat) → zi μ' 166 1 = zfx r q b q (zfo S r q b : Nat) → zi μ' 166 2 = zfx r q b b (zfo S r q b : Nat) → zi μ' 153 26 = zfl S r q b (zfo S r q b : Nat) → F (zfo S r q b : Nat) μ') : qX11_foldOf G r q b μ F := by
  refine eX11_foldOf fun J C => rX11_foldOf_e C _ _ _ ?_
  have hsl := hv.2.2.1
  have ho := zfo_r S r q b
  have fin : ∀ μ', zsm (fun b j => b = 165 ∨ b = 166 ∨ (b = 153 ∧ j = 26)) μ μ' → qX11_layFold G (zfo S r q b : Nat) r q b μ' (fun μ3 => F (zfo S r q b : Nat) (zup μ3 153 26 (zfl S r q b (zfo S r q b : Nat)))) := fun μ' g => by
    refine kX11_layFold h1 h2 h3 ⟨by omega, by omega⟩ fun μ3 t1 t2 t3 t4 => h _ ((g.trans (t1.mono (fun b j => by omega))).up _ (by omega)) ?_ ?_ ?_ zi_at
    · rw [zi_off (by omega)]; exact t2
    · rw [zi_off (by omega)]; exact t3
    · rw [zi_off (by omega)]; exact t4
  refine znfor (N := 9) (P := fun n => ∀ μ', zsm (fun b j => b = 165 ∨ b = 166 ∨ (b = 153 ∧ j = 26)) μ μ' → zfR S r q b (9 - n) n = zfo S r q b → J 9 ([some (zR (some 153)), some (zI r), some (zI q), some (zI b), some (zI (if n = 0 then -1 else (zfb S r q b n : Nat))), some (zI (if n = 0 then 0 else zfl S r q b (zfb S r q b n : Nat))), some (zI (n : Int)), none, none], [], μ', 0, 0)) ?_ ?_ μ (zsm.refl _ _) rfl
  · intro μ1 g1 e
    have e : zfb S r q b 9 = zfo S r q b := e
    refine rX11_foldOf_9 C _ _ _ _ _ _ ⟨by decide, fun _ => ?_, fun c => absurd (by decide) c⟩
    rw [if_neg (by decide), if_neg (by decide), e]
    exact fin μ1 g1
  · intro n hn hj μ1 g1 e
    rw [zfR_s hn] at e
    have hf := zfl_r hv hr h1 h2 h3 (t := n) ⟨by omega, by omega⟩
    have hb := zfb_r S r q b n
    have hfb := zfl_r hv hr h1 h2 h3 (t := (zfb S r q b n : Nat)) ⟨by omega, by omega⟩
    refine rX11_foldOf_9 C _ _ _ _ _ _ ⟨by constructor <;> omega, fun c => absurd c (by omega), fun _ => kX11_layFold h1 h2 h3 ⟨by omega, by omega⟩ fun μ2 g2 t2 t3 t4 => ?_⟩
    have gg := g1.trans (g2.mono (Q := fun b j => b = 165 ∨ b = 166 ∨ (b = 153 ∧ j = 26)) (fun b j => by omega))
    rw [t2, t3, t4]
    refine kX11_leastOf (hM.sm gg (by omega)) (hl.sm gg (by omega) (by omega) (by omega) (by omega)) hv hr (zfx_r h1 h2 h3 h1 ⟨by omega, by omega⟩) (zfx_r h1 h2 h3 h2 ⟨by omega, by omega⟩) (zfx_r h1 h2 h3 h3 ⟨by omega, by omega⟩) fun μ3 g3 _ => ?_
    have gh := gg.trans (g3.mono (Q := fun b j => b = 165 ∨ b = 166 ∨ (b = 153 ∧ j = 26)) (fun b j => by omega))
    have es : zi μ3 154 706 = S 706 := (hM.sm gh (by omega)) 2 (by decide) (by decide)
    have take : ∀ x : Int, zin x → (x = 0 → ¬ (n = 0 ∨ zfl S r q b n < zfl S r q b (zfb S r q b n : Nat))) → (¬ x = 0 → n = 0 ∨ zfl S r q b n < zfl S r q b (zfb S r q b n : Nat)) → J 67 ([some (zR (some 153)), some (zI r), some (zI q), some (zI b), some (zI (if n = 0 then -1 else (zfb S r q b n : Nat))), some (zI (if n = 0 then 0 else zfl S r q b (zfb S r q b n : Nat))), some (zI (n : Int)), some (zI (zlst S (zfx r q b r n) (zfx r q b q n) (zfx r q b b n))), none], [zI x], μ3, 0, 0) := by
      intro x hx k0 k1
      change 0 ≤ zlst S (zfx r q b r n) (zfx r q b q n) (zfx r q b b n) ∧ zlst S (zfx r q b r n) (zfx r q b q n) (zfx r q b b n) ≤ 4320000 at hf
      refine rX11_foldOf_67 C _ _ _ _ _ _ _ _ ?_
      rw [es]
      refine ⟨hx, fun c => ⟨by constructor <;> omega, by constructor <;> omega, fun c2 => ?_, fun c2 => ?_⟩, fun c => ⟨by constructor <;> omega, by constructor <;> omega, fun c2 => ?_, fun c2 => ?_⟩⟩
      · rw [if_pos (show zfl S r q b n ≤ S 706 from c2)] at e
        have := fin μ3 gh
        rw [← e] at this
        exact this
      · rw [if_neg (show ¬ zfl S r q b n ≤ S 706 from c2)] at e
        have hn0 : ¬ n = 0 := fun z => k0 c (Or.inl z)
        have hnx : zfb S r q b (n + 1) = zfb S r q b n := by rw [zfb, if_neg (k0 c)]
        have hj := hj μ3 gh e
        rw [if_neg (by omega), if_neg (by omega), hnx] at hj
        rw [if_neg hn0, if_neg hn0]; exact hj
      · rw [if_pos (show zfl S r q b n ≤ S 706 from c2)] at e
        have := fin μ3 gh
        rw [← e] at this
        exact this
      · rw [if_neg (show ¬ zfl S r q b n ≤ S 706 from c2)] at e
        have hnx : zfb S r q b (n + 1) = n := by rw [zfb, if_pos (k1 c)]
        have hj := hj μ3 gh e
        rw [if_neg (by omega), if_neg (by omega), hnx] at hj
        exact hj
    change 0 ≤ zlst S (zfx r q b r n) (zfx r q b q n) (zfx r q b b n) ∧ zlst S (zfx r q b r n) (zfx r q b q n) (zfx r q b b n) ≤ 4320000 at hf
    refine ⟨by split <;> constructor <;> omega, fun c => take 1 (by decide) (fun z => absurd z (by decide)) (fun _ => Or.inl ?_), fun c => ⟨by constructor <;> omega, by split <;> constructor <;> omega, fun c2 => take 0 (by decide) (fun _ => ?_) (fun z => absurd rfl z), fun c2 => take 1 (by decide) (fun z => absurd z (by decide)) (fun _ => ?_)⟩⟩
    · by_cases z : n = 0
      · exact z
      · rw [if_neg z] at c; omega
    · have hn0 : ¬ n = 0 := fun z => c (if_pos z)
      rw [if_neg hn0] at c2
      rintro (z | z)
      · exact hn0 z
      · have z : zlst S (zfx r q b r n) (zfx r q b q n) (zfx r q b b n) < zfl S r q b (zfb S r q b n : Nat) := z
        omega
    · have hn0 : ¬ n = 0 := fun z => c (if_pos z)
      rw [if_neg hn0] at c2
      exact Or.inr (by show zlst S (zfx r q b r n) (zfx r q b q n) (zfx r q b b n) < zfl S r q b (zfb S r q b n : Nat); omega)
end
