/-! light of patches: S is a state as the reference holds it, number by number -/
def zrkn (S : Int → Int) (p b : Int) : Nat → Int
  | 0 => S b
  | n + 1 => if zlv p n ≤ 0 then zrkn S p b n else if S b = 0 then 0 else min 100 (zrkn S p b n * S (3 * (zlv p n * zta 2 n) + b) / S b)
def zrk (S : Int → Int) (p b : Int) : Int := zrkn S p b 4
def zlt (S : Int → Int) (p b : Int) : Int := if S (243 + p) = 1 ∨ zplain p then S (3 * p + b) else zrk S p b
def zLr (S : Int → Int) : Prop := (∀ p, 0 ≤ p → p < 243 → 0 ≤ S p ∧ S p ≤ 100) ∧ ∀ p, 0 ≤ p → p < 81 → S (243 + p) = 0 ∨ S (243 + p) = 1
theorem zlvw {p i : Int} (hp : 0 ≤ p) (h0 : 0 ≤ i) (h1 : i < 4) : 0 ≤ zlv p i * zta 2 i ∧ zlv p i * zta 2 i ≤ 54 := by
  have hl := zlv_r p (i := i) hp
  have hc : zlv p i = 0 ∨ zlv p i = 1 ∨ zlv p i = 2 := by omega
  have hi : i = 0 ∨ i = 1 ∨ i = 2 ∨ i = 3 := by omega
  rcases hi with rfl | rfl | rfl | rfl <;> rcases hc with e | e | e <;> rw [e] <;> decide
theorem zmul100 {a b : Int} (ha : 0 ≤ a ∧ a ≤ 100) (hb : 0 ≤ b ∧ b ≤ 100) : 0 ≤ a * b ∧ a * b ≤ 10000 := by
  constructor
  · exact Int.mul_nonneg ha.1 hb.1
  · have h1 := Int.mul_le_mul_of_nonneg_right ha.2 hb.1
    omega
theorem zrkn_r {S : Int → Int} (hr : zLr S) {p b : Int} (hp : 0 ≤ p) (hb : 0 ≤ b ∧ b < 3) : ∀ n : Nat, n ≤ 4 → 0 ≤ zrkn S p b n ∧ zrkn S p b n ≤ 100
  | 0, _ => hr.1 b hb.1 (by omega)
  | n + 1, hn => by
    have ih := zrkn_r hr hp hb n (by omega)
    have hw := zlvw (p := p) (i := n) hp (by omega) (by omega)
    have hx := hr.1 (3 * (zlv p n * zta 2 n) + b) (by omega) (by omega)
    have hm := zmul100 ih hx
    have hB := hr.1 b hb.1 (by omega)
    unfold zrkn
    split
    · exact ih
    · split
      · decide
      · have : 0 ≤ zrkn S p b n * S (3 * (zlv p n * zta 2 n) + b) / S b := Int.ediv_nonneg hm.1 hB.1
        omega
theorem zlt_r {S : Int → Int} (hr : zLr S) {p b : Int} (hp : 0 ≤ p ∧ p < 81) (hb : 0 ≤ b ∧ b < 3) : 0 ≤ zlt S p b ∧ zlt S p b ≤ 100 := by
  unfold zlt
  split
  · exact hr.1 _ (by omega) (by omega)
  · exact zrkn_r hr hp.1 hb 4 (by decide)
section
variable {G : zG} {μ : zM} {F : Int → zM → Prop} {S : Int → Int}
theorem kX7_reckoned {a : Nat} (ha : zIsSt a) (hS : ∀ p, 0 ≤ p → p < 243 → zi μ (a + 1) p = S p) (hr : zLr S) {p b : Int} (hp : 0 ≤ p ∧ p < 81) (hb : 0 ≤ b ∧ b < 3) (h : F (zrk S p b) μ) : qX7_reckoned G a p b μ F := by
  refine eX7_reckoned fun J C => rX7_reckoned_e C ha _ _ ⟨⟨by omega, by omega⟩, ?_⟩
  rw [hS b hb.1 (by omega)]
  have step : ∀ n : Nat, n < 4 → J 13 ([some (zR (some a)), some (zI p), some (zI b), some (zI (S b)), some (zI (zrkn S p b (n + 1))), some (zI ((n : Int) + 1)), none, none], [], μ, 0, 0) → J 13 ([some (zR (some a)), some (zI p), some (zI b), some (zI (S b)), some (zI (zrkn S p b n)), some (zI (n : Int)), none, none], [], μ, 0, 0) := by
    intro n hn h
    have hl := zlv_r p (i := n) hp.1
    have hw := zlvw (p := p) (i := n) hp.1 (by omega) (by omega)
    have hB := hr.1 b hb.1 (by omega)
    have hx := hr.1 (3 * (zlv p n * zta 2 n) + b) (by omega) (by omega)
    have hv := zrkn_r hr hp.1 hb n (by omega)
    have hm := zmul100 hv hx
    refine rX7_reckoned_13 C ha _ _ _ _ _ ⟨by constructor <;> omega, fun c => absurd c (by omega), fun _ => kX10_levelOf hp.1 (by omega) (by omega) (by omega) ⟨by constructor <;> omega, fun c => ?_, fun c => ⟨⟨by omega, by omega⟩, ⟨by omega, by omega⟩, by constructor <;> omega, fun c2 => ?_, fun c2 => ?_⟩⟩⟩
    · rw [zrkn, if_pos c] at h; exact h
    · have ei : zlv p n * zta 2 n * 3 + b = 3 * (zlv p n * zta 2 n) + b := by omega
      rw [ei, hS _ (by omega) (by omega)]
      have hq : 0 ≤ zrkn S p b n * S (3 * (zlv p n * zta 2 n) + b) / S b ∧ zrkn S p b n * S (3 * (zlv p n * zta 2 n) + b) / S b ≤ 10000 := ⟨Int.ediv_nonneg hm.1 hB.1, Int.le_trans (Int.ediv_le_self _ hm.1) hm.2⟩
      rw [zrkn, if_neg c, if_neg c2] at h
      exact ⟨⟨hm.1, by omega⟩, ⟨by omega, by omega⟩, by constructor <;> omega, h⟩
    · rw [zrkn, if_neg c, if_pos c2] at h; exact h
  have hv := zrkn_r hr hp.1 hb 4 (by decide)
  exact step 0 (by decide) (step 1 (by decide) (step 2 (by decide) (step 3 (by decide) (rX7_reckoned_13 C ha _ _ _ _ _ ⟨by decide, fun _ => h, fun c => absurd (by decide) c⟩))))
theorem kX7_lightOf {a : Nat} (ha : zIsSt a) (hS : ∀ p, 0 ≤ p → p < 243 → zi μ (a + 1) p = S p) (hM : ∀ p, 0 ≤ p → p < 81 → zi μ (a + 2) p = S (243 + p)) (hr : zLr S) {p b : Int} (hp : 0 ≤ p ∧ p < 81) (hb : 0 ≤ b ∧ b < 3) (h : F (zlt S p b) μ) : qX7_lightOf G a p b μ F := by
  have hm := hr.2 p hp.1 hp.2
  have e3 : p * 3 + b = 3 * p + b := by omega
  refine eX7_lightOf fun J C => rX7_lightOf_e C ha _ _ ⟨hp, ?_⟩
  rw [hM p hp.1 hp.2]
  refine ⟨by constructor <;> omega, fun c => ⟨⟨by omega, by omega⟩, ?_⟩, fun c => kX10_isPlain hp.1 (by omega) (fun hpl => ⟨by decide, fun q => absurd q (by decide), fun _ => ⟨⟨by omega, by omega⟩, ?_⟩⟩) (fun hpl => ⟨by decide, fun _ => kX7_reckoned ha hS hr hp hb ?_, fun q => absurd rfl q⟩)⟩
  · rw [e3, hS _ (by omega) (by omega)]
    unfold zlt at h; rw [if_pos (Or.inl (by omega))] at h; exact h
  · rw [e3, hS _ (by omega) (by omega)]
    unfold zlt at h; rw [if_pos (Or.inr hpl)] at h; exact h
  · unfold zlt at h; rw [if_neg (by rintro (q | q); omega; exact hpl q)] at h; exact h
theorem kX11_plainLight {a n : Nat} (ha : zIsAr a n) (hn : n < 2147483648) {i l b : Int} (hi : 0 ≤ i ∧ i < 4) (hl : l = 1 ∨ l = 2) (hb : 0 ≤ b ∧ b < 3) (h243 : 243 ≤ n) (h : F (zi μ a (3 * (l * zta 2 i) + b)) μ) : qX11_plainLight G a i l b μ F := by
  have hz : 0 ≤ l * zta 2 i ∧ l * zta 2 i ≤ 54 := by
    have h4 : i = 0 ∨ i = 1 ∨ i = 2 ∨ i = 3 := by omega
    rcases h4 with rfl | rfl | rfl | rfl <;> rcases hl with rfl | rfl <;> decide
  have e : 3 * l * zta 7 i + b = 3 * (l * zta 2 i) + b := by
    rw [show zta 7 i = zta 2 i from rfl, Int.mul_assoc]
  refine eX11_plainLight fun J C => rX11_plainLight_e C ha hn _ _ _ ⟨hi, ?_⟩
  rw [e]
  exact ⟨⟨by omega, by omega⟩, h⟩
theorem kX11_reckoned {a n : Nat} (ha : zIsAr a n) (hn : n < 2147483648) (h243 : 243 ≤ n) (hS : ∀ p, 0 ≤ p → p < 243 → zi μ a p = S p) (hr : zLr S) {p b : Int} (hp : 0 ≤ p ∧ p < 81) (hb : 0 ≤ b ∧ b < 3) (h : F (zrk S p b) μ) : qX11_reckoned G a p b μ F := by
  refine eX11_reckoned fun J C => rX11_reckoned_e C ha hn _ _ ⟨⟨by omega, by omega⟩, ?_⟩
  rw [hS b hb.1 (by omega)]
  have step : ∀ k : Nat, k < 4 → J 10 ([some (zR (some a)), some (zI p), some (zI b), some (zI (S b)), some (zI (zrkn S p b (k + 1))), some (zI ((k : Int) + 1)), none], [], μ, 0, 0) → J 10 ([some (zR (some a)), some (zI p), some (zI b), some (zI (S b)), some (zI (zrkn S p b k)), some (zI (k : Int)), none], [], μ, 0, 0) := by
    intro k hk h
    have hl := zlv_r p (i := k) hp.1
    have hw := zlvw (p := p) (i := k) hp.1 (by omega) (by omega)
    have hB := hr.1 b hb.1 (by omega)
    have hx := hr.1 (3 * (zlv p k * zta 2 k) + b) (by omega) (by omega)
    have hv := zrkn_r hr hp.1 hb k (by omega)
    have hm := zmul100 hv hx
    refine rX11_reckoned_10 C ha hn _ _ _ _ _ ⟨by constructor <;> omega, fun c => absurd c (by omega), fun _ => kX11_levelOf hp.1 (by omega) (by omega) (by omega) ⟨by constructor <;> omega, fun c => ?_, fun c => ⟨by constructor <;> omega, fun c2 => kX11_plainLight ha hn ⟨by omega, by omega⟩ (by omega) hb h243 ?_, fun c2 => ?_⟩⟩⟩
    · rw [zrkn, if_pos c] at h; exact h
    · rw [hS _ (by omega) (by omega)]
      have hq : 0 ≤ zrkn S p b k * S (3 * (zlv p k * zta 2 k) + b) / S b ∧ zrkn S p b k * S (3 * (zlv p k * zta 2 k) + b) / S b ≤ 10000 := ⟨Int.ediv_nonneg hm.1 hB.1, Int.le_trans (Int.ediv_le_self _ hm.1) hm.2⟩
      rw [zrkn, if_neg c, if_neg c2] at h
      exact ⟨⟨hm.1, by omega⟩, ⟨by omega, by omega⟩, by constructor <;> omega, h⟩
    · rw [zrkn, if_neg c, if_pos c2] at h; exact h
  exact step 0 (by decide) (step 1 (by decide) (step 2 (by decide) (step 3 (by decide) (rX11_reckoned_10 C ha hn _ _ _ _ _ ⟨by decide, fun _ => h, fun c => absurd (by decide) c⟩))))
theorem kX11_lightOf {a n : Nat} (ha : zIsAr a n) (hn : n < 2147483648) (h324 : 324 ≤ n) (hS : ∀ p, 0 ≤ p → p < 324 → zi μ a p = S p) (hr : zLr S) {p b : Int} (hp : 0 ≤ p ∧ p < 81) (hb : 0 ≤ b ∧ b < 3) (h : F (zlt S p b) μ) : qX11_lightOf G a p b μ F := by
  have hm := hr.2 p hp.1 hp.2
  refine eX11_lightOf fun J C => rX11_lightOf_e C ha hn _ _ (kX11_isPlain hp.1 (by omega) (fun hpl => ⟨by decide, fun _ => ⟨⟨by omega, by omega⟩, ?_⟩, fun q => absurd q (by decide)⟩) (fun hpl => ⟨by decide, fun q => absurd rfl q, fun _ => ⟨⟨by omega, by omega⟩, ?_⟩⟩))
  · rw [hS _ (by omega) (by omega)]
    unfold zlt at h; rw [if_pos (Or.inr hpl)] at h; exact h
  · rw [hS _ (by omega) (by omega)]
    refine ⟨by constructor <;> omega, fun c => kX11_reckoned ha hn (by omega) (fun p h0 h1 => hS p h0 (by omega)) hr hp hb ?_, fun c => ⟨⟨by omega, by omega⟩, ?_⟩⟩
    · unfold zlt at h; rw [if_neg (by rintro (q | q); exact c q; exact hpl q)] at h; exact h
    · rw [hS _ (by omega) (by omega)]
      unfold zlt at h; rw [if_pos (Or.inl c)] at h; exact h
end
