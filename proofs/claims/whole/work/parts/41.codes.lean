theorem zt00 : zta 0 0 = 1000 := rfl
theorem zt01 : zta 0 1 = 100 := rfl
theorem zt02 : zta 0 2 = 10 := rfl
theorem zt03 : zta 0 3 = 1 := rfl
theorem zt10 : zta 1 0 = 729 := rfl
theorem zt11 : zta 1 1 = 81 := rfl
theorem zt12 : zta 1 2 = 9 := rfl
theorem zt13 : zta 1 3 = 1 := rfl
theorem zt20 : zta 2 0 = 27 := rfl
theorem zt21 : zta 2 1 = 9 := rfl
theorem zt22 : zta 2 2 = 3 := rfl
theorem zt23 : zta 2 3 = 1 := rfl
theorem zt70 : zta 7 0 = 27 := rfl
theorem zt71 : zta 7 1 = 9 := rfl
theorem zt72 : zta 7 2 = 3 := rfl
theorem zt73 : zta 7 3 = 1 := rfl
theorem zt80 : zta 8 0 = 1000 := rfl
theorem zt81 : zta 8 1 = 100 := rfl
theorem zt82 : zta 8 2 = 10 := rfl
theorem zt83 : zta 8 3 = 1 := rfl
/-- the place of four amounts, its code -/
def zcd (p : Int) : Int := 1000 * zam p 0 + 100 * zam p 1 + 10 * zam p 2 + zam p 3
abbrev zPl (p : Int) : Prop := 0 ≤ p ∧ p < 6561
abbrev zisc (c : Int) : Prop := (0 ≤ c ∧ c ≤ 8888) ∧ c / 1000 % 10 ≤ 8 ∧ c / 100 % 10 ≤ 8 ∧ c / 10 % 10 ≤ 8 ∧ c % 10 ≤ 8
def zpc (c : Int) : Int := 729 * (c / 1000 % 10) + 81 * (c / 100 % 10) + 9 * (c / 10 % 10) + c % 10
def ztot (p : Int) : Int := zam p 0 + zam p 1 + zam p 2 + zam p 3
theorem zam0 (p : Int) : zam p 0 = p / 729 % 9 := rfl
theorem zam1 (p : Int) : zam p 1 = p / 81 % 9 := rfl
theorem zam2 (p : Int) : zam p 2 = p / 9 % 9 := rfl
theorem zam3 (p : Int) : zam p 3 = p % 9 := by unfold zam; rw [zt13, Int.ediv_one]
theorem zcam0 (p : Int) : zcam p 0 = p / 1000 % 10 := rfl
theorem zcam1 (p : Int) : zcam p 1 = p / 100 % 10 := rfl
theorem zcam2 (p : Int) : zcam p 2 = p / 10 % 10 := rfl
theorem zcam3 (p : Int) : zcam p 3 = p % 10 := by unfold zcam; rw [zt03, Int.ediv_one]
theorem zam_r (p i : Int) : 0 ≤ zam p i ∧ zam p i ≤ 8 := by unfold zam; omega
theorem zcd_r {p : Int} : 0 ≤ zcd p ∧ zcd p ≤ 8888 := by
  have := zam_r p 0; have := zam_r p 1; have := zam_r p 2; have := zam_r p 3
  unfold zcd; omega
theorem zcd_isc (p : Int) : zisc (zcd p) := by
  have := zam_r p 0; have := zam_r p 1; have := zam_r p 2; have := zam_r p 3
  unfold zisc zcd; omega
theorem zcd_am {p : Int} {i : Int} (h0 : 0 ≤ i) (h1 : i < 4) : zcam (zcd p) i = zam p i := by
  have := zam_r p 0; have := zam_r p 1; have := zam_r p 2; have := zam_r p 3
  have hi : i = 0 ∨ i = 1 ∨ i = 2 ∨ i = 3 := by omega
  rcases hi with rfl | rfl | rfl | rfl
  · rw [zcam0]; unfold zcd; omega
  · rw [zcam1]; unfold zcd; omega
  · rw [zcam2]; unfold zcd; omega
  · rw [zcam3]; unfold zcd; omega
theorem zpl_e {p : Int} (h : zPl p) : p = 729 * zam p 0 + 81 * zam p 1 + 9 * zam p 2 + zam p 3 := by
  obtain ⟨h0, h1⟩ := h
  rw [zam0, zam1, zam2, zam3]; omega
theorem zcd_pc {p : Int} (h : zPl p) : zpc (zcd p) = p := by
  unfold zpc
  have e0 := zcd_am (p := p) (i := 0) (by decide) (by decide)
  have e1 := zcd_am (p := p) (i := 1) (by decide) (by decide)
  have e2 := zcd_am (p := p) (i := 2) (by decide) (by decide)
  have e3 := zcd_am (p := p) (i := 3) (by decide) (by decide)
  rw [zcam0] at e0; rw [zcam1] at e1; rw [zcam2] at e2; rw [zcam3] at e3
  rw [e0, e1, e2, e3]
  exact (zpl_e h).symm
theorem zam_of {a b c d : Int} (ha : 0 ≤ a ∧ a ≤ 8) (hb : 0 ≤ b ∧ b ≤ 8) (hc : 0 ≤ c ∧ c ≤ 8) (hd : 0 ≤ d ∧ d ≤ 8) : zam (729 * a + 81 * b + 9 * c + d) 0 = a ∧ zam (729 * a + 81 * b + 9 * c + d) 1 = b ∧ zam (729 * a + 81 * b + 9 * c + d) 2 = c ∧ zam (729 * a + 81 * b + 9 * c + d) 3 = d := by
  refine ⟨?_, ?_, ?_, ?_⟩
  · rw [zam0]; omega
  · rw [zam1]; omega
  · rw [zam2]; omega
  · rw [zam3]; omega
theorem zpc_pl {c : Int} (h : zisc c) : zPl (zpc c) := by unfold zisc at h; unfold zPl zpc; omega
theorem zpc_cd {c : Int} (h : zisc c) : zcd (zpc c) = c := by
  obtain ⟨h1, h2, h3, h4, h5⟩ := h
  obtain ⟨e0, e1, e2, e3⟩ := zam_of (a := c / 1000 % 10) (b := c / 100 % 10) (c := c / 10 % 10) (d := c % 10) ⟨by omega, h2⟩ ⟨by omega, h3⟩ ⟨by omega, h4⟩ ⟨by omega, h5⟩
  unfold zcd
  rw [show zpc c = 729 * (c / 1000 % 10) + 81 * (c / 100 % 10) + 9 * (c / 10 % 10) + c % 10 from rfl, e0, e1, e2, e3]
  omega
theorem zcd_lt {p q : Int} (hp : zPl p) (hq : zPl q) : zcd p < zcd q ↔ p < q := by
  have e := zcd_pc hp; have e2 := zcd_pc hq
  have := zam_r p 0; have := zam_r p 1; have := zam_r p 2; have := zam_r p 3
  have := zam_r q 0; have := zam_r q 1; have := zam_r q 2; have := zam_r q 3
  have e3 : p = 729 * zam p 0 + 81 * zam p 1 + 9 * zam p 2 + zam p 3 := by obtain ⟨h0, h1⟩ := hp; rw [zam0, zam1, zam2, zam3]; omega
  have e4 : q = 729 * zam q 0 + 81 * zam q 1 + 9 * zam q 2 + zam q 3 := by obtain ⟨h0, h1⟩ := hq; rw [zam0, zam1, zam2, zam3]; omega
  unfold zcd
  clear e e2 hp hq
  rcases (by omega : zam p 0 < zam q 0 ∨ zam p 0 = zam q 0 ∨ zam q 0 < zam p 0) with h | h | h
  · constructor <;> intro <;> omega
  · rcases (by omega : zam p 1 < zam q 1 ∨ zam p 1 = zam q 1 ∨ zam q 1 < zam p 1) with h2 | h2 | h2
    · constructor <;> intro <;> omega
    · constructor <;> intro <;> omega
    · constructor <;> intro <;> omega
  · constructor <;> intro <;> omega
theorem zcd_inj {p q : Int} (hp : zPl p) (hq : zPl q) (h : zcd p = zcd q) : p = q := by rw [← zcd_pc hp, ← zcd_pc hq, h]
theorem ztot_r (p : Int) : 0 ≤ ztot p ∧ ztot p ≤ 32 := by
  have := zam_r p 0; have := zam_r p 1; have := zam_r p 2; have := zam_r p 3
  unfold ztot; omega
section
variable {G : zG} {ph : Bool} {μ : zM} {F : Int → zM → Prop}
theorem kX10_totalOf {p : Int} (hp : zPl p) (h : F (ztot p) μ) : qX10_totalOf G ph p μ F := by
  obtain ⟨h0, h1⟩ := hp
  refine eX10_totalOf fun J C => rX10_totalOf_e C _ ⟨⟨by omega, by omega⟩, ⟨by omega, by omega⟩, ⟨by omega, by omega⟩, ⟨by omega, by omega⟩, ⟨by omega, by omega⟩, ⟨by omega, by omega⟩, ?_⟩
  have e : p / 729 + p / 81 % 9 + p / 9 % 9 + p % 9 = ztot p := by
    unfold ztot
    rw [zam0, zam1, zam2, zam3]
    omega
  rw [e]
  exact h
theorem kX11_totalOf {p : Int} (h : F (ztot p) μ) : qX11_totalOf G ph (zcd p) μ F := by
  have hr := zcd_r (p := p)
  refine eX11_totalOf fun J C => rX11_totalOf_e C _ (kX11_amountOf (by omega) (by omega) (by decide) (by decide) (kX11_amountOf (by omega) (by omega) (by decide) (by decide) (kX11_amountOf (by omega) (by omega) (by decide) (by decide) (kX11_amountOf (by omega) (by omega) (by decide) (by decide) ?_))))
  rw [zcd_am (by decide) (by decide), zcd_am (by decide) (by decide), zcd_am (by decide) (by decide), zcd_am (by decide) (by decide)]
  exact h
theorem kX11_am {p i : Int} (h0 : 0 ≤ i) (h1 : i < 4) (h : F (zam p i) μ) : qX11_amountOf G ph (zcd p) i μ F := by
  have hr := zcd_r (p := p)
  refine kX11_amountOf (by omega) (by omega) h0 h1 ?_
  rw [zcd_am h0 h1]
  exact h
theorem kX10_am {p i : Int} (hp : zPl p) (h0 : 0 ≤ i) (h1 : i < 4) (h : F (zam p i) μ) : qX10_amountOf G ph p i μ F := kX10_amountOf hp.1 (by have := hp.2; omega) h0 h1 h
theorem kX11_numberOf {p : Int} (hp : zPl p) (h : F p μ) : qX11_numberOf G ph (zcd p) μ F := by
  refine eX11_numberOf fun J C => rX11_numberOf_e C _ ?_
  have step : ∀ a i : Int, 0 ≤ i → i < 4 → J 4 ([some (zI (zcd p)), some (zI (9 * a + zam p i)), some (zI (i + 1))], [], μ, 0, 0) → J 4 ([some (zI (zcd p)), some (zI a), some (zI i)], [], μ, 0, 0) :=
    fun a i h0 h1 h => rX11_numberOf_4 C _ _ _ ⟨by constructor <;> omega, fun c => absurd c (by omega), fun _ => kX11_am h0 h1 h⟩
  refine step 0 0 (by decide) (by decide) (step _ _ (by decide) (by decide) (step _ _ (by decide) (by decide) (step _ _ (by decide) (by decide) (rX11_numberOf_4 C _ _ _ ⟨by decide, fun _ => ?_, fun c => absurd (by decide) c⟩))))
  have e : 9 * (9 * (9 * (9 * 0 + zam p 0) + zam p (0 + 1)) + zam p (0 + 1 + 1)) + zam p (0 + 1 + 1 + 1) = p := by
    obtain ⟨h0, h1⟩ := hp
    show 9 * (9 * (9 * (9 * 0 + zam p 0) + zam p 1) + zam p 2) + zam p 3 = p
    rw [zam0, zam1, zam2, zam3]; omega
  rw [e]
  exact h
theorem kX10_codeOf {p : Int} (hp : zPl p) (h : F (zcd p) μ) : qX10_codeOf G ph p μ F := by
  refine eX10_codeOf fun J C => rX10_codeOf_e C _ ?_
  have step : ∀ a i : Int, 0 ≤ i → i < 4 → J 4 ([some (zI p), some (zI (a + zam p i * zta 0 i)), some (zI (i + 1))], [], μ, 0, 0) → J 4 ([some (zI p), some (zI a), some (zI i)], [], μ, 0, 0) :=
    fun a i h0 h1 h => rX10_codeOf_4 C _ _ _ ⟨by constructor <;> omega, fun c => absurd c (by omega), fun _ => kX10_am hp h0 h1 ⟨⟨h0, h1⟩, h⟩⟩
  refine step 0 0 (by decide) (by decide) (step _ _ (by decide) (by decide) (step _ _ (by decide) (by decide) (step _ _ (by decide) (by decide) (rX10_codeOf_4 C _ _ _ ⟨by decide, fun _ => ?_, fun c => absurd (by decide) c⟩))))
  have e : 0 + zam p 0 * zta 0 0 + zam p (0 + 1) * zta 0 (0 + 1) + zam p (0 + 1 + 1) * zta 0 (0 + 1 + 1) + zam p (0 + 1 + 1 + 1) * zta 0 (0 + 1 + 1 + 1) = zcd p := by
    show 0 + zam p 0 * 1000 + zam p 1 * 100 + zam p 2 * 10 + zam p 3 * 1 = zcd p
    unfold zcd; omega
  rw [e]
  exact h
theorem kX11_codeOf {p : Int} (hp : zPl p) (h : F (zcd p) μ) : qX11_codeOf G ph p μ F := by
  obtain ⟨h0, h1⟩ := hp
  refine eX11_codeOf fun J C => rX11_codeOf_e C _ ?_
  have step : ∀ a l i : Int, 0 ≤ i → i < 4 → 0 ≤ l → l < 7000 → J 6 ([none, some (zI (a + l % 9 * zta 8 i)), some (zI (l / 9)), some (zI (i + -1))], [], μ, 0, 0) → J 6 ([none, some (zI a), some (zI l), some (zI i)], [], μ, 0, 0) :=
    fun a l i h0 h1 h2 h3 h => rX11_codeOf_6 C _ _ _ ⟨by constructor <;> omega, fun c => absurd c (by omega), fun _ => ⟨⟨by omega, by omega⟩, ⟨h0, h1⟩, ⟨by omega, by omega⟩, h⟩⟩
  refine step 0 p 3 (by decide) (by decide) h0 (by omega) (step _ _ _ (by decide) (by decide) (by omega) (by omega) (step _ _ _ (by decide) (by decide) (by omega) (by omega) (step _ _ _ (by decide) (by decide) (by omega) (by omega) (rX11_codeOf_6 C _ _ _ ⟨by decide, fun _ => ?_, fun c => absurd (by decide) c⟩))))
  have e : 0 + p % 9 * zta 8 3 + p / 9 % 9 * zta 8 (3 + -1) + p / 9 / 9 % 9 * zta 8 (3 + -1 + -1) + p / 9 / 9 / 9 % 9 * zta 8 (3 + -1 + -1 + -1) = zcd p := by
    show 0 + p % 9 * 1 + p / 9 % 9 * 10 + p / 9 / 9 % 9 * 100 + p / 9 / 9 / 9 % 9 * 1000 = zcd p
    unfold zcd
    rw [zam0, zam1, zam2, zam3]
    omega
  rw [e]
  exact h
theorem kX10_placeOf {c : Int} (hc : zin c) (h1 : zisc c → F (zpc c) μ) (h0 : ¬ zisc c → F (-1) μ) : qX10_placeOf G ph c μ F := by
  refine eX10_placeOf fun J C => rX10_placeOf_e C _ (kX10_isIn hc (by decide) (by decide) (fun k => ⟨by decide, fun _ => ?_, fun q => absurd q (by decide)⟩) (fun k => ⟨by decide, fun q => absurd rfl q, fun _ => h0 (fun z => k z.1)⟩))
  have step : ∀ a i w : Int, 0 ≤ i → i < 4 → zta 0 i = w → (0 < w ∧ w ≤ 1000) → (c / w % 10 ≤ 8 → J 17 ([some (zI c), some (zI (a + c / w % 10 * zta 1 i)), some (zI (i + 1)), none], [], μ, 0, 0)) → (¬ c / w % 10 ≤ 8 → ¬ zisc c) → J 17 ([some (zI c), some (zI a), some (zI i), none], [], μ, 0, 0) := by
    intro a i w hi0 hi1 hw hw2 k1 k0
    refine rX10_placeOf_17 C _ _ _ ?_
    rw [hw]
    have hd : 0 ≤ c / w ∧ c / w ≤ c := ⟨Int.ediv_nonneg k.1 (by omega), Int.ediv_le_self _ k.1⟩
    exact ⟨by constructor <;> omega, fun q => absurd q (by omega), fun _ => ⟨⟨hi0, hi1⟩, ⟨by omega, by omega⟩, ⟨by omega, by omega⟩, ⟨by omega, by omega⟩, ⟨by omega, by omega⟩, k1, fun q => h0 (k0 q)⟩⟩
  refine step 0 0 1000 (by decide) (by decide) rfl (by decide) (fun d0 => step _ _ 100 (by decide) (by decide) rfl (by decide) (fun d1 => step _ _ 10 (by decide) (by decide) rfl (by decide) (fun d2 => step _ _ 1 (by decide) (by decide) rfl (by decide) (fun d3 => rX10_placeOf_17 C _ _ _ ⟨by decide, fun _ => ?_, fun q => absurd (by decide) q⟩) (fun q z => q (by unfold zisc at z; omega))) (fun q z => q z.2.2.2.1)) (fun q z => q z.2.2.1)) (fun q z => q z.2.1)
  have e : 0 + c / 1000 % 10 * zta 1 0 + c / 100 % 10 * zta 1 (0 + 1) + c / 10 % 10 * zta 1 (0 + 1 + 1) + c / 1 % 10 * zta 1 (0 + 1 + 1 + 1) = zpc c := by
    show 0 + c / 1000 % 10 * 729 + c / 100 % 10 * 81 + c / 10 % 10 * 9 + c / 1 % 10 * 1 = zpc c
    unfold zpc; omega
  rw [e]
  exact h1 ⟨k, d0, d1, d2, by omega⟩
theorem kX11_isCode {c : Int} (hc : zin c) (h1 : zisc c → F 1 μ) (h0 : ¬ zisc c → F 0 μ) : qX11_isCode G ph c μ F := by
  refine eX11_isCode fun J C => rX11_isCode_e C _ (kX11_in hc (by decide) (by decide) (fun k => ⟨by decide, fun _ => ?_, fun q => absurd q (by decide)⟩) (fun k => ⟨by decide, fun q => absurd rfl q, fun _ => h0 (fun z => k z.1)⟩))
  have step : ∀ i w : Int, 0 ≤ i → i < 4 → zta 8 i = w → (0 < w ∧ w ≤ 1000) → (c / w % 10 ≤ 8 → J 15 ([some (zI c), some (zI (i + 1))], [], μ, 0, 0)) → (¬ c / w % 10 ≤ 8 → ¬ zisc c) → J 15 ([some (zI c), some (zI i)], [], μ, 0, 0) := by
    intro i w hi0 hi1 hw hw2 k1 k0
    refine rX11_isCode_15 C _ _ ?_
    rw [hw]
    have hd : 0 ≤ c / w ∧ c / w ≤ c := ⟨Int.ediv_nonneg k.1 (by omega), Int.ediv_le_self _ k.1⟩
    exact ⟨by constructor <;> omega, fun q => absurd q (by omega), fun _ => ⟨⟨hi0, hi1⟩, ⟨by omega, by omega⟩, ⟨by omega, by omega⟩, ⟨by omega, by omega⟩, ⟨by omega, by omega⟩, k1, fun q => h0 (k0 q)⟩⟩
  exact step 0 1000 (by decide) (by decide) rfl (by decide) (fun d0 => step _ 100 (by decide) (by decide) rfl (by decide) (fun d1 => step _ 10 (by decide) (by decide) rfl (by decide) (fun d2 => step _ 1 (by decide) (by decide) rfl (by decide) (fun d3 => rX11_isCode_15 C _ _ ⟨by decide, fun _ => h1 ⟨k, d0, d1, d2, by omega⟩, fun q => absurd (by decide) q⟩) (fun q z => q (by unfold zisc at z; omega))) (fun q z => q z.2.2.2.1)) (fun q z => q z.2.2.1)) (fun q z => q z.2.1)
end
