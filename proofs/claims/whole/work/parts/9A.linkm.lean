/-! the reference reads the text of a link -/
abbrev zPq (b : Nat) (j : Int) : Prop := b = 153 ∧ (j = 8 ∨ j = 9 ∨ j = 11)
theorem zPq_p {μ μ' : zM} (h : zsm zPp μ μ') : zsm zPq μ μ' := h.mono (fun b j z => ⟨z.1, by omega⟩)
/-- was there a p -/
def zflg (μ μ' : zM) (T : List Int) (a e : Nat) : Prop := (zi μ' 153 11 = 1 ∧ ∃ k : Nat, a ≤ k ∧ k < e ∧ zat T k = 112) ∨ (zi μ' 153 11 = zi μ 153 11 ∧ ∀ k : Nat, a ≤ k → k < e → zat T k ≠ 112)
theorem zflg.trans {μ μ1 μ2 : zM} {T : List Int} {a e1 e2 : Nat} (h1 : zflg μ μ1 T a e1) (h2 : zflg μ1 μ2 T e1 e2) (l1 : a ≤ e1) (l2 : e1 ≤ e2) : zflg μ μ2 T a e2 := by
  rcases h2 with ⟨f2, k, k0, k1, k2⟩ | ⟨f2, h2⟩
  · exact Or.inl ⟨f2, k, by omega, k1, k2⟩
  · rcases h1 with ⟨f1, k, k0, k1, k2⟩ | ⟨f1, h1⟩
    · exact Or.inl ⟨by rw [f2, f1], k, k0, by omega, k2⟩
    · exact Or.inr ⟨by rw [f2, f1], fun k k0 k1 => by
        by_cases c : k < e1
        · exact h1 k k0 c
        · exact h2 k (by omega) k1⟩
theorem zflg.no {μ μ' : zM} {T : List Int} {a e : Nat} (h : zsm zPp μ μ') (hn : ∀ k : Nat, a ≤ k → k < e → zat T k ≠ 112) : zflg μ μ' T a e := Or.inr ⟨h.1 _ _ (by omega), hn⟩
/-- a piece read, as the first of more -/
def zpce (S : Int → Int) (L : Int) (d a e : Nat) (v : Int) : Prop := ∀ e2 : Nat, e ≤ e2 → zWF S (e2 - e + 1) (3 - d) 0 e e2 → zWF S (e2 - a + 1) (3 - d) 0 a e2 ∧ zlgo S L 0 (e2 - a + 1) a e2 = v + zlgo S L 0 (e2 - e + 1) e e2
theorem zpce_s {S : Int → Int} {L : Int} {d a e : Nat} (hk : zkin (S (zba 0 + a))) (hf : zfok (S (zba 0 + a)) (zf1 S 0 a) (zf2 S 0 a)) (hc : ¬ zaro (S (zba 0 + a))) (he : (e : Int) = a + zwd (S (zba 0 + a))) : zpce S L d a e (if S (zba 0 + a) = 112 then L else 1) := by
  intro e2 h2 hw
  have hr := zwd_r (S (zba 0 + a))
  have w1 := zWF_up _ _ _ _ _ hw (e2 - a) (3 - d) (by omega) (Nat.le_refl _)
  have u := zlgo_up (L := L) _ _ _ _ _ hw (e2 - a) (by omega)
  rw [he] at w1 u
  refine ⟨zWF_s hk hf hc (fun _ y => absurd y (by decide)) w1, ?_⟩
  rw [zlgo, if_neg (by omega), if_neg hc, he]
  by_cases c : S (zba 0 + a) = 112
  · rw [if_pos c, if_pos c]
    rw [c] at u
    rw [c]
    have : zwd 112 = 1 := rfl
    rw [this] at u ⊢
    rw [u]
  · rw [if_neg c, if_neg c, u]
theorem zpce_b {S : Int → Int} {L : Int} {d a e1 : Nat} {v : Int} (hd : d < 3) (hk : zkin (S (zba 0 + a))) (hf : zfok (S (zba 0 + a)) (zf1 S 0 a) (zf2 S 0 a)) (hc : zaro (S (zba 0 + a))) (h40 : S (zba 0 + a + zqp (S (zba 0 + a))) = 40) {k1 : Nat} (hk1 : (k1 : Int) = a + zqp (S (zba 0 + a)) + 1) (hi : zWF S (e1 - k1 + 1) (3 - (d + 1)) 0 k1 e1) (h41 : S (zba 0 + e1) = 41) (he : e1 < 64) (hv : v = zlgo S L 0 (e1 - k1 + 1) k1 e1) : zpce S L d a (e1 + 1) (1 + zmul (S (zba 0 + a)) (zf1 S 0 a) * v) := by
  intro e2 h2 hw
  have hq := zqp_r (S (zba 0 + a))
  have hle := zWF_le hi
  have w1 := zWF_up _ _ _ _ _ hi (e2 - a) (3 - (d + 1)) (by omega) (Nat.le_refl _)
  have w2 := zWF_up _ _ _ _ _ hw (e2 - a) (3 - (d + 1) + 1) (by omega) (by omega)
  have u1 := zlgo_up (L := L) _ _ _ _ _ hi (e2 - a) (by omega)
  have u2 := zlgo_up (L := L) _ _ _ _ _ hw (e2 - a) (by omega)
  rw [hk1] at w1 u1
  have e1' : ((e1 + 1 : Nat) : Int) = (e1 : Int) + 1 := by omega
  rw [e1'] at w2 u2 ⊢
  obtain ⟨b1, b2⟩ := zWF_b hk hf hc h40 w1 h41 (by omega) w2
  rw [show 3 - (d + 1) + 1 = 3 - d by omega] at b1
  refine ⟨b1, ?_⟩
  rw [zlgo, if_neg (by omega), if_pos hc, b2, u1, u2, ← hk1, ← hv]
theorem zcs_d {c m d : Int} (hm : 1 ≤ m ∧ m ≤ 10) (h : 48 ≤ c ∧ c < 48 + m) : zcs c (47 + m) d := by unfold zcs; omega
theorem zfok_k {T : List Int} {lim : Int} (hlim : 8 ≤ lim ∧ lim ≤ 32) {a : Nat} (ha : a < 100) (hk : zkin (zat T a)) {d : Int} (h1 : 1 < (zstx (zsf (zat T a))).length → zfch (zsf (zat T a)) 1 ≠ 40 → zcs (zat T ((a : Int) + 1)) (zfch (zsf (zat T a)) 1) d) (h2 : 2 < (zstx (zsf (zat T a))).length → zfch (zsf (zat T a)) 2 ≠ 40 → zcs (zat T ((a : Int) + 2)) (zfch (zsf (zat T a)) 2) d) : zfok (zat T a) (zf1 (zsT T lim) 0 a) (zf2 (zsT T lim) 0 a) := by
  refine zfok_of hlim ha hk (d := d) (fun k hl hn => ?_)
  match k, hl, hn with
  | 0, _, _ => rw [(zsf_pos hk).2]; exact Or.inl rfl
  | 1, hl, hn => exact h1 hl hn
  | 2, hl, hn => exact h2 hl hn
  | k + 3, hl, hn =>
    exfalso
    by_cases ca : zaro (zat T a)
    · obtain ⟨l1, l2, l3⟩ := zsf_br ca
      have hq := zqp_r (zat T a)
      have : k + 3 = (zqp (zat T a)).toNat := by omega
      rw [this] at hn
      exact hn l2
    · obtain ⟨l1, -⟩ := zsf_no hk ca
      have hq := zwd_r (zat T a)
      omega
section
variable {G : zG} {μ : zM} {T : List Int} {A lim L : Int} {a t j d : Nat}
theorem kX11_isStep {F : Int → zM → Prop} {x : Int} (hx : zin x) (h1 : zkin x → F 1 μ) (h0 : ¬ zkin x → F 0 μ) : qX11_isStep G true x μ F := by
  have h1' : ∀ {P : Prop}, (P → zkin x) → P → F 1 μ := fun hp p => h1 (hp p)
  refine eX11_isStep fun J C => rX11_isStep_e C _ ⟨hx, ?_⟩
  refine ⟨fun z => h1 (by unfold zkin; omega), fun c1 => ⟨fun z => h1 (by unfold zkin; omega), fun c2 => ⟨fun z => h1 (by unfold zkin; omega), fun c3 => ⟨fun z => h1 (by unfold zkin; omega), fun c4 => ⟨fun z => h1 (by unfold zkin; omega), fun c5 => ⟨fun z => h1 (by unfold zkin; omega), fun c6 => ⟨fun z => h1 (by unfold zkin; omega), fun c7 => ⟨fun z => h1 (by unfold zkin; omega), fun c8 => ⟨fun z => h1 (by unfold zkin; omega), fun c9 => ⟨fun z => h1 (by unfold zkin; omega), fun c10 => ?_⟩⟩⟩⟩⟩⟩⟩⟩⟩⟩
  refine kX11_isAround hx (fun z => ⟨by decide, fun y => absurd y (by decide), fun _ => h1 (by unfold zkin; omega)⟩) (fun z => ⟨by decide, fun _ => h0 (fun y => by unfold zkin at y; omega), fun y => absurd rfl y⟩)
/-- when something was wrong, nothing more is read -/
theorem kX11_faultB {F : zM → Prop} (hb : zBad μ T 40 A) {v : Int} (h : ∀ μ', zsm zPp μ μ' → zBad μ' T 40 A → F μ') : qX11_fault G v μ F := by
  obtain ⟨a, h1, h2, h3, h4⟩ := hb
  refine kX11_fault h2 (by constructor <;> omega) fun μ1 g1 p1 => ?_
  rw [if_neg (by omega)] at p1
  exact h μ1 g1 ⟨a, h1, p1, h3, h4⟩
theorem kX11_readStepsB {dd : Nat} {F : Int → zM → Prop} (hb : zBad μ T 40 A) {x : Int} (h : ∀ v, F v μ) : qX11_readSteps G dd x μ F :=
  eX11_readSteps fun J C => rX11_readSteps_e C _ (rX11_readSteps_2 C _ _ (kX11_fineB hb ⟨by decide, fun _ => h _, fun z => absurd rfl z⟩))
theorem kX11_readWithinB {dd : Nat} (hd : 0 < dd) {F : Int → zM → Prop} (hb : zBad μ T 40 A) (hT : zTv T) {x : Int} (ix : zin x) (h : ∀ v μ', zsm zPp μ μ' → zBad μ' T 40 A → F v μ') : qX11_readWithin G dd x μ F := by
  refine eX11_readWithin fun J C => rX11_readWithin_e C _ ⟨ix, fun z => ?_, fun z => ?_⟩
  · exact kX11_needB hb hT (by decide) (by decide) (by decide) ⟨0, hd, kX11_readStepsB hb fun v => kX11_needB hb hT (by decide) (by decide) (by decide) (h v _ (zsm.refl _ _) hb)⟩
  · exact kX11_faultB hb fun μ1 g1 b1 => kX11_needB b1 hT (by decide) (by decide) (by decide) ⟨0, hd, kX11_readStepsB b1 fun v => kX11_needB b1 hT (by decide) (by decide) (by decide) (h v _ g1 b1)⟩
theorem kX11_readInkA {F : Int → zM → Prop} (hp : zPs μ T 40 a (-1)) (hT : zTv T) (ha : a ≤ zN2 T 40) {e : Int} (hA : zwro T 1 40 (zN2 T 40 - a) a t j e = A) (hj : j < (zstx t).length) (hf : zfch t j = 107) (hok : a < zN2 T 40 → 0 ≤ zik (zat T a) → ∀ μ', zsm zPp μ μ' → zPs μ' T 40 ((a : Int) + 1) (-1) → zwro T 1 40 (zN2 T 40 - (a + 1)) (a + 1) t (j + 1) e = A → F (zik (zat T a)) μ') (hbad : ∀ μ', zsm zPp μ μ' → zBad μ' T 40 A → F 0 μ') : qX11_readInk G μ F := by
  have hN := zN2_le (most := 40) hT
  have hs := zN2_s T (most := 40) (by decide)
  have hr := zher_r hT (top := 40) (a := (a : Int)) (by omega)
  obtain ⟨e1, e2⟩ := zher_in (T := T) (a := a) (most := 40) (by decide)
  refine eX11_readInk fun J C => rX11_readInk_e C (kX11_fine hp (by decide) (fun _ => ⟨by decide, fun _ => ?_, fun z => absurd z (by decide)⟩) (fun z => absurd rfl z))
  refine kX11_here hp hT (by omega) (by omega) (by decide) (kX11_inkBy (by constructor <;> omega) ?_)
  have hz := zik_r (zher T 40 a)
  refine ⟨by constructor <;> omega, fun z => ?_, fun z => ?_⟩
  · have hlt : a < zN2 T 40 := by
      by_cases y : a < zN2 T 40
      · exact y
      · rw [e2 y] at z; exact absurd rfl z
    rw [e1 hlt] at hz z ⊢
    have hm := zwro_m (tl := 1) hlt hj (d := e) (by rw [hf]; unfold zcs; omega)
    rw [hA, hf, if_neg (by decide)] at hm
    rw [hp.2.2.1]
    exact hok hlt (by omega) _ ((zsm.refl _ _).up _ ⟨rfl, Or.inl rfl⟩) ⟨by rw [zi_off (by decide)]; exact hp.1, by rw [zi_off (by decide)]; exact hp.2.1, zi_at, by rw [zi_off (by decide)]; exact hp.2.2.2.1, fun k hk => by rw [zi_off (by omega)]; exact hp.2.2.2.2 k hk⟩ hm.symm
  · rw [hp.2.2.1]
    refine kX11_fault hp (by decide) fun μ1 g1 p1 => hbad μ1 g1 ?_
    rw [if_pos rfl] at p1
    have hAa : A = a := by
      by_cases y : a < zN2 T 40
      · rw [e1 y] at z
        rw [← hA]; exact zwro_b y hj (by rw [hf]; unfold zcs; omega)
      · have ea : a = zN2 T 40 := by omega
        rw [← hA, ea]; exact zwro_e (by decide) (Or.inl hj)
    exact ⟨a, by omega, by rw [hAa]; exact p1, by omega, by omega⟩
end
