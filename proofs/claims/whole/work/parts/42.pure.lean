/-! the rest of the functions without memory -/
theorem zhalf {g l : Nat} (h0 : 0 < l) (h1 : l ≤ g) : 2 * (g % l) < g := by
  have h2 := Nat.mod_lt g h0
  have h3 := Nat.div_add_mod g l
  have h4 : 1 ≤ g / l := Nat.div_pos h1 h0
  have h5 : l * 1 ≤ l * (g / l) := Nat.mul_le_mul_left l h4
  omega
def zfold (x m t : Int) : Int := m + ((x - m) * (8 - t)).tdiv 8
theorem zmul8 {a b A : Int} (h1 : -A ≤ a) (h2 : a ≤ A) (h3 : 0 ≤ b) (h4 : b ≤ 8) : -(8 * A) ≤ a * b ∧ a * b ≤ 8 * A := by
  have hb : b = 0 ∨ b = 1 ∨ b = 2 ∨ b = 3 ∨ b = 4 ∨ b = 5 ∨ b = 6 ∨ b = 7 ∨ b = 8 := by omega
  rcases hb with rfl | rfl | rfl | rfl | rfl | rfl | rfl | rfl | rfl <;> omega
theorem ztdiv8 (a : Int) : 0 ≤ a ∧ a.tdiv 8 = a / 8 ∨ a < 0 ∧ a.tdiv 8 = -((-a) / 8) := by
  by_cases h : 0 ≤ a
  · exact Or.inl ⟨h, Int.tdiv_eq_ediv_of_nonneg h⟩
  · refine Or.inr ⟨by omega, ?_⟩
    rw [← Int.tdiv_eq_ediv_of_nonneg (by omega : 0 ≤ -a), Int.neg_tdiv, Int.neg_neg]
theorem zfold_r {x m t : Int} (hx : 0 ≤ x ∧ x ≤ 400) (hm : 0 ≤ m ∧ m ≤ 400) (ht : 0 ≤ t ∧ t ≤ 8) : 0 ≤ zfold x m t ∧ zfold x m t ≤ 400 := by
  unfold zfold
  have hb : 8 - t = 0 ∨ 8 - t = 1 ∨ 8 - t = 2 ∨ 8 - t = 3 ∨ 8 - t = 4 ∨ 8 - t = 5 ∨ 8 - t = 6 ∨ 8 - t = 7 ∨ 8 - t = 8 := by omega
  rcases hb with e | e | e | e | e | e | e | e | e <;> rw [e] <;> rcases ztdiv8 ((x - m) * _) with ⟨h1, h2⟩ | ⟨h1, h2⟩ <;> rw [h2] <;> omega
def zgcn (p q : Int) : Nat → Int
  | 0 => 0
  | n + 1 => max (zgcn p q n) (max (zam p n - zam q n) (-(zam p n - zam q n)))
def zgc (p q : Int) : Int := zgcn p q 4
theorem zgcn_r (p q : Int) : ∀ n, 0 ≤ zgcn p q n ∧ zgcn p q n ≤ 8
  | 0 => by simp [zgcn]
  | n + 1 => by
    have := zgcn_r p q n
    have := zam_r p n; have := zam_r q n
    unfold zgcn; omega
/-- one amount less or more -/
def zchg (p c : Int) : Int := if 0 ≤ zam p (c % 4) + (if c < 4 then -1 else 1) ∧ zam p (c % 4) + (if c < 4 then -1 else 1) ≤ 8 then p + (if c < 4 then -1 else 1) * zta 1 (c % 4) else -1
theorem zchg_pl {p c : Int} (hp : zPl p) (hc : 0 ≤ c ∧ c < 8) : zchg p c = -1 ∨ (zPl (zchg p c) ∧ zcd (zchg p c) = zcd p + (if c < 4 then -1 else 1) * zta 8 (c % 4) ∧ ∀ i : Int, zam (zchg p c) 0 = zam p 0 + (if c % 4 = 0 then (if c < 4 then -1 else 1) else 0) ∧ zam (zchg p c) 1 = zam p 1 + (if c % 4 = 1 then (if c < 4 then -1 else 1) else 0) ∧ zam (zchg p c) 2 = zam p 2 + (if c % 4 = 2 then (if c < 4 then -1 else 1) else 0) ∧ zam (zchg p c) 3 = zam p 3 + (if c % 4 = 3 then (if c < 4 then -1 else 1) else 0)) := by
  by_cases h : 0 ≤ zam p (c % 4) + (if c < 4 then -1 else 1) ∧ zam p (c % 4) + (if c < 4 then -1 else 1) ≤ 8
  · right
    have ez : zchg p c = p + (if c < 4 then -1 else 1) * zta 1 (c % 4) := if_pos h
    have ep := zpl_e hp
    have h0 := zam_r p 0; have h1 := zam_r p 1; have h2 := zam_r p 2; have h3 := zam_r p 3
    have hcc : c = 0 ∨ c = 1 ∨ c = 2 ∨ c = 3 ∨ c = 4 ∨ c = 5 ∨ c = 6 ∨ c = 7 := by omega
    have key : ∀ a b d e : Int, (0 ≤ a ∧ a ≤ 8) → (0 ≤ b ∧ b ≤ 8) → (0 ≤ d ∧ d ≤ 8) → (0 ≤ e ∧ e ≤ 8) → zchg p c = 729 * a + 81 * b + 9 * d + e → zPl (zchg p c) ∧ zcd (zchg p c) = 1000 * a + 100 * b + 10 * d + e ∧ zam (zchg p c) 0 = a ∧ zam (zchg p c) 1 = b ∧ zam (zchg p c) 2 = d ∧ zam (zchg p c) 3 = e := by
      intro a b d e ha hb hd he hz
      obtain ⟨z0, z1, z2, z3⟩ := zam_of ha hb hd he
      rw [hz]
      refine ⟨by unfold zPl; omega, ?_, z0, z1, z2, z3⟩
      unfold zcd; rw [z0, z1, z2, z3]
    rcases hcc with rfl | rfl | rfl | rfl | rfl | rfl | rfl | rfl
    · obtain ⟨k1, k2, k3, k4, k5, k6⟩ := key (zam p 0 - 1) (zam p 1) (zam p 2) (zam p 3) (by have := h.1; simp at this; omega) h1 h2 h3 (by rw [ez]; show p + -1 * 729 = _; omega)
      refine ⟨k1, ?_, fun _ => ⟨k3, ?_, ?_, ?_⟩⟩
      · rw [k2]; show _ = zcd p + -1 * 1000; unfold zcd; omega
      · rw [k4]; simp
      · rw [k5]; simp
      · rw [k6]; simp
    · obtain ⟨k1, k2, k3, k4, k5, k6⟩ := key (zam p 0) (zam p 1 - 1) (zam p 2) (zam p 3) h0 (by have := h.1; simp at this; omega) h2 h3 (by rw [ez]; show p + -1 * 81 = _; omega)
      refine ⟨k1, ?_, fun _ => ⟨?_, k4, ?_, ?_⟩⟩
      · rw [k2]; show _ = zcd p + -1 * 100; unfold zcd; omega
      · rw [k3]; simp
      · rw [k5]; simp
      · rw [k6]; simp
    · obtain ⟨k1, k2, k3, k4, k5, k6⟩ := key (zam p 0) (zam p 1) (zam p 2 - 1) (zam p 3) h0 h1 (by have := h.1; simp at this; omega) h3 (by rw [ez]; show p + -1 * 9 = _; omega)
      refine ⟨k1, ?_, fun _ => ⟨?_, ?_, k5, ?_⟩⟩
      · rw [k2]; show _ = zcd p + -1 * 10; unfold zcd; omega
      · rw [k3]; simp
      · rw [k4]; simp
      · rw [k6]; simp
    · obtain ⟨k1, k2, k3, k4, k5, k6⟩ := key (zam p 0) (zam p 1) (zam p 2) (zam p 3 - 1) h0 h1 h2 (by have := h.1; simp at this; omega) (by rw [ez]; show p + -1 * 1 = _; omega)
      refine ⟨k1, ?_, fun _ => ⟨?_, ?_, ?_, k6⟩⟩
      · rw [k2]; show _ = zcd p + -1 * 1; unfold zcd; omega
      · rw [k3]; simp
      · rw [k4]; simp
      · rw [k5]; simp
    · obtain ⟨k1, k2, k3, k4, k5, k6⟩ := key (zam p 0 + 1) (zam p 1) (zam p 2) (zam p 3) (by have := h.2; simp at this; omega) h1 h2 h3 (by rw [ez]; show p + 1 * 729 = _; omega)
      refine ⟨k1, ?_, fun _ => ⟨k3, ?_, ?_, ?_⟩⟩
      · rw [k2]; show _ = zcd p + 1 * 1000; unfold zcd; omega
      · rw [k4]; simp
      · rw [k5]; simp
      · rw [k6]; simp
    · obtain ⟨k1, k2, k3, k4, k5, k6⟩ := key (zam p 0) (zam p 1 + 1) (zam p 2) (zam p 3) h0 (by have := h.2; simp at this; omega) h2 h3 (by rw [ez]; show p + 1 * 81 = _; omega)
      refine ⟨k1, ?_, fun _ => ⟨?_, k4, ?_, ?_⟩⟩
      · rw [k2]; show _ = zcd p + 1 * 100; unfold zcd; omega
      · rw [k3]; simp
      · rw [k5]; simp
      · rw [k6]; simp
    · obtain ⟨k1, k2, k3, k4, k5, k6⟩ := key (zam p 0) (zam p 1) (zam p 2 + 1) (zam p 3) h0 h1 (by have := h.2; simp at this; omega) h3 (by rw [ez]; show p + 1 * 9 = _; omega)
      refine ⟨k1, ?_, fun _ => ⟨?_, ?_, k5, ?_⟩⟩
      · rw [k2]; show _ = zcd p + 1 * 10; unfold zcd; omega
      · rw [k3]; simp
      · rw [k4]; simp
      · rw [k6]; simp
    · obtain ⟨k1, k2, k3, k4, k5, k6⟩ := key (zam p 0) (zam p 1) (zam p 2) (zam p 3 + 1) h0 h1 h2 (by have := h.2; simp at this; omega) (by rw [ez]; show p + 1 * 1 = _; omega)
      refine ⟨k1, ?_, fun _ => ⟨?_, ?_, ?_, k6⟩⟩
      · rw [k2]; show _ = zcd p + 1 * 1; unfold zcd; omega
      · rw [k3]; simp
      · rw [k4]; simp
      · rw [k5]; simp
  · left; exact if_neg h
def zrank (how p : Int) : Int := if how = 0 then (8 - zam p 3) * 100 + ztot p else if how = 1 then ztot p * 100 + 8 - zam p 3 else zam p 3 * 100 + ztot p
section
variable {G : zG} {ph : Bool} {μ : zM} {F : Int → zM → Prop}
theorem kX10_greatestDivisor {a b : Nat} (ha : a < 8192) (hb : b < 8192) (hab : a ≤ b) (hb0 : 0 < b) (h : F (Nat.gcd a b : Int) μ) : qX10_greatestDivisor G ph a b μ F := by
  refine eX10_greatestDivisor fun J C => rX10_greatestDivisor_e C _ _ ?_
  have one : ∀ (g l : Nat) (n : Int), 0 ≤ n → n < 100 → g < 8192 → l < 8192 → (l = 0 → F (g : Int) μ) → (0 < l → J 7 ([none, none, some (zI (l : Int)), some (zI ((g % l : Nat) : Int)), some (zI (n + 1)), none], [], μ, 0, 0)) → J 7 ([none, none, some (zI (g : Int)), some (zI (l : Int)), some (zI n), none], [], μ, 0, 0) := by
    intro g l n h0 h1 h2 h3 k0 k1
    refine rX10_greatestDivisor_7 C _ _ _ ⟨by constructor <;> omega, fun q => absurd q (by omega), fun _ => ⟨by constructor <;> omega, fun q => k0 (by omega), fun q => ⟨⟨by omega, by omega⟩, ⟨by omega, by omega⟩, ?_⟩⟩⟩
    rw [← Int.natCast_emod]
    exact k1 (by omega)
  have key : ∀ (k : Nat) (g l : Nat) (n : Int), 0 ≤ n → n + 2 * k < 90 → g < 2 ^ k → g < 8192 → l ≤ g → 0 < g → Nat.gcd g l = Nat.gcd a b → J 7 ([none, none, some (zI (g : Int)), some (zI (l : Int)), some (zI n), none], [], μ, 0, 0) := by
    intro k
    induction k with
    | zero => intro g l n _ _ h2 _ _ h3; simp at h2; omega
    | succ k ih =>
      intro g l n h0 h1 h2 h3 h4 h5 h6
      refine one g l n h0 (by omega) h3 (by omega) (fun e => ?_) (fun e => ?_)
      · rw [e, Nat.gcd_zero_right] at h6; rw [h6]; exact h
      · have hm := zhalf e h4
        have hm2 := Nat.mod_lt g e
        refine one l (g % l) (n + 1) (by omega) (by omega) (by omega) (by omega) (fun e2 => ?_) (fun e2 => ?_)
        · rw [Nat.gcd_comm, Nat.gcd_rec, e2, Nat.gcd_zero_left] at h6; rw [h6]; exact h
        · refine ih (g % l) (l % (g % l)) (n + 1 + 1) (by omega) (by omega) (by rw [Nat.pow_succ] at h2; omega) (by omega) (Nat.le_of_lt (Nat.mod_lt l e2)) e2 ?_
          rw [Nat.gcd_comm, ← Nat.gcd_rec, ← Nat.gcd_rec, Nat.gcd_comm]; exact h6
  refine one a b 0 (by decide) (by decide) ha hb (fun e => absurd e (by omega)) (fun e => ?_)
  refine key 13 b (a % b) (0 + 1) (by decide) (by decide) hb hb (Nat.le_of_lt (Nat.mod_lt a hb0)) hb0 ?_
  rw [Nat.gcd_comm b, ← Nat.gcd_rec, Nat.gcd_comm]
theorem kX11_common {a b : Nat} (ha : a < 8192) (hb : b < 8192) (hab : a ≤ b) (hb0 : 0 < b) (h : F (Nat.gcd a b : Int) μ) : qX11_common G ph 60 a b μ F := by
  have one : ∀ (g l d : Nat), g < 8192 → l < 8192 → 0 < d → (l = 0 → F (g : Int) μ) → (0 < l → qX11_common G ph (d - 1) (l : Int) ((g % l : Nat) : Int) μ F) → qX11_common G ph d (g : Int) (l : Int) μ F := by
    intro g l d h2 h3 hd k0 k1
    refine eX11_common fun J C => rX11_common_e C _ _ ⟨by constructor <;> omega, fun q => ⟨⟨by omega, by omega⟩, ⟨by omega, by omega⟩, d - 1, by omega, ?_⟩, fun q => k0 (by omega)⟩
    rw [← Int.natCast_emod]
    exact k1 (by omega)
  have key : ∀ (k : Nat) (g l d : Nat), 2 * k < d → g < 2 ^ k → g < 8192 → l ≤ g → 0 < g → Nat.gcd g l = Nat.gcd a b → qX11_common G ph d (g : Int) (l : Int) μ F := by
    intro k
    induction k with
    | zero => intro g l d _ h2 _ _ h3; simp at h2; omega
    | succ k ih =>
      intro g l d h1 h2 h3 h4 h5 h6
      refine one g l d h3 (by omega) (by omega) (fun e => ?_) (fun e => ?_)
      · rw [e, Nat.gcd_zero_right] at h6; rw [h6]; exact h
      · have hm := zhalf e h4
        have hm2 := Nat.mod_lt g e
        refine one l (g % l) (d - 1) (by omega) (by omega) (by omega) (fun e2 => ?_) (fun e2 => ?_)
        · rw [Nat.gcd_comm, Nat.gcd_rec, e2, Nat.gcd_zero_left] at h6; rw [h6]; exact h
        · refine ih (g % l) (l % (g % l)) (d - 1 - 1) (by omega) (by rw [Nat.pow_succ] at h2; omega) (by omega) (Nat.le_of_lt (Nat.mod_lt l e2)) e2 ?_
          rw [Nat.gcd_comm, ← Nat.gcd_rec, ← Nat.gcd_rec, Nat.gcd_comm]; exact h6
  refine one a b 60 ha hb (by decide) (fun e => absurd e (by omega)) (fun e => ?_)
  refine key 13 b (a % b) (60 - 1) (by decide) hb hb (Nat.le_of_lt (Nat.mod_lt a hb0)) hb0 ?_
  rw [Nat.gcd_comm b, ← Nat.gcd_rec, Nat.gcd_comm]
theorem kX10_folded {x m t : Int} (hx : 0 ≤ x ∧ x ≤ 400) (hm : 0 ≤ m ∧ m ≤ 400) (ht : 0 ≤ t ∧ t ≤ 8) (h : F (zfold x m t) μ) : qX10_folded G ph x m t μ F := by
  have hb := zmul8 (a := x - m) (b := 8 - t) (A := 400) (by omega) (by omega) (by omega) (by omega)
  exact eX10_folded fun J C => rX10_folded_e C _ _ _ ⟨by constructor <;> omega, h⟩
theorem kX10_greatestChange {p q : Int} (hp : zPl p) (hq : zPl q) (h : F (zgc p q) μ) : qX10_greatestChange G ph p q μ F := by
  refine eX10_greatestChange fun J C => rX10_greatestChange_e C _ _ ?_
  have step : ∀ n : Nat, n < 4 → J 4 ([some (zI p), some (zI q), some (zI (zgcn p q (n + 1))), some (zI ((n : Int) + 1))], [], μ, 0, 0) → J 4 ([some (zI p), some (zI q), some (zI (zgcn p q n)), some (zI (n : Int))], [], μ, 0, 0) := by
    intro n hn h
    have h1 := zam_r p n; have h2 := zam_r q n; have h3 := zgcn_r p q n
    exact rX10_greatestChange_4 C _ _ _ _ ⟨by constructor <;> omega, fun c => absurd c (by omega), fun _ => kX10_am hp (by omega) (by omega) (kX10_am hq (by omega) (by omega) ⟨by constructor <;> omega, by constructor <;> omega, by constructor <;> omega, h⟩)⟩
  exact step 0 (by decide) (step 1 (by decide) (step 2 (by decide) (step 3 (by decide) (rX10_greatestChange_4 C _ _ _ _ ⟨by decide, fun _ => h, fun c => absurd (by decide) c⟩))))
theorem kX10_changed {p c : Int} (hp : zPl p) (hc : 0 ≤ c ∧ c < 8) (h : F (zchg p c) μ) : qX10_changed G ph p c μ F := by
  have ha := zam_r p (c % 4)
  refine eX10_changed fun J C => rX10_changed_e C _ _ ⟨⟨by omega, by omega⟩, by constructor <;> omega, fun h4 => kX10_am hp (by omega) (by omega) (kX10_isIn (by constructor <;> omega) (by decide) (by decide) (fun k => ⟨by decide, fun _ => ⟨⟨by omega, by omega⟩, ?_⟩, fun q => absurd q (by decide)⟩) (fun k => ⟨by decide, fun q => absurd rfl q, fun _ => ?_⟩)), fun h4 => kX10_am hp (by omega) (by omega) (kX10_isIn (by constructor <;> omega) (by decide) (by decide) (fun k => ⟨by decide, fun _ => ⟨⟨by omega, by omega⟩, ?_⟩, fun q => absurd q (by decide)⟩) (fun k => ⟨by decide, fun q => absurd rfl q, fun _ => ?_⟩))⟩
  · unfold zchg at h; rw [if_neg (show ¬ c < 4 by omega), if_pos k] at h; exact h
  · unfold zchg at h; rw [if_neg (show ¬ c < 4 by omega), if_neg k] at h; exact h
  · unfold zchg at h; rw [if_pos (show c < 4 by omega), if_pos k] at h; exact h
  · unfold zchg at h; rw [if_pos (show c < 4 by omega), if_neg k] at h; exact h
theorem kX10_rank {how p : Int} (hh : 0 ≤ how ∧ how ≤ 2) (hp : zPl p) (h : F (zrank how p) μ) : qX10_rank G ph how p μ F := by
  refine eX10_rank fun J C => rX10_rank_e C _ _ (kX10_am hp (by decide) (by decide) (kX10_totalOf hp ⟨by constructor <;> omega, fun c => ⟨fun c2 => ?_, fun c2 => ?_⟩, fun c => ?_⟩))
  · unfold zrank at h; rw [if_neg c, if_neg c2] at h; exact h
  · unfold zrank at h; rw [if_neg c, if_pos c2] at h; exact h
  · unfold zrank at h; rw [if_pos c] at h; exact h
theorem kX11_rankOf {how p : Int} (hh : 0 ≤ how ∧ how ≤ 2) (h : F (zrank how p) μ) : qX11_rankOf G ph how (zcd p) μ F := by
  refine eX11_rankOf fun J C => rX11_rankOf_e C _ _ (kX11_am (by decide) (by decide) (kX11_totalOf ⟨by constructor <;> omega, fun c => ⟨fun c2 => ?_, fun c2 => ?_⟩, fun c => ?_⟩))
  · unfold zrank at h; rw [if_neg c, if_neg c2] at h; rw [Int.mul_comm 100]; exact h
  · unfold zrank at h; rw [if_neg c, if_pos c2] at h; rw [Int.mul_comm 100]; exact h
  · unfold zrank at h; rw [if_pos c] at h; rw [Int.mul_comm 100]; exact h
/-- the turn of the reference as a change of the class -/
def zturn (t : Int) : Int := if t < 4 then t else 11 - t
theorem kX11_neighbour {p t : Int} (hp : zPl p) (ht : 0 ≤ t ∧ t < 8) (h : F (if zchg p (zturn t) = -1 then -1 else zcd (zchg p (zturn t))) μ) : qX11_neighbour G ph (zcd p) t μ F := by
  have hz := zchg_pl hp (c := zturn t) (by unfold zturn; split <;> omega)
  by_cases h4 : t < 4
  · have et : zturn t = t := if_pos h4
    rw [et] at h hz
    have e4 : t % 4 = t := by omega
    have ha := zam_r p t
    refine eX11_neighbour fun J C => rX11_neighbour_e C _ _ ⟨by constructor <;> omega, fun q => absurd q (by omega), fun _ => kX11_am (by omega) (by omega) ⟨fun q => absurd q (by omega), fun _ => ⟨by constructor <;> omega, fun c => ⟨⟨by omega, by omega⟩, ?_⟩, fun c => ?_⟩⟩⟩
    · have hn : zchg p t = p + -1 * zta 1 t := by
        unfold zchg; rw [if_pos h4, e4, if_pos (by omega)]
      have hz4 := zta_4 (k := 1) (by omega) ht.1 h4
      rcases hz with e | ⟨z1, z2, -⟩
      · exfalso
        have := zpl_e hp
        have h0 := zam_r p 0; have h1 := zam_r p 1; have h2 := zam_r p 2; have h3 := zam_r p 3
        have hi : t = 0 ∨ t = 1 ∨ t = 2 ∨ t = 3 := by omega
        rw [hn] at e
        rcases hi with rfl | rfl | rfl | rfl
        · rw [zt10] at e; omega
        · rw [zt11] at e; omega
        · rw [zt12] at e; omega
        · rw [zt13] at e; omega
      · rw [if_neg (by obtain ⟨q, -⟩ := z1; omega), z2, if_pos h4, e4] at h
        rw [show zcd p - zta 8 t = zcd p + -1 * zta 8 t by omega]
        exact h
    · have hn : zchg p t = -1 := by
        unfold zchg; rw [if_pos h4, e4, if_neg (by omega)]
      rw [if_pos hn] at h
      exact h
  · have et : zturn t = 11 - t := if_neg h4
    rw [et] at h hz
    have e4 : (11 - t) % 4 = 7 - t := by omega
    have e5 : ¬ 11 - t < 4 := by omega
    have ha := zam_r p (7 - t)
    refine eX11_neighbour fun J C => rX11_neighbour_e C _ _ ⟨by constructor <;> omega, fun _ => kX11_am (by omega) (by omega) ⟨fun _ => ⟨by constructor <;> omega, fun c => ⟨⟨by omega, by omega⟩, ?_⟩, fun c => ?_⟩, fun q => absurd q (by omega)⟩, fun q => absurd q (by omega)⟩
    · have hn : zchg p (11 - t) = p + 1 * zta 1 (7 - t) := by
        unfold zchg; rw [if_neg e5, e4, if_pos (by omega)]
      have hz4 := zta_4 (k := 1) (i := 7 - t) (by omega) (by omega) (by omega)
      rcases hz with e | ⟨z1, z2, -⟩
      · exfalso
        have := hp.1
        rw [hn] at e; omega
      · rw [if_neg (by obtain ⟨q, -⟩ := z1; omega), z2, if_neg e5, e4] at h
        rw [show zcd p + zta 8 (7 - t) = zcd p + 1 * zta 8 (7 - t) by omega]
        exact h
    · have hn : zchg p (11 - t) = -1 := by
        unfold zchg; rw [if_neg e5, e4, if_neg (by omega)]
      rw [if_pos hn] at h
      exact h
end
