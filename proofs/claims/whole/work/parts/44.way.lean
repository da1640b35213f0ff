/-! the way of a place: its patches and how much each counts -/
theorem znfor {N : Nat} {P : Nat → Prop} (hend : P N) (hstep : ∀ n, n < N → P (n + 1) → P n) : P 0 := by
  have h : ∀ (d n : Nat), n + d = N → P n := by
    intro d
    induction d with
    | zero => intro n he; rw [show n = N by omega]; exact hend
    | succ d ih => intro n he; exact hstep n (by omega) (ih (n + 1) (by omega))
  exact h N 0 (by omega)
/-- what may change from μ to μ': the numbers of P -/
def zsm (P : Nat → Int → Prop) (μ μ' : zM) : Prop := (∀ b j, ¬ P b j → zi μ' b j = zi μ b j) ∧ zr μ' = zr μ ∧ zh μ' = zh μ ∧ zn μ' = zn μ
theorem zsm.refl (P : Nat → Int → Prop) (μ : zM) : zsm P μ μ := ⟨fun _ _ _ => rfl, rfl, rfl, rfl⟩
theorem zsm.up {P : Nat → Int → Prop} {μ μ' : zM} (h : zsm P μ μ') {a : Nat} {i : Int} (v : Int) (ha : P a i) : zsm P μ (zup μ' a i v) :=
  ⟨fun b j hb => by
    rw [zi_up, if_neg (fun q => hb (by rw [q.1, q.2]; exact ha))]
    exact h.1 b j hb, h.2.1, h.2.2.1, h.2.2.2⟩
theorem zsm.trans {P : Nat → Int → Prop} {μ μ' μ'' : zM} (h : zsm P μ μ') (h2 : zsm P μ' μ'') : zsm P μ μ'' :=
  ⟨fun b j hb => (h2.1 b j hb).trans (h.1 b j hb), h2.2.1.trans h.2.1, h2.2.2.1.trans h.2.2.1, h2.2.2.2.trans h.2.2.2⟩
theorem zsm.mono {P Q : Nat → Int → Prop} {μ μ' : zM} (h : zsm P μ μ') (hq : ∀ b j, P b j → Q b j) : zsm Q μ μ' :=
  ⟨fun b j hb => h.1 b j (fun q => hb (hq b j q)), h.2⟩
theorem zi_at {μ : zM} {a : Nat} {i v : Int} : zi (zup μ a i v) a i = v := by rw [zi_up, if_pos ⟨rfl, rfl⟩]
theorem zi_off {μ : zM} {a b : Nat} {i j v : Int} (h : ¬ (b = a ∧ j = i)) : zi (zup μ a i v) b j = zi μ b j := by rw [zi_up, if_neg h]
def zlvl (p i : Int) : Int := if zam p i < 4 then 0 else 1
def zgrn (f : Int → Int) : Nat → Int
  | 0 => 0
  | n + 1 => if f ((n : Int) + 1) ≤ f (zgrn f n) then zgrn f n else (n : Int) + 1
def zgr (f : Int → Int) : Int := zgrn f 3
def zrs (p : Int) : Nat → Int → Int
  | 0, i => zam p i - 4 * zlvl p i
  | k + 1, i => if i = zgr (zrs p k) then -1 else zrs p k i
def zip (p : Int) : Nat → Int
  | 0 => 0
  | n + 1 => zip p n + zlvl p n * zta 2 n
def zpt (p : Int) : Nat → Int
  | 0 => zip p 4
  | k + 1 => zpt p k + zta 2 (zgr (zrs p k))
def zbf (p : Int) : Nat → Int
  | 0 => 4
  | k + 1 => zrs p k (zgr (zrs p k))
def zcnt (p : Int) (k : Nat) : Int := if k < 4 then zbf p k - zbf p (k + 1) else zbf p k
theorem zgr_c (f : Int → Int) : (zgr f = 0 ∧ f 1 ≤ f 0 ∧ f 2 ≤ f 0 ∧ f 3 ≤ f 0) ∨ (zgr f = 1 ∧ f 0 < f 1 ∧ f 2 ≤ f 1 ∧ f 3 ≤ f 1) ∨ (zgr f = 2 ∧ f 0 < f 2 ∧ f 1 < f 2 ∧ f 3 ≤ f 2) ∨ (zgr f = 3 ∧ f 0 < f 3 ∧ f 1 < f 3 ∧ f 2 < f 3) := by
  have e1 : zgrn f 1 = if f 1 ≤ f 0 then 0 else 1 := rfl
  have e2 : zgrn f 2 = if f 2 ≤ f (zgrn f 1) then zgrn f 1 else 2 := rfl
  have e3 : zgr f = if f 3 ≤ f (zgrn f 2) then zgrn f 2 else 3 := rfl
  by_cases c1 : f 1 ≤ f 0
  · rw [if_pos c1] at e1
    rw [e1] at e2
    by_cases c2 : f 2 ≤ f 0
    · rw [if_pos c2] at e2
      rw [e2] at e3
      by_cases c3 : f 3 ≤ f 0
      · rw [if_pos c3] at e3; omega
      · rw [if_neg c3] at e3; omega
    · rw [if_neg c2] at e2
      rw [e2] at e3
      by_cases c3 : f 3 ≤ f 2
      · rw [if_pos c3] at e3; omega
      · rw [if_neg c3] at e3; omega
  · rw [if_neg c1] at e1
    rw [e1] at e2
    by_cases c2 : f 2 ≤ f 1
    · rw [if_pos c2] at e2
      rw [e2] at e3
      by_cases c3 : f 3 ≤ f 1
      · rw [if_pos c3] at e3; omega
      · rw [if_neg c3] at e3; omega
    · rw [if_neg c2] at e2
      rw [e2] at e3
      by_cases c3 : f 3 ≤ f 2
      · rw [if_pos c3] at e3; omega
      · rw [if_neg c3] at e3; omega
theorem zgr_r (f : Int → Int) : 0 ≤ zgr f ∧ zgr f < 4 := by
  have := zgr_c f; omega
theorem zrs0_r (p i : Int) : 0 ≤ zrs p 0 i ∧ zrs p 0 i ≤ 4 := by
  have := zam_r p i
  show 0 ≤ zam p i - 4 * zlvl p i ∧ zam p i - 4 * zlvl p i ≤ 4
  unfold zlvl
  split <;> omega
theorem zrs_r (p i : Int) : ∀ k, -1 ≤ zrs p k i ∧ zrs p k i ≤ 4
  | 0 => by have := zrs0_r p i; omega
  | k + 1 => by
    have := zrs_r p i k
    unfold zrs
    split <;> omega
/-- the four inks in the order of their rests -/
theorem zrs_all (p : Int) : ∃ a b c d : Int, zgr (zrs p 0) = a ∧ zgr (zrs p 1) = b ∧ zgr (zrs p 2) = c ∧ zgr (zrs p 3) = d ∧ (0 ≤ a ∧ a < 4) ∧ (0 ≤ b ∧ b < 4) ∧ (0 ≤ c ∧ c < 4) ∧ (0 ≤ d ∧ d < 4) ∧ a ≠ b ∧ a ≠ c ∧ a ≠ d ∧ b ≠ c ∧ b ≠ d ∧ c ≠ d ∧ zbf p 1 = zrs p 0 a ∧ zbf p 2 = zrs p 0 b ∧ zbf p 3 = zrs p 0 c ∧ zbf p 4 = zrs p 0 d ∧ zrs p 0 b ≤ zrs p 0 a ∧ zrs p 0 c ≤ zrs p 0 b ∧ zrs p 0 d ≤ zrs p 0 c := by
  have r0 := zrs0_r p 0; have r1 := zrs0_r p 1; have r2 := zrs0_r p 2; have r3 := zrs0_r p 3
  have c0 := zgr_c (zrs p 0); have c1 := zgr_c (zrs p 1); have c2 := zgr_c (zrs p 2); have c3 := zgr_c (zrs p 3)
  have e1 : ∀ i, zrs p 1 i = if i = zgr (zrs p 0) then -1 else zrs p 0 i := fun _ => rfl
  have e2 : ∀ i, zrs p 2 i = if i = zgr (zrs p 1) then -1 else zrs p 1 i := fun _ => rfl
  have e3 : ∀ i, zrs p 3 i = if i = zgr (zrs p 2) then -1 else zrs p 2 i := fun _ => rfl
  have b1 : zbf p 1 = zrs p 0 (zgr (zrs p 0)) := rfl
  have b2 : zbf p 2 = zrs p 1 (zgr (zrs p 1)) := rfl
  have b3 : zbf p 3 = zrs p 2 (zgr (zrs p 2)) := rfl
  have b4 : zbf p 4 = zrs p 3 (zgr (zrs p 3)) := rfl
  generalize zgr (zrs p 0) = a at *
  generalize zgr (zrs p 1) = b at *
  generalize zgr (zrs p 2) = c at *
  generalize zgr (zrs p 3) = d at *
  have e20 := e2 0; have e21 := e2 1; have e22 := e2 2; have e23 := e2 3
  have e10 := e1 0; have e11 := e1 1; have e12 := e1 2; have e13 := e1 3
  have e30 := e3 0; have e31 := e3 1; have e32 := e3 2; have e33 := e3 3
  refine ⟨a, b, c, d, rfl, rfl, rfl, rfl, ?_⟩
  have ha : a = 0 ∨ a = 1 ∨ a = 2 ∨ a = 3 := by omega
  have hb : b = 0 ∨ b = 1 ∨ b = 2 ∨ b = 3 := by omega
  have hc : c = 0 ∨ c = 1 ∨ c = 2 ∨ c = 3 := by omega
  have hd : d = 0 ∨ d = 1 ∨ d = 2 ∨ d = 3 := by omega
  clear e1 e2 e3
  have hab : a ≠ b := by
    intro h; subst h
    rcases ha with rfl | rfl | rfl | rfl <;> simp at e10 e11 e12 e13 <;> omega
  have hac : a ≠ c := by
    intro h; subst h
    rcases ha with rfl | rfl | rfl | rfl <;> rcases hb with rfl | rfl | rfl | rfl <;> simp at e10 e11 e12 e13 e20 e21 e22 e23 hab <;> omega
  have hbc : b ≠ c := by
    intro h; subst h
    rcases ha with rfl | rfl | rfl | rfl <;> rcases hb with rfl | rfl | rfl | rfl <;> simp at e10 e11 e12 e13 e20 e21 e22 e23 hab <;> omega
  rcases ha with rfl | rfl | rfl | rfl <;> rcases hb with rfl | rfl | rfl | rfl <;> first | exact absurd rfl hab | skip
  all_goals rcases hc with rfl | rfl | rfl | rfl <;> first | exact absurd rfl hac | exact absurd rfl hbc | skip
  all_goals rcases hd with rfl | rfl | rfl | rfl <;> simp at e10 e11 e12 e13 e20 e21 e22 e23 e30 e31 e32 e33 <;> omega
theorem zlvl_r (p i : Int) : zlvl p i = 0 ∨ zlvl p i = 1 := by
  unfold zlvl
  split <;> omega
theorem zip_r (p : Int) : 0 ≤ zip p 4 ∧ zip p 4 ≤ 40 := by
  have h0 := zlvl_r p 0; have h1 := zlvl_r p 1; have h2 := zlvl_r p 2; have h3 := zlvl_r p 3
  have e : zip p 4 = 0 + zlvl p 0 * zta 2 0 + zlvl p 1 * zta 2 1 + zlvl p 2 * zta 2 2 + zlvl p 3 * zta 2 3 := rfl
  rw [e, zt20, zt21, zt22, zt23]
  omega
theorem zpt_r (p : Int) {k : Nat} (hk : k ≤ 4) : 0 ≤ zpt p k ∧ zpt p k ≤ 80 := by
  obtain ⟨a, b, c, d, ea, eb, ec, ed, ha, hb, hc, hd, h1, h2, h3, h4, h5, h6, -⟩ := zrs_all p
  have hi := zip_r p
  have e0 : zpt p 0 = zip p 4 := rfl
  have e1 : zpt p 1 = zpt p 0 + zta 2 (zgr (zrs p 0)) := rfl
  have e2 : zpt p 2 = zpt p 1 + zta 2 (zgr (zrs p 1)) := rfl
  have e3 : zpt p 3 = zpt p 2 + zta 2 (zgr (zrs p 2)) := rfl
  have e4 : zpt p 4 = zpt p 3 + zta 2 (zgr (zrs p 3)) := rfl
  rw [ea] at e1; rw [eb] at e2; rw [ec] at e3; rw [ed] at e4
  have hz : zta 2 a + zta 2 b + zta 2 c + zta 2 d = 40 ∧ 0 ≤ zta 2 a ∧ 0 ≤ zta 2 b ∧ 0 ≤ zta 2 c ∧ 0 ≤ zta 2 d := by
    have ha' : a = 0 ∨ a = 1 ∨ a = 2 ∨ a = 3 := by omega
    have hb' : b = 0 ∨ b = 1 ∨ b = 2 ∨ b = 3 := by omega
    have hc' : c = 0 ∨ c = 1 ∨ c = 2 ∨ c = 3 := by omega
    have hd' : d = 0 ∨ d = 1 ∨ d = 2 ∨ d = 3 := by omega
    rcases ha' with rfl | rfl | rfl | rfl <;> rcases hb' with rfl | rfl | rfl | rfl <;> first | exact absurd rfl h1 | skip
    all_goals rcases hc' with rfl | rfl | rfl | rfl <;> first | exact absurd rfl h2 | exact absurd rfl h4 | skip
    all_goals rcases hd' with rfl | rfl | rfl | rfl <;> first | exact absurd rfl h3 | exact absurd rfl h5 | exact absurd rfl h6 | decide
  have hk' : k = 0 ∨ k = 1 ∨ k = 2 ∨ k = 3 ∨ k = 4 := by omega
  rcases hk' with rfl | rfl | rfl | rfl | rfl <;> omega
theorem zcnt_r (p : Int) : 0 ≤ zcnt p 0 ∧ 0 ≤ zcnt p 1 ∧ 0 ≤ zcnt p 2 ∧ 0 ≤ zcnt p 3 ∧ 0 ≤ zcnt p 4 ∧ zcnt p 0 + zcnt p 1 + zcnt p 2 + zcnt p 3 + zcnt p 4 = 4 := by
  obtain ⟨a, b, c, d, -, -, -, -, -, -, -, -, -, -, -, -, -, -, h1, h2, h3, h4, l1, l2, l3⟩ := zrs_all p
  have r1 := zrs0_r p a; have r2 := zrs0_r p d
  have e0 : zcnt p 0 = 4 - zbf p 1 := rfl
  have e1 : zcnt p 1 = zbf p 1 - zbf p 2 := rfl
  have e2 : zcnt p 2 = zbf p 2 - zbf p 3 := rfl
  have e3 : zcnt p 3 = zbf p 3 - zbf p 4 := rfl
  have e4 : zcnt p 4 = zbf p 4 := rfl
  omega
/-- colours by lights -/
def zcl (L : Int → Int) (p b : Int) : Nat → Int
  | 0 => 0
  | n + 1 => zcl L p b n + zcnt p n * L (3 * zpt p n + b)
def zcol (L : Int → Int) (p b : Int) : Int := zcl L p b 5
theorem zcol_r {L : Int → Int} (hL : ∀ i, 0 ≤ i → i < 243 → 0 ≤ L i ∧ L i ≤ 100) {p b : Int} (hb : 0 ≤ b ∧ b < 3) : 0 ≤ zcol L p b ∧ zcol L p b ≤ 400 := by
  obtain ⟨h0, h1, h2, h3, h4, hs⟩ := zcnt_r p
  have e : zcol L p b = 0 + zcnt p 0 * L (3 * zpt p 0 + b) + zcnt p 1 * L (3 * zpt p 1 + b) + zcnt p 2 * L (3 * zpt p 2 + b) + zcnt p 3 * L (3 * zpt p 3 + b) + zcnt p 4 * L (3 * zpt p 4 + b) := rfl
  have q : ∀ k : Nat, k ≤ 4 → 0 ≤ L (3 * zpt p k + b) ∧ L (3 * zpt p k + b) ≤ 100 := fun k hk => by
    have := zpt_r p hk
    exact hL _ (by omega) (by omega)
  have m : ∀ k : Nat, k ≤ 4 → 0 ≤ zcnt p k → 0 ≤ zcnt p k * L (3 * zpt p k + b) ∧ zcnt p k * L (3 * zpt p k + b) ≤ zcnt p k * 100 := fun k hk hc =>
    ⟨Int.mul_nonneg hc (q k hk).1, Int.mul_le_mul_of_nonneg_left (q k hk).2 hc⟩
  have m0 := m 0 (by decide) h0; have m1 := m 1 (by decide) h1; have m2 := m 2 (by decide) h2; have m3 := m 3 (by decide) h3; have m4 := m 4 (by decide) h4
  rw [e]
  omega
section
variable {G : zG} {μ : zM}
theorem kX0_greatestRest {F : Int → zM → Prop} {a : Nat} (ha : zIsCh a) {f : Int → Int} (hf : ∀ i, 0 ≤ i → i < 4 → zi μ (a + 5) i = f i) (hr : ∀ i, 0 ≤ i → i < 4 → -1 ≤ f i ∧ f i ≤ 4) (h : F (zgr f) μ) : qX0_greatestRest G a μ F := by
  refine eX0_greatestRest fun J C => rX0_greatestRest_e C ha ?_
  have hg : ∀ n : Nat, n ≤ 3 → 0 ≤ zgrn f n ∧ zgrn f n ≤ n := by
    intro n
    induction n with
    | zero => intro _; exact ⟨Int.le_refl _, Int.le_refl _⟩
    | succ n ih => intro hn; have := ih (by omega); unfold zgrn; split <;> omega
  refine znfor (N := 3) (P := fun n => J 4 ([some (zR (some a)), some (zI (zgrn f n)), some (zI ((n : Int) + 1))], [], μ, 0, 0)) ?_ ?_
  · exact rX0_greatestRest_4 C ha _ _ ⟨by decide, fun _ => h, fun c => absurd (by decide) c⟩
  · intro n hn hj
    have h1 := hg n (by omega)
    have h2 := hr ((n : Int) + 1) (by omega) (by omega)
    have h3 := hr (zgrn f n) h1.1 (by omega)
    refine rX0_greatestRest_4 C ha _ _ ⟨by constructor <;> omega, fun c => absurd c (by omega), fun _ => ⟨⟨by omega, by omega⟩, ⟨by omega, by omega⟩, ?_⟩⟩
    rw [hf _ (by omega) (by omega), hf _ h1.1 (by omega)]
    refine ⟨by constructor <;> omega, by constructor <;> omega, fun c => ?_, fun c => ?_⟩
    · rw [zgrn, if_pos c] at hj; exact hj
    · rw [zgrn, if_neg c] at hj; exact hj
theorem kX0_goTo {F : zM → Prop} {a : Nat} (ha : zIsCh a) {p : Int} (hp : zPl p) (h : ∀ μ', zsm (fun b _ => b = a + 3 ∨ b = a + 4 ∨ b = a + 5) μ μ' → (∀ k : Nat, k ≤ 4 → zi μ' (a + 3) k = zpt p k ∧ zi μ' (a + 4) k = zcnt p k) → F μ') : qX0_goTo G a p μ F := by
  refine eX0_goTo fun J C => rX0_goTo_e C ha _ ?_
  refine znfor (N := 4) (P := fun n => ∀ μ', zsm (fun b _ => b = a + 3 ∨ b = a + 4 ∨ b = a + 5) μ μ' → (∀ i : Int, 0 ≤ i → i < n → zi μ' (a + 5) i = zrs p 0 i) → J 4 ([some (zR (some a)), some (zI p), some (zI (zip p n)), some (zI (n : Int)), none, none], [], μ', 0, 0)) ?_ ?_ μ (zsm.refl _ _) (fun i h0 h1 => absurd h0 (by omega))
  · intro μ1 hs hi
    refine rX0_goTo_4 C ha _ _ _ ⟨by decide, fun _ => ?_, fun c => absurd (by decide) c⟩
    refine znfor (N := 4) (P := fun n => ∀ μ', zsm (fun b _ => b = a + 3 ∨ b = a + 4 ∨ b = a + 5) μ μ' → (∀ i : Int, 0 ≤ i → i < 4 → zi μ' (a + 5) i = zrs p n i) → (∀ k : Nat, k < n → zi μ' (a + 3) k = zpt p k ∧ zi μ' (a + 4) k = zcnt p k) → J 64 ([some (zR (some a)), none, some (zI (zpt p n)), some (zI (zbf p n)), some (zI (n : Int)), none], [], μ', 0, 0)) ?_ ?_ μ1 hs (fun i h0 h1 => hi i h0 (by omega)) (fun k hk => absurd hk (by omega))
    · intro μ2 hs2 hi2 hk2
      refine rX0_goTo_64 C ha _ _ _ ⟨by decide, fun _ => h _ ((hs2.up _ (by omega)).up _ (by omega)) ?_, fun c => absurd (by decide) c⟩
      intro k hk
      by_cases h4 : k = 4
      · subst h4
        exact ⟨by rw [zi_off (by omega)]; exact zi_at, zi_at⟩
      · rw [zi_off (by omega), zi_off (by omega), zi_off (by omega), zi_off (by omega)]
        exact hk2 k (by omega)
    · intro n hn hj μ2 hs2 hi2 hk2
      have hz := zgr_r (zrs p n)
      refine rX0_goTo_64 C ha _ _ _ ⟨by constructor <;> omega, fun c => absurd c (by omega), fun _ => kX0_greatestRest ha hi2 (fun i _ _ => zrs_r p i n) ⟨⟨by omega, by omega⟩, hz, ?_⟩⟩
      rw [show zi (zup (zup μ2 (a + 3) n (zpt p n)) (a + 4) n (zbf p n - zi (zup μ2 (a + 3) n (zpt p n)) (a + 5) (zgr (zrs p n)))) (a + 5) (zgr (zrs p n)) = zbf p (n + 1) by
        rw [zi_off (by omega), zi_off (by omega)]; exact hi2 _ hz.1 hz.2, show zi (zup μ2 (a + 3) n (zpt p n)) (a + 5) (zgr (zrs p n)) = zbf p (n + 1) by
        rw [zi_off (by omega)]; exact hi2 _ hz.1 hz.2]
      refine hj _ (((hs2.up _ (by omega)).up _ (by omega)).up _ (by omega)) ?_ ?_
      · intro i h0 h1
        rw [zi_up]
        by_cases hc : i = zgr (zrs p n)
        · rw [if_pos ⟨rfl, hc⟩]; exact (if_pos hc).symm
        · rw [if_neg (fun q => hc q.2), zi_off (by omega), zi_off (by omega), hi2 i h0 h1]
          exact (if_neg hc).symm
      · intro k hk
        by_cases hc : k = n
        · subst hc
          refine ⟨by rw [zi_off (by omega), zi_off (by omega)]; exact zi_at, ?_⟩
          rw [zi_off (by omega), zi_at]
          exact (if_pos hn).symm
        · rw [zi_off (by omega), zi_off (by omega), zi_off (by omega), zi_off (by omega), zi_off (by omega), zi_off (by omega)]
          exact hk2 k (by omega)
  · intro n hn hj μ1 hs hi
    have hzr := zam_r p n
    have e : ∀ i : Int, zrs p 0 i = zam p i - 4 * zlvl p i := fun _ => rfl
    refine rX0_goTo_4 C ha _ _ _ ⟨by constructor <;> omega, fun c => absurd c (by omega), fun _ => kX10_am hp (by omega) (by omega) ⟨by constructor <;> omega, fun c => ⟨⟨by omega, by omega⟩, ?_⟩, fun c => ⟨⟨by omega, by omega⟩, ?_⟩⟩⟩
    · have el : zlvl p n = 1 := if_neg (by omega)
      have hj := hj (zup μ1 (a + 5) n (zam p n - 4 * 1)) (hs.up _ (by omega)) (fun i h0 h1 => by
        by_cases hc : i = n
        · subst hc; rw [zi_at, e, el]
        · rw [zi_off (by omega)]; exact hi i h0 (by omega))
      rw [zip, el] at hj
      exact hj
    · have el : zlvl p n = 0 := if_pos (by omega)
      have hj := hj (zup μ1 (a + 5) n (zam p n - 4 * 0)) (hs.up _ (by omega)) (fun i h0 h1 => by
        by_cases hc : i = n
        · subst hc; rw [zi_at, e, el]
        · rw [zi_off (by omega)]; exact hi i h0 (by omega))
      rw [zip, el] at hj
      exact hj
end
