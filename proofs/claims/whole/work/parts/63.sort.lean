/-! counts in rows, the reference's sort -/
def zct (f : Int → Int) (a v : Int) : Nat → Int
  | 0 => 0
  | k + 1 => zct f a v k + (if f (a + k) = v then 1 else 0)
theorem zct_add (f : Int → Int) (a v : Int) (m : Nat) : ∀ k : Nat, zct f a v (m + k) = zct f a v m + zct f (a + m) v k
  | 0 => by show zct f a v m = _ + 0; omega
  | k + 1 => by
    rw [← Nat.add_assoc, zct, zct, zct_add f a v m k, show a + ((m + k : Nat) : Int) = a + m + k by omega]
    omega
theorem zct_c {f g : Int → Int} {a v : Int} : ∀ k : Nat, (∀ i : Int, a ≤ i → i < a + k → f i = g i) → zct f a v k = zct g a v k
  | 0, _ => rfl
  | k + 1, h => by rw [zct, zct, zct_c k (fun i h0 h1 => h i h0 (by omega)), h _ (by omega) (by omega)]
/-- blocks of so many are in order -/
def zbk (y : Nat) (n : Int) (f : Int → Int) : Prop := ∀ (m : Nat) (i j : Int), ((m * y : Nat) : Int) ≤ i → i < j → j < ((m * y : Nat) : Int) + y → j < n → f i ≤ f j
/-- two blocks are merged as far as a of the one and b of the other -/
def zmi (g p : Int → Int) (A M T a b : Nat) : Prop := (∀ i j : Int, (A : Int) ≤ i → i < j → j < A + a + b → p i ≤ p j) ∧ (∀ i : Int, (A : Int) ≤ i → i < A + a + b → zin64 (p i) ∧ (∀ x : Int, (A : Int) + a ≤ x → x < M → p i ≤ g x) ∧ ∀ x : Int, (M : Int) + b ≤ x → x < T → p i ≤ g x) ∧ ∀ v, zct p A v (a + b) = zct g A v a + zct g M v b
theorem zmi_put {g p : Int → Int} {A M T a b a' b' : Nat} {w : Int} (h : zmi g p A M T a b) (hz : zin64 w) (hab : a' + b' = a + b + 1) (ha : a ≤ a') (hb : b ≤ b') (hl : ∀ i : Int, (A : Int) ≤ i → i < A + a + b → p i ≤ w) (h1 : ∀ x : Int, (A : Int) + a' ≤ x → x < M → w ≤ g x) (h2 : ∀ x : Int, (M : Int) + b' ≤ x → x < T → w ≤ g x) (hc : ∀ v, zct g A v a' + zct g M v b' = zct g A v a + zct g M v b + (if w = v then 1 else 0)) : zmi g (zupd p ((A : Int) + a + b) w) A M T a' b' := by
  obtain ⟨q1, q2, q3⟩ := h
  have u : ∀ i : Int, i < A + a + b → zupd p ((A : Int) + a + b) w i = p i := fun i hi => if_neg (by omega)
  have uw : zupd p ((A : Int) + a + b) w ((A : Int) + a + b) = w := if_pos rfl
  refine ⟨fun i j hi hij hj => ?_, fun i hi hj => ?_, fun v => ?_⟩
  · by_cases c : j = A + a + b
    · rw [c, uw, u i (by omega)]; exact hl i hi (by omega)
    · rw [u i (by omega), u j (by omega)]; exact q1 i j hi hij (by omega)
  · by_cases c : i = A + a + b
    · rw [c, uw]; exact ⟨hz, h1, h2⟩
    · rw [u i (by omega)]
      obtain ⟨r1, r2, r3⟩ := q2 i hi (by omega)
      exact ⟨r1, fun x hx hx2 => r2 x (by omega) hx2, fun x hx hx2 => r3 x (by omega) hx2⟩
  · rw [hab, zct, hc v, ← q3 v, zct_c (g := p) (a + b) (fun i h0 h1 => u i (by omega))]
    rw [show (A : Int) + ((a + b : Nat) : Int) = A + a + b by omega, uw]
section
variable {G : zG} {μ : zM}
theorem kX11_sort {F : zM → Prop} {n : Nat} (hn : n ≤ 6561) {f : Int → Int} (hf : ∀ i : Int, 0 ≤ i → i < n → zi μ 169 i = f i) (hz : ∀ i : Int, 0 ≤ i → i < n → zin64 (f i)) (h : ∀ μ' g, zsm (fun b _ => b = 169 ∨ b = 170) μ μ' → (∀ i : Int, 0 ≤ i → i < n → zi μ' 169 i = g i) → (∀ i j : Int, 0 ≤ i → i < j → j < n → g i ≤ g j) → (∀ v, zct g 0 v n = zct f 0 v n) → F μ') : qX11_sort G n μ F := by
  refine eX11_sort fun J C => rX11_sort_e C _ ?_
  have main : ∀ (t e y : Nat), t + e = 14 → y = 2 ^ e → ∀ μ' g, zsm (fun b _ => b = 169 ∨ b = 170) μ μ' → (∀ i : Int, 0 ≤ i → i < n → zi μ' 169 i = g i) → (∀ i : Int, 0 ≤ i → i < n → zin64 (g i)) → zbk y n g → (∀ v, zct g 0 v n = zct f 0 v n) → J 2 ([some (zR (some 153)), some (zI (n : Int)), some (zI (y : Int)), none, none, none, none, none, none, none], [], μ', 0, 0) := by
    intro t
    induction t with
    | zero =>
      intro e y he hb μ1 g g1 f1 z1 b1 c1
      have : y = 16384 := by rw [hb, show e = 14 by omega]
      refine rX11_sort_2 C _ _ ⟨by constructor <;> omega, by constructor <;> omega, fun _ => h μ1 g g1 f1 (fun i j h0 h1 h2 => b1 0 i j (by omega) h1 (by omega) h2) c1, fun c => absurd c (by omega)⟩
    | succ t ih =>
      intro e y he hb μ1 g g1 f1 z1 b1 c1
      have hyr : 0 < y ∧ y ≤ 8192 := by
        rw [hb]
        have : e = 0 ∨ e = 1 ∨ e = 2 ∨ e = 3 ∨ e = 4 ∨ e = 5 ∨ e = 6 ∨ e = 7 ∨ e = 8 ∨ e = 9 ∨ e = 10 ∨ e = 11 ∨ e = 12 ∨ e = 13 := by omega
        rcases this with rfl | rfl | rfl | rfl | rfl | rfl | rfl | rfl | rfl | rfl | rfl | rfl | rfl | rfl <;> decide
      refine rX11_sort_2 C _ _ ⟨by constructor <;> omega, by constructor <;> omega, fun c => h μ1 g g1 f1 (fun i j h0 h1 h2 => b1 0 i j (by omega) h1 (by omega) h2) c1, fun cn => ?_⟩
      have back : ∀ (m fr : Nat), n ≤ fr → fr = m * (2 * y) → ∀ μ' p, zsm (fun b _ => b = 169 ∨ b = 170) μ μ' → (∀ i : Int, 0 ≤ i → i < n → i < fr → zi μ' 170 i = p i) → (∀ (k : Nat) (i j : Int), k < m → ((k * (2 * y) : Nat) : Int) ≤ i → i < j → j < ((k * (2 * y) : Nat) : Int) + (2 * y : Nat) → j < n → p i ≤ p j) → (∀ i : Int, 0 ≤ i → i < n → i < fr → zin64 (p i)) → (∀ v, zct p 0 v (min fr n) = zct g 0 v (min fr n)) → J 145 ([some (zR (some 153)), some (zI (n : Int)), some (zI (y : Int)), some (zI 0), none, none, none, none, none, none], [], μ', 0, 0) := by
        intro m fr hfn hfr μ2 p g2 q2 b2 z2 c2
        refine znfor (N := n) (P := fun k => ∀ μ', zsm (fun b _ => b = 169 ∨ b = 170) μ μ' → (∀ i : Int, 0 ≤ i → i < n → zi μ' 170 i = p i) → (∀ i : Int, 0 ≤ i → i < k → zi μ' 169 i = p i) → J 145 ([some (zR (some 153)), some (zI (n : Int)), some (zI (y : Int)), some (zI (k : Int)), none, none, none, none, none, none], [], μ', 0, 0)) ?_ ?_ μ2 g2 (fun i h0 h1 => q2 i h0 h1 (by omega)) (fun i h0 h1 => absurd h0 (by omega))
        · intro μ3 g3 q3 f3
          refine rX11_sort_145 C _ _ _ ⟨by constructor <;> omega, by constructor <;> omega, fun _ => ?_, fun c => absurd (Int.le_refl _) c⟩
          rw [show (y : Int) * 2 = ((2 * y : Nat) : Int) by omega]
          refine ih (e + 1) (2 * y) (by omega) (by rw [hb, Nat.pow_succ]; omega) μ3 p g3 f3 (fun i h0 h1 => z2 i h0 h1 (by omega)) (fun k i j h0 h1 h2 h3 => ?_) (fun v => ?_)
          · by_cases ck : k < m
            · exact b2 k i j ck h0 h1 h2 h3
            · exfalso
              have := Nat.mul_le_mul_right (2 * y) (show m ≤ k by omega)
              omega
          · have := c2 v
            rw [show min fr n = n by omega] at this
            rw [this]; exact c1 v
        · intro k hk hj μ3 g3 q3 f3
          refine rX11_sort_145 C _ _ _ ⟨by constructor <;> omega, by constructor <;> omega, fun c => absurd c (by omega), fun _ => ⟨by omega, hj _ (g3.up _ (by omega)) (fun i h0 h1 => by rw [zi_off (by omega)]; exact q3 i h0 h1) (fun i h0 h1 => ?_)⟩⟩
          by_cases c : i = k
          · subst c; rw [zi_at]; exact q3 _ h0 (by omega)
          · rw [zi_off (by omega)]; exact f3 i h0 (by omega)
      have pass : ∀ (s m fr : Nat), n ≤ fr + s → fr ≤ 30000 → fr = m * (2 * y) → ∀ μ' p, zsm (fun b _ => b = 169 ∨ b = 170) μ μ' → (∀ i : Int, 0 ≤ i → i < n → zi μ' 169 i = g i) → (∀ i : Int, 0 ≤ i → i < n → i < fr → zi μ' 170 i = p i) → (∀ (k : Nat) (i j : Int), k < m → ((k * (2 * y) : Nat) : Int) ≤ i → i < j → j < ((k * (2 * y) : Nat) : Int) + (2 * y : Nat) → j < n → p i ≤ p j) → (∀ i : Int, 0 ≤ i → i < n → i < fr → zin64 (p i)) → (∀ v, zct p 0 v (min fr n) = zct g 0 v (min fr n)) → J 9 ([some (zR (some 153)), some (zI (n : Int)), some (zI (y : Int)), some (zI (fr : Int)), none, none, none, none, none, none], [], μ', 0, 0) := by
        intro s
        induction s with
        | zero =>
          intro m fr hs hfr3 hfr μ2 p g2 f2 q2 b2 z2 c2
          exact rX11_sort_9 C _ _ _ ⟨by constructor <;> omega, by constructor <;> omega, fun _ => back m fr (by omega) hfr μ2 p g2 q2 b2 z2 c2, fun c => absurd c (by omega)⟩
        | succ s ihs =>
          intro m fr hs hfr3 hfr μ2 p g2 f2 q2 b2 z2 c2
          refine rX11_sort_9 C _ _ _ ⟨by constructor <;> omega, by constructor <;> omega, fun c => back m fr (by omega) hfr μ2 p g2 q2 b2 z2 c2, fun c => ⟨by constructor <;> omega, by constructor <;> omega, ?_⟩⟩
          have eM : min (n : Int) ((fr : Int) + y) = ((min n (fr + y) : Nat) : Int) := by omega
          have eT : min (n : Int) ((fr : Int) + 2 * y) = ((min n (fr + 2 * y) : Nat) : Int) := by omega
          rw [eM, eT]
          have sA : ∀ i j : Int, (fr : Int) ≤ i → i < j → j < ((min n (fr + y) : Nat) : Int) → g i ≤ g j := fun i j h0 h1 h2 => by
            have e1 : 2 * m * y = fr := by rw [hfr, Nat.mul_comm 2 m, Nat.mul_assoc]
            exact b1 (2 * m) i j (by rw [e1]; omega) h1 (by rw [e1]; omega) (by omega)
          have sB : ∀ i j : Int, ((min n (fr + y) : Nat) : Int) ≤ i → i < j → j < ((min n (fr + 2 * y) : Nat) : Int) → g i ≤ g j := fun i j h0 h1 h2 => by
            have e1 : (2 * m + 1) * y = fr + y := by rw [Nat.add_mul, hfr, Nat.mul_comm 2 m, Nat.mul_assoc, Nat.one_mul]
            exact b1 (2 * m + 1) i j (by rw [e1]; omega) h1 (by rw [e1]; omega) (by omega)
          have hM1 : fr ≤ min n (fr + y) := by omega
          have hM2 : min n (fr + y) ≤ min n (fr + 2 * y) := by omega
          have hT : min n (fr + 2 * y) ≤ n := by omega
          have hT2 : min n (fr + 2 * y) ≤ fr + 2 * y := by omega
          have hT3 : n ≤ min n (fr + 2 * y) ∨ fr + 2 * y ≤ min n (fr + 2 * y) := by omega
          generalize min n (fr + y) = M at *
          generalize min n (fr + 2 * y) = T at *
          have inner : ∀ (r a b : Nat), fr + a + b + r = T → fr + a ≤ M → M + b ≤ T → ∀ μ' p', zsm (fun b _ => b = 169 ∨ b = 170) μ μ' → (∀ i : Int, 0 ≤ i → i < n → zi μ' 169 i = g i) → (∀ i : Int, 0 ≤ i → i < fr + a + b → zi μ' 170 i = p' i) → (∀ i : Int, i < fr → p' i = p i) → zmi g p' fr M T a b → J 44 ([some (zR (some 153)), some (zI (n : Int)), some (zI (y : Int)), some (zI (fr : Int)), some (zI (M : Int)), some (zI (T : Int)), some (zI ((fr : Int) + a)), some (zI ((M : Int) + b)), some (zI ((fr : Int) + a + b)), none], [], μ', 0, 0) := by
            intro r
            induction r with
            | zero =>
              intro a b hr ha hb' μ3 p' g3 f3 q3 e3 m3
              refine rX11_sort_44 C _ _ _ _ _ _ _ _ ⟨by constructor <;> omega, by constructor <;> omega, fun _ => ?_, fun c => absurd (by omega) c⟩
              rw [show (fr : Int) + 2 * y = ((fr + 2 * y : Nat) : Int) by omega]
              obtain ⟨t1, t2, t3⟩ := m3
              refine ihs (m + 1) (fr + 2 * y) (by omega) (by omega) (by rw [hfr, Nat.add_mul, Nat.one_mul]) μ3 p' g3 f3 (fun i h0 h1 h2 => q3 i h0 (by omega)) (fun k i j h0 h1 h2 h3 h4 => ?_) (fun i h0 h1 h2 => ?_) (fun v => ?_)
              · by_cases ck : k = m
                · subst ck
                  rw [← hfr] at h1 h3
                  exact t1 i j h1 h2 (by omega)
                · have hk := Nat.mul_le_mul_right (2 * y) (show k + 1 ≤ m by omega)
                  rw [Nat.add_mul, Nat.one_mul, ← hfr] at hk
                  rw [e3 i (by omega), e3 j (by omega)]
                  exact b2 k i j (by omega) h1 h2 h3 h4
              · by_cases ci : i < fr
                · rw [e3 i ci]; exact z2 i h0 h1 ci
                · exact (t2 i (by omega) (by omega)).1
              · have h1 := c2 v
                have h2 := t3 v
                rw [show min fr n = fr by omega] at h1
                rw [show min (fr + 2 * y) n = fr + (a + b) by omega, zct_add p' 0 v fr (a + b), zct_add g 0 v fr (a + b), zct_c (f := p') (g := p) fr (fun i h0 h1 => e3 i (by omega)), h1, Int.zero_add, h2, zct_add g fr v a b]
                rw [show (fr : Int) + a = M by omega]
            | succ r ihr =>
              intro a b hr ha hb' μ3 p' g3 f3 q3 e3 m3
              have ea : zi μ3 169 ((fr : Int) + a) = g ((fr : Int) + a) ∨ ¬ fr + a < n := by
                by_cases q : fr + a < n
                · exact Or.inl (f3 _ (by omega) (by omega))
                · exact Or.inr q
              have eb : M + b < T → zi μ3 169 ((M : Int) + b) = g ((M : Int) + b) := fun q => f3 _ (by omega) (by omega)
              have tl : fr + a < M → (M + b < T → g ((fr : Int) + a) ≤ g ((M : Int) + b)) → J 88 ([some (zR (some 153)), some (zI (n : Int)), some (zI (y : Int)), some (zI (fr : Int)), some (zI (M : Int)), some (zI (T : Int)), some (zI ((fr : Int) + a)), some (zI ((M : Int) + b)), some (zI ((fr : Int) + a + b)), none], [zI 1], μ3, 0, 0) := by
                intro q1 q2'
                refine rX11_sort_88 C _ _ _ _ _ _ _ _ _ ⟨by decide, fun z => absurd z (by decide), fun _ => ⟨by omega, by omega, fun z => absurd z (by decide), fun _ => ?_⟩⟩
                rw [f3 ((fr : Int) + a) (by omega) (by omega)]
                have res := ihr (a + 1) b (by omega) (by omega) hb' (zup μ3 170 ((fr : Int) + a + b) (g ((fr : Int) + a))) (zupd p' ((fr : Int) + a + b) (g ((fr : Int) + a))) (g3.up _ (by omega)) (fun i h0 h1 => by rw [zi_off (by omega)]; exact f3 i h0 h1) (fun i h0 h1 => by
                  unfold zupd
                  by_cases c : i = (fr : Int) + a + b
                  · rw [if_pos c, c, zi_at]
                  · rw [if_neg c, zi_off (by omega)]; exact q3 i h0 (by omega)) (fun i hi => by unfold zupd; rw [if_neg (by omega)]; exact e3 i hi) (zmi_put m3 (z1 _ (by omega) (by omega)) (by omega) (by omega) (Nat.le_refl _) (fun i h0 h1 => (m3.2.1 i h0 h1).2.1 _ (Int.le_refl _) (by omega)) (fun x h0 h1 => sA _ _ (by omega) (by omega) (by omega)) (fun x h0 h1 => by
                  by_cases c : x = (M : Int) + b
                  · rw [c]; exact q2' (by omega)
                  · exact Int.le_trans (q2' (by omega)) (sB _ _ (by omega) (by omega) (by omega))) (fun v => by rw [zct]; omega))
                rw [show (fr : Int) + ((a + 1 : Nat) : Int) = (fr : Int) + a + 1 by omega, show (fr : Int) + a + 1 + b = (fr : Int) + a + b + 1 by omega] at res
                exact res
              have tr : M + b < T → (fr + a < M → g ((M : Int) + b) ≤ g ((fr : Int) + a)) → J 88 ([some (zR (some 153)), some (zI (n : Int)), some (zI (y : Int)), some (zI (fr : Int)), some (zI (M : Int)), some (zI (T : Int)), some (zI ((fr : Int) + a)), some (zI ((M : Int) + b)), some (zI ((fr : Int) + a + b)), none], [zI 0], μ3, 0, 0) := by
                intro q1 q2'
                refine rX11_sort_88 C _ _ _ _ _ _ _ _ _ ⟨by decide, fun _ => ⟨by omega, by omega, fun _ => ?_, fun z => absurd rfl z⟩, fun z => absurd rfl z⟩
                rw [eb q1]
                have res := ihr a (b + 1) (by omega) ha (by omega) (zup μ3 170 ((fr : Int) + a + b) (g ((M : Int) + b))) (zupd p' ((fr : Int) + a + b) (g ((M : Int) + b))) (g3.up _ (by omega)) (fun i h0 h1 => by rw [zi_off (by omega)]; exact f3 i h0 h1) (fun i h0 h1 => by
                  unfold zupd
                  by_cases c : i = (fr : Int) + a + b
                  · rw [if_pos c, c, zi_at]
                  · rw [if_neg c, zi_off (by omega)]; exact q3 i h0 (by omega)) (fun i hi => by unfold zupd; rw [if_neg (by omega)]; exact e3 i hi) (zmi_put m3 (z1 _ (by omega) (by omega)) (by omega) (Nat.le_refl _) (by omega) (fun i h0 h1 => (m3.2.1 i h0 h1).2.2 _ (Int.le_refl _) (by omega)) (fun x h0 h1 => by
                  by_cases c : x = (fr : Int) + a
                  · rw [c]; exact q2' (by omega)
                  · exact Int.le_trans (q2' (by omega)) (sA _ _ (by omega) (by omega) (by omega))) (fun x h0 h1 => sB _ _ (by omega) (by omega) (by omega)) (fun v => by rw [zct]; omega))
                rw [show (M : Int) + ((b + 1 : Nat) : Int) = (M : Int) + b + 1 by omega, show (fr : Int) + a + ((b + 1 : Nat) : Int) = (fr : Int) + a + b + 1 by omega] at res
                exact res
              refine rX11_sort_44 C _ _ _ _ _ _ _ _ ⟨by constructor <;> omega, by constructor <;> omega, fun c => absurd c (by omega), fun _ => ⟨by constructor <;> omega, fun q => tl (by omega) (fun z => absurd q (by omega)), fun q => ⟨by constructor <;> omega, by constructor <;> omega, fun q2' => tr (by omega) (fun z => absurd q2' (by omega)), fun q2' => ⟨by omega, by omega, ?_⟩⟩⟩⟩
              rw [f3 ((fr : Int) + a) (by omega) (by omega), eb (by omega)]
              exact ⟨z1 _ (by omega) (by omega), z1 _ (by omega) (by omega), fun q3' => tr (by omega) (fun _ => by omega), fun q3' => tl (by omega) (fun _ => by omega)⟩
          have := inner (T - fr) 0 0 (by omega) (by omega) (by omega) μ2 p g2 f2 (fun i h0 h1 => q2 i h0 (by omega) (by omega)) (fun _ _ => rfl) ⟨fun i j h0 h1 h2 => absurd h0 (by omega), fun i h0 h1 => absurd h0 (by omega), fun v => rfl⟩
          rw [show (fr : Int) + ((0 : Nat) : Int) = fr by omega, show (fr : Int) + ((0 : Nat) : Int) = fr by omega, show (M : Int) + ((0 : Nat) : Int) = M by omega] at this
          exact this
      have := pass n 0 0 (by omega) (by omega) (by omega) μ1 (fun _ => 0) g1 f1 (fun i h0 _ h2 => absurd h0 (by omega)) (fun k i j h0 => absurd h0 (by omega)) (fun i h0 _ h2 => absurd h0 (by omega)) (fun v => by rw [show min 0 n = 0 by omega]; rfl)
      exact this
  exact main 14 0 1 rfl rfl μ f (zsm.refl _ _) hf hz (fun m i j h0 h1 h2 h3 => absurd h1 (by omega)) (fun _ => rfl)
end
