/-! four amounts -/
abbrev zAmt (A : Int → Int) : Prop := ∀ i, 0 ≤ i → i < 4 → 0 ≤ A i ∧ A i ≤ 8
abbrev zisA (μ : zM) (a : Nat) (A : Int → Int) : Prop := ∀ i, 0 ≤ i → i < 4 → zi μ a i = A i
def zAp (A : Int → Int) : Int := 729 * A 0 + 81 * A 1 + 9 * A 2 + A 3
def zsw (A : Int → Int) (t : Int) : Int := min (A 0) t + min (A 1) t + min (A 2) t + A 3
def zlm (A : Int → Int) (n : Int) : Nat → Nat
  | 0 => 0
  | t + 1 => if zsw A ((t : Int) + 1) ≤ n then t + 1 else zlm A n t
def zLim (A : Int → Int) (n i : Int) : Int := if i < 3 then min (A i) (zlm A n 8 : Nat) else A i
theorem zlm_r (A : Int → Int) (n : Int) : ∀ t, zlm A n t ≤ t
  | 0 => Nat.le_refl _
  | t + 1 => by
    have := zlm_r A n t
    unfold zlm
    split <;> omega
theorem zAmt.of (p : Int) : zAmt (zam p) := fun i _ _ => zam_r p i
theorem zAp_pl {A : Int → Int} (h : zAmt A) : zPl (zAp A) := by
  have h0 := h 0 (by decide) (by decide); have h1 := h 1 (by decide) (by decide); have h2 := h 2 (by decide) (by decide); have h3 := h 3 (by decide) (by decide)
  unfold zPl zAp; omega
theorem zAp_am {A : Int → Int} (h : zAmt A) {i : Int} (h0 : 0 ≤ i) (h1 : i < 4) : zam (zAp A) i = A i := by
  have q0 := h 0 (by decide) (by decide); have q1 := h 1 (by decide) (by decide); have q2 := h 2 (by decide) (by decide); have q3 := h 3 (by decide) (by decide)
  have e := zam_of q0 q1 q2 q3
  have hi : i = 0 ∨ i = 1 ∨ i = 2 ∨ i = 3 := by omega
  rcases hi with rfl | rfl | rfl | rfl
  · exact e.1
  · exact e.2.1
  · exact e.2.2.1
  · exact e.2.2.2
theorem zAp_of {p : Int} (hp : zPl p) : zAp (zam p) = p := (zpl_e hp).symm
theorem zAp_cd {A : Int → Int} (h : zAmt A) : zcd (zAp A) = 1000 * A 0 + 100 * A 1 + 10 * A 2 + A 3 := by
  unfold zcd
  rw [zAp_am h (by decide) (by decide), zAp_am h (by decide) (by decide), zAp_am h (by decide) (by decide), zAp_am h (by decide) (by decide)]
theorem zLim_am {A : Int → Int} (h : zAmt A) (n : Int) : zAmt (zLim A n) := fun i h0 h1 => by
  have := h i h0 h1
  have := zlm_r A n 8
  unfold zLim
  split <;> omega
section
variable {G : zG} {μ : zM}
theorem kX2_load {F : zM → Prop} {p : Int} (hp : zPl p) (h : ∀ μ', zsm (fun b _ => b = 129) μ μ' → zisA μ' 129 (zam p) → F μ') : qX2_load G p μ F := by
  refine eX2_load fun J C => rX2_load_e C _ ?_
  refine znfor (N := 4) (P := fun n => ∀ μ', zsm (fun b _ => b = 129) μ μ' → (∀ i : Int, 0 ≤ i → i < n → zi μ' 129 i = zam p i) → J 2 ([some (zR (some 128)), some (zI p), some (zI (n : Int))], [], μ', 0, 0)) ?_ ?_ μ (zsm.refl _ _) (fun i h0 h1 => absurd h0 (by omega))
  · intro μ1 g1 g2
    exact rX2_load_2 C _ _ ⟨by decide, fun _ => h μ1 g1 (fun i h0 h1 => g2 i h0 (by omega)), fun c => absurd (by decide) c⟩
  · intro n hn hj μ1 g1 g2
    refine rX2_load_2 C _ _ ⟨by constructor <;> omega, fun c => absurd c (by omega), fun _ => kX10_am hp (by omega) (by omega) ⟨by omega, hj _ (g1.up _ rfl) (fun i h0 h1 => ?_)⟩⟩
    by_cases e : i = n
    · subst e; exact zi_at
    · rw [zi_off (by omega)]; exact g2 i h0 (by omega)
theorem kX11_take {F : zM → Prop} {p : Int} (h : ∀ μ', zsm (fun b _ => b = 164) μ μ' → zisA μ' 164 (zam p) → F μ') : qX11_take G (zcd p) μ F := by
  refine eX11_take fun J C => rX11_take_e C _ ?_
  refine znfor (N := 4) (P := fun n => ∀ μ', zsm (fun b _ => b = 164) μ μ' → (∀ i : Int, 0 ≤ i → i < n → zi μ' 164 i = zam p i) → J 2 ([some (zR (some 153)), some (zI (zcd p)), some (zI (n : Int))], [], μ', 0, 0)) ?_ ?_ μ (zsm.refl _ _) (fun i h0 h1 => absurd h0 (by omega))
  · intro μ1 g1 g2
    exact rX11_take_2 C _ _ ⟨by decide, fun _ => h μ1 g1 (fun i h0 h1 => g2 i h0 (by omega)), fun c => absurd (by decide) c⟩
  · intro n hn hj μ1 g1 g2
    refine rX11_take_2 C _ _ ⟨by constructor <;> omega, fun c => absurd c (by omega), fun _ => kX11_am (by omega) (by omega) ⟨by omega, hj _ (g1.up _ rfl) (fun i h0 h1 => ?_)⟩⟩
    by_cases e : i = n
    · subst e; exact zi_at
    · rw [zi_off (by omega)]; exact g2 i h0 (by omega)
theorem kX2_place {F : Int → zM → Prop} {A : Int → Int} (hA : zisA μ 129 A) (h : F (zAp A) μ) : qX2_place G μ F := by
  refine eX2_place fun J C => rX2_place_e C ?_
  have step : ∀ a i : Int, 0 ≤ i → i < 4 → J 4 ([some (zR (some 128)), some (zI (a + A i * zta 1 i)), some (zI (i + 1))], [], μ, 0, 0) → J 4 ([some (zR (some 128)), some (zI a), some (zI i)], [], μ, 0, 0) :=
    fun a i h0 h1 h => rX2_place_4 C _ _ ⟨by constructor <;> omega, fun c => absurd c (by omega), fun _ => ⟨⟨h0, h1⟩, by rw [hA i h0 h1]; exact h⟩⟩
  refine step 0 0 (by decide) (by decide) (step _ _ (by decide) (by decide) (step _ _ (by decide) (by decide) (step _ _ (by decide) (by decide) (rX2_place_4 C _ _ ⟨by decide, fun _ => ?_, fun c => absurd (by decide) c⟩))))
  have e : 0 + A 0 * zta 1 0 + A (0 + 1) * zta 1 (0 + 1) + A (0 + 1 + 1) * zta 1 (0 + 1 + 1) + A (0 + 1 + 1 + 1) * zta 1 (0 + 1 + 1 + 1) = zAp A := by
    show 0 + A 0 * 729 + A 1 * 81 + A 2 * 9 + A 3 * 1 = zAp A
    unfold zAp; omega
  rw [e]
  exact h
theorem kX11_codeNow {F : Int → zM → Prop} {A : Int → Int} (hA : zisA μ 164 A) (hm : zAmt A) (h : F (zcd (zAp A)) μ) : qX11_codeNow G μ F := by
  refine eX11_codeNow fun J C => rX11_codeNow_e C ?_
  rw [hA 0 (by decide) (by decide), hA 1 (by decide) (by decide), hA 2 (by decide) (by decide), hA 3 (by decide) (by decide), ← zAp_cd hm]
  exact h
theorem kX2_limitTo {F : zM → Prop} {A : Int → Int} (hA : zisA μ 129 A) (hm : zAmt A) {n : Int} (hn : 8 ≤ n ∧ n ≤ 32) (h : ∀ μ', zsm (fun b _ => b = 129) μ μ' → zisA μ' 129 (zLim A n) → F μ') : qX2_limitTo G n μ F := by
  refine eX2_limitTo fun J C => rX2_limitTo_e C _ ?_
  have q0 := hm 0 (by decide) (by decide); have q1 := hm 1 (by decide) (by decide); have q2 := hm 2 (by decide) (by decide); have q3 := hm 3 (by decide) (by decide)
  have fin : J 24 ([some (zR (some 128)), none, some (zI (zlm A n 8 : Nat)), some (zI 0)], [], μ, 0, 0) := by
    have hl := zlm_r A n 8
    refine znfor (N := 3) (P := fun m => ∀ μ', zsm (fun b _ => b = 129) μ μ' → (∀ i : Int, 0 ≤ i → i < m → zi μ' 129 i = zLim A n i) → (∀ i : Int, m ≤ i → i < 4 → zi μ' 129 i = A i) → J 24 ([some (zR (some 128)), none, some (zI (zlm A n 8 : Nat)), some (zI (m : Int))], [], μ', 0, 0)) ?_ ?_ μ (zsm.refl _ _) (fun i h0 h1 => absurd h0 (by omega)) (fun i h0 h1 => hA i (by omega) h1)
    · intro μ1 g1 g2 g3
      refine rX2_limitTo_24 C _ _ ⟨by decide, fun _ => h μ1 g1 (fun i h0 h1 => ?_), fun c => absurd (by decide) c⟩
      by_cases c : i < 3
      · exact g2 i h0 (by omega)
      · rw [g3 i (by omega) h1]
        exact (if_neg c).symm
    · intro m hm' hj μ1 g1 g2 g3
      have hq := hm m (by omega) (by omega)
      refine rX2_limitTo_24 C _ _ ⟨by constructor <;> omega, fun c => absurd c (by omega), fun _ => ⟨by omega, ?_⟩⟩
      rw [g3 m (by omega) (by omega)]
      refine ⟨by constructor <;> omega, by constructor <;> omega, hj _ (g1.up _ rfl) (fun i h0 h1 => ?_) (fun i h0 h1 => by rw [zi_off (by omega)]; exact g3 i (by omega) h1)⟩
      by_cases e : i = m
      · subst e; rw [zi_at]; exact (if_pos (by omega)).symm
      · rw [zi_off (by omega)]; exact g2 i h0 (by omega)
  have loop : ∀ t : Nat, t ≤ 8 → zlm A n t = zlm A n 8 → J 3 ([some (zR (some 128)), some (zI n), some (zI (t : Int)), none], [], μ, 0, 0) := by
    intro t
    induction t with
    | zero =>
      intro _ e
      refine rX2_limitTo_3 C _ _ ⟨by decide, fun _ => ?_, fun c => absurd (by decide) c⟩
      have e0 : zlm A n 8 = 0 := by rw [← e]; rfl
      rw [e0] at fin; exact fin
    | succ t ih =>
      intro ht e
      have et : ((t + 1 : Nat) : Int) = (t : Int) + 1 := by omega
      refine rX2_limitTo_3 C _ _ ⟨by constructor <;> omega, fun c => absurd c (by omega), fun _ => ?_⟩
      refine eX2_totalWith fun J2 C2 => rX2_totalWith_e C2 _ ?_
      rw [hA 0 (by decide) (by decide), hA 1 (by decide) (by decide), hA 2 (by decide) (by decide), hA 3 (by decide) (by decide)]
      refine ⟨by constructor <;> omega, by constructor <;> omega, by constructor <;> omega, by constructor <;> omega, by constructor <;> omega, by constructor <;> omega, fun c => ?_, fun c => ?_⟩
      · rw [et] at c
        rw [zlm, if_pos (show zsw A ((t : Int) + 1) ≤ n from c)] at e
        rw [← e] at fin; exact fin
      · rw [et] at c
        rw [zlm, if_neg (show ¬ zsw A ((t : Int) + 1) ≤ n from c)] at e
        have := ih (by omega) e
        rw [show ((t + 1 : Nat) : Int) + -1 = t by omega]; exact this
  exact loop 8 (Nat.le_refl _) rfl
theorem kX11_limit {F : zM → Prop} {A : Int → Int} (hA : zisA μ 164 A) (hm : zAmt A) {n : Int} (hn : 8 ≤ n ∧ n ≤ 32) (h : ∀ μ', zsm (fun b _ => b = 164) μ μ' → zisA μ' 164 (zLim A n) → F μ') : qX11_limit G n μ F := by
  refine eX11_limit fun J C => rX11_limit_e C _ ?_
  have q0 := hm 0 (by decide) (by decide); have q1 := hm 1 (by decide) (by decide); have q2 := hm 2 (by decide) (by decide); have q3 := hm 3 (by decide) (by decide)
  have fin : J 54 ([some (zR (some 153)), none, some (zI (zlm A n 8 : Nat)), some (zI 0)], [], μ, 0, 0) := by
    have hl := zlm_r A n 8
    refine znfor (N := 3) (P := fun m => ∀ μ', zsm (fun b _ => b = 164) μ μ' → (∀ i : Int, 0 ≤ i → i < m → zi μ' 164 i = zLim A n i) → (∀ i : Int, m ≤ i → i < 4 → zi μ' 164 i = A i) → J 54 ([some (zR (some 153)), none, some (zI (zlm A n 8 : Nat)), some (zI (m : Int))], [], μ', 0, 0)) ?_ ?_ μ (zsm.refl _ _) (fun i h0 h1 => absurd h0 (by omega)) (fun i h0 h1 => hA i (by omega) h1)
    · intro μ1 g1 g2 g3
      refine rX11_limit_54 C _ _ ⟨by decide, fun _ => h μ1 g1 (fun i h0 h1 => ?_), fun c => absurd (by decide) c⟩
      by_cases c : i < 3
      · exact g2 i h0 (by omega)
      · rw [g3 i (by omega) h1]
        exact (if_neg c).symm
    · intro m hm' hj μ1 g1 g2 g3
      have hq := hm m (by omega) (by omega)
      refine rX11_limit_54 C _ _ ⟨by constructor <;> omega, fun c => absurd c (by omega), fun _ => ⟨by omega, ?_⟩⟩
      rw [g3 m (by omega) (by omega)]
      refine ⟨by constructor <;> omega, by constructor <;> omega, hj _ (g1.up _ rfl) (fun i h0 h1 => ?_) (fun i h0 h1 => by rw [zi_off (by omega)]; exact g3 i (by omega) h1)⟩
      by_cases e : i = m
      · subst e; rw [zi_at, Int.min_comm]; exact (if_pos (by omega)).symm
      · rw [zi_off (by omega)]; exact g2 i h0 (by omega)
  have loop : ∀ t : Nat, t ≤ 8 → zlm A n t = zlm A n 8 → J 3 ([some (zR (some 153)), some (zI n), some (zI (t : Int)), none], [], μ, 0, 0) := by
    intro t
    induction t with
    | zero =>
      intro _ e
      have e0 : zlm A n 8 = 0 := by rw [← e]; rfl
      refine rX11_limit_3 C _ _ ?_
      rw [hA 0 (by decide) (by decide), hA 1 (by decide) (by decide), hA 2 (by decide) (by decide), hA 3 (by decide) (by decide)]
      refine ⟨by decide, by constructor <;> omega, by constructor <;> omega, by constructor <;> omega, by constructor <;> omega, by constructor <;> omega, fun _ => ?_, fun c => absurd (by omega) c⟩
      rw [e0] at fin; exact fin
    | succ t ih =>
      intro ht e
      have et : ((t + 1 : Nat) : Int) = (t : Int) + 1 := by omega
      refine rX11_limit_3 C _ _ ?_
      rw [hA 0 (by decide) (by decide), hA 1 (by decide) (by decide), hA 2 (by decide) (by decide), hA 3 (by decide) (by decide)]
      have es : min ((t + 1 : Nat) : Int) (A 0) + min ((t + 1 : Nat) : Int) (A 1) + min ((t + 1 : Nat) : Int) (A 2) + A 3 = zsw A ((t : Int) + 1) := by
        rw [et, Int.min_comm _ (A 0), Int.min_comm _ (A 1), Int.min_comm _ (A 2)]; rfl
      refine ⟨by constructor <;> omega, by constructor <;> omega, by constructor <;> omega, by constructor <;> omega, by constructor <;> omega, by constructor <;> omega, fun c => ?_, fun c => ?_⟩
      · rw [es] at c
        rw [zlm, if_pos c] at e
        rw [← e] at fin; exact fin
      · rw [es] at c
        rw [zlm, if_neg c] at e
        have := ih (by omega) e
        rw [show ((t + 1 : Nat) : Int) + -1 = t by omega]; exact this
  exact loop 8 (Nat.le_refl _) rfl
end
