/-! rises; folds over the open places -/
abbrev zra (S : Int → Int) (i p b : Int) : Prop := zlv p i < 2 ∧ zlt S p b < zlt S (p + zta 2 i) b
def zrc (S : Int → Int) (i : Int) : Nat → Int
  | 0 => 0
  | m + 1 => zrc S i m + (if zra S i ((m : Int) / 3) ((m : Int) % 3) then 1 else 0)
def zrf (S : Int → Int) (i : Int) : Nat → Int
  | 0 => -1
  | m + 1 => if zrf S i m < 0 then (if zra S i ((m : Int) / 3) ((m : Int) % 3) then (m : Int) else -1) else zrf S i m
theorem zrcf (S : Int → Int) (i : Int) : ∀ m : Nat, (0 ≤ zrc S i m ∧ zrc S i m ≤ m) ∧ (-1 ≤ zrf S i m ∧ zrf S i m < m) ∧ (zrc S i m = 0 ∧ zrf S i m < 0 ∨ 0 < zrc S i m ∧ 0 ≤ zrf S i m)
  | 0 => ⟨⟨Int.le_refl _, Int.le_refl _⟩, by unfold zrf; decide, Or.inl ⟨rfl, by unfold zrf; decide⟩⟩
  | m + 1 => by
    obtain ⟨h1, h2, h3⟩ := zrcf S i m
    unfold zrc zrf
    by_cases c : zra S i ((m : Int) / 3) ((m : Int) % 3)
    · rw [if_pos c, if_pos c]
      split <;> omega
    · rw [if_neg c, if_neg c]
      split <;> omega
theorem zrf_stay {S : Int → Int} {i : Int} {m : Nat} (h : 0 ≤ zrf S i m) : ∀ k : Nat, zrf S i (m + k) = zrf S i m
  | 0 => rfl
  | k + 1 => by
    have e := zrf_stay h k
    rw [← Nat.add_assoc, zrf, e, if_neg (by omega)]
theorem zrc_at {S : Int → Int} {i : Int} {n b : Nat} (hb : b < 3) : zrc S i (3 * n + b + 1) = zrc S i (3 * n + b) + (if zra S i n b then 1 else 0) ∧ zrf S i (3 * n + b + 1) = if zrf S i (3 * n + b) < 0 then (if zra S i n b then 3 * (n : Int) + b else -1) else zrf S i (3 * n + b) := by
  have e1 : ((3 * n + b : Nat) : Int) / 3 = n := by omega
  have e2 : ((3 * n + b : Nat) : Int) % 3 = b := by omega
  have e3 : ((3 * n + b : Nat) : Int) = 3 * (n : Int) + b := by omega
  refine ⟨?_, ?_⟩
  · rw [zrc, e1, e2]
  · rw [zrf, e1, e2, e3]
theorem zrc_skip {S : Int → Int} {i : Int} {n : Nat} (h : zlv n i = 2) : zrc S i (3 * (n + 1)) = zrc S i (3 * n) ∧ zrf S i (3 * (n + 1)) = zrf S i (3 * n) := by
  have hn : ∀ b : Int, ¬ zra S i n b := fun b z => by have := z.1; omega
  have a0 := zrc_at (S := S) (i := i) (n := n) (b := 0) (by decide)
  have a1 := zrc_at (S := S) (i := i) (n := n) (b := 1) (by decide)
  have a2 := zrc_at (S := S) (i := i) (n := n) (b := 2) (by decide)
  have r := (zrcf S i (3 * n)).2.1
  rw [if_neg (hn _), if_neg (hn _)] at a0 a1 a2
  rw [show 3 * (n + 1) = 3 * n + 2 + 1 by omega, a2.1, a2.2, show 3 * n + 2 = 3 * n + 1 + 1 by omega, a1.1, a1.2, a0.1, a0.2]
  simp only [Nat.add_zero, Int.add_zero]
  refine ⟨trivial, ?_⟩
  by_cases c : zrf S i (3 * n) < 0
  · rw [if_pos c]; simp; omega
  · rw [if_neg c, if_neg c, if_neg c]
theorem zlv_up {p i : Int} (hp : 0 ≤ p ∧ p < 81) (h0 : 0 ≤ i) (h1 : i < 4) (h : zlv p i < 2) : 0 ≤ p + zta 2 i ∧ p + zta 2 i < 81 := by
  have hi : i = 0 ∨ i = 1 ∨ i = 2 ∨ i = 3 := by omega
  unfold zlv at h
  rcases hi with rfl | rfl | rfl | rfl
  · rw [zt20] at h ⊢; omega
  · rw [zt21] at h ⊢; omega
  · rw [zt22] at h ⊢; omega
  · rw [zt23] at h ⊢; omega
section
variable {G : zG} {μ : zM} {S : Int → Int}
theorem kX0_risesAt {F : Int → zM → Prop} {a : Nat} (ha : zIsCh a) (hL : ∀ i, 0 ≤ i → i < 243 → zi μ (a + 1) i = zlg S i) (hr : zLr S) {p i b : Int} (hp : 0 ≤ p ∧ p < 81) (hi : 0 ≤ i ∧ i < 4) (hb : 0 ≤ b ∧ b < 3) (h1 : zra S i p b → F 1 μ) (h0 : ¬ zra S i p b → F 0 μ) : qX0_risesAt G a p i b μ F := by
  have hl := zlv_r p (i := i) hp.1
  refine eX0_risesAt fun J C => rX0_risesAt_e C ha _ _ _ (kX10_levelOf hp.1 (by omega) hi.1 hi.2 ⟨by constructor <;> omega, fun c => h0 (fun z => by have := z.1; omega), fun c => ?_⟩)
  have hu := zlv_up hp hi.1 hi.2 (by omega)
  have l1 := zlt_r hr (p := p) (b := b) hp hb
  have l2 := zlt_r hr (p := p + zta 2 i) (b := b) hu hb
  rw [show (p + zta 2 i) * 3 + b = 3 * (p + zta 2 i) + b by omega, show p * 3 + b = 3 * p + b by omega]
  rw [hL _ (by omega) (by omega), hL _ (by omega) (by omega), zlg_at S hb, zlg_at S hb]
  exact ⟨hi, ⟨by omega, by omega⟩, ⟨by omega, by omega⟩, by constructor <;> omega, by constructor <;> omega, fun c2 => h0 (fun z => by have := z.2; omega), fun c2 => h1 ⟨by omega, by omega⟩⟩
theorem kX0_countRises {F : Int → zM → Prop} {a : Nat} (ha : zIsCh a) (hL : ∀ i, 0 ≤ i → i < 243 → zi μ (a + 1) i = zlg S i) (hr : zLr S) {i : Int} (hi : 0 ≤ i ∧ i < 4) (h : F (zrc S i 243) μ) : qX0_countRises G a i μ F := by
  refine eX0_countRises fun J C => rX0_countRises_e C ha _ ?_
  refine znfor (N := 243) (P := fun n => J 4 ([some (zR (some a)), some (zI i), some (zI (zrc S i n)), some (zI (n : Int))], [], μ, 0, 0)) ?_ ?_
  · exact rX0_countRises_4 C ha _ _ _ ⟨by decide, fun _ => h, fun c => absurd (by decide) c⟩
  · intro n hn hj
    rw [zrc] at hj
    refine rX0_countRises_4 C ha _ _ _ ⟨by constructor <;> omega, fun c => absurd c (by omega), fun _ => ⟨by omega, by omega, kX0_risesAt ha hL hr ⟨by omega, by omega⟩ hi ⟨by omega, by omega⟩ (fun z => ⟨by decide, fun q => absurd q (by decide), fun _ => ?_⟩) (fun z => ⟨by decide, fun _ => ?_, fun q => absurd rfl q⟩)⟩⟩
    · rw [if_pos z] at hj; exact hj
    · rw [if_neg z, Int.add_zero] at hj; exact hj
theorem kX0_firstRise {F : Int → zM → Prop} {a : Nat} (ha : zIsCh a) (hL : ∀ i, 0 ≤ i → i < 243 → zi μ (a + 1) i = zlg S i) (hr : zLr S) {i : Int} (hi : 0 ≤ i ∧ i < 4) (h : F (zrf S i 243) μ) : qX0_firstRise G a i μ F := by
  refine eX0_firstRise fun J C => rX0_firstRise_e C ha _ ?_
  refine znfor (N := 243) (P := fun n => zrf S i n < 0 → J 2 ([some (zR (some a)), some (zI i), some (zI (n : Int))], [], μ, 0, 0)) ?_ ?_ (by unfold zrf; decide)
  · intro hn
    have := (zrcf S i 243).2.1
    rw [show zrf S i 243 = -1 by omega] at h
    exact rX0_firstRise_2 C ha _ _ ⟨by decide, fun _ => h, fun c => absurd (by decide) c⟩
  · intro n hn hj h0
    have e : zrf S i (n + 1) = if zra S i ((n : Int) / 3) ((n : Int) % 3) then (n : Int) else -1 := by rw [zrf, if_pos h0]
    refine rX0_firstRise_2 C ha _ _ ⟨by constructor <;> omega, fun c => absurd c (by omega), fun _ => ⟨by omega, by omega, kX0_risesAt ha hL hr ⟨by omega, by omega⟩ hi ⟨by omega, by omega⟩ (fun z => ⟨by decide, fun q => absurd q (by decide), fun _ => ?_⟩) (fun z => ⟨by decide, fun _ => hj ?_, fun q => absurd rfl q⟩)⟩⟩
    · rw [if_pos z] at e
      have := zrf_stay (S := S) (i := i) (m := n + 1) (by omega) (243 - (n + 1))
      rw [show n + 1 + (243 - (n + 1)) = 243 by omega, e] at this
      rw [this] at h; exact h
    · rw [if_neg z] at e; omega
/-- the row after rises -/
def zrrs (S : Int → Int) (i : Int) (R : List Int) : List Int := if zrc S i 243 ≤ 0 then [] else [] ++ [zrf S i 243 / 3] ++ [zrf S i 243 % 3]
theorem kX10_rises {F : Int → zM → Prop} {R : List Int} (hX : zXs μ 5 S) (hr : zLr S) (hv : zSet S) (hc : zXc μ) (hR : zXr μ R) {i : Int} (ii : zin i) (h : ∀ μ', zsm zPX μ μ' → zXc μ' → zXr μ' (if 0 ≤ i ∧ i ≤ 3 then zrrs S i R else R) → F (if 0 ≤ i ∧ i ≤ 3 then zrc S i 243 else -1) μ') : qX10_rises G i μ F := by
  refine eX10_rises fun J C => rX10_rises_e C _ (kX10_isInk ii (fun hi => ⟨by decide, fun _ => ?_, fun z => absurd z (by decide)⟩) (fun hi => ⟨by decide, fun z => absurd rfl z, fun _ => ?_⟩))
  · rw [if_pos hi, if_pos hi] at h
    have hi4 : 0 ≤ i ∧ i < 4 := ⟨hi.1, by omega⟩
    have q := zrcf S i 243
    refine kX10_refresh hX hr hv hc fun μ1 g1 c1 k1 o1 => kX0_countRises zCh_105 k1.1 hr hi4 (kX6_clear fun μ2 g2 r2 => ⟨by constructor <;> omega, fun c => ?_, fun c => kX0_firstRise zCh_105 (k1.sm g2 (by omega)).1 hr hi4 ⟨by omega, by constructor <;> omega, kX6_append r2 (by simp) fun μ3 g3 r3 => ⟨by omega, by constructor <;> omega, kX6_append r3 (by simp) fun μ4 g4 r4 => ?_⟩⟩⟩)
    · unfold zrrs at h; rw [if_pos c] at h
      exact h _ ((zX105 g1).trans (zXrow g2)) (c1.sm g2 (by omega)) r2
    · unfold zrrs at h; rw [if_neg c] at h
      have gr := (g2.trans g3).trans g4
      exact h _ ((zX105 g1).trans (zXrow gr)) (c1.sm gr (by omega)) r4
  · rw [if_neg hi, if_neg hi] at h
    exact h _ (zsm.refl _ _) hc hR
theorem kX11_risesOf {F : Int → zM → Prop} {a n : Nat} (ha : zIsAr a n) (hn : n < 2147483648) (hd : a ≠ 153) (h324 : 324 ≤ n) (hS : ∀ p, 0 ≤ p → p < 324 → zi μ a p = S p) (hr : zLr S) {i : Int} (hi : 0 ≤ i ∧ i < 4) (h : ∀ μ', zsm (fun b j => b = 153 ∧ (j = 29 ∨ j = 30)) μ μ' → (0 < zrc S i 243 → zi μ' 153 29 = zrf S i 243 / 3 ∧ zi μ' 153 30 = zrf S i 243 % 3) → F (zrc S i 243) μ') : qX11_risesOf G a i μ F := by
  refine eX11_risesOf fun J C => rX11_risesOf_e C ha hn _ ?_
  refine znfor (N := 81) (P := fun n => ∀ μ', zsm (fun b j => b = 153 ∧ (j = 29 ∨ j = 30)) μ μ' → (0 < zrc S i (3 * n) → zi μ' 153 29 = zrf S i (3 * n) / 3 ∧ zi μ' 153 30 = zrf S i (3 * n) % 3) → J 5 ([some (zR (some 153)), some (zR (some a)), some (zI i), some (zI (zrc S i (3 * n))), some (zI (n : Int)), none], [], μ', 0, 0)) ?_ ?_ μ (zsm.refl _ _) (fun c => absurd c (by unfold zrc; decide))
  · intro μ1 g1 g2
    exact rX11_risesOf_5 C ha hn _ _ _ ⟨by decide, fun _ => h μ1 g1 g2, fun c => absurd (by decide) c⟩
  · intro k hk hj μ1 g1 g2
    have hl := zlv_r (k : Int) (i := i) (by omega)
    refine rX11_risesOf_5 C ha hn _ _ _ ⟨by constructor <;> omega, fun c => absurd c (by omega), fun _ => kX11_levelOf (by omega) (by omega) hi.1 hi.2 ⟨by constructor <;> omega, fun c => ?_, fun c => ?_⟩⟩
    · refine znfor (N := 3) (P := fun b => ∀ μ', zsm (fun b j => b = 153 ∧ (j = 29 ∨ j = 30)) μ μ' → (0 < zrc S i (3 * k + b) → zi μ' 153 29 = zrf S i (3 * k + b) / 3 ∧ zi μ' 153 30 = zrf S i (3 * k + b) % 3) → J 28 ([some (zR (some 153)), some (zR (some a)), some (zI i), some (zI (zrc S i (3 * k + b))), some (zI (k : Int)), some (zI (b : Int))], [], μ', 0, 0)) ?_ ?_ μ1 g1 g2
      · intro μ2 t1 t2
        exact rX11_risesOf_28 C ha hn _ _ _ _ ⟨by decide, fun _ => hj μ2 t1 t2, fun c => absurd (by decide) c⟩
      · intro b hb hj2 μ2 t1 t2
        have hu := zlv_up (p := k) ⟨by omega, by omega⟩ hi.1 hi.2 (by omega)
        have l1 := zlt_r hr (p := k) (b := b) ⟨by omega, by omega⟩ ⟨by omega, by omega⟩
        have l2 := zlt_r hr (p := k + zta 2 i) (b := b) hu ⟨by omega, by omega⟩
        have hS2 : ∀ p, 0 ≤ p → p < 324 → zi μ2 a p = S p := fun p q0 q1 => by rw [t1.1 _ _ (by omega)]; exact hS p q0 q1
        have ea := zrc_at (S := S) (i := i) (n := k) (b := b) hb
        have q := zrcf S i (3 * k + b)
        refine rX11_risesOf_28 C ha hn _ _ _ _ ⟨by constructor <;> omega, fun c => absurd c (by omega), fun _ => ⟨hi, kX11_lightOf ha hn h324 hS2 hr hu ⟨by omega, by omega⟩ (kX11_lightOf ha hn h324 hS2 hr ⟨by omega, by omega⟩ ⟨by omega, by omega⟩ ⟨⟨?_, ?_⟩, by constructor <;> omega, fun c2 => ?_, fun c2 => ?_⟩)⟩⟩
        · show (-2147483648 : Int) ≤ zlt S (k + zta 2 i) b; omega
        · show zlt S (k + zta 2 i) b < (2147483648 : Int); omega
        · have hz : zra S i k b := ⟨by omega, c2⟩
          rw [if_pos hz, if_pos hz] at ea
          rw [show 3 * k + (b + 1) = 3 * k + b + 1 by omega, ea.1, ea.2] at hj2
          refine ⟨by constructor <;> omega, fun c3 => hj2 μ2 t1 (fun _ => ?_), fun c3 => hj2 _ ((t1.up _ (by omega)).up _ (by omega)) (fun _ => ?_)⟩
          · rw [if_neg (by omega)]; exact t2 (by omega)
          · rw [if_pos (by omega), zi_at, zi_off (by omega), zi_at]; omega
        · have hz : ¬ zra S i k b := fun z => c2 z.2
          rw [if_neg hz, if_neg hz, Int.add_zero] at ea
          rw [show 3 * k + (b + 1) = 3 * k + b + 1 by omega, ea.1] at hj2
          refine hj2 μ2 t1 (fun c3 => ?_)
          rw [ea.2, if_neg (by omega)]; exact t2 c3
    · have es := zrc_skip (S := S) c
      rw [es.1, es.2] at hj
      exact hj μ1 g1 g2
theorem kX11_rises {F : Int → zM → Prop} {R : List Int} (hM : zMs μ S) (hr : zLr S) (hR : zMr μ R) {i : Int} (ii : zin i) (h : ∀ μ', zsm zPM μ μ' → zMr μ' (if 0 ≤ i ∧ i ≤ 3 then zrrs S i R else R) → F (if 0 ≤ i ∧ i ≤ 3 then zrc S i 243 else -1) μ') : qX11_rises G i μ F := by
  refine eX11_rises fun J C => rX11_rises_e C _ (kX11_isInk ii (fun hi => ⟨by decide, fun _ => ?_, fun z => absurd z (by decide)⟩) (fun hi => ⟨by decide, fun z => absurd rfl z, fun _ => ?_⟩))
  · rw [if_pos hi, if_pos hi] at h
    have q := zrcf S i 243
    refine kX11_risesOf zZ154 (by decide) (by decide) (by decide) (S := S) (fun p h0 h1 => (hM.pm (zMthr μ)) p h0 (by omega)) hr ⟨hi.1, by omega⟩ fun μ1 g1 g2 => ⟨by constructor <;> omega, fun c => ?_, fun c => ?_⟩
    · have gx : zsm zPM μ μ1 := (zMthr μ).trans (g1.mono (fun b j => by unfold zPM; omega))
      unfold zrrs at h; rw [if_pos c] at h
      exact h _ (zMrow0 gx) (zMr.nil _)
    · have gx : zsm zPM μ μ1 := (zMthr μ).trans (g1.mono (fun b j => by unfold zPM; omega))
      have g2 := g2 (by omega)
      unfold zrrs at h; rw [if_neg c] at h
      rw [show zi (zup μ1 153 4 0) 153 29 = zrf S i 243 / 3 by rw [zi_off (by omega)]; exact g2.1]
      refine ⟨by constructor <;> omega, kX11_tell (zMr.nil _) (by simp) fun μ2 t2 r2 => ?_⟩
      rw [show zi μ2 153 30 = zrf S i 243 % 3 by rw [t2.1 _ _ (by omega), zi_off (by omega)]; exact g2.2]
      exact ⟨by constructor <;> omega, kX11_tell r2 (by simp) fun μ3 t3 r3 => h _ ((zMrow0 gx).trans (zMrow (t2.trans t3))) r3⟩
  · rw [if_neg hi, if_neg hi] at h
    exact h _ (zMthr μ) hR.thr
end
