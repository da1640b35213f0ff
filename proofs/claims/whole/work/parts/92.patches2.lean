/-! patches of the reference -/
/-- the state after n patches were told -/
def zpaS (S : Int → Int) (T : List Int) : Nat → Int → Int
  | 0 => S
  | n + 1 => zmeaS (zpaS S T n) (zpnum T (10 * n)) (ztwo T (10 * n + 4)) (ztwo T (10 * n + 6)) (ztwo T (10 * n + 8))
/-- all that is told can be told -/
def zpaOK (T : List Int) (n : Nat) : Prop := ∀ k : Nat, k < n → zmeaO (zpnum T (10 * k)) (ztwo T (10 * k + 4)) (ztwo T (10 * k + 6)) (ztwo T (10 * k + 8))
theorem zpaS_v {S : Int → Int} (hv : zval S) {T : List Int} : ∀ {n : Nat}, zpaOK T n → zval (zpaS S T n)
  | 0, _ => hv
  | n + 1, h => zmeaS_v (zpaS_v hv (fun k hk => h k (by omega))) (h n (by omega))
theorem zfp1 : ∀ k : Fin 10, zfch 1 k.val = if k.val < 4 then 50 else 57 := by decide +kernel
theorem zfp1_l : (zstx 1).length = 10 := rfl
section
variable {G : zG} {μ : zM} {S : Int → Int} {W U : List (Int → Int)} {kp : Int → Int} {K : Int → Int → Int} {T R : List Int} {most A : Int} {a : Nat}
/-- from a place between two patches -/
theorem zwro_s {T : List Int} {tl most : Int} {a t : Nat} {d : Int} (ha : a < zN2 T most) (h41 : ¬ (zat T a = 41 ∧ 0 < d)) (hl : 0 < (zstx (zfor3 tl (zat T a))).length) (t' : Nat) (ht' : zfor3 tl (zat T a) = t') : zwro T tl most (zN2 T most - a) a t (zstx t).length d = zwro T tl most (zN2 T most - a) a t' 0 d := by
  obtain ⟨n, hn⟩ : ∃ n, zN2 T most - a = n + 1 := ⟨zN2 T most - a - 1, by omega⟩
  subst ht'
  have eR : zwro T tl most (n + 1) a (zfor3 tl (zat T a)) 0 d = if ¬ zcs (zat T a) (zfch (zfor3 tl (zat T a)) 0) d then (a : Int) else zwro T tl most n (a + 1) (zfor3 tl (zat T a)) 1 (if zfch (zfor3 tl (zat T a)) 0 = 40 then d + 1 else d) := by
    rw [zwro, if_neg (by omega), if_neg (by omega)]
  rw [hn, eR, zwro, if_neg (by omega), if_pos rfl]
  by_cases c : zcs (zat T a) (zfch (zfor3 tl (zat T a)) 0) d
  · rw [if_neg (show ¬ ((zstx (zfor3 tl (zat T a))).length = 0 ∨ ¬ zcs (zat T a) (zfch (zfor3 tl (zat T a)) 0) d) from fun z => z.elim (by omega) (fun z => z c)), if_neg (show ¬ ¬ zcs (zat T a) (zfch (zfor3 tl (zat T a)) 0) d from fun z => z c)]
  · rw [if_pos (show ((zstx (zfor3 tl (zat T a))).length = 0 ∨ ¬ zcs (zat T a) (zfch (zfor3 tl (zat T a)) 0) d) from Or.inr c), if_pos c]
/-- a measure out of a text -/
theorem kX11_readMeasureA {F : zM → Prop} (hp : zPs μ T most a (-1)) (hT : zTv T) (hm : 0 ≤ most ∧ most ≤ 80) (ha : a ≤ zN2 T most) {tl : Int} (hA : zwro T tl most (zN2 T most - a) a 1 0 0 = A) {x : Int} (hx : 0 ≤ x ∧ x + 3 < 320) (hok : a + 10 ≤ zN2 T most → zmeaO (zpnum T a) (ztwo T ((a : Int) + 4)) (ztwo T ((a : Int) + 6)) (ztwo T ((a : Int) + 8)) → ∀ μ', zsm (fun b j => zPp b j ∨ (b = 157 ∧ x ≤ j)) μ μ' → zPs μ' T most ((a : Int) + 10) (-1) → zwro T tl most (zN2 T most - (a + 10)) (a + 10) 1 10 0 = A → zi μ' 157 x = zpnum T a → zi μ' 157 (x + 1) = ztwo T ((a : Int) + 4) → zi μ' 157 (x + 2) = ztwo T ((a : Int) + 6) → zi μ' 157 (x + 3) = ztwo T ((a : Int) + 8) → F μ') (hbad : ∀ μ', zsm (fun b j => zPp b j ∨ b = 157) μ μ' → zBad μ' T most A → F μ') : qX11_readMeasure G x μ F := by
  have ht : zin most := by constructor <;> omega
  refine eX11_readMeasure fun J C => ?_
  have bad : ∀ (n : Nat) (k : Int) (μ1 : zM), (n : Int) = 3 - k → 0 ≤ k → k ≤ 3 → zsm (fun b j => zPp b j ∨ b = 157) μ μ1 → zBad μ1 T most A → J 12 ([some (zR (some 153)), some (zI x), some (zI k)], [], μ1, 0, 0) := by
    intro n
    induction n with
    | zero => intro k μ1 hk k0 k1 g1 b1; exact rX11_readMeasure_12 C _ _ ⟨by constructor <;> omega, fun _ => hbad μ1 g1 b1, fun z => absurd (by omega) z⟩
    | succ n ih =>
      intro k μ1 hk k0 k1 g1 b1
      refine rX11_readMeasure_12 C _ _ ⟨by constructor <;> omega, fun z => absurd z (by omega), fun _ => kX11_twoB b1 hT ht fun v => ⟨by omega, ih (k + 1) _ (by omega) (by omega) (by omega) (g1.up _ (Or.inr rfl)) (b1.sm ((zsm.refl (fun b _ => b = 157) _).up _ rfl) (fun j hj => by omega) (fun j => by omega))⟩⟩
  have u157 : ∀ (μ1 : zM) (i v w : Int) (c : Int), zPs μ1 T most c w → zPs (zup μ1 157 i v) T most c w := fun μ1 i v w c h => h.sm ((zsm.refl (fun b _ => b = 157) _).up _ rfl) (fun j hj => by omega) (fun j => by omega)
  have b157 : ∀ (μ1 : zM) (i v : Int), zBad μ1 T most A → zBad (zup μ1 157 i v) T most A := fun μ1 i v h => h.sm ((zsm.refl (fun b _ => b = 157) _).up _ rfl) (fun j hj => by omega) (fun j => by omega)
  have f1 : ∀ k, k < 4 → zfch 1 (0 + k) = 50 := by decide +kernel
  have pb : ∀ {μ1 μ2 : zM}, zsm zPp μ1 μ2 → zsm (fun b j => zPp b j ∨ b = 157) μ1 μ2 := fun g => g.mono (fun b j => Or.inl)
  have pg : ∀ {μ1 μ2 : zM}, zsm zPp μ1 μ2 → zsm (fun b j => zPp b j ∨ (b = 157 ∧ x ≤ j)) μ1 μ2 := fun g => g.mono (fun b j => Or.inl)
  refine rX11_readMeasure_e C _ (kX11_readPatchA hp hT hm ha hA (by rw [zfp1_l]; decide) f1 (fun l1 c1 c2 μ1 g1 p1 A1 => ⟨by omega, ?_⟩) (fun v μ1 g1 b1 => ⟨by omega, bad 3 0 _ (by decide) (by decide) (by decide) ((pb g1).up _ (Or.inr rfl)) (b157 _ _ _ b1)⟩))
  refine rX11_readMeasure_12 C _ _ ⟨by decide, fun z => absurd z (by decide), fun _ => kX11_twoA (a := a + 4) (u157 _ _ _ _ _ p1) hT hm l1 A1 (by rw [zfp1_l]; decide) (by decide +kernel) (by decide +kernel) (fun l2 c3 c4 μ2 g2 p2 A2 => ⟨by omega, ?_⟩) (fun v μ2 g2 b2 => ⟨by omega, bad 2 (0 + 1) _ (by decide) (by decide) (by decide) ((((pb g1).up _ (Or.inr rfl)).trans (pb g2)).up _ (Or.inr rfl)) (b157 _ _ _ b2)⟩)⟩
  refine rX11_readMeasure_12 C _ _ ⟨by decide, fun z => absurd z (by decide), fun _ => kX11_twoA (a := a + 4 + 2) (u157 _ _ _ _ _ p2) hT hm l2 A2 (by rw [zfp1_l]; decide) (by decide +kernel) (by decide +kernel) (fun l3 c5 c6 μ3 g3 p3 A3 => ⟨by omega, ?_⟩) (fun v μ3 g3 b3 => ⟨by omega, bad 1 (0 + 1 + 1) _ (by decide) (by decide) (by decide) ((((((pb g1).up _ (Or.inr rfl)).trans (pb g2)).up _ (Or.inr rfl)).trans (pb g3)).up _ (Or.inr rfl)) (b157 _ _ _ b3)⟩)⟩
  refine rX11_readMeasure_12 C _ _ ⟨by decide, fun z => absurd z (by decide), fun _ => kX11_twoA (a := a + 4 + 2 + 2) (u157 _ _ _ _ _ p3) hT hm l3 A3 (by rw [zfp1_l]; decide) (by decide +kernel) (by decide +kernel) (fun l4 c7 c8 μ4 g4 p4 A4 => ⟨by omega, ?_⟩) (fun v μ4 g4 b4 => ⟨by omega, bad 0 (0 + 1 + 1 + 1) _ (by decide) (by decide) (by decide) ((((((((pb g1).up _ (Or.inr rfl)).trans (pb g2)).up _ (Or.inr rfl)).trans (pb g3)).up _ (Or.inr rfl)).trans (pb g4)).up _ (Or.inr rfl)) (b157 _ _ _ b4)⟩)⟩
  have e1 : ((a + 4 : Nat) : Int) = (a : Int) + 4 := by omega
  have e2 : ((a + 4 + 2 : Nat) : Int) = (a : Int) + 6 := by omega
  have e3 : ((a + 4 + 2 + 2 : Nat) : Int) = (a : Int) + 8 := by omega
  rw [e1] at c3 c4; rw [e2] at c5 c6; rw [e3] at c7 c8 p4
  rw [e3]
  refine rX11_readMeasure_12 C _ _ ⟨by decide, fun _ => ?_, fun z => absurd (by decide) z⟩
  refine hok (by omega) ⟨by omega, by omega, by omega, by omega⟩ _ ((((((((pg g1).up _ (Or.inr ⟨rfl, by omega⟩)).trans (pg g2)).up _ (Or.inr ⟨rfl, by omega⟩)).trans (pg g3)).up _ (Or.inr ⟨rfl, by omega⟩)).trans (pg g4)).up _ (Or.inr ⟨rfl, by omega⟩)) (u157 _ _ _ _ _ (by rw [show (a : Int) + 10 = a + 8 + 2 by omega]; exact p4)) A4 ?_ ?_ ?_ ?_
  · rw [zi_off (by omega), g4.1 _ _ (by omega), zi_off (by omega), g3.1 _ _ (by omega), zi_off (by omega), g2.1 _ _ (by omega), zi_at]
  · rw [zi_off (by omega), g4.1 _ _ (by omega), zi_off (by omega), g3.1 _ _ (by omega), show x + 1 + 0 = x + 1 by omega, zi_at, e1]
  · rw [zi_off (by omega), g4.1 _ _ (by omega), show x + 1 + (0 + 1) = x + 2 by omega, zi_at, e2]
  · rw [show x + 1 + (0 + 1 + 1) = x + 3 by omega, zi_at]
end
