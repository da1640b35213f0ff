/-! patches of the reference -/
/-- the state after n patches were told -/
def zpaS (S : Int → Int) (T : List Int) : Nat → Int → Int
  | 0 => S
  | n + 1 => zmeaS (zpaS S T n) (zpnum T (10 * n)) (ztwo T (10 * n + 4)) (ztwo T (10 * n + 6)) (ztwo T (10 * n + 8))
/-- all that is told can be told -/
def zpaOK (T : List Int) (n : Nat) : Prop := ∀ k : Nat, k < n → zmeaO (zpnum T (10 * k)) (ztwo T (10 * k + 4)) (ztwo T (10 * k + 6)) (ztwo T (10 * k + 8))
theorem zpaS_v {S : Int → Int} (hv : zval S) {T : List Int} : ∀ {n : Nat}, zpaOK T n → zval (zpaS S T n)
  | 0, _ => hv
  | n + 1, h => zmeaS_v (zpaS_v hv (fun k hk => h k (by omega))) (h n (by omega))
theorem zfp1 : ∀ k : Fin 10, zfch 1 k.val = if k.val < 4 then 50 else 57 := by decide +kernel
theorem zfp1_l : (zstx 1).length = 10 := rfl
section
variable {G : zG} {μ : zM} {S : Int → Int} {W U : List (Int → Int)} {kp : Int → Int} {K : Int → Int → Int} {T R : List Int} {most A : Int} {a : Nat}
/-- from a place between two patches -/
theorem zwro_s {T : List Int} {tl most : Int} {a t : Nat} {d : Int} (ha : a < zN2 T most) (h41 : ¬ (zat T a = 41 ∧ 0 < d)) (hl : 0 < (zstx (zfor3 tl (zat T a))).length) (t' : Nat) (ht' : zfor3 tl (zat T a) = t') : zwro T tl most (zN2 T most - a) a t (zstx t).length d = zwro T tl most (zN2 T most - a) a t' 0 d := by
  obtain ⟨n, hn⟩ : ∃ n, zN2 T most - a = n + 1 := ⟨zN2 T most - a - 1, by omega⟩
  subst ht'
  rw [hn, zwro, if_neg (by omega), if_pos rfl]
  rw [zwro, if_neg (by omega), if_neg (by omega)]
  by_cases c : zcs (zat T a) (zfch (zfor3 tl (zat T a)) 0) d
  · rw [if_neg (fun z => z.elim (by omega) (fun z => z c)), if_neg (fun z => z c)]
  · rw [if_pos (Or.inr c), if_pos c]
theorem kX11_readMeasureB {F : zM → Prop} (hb : zBad μ T most A) (hT : zTv T) (ht : zin most) {x : Int} (hx : 0 ≤ x ∧ x + 3 < 320) (h : ∀ μ', zsm (fun b _ => b = 157) μ μ' → zBad μ' T most A → F μ') : qX11_readMeasure G x μ F := by
  refine eX11_readMeasure fun J C => rX11_readMeasure_e C _ (kX11_readPatchB hb hT ht fun v => ⟨by omega, ?_⟩)
  have key : ∀ (n : Nat) (k : Int) (μ1 : zM), (n : Int) = 3 - k → 0 ≤ k → k ≤ 3 → zsm (fun b _ => b = 157) μ μ1 → zBad μ1 T most A → J 12 ([some (zR (some 153)), some (zI x), some (zI k)], [], μ1, 0, 0) := by
    intro n
    induction n with
    | zero => intro k μ1 hk k0 k1 g1 b1; exact rX11_readMeasure_12 C _ _ ⟨by constructor <;> omega, fun _ => h μ1 g1 b1, fun z => absurd (by omega) z⟩
    | succ n ih =>
      intro k μ1 hk k0 k1 g1 b1
      refine rX11_readMeasure_12 C _ _ ⟨by constructor <;> omega, fun z => absurd z (by omega), fun _ => kX11_twoB b1 hT ht fun v => ⟨by omega, ih (k + 1) _ (by omega) (by omega) (by omega) (g1.up _ rfl) (b1.sm ((zsm.refl (fun b _ => b = 157) _).up _ rfl) (fun j hj => by omega) (fun j => by omega))⟩⟩
  exact key 3 0 _ (by decide) (by decide) (by decide) ((zsm.refl _ _).up _ rfl) (hb.sm ((zsm.refl (fun b _ => b = 157) _).up _ rfl) (fun j hj => by omega) (fun j => by omega))
end
