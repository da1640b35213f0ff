/-! undo, keep, again, count -/
theorem zval.pic {S : Int → Int} (h : zval S) : S 702 * S 703 ≤ 64 := (zPic_n h.2.2.1).2
abbrev zUv (U : List (Int → Int)) : Prop := ∀ k : Nat, k < U.length → zval (zU U k)
theorem zU_last (U : List (Int → Int)) {k : Nat} (h : k < U.length - 1) : zU U.dropLast k = zU U k := by
  unfold zU
  rw [List.getD_eq_getElem?_getD, List.getD_eq_getElem?_getD, List.getElem?_dropLast, if_pos h]
theorem zUv.drop {U : List (Int → Int)} (h : zUv U) : zUv U.dropLast := fun k hk => by
  rw [List.length_dropLast] at hk
  rw [zU_last U hk]
  exact h k (by omega)
theorem zUv.push {U : List (Int → Int)} {S : Int → Int} (h : zUv U) (hu : U.length ≤ 10) (hS : zval S) : zUv (zpush U S) := fun k hk => by
  unfold zpush at hk ⊢
  by_cases c : U.length < 10
  · rw [if_pos c] at hk ⊢
    rw [List.length_append, List.length_singleton] at hk
    by_cases d : k < U.length
    · rw [zU_app_l d]; exact h k d
    · rw [zU_app_r (by omega)]; exact hS
  · rw [if_neg c] at hk ⊢
    rw [List.length_append, List.length_singleton, List.length_tail] at hk
    by_cases d : k < U.tail.length
    · rw [zU_app_l d]
      have e : zU U.tail k = zU U (k + 1) := by
        cases U with
        | nil => simp at c
        | cons x U => rfl
      rw [e]
      rw [List.length_tail] at d
      exact h (k + 1) (by omega)
    · rw [List.length_tail] at d
      rw [zU_app_r (by rw [List.length_tail]; omega)]; exact hS
section
variable {G : zG} {μ : zM} {S : Int → Int} {c : Int} {W U : List (Int → Int)} {kp : Int → Int} {K : Int → Int → Int} {T R : List Int}
/-- now becomes what stands elsewhere -/
theorem zXg.now {μ' : zM} {Q : Nat → Int → Prop} {P : Nat → Int → Prop} {S' : Int → Int} (h : zXg μ S c W kp K T R) (hm : zsr P Q μ μ') (hP : ∀ b j, P b j → 5 ≤ b ∧ b ≤ 11) (hQ : ∀ b j, Q b j → b = 5 ∧ j = 8) (hX : zXs μ' 5 S') (hL : zLnk S' μ (zr μ' 5 8)) : zXg μ' S' c W kp K T R := by
  obtain ⟨h1, h2, ⟨g, hg, e1, e2, h3⟩, ⟨h4, h5⟩, h6, h7, h8⟩ := h
  have hP2 : ∀ (b : Nat) (j : Int), P b j → b < 182 ∧ ¬ zlb b := fun b j z => by
    have := hP b j z
    exact ⟨by omega, fun y => by rcases y with y | ⟨i, hi, y⟩ | y | y | y <;> omega⟩
  have hQ2 : ∀ (b : Nat) (j : Int), Q b j → b < 182 ∧ ¬ zlb b := fun b j z => by
    have := hQ b j z
    exact ⟨by omega, fun y => by rcases y with y | ⟨i, hi, y⟩ | y | y | y <;> omega⟩
  refine ⟨hX, hL.q hm hP2 hQ2, ⟨g, hg, ?_, ?_, fun k hk => ⟨(h3 k hk).1.q hm (fun b j i0 i1 z => ?_), ?_⟩⟩, ⟨fun i i0 i1 => ⟨?_, fun e => ((h4 i i0 i1).2 e).q hm (fun b j q0 q1 z => ?_)⟩, fun i i0 i1 e => ?_⟩, ⟨?_, fun k hk => ?_⟩, h7.q hm (fun z => ?_) (fun j z => ?_), h8.q hm (fun b j y z => ?_)⟩
  · rw [hm.1 13 1 (fun z => by have := hP _ _ z; omega)]; exact e1
  · rw [hm.1 13 2 (fun z => by have := hP _ _ z; omega)]; exact e2
  · have := hP _ _ z; unfold zslo at *; omega
  · rw [hm.2.1 _ 8 (fun z => by have := hQ _ _ z; unfold zslo at *; omega)]; exact (h3 k hk).2.q hm hP2 hQ2
  · rw [hm.1 104 i (fun z => by have := hP _ _ z; omega)]; exact (h4 i i0 i1).1
  · have := hP _ _ z; omega
  · rw [hm.2.1 _ 8 (fun z => by have := hQ _ _ z; omega)]; exact (h5 i i0 i1 e).q hm hP2 hQ2
  · rw [hm.1 1 1 (fun z => by have := hP _ _ z; omega)]; exact h6.1
  · rw [hm.1 2 k (fun z => by have := hP _ _ z; omega)]; exact h6.2 k hk
  · have := hP _ _ z; omega
  · have := hP _ _ z; omega
  · have := hP _ _ z; omega
/-- only the history's numbers change -/
theorem zXg.cnt {c' : Int} {W' : List (Int → Int)} (h : zXg μ S c W kp K T R) (hW : ∀ k : Nat, k < W'.length → k < W.length ∧ zU W' k = zU W k) {v : Int} (e : v = c') : zXg (zup μ 13 2 v) S c' W' kp K T R := by
  have gm : zsm (fun b _ => b = 13) μ (zup μ 13 2 v) := (zsm.refl _ _).up _ rfl
  refine h.h13 gm (fun b j z => z) (fun ⟨g, hg, e1, e2, h3⟩ => ⟨g, hg, by rw [zi_off (by omega)]; exact e1, by rw [zi_at]; exact e, fun k hk => ?_⟩)
  obtain ⟨q1, q2⟩ := hW k hk
  rw [q2]
  exact h3 k q1
theorem kX10_undo {F : Int → zM → Prop} (hx : zXa μ S U kp K T R) (hU : zUv U) (h0 : U = [] → F (-1) μ) (h : U ≠ [] → ∀ μ', zxm μ μ' → zXa μ' (zU U (U.length - 1)) U.dropLast kp K T R → F ((U.length : Int) - 1) μ') : qX10_undo G μ F := by
  obtain ⟨hu, hx⟩ := hx
  obtain ⟨g, hg, e1, e2, h3⟩ := id hx.2.2.1
  refine eX10_undo fun J C => rX10_undo_e C ?_
  rw [e2]
  refine ⟨by constructor <;> omega, fun c => ?_, fun c => h0 (by cases U with | nil => rfl | cons x U => simp at c; omega)⟩
  have hne : U ≠ [] := fun z => by rw [z] at c; exact c rfl
  have hl : U.dropLast.length = U.length - 1 := List.length_dropLast
  refine eX1_bringBack fun J C => rX1_bringBack_e C zSt_5 ?_
  rw [e2]
  refine ⟨by constructor <;> omega, fun z => absurd z (by omega), fun _ => eX1_draftSlot fun J C => rX1_draftSlot_e C ?_⟩
  rw [zi_at, zi_off (by omega), e1]
  have x1 := hx.cnt (W' := U.dropLast) (c' := (U.dropLast.length : Int)) (v := (U.length : Int) - 1) (fun k hk => by rw [hl] at hk; exact ⟨by omega, zU_last U hk⟩) (by omega)
  have gm : zsm (fun b _ => b = 13) μ (zup μ 13 2 ((U.length : Int) - 1)) := (zsm.refl _ _).up _ rfl
  obtain ⟨s1, s2⟩ := h3 (U.length - 1) (by omega)
  have hv := hU (U.length - 1) (by omega)
  have es : zslo g (U.length - 1) = 15 + 8 * ((g + ((U.length : Int) - 1)) % 11).toNat := by unfold zslo; omega
  rw [es] at s1 s2
  have s1 := s1.sm gm (fun b j i0 i1 z => by omega)
  have s2 : zLnk (zU U (U.length - 1)) (zup μ 13 2 ((U.length : Int) - 1)) (zr (zup μ 13 2 ((U.length : Int) - 1)) (15 + 8 * ((g + ((U.length : Int) - 1)) % 11).toNat) 8) := s2.sm gm (fun b j hb z => by rcases hb with y | ⟨i, hi, y⟩ | y | y | y <;> omega)
  have gx := gm.xm (fun b j z => by omega)
  generalize zup μ 13 2 ((U.length : Int) - 1) = μ0 at *
  refine ⟨by omega, by omega, kX7_copyFrom zSt_5 (zSt_slot (by omega)) (by omega) (fun p p0 p1 => by rw [s1.2.1 p p0 p1]; exact hv.1.2 p p0 p1) fun μ1 g1 c1 r1 => ?_⟩
  have x2 := x1.now g1 (fun b j z => by omega) (fun b j z => z) (c1 _ s1 hv.pic) (by rw [r1]; exact s2)
  have e3 : zi μ1 13 2 = (U.length : Int) - 1 := by obtain ⟨_, _, _, e, _⟩ := x2.2.2.1; rw [e]; omega
  rw [e3]
  exact h hne μ1 (gx.trans (g1.xm (fun b j z => by omega) (fun b j z => ⟨15 + 8 * ((g + ((U.length : Int) - 1)) % 11).toNat, 8, by decide, by rw [z.1, z.2]; exact r1⟩))) ⟨by omega, x2⟩
theorem kX11_undo {F : Int → zM → Prop} (hM : zMa μ S U kp K T R) (h0 : U = [] → ∀ μ', zsm zPW μ μ' → zMa μ' S U kp K T R → F (-1) μ') (h : U ≠ [] → ∀ μ', zsm zPW μ μ' → zMa μ' (zU U (U.length - 1)) U.dropLast kp K T R → F ((U.length : Int) - 1) μ') : qX11_undo G μ F := by
  have g0 : zsm zPW μ (zup μ 153 5 0) := (zsm.refl _ _).up _ (by decide)
  have hM := hM.pub (zMthr μ) hM.2.2.2.2.1.thr
  refine eX11_undo fun J C => rX11_undo_e C ?_
  generalize zup μ 153 5 0 = μ0 at *
  obtain ⟨hM1, ⟨hu, e, hm⟩, hK, hT, hR, hC⟩ := id hM
  rw [e]
  refine ⟨by constructor <;> omega, fun c => ?_, fun c => h0 (by cases U with | nil => rfl | cons x U => simp at c; omega) μ0 g0 hM⟩
  have hne : U ≠ [] := fun z => by rw [z] at c; exact c rfl
  have hl : U.dropLast.length = U.length - 1 := List.length_dropLast
  have gm : zsm (fun b j => b = 154 ∨ (b = 153 ∧ j = 39)) μ0 (zup μ0 153 39 ((U.length : Int) - 1)) := (zsm.refl _ _).up _ (Or.inr ⟨rfl, rfl⟩)
  refine zfor (lo := 0) (hi := 711) (by decide) (P := fun n => ∀ μ1, zsm (fun b j => b = 154 ∨ (b = 153 ∧ j = 39)) μ0 μ1 → zi μ1 153 39 = (U.length : Int) - 1 → (∀ i, 0 ≤ i → i < n → zi μ1 154 i = zU U (U.length - 1) i) → J 26 ([some (zR (some 153)), some (zI n)], [], μ1, 0, 0)) ?_ ?_ _ gm zi_at (fun i i0 i1 => absurd i1 (by omega))
  · intro μ1 g1 e1 a1
    refine rX11_undo_26 C _ ⟨by decide, fun _ => ?_, fun z => absurd (by decide) z⟩
    rw [e1]
    refine h hne μ1 (g0.trans (g1.mono (fun b j => by unfold zPW; omega))) ⟨a1, ⟨by omega, by rw [e1, hl]; omega, fun k hk i i0 i1 => ?_⟩, hK.sm g1 (by omega), hT.sm g1 (by omega) (by omega), hR.sm g1 (by omega) (by omega), hC.sm g1 (by omega)⟩
    rw [hl] at hk
    rw [g1.1 _ _ (by omega), zU_last U hk]
    exact hm k (by omega) i i0 i1
  · intro n n0 n1 ih μ1 g1 e1 a1
    refine rX11_undo_26 C _ ⟨by constructor <;> omega, fun z => absurd z (by omega), fun _ => ?_⟩
    rw [e1]
    refine ⟨by omega, ⟨n0, n1⟩, ih _ (g1.up _ (Or.inl rfl)) (by rw [zi_off (by omega)]; exact e1) (fun i i0 i1 => ?_)⟩
    by_cases ci : i = n
    · subst ci
      rw [zi_at, g1.1 _ _ (by omega), ← hm (U.length - 1) (by omega) i n0 n1]
      congr 1
      omega
    · rw [zi_off (by omega)]; exact a1 i i0 (by omega)
/-- what is kept, with one more -/
def zkk (kp : Int → Int) (i : Int) : Int → Int := zupd kp i 1
def zkK (K : Int → Int → Int) (S : Int → Int) (i : Int) : Int → Int → Int := fun j => if j = i then S else K j
theorem kX10_keep {F : Int → zM → Prop} (hx : zXa μ S U kp K T R) (hv : zval S) {i : Int} (ii : zin i) (h0 : ¬ (0 ≤ i ∧ i ≤ 1) → F 0 μ) (h : 0 ≤ i ∧ i ≤ 1 → ∀ μ', zxm μ μ' → zXa μ' S U (zkk kp i) (zkK K S i) T R → F 1 μ') : qX10_keep G i μ F := by
  obtain ⟨hu, h1, h2, ⟨g, hg, e1, e2, h3⟩, ⟨h4, h5⟩, h6, h7, h8⟩ := hx
  refine eX10_keep fun J C => rX10_keep_e C _ (kX10_isIn ii (by decide) (by decide) (fun c => ⟨by decide, fun _ => ⟨by omega, ?_⟩, fun z => absurd z (by decide)⟩) (fun c => ⟨by decide, fun z => absurd rfl z, fun _ => h0 c⟩))
  refine kX7_copyFrom (zSt_kept (by omega)) zSt_5 (by omega) (fun p p0 p1 => by rw [h1.2.1 p p0 p1]; exact hv.1.2 p p0 p1) fun μ1 g1 x1 r1 => ?_
  have x1 := x1 S h1 hv.pic
  have g2 : zsr (fun b j => (137 + 8 * i.toNat ≤ b ∧ b ≤ 137 + 8 * i.toNat + 6) ∨ (b = 104 ∧ j = i)) (fun b j => b = 137 + 8 * i.toNat ∧ j = 8) μ (zup μ1 104 i 1) := ⟨fun b j z => by rw [zi_off (by omega)]; exact g1.1 b j (by omega), fun b j z => g1.2.1 b j z, g1.2.2.1, g1.2.2.2⟩
  have hP : ∀ (b : Nat) (j : Int), ((137 + 8 * i.toNat ≤ b ∧ b ≤ 137 + 8 * i.toNat + 6) ∨ (b = 104 ∧ j = i)) → b < 182 ∧ ¬ zlb b := fun b j z => ⟨by omega, fun y => by rcases y with y | ⟨n, hi, y⟩ | y | y | y <;> omega⟩
  have hQ : ∀ (b : Nat) (j : Int), (b = 137 + 8 * i.toNat ∧ j = 8) → b < 182 ∧ ¬ zlb b := fun b j z => hP b j (by omega)
  refine h c _ (g2.xm (fun b j z => by omega) (fun b j z => ⟨5, 8, by decide, by rw [z.1, z.2]; exact r1⟩)) ⟨hu, h1.q g2 (fun b j i0 i1 z => by omega), ?_, ⟨g, hg, ?_, ?_, fun k hk => ⟨(h3 k hk).1.q g2 (fun b j i0 i1 z => by unfold zslo at *; omega), ?_⟩⟩, ⟨fun n i0 i1 => ?_, fun n i0 i1 e => ?_⟩, ⟨?_, fun k hk => ?_⟩, h7.q g2 (by omega) (by omega), h8.q g2 (by omega)⟩
  · rw [g2.2.1 5 8 (by omega)]; exact h2.q g2 hP hQ
  · rw [g2.1 13 1 (by omega)]; exact e1
  · rw [g2.1 13 2 (by omega)]; exact e2
  · rw [g2.2.1 _ 8 (by unfold zslo at *; omega)]; exact (h3 k hk).2.q g2 hP hQ
  · unfold zkk zkK zupd
    by_cases cn : n = i
    · rw [if_pos cn, if_pos cn]
      subst cn
      exact ⟨zi_at, fun _ => x1.sm ((zsm.refl (fun b _ => b = 104) _).up _ rfl) (fun b j q0 q1 z => by omega)⟩
    · rw [if_neg cn, if_neg cn]
      refine ⟨?_, fun e => ((h4 n i0 i1).2 e).q g2 (fun b j q0 q1 z => by omega)⟩
      rw [g2.1 104 n (by omega)]; exact (h4 n i0 i1).1
  · unfold zkk zkK zupd at *
    by_cases cn : n = i
    · rw [if_pos cn]
      subst cn
      have er : zr (zup μ1 104 n 1) (137 + 8 * n.toNat) 8 = zr μ 5 8 := r1
      rw [er]
      exact h2.q g2 hP hQ
    · rw [if_neg cn] at e ⊢
      rw [g2.2.1 _ 8 (by omega)]
      exact (h5 n i0 i1 e).q g2 hP hQ
  · rw [g2.1 1 1 (by omega)]; exact h6.1
  · rw [g2.1 2 k (by omega)]; exact h6.2 k hk
theorem kX11_keep {F : Int → zM → Prop} (hM : zMa μ S U kp K T R) {i : Int} (ii : zin i) (h0 : ¬ (0 ≤ i ∧ i ≤ 1) → ∀ μ', zsm zPW μ μ' → zMa μ' S U kp K T R → F 0 μ') (h : 0 ≤ i ∧ i ≤ 1 → ∀ μ', zsm zPW μ μ' → zMa μ' S U (zkk kp i) (zkK K S i) T R → F 1 μ') : qX11_keep G i μ F := by
  have g0 : zsm zPW μ (zup μ 153 5 0) := (zsm.refl _ _).up _ (by decide)
  have hM := hM.pub (zMthr μ) hM.2.2.2.2.1.thr
  refine eX11_keep fun J C => rX11_keep_e C _ ?_
  generalize zup μ 153 5 0 = μ0 at *
  obtain ⟨hM1, hU, hK, hT, hR, hC⟩ := id hM
  refine kX11_in ii (by decide) (by decide) (fun c => ⟨by decide, fun _ => ⟨by omega, ?_⟩, fun z => absurd z (by decide)⟩) (fun c => ⟨by decide, fun z => absurd rfl z, fun _ => h0 c μ0 g0 hM⟩)
  have gm : zsm (fun b j => (b = 179 ∧ 711 * i ≤ j ∧ j < 711 * i + 711) ∨ (b = 180 ∧ j = i)) μ0 (zup μ0 180 i 1) := (zsm.refl _ _).up _ (Or.inr ⟨rfl, rfl⟩)
  refine zfor (lo := 0) (hi := 711) (by decide) (P := fun n => ∀ μ1, zsm (fun b j => (b = 179 ∧ 711 * i ≤ j ∧ j < 711 * i + 711) ∨ (b = 180 ∧ j = i)) μ0 μ1 → zi μ1 180 i = 1 → (∀ k, 0 ≤ k → k < n → zi μ1 179 (711 * i + k) = S k) → J 25 ([some (zR (some 153)), some (zI i), some (zI n)], [], μ1, 0, 0)) ?_ ?_ _ gm zi_at (fun i i0 i1 => absurd i1 (by omega))
  · intro μ1 g1 e1 a1
    refine rX11_keep_25 C _ _ ⟨by decide, fun _ => h c μ1 (g0.trans (g1.mono (fun b j => by unfold zPW; omega))) ⟨hM1.sm g1 (by omega), hU.sm g1 (by omega) (by omega), fun n i0 i1 => ?_, hT.sm g1 (by omega) (by omega), hR.sm g1 (by omega) (by omega), hC.sm g1 (by omega)⟩, fun z => absurd (by decide) z⟩
    unfold zkk zkK zupd
    by_cases cn : n = i
    · rw [if_pos cn, if_pos cn]
      subst cn
      exact ⟨e1, fun _ => a1⟩
    · rw [if_neg cn, if_neg cn]
      exact ⟨by rw [g1.1 _ _ (by omega)]; exact (hK n i0 i1).1, fun e k k0 k1 => by rw [g1.1 _ _ (by omega)]; exact (hK n i0 i1).2 e k k0 k1⟩
  · intro n n0 n1 ih μ1 g1 e1 a1
    refine rX11_keep_25 C _ _ ⟨by constructor <;> omega, fun z => absurd z (by omega), fun _ => ⟨⟨n0, n1⟩, by omega, ?_⟩⟩
    rw [(hM1.sm g1 (by omega)) n n0 n1]
    refine ih _ (g1.up _ (Or.inl ⟨rfl, by omega, by omega⟩)) (by rw [zi_off (by omega)]; exact e1) (fun k k0 k1 => ?_)
    by_cases ci : k = n
    · subst ci; exact zi_at
    · rw [zi_off (by omega)]; exact a1 k k0 (by omega)
theorem kX10_again {F : Int → zM → Prop} (hx : zXa μ S U kp K T R) (hk : ∀ i, 0 ≤ i → i < 2 → (kp i = 0 ∨ kp i = 1) ∧ (kp i = 1 → zval (K i))) {i : Int} (ii : zin i) (h0 : ¬ ((0 ≤ i ∧ i ≤ 1) ∧ kp i = 1) → F 0 μ) (h : (0 ≤ i ∧ i ≤ 1) ∧ kp i = 1 → ∀ μ', zxm μ μ' → zXa μ' (K i) [] kp K T R → F 1 μ') : qX10_again G i μ F := by
  obtain ⟨hu, hx⟩ := hx
  obtain ⟨h4, h5⟩ := id hx.2.2.2.1
  refine eX10_again fun J C => rX10_again_e C _ (kX10_isIn ii (by decide) (by decide) (fun c => ⟨by decide, fun z => absurd z (by decide), fun _ => ⟨by omega, ?_⟩⟩) (fun c => ⟨by decide, fun _ => h0 (fun z => c z.1), fun z => absurd rfl z⟩))
  obtain ⟨k1, k2⟩ := hk i c.1 (by omega)
  obtain ⟨f1, f2⟩ := h4 i c.1 (by omega)
  rw [f1]
  refine ⟨by rcases k1 with z | z <;> rw [z] <;> decide, fun z => ?_, fun z => h0 (fun y => by omega)⟩
  have e : kp i = 1 := by omega
  have hv := k2 e
  have hX := f2 e
  refine kX7_copyFrom zSt_5 (zSt_kept (by omega)) (by omega) (fun p p0 p1 => by rw [hX.2.1 p p0 p1]; exact hv.1.2 p p0 p1) fun μ1 g1 x1 r1 => ?_
  have x2 := hx.now g1 (fun b j z => by omega) (fun b j z => z) (x1 _ hX hv.pic) (by rw [r1]; exact h5 i c.1 (by omega) e)
  have x3 := x2.cnt (W' := []) (c' := 0) (v := 0) (fun k hk => absurd hk (by simp)) rfl
  have gm : zsm (fun b _ => b = 13) μ1 (zup μ1 13 2 0) := (zsm.refl _ _).up _ rfl
  exact h ⟨c, e⟩ _ ((g1.xm (fun b j z => by omega) (fun b j z => ⟨137 + 8 * i.toNat, 8, by decide, by rw [z.1, z.2]; exact r1⟩)).trans (gm.xm (fun b j z => by omega))) ⟨by simp, x3⟩
theorem kX11_again {F : Int → zM → Prop} (hM : zMa μ S U kp K T R) (hk : ∀ i, 0 ≤ i → i < 2 → (kp i = 0 ∨ kp i = 1) ∧ (kp i = 1 → zval (K i))) {i : Int} (ii : zin i) (h0 : ¬ ((0 ≤ i ∧ i ≤ 1) ∧ kp i = 1) → ∀ μ', zsm zPW μ μ' → zMa μ' S U kp K T R → F 0 μ') (h : (0 ≤ i ∧ i ≤ 1) ∧ kp i = 1 → ∀ μ', zsm zPW μ μ' → zMa μ' (K i) [] kp K T R → F 1 μ') : qX11_again G i μ F := by
  have g0 : zsm zPW μ (zup μ 153 5 0) := (zsm.refl _ _).up _ (by decide)
  have hM := hM.pub (zMthr μ) hM.2.2.2.2.1.thr
  refine eX11_again fun J C => rX11_again_e C _ ?_
  generalize zup μ 153 5 0 = μ0 at *
  obtain ⟨hM1, hU, hK, hT, hR, hC⟩ := id hM
  refine kX11_in ii (by decide) (by decide) (fun c => ⟨by decide, fun z => absurd z (by decide), fun _ => ⟨by omega, ?_⟩⟩) (fun c => ⟨by decide, fun _ => h0 (fun z => c z.1) μ0 g0 hM, fun z => absurd rfl z⟩)
  obtain ⟨k1, k2⟩ := hk i c.1 (by omega)
  obtain ⟨f1, f2⟩ := hK i c.1 (by omega)
  rw [f1]
  refine ⟨by rcases k1 with z | z <;> rw [z] <;> decide, fun z => ?_, fun z => h0 (fun y => by omega) μ0 g0 hM⟩
  have e : kp i = 1 := by omega
  have f2 := f2 e
  refine zfor (lo := 0) (hi := 711) (by decide) (P := fun n => ∀ μ1, zsm (fun b _ => b = 154) μ0 μ1 → (∀ k, 0 ≤ k → k < n → zi μ1 154 k = K i k) → J 27 ([some (zR (some 153)), some (zI i), some (zI n)], [], μ1, 0, 0)) ?_ ?_ _ (zsm.refl _ _) (fun i i0 i1 => absurd i1 (by omega))
  · intro μ1 g1 a1
    have gm : zsm (fun b j => b = 154 ∨ (b = 153 ∧ j = 39)) μ0 (zup μ1 153 39 0) := (g1.mono (fun b j => by omega)).up _ (Or.inr ⟨rfl, rfl⟩)
    refine rX11_again_27 C _ _ ⟨by decide, fun _ => h ⟨c, e⟩ _ (g0.trans (gm.mono (fun b j => by unfold zPW; omega))) ⟨fun k k0 k1 => by rw [zi_off (by omega)]; exact a1 k k0 k1, ⟨by simp, zi_at, fun k hk => absurd hk (by simp)⟩, hK.sm gm (by omega), hT.sm gm (by omega) (by omega), hR.sm gm (by omega) (by omega), hC.sm gm (by omega)⟩, fun z => absurd (by decide) z⟩
  · intro n n0 n1 ih μ1 g1 a1
    refine rX11_again_27 C _ _ ⟨by constructor <;> omega, fun z => absurd z (by omega), fun _ => ⟨by omega, ⟨n0, n1⟩, ?_⟩⟩
    refine ih _ (g1.up _ rfl) (fun k k0 k1 => ?_)
    by_cases ci : k = n
    · subst ci; rw [zi_at, g1.1 _ _ (by omega)]; exact f2 k n0 n1
    · rw [zi_off (by omega)]; exact a1 k k0 (by omega)
end
