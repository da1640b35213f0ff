/-! other, carry, drifts -/
theorem zush16 (x : Int) : 0 ≤ zushr x 16 ∧ zushr x 16 < 65536 := by
  have key : ∀ u : UInt32, 0 ≤ ((u >>> 16).toInt32).toInt ∧ ((u >>> 16).toInt32).toInt < 65536 := by
    intro u
    have h : (u >>> 16).toNat < 65536 := by
      rw [UInt32.toNat_shiftRight]
      have := u.toNat_lt
      show u.toNat >>> (16 % 32) < 65536
      rw [Nat.shiftRight_eq_div_pow, show 2 ^ (16 % 32) = 65536 by decide]
      omega
    have e : ((u >>> 16).toInt32).toInt = ((u >>> 16).toNat : Int) := by
      show ((u >>> 16).toBitVec).toInt = (((u >>> 16).toBitVec).toNat : Int)
      exact BitVec.toInt_eq_toNat_of_lt (by have : ((u >>> 16).toBitVec).toNat < 65536 := h; omega)
    rw [e]
    omega
  exact key _
/-- numbers of P and references of Q may change -/
def zsr (P Q : Nat → Int → Prop) (μ μ' : zM) : Prop := (∀ b j, ¬ P b j → zi μ' b j = zi μ b j) ∧ (∀ b j, ¬ Q b j → zr μ' b j = zr μ b j) ∧ zh μ' = zh μ ∧ zn μ' = zn μ
theorem zsm.q {P Q : Nat → Int → Prop} {μ μ' : zM} (h : zsm P μ μ') : zsr P Q μ μ' := ⟨h.1, fun b j _ => by rw [h.2.1], h.2.2.1, h.2.2.2⟩
theorem zsr.m {P Q : Nat → Int → Prop} {μ μ' : zM} (h : zsr P Q μ μ') : zsm P μ (μ'.1, μ.2) := ⟨h.1, rfl, rfl, rfl⟩
theorem zsr.trans {P Q : Nat → Int → Prop} {μ μ' μ'' : zM} (h : zsr P Q μ μ') (h2 : zsr P Q μ' μ'') : zsr P Q μ μ'' :=
  ⟨fun b j hb => (h2.1 b j hb).trans (h.1 b j hb), fun b j hb => (h2.2.1 b j hb).trans (h.2.1 b j hb), h2.2.2.1.trans h.2.2.1, h2.2.2.2.trans h.2.2.2⟩
theorem zsr.mono {P Q P' Q' : Nat → Int → Prop} {μ μ' : zM} (h : zsr P Q μ μ') (hp : ∀ b j, P b j → P' b j) (hq : ∀ b j, Q b j → Q' b j) : zsr P' Q' μ μ' :=
  ⟨fun b j hb => h.1 b j (fun q => hb (hp b j q)), fun b j hb => h.2.1 b j (fun q => hb (hq b j q)), h.2.2⟩
theorem zi_cpo {μ : zM} {b a n x : Nat} {j : Int} (h : ¬ (x = a ∧ 0 ≤ j ∧ j < (n : Int))) : zi (zcopy μ b a n) x j = zi μ x j := by rw [zi_copy, if_neg h]
theorem zi_cpa {μ : zM} {b a n : Nat} {j : Int} (h : 0 ≤ j ∧ j < (n : Int)) : zi (zcopy μ b a n) a j = zi μ b j := by rw [zi_copy, if_pos ⟨rfl, h⟩]
/-- lights of one state, settings of another -/
def zmx (K S : Int → Int) (i : Int) : Int := if i < 324 then K i else S i
theorem zmx_lr {K S : Int → Int} (h : zLr K) : zLr (zmx K S) := ⟨fun p h0 h1 => by unfold zmx; rw [if_pos (by omega)]; exact h.1 p h0 h1, fun p h0 h1 => by unfold zmx; rw [if_pos (by omega)]; exact h.2 p h0 h1⟩
theorem zmx_hi (K S : Int → Int) {i : Int} (h : 324 ≤ i) : zmx K S i = S i := by unfold zmx; rw [if_neg (by omega)]
theorem zmx_lo (K S : Int → Int) {i : Int} (h : i < 324) : zmx K S i = K i := by unfold zmx; rw [if_pos h]
theorem zSet_c {S S' : Int → Int} (h : ∀ i, 704 ≤ i → i < 711 → S' i = S i) (hv : zSet S) : zSet S' := by
  unfold zSet
  rw [h 704 (by decide) (by decide), h 705 (by decide) (by decide), h 706 (by decide) (by decide), h 707 (by decide) (by decide), h 708 (by decide) (by decide), h 709 (by decide) (by decide), h 710 (by decide) (by decide)]
  exact hv
theorem zmx_set {K S : Int → Int} (h : zSet S) : zSet (zmx K S) := zSet_c (fun i h0 _ => zmx_hi K S (by omega)) h
theorem zrkn_c {S S' : Int → Int} (h : ∀ i, 0 ≤ i → i < 324 → S' i = S i) {p b : Int} (hp : 0 ≤ p) (hb : 0 ≤ b ∧ b < 3) : ∀ n : Nat, n ≤ 4 → zrkn S' p b n = zrkn S p b n
  | 0, _ => h b hb.1 (by omega)
  | n + 1, hn => by
    have hw := zlvw (p := p) (i := n) hp (by omega) (by omega)
    rw [zrkn, zrkn, zrkn_c h hp hb n (by omega), h b hb.1 (by omega), h _ (by omega) (by omega)]
theorem zlt_c {S S' : Int → Int} (h : ∀ i, 0 ≤ i → i < 324 → S' i = S i) {p b : Int} (hp : 0 ≤ p ∧ p < 81) (hb : 0 ≤ b ∧ b < 3) : zlt S' p b = zlt S p b := by
  unfold zlt zrk
  rw [h (243 + p) (by omega) (by omega), h (3 * p + b) (by omega) (by omega), zrkn_c h hp.1 hb 4 (by decide)]
theorem zlg_c {S S' : Int → Int} (h : ∀ i, 0 ≤ i → i < 324 → S' i = S i) (i : Int) (h0 : 0 ≤ i) (h1 : i < 243) : zlg S' i = zlg S i := zlt_c h ⟨by omega, by omega⟩ ⟨by omega, by omega⟩
theorem zC_c {S S' : Int → Int} (h : ∀ i, 0 ≤ i → i < 324 → S' i = S i) {p b : Int} (hb : 0 ≤ b ∧ b < 3) : zC S' p b = zC S p b := zcol_c (fun i h0 h1 => zlg_c h i h0 h1) hb
theorem zchis_c {S S' : Int → Int} {μ : zM} {a : Nat} (h : ∀ i, 0 ≤ i → i < 324 → S' i = S i) (hc : zchis μ a S) : zchis μ a S' :=
  ⟨fun i h0 h1 => by rw [zlg_c h i h0 h1]; exact hc.1 i h0 h1, fun p b hp h0 h1 => by rw [zC_c h ⟨h0, h1⟩]; exact hc.2 p b hp h0 h1⟩
theorem zdw_c {S S' : Int → Int} (h : ∀ i, 704 ≤ i → i < 711 → S' i = S i) (x y z : Int) : zdw S' x y z = zdw S x y z := by
  unfold zdw
  rw [h 708 (by decide) (by decide), h 709 (by decide) (by decide), h 710 (by decide) (by decide)]
/-- of a place by other lights -/
noncomputable def zoth (S K : Int → Int) (p : Int) : Int := zdi S p (zC K p 0) (zC K p 1) (zC K p 2)
theorem zoth_r {S K : Int → Int} (hs : zSet S) (hr : zLr S) (hk : zLr K) (p : Int) : 0 ≤ zoth S K p ∧ zoth S K p ≤ 4320000 := zdi_r hs hr (zC_r hk (by decide)) (zC_r hk (by decide)) (zC_r hk (by decide))
theorem zoth_x (S K : Int → Int) (p : Int) : zdi (zmx K S) p (zC S p 0) (zC S p 1) (zC S p 2) = zoth S K p := by
  have e : ∀ b : Int, 0 ≤ b → b < 3 → zC (zmx K S) p b = zC K p b := fun b h0 h1 => zC_c (fun i _ h3 => zmx_lo K S h3) ⟨h0, h1⟩
  unfold zoth zdi
  rw [e 0 (by decide) (by decide), e 1 (by decide) (by decide), e 2 (by decide) (by decide), zdw_c (fun i h0 _ => zmx_hi K S (by omega)), ← zdw_neg S, Int.neg_sub, Int.neg_sub, Int.neg_sub]
noncomputable def zotf (S K : Int → Int) (s : Int × Int × Int) (p : Int) : Int × Int × Int := (if 0 < zoth S K p then s.1 + 1 else s.1, if s.2.1 < zoth S K p then zoth S K p else s.2.1, if s.2.1 < zoth S K p then p else s.2.2)
noncomputable def zotE (S K : Int → Int) : Int × Int × Int := zgE (zotf S K) (0, 0, -1) S
def zotI (n : Nat) (s : Int × Int × Int) : Prop := (0 ≤ s.1 ∧ s.1 ≤ n) ∧ (0 ≤ s.2.1 ∧ s.2.1 ≤ 4320000) ∧ (s.1 = 0 ∧ s.2.1 = 0 ∧ s.2.2 = -1 ∨ 0 < s.1 ∧ 0 < s.2.1 ∧ zPl s.2.2)
theorem zotI_s {S K : Int → Int} (hs : zSet S) (hr : zLr S) (hk : zLr K) (n : Nat) (s : Int × Int × Int) (p : Int) (hp : zPl p) (h : zotI n s) : zotI (n + 1) (zotf S K s p) := by
  obtain ⟨h1, h2, h3⟩ := h
  have r := zoth_r hs hr hk p
  have key : ∀ x y z : Int, (0 ≤ x ∧ x ≤ ((n + 1 : Nat) : Int)) ∧ (0 ≤ y ∧ y ≤ 4320000) ∧ (x = 0 ∧ y = 0 ∧ z = -1 ∨ 0 < x ∧ 0 < y ∧ zPl z) → zotI (n + 1) (x, y, z) := fun _ _ _ h => h
  unfold zotf
  generalize zoth S K p = v at *
  by_cases c1 : 0 < v
  · by_cases c2 : s.2.1 < v
    · rw [if_pos c1, if_pos c2, if_pos c2]; exact key _ _ _ ⟨by omega, by omega, Or.inr ⟨by omega, by omega, hp⟩⟩
    · rw [if_pos c1, if_neg c2, if_neg c2]
      refine key _ _ _ ⟨by omega, by omega, ?_⟩
      rcases h3 with h3 | h3
      · omega
      · exact Or.inr ⟨by omega, h3.2.1, h3.2.2⟩
  · rw [if_neg c1, if_neg (show ¬ s.2.1 < v by omega), if_neg (show ¬ s.2.1 < v by omega)]
    exact key _ _ _ ⟨by omega, h2, h3⟩
theorem zotI_X {S K : Int → Int} (hs : zSet S) (hr : zLr S) (hk : zLr K) (n : Nat) (hn : n ≤ zON S) : zotI n (zgX (zotf S K) (0, 0, -1) S n) :=
  zgX_i (I := zotI) ⟨⟨Int.le_refl _, Int.le_refl _⟩, ⟨Int.le_refl _, by decide⟩, Or.inl ⟨rfl, rfl, rfl⟩⟩ (fun k s p hp _ h => zotI_s hs hr hk k s p hp h) n hn
theorem zotI_M {S K : Int → Int} (hs : zSet S) (hr : zLr S) (hk : zLr K) (n : Nat) (hn : n ≤ zN65) : zotI n (zgM (zotf S K) (0, 0, -1) S n) :=
  zgM_i (I := zotI) ⟨⟨Int.le_refl _, Int.le_refl _⟩, ⟨Int.le_refl _, by decide⟩, Or.inl ⟨rfl, rfl, rfl⟩⟩ (fun k s p hp _ h => zotI_s hs hr hk k s p hp h) (fun k s h => ⟨⟨h.1.1, by have := h.1.2; omega⟩, h.2⟩) n hn
/-- what is kept -/
def zXk (μ : zM) (kp : Int → Int) (K : Int → Int → Int) : Prop := ∀ i, 0 ≤ i → i < 2 → zi μ 104 i = kp i ∧ (kp i = 1 → zXs μ (137 + 8 * i.toNat) (K i))
def zMk (μ : zM) (kp : Int → Int) (K : Int → Int → Int) : Prop := ∀ i, 0 ≤ i → i < 2 → zi μ 180 i = kp i ∧ (kp i = 1 → ∀ k, 0 ≤ k → k < 711 → zi μ 179 (711 * i + k) = K i k)
def zKr (kp : Int → Int) (K : Int → Int → Int) : Prop := ∀ i, 0 ≤ i → i < 2 → (kp i = 0 ∨ kp i = 1) ∧ (kp i = 1 → zLr (K i) ∧ zSet (K i))
theorem zXk.sm {P : Nat → Int → Prop} {μ μ' : zM} {kp : Int → Int} {K : Int → Int → Int} (h : zXk μ kp K) (hm : zsm P μ μ') (h1 : ∀ b j, b = 104 ∨ (137 ≤ b ∧ b ≤ 151) → ¬ P b j) : zXk μ' kp K := fun i h0 h2 => ⟨by rw [hm.1 _ _ (h1 _ _ (Or.inl rfl))]; exact (h i h0 h2).1, fun e => ((h i h0 h2).2 e).sm hm (fun b j q0 q1 => h1 b j (by omega))⟩
theorem zMk.sm {P : Nat → Int → Prop} {μ μ' : zM} {kp : Int → Int} {K : Int → Int → Int} (h : zMk μ kp K) (hm : zsm P μ μ') (h1 : ∀ b j, b = 179 ∨ b = 180 → ¬ P b j) : zMk μ' kp K := fun i h0 h2 => ⟨by rw [hm.1 _ _ (h1 _ _ (Or.inr rfl))]; exact (h i h0 h2).1, fun e k k0 k1 => by rw [hm.1 _ _ (h1 _ _ (Or.inl rfl))]; exact (h i h0 h2).2 e k k0 k1⟩
noncomputable def zora (S : Int → Int) (kp : Int → Int) (K : Int → Int → Int) (i : Int) : Int := if 0 ≤ i ∧ i ≤ 1 then (if kp i = 0 then -2 else (zotE S (K i)).1) else -1
noncomputable def zorr (S : Int → Int) (kp : Int → Int) (K : Int → Int → Int) (i : Int) (R : List Int) : List Int := if 0 ≤ i ∧ i ≤ 1 then (if kp i = 0 then R else if (zotE S (K i)).1 ≤ 0 then [] else [] ++ [(zotE S (K i)).2.1] ++ [zcd (zotE S (K i)).2.2]) else R
theorem z176 : zIsAr 176 711 := ⟨by decide, by decide +kernel⟩
section
variable {G : zG} {μ : zM} {S : Int → Int} {kp : Int → Int} {K : Int → Int → Int}
theorem kX10_trial {F : zM → Prop} (hX : zXs μ 5 S) (hr : zLr S) (hv : zSet S) (hc : zXc μ) (hK : zXk μ kp K) (hKr : zKr kp K) {i : Int} (hi : 0 ≤ i ∧ i < 2) (hk : kp i = 1) (h : ∀ μ', zsm (fun b j => (106 ≤ b ∧ b ≤ 110) ∨ (120 ≤ b ∧ b ≤ 124) ∨ b = 126 ∨ (b = 125 ∧ 1 ≤ j ∧ j ≤ 3)) μ μ' → zXc μ' → zchis μ' 105 S → zchis μ' 119 (K i) → zmop μ' S → F μ') : qX10_refresh G μ (fun μ7 => qX0_follow G 119 (137 + 8 * i.toNat) μ7 F) := by
  refine kX10_refresh hX hr hv hc fun μ1 g1 c1 k1 o1 => kX0_follow zCh_119 (zSt_kept hi) (by omega) (((hK.sm g1 (by omega)) i hi.1 hi.2).2 hk) ((hKr i hi.1 hi.2).2 hk).1 c1.2.1 fun μ2 g2 k2 => ?_
  exact h μ2 ((g1.mono (fun b j => by omega)).trans (g2.mono (fun b j => by omega))) ⟨c1.1.sm g2 (by omega), Or.inr ⟨_, ((hKr i hi.1 hi.2).2 hk).1, k2⟩, c1.2.2.sm g2 (by omega) (by omega)⟩ (k1.sm g2 (by omega)) k2 (o1.sm g2 (by omega) (by omega))
theorem kX10_other {F : Int → zM → Prop} {R : List Int} (hX : zXs μ 5 S) (hr : zLr S) (hv : zSet S) (hc : zXc μ) (hR : zXr μ R) (hK : zXk μ kp K) (hKr : zKr kp K) {i : Int} (ii : zin i) (h : ∀ μ', zsm zPX μ μ' → zXc μ' → zXr μ' (zorr S kp K i R) → F (zora S kp K i) μ') : qX10_other G i μ F := by
  unfold zorr zora at h
  refine eX10_other fun J C => rX10_other_e C _ (kX10_isIn ii (by decide) (by decide) (fun hi => ⟨by decide, fun _ => ⟨by omega, ?_⟩, fun z => absurd z (by decide)⟩) (fun hi => ⟨by decide, fun z => absurd rfl z, fun _ => ?_⟩))
  · rw [if_pos hi, if_pos hi] at h
    obtain ⟨e1, e2⟩ := hK i hi.1 (by omega)
    obtain ⟨e3, e4⟩ := hKr i hi.1 (by omega)
    rw [e1]
    refine ⟨by constructor <;> omega, fun c => ?_, fun c => ?_⟩
    · have k1' : kp i = 1 := by omega
      rw [if_neg c, if_neg c] at h
      have hkl := (e4 k1').1
      have hN := zON_le S
      refine kX10_trial hX hr hv hc hK hKr ⟨hi.1, by omega⟩ k1' fun μ1 g1 c1 k1 k2 o1 => ?_
      have gx : zsm zPX μ μ1 := g1.mono (fun b j => by unfold zPX; omega)
      have hX1 := (hX.px gx (by decide)).set
      have hX2 : zsX μ1 5 (zmx (K i) S) := fun j h0 h1 => by rw [zmx_hi _ _ (by omega)]; exact hX1 j h0 h1
      have k3 := zchis_c (S' := zmx (K i) S) (fun j _ h3 => zmx_lo _ _ h3) k2
      refine znfor (N := zON S) (P := fun n => J 50 ([some (zR (some 0)), none, some (zI (zgX (zotf S (K i)) (0, 0, -1) S n).1), some (zI (zgX (zotf S (K i)) (0, 0, -1) S n).2.1), some (zI (zgX (zotf S (K i)) (0, 0, -1) S n).2.2), some (zI (n : Int)), none, none], [], μ1, 0, 0)) ?_ ?_
      · have hI := zotI_X hv hr hkl _ (Nat.le_refl _)
        rw [show zgX (zotf S (K i)) (0, 0, -1) S (zON S) = zotE S (K i) from zgX_e] at hI ⊢
        generalize zotE S (K i) = s at *
        obtain ⟨i1, i2, i3⟩ := hI
        have d2 := zcd_r (p := s.2.2)
        refine rX10_other_50 C _ _ _ _ ?_
        rw [o1.1]
        refine ⟨by constructor <;> omega, by constructor <;> omega, fun _ => kX6_clear fun μ2 g2 t2 => ⟨by constructor <;> omega, fun c => ?_, fun c => ?_⟩, fun c => absurd (Int.le_refl _) c⟩
        · rw [if_pos c] at h
          exact h _ (gx.trans (zXrow g2)) (c1.sm g2 (by omega)) t2
        · rw [if_neg c] at h
          have q2 : zPl s.2.2 := by
            rcases i3 with ⟨z, _⟩ | z
            · omega
            · exact z.2.2
          refine ⟨by constructor <;> omega, kX6_append t2 (by simp) fun μ3 g3 t3 => kX10_codeOf q2 ⟨by constructor <;> omega, kX6_append t3 (by simp) fun μ4 g4 t4 => ?_⟩⟩
          have gr := (g2.trans g3).trans g4
          exact h _ (gx.trans (zXrow gr)) (c1.sm gr (by omega)) t4
      · intro n hn hj
        have hI := zotI_X hv hr hkl n (by omega)
        obtain ⟨hp, -⟩ := zO_mem hn
        have rv := zoth_r hv hr hkl (zO S n)
        rw [zgX_s hn] at hj
        generalize zgX (zotf S (K i)) (0, 0, -1) S n = s at *
        obtain ⟨i1, i2, i3⟩ := hI
        refine rX10_other_50 C _ _ _ _ ?_
        rw [o1.1, o1.2 n hn]
        refine ⟨by constructor <;> omega, by constructor <;> omega, fun c => absurd c (by omega), fun _ => ⟨by omega, kX0_number zCh_105 k1 hp (by decide) (kX0_number zCh_105 k1 hp (by decide) (kX0_number zCh_105 k1 hp (by decide) (kX0_distanceTo zCh_119 zSt_5 k3 hX2 hp ?_)))⟩⟩
        rw [zoth_x]
        unfold zotf at hj
        refine ⟨by constructor <;> omega, fun c => ⟨by constructor <;> omega, fun c2 => ?_, fun c2 => absurd c2 (by omega)⟩, fun c => ⟨by constructor <;> omega, fun c2 => ?_, fun c2 => ?_⟩⟩
        · rw [if_neg (by omega), if_neg (by omega), if_neg (by omega)] at hj; exact hj
        · rw [if_pos (by omega), if_neg (by omega), if_neg (by omega)] at hj; exact hj
        · rw [if_pos (by omega), if_pos (by omega), if_pos (by omega)] at hj; exact hj
    · rw [if_pos c, if_pos c] at h
      exact h _ (zsm.refl _ _) hc hR
  · rw [if_neg hi, if_neg hi] at h
    exact h _ (zsm.refl _ _) hc hR
noncomputable def zcya (S : Int → Int) (kp : Int → Int) (K : Int → Int → Int) (i c : Int) : Int := if (0 ≤ i ∧ i ≤ 1) ∧ zisc c then (if kp i = 0 then -2 else zcd (zmat S (zC (K i) (zpc c) 0) (zC (K i) (zpc c) 1) (zC (K i) (zpc c) 2))) else -1
noncomputable def zcyr (S : Int → Int) (kp : Int → Int) (K : Int → Int → Int) (i c : Int) (R : List Int) : List Int := if (0 ≤ i ∧ i ≤ 1) ∧ zisc c then (if kp i = 0 then R else [] ++ [zdi S (zmat S (zC (K i) (zpc c) 0) (zC (K i) (zpc c) 1) (zC (K i) (zpc c) 2)) (zC (K i) (zpc c) 0) (zC (K i) (zpc c) 1) (zC (K i) (zpc c) 2)]) else R
theorem kX10_carry {F : Int → zM → Prop} {R : List Int} (hX : zXs μ 5 S) (hr : zLr S) (hv : zSet S) (hc : zXc μ) (hR : zXr μ R) (hK : zXk μ kp K) (hKr : zKr kp K) {i c : Int} (ii : zin i) (ic : zin c) (h : ∀ μ', zsm zPX μ μ' → zXc μ' → zXr μ' (zcyr S kp K i c R) → F (zcya S kp K i c) μ') : qX10_carry G i c μ F := by
  unfold zcyr zcya at h
  have ref : ¬ ((0 ≤ i ∧ i ≤ 1) ∧ zisc c) → F (-1) μ := fun z => by
    rw [if_neg z, if_neg z] at h
    exact h _ (zsm.refl _ _) hc hR
  refine eX10_carry fun J C => rX10_carry_e C _ _ (kX10_placeOf ic (fun hc1 => ?_) (fun hc0 => kX10_isIn ii (by decide) (by decide) (fun hi => ⟨by decide, fun z => absurd z (by decide), fun _ => ⟨by decide, fun z => absurd z (by decide), fun _ => ref (fun z => hc0 z.2)⟩⟩) (fun hi => ⟨by decide, fun _ => ref (fun z => hi z.1), fun z => absurd rfl z⟩)))
  have hp := zpc_pl hc1
  obtain ⟨p0, p1⟩ := id hp
  refine kX10_isIn ii (by decide) (by decide) (fun hi => ⟨by decide, fun z => absurd z (by decide), fun _ => ⟨by constructor <;> omega, fun _ => ⟨by omega, ?_⟩, fun z => absurd p0 z⟩⟩) (fun hi => ⟨by decide, fun _ => ref (fun z => hi z.1), fun z => absurd rfl z⟩)
  rw [if_pos (show (0 ≤ i ∧ i ≤ 1) ∧ zisc c from ⟨hi, hc1⟩), if_pos (show (0 ≤ i ∧ i ≤ 1) ∧ zisc c from ⟨hi, hc1⟩)] at h
  obtain ⟨e1, e2⟩ := hK i hi.1 (by omega)
  obtain ⟨e3, e4⟩ := hKr i hi.1 (by omega)
  rw [e1]
  refine ⟨by constructor <;> omega, fun z => ?_, fun z => ?_⟩
  · rw [if_neg z, if_neg z] at h
    have k1' : kp i = 1 := by omega
    have hkl := (e4 k1').1
    have w0 : zw4 (zC (K i) (zpc c) 0) := zC_r hkl (by decide)
    have w1 : zw4 (zC (K i) (zpc c) 1) := zC_r hkl (by decide)
    have w2 : zw4 (zC (K i) (zpc c) 2) := zC_r hkl (by decide)
    have hm := zmat_pl hv hr w0 w1 w2
    have hd := zdi_r hv hr (p := zmat S (zC (K i) (zpc c) 0) (zC (K i) (zpc c) 1) (zC (K i) (zpc c) 2)) w0 w1 w2
    refine kX10_trial hX hr hv hc hK hKr ⟨hi.1, by omega⟩ k1' fun μ1 g1 c1 k1 k2 o1 => ?_
    have gx : zsm zPX μ μ1 := g1.mono (fun b j => by unfold zPX; omega)
    refine kX0_number zCh_119 k2 hp (by decide) (kX0_number zCh_119 k2 hp (by decide) (kX0_number zCh_119 k2 hp (by decide) (kX4_find zCh_105 zSt_5 (by decide) (by decide) k1 (hX.px gx (by decide)).set o1 hv hr w0 w1 w2 fun μ2 g2 t1 _ _ _ => kX6_clear fun μ3 g3 r3 => ?_)))
    rw [show zi μ3 125 5 = _ from (g3.1 _ _ (by omega)).trans t1]
    exact ⟨by constructor <;> omega, kX6_append r3 (by simp) fun μ4 g4 r4 => kX10_codeOf hm (h _ ((gx.trans (g2.mono (fun b j => by unfold zPX; omega))).trans (zXrow (g3.trans g4))) ((c1.sm g2 (by omega)).sm (g3.trans g4) (by omega)) r4)⟩
  · rw [if_pos z, if_pos z] at h
    exact h _ (zsm.refl _ _) hc hR
theorem kX11_layTheirs {F : zM → Prop} {R : List Int} (hM : zMs μ S) (hv : zSet S) (hcd : zcds μ) (hR : zMr μ R) (hK : zMk μ kp K) (hKr : zKr kp K) {i : Int} (hi : 0 ≤ i ∧ i < 2) (hk : kp i = 1) (h : ∀ μ', zsm zPM μ μ' → zMs μ' S → zcds μ' → zMr μ' R → (∀ p b, zPl p → 0 ≤ b → b < 3 → zi μ' 174 (3 * p + b) = zC (K i) p b) → F μ') : qX11_layTheirs G i μ F := by
  have hkl := ((hKr i hi.1 hi.2).2 hk).1
  have hks := ((hK i hi.1 hi.2).2 hk)
  refine eX11_layTheirs fun J C => rX11_layTheirs_e C _ ?_
  refine znfor (N := 711) (P := fun n => ∀ μ', zsm (fun b _ => b = 176) μ μ' → (∀ j : Int, 0 ≤ j → j < n → zi μ' 176 j = K i j) → J 2 ([some (zR (some 153)), some (zI i), some (zI (n : Int))], [], μ', 0, 0)) ?_ ?_ μ (zsm.refl _ _) (fun j h0 h1 => absurd h0 (by omega))
  · intro μ1 g1 f1
    refine rX11_layTheirs_2 C _ _ ⟨by decide, fun _ => ?_, fun c => absurd (by decide) c⟩
    refine kX11_layColours (S := zmx (K i) S) z176 (by decide) (by decide) (by decide) (hM.sm g1 (by omega)) hv ⟨(zmx_hi _ _ (by decide)).symm, (zmx_hi _ _ (by decide)).symm⟩ (fun p h0 h1 => by rw [zmx_lo _ _ h1]; exact f1 p h0 (by omega)) (zmx_lr hkl) (hcd.sm g1 (by omega)) fun μ2 g2 l2 => ?_
    have ga : zsm (fun b j => b = 176 ∨ (158 ≤ b ∧ b ≤ 161) ∨ b = 163 ∨ b = 174 ∨ (b = 153 ∧ j = 18)) μ μ2 := (g1.mono (fun b j => by omega)).trans (g2.mono (fun b j => by omega))
    refine zfor (lo := 0) (hi := 19683) (by decide) (P := fun n => ∀ μ', zsm (fun b j => b = 176 ∨ (158 ≤ b ∧ b ≤ 161) ∨ b = 163 ∨ b = 174 ∨ (b = 153 ∧ j = 18)) μ μ' → (∀ j, zi μ' 159 j = zi μ2 159 j) → (∀ j : Int, 0 ≤ j → j < n → zi μ' 174 j = zi μ2 159 j) → J 43 ([some (zR (some 153)), none, some (zI (n : Int))], [], μ', 0, 0)) ?_ ?_ μ2 ga (fun _ => rfl) (fun j h0 h1 => absurd h0 (by omega))
    · intro μ3 g3 f3 f4
      refine rX11_layTheirs_43 C _ ⟨by decide, fun _ => h μ3 (g3.mono (fun b j => by unfold zPM; omega)) (hM.sm g3 (by omega)) (hcd.sm g3 (by omega)) (hR.sm g3 (by omega) (by omega)) (fun p b hp b0 b1 => ?_), fun c => absurd (by decide) c⟩
      obtain ⟨p0, p1⟩ := id hp
      rw [f4 _ (by omega) (by omega), l2.2.1 p b hp b0 b1]
      exact zC_c (fun j _ h3 => zmx_lo _ _ h3) ⟨b0, b1⟩
    · intro n n0 n1 hj μ3 g3 f3 f4
      refine rX11_layTheirs_43 C _ ⟨by constructor <;> omega, fun c => absurd c (by omega), fun _ => ⟨by omega, hj _ (g3.up _ (by omega)) (fun j => by rw [zi_off (by omega)]; exact f3 j) (fun j h0 h1 => ?_)⟩⟩
      by_cases e : j = n
      · subst e; rw [zi_at]; exact f3 _
      · rw [zi_off (by omega)]; exact f4 j h0 (by omega)
  · intro n hn hj μ1 g1 f1
    refine rX11_layTheirs_2 C _ _ ⟨by constructor <;> omega, fun c => absurd c (by omega), fun _ => ⟨by omega, by omega, hj _ (g1.up _ rfl) (fun j h0 h1 => ?_)⟩⟩
    by_cases e : j = n
    · subst e; rw [zi_at, g1.1 _ _ (by omega)]; exact hks n (by omega) (by omega)
    · rw [zi_off (by omega)]; exact f1 j h0 (by omega)
theorem zC174 {Q : Int → Int} {μ : zM} (hC : ∀ p b, zPl p → 0 ≤ b → b < 3 → zi μ 174 (3 * p + b) = zC Q p b) {p : Int} (hp : zPl p) : zi μ 174 (3 * p) = zC Q p 0 ∧ zi μ 174 (3 * p + 1) = zC Q p 1 ∧ zi μ 174 (3 * p + 2) = zC Q p 2 :=
  ⟨by rw [← hC p 0 hp (by decide) (by decide), Int.add_zero], hC p 1 hp (by decide) (by decide), hC p 2 hp (by decide) (by decide)⟩
theorem kX11_layOwn {F : zM → Prop} {Q : Int → Int} {R : List Int} (hM : zMs μ S) (hr : zLr S) (hv : zSet S) (hcd : zcds μ) (hR : zMr μ R) (hC : ∀ p b, zPl p → 0 ≤ b → b < 3 → zi μ 174 (3 * p + b) = zC Q p b) (h : ∀ μ', zsm zPM μ μ' → zMs μ' S → zcds μ' → zlaid μ' S → zMr μ' R → (∀ p b, zPl p → 0 ≤ b → b < 3 → zi μ' 174 (3 * p + b) = zC Q p b) → F μ') : qX11_layColours G 154 μ F :=
  kX11_layColours zZ154 (by decide) (by decide) (by decide) hM hv ⟨rfl, rfl⟩ (fun p h0 h1 => hM p h0 (by omega)) hr hcd fun μ' g l => h μ' (zMlay g) (hM.pm (zMlay g)) (hcd.pm (zMlay g)) l (hR.sm g (by omega) (by omega)) (fun p b hp h0 h1 => by rw [g.1 _ _ (by omega)]; exact hC p b hp h0 h1)
theorem kX11_other {F : Int → zM → Prop} {R : List Int} (hM : zMs μ S) (hr : zLr S) (hv : zSet S) (hcd : zcds μ) (hR : zMr μ R) (hK : zMk μ kp K) (hKr : zKr kp K) {i : Int} (ii : zin i) (h : ∀ μ', zsm zPM μ μ' → zMr μ' (zorr S kp K i R) → F (zora S kp K i) μ') : qX11_other G i μ F := by
  unfold zorr zora at h
  have g0 := zMthr μ
  have hR1 := hR.thr
  have hM1 := hM.pm g0
  have hcd1 := hcd.pm g0
  have hK1 := hK.sm g0 (fun b j q z => by have := zpm _ _ z; omega)
  refine eX11_other fun J C => rX11_other_e C _ ?_
  generalize zup μ 153 5 0 = μ0 at *
  refine kX11_in ii (by decide) (by decide) (fun hi => ⟨by decide, fun _ => ⟨by omega, ?_⟩, fun z => absurd z (by decide)⟩) (fun hi => ⟨by decide, fun z => absurd rfl z, fun _ => ?_⟩)
  · rw [if_pos hi, if_pos hi] at h
    obtain ⟨e1, e2⟩ := hK1 i hi.1 (by omega)
    obtain ⟨e3, e4⟩ := hKr i hi.1 (by omega)
    rw [e1]
    refine ⟨by constructor <;> omega, fun c => ?_, fun c => ?_⟩
    · have k1' : kp i = 1 := by omega
      rw [if_neg c, if_neg c] at h
      have hkl := (e4 k1').1
      have eN := zN65_e
      refine kX11_layTheirs hM1 hv hcd1 hR1 hK1 hKr ⟨hi.1, by omega⟩ k1' fun μ1 g1 m1 d1 r1 t1 => kX11_layOwn m1 hr hv d1 r1 t1 fun μ2 g2 m2 d2 l2 r2 t2 => ?_
      have gg := (g0.trans g1).trans g2
      refine znfor (N := zN65) (P := fun n => J 51 ([some (zR (some 153)), none, some (zI (zgM (zotf S (K i)) (0, 0, -1) S n).1), some (zI (zgM (zotf S (K i)) (0, 0, -1) S n).2.1), some (zI (if (zgM (zotf S (K i)) (0, 0, -1) S n).2.2 = -1 then 0 else zcd (zgM (zotf S (K i)) (0, 0, -1) S n).2.2)), some (zI (n : Int)), none], [], μ2, 0, 0)) ?_ ?_
      · have hI := zotI_M hv hr hkl _ (Nat.le_refl _)
        rw [show zgM (zotf S (K i)) (0, 0, -1) S zN65 = zotE S (K i) from zgM_e] at hI ⊢
        generalize zotE S (K i) = s at *
        obtain ⟨i1, i2, i3⟩ := hI
        have dd := zcd_r (p := s.2.2)
        refine rX11_other_51 C _ _ _ _ ⟨by constructor <;> omega, fun _ => ⟨by constructor <;> omega, fun c => ?_, fun c => ⟨by constructor <;> omega, kX11_tell (zMr.nil _) (by simp) fun μ3 g3 t3 => ⟨by split <;> constructor <;> omega, kX11_tell t3 (by simp) fun μ4 g4 t4 => ?_⟩⟩⟩, fun c => absurd (by omega) c⟩
        · rw [if_pos c] at h
          exact h _ (zMrow0 gg) (zMr.nil _)
        · rw [if_neg c] at h
          have q2 : zPl s.2.2 := by
            rcases i3 with ⟨z, _⟩ | z
            · omega
            · exact z.2.2
          have q3 := q2.1
          rw [if_neg (by omega)] at t4
          exact h _ ((zMrow0 gg).trans (zMrow (g3.trans g4))) t4
      · intro n hn hj
        have hp : zPl n := ⟨by omega, by omega⟩
        have n0 := hp.1
        have hI := zotI_M hv hr hkl n (by omega)
        obtain ⟨f0, f1, f2⟩ := zC174 t2 hp
        refine rX11_other_51 C _ _ _ _ ⟨by constructor <;> omega, fun c => absurd c (by omega), fun _ => kX11_codeOf hp (kX11_open m2 hv (fun ho => ⟨by decide, fun _ => ⟨by omega, by omega, by omega, ?_⟩, fun z => absurd z (by decide)⟩) (fun ho => ⟨by decide, fun z => absurd rfl z, fun _ => ?_⟩))⟩
        · rw [zgM_1 ho] at hj
          rw [f0, f1, f2]
          have rv := zoth_r hv hr hkl n
          generalize zgM (zotf S (K i)) (0, 0, -1) S n = s at *
          obtain ⟨i1, i2, i3⟩ := hI
          have dd := zcd_r (p := s.2.2)
          refine kX11_apartOf m2.set l2.2.1 hp ?_
          change zin (zoth S (K i) n) ∧ (zoth S (K i) n ≤ 0 → _) ∧ (¬ (zoth S (K i) n ≤ 0) → _)
          unfold zotf at hj
          refine ⟨by constructor <;> omega, fun c => ⟨by constructor <;> omega, fun c2 => ?_, fun c2 => absurd c2 (by show ¬ ¬ zoth S (K i) n ≤ s.2.1; omega)⟩, fun c => ⟨by constructor <;> omega, fun c2 => ?_, fun c2 => kX11_codeOf hp ?_⟩⟩
          · change zoth S (K i) n ≤ s.2.1 at c2
            rw [if_neg (by omega), if_neg (by omega), if_neg (by omega)] at hj; exact hj
          · change zoth S (K i) n ≤ s.2.1 at c2
            rw [if_pos (by omega), if_neg (by omega), if_neg (by omega)] at hj; exact hj
          · change ¬ zoth S (K i) n ≤ s.2.1 at c2
            rw [if_pos (by omega), if_pos (by omega), if_pos (by omega)] at hj
            have hj : J 51 ([some (zR (some 153)), none, some (zI (s.1 + 1)), some (zI (zoth S (K i) n)), some (zI (if (n : Int) = -1 then 0 else zcd n)), some (zI ((n : Int) + 1)), none], [], μ2, 0, 0) := hj
            rw [if_neg (by omega)] at hj; exact hj
        · rw [zgM_n ho] at hj; exact hj
    · rw [if_pos c, if_pos c] at h
      exact h _ g0 hR1
  · rw [if_neg hi, if_neg hi] at h
    exact h _ g0 hR1
theorem kX11_carry {F : Int → zM → Prop} {R : List Int} (hM : zMs μ S) (hr : zLr S) (hv : zSet S) (hcd : zcds μ) (hR : zMr μ R) (hK : zMk μ kp K) (hKr : zKr kp K) {i c : Int} (ii : zin i) (ic : zin c) (h : ∀ μ', zsm zPM μ μ' → zMr μ' (zcyr S kp K i c R) → F (zcya S kp K i c) μ') : qX11_carry G i c μ F := by
  unfold zcyr zcya at h
  have g0 := zMthr μ
  have hR1 := hR.thr
  have hM1 := hM.pm g0
  have hcd1 := hcd.pm g0
  have hK1 := hK.sm g0 (fun b j q z => by have := zpm _ _ z; omega)
  refine eX11_carry fun J C => rX11_carry_e C _ _ ?_
  generalize zup μ 153 5 0 = μ0 at *
  have ref : ¬ ((0 ≤ i ∧ i ≤ 1) ∧ zisc c) → F (-1) μ0 := fun z => by
    rw [if_neg z, if_neg z] at h
    exact h _ g0 hR1
  refine kX11_in ii (by decide) (by decide) (fun hi => ⟨by decide, fun z => absurd z (by decide), fun _ => kX11_isCode ic (fun hc1 => ⟨by decide, fun _ => ⟨by omega, ?_⟩, fun z => absurd z (by decide)⟩) (fun hc1 => ⟨by decide, fun z => absurd rfl z, fun _ => ref (fun z => hc1 z.2)⟩)⟩) (fun hi => ⟨by decide, fun _ => ref (fun z => hi z.1), fun z => absurd rfl z⟩)
  rw [if_pos (show (0 ≤ i ∧ i ≤ 1) ∧ zisc c from ⟨hi, hc1⟩), if_pos (show (0 ≤ i ∧ i ≤ 1) ∧ zisc c from ⟨hi, hc1⟩)] at h
  have hp := zpc_pl hc1
  obtain ⟨p0, p1⟩ := id hp
  obtain ⟨e1, e2⟩ := hK1 i hi.1 (by omega)
  obtain ⟨e3, e4⟩ := hKr i hi.1 (by omega)
  rw [e1]
  refine ⟨by constructor <;> omega, fun z => ?_, fun z => ?_⟩
  · rw [if_neg z, if_neg z] at h
    have k1' : kp i = 1 := by omega
    have hkl := (e4 k1').1
    have w0 : zw4 (zC (K i) (zpc c) 0) := zC_r hkl (by decide)
    have w1 : zw4 (zC (K i) (zpc c) 1) := zC_r hkl (by decide)
    have w2 : zw4 (zC (K i) (zpc c) 2) := zC_r hkl (by decide)
    have hm := zmat_pl hv hr w0 w1 w2
    have hd := zdi_r hv hr (p := zmat S (zC (K i) (zpc c) 0) (zC (K i) (zpc c) 1) (zC (K i) (zpc c) 2)) w0 w1 w2
    refine kX11_layTheirs hM1 hv hcd1 hR1 hK1 hKr ⟨hi.1, by omega⟩ k1' fun μ1 g1 m1 d1 r1 t1 => kX11_layOwn m1 hr hv d1 r1 t1 fun μ2 g2 m2 d2 l2 r2 t2 => ?_
    have gg := (g0.trans g1).trans g2
    rw [show qX11_numberOf G true c = qX11_numberOf G true (zcd (zpc c)) by rw [zpc_cd hc1]]
    obtain ⟨f0, f1, f2⟩ := zC174 t2 hp
    refine kX11_numberOf hp ⟨by omega, by omega, by omega, ?_⟩
    rw [f0, f1, f2]
    refine kX11_matchOf d2 m2.set l2 hv hr w0 w1 w2 fun μ3 g3 _ _ _ _ => kX11_numberOf hm ?_
    have ga : zsm (fun b j => b = 165 ∨ b = 153) μ2 (zup μ3 153 4 0) := (g3.mono (fun b j => by omega)).up _ (by omega)
    rw [show zi (zup μ3 153 4 0) 174 (3 * zpc c) = zC (K i) (zpc c) 0 by rw [ga.1 _ _ (by omega)]; exact f0, show zi (zup μ3 153 4 0) 174 (3 * zpc c + 1) = zC (K i) (zpc c) 1 by rw [ga.1 _ _ (by omega)]; exact f1, show zi (zup μ3 153 4 0) 174 (3 * zpc c + 2) = zC (K i) (zpc c) 2 by rw [ga.1 _ _ (by omega)]; exact f2]
    refine kX11_apartOf (S := S) (m2.sm ga (by omega)).set (fun p b hp q0 q1 => by rw [ga.1 _ _ (by omega)]; exact l2.2.1 p b hp q0 q1) hm ⟨by constructor <;> omega, kX11_tell (zMr.nil _) (by simp) fun μ4 g4 r4 => ?_⟩
    exact h _ ((zMrow0 (gg.trans (g3.mono (fun b j => by unfold zPM; omega)))).trans (zMrow g4)) r4
  · rw [if_pos z, if_pos z] at h
    exact h _ g0 hR1
end
