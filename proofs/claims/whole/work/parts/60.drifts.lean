/-! a state is copied; a press drifts -/
theorem zXs.q {P Q : Nat → Int → Prop} {μ μ' : zM} {s : Nat} {S : Int → Int} (h : zXs μ s S) (hm : zsr P Q μ μ') (hP : ∀ b j, s ≤ b → b ≤ s + 6 → ¬ P b j) : zXs μ' s S := h.sm (μ' := (μ'.1, μ.2)) hm.m hP
theorem zXc.q {P Q : Nat → Int → Prop} {μ μ' : zM} (h : zXc μ) (hm : zsr P Q μ μ') (hP : ∀ b j, (106 ≤ b ∧ b ≤ 107) ∨ (120 ≤ b ∧ b ≤ 121) ∨ (b = 125 ∧ j ≤ 3) ∨ b = 126 → ¬ P b j) : zXc μ' := h.sm (μ' := (μ'.1, μ.2)) hm.m hP
theorem zmop.q {P Q : Nat → Int → Prop} {μ μ' : zM} {S : Int → Int} (h : zmop μ S) (hm : zsr P Q μ μ') (hP : ∀ j, ¬ P 126 j) (hP1 : ¬ P 125 1) : zmop μ' S := h.sm (μ' := (μ'.1, μ.2)) hm.m hP hP1
section
variable {G : zG} {μ : zM}
theorem kX7_copyFrom {F : zM → Prop} {a b : Nat} (ha : zIsSt a) (hb : zIsSt b) (hd : a + 7 ≤ b ∨ b + 7 ≤ a) (hm : ∀ p, 0 ≤ p → p < 81 → zi μ (b + 2) p = 0 ∨ zi μ (b + 2) p = 1) (h : ∀ μ', zsr (fun c _ => a ≤ c ∧ c ≤ a + 6) (fun c j => c = a ∧ j = 8) μ μ' → (∀ S, zXs μ b S → S 702 * S 703 ≤ 64 → zXs μ' a S) → zr μ' a 8 = zr μ b 8 → F μ') : qX7_copyFrom G a b μ F := by
  refine eX7_copyFrom fun J C => rX7_copyFrom_e C ha hb ?_
  refine znfor (N := 81) (P := fun n => ∀ μ', zsm (fun c _ => c = a + 1 ∨ c = a + 2) μ μ' → (∀ i : Int, 0 ≤ i → i < 243 → zi μ' (a + 1) i = zi μ (b + 1) i) → (∀ i : Int, 0 ≤ i → i < n → zi μ' (a + 2) i = zi μ (b + 2) i) → J 20 ([some (zR (some a)), some (zR (some b)), some (zI (n : Int))], [], μ', 0, 0)) ?_ ?_ (zcopy μ (b + 1) (a + 1) 243) ⟨fun c j q => zi_cpo (by omega), rfl, rfl, rfl⟩ (fun i h0 h1 => zi_cpa ⟨h0, by omega⟩) (fun i h0 h1 => absurd h0 (by omega))
  · intro μ1 g1 f1 f2
    refine rX7_copyFrom_20 C ha hb _ ⟨by decide, fun _ => h _ ⟨fun c j q => ?_, fun c j q => ?_, g1.2.2.1, g1.2.2.2⟩ (fun S hS hcl => ?_) ?_, fun c => absurd (by decide) c⟩
    · have q : ¬ (a ≤ c ∧ c ≤ a + 6) := q
      rw [zi_upr, zi_off (by omega), zi_off (by omega), zi_cpo (by omega), zi_cpo (by omega), zi_cpo (by omega), zi_cpo (by omega)]
      exact g1.1 _ _ (by omega)
    · rw [zr_upr, if_neg q]
      show zr μ1 c j = zr μ c j
      rw [g1.2.1]
    · obtain ⟨s1, s2, s3, s4, s5, s6, s7, s8⟩ := hS
      refine ⟨fun i h0 h1 => ?_, fun i h0 h1 => ?_, fun i h0 h1 => ?_, fun i h0 h1 => ?_, fun i h0 h1 => ?_, ?_, ?_, fun i h0 h1 => ?_⟩
      · rw [zi_upr, zi_off (by omega), zi_off (by omega), zi_cpo (by omega), zi_cpo (by omega), zi_cpo (by omega), zi_cpo (by omega), f1 i h0 h1]
        exact s1 i h0 h1
      · rw [zi_upr, zi_off (by omega), zi_off (by omega), zi_cpo (by omega), zi_cpo (by omega), zi_cpo (by omega), zi_cpo (by omega), f2 i h0 (by omega)]
        exact s2 i h0 h1
      · rw [zi_upr, zi_off (by omega), zi_off (by omega), zi_cpo (by omega), zi_cpo (by omega), zi_cpo (by omega), zi_cpa ⟨h0, by omega⟩, g1.1 _ _ (by omega)]
        exact s3 i h0 h1
      · rw [zi_upr, zi_off (by omega), zi_off (by omega), zi_cpo (by omega), zi_cpo (by omega), zi_cpa ⟨h0, by omega⟩, zi_cpo (by omega), g1.1 _ _ (by omega)]
        exact s4 i h0 h1
      · rw [zi_upr, zi_off (by omega), zi_off (by omega), zi_cpo (by omega), zi_cpa ⟨h0, by omega⟩, zi_cpo (by omega), zi_cpo (by omega), g1.1 _ _ (by omega)]
        exact s5 i h0 h1
      · rw [zi_upr, zi_off (by omega), zi_at, zi_cpo (by omega), zi_cpo (by omega), zi_cpo (by omega), zi_cpo (by omega), g1.1 _ _ (by omega)]
        exact s6
      · rw [zi_upr, zi_at, zi_off (by omega), zi_cpo (by omega), zi_cpo (by omega), zi_cpo (by omega), zi_cpo (by omega), g1.1 _ _ (by omega)]
        exact s7
      · rw [zi_upr, zi_off (by omega), zi_off (by omega)]
        rw [zi_cpa ⟨h0, by omega⟩, zi_cpo (by omega), zi_cpo (by omega), zi_cpo (by omega), g1.1 _ _ (by omega)]
        exact s8 i h0 h1
    · rw [zr_upr, if_pos ⟨rfl, rfl⟩]
      show zr μ1 b 8 = zr μ b 8
      rw [g1.2.1]
  · intro n hn hj μ1 g1 f1 f2
    have e : zi μ1 (b + 2) n = zi μ (b + 2) n := g1.1 _ _ (by omega)
    refine rX7_copyFrom_20 C ha hb _ ⟨by constructor <;> omega, fun c => absurd c (by omega), fun _ => ⟨by omega, by rw [e]; exact hm n (by omega) (by omega), hj _ (g1.up _ (by omega)) (fun i h0 h1 => by rw [zi_off (by omega)]; exact f1 i h0 h1) (fun i h0 h1 => ?_)⟩⟩
    by_cases c : i = n
    · subst c; rw [zi_at, e]
    · rw [zi_off (by omega)]; exact f2 i h0 (by omega)
/-- what is drawn in a day: ink, level less 1, band, by how much; the row of lights then -/
def zdn (r : Int) : Int := r * 1103515245 + 12345
def zdi4 (r : Int) : Int := zushr (zdn r) 16 % 4
def zdl (r : Int) : Int := zushr (zdn (zdn r)) 16 % 2
def zdba (r : Int) : Int := zushr (zdn (zdn (zdn r))) 16 % 3
def zdr4 (r : Int) : Int := zdn (zdn (zdn (zdn r)))
def zdat (r : Int) : Int := ((zdl r + 1) * zta 2 (zdi4 r)) * 3 + zdba r
def zupd (T : Int → Int) (a v x : Int) : Int := if x = a then v else T x
def zdst (s : Int × (Int → Int)) : Int × (Int → Int) := (zdr4 s.1, zupd s.2 (zdat s.1) (max 0 (min (s.2 (zdat s.1) + zushr (zdr4 s.1) 16 % 21 - 10) 100)))
def zdss (S : Int → Int) (r : Int) : Nat → Int × (Int → Int)
  | 0 => (r, S)
  | n + 1 => zdst (zdss S r n)
theorem zdat_r (r : Int) : (0 ≤ zdi4 r ∧ zdi4 r < 4) ∧ (0 ≤ zdba r ∧ zdba r < 3) ∧ (0 ≤ zdl r ∧ zdl r < 2) ∧ 0 ≤ zdat r ∧ zdat r < 243 := by
  have h1 : 0 ≤ zdi4 r ∧ zdi4 r < 4 := by unfold zdi4; omega
  have h2 : 0 ≤ zdba r ∧ zdba r < 3 := by unfold zdba; omega
  have h3 : 0 ≤ zdl r ∧ zdl r < 2 := by unfold zdl; omega
  refine ⟨h1, h2, h3, ?_⟩
  unfold zdat
  generalize zdi4 r = i at *
  generalize zdl r = l at *
  have hi : i = 0 ∨ i = 1 ∨ i = 2 ∨ i = 3 := by omega
  have hl : l = 0 ∨ l = 1 := by omega
  rcases hi with rfl | rfl | rfl | rfl <;> rcases hl with rfl | rfl
  · rw [zt20]; omega
  · rw [zt20]; omega
  · rw [zt21]; omega
  · rw [zt21]; omega
  · rw [zt22]; omega
  · rw [zt22]; omega
  · rw [zt23]; omega
  · rw [zt23]; omega
def zDr (S T : Int → Int) : Prop := zLr T ∧ ∀ i, 243 ≤ i → T i = S i
theorem zDr_s {S : Int → Int} {s : Int × (Int → Int)} (h : zDr S s.2) : zDr S (zdst s).2 := by
  obtain ⟨⟨h1, h2⟩, h3⟩ := h
  have q := (zdat_r s.1).2.2.2
  refine ⟨⟨fun p h0 h4 => ?_, fun p h0 h4 => ?_⟩, fun i hi => ?_⟩
  · show 0 ≤ zupd s.2 (zdat s.1) _ p ∧ zupd s.2 (zdat s.1) _ p ≤ 100
    unfold zupd
    split
    · omega
    · exact h1 p h0 h4
  · show zupd s.2 (zdat s.1) _ (243 + p) = 0 ∨ zupd s.2 (zdat s.1) _ (243 + p) = 1
    unfold zupd
    rw [if_neg (by omega)]
    exact h2 p h0 h4
  · show zupd s.2 (zdat s.1) _ i = S i
    unfold zupd
    rw [if_neg (by omega)]
    exact h3 i hi
theorem zDr_n {S : Int → Int} (hr : zLr S) (r : Int) : ∀ n, zDr S (zdss S r n).2
  | 0 => ⟨hr, fun _ _ => rfl⟩
  | n + 1 => zDr_s (zDr_n hr r n)
noncomputable def zdT (S : Int → Int) (r n : Int) : Int → Int := (zdss S r n.toNat).2
noncomputable def zdrn (T : Int → Int) : Nat → Int
  | 0 => 0
  | n + 1 => zdrn T n + zrc T n 243
noncomputable def zdra (S : Int → Int) (r n : Int) : Int := if 1 ≤ n ∧ n ≤ 40 then zdrn (zdT S r n) 4 else -1
noncomputable def zdrr (S : Int → Int) (r n : Int) (R : List Int) : List Int := if 1 ≤ n ∧ n ≤ 40 then [] ++ [zcd (zmat (zdT S r n) 200 200 200)] ++ [zdi (zdT S r n) (zmat (zdT S r n) 200 200 200) 200 200 200] else R
theorem zXs_told {μ : zM} {s : Nat} {S : Int → Int} (h : zXs μ s S) {a v : Int} (h0 : 0 ≤ a) (h1 : a < 243) (hz : S 702 * S 703 ≤ 64) : zXs (zup μ (s + 1) a v) s (zupd S a v) := by
  obtain ⟨s1, s2, s3, s4, s5, s6, s7, s8⟩ := h
  have e : ∀ i, 243 ≤ i → zupd S a v i = S i := fun i hi => by unfold zupd; rw [if_neg (by omega)]
  refine ⟨fun i i0 i1 => ?_, fun i i0 i1 => ?_, fun i i0 i1 => ?_, fun i i0 i1 => ?_, fun i i0 i1 => ?_, ?_, ?_, fun i i0 i1 => ?_⟩
  · unfold zupd
    by_cases c : i = a
    · subst c; rw [if_pos rfl, zi_at]
    · rw [if_neg c, zi_off (by omega)]; exact s1 i i0 i1
  · rw [e _ (by omega), zi_off (by omega)]; exact s2 i i0 i1
  · rw [e _ (by omega), zi_off (by omega)]; exact s3 i i0 i1
  · rw [e _ (by omega), zi_off (by omega)]; exact s4 i i0 i1
  · rw [e _ (by omega), zi_off (by omega)]; exact s5 i i0 i1
  · rw [e _ (by omega), zi_off (by omega)]; exact s6
  · rw [e _ (by omega), zi_off (by omega)]; exact s7
  · rw [e 702 (by omega), e 703 (by omega)] at i1
    rw [e _ (by omega), zi_off (by omega)]; exact s8 i i0 i1
theorem zmop_c {μ : zM} {S T : Int → Int} (h : zmop μ S) (hT : ∀ i, 243 ≤ i → T i = S i) : zmop μ T := h.c (hT 704 (by decide)).symm (hT 707 (by decide)).symm
/-- no reference leads where nothing is yet -/
def zcld (μ : zM) : Prop := (∀ (a : Nat) (j : Int) (b : Nat), 0 ≤ j → zr μ a j = some b → b < zn μ) ∧ ∀ a, 182 ≤ a → a < zn μ → (zh μ a).1 < 12 ∨ (32 ≤ (zh μ a).1 ∧ (zh μ a).1 ≠ 46 ∧ (zh μ a).1 ≠ 47)
theorem zsm.cld {P : Nat → Int → Prop} {μ μ' : zM} (h : zsm P μ μ') (hc : zcld μ) : zcld μ' := ⟨fun a j b h0 hb => by
  rw [h.2.2.2]
  rw [h.2.1] at hb
  exact hc.1 a j b h0 hb, fun a h0 h1 => by rw [h.2.2.1]; rw [h.2.2.2] at h1; exact hc.2 a h0 h1⟩
theorem zsr.cld {P Q : Nat → Int → Prop} {μ μ' : zM} (h : zsr P Q μ μ') (hq : ∀ b j, Q b j → ∃ (c : Nat) (k : Int), 0 ≤ k ∧ zr μ' b j = zr μ c k) (hc : zcld μ) : zcld μ' := ⟨fun a j b h0 hb => by
  rw [h.2.2.2]
  by_cases q : Q a j
  · obtain ⟨c, k, k0, e⟩ := hq a j q
    rw [e] at hb
    exact hc.1 c k b k0 hb
  · rw [h.2.1 a j q] at hb
    exact hc.1 a j b h0 hb, fun a h0 h1 => by rw [h.2.2.1]; rw [h.2.2.2] at h1; exact hc.2 a h0 h1⟩
theorem kX10_drifts {F : Int → zM → Prop} {R : List Int} {S : Int → Int} (hX : zXs μ 5 S) (hr : zLr S) (hv : zSet S) (hpc : S 702 * S 703 ≤ 64) (hc : zXc μ) (hR : zXr μ R) {r n : Int} (ir : zin r) (iN : zin n) (h : ∀ μ', zsr zPX (fun c j => c = 111 ∧ j = 8) μ μ' → (zcld μ → zcld μ') → zXc μ' → zXr μ' (zdrr S r n R) → F (zdra S r n) μ') : qX10_drifts G r n μ F := by
  unfold zdrr zdra at h
  refine eX10_drifts fun J C => rX10_drifts_e C _ _ (kX10_isIn iN (by decide) (by decide) (fun hn => ⟨by decide, fun _ => ?_, fun z => absurd z (by decide)⟩) (fun hn => ⟨by decide, fun z => absurd rfl z, fun _ => ?_⟩))
  · rw [if_pos hn, if_pos hn] at h
    refine kX10_refresh hX hr hv hc fun μ1 g1 c1 k1 o1 => ?_
    have hX1 : zXs μ1 5 S := hX.px (zX105 g1) (by decide)
    refine kX7_copyFrom zSt_111 zSt_5 (by decide) (fun p h0 h2 => by rw [hX1.2.1 p h0 h2]; exact hr.2 p h0 h2) fun μ2 g2 x2 r2 => ?_
    have ga : zsr (fun c j => (106 ≤ c ∧ c ≤ 117) ∨ c = 126 ∨ (c = 125 ∧ 1 ≤ j ∧ j ≤ 3)) (fun c j => c = 111 ∧ j = 8) μ μ2 := (g1.q.mono (fun b j => by omega) (fun _ _ z => z)).trans (g2.mono (fun b j => by omega) (fun _ _ z => z))
    have c2 : zXc μ2 := c1.q g2 (by omega)
    have o2 : zmop μ2 S := o1.q g2 (by omega) (by omega)
    obtain ⟨N, eN⟩ : ∃ N : Nat, (N : Int) = n := ⟨n.toNat, by omega⟩
    have eT : zdT S r n = (zdss S r N).2 := by unfold zdT; rw [show n.toNat = N by omega]
    rw [eT] at h
    refine znfor (N := N) (P := fun k => ∀ μ', zsr (fun c j => (106 ≤ c ∧ c ≤ 117) ∨ c = 126 ∨ (c = 125 ∧ 1 ≤ j ∧ j ≤ 3)) (fun c j => c = 111 ∧ j = 8) μ μ' → zr μ' 111 8 = zr μ 5 8 → zXc μ' → zmop μ' S → zXs μ' 111 (zdss S r k).2 → J 32 ([some (zR (some 0)), none, some (zI n), some (zI (zdss S r k).1), some (zI (k : Int)), none, none, none, none], [], μ', 0, 0)) ?_ ?_ μ2 ga (by rw [r2, g1.2.1]) c2 o2 (x2 S hX1 hpc)
    · intro μ3 g3 e3 c3 o3 x3
      obtain ⟨tl, tt⟩ := zDr_n hr r N
      generalize (zdss S r N).2 = T at *
      have vT : zSet T := zSet_c (fun i i0 _ => tt i (by omega)) hv
      refine rX10_drifts_32 C _ _ _ ⟨by constructor <;> omega, iN, fun _ => kX0_follow zCh_119 zSt_111 (by decide) x3 tl c3.2.1 fun μ4 g4 k4 => ?_, fun c => absurd (by omega) c⟩
      have gb : zsr (fun c j => (106 ≤ c ∧ c ≤ 124) ∨ c = 126 ∨ (c = 125 ∧ 1 ≤ j ∧ j ≤ 3)) (fun c j => c = 111 ∧ j = 8) μ μ4 := (g3.mono (fun b j => by omega) (fun _ _ z => z)).trans (g4.q.mono (fun b j => by omega) (fun _ _ z => z))
      have c4 : zXc μ4 := ⟨c3.1.sm g4 (by omega), Or.inr ⟨T, tl, k4⟩, c3.2.2.sm g4 (by omega) (by omega)⟩
      have o4 : zmop μ4 T := zmop_c (o3.sm g4 (by omega) (by omega)) tt
      refine znfor (N := 4) (P := fun k => J 155 ([some (zR (some 0)), none, none, none, some (zI (zdrn T k)), some (zI (k : Int)), none, none, none], [], μ4, 0, 0)) ?_ ?_
      · have w : zw4 200 := by decide
        have hm := zmat_pl vT tl w w w
        have hd := zdi_r vT tl (p := zmat T 200 200 200) w w w
        have hcd := zcd_r (p := zmat T 200 200 200)
        have s4 : zsX μ4 5 T := fun i i0 i1 => by rw [tt _ (by omega)]; exact (hX.q gb (fun b j q0 q1 => by omega)).set i i0 i1
        refine rX10_drifts_155 C _ _ ⟨by decide, fun _ => kX4_find zCh_119 zSt_5 (by decide) (by decide) k4 s4 o4 vT tl w w w fun μ5 g5 t1 _ _ _ => kX6_clear fun μ6 g6 r6 => kX10_codeOf hm ⟨by constructor <;> omega, kX6_append r6 (by simp) fun μ7 g7 r7 => ?_⟩, fun c => absurd (by decide) c⟩
        rw [show zi μ7 125 5 = _ from (g7.1 _ _ (by omega)).trans ((g6.1 _ _ (by omega)).trans t1)]
        refine ⟨by constructor <;> omega, kX6_append r7 (by simp) fun μ8 g8 r8 => ?_⟩
        have gr := (g6.trans g7).trans g8
        have gF := (((gb.mono (P' := zPX) (fun b j => by unfold zPX; omega) (fun _ _ z => z)).trans (g5.q.mono (fun b j => by unfold zPX; omega) (fun _ _ z => z))).trans ((zXrow gr).q))
        exact h _ gF (gF.cld (fun b j z => ⟨5, 8, by decide, by rw [z.1, z.2, g8.2.1, g7.2.1, g6.2.1, g5.2.1, g4.2.1]; exact e3⟩)) ((c4.sm g5 (by omega)).sm gr (by omega)) r8
      · intro k hk hj
        rw [zdrn] at hj
        exact rX10_drifts_155 C _ _ ⟨by constructor <;> omega, fun c => absurd c (by omega), fun _ => kX0_countRises zCh_119 k4.1 tl ⟨by omega, by omega⟩ hj⟩
    · intro k hk hj μ3 g3 e3 c3 o3 x3
      obtain ⟨tl, tt⟩ := zDr_n hr r k
      rw [zdss] at hj
      generalize zdss S r k = s at *
      obtain ⟨q1, q2, q3, q4⟩ := zdat_r s.1
      have t4 := tl.1 _ q4.1 q4.2
      have u1 := zush16 (zdn s.1); have u2 := zush16 (zdn (zdn s.1)); have u3 := zush16 (zdn (zdn (zdn s.1))); have u4 := zush16 (zdn (zdn (zdn (zdn s.1))))
      have pc : s.2 702 * s.2 703 ≤ 64 := by rw [tt _ (by decide), tt _ (by decide)]; exact hpc
      have dr : ∀ (x m : Int) (F : Int → zM → Prop), 0 < m → m < 100 → F (zushr x 16 % m) μ3 → qX10_draw G true x m μ3 F := fun x m F m0 m1 hF => by
        have u := zush16 x
        exact eX10_draw fun J C => rX10_draw_e C _ _ ⟨by constructor <;> omega, fun c => absurd c (by omega), fun _ => ⟨by omega, by omega, hF⟩⟩
      have nd : ∀ (x : Int) (F : Int → zM → Prop), F (zdn x) μ3 → qX10_nextDrawn G true x μ3 F := fun x F hF => eX10_nextDrawn fun J C => rX10_nextDrawn_e C _ hF
      refine rX10_drifts_32 C _ _ _ ⟨by constructor <;> omega, iN, fun c => absurd c (by omega), fun _ => nd _ _ (dr _ _ _ (by decide) (by decide) (nd _ _ (dr _ _ _ (by decide) (by decide) (nd _ _ (dr _ _ _ (by decide) (by decide) (nd _ _ ⟨q1, q4, dr _ _ _ (by decide) (by decide) ?_⟩))))))⟩
      have ex : zi μ3 112 (zdat s.1) = s.2 (zdat s.1) := x3.1 _ q4.1 q4.2
      change qX10_put G true (zi μ3 112 (zdat s.1) + zushr (zdr4 s.1) 16 % 21 - 10) 100 μ3 _
      rw [ex]
      have u5 : 0 ≤ zushr (zdr4 s.1) 16 % 21 ∧ zushr (zdr4 s.1) 16 % 21 < 21 := by omega
      refine kX10_put (by constructor <;> omega) (by decide) ?_
      have gz : zsm (fun c j => c = 112) μ3 (zup μ3 112 (zdat s.1) (max 0 (min (s.2 (zdat s.1) + zushr (zdr4 s.1) 16 % 21 - 10) 100))) := (zsm.refl _ _).up _ rfl
      exact hj _ (g3.trans (gz.q.mono (fun b j => by omega) (fun _ _ z => z))) e3 (c3.sm gz (by omega)) (o3.sm gz (by omega) (by omega)) (zXs_told x3 q4.1 q4.2 pc)
  · rw [if_neg hn, if_neg hn] at h
    exact h _ ((zsm.refl _ _).q) id hc hR
theorem kX11_drifts {F : Int → zM → Prop} {R : List Int} {S : Int → Int} (hM : zMs μ S) (hr : zLr S) (hv : zSet S) (hcd : zcds μ) (hR : zMr μ R) {r n : Int} (ir : zin r) (iN : zin n) (h : ∀ μ', zsm zPM μ μ' → zMr μ' (zdrr S r n R) → F (zdra S r n) μ') : qX11_drifts G r n μ F := by
  unfold zdrr zdra at h
  have g0 := zMthr μ
  have hR1 := hR.thr
  have hM1 := hM.pm g0
  have hcd1 := hcd.pm g0
  refine eX11_drifts fun J C => rX11_drifts_e C _ _ ?_
  generalize zup μ 153 5 0 = μ0 at *
  refine kX11_in iN (by decide) (by decide) (fun hn => ⟨by decide, fun _ => ?_, fun z => absurd z (by decide)⟩) (fun hn => ⟨by decide, fun z => absurd rfl z, fun _ => ?_⟩)
  · rw [if_pos hn, if_pos hn] at h
    obtain ⟨N, eN⟩ : ∃ N : Nat, (N : Int) = n := ⟨n.toNat, by omega⟩
    have eT : zdT S r n = (zdss S r N).2 := by unfold zdT; rw [show n.toNat = N by omega]
    rw [eT] at h
    refine znfor (N := 711) (P := fun k => ∀ μ', zsm (fun b j => b = 176 ∨ (b = 153 ∧ j = 37)) μ0 μ' → zi μ' 153 37 = r → (∀ j : Int, 0 ≤ j → j < k → zi μ' 176 j = S j) → J 24 ([some (zR (some 153)), none, some (zI n), some (zI (k : Int)), none, none, none, none], [], μ', 0, 0)) ?_ ?_ (zup μ0 153 37 r) ((zsm.refl _ _).up _ (by omega)) zi_at (fun j h0 h1 => absurd h0 (by omega))
    · intro μ1 g1 e1 f1
      refine rX11_drifts_24 C _ _ ⟨by decide, fun _ => ?_, fun c => absurd (by decide) c⟩
      refine znfor (N := N) (P := fun k => ∀ μ', zsm (fun b j => b = 176 ∨ (b = 153 ∧ j = 37)) μ0 μ' → zi μ' 153 37 = (zdss S r k).1 → (∀ j : Int, 0 ≤ j → j < 711 → zi μ' 176 j = (zdss S r k).2 j) → J 51 ([some (zR (some 153)), none, some (zI n), some (zI (k : Int)), none, none, none, none], [], μ', 0, 0)) ?_ ?_ μ1 g1 e1 (fun j h0 h1 => f1 j h0 (by omega))
      · intro μ2 g2 e2 f2
        obtain ⟨tl, tt⟩ := zDr_n hr r N
        generalize (zdss S r N).2 = T at *
        have vT : zSet T := zSet_c (fun i i0 _ => tt i (by omega)) hv
        refine rX11_drifts_51 C _ _ ⟨by constructor <;> omega, iN, fun _ => ?_, fun c => absurd (by omega) c⟩
        refine znfor (N := 4) (P := fun k => ∀ μ', zsm (fun b j => b = 176 ∨ (b = 153 ∧ (j = 37 ∨ j = 29 ∨ j = 30))) μ0 μ' → (∀ j : Int, 0 ≤ j → j < 711 → zi μ' 176 j = T j) → J 139 ([some (zR (some 153)), none, none, some (zI (zdrn T k)), some (zI (k : Int)), none, none, none], [], μ', 0, 0)) ?_ ?_ μ2 (g2.mono (fun b j => by omega)) f2
        · intro μ3 g3 f3
          have w : zw4 200 := by decide
          have hm := zmat_pl vT tl w w w
          have hd := zdi_r vT tl (p := zmat T 200 200 200) w w w
          have hcdr := zcd_r (p := zmat T 200 200 200)
          refine rX11_drifts_139 C _ _ ⟨by decide, fun _ => kX11_layColours (S := T) z176 (by decide) (by decide) (by decide) (hM1.sm g3 (by omega)) hv ⟨(tt 704 (by decide)).symm, (tt 707 (by decide)).symm⟩ (fun p h0 h1 => f3 p h0 (by omega)) tl (hcd1.sm g3 (by omega)) fun μ4 g4 l4 => ?_, fun c => absurd (by decide) c⟩
          have gc : zsm zPM μ0 μ4 := (g3.mono (fun b j => by unfold zPM; omega)).trans (zMlay g4)
          have m4 : zsMM μ4 T := fun i i0 i1 => by rw [tt _ (by omega)]; exact (hM1.pm gc).set i i0 i1
          refine kX11_matchOf (hcd1.pm gc) m4 l4 vT tl w w w fun μ5 g5 _ _ _ _ => ⟨by constructor <;> omega, kX11_tell (zMr.nil _) (by simp) fun μ6 g6 r6 => kX11_numberOf hm ?_⟩
          have gd : zsm (fun b j => b = 165 ∨ b = 156 ∨ b = 153) μ4 μ6 := ((g5.mono (fun b j => by omega)).up _ (by omega)).trans (g6.mono (fun b j => by omega))
          refine kX11_apartOf (S := T) (m4.sm gd (by omega)) (fun p b hp q0 q1 => by rw [gd.1 _ _ (by omega)]; exact l4.2.1 p b hp q0 q1) hm ⟨by constructor <;> omega, kX11_tell r6 (by simp) fun μ7 g7 r7 => ?_⟩
          exact h _ (((g0.trans gc).trans (zMrow0 (g5.mono (fun b j => by unfold zPM; omega)))).trans (zMrow (g6.trans g7))) r7
        · intro k hk hj μ3 g3 f3
          rw [zdrn] at hj
          exact rX11_drifts_139 C _ _ ⟨by constructor <;> omega, fun c => absurd c (by omega), fun _ => kX11_risesOf z176 (by decide) (by decide) (by decide) (S := T) (fun p h0 h1 => f3 p h0 (by omega)) tl ⟨by omega, by omega⟩ fun μ4 g4 _ => hj μ4 (g3.trans (g4.mono (fun b j => by omega))) (fun j h0 h1 => by rw [g4.1 _ _ (by omega)]; exact f3 j h0 h1)⟩
      · intro k hk hj μ2 g2 e2 f2
        obtain ⟨tl, tt⟩ := zDr_n hr r k
        rw [zdss] at hj
        generalize zdss S r k = s at *
        obtain ⟨q1, q2, q3, q4⟩ := zdat_r s.1
        have t4 := tl.1 _ q4.1 q4.2
        have u4 := zush16 (zdr4 s.1)
        have dr : ∀ (ν : zM) (x m : Int) (F : Int → zM → Prop), 0 < m → m < 100 → zi ν 153 37 = x → F (zushr (zdn x) 16 % m) (zup ν 153 37 (zdn x)) → qX11_draw G m ν F := fun ν x m F m0 m1 ex hF => by
          have u := zush16 (zdn x)
          refine eX11_draw fun J C => rX11_draw_e C _ ?_
          rw [ex]
          rw [zi_at]
          exact ⟨by show 0 ≤ zushr (zdn x) 16 ∧ zushr (zdn x) 16 < 2147483648; omega, by omega, hF⟩
        refine rX11_drifts_51 C _ _ ⟨by constructor <;> omega, iN, fun c => absurd c (by omega), fun _ => dr _ _ _ _ (by decide) (by decide) e2 (dr _ _ _ _ (by decide) (by decide) zi_at (dr _ _ _ _ (by decide) (by decide) zi_at ⟨q1, ?_⟩))⟩
        have ea : 3 * (zdl s.1 + 1) * zta 7 (zdi4 s.1) + zdba s.1 = zdat s.1 := by
          unfold zdat
          rw [show zta 7 (zdi4 s.1) = zta 2 (zdi4 s.1) from rfl, Int.mul_assoc, Int.mul_comm 3]
        change (0 ≤ 3 * (zdl s.1 + 1) * zta 7 (zdi4 s.1) + zdba s.1 ∧ 3 * (zdl s.1 + 1) * zta 7 (zdi4 s.1) + zdba s.1 < 711) ∧ qX11_draw G 21 _ (fun v9 μ9 => zin (zi _ 176 (3 * (zdl s.1 + 1) * zta 7 (zdi4 s.1) + zdba s.1) + v9 - 10) ∧ zin (min 100 (zi _ 176 (3 * (zdl s.1 + 1) * zta 7 (zdi4 s.1) + zdba s.1) + v9 - 10)) ∧ J 51 ([some (zR (some 153)), none, some (zI n), some (zI ((k : Int) + 1)), none, none, none, none], [], zup μ9 176 (3 * (zdl s.1 + 1) * zta 7 (zdi4 s.1) + zdba s.1) (max 0 (min 100 (zi _ 176 (3 * (zdl s.1 + 1) * zta 7 (zdi4 s.1) + zdba s.1) + v9 - 10))), 0, 0))
        rw [ea, zi_off (by omega), zi_off (by omega), zi_off (by omega), f2 _ q4.1 (by omega)]
        refine ⟨by omega, dr _ _ _ _ (by decide) (by decide) zi_at ?_⟩
        change zin (s.2 (zdat s.1) + zushr (zdr4 s.1) 16 % 21 - 10) ∧ zin (min 100 (s.2 (zdat s.1) + zushr (zdr4 s.1) 16 % 21 - 10)) ∧ _
        refine ⟨by constructor <;> omega, by constructor <;> omega, ?_⟩
        refine hj _ (((((g2.up _ (by omega)).up _ (by omega)).up _ (by omega)).up _ (by omega)).up _ (by omega)) ?_ (fun j h0 h1 => ?_)
        · rw [zi_off (by omega), zi_at]; rfl
        · show _ = zupd s.2 (zdat s.1) _ j
          unfold zupd
          by_cases c : j = zdat s.1
          · rw [if_pos c, c, zi_at, Int.min_comm]; rfl
          · rw [if_neg c, zi_off (by omega), zi_off (by omega), zi_off (by omega), zi_off (by omega), zi_off (by omega)]
            exact f2 j h0 h1
    · intro k hk hj μ1 g1 e1 f1
      refine rX11_drifts_24 C _ _ ⟨by constructor <;> omega, fun c => absurd c (by omega), fun _ => ⟨by omega, hj _ (g1.up _ (by omega)) (by rw [zi_off (by omega)]; exact e1) (fun j h0 h1 => ?_)⟩⟩
      by_cases c : j = k
      · subst c; rw [zi_at, g1.1 _ _ (by omega)]; exact hM1 k (by omega) (by omega)
      · rw [zi_off (by omega)]; exact f1 j h0 (by omega)
  · rw [if_neg hn, if_neg hn] at h
    exact h _ g0 hR1
end
