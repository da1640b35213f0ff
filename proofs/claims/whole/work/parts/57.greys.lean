/-! greys, replaces -/
noncomputable def zsu (S : Int → Int) (p : Int) : Int := zC S p 0 + zC S p 1 + zC S p 2
noncomputable def zsp (S : Int → Int) (p : Int) : Int := max (zC S p 0) (max (zC S p 1) (zC S p 2)) - min (zC S p 0) (min (zC S p 1) (zC S p 2))
theorem zsu_r {S : Int → Int} (hr : zLr S) (p : Int) : (0 ≤ zsu S p ∧ zsu S p ≤ 1200) ∧ 0 ≤ zsp S p ∧ zsp S p ≤ 400 := by
  have c0 := zC_r hr (p := p) (b := 0) (by decide); have c1 := zC_r hr (p := p) (b := 1) (by decide); have c2 := zC_r hr (p := p) (b := 2) (by decide)
  unfold zsu zsp
  omega
abbrev zyc (S : Int → Int) (k d p : Int) : Prop := zam p 3 = k ∧ zsp S p ≤ d
noncomputable def zyf (S : Int → Int) (k d : Int) (s : Int × Int × Int) (p : Int) : Int × Int × Int := if zyc S k d p then (s.1 + 1, zlf (zsu S) s.2.1 p, zlf (fun p => - zsu S p) s.2.2 p) else s
noncomputable def zyE (S : Int → Int) (k d : Int) : Int × Int × Int := zgE (zyf S k d) (0, -1, -1) S
def zyI (n : Nat) (s : Int × Int × Int) : Prop := (0 ≤ s.1 ∧ s.1 ≤ n) ∧ (s.1 = 0 ∧ s.2.1 = -1 ∧ s.2.2 = -1 ∨ 0 < s.1 ∧ zPl s.2.1 ∧ zPl s.2.2)
theorem zyI_s {S : Int → Int} {k d : Int} (n : Nat) (s : Int × Int × Int) (p : Int) (hp : zPl p) (h : zyI n s) : zyI (n + 1) (zyf S k d s p) := by
  obtain ⟨h1, h2⟩ := h
  unfold zyf
  by_cases c : zyc S k d p
  · rw [if_pos c]
    refine ⟨⟨by show 0 ≤ s.1 + 1; omega, by show s.1 + 1 ≤ _; omega⟩, Or.inr ⟨by show 0 < s.1 + 1; omega, (show zPl (zlf (zsu S) s.2.1 p) from zlf_pl hp ?_), (show zPl (zlf (fun p => - zsu S p) s.2.2 p) from zlf_pl hp ?_)⟩⟩
    · rcases h2 with ⟨_, q, _⟩ | ⟨_, q, _⟩
      · exact Or.inr q
      · exact Or.inl q
    · rcases h2 with ⟨_, _, q⟩ | ⟨_, _, q⟩
      · exact Or.inr q
      · exact Or.inl q
  · rw [if_neg c]
    exact ⟨⟨h1.1, by omega⟩, h2⟩
theorem zyI_X {S : Int → Int} {k d : Int} (n : Nat) (hn : n ≤ zON S) : zyI n (zgX (zyf S k d) (0, -1, -1) S n) :=
  zgX_i (I := zyI) ⟨⟨Int.le_refl _, Int.le_refl _⟩, Or.inl ⟨rfl, rfl, rfl⟩⟩ (fun k s p hp _ hs => zyI_s k s p hp hs) n hn
theorem zyI_M {S : Int → Int} {k d : Int} (n : Nat) (hn : n ≤ zN65) : zyI n (zgM (zyf S k d) (0, -1, -1) S n) :=
  zgM_i (I := zyI) ⟨⟨Int.le_refl _, Int.le_refl _⟩, Or.inl ⟨rfl, rfl, rfl⟩⟩ (fun k s p hp _ hs => zyI_s k s p hp hs) (fun k s h => ⟨⟨h.1.1, by have := h.1.2; omega⟩, h.2⟩) n hn
noncomputable def zyr (S : Int → Int) (k d : Int) : List Int := if (zyE S k d).1 ≤ 0 then [] else [] ++ [zcd (zyE S k d).2.1] ++ [zsu S (zyE S k d).2.1] ++ [zcd (zyE S k d).2.2] ++ [zsu S (zyE S k d).2.2]
/-- of a place from another one -/
noncomputable def zbw (S : Int → Int) (p q : Int) : Int := zdi S p (zC S q 0) (zC S q 1) (zC S q 2)
theorem zbw_r {S : Int → Int} (hs : zSet S) (hr : zLr S) (p q : Int) : 0 ≤ zbw S p q ∧ zbw S p q ≤ 4320000 := zdi_r hs hr (zC_r hr (by decide)) (zC_r hr (by decide)) (zC_r hr (by decide))
theorem zdw_neg (S : Int → Int) (x y z : Int) : zdw S (-x) (-y) (-z) = zdw S x y z := by
  have sq : ∀ w x : Int, w * -x * -x = w * x * x := fun w x => by rw [Int.mul_assoc, Int.neg_mul_neg, ← Int.mul_assoc]
  unfold zdw
  rw [sq, sq, sq]
theorem zbw_c (S : Int → Int) (p q : Int) : zbw S p q = zbw S q p := by
  unfold zbw zdi
  rw [← zdw_neg, Int.neg_sub, Int.neg_sub, Int.neg_sub]
section
variable {G : zG} {μ : zM} {S : Int → Int}
theorem kX11_layNowR {F : zM → Prop} {R : List Int} (hM : zMs μ S) (hr : zLr S) (hv : zSet S) (hcd : zcds μ) (hR : zMr μ R) (h : ∀ μ', zsm zPM μ μ' → zMs μ' S → zcds μ' → zlaid μ' S → zMr μ' R → F μ') : qX11_layColours G 154 μ F :=
  kX11_layColours zZ154 (by decide) (by decide) (by decide) hM hv ⟨rfl, rfl⟩ (fun p h0 h1 => hM p h0 (by omega)) hr hcd fun μ' g l => h μ' (zMlay g) (hM.pm (zMlay g)) (hcd.pm (zMlay g)) l (hR.sm g (by omega) (by omega))
theorem kX0_sum {F : Int → zM → Prop} {a : Nat} (ha : zIsCh a) (hc : zchis μ a S) {p : Int} (hp : zPl p) (h : F (zsu S p) μ) : qX0_sum G a p μ F :=
  eX0_sum fun J C => rX0_sum_e C ha _ (kX0_number ha hc hp (by decide) (kX0_number ha hc hp (by decide) (kX0_number ha hc hp (by decide) h)))
theorem kX0_widest {F : Int → zM → Prop} {a : Nat} (ha : zIsCh a) (hc : zchis μ a S) (hr : zLr S) {p : Int} (hp : zPl p) (h : F (zsp S p) μ) : qX0_widest G a p μ F := by
  have c0 := zC_r hr (p := p) (b := 0) (by decide); have c1 := zC_r hr (p := p) (b := 1) (by decide); have c2 := zC_r hr (p := p) (b := 2) (by decide)
  exact eX0_widest fun J C => rX0_widest_e C ha _ (kX0_number ha hc hp (by decide) (kX0_number ha hc hp (by decide) (kX0_number ha hc hp (by decide) ⟨by constructor <;> omega, by constructor <;> omega, by constructor <;> omega, by constructor <;> omega, kX0_number ha hc hp (by decide) (kX0_number ha hc hp (by decide) (kX0_number ha hc hp (by decide) ⟨by constructor <;> omega, by constructor <;> omega, by constructor <;> omega, by constructor <;> omega, h⟩))⟩)))
theorem zC159 (hC : ∀ p b, zPl p → 0 ≤ b → b < 3 → zi μ 159 (3 * p + b) = zC S p b) {p : Int} (hp : zPl p) : zi μ 159 (3 * p) = zC S p 0 ∧ zi μ 159 (3 * p + 1) = zC S p 1 ∧ zi μ 159 (3 * p + 2) = zC S p 2 :=
  ⟨by rw [← hC p 0 hp (by decide) (by decide), Int.add_zero], hC p 1 hp (by decide) (by decide), hC p 2 hp (by decide) (by decide)⟩
theorem kX11_sumOf {F : Int → zM → Prop} (hC : ∀ p b, zPl p → 0 ≤ b → b < 3 → zi μ 159 (3 * p + b) = zC S p b) {p : Int} (hp : zPl p) (h : F (zsu S p) μ) : qX11_sumOf G p μ F := by
  obtain ⟨e0, e1, e2⟩ := zC159 hC hp
  obtain ⟨p0, p1⟩ := id hp
  refine eX11_sumOf fun J C => rX11_sumOf_e C _ ⟨by omega, by omega, by omega, ?_⟩
  rw [e0, e1, e2]; exact h
theorem kX11_spanOf {F : Int → zM → Prop} (hC : ∀ p b, zPl p → 0 ≤ b → b < 3 → zi μ 159 (3 * p + b) = zC S p b) (hr : zLr S) {p : Int} (hp : zPl p) (h : F (zsp S p) μ) : qX11_spanOf G p μ F := by
  have c0 := zC_r hr (p := p) (b := 0) (by decide); have c1 := zC_r hr (p := p) (b := 1) (by decide); have c2 := zC_r hr (p := p) (b := 2) (by decide)
  obtain ⟨e0, e1, e2⟩ := zC159 hC hp
  obtain ⟨p0, p1⟩ := id hp
  refine eX11_spanOf fun J C => rX11_spanOf_e C _ ?_
  rw [e0, e1, e2]
  exact ⟨by omega, by omega, by omega, by constructor <;> omega, by constructor <;> omega, by constructor <;> omega, by constructor <;> omega, by constructor <;> omega, h⟩
theorem kX0_distanceOf {F : Int → zM → Prop} {a s : Nat} (ha : zIsCh a) (hs : zIsSt s) (hc : zchis μ a S) (hX : zsX μ s S) {p q : Int} (hp : zPl p) (hq : zPl q) (h : F (zbw S p q) μ) : qX0_distanceOf G a s p q μ F :=
  eX0_distanceOf fun J C => rX0_distanceOf_e C ha hs _ _ (kX0_number ha hc hq (by decide) (kX0_number ha hc hq (by decide) (kX0_number ha hc hq (by decide) (kX0_distanceTo ha hs hc hX hp h))))
theorem kX11_between {F : Int → zM → Prop} (hM : zsMM μ S) (hC : ∀ p b, zPl p → 0 ≤ b → b < 3 → zi μ 159 (3 * p + b) = zC S p b) {p q : Int} (hp : zPl p) (hq : zPl q) (h : F (zbw S p q) μ) : qX11_between G p q μ F := by
  obtain ⟨e0, e1, e2⟩ := zC159 hC hq
  obtain ⟨p0, p1⟩ := id hq
  refine eX11_between fun J C => rX11_between_e C _ _ ?_
  rw [e0, e1, e2]
  exact ⟨by omega, by omega, by omega, kX11_apartOf hM hC hp h⟩
theorem kX10_greys {F : Int → zM → Prop} {R : List Int} (hX : zXs μ 5 S) (hr : zLr S) (hv : zSet S) (hc : zXc μ) (hR : zXr μ R) {k d : Int} (ik : zin k) (id' : zin d) (h : ∀ μ', zsm zPX μ μ' → zXc μ' → zXr μ' (if 0 ≤ k ∧ k ≤ 8 then zyr S k d else R) → F (if 0 ≤ k ∧ k ≤ 8 then (zyE S k d).1 else -1) μ') : qX10_greys G k d μ F := by
  refine eX10_greys fun J C => rX10_greys_e C _ _ (kX10_isIn ik (by decide) (by decide) (fun hk => ⟨by decide, fun _ => ?_, fun z => absurd z (by decide)⟩) (fun hk => ⟨by decide, fun z => absurd rfl z, fun _ => ?_⟩))
  · rw [if_pos hk, if_pos hk] at h
    have hN := zON_le S
    refine kX10_refresh hX hr hv hc fun μ1 g1 c1 k1 o1 => ?_
    refine znfor (N := zON S) (P := fun n => J 27 ([some (zR (some 0)), some (zI k), some (zI d), some (zI (zgX (zyf S k d) (0, -1, -1) S n).1), some (zI (zgX (zyf S k d) (0, -1, -1) S n).2.1), some (zI (zgX (zyf S k d) (0, -1, -1) S n).2.2), some (zI (n : Int)), none], [], μ1, 0, 0)) ?_ ?_
    · have hI := zyI_X (S := S) (k := k) (d := d) _ (Nat.le_refl _)
      rw [show zgX (zyf S k d) (0, -1, -1) S (zON S) = zyE S k d from zgX_e] at hI ⊢
      unfold zyr at h
      generalize zyE S k d = s at *
      obtain ⟨i1, i2⟩ := hI
      have r1 := zsu_r hr s.2.1; have r2 := zsu_r hr s.2.2
      have d1 := zcd_r (p := s.2.1); have d2 := zcd_r (p := s.2.2)
      refine rX10_greys_27 C _ _ _ _ _ _ ?_
      rw [o1.1]
      refine ⟨by constructor <;> omega, by constructor <;> omega, fun _ => kX6_clear fun μ2 g2 t2 => ⟨by constructor <;> omega, fun c => ?_, fun c => ?_⟩, fun c => absurd (Int.le_refl _) c⟩
      · rw [if_pos c] at h
        exact h _ ((zX105 g1).trans (zXrow g2)) (c1.sm g2 (by omega)) t2
      · rw [if_neg c] at h
        obtain ⟨q0, q1, q2⟩ : 0 < s.1 ∧ zPl s.2.1 ∧ zPl s.2.2 := by
          rcases i2 with ⟨z, _⟩ | z
          · omega
          · exact z
        refine kX10_codeOf q1 ⟨by constructor <;> omega, kX6_append t2 (by simp) fun μ3 g3 t3 => kX0_sum zCh_105 ((k1.sm g2 (by omega)).sm g3 (by omega)) q1 ⟨by constructor <;> omega, kX6_append t3 (by simp) fun μ4 g4 t4 => kX10_codeOf q2 ⟨by constructor <;> omega, kX6_append t4 (by simp) fun μ5 g5 t5 => kX0_sum zCh_105 ((((k1.sm g2 (by omega)).sm g3 (by omega)).sm g4 (by omega)).sm g5 (by omega)) q2 ⟨by constructor <;> omega, kX6_append t5 (by simp) fun μ6 g6 t6 => ?_⟩⟩⟩⟩
        have gr := (((g2.trans g3).trans g4).trans g5).trans g6
        exact h _ ((zX105 g1).trans (zXrow gr)) (c1.sm gr (by omega)) t6
    · intro n hn hj
      have hI := zyI_X (S := S) (k := k) (d := d) n (by omega)
      obtain ⟨hp, -⟩ := zO_mem hn
      rw [zgX_s hn] at hj
      generalize zgX (zyf S k d) (0, -1, -1) S n = s at *
      obtain ⟨i1, i2⟩ := hI
      have rp := zsu_r hr (zO S n)
      have r1 := zsu_r hr s.2.1; have r2 := zsu_r hr s.2.2
      have ha := zam_r (zO S n) 3
      have m1 : zPl s.2.1 ∨ s.2.1 = -1 := by
        rcases i2 with z | z
        · exact Or.inr z.2.1
        · exact Or.inl z.2.1
      have m2 : zPl s.2.2 ∨ s.2.2 = -1 := by
        rcases i2 with z | z
        · exact Or.inr z.2.2
        · exact Or.inl z.2.2
      refine rX10_greys_27 C _ _ _ _ _ _ ?_
      rw [o1.1, o1.2 n hn]
      refine ⟨by constructor <;> omega, by constructor <;> omega, fun c => absurd c (by omega), fun _ => ⟨by omega, kX10_am hp (by decide) (by decide) ⟨by constructor <;> omega, ik, fun c => ?_, fun c => kX0_widest zCh_105 k1 hr hp ⟨by constructor <;> omega, id', fun c2 => ?_, fun c2 => ?_⟩⟩⟩⟩
      · rw [zyf, if_neg (fun z => c z.1)] at hj; exact hj
      · rw [zyf, if_pos (show zyc S k d (zO S n) from ⟨c, c2⟩)] at hj
        have fin : ∀ x', x' = zlf (zsu S) s.2.1 (zO S n) → J 110 ([some (zR (some 0)), some (zI k), some (zI d), some (zI (s.1 + 1)), some (zI x'), some (zI s.2.2), some (zI (n : Int)), some (zI (zO S n))], [], μ1, 0, 0) := by
          intro x' ex
          have hj : J 27 ([some (zR (some 0)), some (zI k), some (zI d), some (zI (s.1 + 1)), some (zI (zlf (zsu S) s.2.1 (zO S n))), some (zI (zlf (fun p => - zsu S p) s.2.2 (zO S n))), some (zI ((n : Int) + 1)), none], [], μ1, 0, 0) := hj
          rw [← ex] at hj
          refine rX10_greys_110 C _ _ _ _ _ _ _ ⟨by rcases m2 with ⟨z1, z2⟩ | z <;> constructor <;> omega, fun c3 => ?_, fun c3 => ?_⟩
          · have e : s.2.2 = -1 := by rcases m2 with ⟨z1, z2⟩ | z <;> omega
            rw [zlf, if_pos (Or.inl e)] at hj; exact hj
          · have q2 : zPl s.2.2 := by rcases m2 with z | z; exact z; exact absurd z (by omega)
            refine kX0_sum zCh_105 k1 hp (kX0_sum zCh_105 k1 q2 ⟨by constructor <;> omega, by constructor <;> omega, fun c4 => ?_, fun c4 => ?_⟩)
            · rw [zlf, if_neg (by omega)] at hj; exact hj
            · rw [zlf, if_pos (by omega)] at hj; exact hj
        refine ⟨by rcases m1 with ⟨z1, z2⟩ | z <;> constructor <;> omega, fun c3 => ?_, fun c3 => ?_⟩
        · have e : s.2.1 = -1 := by rcases m1 with ⟨z1, z2⟩ | z <;> omega
          exact fin _ (by rw [zlf, if_pos (Or.inl e)])
        · have q1 : zPl s.2.1 := by rcases m1 with z | z; exact z; exact absurd z (by omega)
          exact kX0_sum zCh_105 k1 hp (kX0_sum zCh_105 k1 q1 ⟨by constructor <;> omega, by constructor <;> omega, fun c4 => fin _ (by rw [zlf, if_neg (by omega)]), fun c4 => fin _ (by rw [zlf, if_pos (by omega)])⟩)
      · rw [zyf, if_neg (fun z => c2 z.2)] at hj; exact hj
  · rw [if_neg hk, if_neg hk] at h
    exact h _ (zsm.refl _ _) hc hR
theorem kX11_greys {F : Int → zM → Prop} {R : List Int} (hM : zMs μ S) (hr : zLr S) (hv : zSet S) (hcd : zcds μ) (hR : zMr μ R) {k d : Int} (ik : zin k) (id' : zin d) (h : ∀ μ', zsm zPM μ μ' → zMr μ' (if 0 ≤ k ∧ k ≤ 8 then zyr S k d else R) → F (if 0 ≤ k ∧ k ≤ 8 then (zyE S k d).1 else -1) μ') : qX11_greys G k d μ F := by
  refine eX11_greys fun J C => rX11_greys_e C _ _ (kX11_in ik (by decide) (by decide) (fun hk => ⟨by decide, fun _ => ?_, fun z => absurd z (by decide)⟩) (fun hk => ⟨by decide, fun z => absurd rfl z, fun _ => ?_⟩))
  · rw [if_pos hk, if_pos hk] at h
    have eN := zN65_e
    refine kX11_layNow (hM.pm (zMthr μ)) hr hv (hcd.pm (zMthr μ)) fun μ1 g1 m1 d1 l1 => ?_
    refine znfor (N := zN65) (P := fun n => J 36 ([some (zR (some 153)), some (zI k), some (zI d), some (zI (zgM (zyf S k d) (0, -1, -1) S n).1), some (zI (zgM (zyf S k d) (0, -1, -1) S n).2.1), some (zI (zgM (zyf S k d) (0, -1, -1) S n).2.2), some (zI (n : Int)), none], [], μ1, 0, 0)) ?_ ?_
    · have hI := zyI_M (S := S) (k := k) (d := d) _ (Nat.le_refl _)
      rw [show zgM (zyf S k d) (0, -1, -1) S zN65 = zyE S k d from zgM_e] at hI ⊢
      unfold zyr at h
      generalize zyE S k d = s at *
      obtain ⟨i1, i2⟩ := hI
      have r1 := zsu_r hr s.2.1; have r2 := zsu_r hr s.2.2
      have d1 := zcd_r (p := s.2.1); have d2 := zcd_r (p := s.2.2)
      have gg := zMrow0 ((zMthr μ).trans g1)
      refine rX11_greys_36 C _ _ _ _ _ _ ⟨by constructor <;> omega, fun _ => ⟨by constructor <;> omega, fun c => ?_, fun c => ?_⟩, fun c => absurd (by omega) c⟩
      · rw [if_pos c] at h
        exact h _ gg (zMr.nil _)
      · rw [if_neg c] at h
        obtain ⟨q0, q1, q2⟩ : 0 < s.1 ∧ zPl s.2.1 ∧ zPl s.2.2 := by
          rcases i2 with ⟨z, _⟩ | z
          · omega
          · exact z
        have hC : ∀ μ', zsm (fun b j => b = 156 ∨ (b = 153 ∧ j = 4)) (zup μ1 153 4 0) μ' → ∀ p b, zPl p → 0 ≤ b → b < 3 → zi μ' 159 (3 * p + b) = zC S p b := fun μ' g p b w0 w1 w2 => by rw [g.1 _ _ (by omega), zi_off (by omega)]; exact l1.2.1 p b w0 w1 w2
        refine kX11_codeOf q1 ⟨by constructor <;> omega, kX11_tell (zMr.nil _) (by simp) fun μ3 g3 t3 => kX11_sumOf (hC _ g3) q1 ⟨by constructor <;> omega, kX11_tell t3 (by simp) fun μ4 g4 t4 => kX11_codeOf q2 ⟨by constructor <;> omega, kX11_tell t4 (by simp) fun μ5 g5 t5 => kX11_sumOf (hC _ ((g3.trans g4).trans g5)) q2 ⟨by constructor <;> omega, kX11_tell t5 (by simp) fun μ6 g6 t6 => ?_⟩⟩⟩⟩
        exact h _ (gg.trans (zMrow (((g3.trans g4).trans g5).trans g6))) t6
    · intro n hn hj
      have hp : zPl n := ⟨by omega, by omega⟩
      have hI := zyI_M (S := S) (k := k) (d := d) n (by omega)
      refine rX11_greys_36 C _ _ _ _ _ _ ⟨by constructor <;> omega, fun c => absurd c (by omega), fun _ => kX11_codeOf hp (kX11_open m1 hv (fun ho => ⟨by decide, fun z => absurd z (by decide), fun _ => kX11_am (by decide) (by decide) ?_⟩) (fun ho => ⟨by decide, fun _ => ?_, fun z => absurd rfl z⟩))⟩
      · rw [zgM_1 ho] at hj
        generalize zgM (zyf S k d) (0, -1, -1) S n = s at *
        obtain ⟨i1, i2⟩ := hI
        have rp := zsu_r hr n
        have r1 := zsu_r hr s.2.1; have r2 := zsu_r hr s.2.2
        have ha := zam_r n 3
        refine ⟨by constructor <;> omega, ik, fun c => ?_, fun c => kX11_spanOf l1.2.1 hr hp ⟨by constructor <;> omega, id', fun c2 => ?_, fun c2 => ?_⟩⟩
        · rw [zyf, if_neg (fun z => c z.1)] at hj; exact hj
        · rw [zyf, if_pos (show zyc S k d n from ⟨c, c2⟩)] at hj
          have fin : ∀ x', x' = zlf (zsu S) s.2.1 n → J 106 ([some (zR (some 153)), some (zI k), some (zI d), some (zI s.1), some (zI x'), some (zI s.2.2), some (zI (n : Int)), none], [], μ1, 0, 0) := by
            intro x' ex
            have hj : J 36 ([some (zR (some 153)), some (zI k), some (zI d), some (zI (s.1 + 1)), some (zI (zlf (zsu S) s.2.1 n)), some (zI (zlf (fun p => - zsu S p) s.2.2 n)), some (zI ((n : Int) + 1)), none], [], μ1, 0, 0) := hj
            rw [← ex] at hj
            refine rX11_greys_106 C _ _ _ _ _ _ ⟨by constructor <;> omega, fun c3 => ?_, fun c3 => ?_⟩
            · have e : s.2.2 = -1 := by rcases i2 with z | z <;> omega
              rw [zlf, if_pos (Or.inl e)] at hj; exact hj
            · have q2 : zPl s.2.2 := by
                rcases i2 with z | z
                · omega
                · exact z.2.2
              have q3 := q2.1
              refine kX11_sumOf l1.2.1 hp (kX11_sumOf l1.2.1 q2 ⟨by constructor <;> omega, by constructor <;> omega, fun c4 => ?_, fun c4 => ?_⟩)
              · rw [zlf, if_neg (by omega)] at hj; exact hj
              · rw [zlf, if_pos (by omega)] at hj; exact hj
          refine ⟨by constructor <;> omega, fun c3 => ?_, fun c3 => ?_⟩
          · have e : s.2.1 = -1 := by rcases i2 with z | z <;> omega
            exact fin _ (by rw [zlf, if_pos (Or.inl e)])
          · have q1 : zPl s.2.1 := by
              rcases i2 with z | z
              · omega
              · exact z.2.1
            have q3 := q1.1
            exact kX11_sumOf l1.2.1 hp (kX11_sumOf l1.2.1 q1 ⟨by constructor <;> omega, by constructor <;> omega, fun c4 => fin _ (by rw [zlf, if_neg (by omega)]), fun c4 => fin _ (by rw [zlf, if_pos (by omega)])⟩)
        · rw [zyf, if_neg (fun z => c2 z.2)] at hj; exact hj
      · rw [zgM_n ho] at hj; exact hj
  · rw [if_neg hk, if_neg hk] at h
    exact h _ (zMthr μ) hR.thr
/-- how many are within, the best of them -/
noncomputable def zqf (S : Int → Int) (how q d : Int) (s : Int × Int) (p : Int) : Int × Int := if zbw S q p ≤ d then (s.1 + 1, zlf (zrank how) s.2 p) else s
noncomputable def zqE (S : Int → Int) (how q d : Int) : Int × Int := zgE (zqf S how q d) (0, -1) S
def zqI (n : Nat) (s : Int × Int) : Prop := (0 ≤ s.1 ∧ s.1 ≤ n) ∧ (s.1 = 0 ∧ s.2 = -1 ∨ 0 < s.1 ∧ zPl s.2)
theorem zqI_s {S : Int → Int} {how q d : Int} (n : Nat) (s : Int × Int) (p : Int) (hp : zPl p) (h : zqI n s) : zqI (n + 1) (zqf S how q d s p) := by
  obtain ⟨h1, h2⟩ := h
  unfold zqf
  by_cases c : zbw S q p ≤ d
  · rw [if_pos c]
    refine ⟨⟨by show 0 ≤ s.1 + 1; omega, by show s.1 + 1 ≤ _; omega⟩, Or.inr ⟨by show 0 < s.1 + 1; omega, (show zPl (zlf (zrank how) s.2 p) from zlf_pl hp ?_)⟩⟩
    rcases h2 with ⟨_, q⟩ | ⟨_, q⟩
    · exact Or.inr q
    · exact Or.inl q
  · rw [if_neg c]
    exact ⟨⟨h1.1, by omega⟩, h2⟩
theorem zqI_X {S : Int → Int} {how q d : Int} (n : Nat) (hn : n ≤ zON S) : zqI n (zgX (zqf S how q d) (0, -1) S n) :=
  zgX_i (I := zqI) ⟨⟨Int.le_refl _, Int.le_refl _⟩, Or.inl ⟨rfl, rfl⟩⟩ (fun k s p hp _ hs => zqI_s k s p hp hs) n hn
theorem zqI_M {S : Int → Int} {how q d : Int} (n : Nat) (hn : n ≤ zN65) : zqI n (zgM (zqf S how q d) (0, -1) S n) :=
  zgM_i (I := zqI) ⟨⟨Int.le_refl _, Int.le_refl _⟩, Or.inl ⟨rfl, rfl⟩⟩ (fun k s p hp _ hs => zqI_s k s p hp hs) (fun k s h => ⟨⟨h.1.1, by have := h.1.2; omega⟩, h.2⟩) n hn
abbrev zqc (how c : Int) : Prop := (0 ≤ how ∧ how ≤ 2) ∧ zisc c
noncomputable def zqa (S : Int → Int) (how c d : Int) : Int := if zqc how c then (if (zqE S how (zpc c) d).1 = 0 then -2 else zcd (zqE S how (zpc c) d).2) else -1
noncomputable def zqr (S : Int → Int) (how c d : Int) (R : List Int) : List Int := if zqc how c then (if (zqE S how (zpc c) d).1 = 0 then R else [] ++ [(zqE S how (zpc c) d).1]) else R
theorem zrank_r {how p : Int} (hh : 0 ≤ how ∧ how ≤ 2) : 0 ≤ zrank how p ∧ zrank how p ≤ 4000 := by
  have := zam_r p 3; have := ztot_r p
  unfold zrank
  split
  · omega
  · split <;> omega
theorem kX10_replaces {F : Int → zM → Prop} {R : List Int} (hX : zXs μ 5 S) (hr : zLr S) (hv : zSet S) (hc : zXc μ) (hR : zXr μ R) {how c d : Int} (ih : zin how) (ic : zin c) (id' : zin d) (h : ∀ μ', zsm zPX μ μ' → zXc μ' → zXr μ' (zqr S how c d R) → F (zqa S how c d) μ') : qX10_replaces G how c d μ F := by
  have ref : ¬ zqc how c → F (-1) μ := fun z => by
    unfold zqr zqa at h
    rw [if_neg z, if_neg z] at h
    exact h _ (zsm.refl _ _) hc hR
  refine eX10_replaces fun J C => rX10_replaces_e C _ _ _ ?_
  have go : ∀ v, (zisc c → v = zpc c) → (¬ zisc c → v = -1) → qX10_isIn G true how 0 2 μ (fun v2 μ2 => zin v2 ∧ ((v2 = 0 → F (-1) μ2) ∧ (¬ (v2 = 0) → zin v ∧ ((0 ≤ v → qX10_refresh G μ2 (fun μ7 => J 35 ([some (zR (some 0)), some (zI how), none, some (zI d), some (zI v), some (zI 0), some (zI (-1)), some (zI 0), none], [], μ7, 0, 0))) ∧ (¬ (0 ≤ v) → F (-1) μ2))))) := by
    intro v e1 e2
    refine kX10_isIn ih (by decide) (by decide) (fun hh => ⟨by decide, fun z => absurd z (by decide), fun _ => ?_⟩) (fun hh => ⟨by decide, fun _ => ref (fun z => hh z.1), fun z => absurd rfl z⟩)
    by_cases hc1 : zisc c
    · have e := e1 hc1
      subst e
      have hq := zpc_pl hc1
      obtain ⟨q0, q1⟩ := id hq
      refine ⟨by constructor <;> omega, fun _ => ?_, fun z => absurd q0 z⟩
      unfold zqr zqa at h
      rw [if_pos (show zqc how c from ⟨hh, hc1⟩), if_pos (show zqc how c from ⟨hh, hc1⟩)] at h
      have hN := zON_le S
      refine kX10_refresh hX hr hv hc fun μ1 g1 c1 k1 o1 => ?_
      refine znfor (N := zON S) (P := fun n => J 35 ([some (zR (some 0)), some (zI how), none, some (zI d), some (zI (zpc c)), some (zI (zgX (zqf S how (zpc c) d) (0, -1) S n).1), some (zI (zgX (zqf S how (zpc c) d) (0, -1) S n).2), some (zI (n : Int)), none], [], μ1, 0, 0)) ?_ ?_
      · have hI := zqI_X (S := S) (how := how) (q := zpc c) (d := d) _ (Nat.le_refl _)
        rw [show zgX (zqf S how (zpc c) d) (0, -1) S (zON S) = zqE S how (zpc c) d from zgX_e] at hI ⊢
        generalize zqE S how (zpc c) d = s at *
        obtain ⟨i1, i2⟩ := hI
        refine rX10_replaces_35 C _ _ _ _ _ _ ?_
        rw [o1.1]
        refine ⟨by constructor <;> omega, by constructor <;> omega, fun _ => ⟨by constructor <;> omega, fun c => ?_, fun c => ?_⟩, fun c => absurd (Int.le_refl _) c⟩
        · rw [if_neg c, if_neg c] at h
          have q2 : zPl s.2 := by
            rcases i2 with ⟨z, _⟩ | z
            · exact absurd z c
            · exact z.2
          refine kX6_clear fun μ2 g2 t2 => kX6_append t2 (by simp) fun μ3 g3 t3 => kX10_codeOf q2 ?_
          have gr := g2.trans g3
          exact h _ ((zX105 g1).trans (zXrow gr)) (c1.sm gr (by omega)) t3
        · rw [if_pos c, if_pos c] at h
          exact h _ (zX105 g1) c1 (hR.sm g1 (by omega) (by omega))
      · intro n hn hj
        have hI := zqI_X (S := S) (how := how) (q := zpc c) (d := d) n (by omega)
        obtain ⟨hp, -⟩ := zO_mem hn
        rw [zgX_s hn] at hj
        generalize zgX (zqf S how (zpc c) d) (0, -1) S n = s at *
        obtain ⟨i1, i2⟩ := hI
        have rb := zbw_r hv hr (zpc c) (zO S n)
        have k1' := zrank_r (p := zO S n) hh; have k2' := zrank_r (p := s.2) hh
        refine rX10_replaces_35 C _ _ _ _ _ _ ?_
        rw [o1.1, o1.2 n hn]
        refine ⟨by constructor <;> omega, by constructor <;> omega, fun c => absurd c (by omega), fun _ => ⟨by omega, kX0_distanceOf zCh_105 zSt_5 k1 (hX.px (zX105 g1) (by decide)).set hq hp ⟨by constructor <;> omega, id', fun c2 => ?_, fun c2 => ?_⟩⟩⟩
        · rw [zqf, if_pos c2] at hj
          have hj : J 35 ([some (zR (some 0)), some (zI how), none, some (zI d), some (zI (zpc c)), some (zI (s.1 + 1)), some (zI (zlf (zrank how) s.2 (zO S n))), some (zI ((n : Int) + 1)), none], [], μ1, 0, 0) := hj
          refine ⟨by rcases i2 with z | ⟨z, z1, z2⟩ <;> constructor <;> omega, fun c3 => ?_, fun c3 => ?_⟩
          · have e : s.2 = -1 := by rcases i2 with z | ⟨z, z1, z2⟩ <;> omega
            rw [zlf, if_pos (Or.inl e)] at hj; exact hj
          · have q2 : zPl s.2 := by
              rcases i2 with z | z
              · omega
              · exact z.2
            refine kX10_rank hh hp (kX10_rank hh q2 ⟨by constructor <;> omega, by constructor <;> omega, fun c4 => ?_, fun c4 => ?_⟩)
            · rw [zlf, if_neg (by omega)] at hj; exact hj
            · rw [zlf, if_pos (by omega)] at hj; exact hj
        · rw [zqf, if_neg c2] at hj; exact hj
    · rw [e2 hc1]
      exact ⟨by decide, fun z => absurd z (by decide), fun _ => ref (fun z => hc1 z.2)⟩
  exact kX10_placeOf ic (fun hc1 => go _ (fun _ => rfl) (fun z => absurd hc1 z)) (fun hc0 => go _ (fun z => absurd z hc0) (fun _ => rfl))
theorem kX11_replaces {F : Int → zM → Prop} {R : List Int} (hM : zMs μ S) (hr : zLr S) (hv : zSet S) (hcd : zcds μ) (hR : zMr μ R) {how c d : Int} (ih : zin how) (ic : zin c) (id' : zin d) (h : ∀ μ', zsm zPM μ μ' → zMr μ' (zqr S how c d R) → F (zqa S how c d) μ') : qX11_replaces G how c d μ F := by
  have ref : ¬ zqc how c → F (-1) (zup μ 153 5 0) := fun z => by
    unfold zqr zqa at h
    rw [if_neg z, if_neg z] at h
    exact h _ (zMthr μ) hR.thr
  refine eX11_replaces fun J C => rX11_replaces_e C _ _ _ (kX11_in ih (by decide) (by decide) (fun hh => ⟨by decide, fun z => absurd z (by decide), fun _ => kX11_isCode ic (fun hc1 => ⟨by decide, fun _ => ?_, fun z => absurd z (by decide)⟩) (fun hc1 => ⟨by decide, fun z => absurd rfl z, fun _ => ref (fun z => hc1 z.2)⟩)⟩) (fun hh => ⟨by decide, fun _ => ref (fun z => hh z.1), fun z => absurd rfl z⟩))
  have hq := zpc_pl hc1
  unfold zqr zqa at h
  rw [if_pos (show zqc how c from ⟨hh, hc1⟩), if_pos (show zqc how c from ⟨hh, hc1⟩)] at h
  have eN := zN65_e
  refine kX11_layNowR (hM.pm (zMthr μ)) hr hv (hcd.pm (zMthr μ)) hR.thr fun μ1 g1 m1 d1 l1 t1 => ?_
  refine znfor (N := zN65) (P := fun n => J 40 ([some (zR (some 153)), some (zI how), some (zI c), some (zI d), some (zI (zgM (zqf S how (zpc c) d) (0, -1) S n).1), some (zI (if (zgM (zqf S how (zpc c) d) (0, -1) S n).2 = -1 then -1 else zcd (zgM (zqf S how (zpc c) d) (0, -1) S n).2)), some (zI (n : Int))], [], μ1, 0, 0)) ?_ ?_
  · have hI := zqI_M (S := S) (how := how) (q := zpc c) (d := d) _ (Nat.le_refl _)
    rw [show zgM (zqf S how (zpc c) d) (0, -1) S zN65 = zqE S how (zpc c) d from zgM_e] at hI ⊢
    generalize zqE S how (zpc c) d = s at *
    obtain ⟨i1, i2⟩ := hI
    refine rX11_replaces_40 C _ _ _ _ _ _ ⟨by constructor <;> omega, fun _ => ⟨by constructor <;> omega, fun c => ?_, fun c => ?_⟩, fun c => absurd (by omega) c⟩
    · rw [if_neg c, if_neg c] at h
      have q2 : zPl s.2 := by
        rcases i2 with ⟨z, _⟩ | z
        · exact absurd z c
        · exact z.2
      have q3 := q2.1
      rw [if_neg (by omega)]
      exact kX11_tell (zMr.nil _) (by simp) fun μ3 g3 t3 => h _ ((zMrow0 ((zMthr μ).trans g1)).trans (zMrow g3)) t3
    · rw [if_pos c, if_pos c] at h
      exact h _ ((zMthr μ).trans g1) t1
  · intro n hn hj
    have hp : zPl n := ⟨by omega, by omega⟩
    have hI := zqI_M (S := S) (how := how) (q := zpc c) (d := d) n (by omega)
    refine rX11_replaces_40 C _ _ _ _ _ _ ⟨by constructor <;> omega, fun c => absurd c (by omega), fun _ => kX11_codeOf hp (kX11_open m1 hv (fun ho => ⟨by decide, fun z => absurd z (by decide), fun _ => ?_⟩) (fun ho => ⟨by decide, fun _ => ?_, fun z => absurd rfl z⟩))⟩
    · rw [zgM_1 ho] at hj
      generalize zgM (zqf S how (zpc c) d) (0, -1) S n = s at *
      obtain ⟨i1, i2⟩ := hI
      have rb := zbw_r hv hr n (zpc c)
      have ec := zbw_c S n (zpc c)
      have k1' := zrank_r (p := n) hh; have k2' := zrank_r (p := s.2) hh
      have n0 := hp.1
      rw [show qX11_numberOf G true c = qX11_numberOf G true (zcd (zpc c)) by rw [zpc_cd hc1]]
      refine kX11_numberOf hq (kX11_between m1.set l1.2.1 hp hq ⟨by constructor <;> omega, id', fun c2 => ?_, fun c2 => ?_⟩)
      · rw [zqf, if_pos (by omega)] at hj
        have hj : J 40 ([some (zR (some 153)), some (zI how), some (zI c), some (zI d), some (zI (s.1 + 1)), some (zI (if zlf (zrank how) s.2 n = -1 then -1 else zcd (zlf (zrank how) s.2 n))), some (zI ((n : Int) + 1))], [], μ1, 0, 0) := hj
        have dn := zcd_r (p := s.2)
        refine ⟨by split <;> constructor <;> omega, fun c3 => kX11_codeOf hp ?_, fun c3 => ?_⟩
        · have e : s.2 = -1 := by
            by_cases e : s.2 = -1
            · exact e
            · rw [if_neg e] at c3; omega
          rw [show zlf (zrank how) s.2 n = n from if_pos (Or.inl e), if_neg (by omega)] at hj; exact hj
        · have e : ¬ s.2 = -1 := fun e => c3 (if_pos e)
          have q2 : zPl s.2 := by
            rcases i2 with z | z
            · exact absurd z.2 e
            · exact z.2
          rw [if_neg e]
          refine kX11_codeOf hp (kX11_rankOf hh (kX11_rankOf hh ⟨by constructor <;> omega, by constructor <;> omega, fun c4 => ?_, fun c4 => kX11_codeOf hp ?_⟩))
          · rw [show zlf (zrank how) s.2 n = s.2 from if_neg (by omega), if_neg e] at hj; exact hj
          · rw [show zlf (zrank how) s.2 n = n from if_pos (by omega), if_neg (by omega)] at hj; exact hj
      · rw [zqf, if_neg (by omega)] at hj; exact hj
    · rw [zgM_n ho] at hj; exact hj
end
