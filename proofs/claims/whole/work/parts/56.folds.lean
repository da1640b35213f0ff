/-! folds over the open places; reach, odds -/
noncomputable def zgX {α : Type} (f : α → Int → α) (a : α) (S : Int → Int) (k : Nat) : α := ((zol S zN65).take k).foldl f a
noncomputable def zgM {α : Type} (f : α → Int → α) (a : α) (S : Int → Int) (n : Nat) : α := (zol S n).foldl f a
noncomputable def zgE {α : Type} (f : α → Int → α) (a : α) (S : Int → Int) : α := (zol S zN65).foldl f a
section
variable {α : Type} {f : α → Int → α} {a : α} {S : Int → Int}
theorem zgX_0 : zgX f a S 0 = a := rfl
theorem zgX_s {k : Nat} (hk : k < zON S) : zgX f a S (k + 1) = f (zgX f a S k) (zO S k) := by
  have hk' : k < (zol S zN65).length := hk
  unfold zgX
  rw [List.take_add_one, List.foldl_append, List.getElem?_eq_getElem hk']
  show f _ _ = _
  rw [show zO S k = (zol S zN65)[k] from zgetD hk']
theorem zgX_e : zgX f a S (zON S) = zgE f a S := by
  unfold zgX zgE zON
  rw [List.take_length]
theorem zgM_0 : zgM f a S 0 = a := rfl
theorem zgM_1 {n : Nat} (h : zopen S n) : zgM f a S (n + 1) = f (zgM f a S n) n := by
  unfold zgM
  rw [zol, if_pos h, List.foldl_append]
  rfl
theorem zgM_n {n : Nat} (h : ¬ zopen S n) : zgM f a S (n + 1) = zgM f a S n := by
  unfold zgM
  rw [zol, if_neg h, List.append_nil]
theorem zgM_e : zgM f a S zN65 = zgE f a S := rfl
theorem zgX_i {I : Nat → α → Prop} (h0 : I 0 a) (hs : ∀ k s p, zPl p → zopen S p → I k s → I (k + 1) (f s p)) : ∀ k, k ≤ zON S → I k (zgX f a S k)
  | 0, _ => h0
  | k + 1, hk => by
    rw [zgX_s (by omega)]
    exact hs k _ _ (zO_mem (by omega)).1 (zO_mem (by omega)).2 (zgX_i h0 hs k (by omega))
theorem zgM_i {I : Nat → α → Prop} (h0 : I 0 a) (hs : ∀ k s p, zPl p → zopen S p → I k s → I (k + 1) (f s p)) (hm : ∀ k s, I k s → I (k + 1) s) : ∀ n : Nat, n ≤ zN65 → I n (zgM f a S n)
  | 0, _ => h0
  | n + 1, hn => by
    have e := zN65_e
    by_cases c : zopen S n
    · rw [zgM_1 c]
      exact hs n _ _ ⟨by omega, by omega⟩ c (zgM_i h0 hs hm n (by omega))
    · rw [zgM_n c]
      exact hm n _ (zgM_i h0 hs hm n (by omega))
theorem zgE_2 (hv : zSet S) {b : α} (h : f a 0 = f b 0) : zgE f a S = zgE f b S := by
  have h0 : (zol S zN65).getD 0 0 = 0 := zO_0 hv
  have hp : 0 < (zol S zN65).length := zON_pos hv
  unfold zgE
  generalize zol S zN65 = l at h0 hp
  match l, h0, hp with
  | x :: xs, h0, _ =>
    have : x = 0 := h0
    subst this
    show List.foldl f (f a 0) xs = List.foldl f (f b 0) xs
    rw [h]
end
/-- the least and the greatest place by a measure, -1 ahead of all -/
def zlf (g : Int → Int) (s p : Int) : Int := if s = -1 ∨ g p < g s then p else s
noncomputable def zrl (S : Int → Int) (b : Int) : Int := zgE (zlf (fun p => zC S p b)) 0 S
noncomputable def zrg (S : Int → Int) (b : Int) : Int := zgE (zlf (fun p => - zC S p b)) 0 S
theorem zlf_pl {g : Int → Int} {s p : Int} (hp : zPl p) (hs : zPl s ∨ s = -1) : zPl (zlf g s p) := by
  unfold zlf
  split
  · exact hp
  · rename_i c
    rcases hs with hs | hs
    · exact hs
    · exact absurd (Or.inl hs) c
theorem zlf_0 {S : Int → Int} (g : Int → Int) (hv : zSet S) : zgE (zlf g) (-1) S = zgE (zlf g) 0 S := zgE_2 hv (by
  unfold zlf
  rw [if_pos (Or.inl rfl)]
  split <;> rfl)
theorem zPl0 : zPl 0 := by decide
noncomputable def zrrh (S : Int → Int) (b : Int) : List Int := [] ++ [zC S (zrl S b) b] ++ [zcd (zrl S b)] ++ [zC S (zrg S b) b] ++ [zcd (zrg S b)]
section
variable {G : zG} {μ : zM} {S : Int → Int}
theorem zrl_pl (S : Int → Int) (b : Int) : zPl (zrl S b) ∧ zPl (zrg S b) := by
  unfold zrl zrg
  refine ⟨?_, ?_⟩
  · rw [← zgX_e]; exact zgX_i (I := fun _ s => zPl s) zPl0 (fun k s p hp _ hs => zlf_pl hp (Or.inl hs)) _ (Nat.le_refl _)
  · rw [← zgX_e]; exact zgX_i (I := fun _ s => zPl s) zPl0 (fun k s p hp _ hs => zlf_pl hp (Or.inl hs)) _ (Nat.le_refl _)
theorem kX10_reach {F : Int → zM → Prop} {R : List Int} (hX : zXs μ 5 S) (hr : zLr S) (hv : zSet S) (hc : zXc μ) (hR : zXr μ R) {b : Int} (ib : zin b) (h : ∀ μ', zsm zPX μ μ' → zXc μ' → zXr μ' (if 0 ≤ b ∧ b ≤ 2 then zrrh S b else R) → F (if 0 ≤ b ∧ b ≤ 2 then zC S (zrg S b) b - zC S (zrl S b) b else -1) μ') : qX10_reach G b μ F := by
  refine eX10_reach fun J C => rX10_reach_e C _ (kX10_isBand ib (fun hb => ⟨by decide, fun _ => ?_, fun z => absurd z (by decide)⟩) (fun hb => ⟨by decide, fun z => absurd rfl z, fun _ => ?_⟩))
  · rw [if_pos hb, if_pos hb] at h
    have hb3 : 0 ≤ b ∧ b < 3 := ⟨hb.1, by omega⟩
    have hN := zON_le S
    refine kX10_refresh hX hr hv hc fun μ1 g1 c1 k1 o1 => ?_
    have inv1 := fun k hk => zgX_i (I := fun _ s => zPl s) (S := S) (f := zlf (fun p => zC S p b)) zPl0 (fun k s p hp _ hs => zlf_pl hp (Or.inl hs)) k hk
    have inv2 := fun k hk => zgX_i (I := fun _ s => zPl s) (S := S) (f := zlf (fun p => - zC S p b)) zPl0 (fun k s p hp _ hs => zlf_pl hp (Or.inl hs)) k hk
    refine znfor (N := zON S) (P := fun n => J 20 ([some (zR (some 0)), some (zI b), some (zI (zgX (zlf (fun p => zC S p b)) 0 S n)), some (zI (zgX (zlf (fun p => - zC S p b)) 0 S n)), some (zI (n : Int)), none], [], μ1, 0, 0)) ?_ ?_
    · rw [show zgX (zlf (fun p => zC S p b)) 0 S (zON S) = zrl S b from zgX_e, show zgX (zlf (fun p => - zC S p b)) 0 S (zON S) = zrg S b from zgX_e]
      obtain ⟨p1, p2⟩ := zrl_pl S b
      have r1 := zC_r hr (p := zrl S b) hb3; have r2 := zC_r hr (p := zrg S b) hb3
      have d1 := zcd_r (p := zrl S b); have d2 := zcd_r (p := zrg S b)
      refine rX10_reach_20 C _ _ _ _ ?_
      rw [o1.1]
      refine ⟨by constructor <;> omega, by constructor <;> omega, fun _ => kX6_clear fun μ2 g2 t2 => kX0_number zCh_105 (k1.sm g2 (by omega)) p1 hb3 ⟨by constructor <;> omega, kX6_append t2 (by simp) fun μ3 g3 t3 => kX10_codeOf p1 ⟨by constructor <;> omega, kX6_append t3 (by simp) fun μ4 g4 t4 => kX0_number zCh_105 (((k1.sm g2 (by omega)).sm g3 (by omega)).sm g4 (by omega)) p2 hb3 ⟨by constructor <;> omega, kX6_append t4 (by simp) fun μ5 g5 t5 => kX10_codeOf p2 ⟨by constructor <;> omega, kX6_append t5 (by simp) fun μ6 g6 t6 => ?_⟩⟩⟩⟩, fun c => absurd (Int.le_refl _) c⟩
      have gr := (((g2.trans g3).trans g4).trans g5).trans g6
      refine kX0_number zCh_105 (k1.sm gr (by omega)) p2 hb3 (kX0_number zCh_105 (k1.sm gr (by omega)) p1 hb3 ?_)
      exact h _ ((zX105 g1).trans (zXrow gr)) (c1.sm gr (by omega)) t6
    · intro n hn hj
      have i1 := inv1 n (by omega); have i2 := inv2 n (by omega)
      obtain ⟨hp, -⟩ := zO_mem hn
      have rp := zC_r hr (p := zO S n) hb3
      rw [zgX_s hn, zgX_s hn] at hj
      generalize zgX (zlf (fun p => zC S p b)) 0 S n = x at *
      generalize zgX (zlf (fun p => - zC S p b)) 0 S n = y at *
      have r1 := zC_r hr (p := x) hb3; have r2 := zC_r hr (p := y) hb3
      have hx : ¬ x = -1 := by have := i1.1; omega
      have hy : ¬ y = -1 := by have := i2.1; omega
      refine rX10_reach_20 C _ _ _ _ ?_
      rw [o1.1, o1.2 n hn]
      refine ⟨by constructor <;> omega, by constructor <;> omega, fun c => absurd c (by omega), fun _ => ⟨by omega, kX0_number zCh_105 k1 hp hb3 (kX0_number zCh_105 k1 i1 hb3 ⟨by constructor <;> omega, by constructor <;> omega, fun c => kX0_number zCh_105 k1 hp hb3 (kX0_number zCh_105 k1 i2 hb3 ⟨by constructor <;> omega, by constructor <;> omega, fun c2 => ?_, fun c2 => ?_⟩), fun c => kX0_number zCh_105 k1 hp hb3 (kX0_number zCh_105 k1 i2 hb3 ⟨by constructor <;> omega, by constructor <;> omega, fun c2 => ?_, fun c2 => ?_⟩)⟩)⟩⟩
      · rw [zlf, zlf, if_neg (by omega), if_neg (by omega)] at hj; exact hj
      · rw [zlf, zlf, if_neg (by omega), if_pos (by omega)] at hj; exact hj
      · rw [zlf, zlf, if_pos (by omega), if_neg (by omega)] at hj; exact hj
      · rw [zlf, zlf, if_pos (by omega), if_pos (by omega)] at hj; exact hj
  · rw [if_neg hb, if_neg hb] at h
    exact h _ (zsm.refl _ _) hc hR
theorem kX11_reach {F : Int → zM → Prop} {R : List Int} (hM : zMs μ S) (hr : zLr S) (hv : zSet S) (hcd : zcds μ) (hR : zMr μ R) {b : Int} (ib : zin b) (h : ∀ μ', zsm zPM μ μ' → zMr μ' (if 0 ≤ b ∧ b ≤ 2 then zrrh S b else R) → F (if 0 ≤ b ∧ b ≤ 2 then zC S (zrg S b) b - zC S (zrl S b) b else -1) μ') : qX11_reach G b μ F := by
  refine eX11_reach fun J C => rX11_reach_e C _ (kX11_in ib (by decide) (by decide) (fun hb => ⟨by decide, fun _ => ?_, fun z => absurd z (by decide)⟩) (fun hb => ⟨by decide, fun z => absurd rfl z, fun _ => ?_⟩))
  · rw [if_pos hb, if_pos hb] at h
    have hb3 : 0 ≤ b ∧ b < 3 := ⟨hb.1, by omega⟩
    have eN := zN65_e
    refine kX11_layNow (hM.pm (zMthr μ)) hr hv (hcd.pm (zMthr μ)) fun μ1 g1 m1 d1 l1 => ?_
    have inv1 := fun n hn => zgM_i (I := fun _ s => zPl s ∨ s = -1) (S := S) (f := zlf (fun p => zC S p b)) (a := -1) (Or.inr rfl) (fun k s p hp _ hs => Or.inl (zlf_pl hp hs)) (fun _ _ z => z) n hn
    have inv2 := fun n hn => zgM_i (I := fun _ s => zPl s ∨ s = -1) (S := S) (f := zlf (fun p => - zC S p b)) (a := -1) (Or.inr rfl) (fun k s p hp _ hs => Or.inl (zlf_pl hp hs)) (fun _ _ z => z) n hn
    refine znfor (N := zN65) (P := fun n => J 31 ([some (zR (some 153)), some (zI b), some (zI (zgM (zlf (fun p => zC S p b)) (-1) S n)), some (zI (zgM (zlf (fun p => - zC S p b)) (-1) S n)), some (zI (n : Int)), none], [], μ1, 0, 0)) ?_ ?_
    · rw [show zgM (zlf (fun p => zC S p b)) (-1) S zN65 = zrl S b from zlf_0 _ hv, show zgM (zlf (fun p => - zC S p b)) (-1) S zN65 = zrg S b from zlf_0 _ hv]
      obtain ⟨p1, p2⟩ := zrl_pl S b
      have r1 := zC_r hr (p := zrl S b) hb3; have r2 := zC_r hr (p := zrg S b) hb3
      have d1 := zcd_r (p := zrl S b); have d2 := zcd_r (p := zrg S b)
      obtain ⟨pa, pb⟩ := id p1; obtain ⟨pc, pd⟩ := id p2
      refine rX11_reach_31 C _ _ _ _ ?_
      rw [l1.2.1 _ _ p1 hb3.1 hb3.2, l1.2.1 _ _ p2 hb3.1 hb3.2]
      refine ⟨by constructor <;> omega, fun _ => ⟨by omega, by omega, by constructor <;> omega, kX11_tell (zMr.nil _) (by simp) fun μ2 g2 t2 => kX11_codeOf p1 ⟨by constructor <;> omega, kX11_tell t2 (by simp) fun μ3 g3 t3 => ⟨by constructor <;> omega, kX11_tell t3 (by simp) fun μ4 g4 t4 => kX11_codeOf p2 ⟨by constructor <;> omega, kX11_tell t4 (by simp) fun μ5 g5 t5 => ?_⟩⟩⟩⟩, fun c => absurd (by omega) c⟩
      exact h _ ((zMrow0 ((zMthr μ).trans g1)).trans (zMrow (((g2.trans g3).trans g4).trans g5))) t5
    · intro n hn hj
      have hp : zPl n := ⟨by omega, by omega⟩
      have i1 := inv1 n (by omega); have i2 := inv2 n (by omega)
      refine rX11_reach_31 C _ _ _ _ ⟨by constructor <;> omega, fun c => absurd c (by omega), fun _ => kX11_codeOf hp (kX11_open m1 hv (fun ho => ⟨by decide, fun _ => ?_, fun z => absurd z (by decide)⟩) (fun ho => ⟨by decide, fun z => absurd rfl z, fun _ => ?_⟩))⟩
      · rw [zgM_1 ho, zgM_1 ho] at hj
        generalize zgM (zlf (fun p => zC S p b)) (-1) S n = x at *
        generalize zgM (zlf (fun p => - zC S p b)) (-1) S n = y at *
        have rp := zC_r hr (p := n) hb3
        have r2 := zC_r hr (p := y) hb3
        have r1 := zC_r hr (p := x) hb3
        have fin : ∀ x', x' = zlf (fun p => zC S p b) x n → J 86 ([some (zR (some 153)), some (zI b), some (zI x'), some (zI y), some (zI (n : Int)), none], [], μ1, 0, 0) := by
          intro x' ex
          rw [← ex] at hj
          refine rX11_reach_86 C _ _ _ _ ⟨by rcases i2 with ⟨q1, q2⟩ | q <;> constructor <;> omega, fun c => ?_, fun c => ?_⟩
          · rw [zlf, if_pos (Or.inl c)] at hj; exact hj
          · have hy : zPl y := by rcases i2 with q | q; exact q; exact absurd q c
            obtain ⟨ya, yb⟩ := id hy
            rw [l1.2.1 _ _ hp hb3.1 hb3.2, l1.2.1 _ _ hy hb3.1 hb3.2]
            refine ⟨by omega, by omega, by constructor <;> omega, by constructor <;> omega, fun c2 => ?_, fun c2 => ?_⟩
            · rw [zlf, if_neg (by omega)] at hj; exact hj
            · rw [zlf, if_pos (by omega)] at hj; exact hj
        refine ⟨by rcases i1 with ⟨q1, q2⟩ | q <;> constructor <;> omega, fun c => ?_, fun c => ?_⟩
        · exact fin _ (by rw [zlf, if_pos (Or.inl c)])
        · have hx : zPl x := by rcases i1 with q | q; exact q; exact absurd q c
          obtain ⟨xa, xb⟩ := id hx
          rw [l1.2.1 _ _ hp hb3.1 hb3.2, l1.2.1 _ _ hx hb3.1 hb3.2]
          exact ⟨by omega, by omega, by constructor <;> omega, by constructor <;> omega, fun c2 => fin _ (by rw [zlf, if_neg (by omega)]), fun c2 => fin _ (by rw [zlf, if_pos (by omega)])⟩
      · rw [zgM_n ho, zgM_n ho] at hj; exact hj
  · rw [if_neg hb, if_neg hb] at h
    exact h _ (zMthr μ) hR.thr
/-- how many open ones are so near -/
noncomputable def zof (S : Int → Int) (r q b d : Int) (s : Nat) (p : Int) : Nat := if zdi S p r q b ≤ d then s + 1 else s
noncomputable def zod (S : Int → Int) (r q b d : Int) : Nat := zgE (zof S r q b d) 0 S
noncomputable def zrod (S : Int → Int) (r q b d : Int) : List Int := [] ++ [(zod S r q b d : Int) / (Nat.gcd (zod S r q b d) (zON S) : Nat)] ++ [(zON S : Int) / (Nat.gcd (zod S r q b d) (zON S) : Nat)]
theorem zod_r (S : Int → Int) (r q b d : Int) : zod S r q b d ≤ zON S := by
  unfold zod
  rw [← zgX_e]
  exact zgX_i (I := fun k s => s ≤ k) (Nat.le_refl _) (fun k s p _ _ hs => by unfold zof; split <;> omega) _ (Nat.le_refl _)
theorem zgcd_r {a b : Nat} (hb : 0 < b) : 0 < Nat.gcd a b ∧ Nat.gcd a b ≤ b := ⟨Nat.gcd_pos_of_pos_right _ hb, Nat.gcd_le_right _ hb⟩
theorem zdiv_r {x y : Int} (hx : 0 ≤ x ∧ x < 10000) (hy : 0 < y) : 0 ≤ x / y ∧ x / y < 10000 := ⟨Int.ediv_nonneg hx.1 (by omega), Int.lt_of_le_of_lt (Int.ediv_le_self _ hx.1) hx.2⟩
theorem kX10_odds {F : Int → zM → Prop} {R : List Int} (hX : zXs μ 5 S) (hr : zLr S) (hv : zSet S) (hc : zXc μ) (hR : zXr μ R) {r q b d : Int} (ir : zin r) (iq : zin q) (ib : zin b) (id' : zin d) (h : ∀ μ', zsm zPX μ μ' → zXc μ' → zXr μ' (if zcol3 r q b then zrod S r q b d else R) → F (if zcol3 r q b then 0 else -1) μ') : qX10_odds G r q b d μ F := by
  refine eX10_odds fun J C => rX10_odds_e C _ _ _ _ (kX10_isColour ir iq ib (fun hw => ⟨by decide, fun _ => ?_, fun z => absurd z (by decide)⟩) (fun hw => ⟨by decide, fun z => absurd rfl z, fun _ => ?_⟩))
  · rw [if_pos hw, if_pos hw] at h
    obtain ⟨h1, h2, h3⟩ := hw
    have hN := zON_le S
    have hP := zON_pos hv
    refine kX10_refresh hX hr hv hc fun μ1 g1 c1 k1 o1 => ?_
    refine znfor (N := zON S) (P := fun n => J 21 ([some (zR (some 0)), some (zI r), some (zI q), some (zI b), some (zI d), some (zI (zgX (zof S r q b d) 0 S n : Nat)), some (zI (n : Int))], [], μ1, 0, 0)) ?_ ?_
    · rw [show zgX (zof S r q b d) 0 S (zON S) = zod S r q b d from zgX_e]
      have hz := zod_r S r q b d
      have hg := zgcd_r (a := zod S r q b d) hP
      have d1 := zdiv_r (x := (zod S r q b d : Int)) (y := (Nat.gcd (zod S r q b d) (zON S) : Nat)) ⟨by omega, by omega⟩ (by omega)
      have d2 := zdiv_r (x := (zON S : Int)) (y := (Nat.gcd (zod S r q b d) (zON S) : Nat)) ⟨by omega, by omega⟩ (by omega)
      refine rX10_odds_21 C _ _ _ _ _ _ ?_
      rw [o1.1]
      refine ⟨by constructor <;> omega, by constructor <;> omega, fun _ => kX6_clear fun μ2 g2 t2 => ?_, fun c => absurd (Int.le_refl _) c⟩
      rw [show zi μ2 125 1 = zON S by rw [g2.1 _ _ (by omega)]; exact o1.1]
      refine eX10_tellFraction fun J2 C2 => rX10_tellFraction_e C2 _ _ (kX10_greatestDivisor (by omega) (by omega) hz hP ⟨by constructor <;> omega, fun _ => ⟨by omega, by omega, by constructor <;> omega, kX6_append t2 (by simp) fun μ3 g3 t3 => ⟨by omega, by omega, by constructor <;> omega, kX6_append t3 (by simp) fun μ4 g4 t4 => ?_⟩⟩, fun c => absurd c (by omega)⟩)
      have gr := (g2.trans g3).trans g4
      exact h _ ((zX105 g1).trans (zXrow gr)) (c1.sm gr (by omega)) t4
    · intro n hn hj
      have hd := zdi_r hv hr (p := zO S n) h1 h2 h3
      rw [zgX_s hn] at hj
      refine rX10_odds_21 C _ _ _ _ _ _ ?_
      rw [o1.1, o1.2 n hn]
      refine ⟨by constructor <;> omega, by constructor <;> omega, fun c => absurd c (by omega), fun _ => ⟨by omega, kX0_distanceTo zCh_105 zSt_5 k1 (hX.px (zX105 g1) (by decide)).set (zO_mem hn).1 ⟨by constructor <;> omega, id', fun c => ?_, fun c => ?_⟩⟩⟩
      · rw [zof, if_neg (by omega)] at hj; exact hj
      · rw [zof, if_pos (by omega)] at hj; exact hj
  · rw [if_neg hw, if_neg hw] at h
    exact h _ (zsm.refl _ _) hc hR
theorem kX11_odds {F : Int → zM → Prop} {R : List Int} (hM : zMs μ S) (hr : zLr S) (hv : zSet S) (hcd : zcds μ) (hR : zMr μ R) {r q b d : Int} (ir : zin r) (iq : zin q) (ib : zin b) (id' : zin d) (h : ∀ μ', zsm zPM μ μ' → zMr μ' (if zcol3 r q b then zrod S r q b d else R) → F (if zcol3 r q b then 0 else -1) μ') : qX11_odds G r q b d μ F := by
  refine eX11_odds fun J C => rX11_odds_e C _ _ _ _ (kX11_isWanted ir iq ib (fun hw => ⟨by decide, fun _ => ?_, fun z => absurd z (by decide)⟩) (fun hw => ⟨by decide, fun z => absurd rfl z, fun _ => ?_⟩))
  · rw [if_pos hw, if_pos hw] at h
    obtain ⟨h1, h2, h3⟩ := hw
    have hN := zON_le S
    have hP := zON_pos hv
    have eN := zN65_e
    refine kX11_layNow (hM.pm (zMthr μ)) hr hv (hcd.pm (zMthr μ)) fun μ1 g1 m1 d1 l1 => ?_
    refine znfor (N := zN65) (P := fun n => J 33 ([some (zR (some 153)), some (zI r), some (zI q), some (zI b), some (zI d), some (zL ((zol S n).length : Nat)), none, some (zL (zgM (zof S r q b d) 0 S n : Nat)), none, some (zI (n : Int)), none], [], μ1, 0, 0)) ?_ ?_
    · rw [show zgM (zof S r q b d) 0 S zN65 = zod S r q b d from zgM_e, show (zol S zN65).length = zON S from rfl]
      have hz := zod_r S r q b d
      have hg := zgcd_r (a := zod S r q b d) hP
      refine rX11_odds_33 C _ _ _ _ _ _ _ ⟨by constructor <;> omega, fun _ => kX11_common (by omega) (by omega) hz hP ⟨by omega, by omega, kX11_tell (zMr.nil _) (by simp) fun μ2 g2 t2 => ⟨by omega, by omega, kX11_tell t2 (by simp) fun μ3 g3 t3 => ?_⟩⟩, fun c => absurd (by omega) c⟩
      exact h _ ((zMrow0 ((zMthr μ).trans g1)).trans (zMrow (g2.trans g3))) t3
    · intro n hn hj
      have hp : zPl n := ⟨by omega, by omega⟩
      have hd := zdi_r hv hr (p := n) h1 h2 h3
      refine rX11_odds_33 C _ _ _ _ _ _ _ ⟨by constructor <;> omega, fun c => absurd c (by omega), fun _ => kX11_codeOf hp (kX11_open m1 hv (fun ho => ⟨by decide, fun _ => kX11_apartOf m1.set l1.2.1 hp ⟨by constructor <;> omega, id', fun c => ?_, fun c => ?_⟩, fun z => absurd z (by decide)⟩) (fun ho => ⟨by decide, fun z => absurd rfl z, fun _ => ?_⟩))⟩
      · rw [zgM_1 ho, zol, if_pos ho, List.length_append, zof, if_neg (by omega)] at hj; exact hj
      · rw [zgM_1 ho, zol, if_pos ho, List.length_append, zof, if_pos (by omega)] at hj; exact hj
      · rw [zgM_n ho, zol, if_neg ho, List.append_nil] at hj; exact hj
  · rw [if_neg hw, if_neg hw] at h
    exact h _ (zMthr μ) hR.thr
end
