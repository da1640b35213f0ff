/-! press, cell, slips -/
noncomputable def zpnw (P : Nat → Int) (n : Nat) : Nat → Int
  | 0 => 1
  | k + 1 => if P k = P n then 0 else zpnw P n k
noncomputable def zpdn (P : Nat → Int) : Nat → Int
  | 0 => 0
  | n + 1 => zpdn P n + zpnw P n n
noncomputable def zpsa (P : Nat → Int) (i : Int) : Nat → Int
  | 0 => 0
  | n + 1 => zpsa P i n + zam (P n) i
noncomputable def zpfr (S : Int → Int) (P : Nat → Int) : Nat → Int
  | 0 => 0
  | n + 1 => zpfr S P n + zdi S (P n) (zpa S n 0) (zpa S n 1) (zpa S n 2)
theorem zpnw_r (P : Nat → Int) (n : Nat) : ∀ k, zpnw P n k = 0 ∨ zpnw P n k = 1
  | 0 => Or.inr rfl
  | k + 1 => by
    unfold zpnw
    split
    · exact Or.inl rfl
    · exact zpnw_r P n k
theorem zpnw_0 {P : Nat → Int} {n k : Nat} (h : zpnw P n k = 0) : ∀ m : Nat, zpnw P n (k + m) = 0
  | 0 => h
  | m + 1 => by
    rw [← Nat.add_assoc, zpnw]
    split
    · rfl
    · exact zpnw_0 h m
theorem zpsa_r (P : Nat → Int) (i : Int) : ∀ n : Nat, 0 ≤ zpsa P i n ∧ zpsa P i n ≤ 8 * n
  | 0 => ⟨Int.le_refl _, Int.le_refl _⟩
  | n + 1 => by
    have := zpsa_r P i n
    have := zam_r (P n) i
    unfold zpsa; omega
theorem zpdn_r (P : Nat → Int) : ∀ n : Nat, 0 ≤ zpdn P n ∧ zpdn P n ≤ n
  | 0 => ⟨Int.le_refl _, Int.le_refl _⟩
  | n + 1 => by
    have := zpdn_r P n
    have := zpnw_r P n n
    unfold zpdn; omega
noncomputable def zpN (S : Int → Int) : Nat := (S 702 * S 703).toNat
theorem zpN_e {S : Int → Int} (h : zPic S) : (zpN S : Int) = S 702 * S 703 ∧ zpN S ≤ 64 := by
  have := zPic_n h
  unfold zpN; omega
noncomputable def zpsl (S : Int → Int) (how : Int) : Nat → List Int
  | 0 => []
  | n + 1 => zpsl S how n ++ [zpsa (zpr S how) n (zpN S)]
theorem zpsl_len (S : Int → Int) (how : Int) : ∀ n, (zpsl S how n).length = n
  | 0 => rfl
  | n + 1 => by unfold zpsl; rw [List.length_append, zpsl_len S how n]; rfl
abbrev zhw (how : Int) : Prop := 0 ≤ how ∧ how ≤ 1
noncomputable def zpra (S : Int → Int) (how : Int) : Int := if zhw how then (if S 702 * S 703 = 0 then -2 else zpdn (zpr S how) (zpN S)) else -1
noncomputable def zprr (S : Int → Int) (how : Int) (R : List Int) : List Int := if zhw how then (if S 702 * S 703 = 0 then R else zpsl S how 4 ++ [zpfr S (zpr S how) (zpN S)]) else R
noncomputable def zcea (S : Int → Int) (how i : Int) : Int := if zhw how then (if S 702 * S 703 = 0 then -2 else if 0 ≤ i ∧ i ≤ S 702 * S 703 - 1 then zcd (zpr S how i.toNat) else -1) else -1
/-- a place with another amount of an ink -/
def zsl (p i a : Int) : Int := p + (a - zam p i) * zta 1 i
theorem zsl_e {p i a : Int} (hp : zPl p) (hi : 0 ≤ i ∧ i < 4) (ha : 0 ≤ a ∧ a ≤ 8) : zPl (zsl p i a) ∧ zcd (zsl p i a) = zcd p + (a - zam p i) * zta 8 i := by
  have ep := zpl_e hp
  have h0 := zam_r p 0; have h1 := zam_r p 1; have h2 := zam_r p 2; have h3 := zam_r p 3
  have key : ∀ x y z w : Int, (0 ≤ x ∧ x ≤ 8) → (0 ≤ y ∧ y ≤ 8) → (0 ≤ z ∧ z ≤ 8) → (0 ≤ w ∧ w ≤ 8) → zsl p i a = 729 * x + 81 * y + 9 * z + w → zPl (zsl p i a) ∧ zcd (zsl p i a) = 1000 * x + 100 * y + 10 * z + w := by
    intro x y z w hx hy hz hw e
    obtain ⟨z0, z1, z2, z3⟩ := zam_of hx hy hz hw
    rw [e]
    refine ⟨by unfold zPl; omega, ?_⟩
    unfold zcd; rw [z0, z1, z2, z3]
  have hi4 : i = 0 ∨ i = 1 ∨ i = 2 ∨ i = 3 := by omega
  rcases hi4 with rfl | rfl | rfl | rfl
  · obtain ⟨k1, k2⟩ := key a (zam p 1) (zam p 2) (zam p 3) ha h1 h2 h3 (by unfold zsl; rw [zt10]; omega)
    exact ⟨k1, by rw [k2, zt80]; unfold zcd; omega⟩
  · obtain ⟨k1, k2⟩ := key (zam p 0) a (zam p 2) (zam p 3) h0 ha h2 h3 (by unfold zsl; rw [zt11]; omega)
    exact ⟨k1, by rw [k2, zt81]; unfold zcd; omega⟩
  · obtain ⟨k1, k2⟩ := key (zam p 0) (zam p 1) a (zam p 3) h0 h1 ha h3 (by unfold zsl; rw [zt12]; omega)
    exact ⟨k1, by rw [k2, zt82]; unfold zcd; omega⟩
  · obtain ⟨k1, k2⟩ := key (zam p 0) (zam p 1) (zam p 2) a h0 h1 h2 ha (by unfold zsl; rw [zt13]; omega)
    exact ⟨k1, by rw [k2, zt83]; unfold zcd; omega⟩
/-- the amount that comes to a cell as the plate slips -/
noncomputable def zsam (S : Int → Int) (ink x y : Int) (i : Nat) : Int := if (0 ≤ (i : Int) % S 702 - x ∧ (i : Int) % S 702 - x ≤ S 702 - 1) ∧ 0 ≤ (i : Int) / S 702 - y ∧ (i : Int) / S 702 - y ≤ S 703 - 1 then zam (zpr S 0 (((i : Int) / S 702 - y) * S 702 + ((i : Int) % S 702 - x)).toNat) ink else 0
theorem zsam_r (S : Int → Int) (ink x y : Int) (i : Nat) : 0 ≤ zsam S ink x y i ∧ zsam S ink x y i ≤ 8 := by
  unfold zsam
  split
  · exact zam_r _ _
  · omega
noncomputable def zspl (S : Int → Int) (ink x y : Int) (i : Nat) : Int := zsl (zpr S 0 i) ink (zsam S ink x y i)
noncomputable def zsoc (S : Int → Int) (ink x y : Int) : Nat → Int
  | 0 => 0
  | n + 1 => zsoc S ink x y n + (if zspl S ink x y n = zpr S 0 n then 0 else 1)
noncomputable def zsof (S : Int → Int) (ink x y : Int) : Nat → Int
  | 0 => 0
  | n + 1 => zsof S ink x y n + zbw S (zpr S 0 n) (zspl S ink x y n)
theorem zsof_r {S : Int → Int} (hv : zSet S) (hr : zLr S) (ink x y : Int) : ∀ n : Nat, 0 ≤ zsof S ink x y n ∧ zsof S ink x y n ≤ 4320000 * n
  | 0 => ⟨Int.le_refl _, Int.le_refl _⟩
  | n + 1 => by
    have := zsof_r hv hr ink x y n
    have := zbw_r hv hr (zpr S 0 n) (zspl S ink x y n)
    unfold zsof; omega
theorem zbw_0 (S : Int → Int) (p : Int) : zbw S p p = 0 := by
  unfold zbw zdi zdw
  rw [Int.sub_self, Int.sub_self, Int.sub_self]
  simp
abbrev zsc (ink x y : Int) : Prop := (0 ≤ ink ∧ ink ≤ 3) ∧ (-8 ≤ x ∧ x ≤ 8) ∧ -8 ≤ y ∧ y ≤ 8
noncomputable def zsla (S : Int → Int) (ink x y : Int) : Int := if zsc ink x y then (if S 702 * S 703 = 0 then -2 else zsoc S ink x y (zpN S)) else -1
noncomputable def zslr (S : Int → Int) (ink x y : Int) (R : List Int) : List Int := if zsc ink x y then (if S 702 * S 703 = 0 then R else [] ++ [zsof S ink x y (zpN S)]) else R
theorem zslix {W H c l : Int} (hw : 0 < W ∧ W ≤ 8) (hh : 0 ≤ H ∧ H ≤ 8) (hc : 0 ≤ c ∧ c ≤ W - 1) (hl : 0 ≤ l ∧ l ≤ H - 1) : 0 ≤ l * W + c ∧ l * W + c < W * H := by
  have : W = 1 ∨ W = 2 ∨ W = 3 ∨ W = 4 ∨ W = 5 ∨ W = 6 ∨ W = 7 ∨ W = 8 := by omega
  rcases this with rfl | rfl | rfl | rfl | rfl | rfl | rfl | rfl <;> omega
section
variable {G : zG} {μ : zM} {S : Int → Int}
theorem kX5_inkUsed {F : Int → zM → Prop} (hX : zXs μ 5 S) (hv : zSet S) (hr : zLr S) (hp : zPic S) {how : Int} (hP : ∀ i : Nat, i < zpN S → zi μ 131 i = zpr S how i) {k : Int} (hk : 0 ≤ k ∧ k < 4) (h : F (zpsa (zpr S how) k (zpN S)) μ) : qX5_inkUsed G 5 k μ F := by
  obtain ⟨eN, hN⟩ := zpN_e hp
  obtain ⟨u6, u7, -, -⟩ := zXs_pic hX hp
  refine eX5_inkUsed fun J C => rX5_inkUsed_e C zSt_5 _ ?_
  refine znfor (N := zpN S) (P := fun n => J 5 ([some (zR (some 130)), some (zR (some 5)), some (zI k), some (zI (zpsa (zpr S how) k n)), some (zI (n : Int))], [], μ, 0, 0)) ?_ ?_
  · exact rX5_inkUsed_5 C zSt_5 _ _ _ (kX7_cellCount zSt_5 u6 u7 ⟨by constructor <;> omega, by constructor <;> omega, fun _ => h, fun z => absurd (by omega) z⟩)
  · intro n hn hj
    rw [zpsa] at hj
    refine rX5_inkUsed_5 C zSt_5 _ _ _ (kX7_cellCount zSt_5 u6 u7 ⟨by constructor <;> omega, by constructor <;> omega, fun z => absurd z (by omega), fun _ => ⟨by omega, ?_⟩⟩)
    rw [hP n hn]
    exact kX10_am (zpr_pl hv hr hp (by omega)) hk.1 hk.2 hj
theorem kX5_farFromLetters {F : Int → zM → Prop} (hX : zXs μ 5 S) (hc : zchis μ 105 S) (hv : zSet S) (hr : zLr S) (hp : zPic S) {how : Int} (hP : ∀ i : Nat, i < zpN S → zi μ 131 i = zpr S how i) (h : F (zpfr S (zpr S how) (zpN S)) μ) : qX5_farFromLetters G 5 105 μ F := by
  obtain ⟨eN, hN⟩ := zpN_e hp
  obtain ⟨u6, u7, u8, u5⟩ := zXs_pic hX hp
  refine eX5_farFromLetters fun J C => rX5_farFromLetters_e C zSt_5 zCh_105 ?_
  refine znfor (N := zpN S) (P := fun n => J 5 ([some (zR (some 130)), some (zR (some 5)), some (zR (some 105)), some (zL (zpfr S (zpr S how) n)), none, some (zI (n : Int)), none], [], μ, 0, 0)) ?_ ?_
  · exact rX5_farFromLetters_5 C zSt_5 zCh_105 _ _ (kX7_cellCount zSt_5 u6 u7 ⟨by constructor <;> omega, by constructor <;> omega, fun _ => h, fun z => absurd (by omega) z⟩)
  · intro n hn hj
    rw [zpfr] at hj
    have a0 := zpa_r hp (i := n) (b := 0) (by omega) (by omega) (by decide); have a1 := zpa_r hp (i := n) (b := 1) (by omega) (by omega) (by decide); have a2 := zpa_r hp (i := n) (b := 2) (by omega) (by omega) (by decide)
    have hd := zdi_r hv hr (p := zpr S how n) a0.1 a1.1 a2.1
    have v0 := u5 n 0 (by omega) (by omega) (by decide) (by decide)
    rw [Int.add_zero] at v0
    refine rX5_farFromLetters_5 C zSt_5 zCh_105 _ _ (kX7_cellCount zSt_5 u6 u7 ⟨by constructor <;> omega, by constructor <;> omega, fun z => absurd z (by omega), fun _ => ⟨by omega, ?_⟩⟩)
    rw [u8 n (by omega) (by omega), hP n hn, v0, u5 n 1 (by omega) (by omega) (by decide) (by decide), u5 n 2 (by omega) (by omega) (by decide) (by decide)]
    exact ⟨by omega, by omega, by omega, kX0_distanceTo zCh_105 zSt_5 hc hX.set (zpr_pl hv hr hp (by omega)) ⟨by constructor <;> omega, hj⟩⟩
theorem kX5_countDifferent {F : Int → zM → Prop} (hX : zXs μ 5 S) (hv : zSet S) (hr : zLr S) (hp : zPic S) {how : Int} (hP : ∀ i : Nat, i < zpN S → zi μ 131 i = zpr S how i) (h : F (zpdn (zpr S how) (zpN S)) μ) : qX5_countDifferent G 5 μ F := by
  obtain ⟨eN, hN⟩ := zpN_e hp
  obtain ⟨u6, u7, -, -⟩ := zXs_pic hX hp
  refine eX5_countDifferent fun J C => rX5_countDifferent_e C zSt_5 ?_
  refine znfor (N := zpN S) (P := fun n => J 4 ([some (zR (some 130)), some (zR (some 5)), some (zI (zpdn (zpr S how) n)), some (zI (n : Int)), none, none], [], μ, 0, 0)) ?_ ?_
  · exact rX5_countDifferent_4 C zSt_5 _ _ (kX7_cellCount zSt_5 u6 u7 ⟨by constructor <;> omega, by constructor <;> omega, fun _ => h, fun z => absurd (by omega) z⟩)
  · intro n hn hj
    rw [zpdn] at hj
    refine rX5_countDifferent_4 C zSt_5 _ _ (kX7_cellCount zSt_5 u6 u7 ⟨by constructor <;> omega, by constructor <;> omega, fun z => absurd z (by omega), fun _ => ?_⟩)
    have end0 : zpnw (zpr S how) n n = 0 → J 4 ([some (zR (some 130)), some (zR (some 5)), some (zI (zpdn (zpr S how) n)), some (zI ((n : Int) + 1)), none, none], [], μ, 0, 0) := fun e => by
      rw [e, Int.add_zero] at hj; exact hj
    refine znfor (N := n) (P := fun k => J 18 ([some (zR (some 130)), some (zR (some 5)), some (zI (zpdn (zpr S how) n)), some (zI (n : Int)), some (zI (zpnw (zpr S how) n k)), some (zI (k : Int))], [], μ, 0, 0)) ?_ ?_
    · have r := zpnw_r (zpr S how) n n
      refine rX5_countDifferent_18 C zSt_5 _ _ _ _ ⟨by constructor <;> omega, by constructor <;> omega, fun _ => ⟨by constructor <;> omega, end0, fun z => ?_⟩, fun z => absurd (Int.le_refl _) z⟩
      rw [show zpnw (zpr S how) n n = 1 by omega] at hj; exact hj
    · intro k hk hj2
      have r := zpnw_r (zpr S how) n k
      have p1 := zpr_pl hv hr hp (how := how) (i := k) (by omega); have p2 := zpr_pl hv hr hp (how := how) (i := n) (by omega)
      obtain ⟨a1, a2⟩ := p1
      obtain ⟨b1, b2⟩ := p2
      refine rX5_countDifferent_18 C zSt_5 _ _ _ _ ⟨by constructor <;> omega, by constructor <;> omega, fun z => absurd z (by omega), fun _ => ⟨by constructor <;> omega, fun e => ⟨fun _ => end0 ?_, fun z => absurd e z⟩, fun e => ⟨by omega, by omega, ?_⟩⟩⟩
      · have := zpnw_0 e (n - k)
        rw [show k + (n - k) = n by omega] at this
        exact this
      · rw [hP k (by omega), hP n hn]
        refine ⟨by constructor <;> omega, by constructor <;> omega, fun c => ?_, fun c => ?_⟩
        · rw [zpnw, if_pos c] at hj2; exact hj2
        · rw [zpnw, if_neg c, show zpnw (zpr S how) n k = 1 by omega] at hj2; exact hj2
theorem kX10_press {F : Int → zM → Prop} {R : List Int} (hX : zXs μ 5 S) (hr : zLr S) (hv : zSet S) (hp : zPic S) (hc : zXc μ) (hR : zXr μ R) {how : Int} (ih : zin how) (h : ∀ μ', zsm zPX μ μ' → zXc μ' → zXr μ' (zprr S how R) → F (zpra S how) μ') : qX10_press G how μ F := by
  unfold zprr zpra at h
  obtain ⟨eN, hN⟩ := zpN_e hp
  have hn := zPic_n hp
  obtain ⟨u6, u7, -, -⟩ := zXs_pic hX hp
  refine eX10_press fun J C => rX10_press_e C _ (kX10_isHow ih (fun hh => ⟨by decide, fun _ => kX7_cellCount zSt_5 u6 u7 ⟨by constructor <;> omega, fun z => ?_, fun z => ?_⟩, fun z => absurd z (by decide)⟩) (fun hh => ⟨by decide, fun z => absurd rfl z, fun _ => ?_⟩))
  · rw [if_pos hh, if_pos hh, if_neg z, if_neg z] at h
    refine kX10_refresh hX hr hv hc fun μ1 g1 c1 k1 o1 => ⟨by omega, ?_⟩
    have hX1 : zXs μ1 5 S := hX.px (zX105 g1) (by decide)
    obtain ⟨v6, v7, -, -⟩ := zXs_pic hX1 hp
    have go : qX5_print G 5 105 how (zpN S : Nat) μ1 (fun μ11 => qX6_clear G μ11 (fun μ12 => J 71 ([some (zR (some 0)), none, some (zI 0)], [], μ12, 0, 0))) := by
      refine kX5_print hX1 k1 o1 hr hv hp (by omega) (by omega) fun μ2 g2 f2 => kX6_clear fun μ3 g3 r3 => ?_
      have ga : zsm zPX μ μ3 := ((zX105 g1).trans (g2.mono (fun b j => by unfold zPX; omega))).trans (zXrow g3)
      refine znfor (N := 4) (P := fun k => ∀ μ', zsm (fun b j => b = 4 ∨ (b = 3 ∧ j = 1)) μ3 μ' → zXr μ' (zpsl S how k) → J 71 ([some (zR (some 0)), none, some (zI (k : Int))], [], μ', 0, 0)) ?_ ?_ μ3 (zsm.refl _ _) r3
      · intro μ4 g4 r4
        have gb := ga.trans (zXrow g4)
        have hX4 := hX.px gb (by decide)
        have hc4 := ((k1.sm g2 (by omega)).sm g3 (by omega)).sm g4 (by omega)
        have f4 : ∀ i : Nat, i < zpN S → zi μ4 131 i = zpr S how i := fun i hi => by rw [g4.1 _ _ (by omega), g3.1 _ _ (by omega)]; exact f2 i hi
        refine rX10_press_71 C _ ⟨by decide, fun _ => kX5_farFromLetters hX4 hc4 hv hr hp f4 (kX6_append r4 (by rw [zpsl_len]; decide) fun μ5 g5 r5 => ?_), fun z => absurd (by decide) z⟩
        refine kX5_countDifferent (how := how) (hX4.sm g5 (by omega)) hv hr hp (fun i hi => by rw [g5.1 _ _ (by omega)]; exact f4 i hi) ?_
        exact h μ5 (gb.trans (zXrow g5)) ((((c1.sm g2 (by omega)).sm g3 (by omega)).sm g4 (by omega)).sm g5 (by omega)) r5
      · intro k hk hj μ4 g4 r4
        have hX4 := hX.px (ga.trans (zXrow g4)) (by decide)
        have f4 : ∀ i : Nat, i < zpN S → zi μ4 131 i = zpr S how i := fun i hi => by rw [g4.1 _ _ (by omega), g3.1 _ _ (by omega)]; exact f2 i hi
        have r := zpsa_r (zpr S how) k (zpN S)
        exact rX10_press_71 C _ ⟨by constructor <;> omega, fun z => absurd z (by omega), fun _ => kX5_inkUsed hX4 hv hr hp f4 ⟨by omega, by omega⟩ ⟨by constructor <;> omega, kX6_append r4 (by rw [zpsl_len]; omega) fun μ5 g5 r5 => hj μ5 (g4.trans g5) r5⟩⟩
    refine ⟨fun w => kX7_cellCount zSt_5 v6 v7 ?_, fun w => kX7_cellCount zSt_5 v6 v7 ?_⟩
    · rw [show how = 0 by omega, eN] at go; exact go
    · rw [w, eN] at go; exact go
  · rw [if_pos hh, if_pos hh, if_pos z, if_pos z] at h
    exact h _ (zsm.refl _ _) hc hR
  · rw [if_neg hh, if_neg hh] at h
    exact h _ (zsm.refl _ _) hc hR
theorem kX10_cell {F : Int → zM → Prop} {R : List Int} (hX : zXs μ 5 S) (hr : zLr S) (hv : zSet S) (hp : zPic S) (hc : zXc μ) (hR : zXr μ R) {how i : Int} (ih : zin how) (ii : zin i) (h : ∀ μ', zsm zPX μ μ' → zXc μ' → zXr μ' R → F (zcea S how i) μ') : qX10_cell G how i μ F := by
  unfold zcea at h
  have hn := zPic_n hp
  obtain ⟨u6, u7, -, -⟩ := zXs_pic hX hp
  refine eX10_cell fun J C => rX10_cell_e C _ _ (kX10_isHow ih (fun hh => ⟨by decide, fun _ => kX7_cellCount zSt_5 u6 u7 ⟨by constructor <;> omega, fun z => kX7_cellCount zSt_5 u6 u7 (kX10_isIn ii (by decide) (by constructor <;> omega) (fun hi => ⟨by decide, fun _ => ?_, fun w => absurd w (by decide)⟩) (fun hi => ⟨by decide, fun w => absurd rfl w, fun _ => ?_⟩)), fun z => ?_⟩, fun z => absurd z (by decide)⟩) (fun hh => ⟨by decide, fun z => absurd rfl z, fun _ => ?_⟩))
  · rw [if_pos hh, if_neg z, if_pos hi] at h
    refine kX10_refresh hX hr hv hc fun μ1 g1 c1 k1 o1 => ⟨by omega, ?_⟩
    have hX1 : zXs μ1 5 S := hX.px (zX105 g1) (by decide)
    have go : qX5_print G 5 105 how ((i.toNat + 1 : Nat) : Int) μ1 (fun μ14 => (0 ≤ i ∧ i < 64) ∧ qX10_codeOf G true (zi μ14 131 i) μ14 (fun v16 μ16 => F v16 μ16)) := by
      refine kX5_print hX1 k1 o1 hr hv hp (by omega) (by omega) fun μ2 g2 f2 => ⟨by omega, ?_⟩
      have e := f2 i.toNat (by omega)
      rw [show ((i.toNat : Nat) : Int) = i by omega] at e
      rw [e]
      exact kX10_codeOf (zpr_pl hv hr hp (by omega)) (h μ2 ((zX105 g1).trans (g2.mono (fun b j => by unfold zPX; omega))) (c1.sm g2 (by omega)) ((hR.sm g1 (by omega) (by omega)).sm g2 (by omega) (by omega)))
    rw [show ((i.toNat + 1 : Nat) : Int) = i + 1 by omega] at go
    refine ⟨fun w => ?_, fun w => ?_⟩
    · rw [show how = 0 by omega] at go; exact go
    · rw [w] at go; exact go
  · rw [if_pos hh, if_neg z, if_neg hi] at h
    exact h _ (zsm.refl _ _) hc hR
  · rw [if_pos hh, if_pos z] at h
    exact h _ (zsm.refl _ _) hc hR
  · rw [if_neg hh] at h
    exact h _ (zsm.refl _ _) hc hR
theorem kX5_slipped {F : Int → zM → Prop} (hX : zXs μ 5 S) (hv : zSet S) (hr : zLr S) (hp : zPic S) (hP : ∀ i : Nat, i < zpN S → zi μ 131 i = zpr S 0 i) {ink x y : Int} (hs : zsc ink x y) {i : Nat} (hi : i < zpN S) (h : F (zspl S ink x y i) μ) : qX5_slipped G 5 i ink x y μ F := by
  obtain ⟨eN, hN⟩ := zpN_e hp
  obtain ⟨u6, u7, -, -⟩ := zXs_pic hX hp
  obtain ⟨⟨pw, ph⟩, -⟩ := id hp
  obtain ⟨s1, s2, s3⟩ := id hs
  have hW0 : 0 < S 702 := by
    by_cases c : 0 < S 702
    · exact c
    · have : S 702 = 0 := by omega
      rw [this] at eN; omega
  have hrt := zright (W := S 702) (H := S 703) ⟨hW0, pw.2⟩ ph (i := i) ⟨by omega, by omega⟩
  have hpl := zpr_pl hv hr hp (how := 0) (i := i) (by omega)
  unfold zspl zsl zsam at h
  refine eX5_slipped fun J C => rX5_slipped_e C zSt_5 _ _ _ _ ?_
  rw [u6]
  refine ⟨by constructor <;> omega, fun _ => ⟨by omega, by omega, by omega, by omega, kX10_isIn (by constructor <;> omega) (by decide) (by constructor <;> omega) (fun hc => ⟨by decide, fun z => absurd z (by decide), fun _ => ?_⟩) (fun hc => ⟨by decide, fun _ => ⟨by omega, ?_⟩, fun z => absurd rfl z⟩)⟩, fun z => absurd z (by omega)⟩
  · rw [u7]
    refine kX10_isIn (by constructor <;> omega) (by decide) (by constructor <;> omega) (fun hl => ⟨by decide, fun z => absurd z (by decide), fun _ => ?_⟩) (fun hl => ⟨by decide, fun _ => ⟨by omega, ?_⟩, fun z => absurd rfl z⟩)
    · have ix := zslix (W := S 702) (H := S 703) ⟨hW0, pw.2⟩ ph hc hl
      rw [if_pos ⟨hc, hl⟩] at h
      obtain ⟨k, hk⟩ : ∃ k : Nat, (k : Int) = ((i : Int) / S 702 - y) * S 702 + ((i : Int) % S 702 - x) := ⟨(((i : Int) / S 702 - y) * S 702 + ((i : Int) % S 702 - x)).toNat, by omega⟩
      rw [u6]
      rw [← hk] at h ix ⊢
      rw [Int.toNat_natCast] at h
      refine ⟨by omega, ?_⟩
      rw [hP k (by omega)]
      refine kX10_am (zpr_pl hv hr hp (by omega)) s1.1 (by omega) ⟨by omega, ?_⟩
      rw [hP i hi]
      exact kX10_am hpl s1.1 (by omega) ⟨⟨s1.1, by omega⟩, h⟩
    · rw [if_neg (fun z => hl z.2)] at h
      rw [hP i hi]
      exact kX10_am hpl s1.1 (by omega) ⟨⟨s1.1, by omega⟩, h⟩
  · rw [if_neg (fun z => hc z.1)] at h
    rw [hP i hi]
    exact kX10_am hpl s1.1 (by omega) ⟨⟨s1.1, by omega⟩, h⟩
theorem kX10_slips {F : Int → zM → Prop} {R : List Int} (hX : zXs μ 5 S) (hr : zLr S) (hv : zSet S) (hp : zPic S) (hc : zXc μ) (hR : zXr μ R) {ink x y : Int} (ik : zin ink) (ix : zin x) (iy : zin y) (h : ∀ μ', zsm zPX μ μ' → zXc μ' → zXr μ' (zslr S ink x y R) → F (zsla S ink x y) μ') : qX10_slips G ink x y μ F := by
  unfold zslr zsla at h
  obtain ⟨eN, hN⟩ := zpN_e hp
  have hn := zPic_n hp
  obtain ⟨u6, u7, -, -⟩ := zXs_pic hX hp
  have ref : ¬ zsc ink x y → F (-1) μ := fun z => by
    rw [if_neg z, if_neg z] at h
    exact h _ (zsm.refl _ _) hc hR
  refine eX10_slips fun J C => rX10_slips_e C _ _ _ (kX10_isInk ik (fun h1 => ⟨by decide, fun z => absurd z (by decide), fun _ => kX10_isIn ix (by decide) (by decide) (fun h2 => ⟨by decide, fun z => absurd z (by decide), fun _ => kX10_isIn iy (by decide) (by decide) (fun h3 => ⟨by decide, fun _ => kX7_cellCount zSt_5 u6 u7 ⟨by constructor <;> omega, fun z => ?_, fun z => ?_⟩, fun z => absurd z (by decide)⟩) (fun h3 => ⟨by decide, fun z => absurd rfl z, fun _ => ref (fun z => h3 z.2.2)⟩)⟩) (fun h2 => ⟨by decide, fun _ => ref (fun z => h2 z.2.1), fun z => absurd rfl z⟩)⟩) (fun h1 => ⟨by decide, fun _ => ref (fun z => h1 z.1), fun z => absurd rfl z⟩))
  · rw [if_pos (show zsc ink x y from ⟨h1, h2, h3⟩), if_pos (show zsc ink x y from ⟨h1, h2, h3⟩), if_neg z, if_neg z] at h
    refine kX10_refresh hX hr hv hc fun μ1 g1 c1 k1 o1 => ?_
    have hX1 : zXs μ1 5 S := hX.px (zX105 g1) (by decide)
    obtain ⟨v6, v7, -, -⟩ := zXs_pic hX1 hp
    refine kX7_cellCount zSt_5 v6 v7 ?_
    rw [← eN]
    refine kX5_print hX1 k1 o1 hr hv hp (Or.inl rfl) (by omega) fun μ2 g2 f2 => ?_
    have ga : zsm zPX μ μ2 := (zX105 g1).trans (g2.mono (fun b j => by unfold zPX; omega))
    have hX2 := hX.px ga (by decide)
    obtain ⟨w6, w7, -, -⟩ := zXs_pic hX2 hp
    have k2 := k1.sm g2 (by omega)
    refine znfor (N := zpN S) (P := fun n => J 84 ([some (zR (some 0)), some (zI ink), some (zI x), some (zI y), some (zI (zsoc S ink x y n)), some (zI (zsof S ink x y n)), some (zI (n : Int)), none, none], [], μ2, 0, 0)) ?_ ?_
    · have r := zsof_r hv hr ink x y (zpN S)
      refine rX10_slips_84 C _ _ _ _ _ _ (kX7_cellCount zSt_5 w6 w7 ⟨by constructor <;> omega, by constructor <;> omega, fun _ => kX6_clear fun μ3 g3 r3 => ⟨by constructor <;> omega, kX6_append r3 (by simp) fun μ4 g4 r4 => ?_⟩, fun q => absurd (by omega) q⟩)
      have gr := g3.trans g4
      exact h μ4 (ga.trans (zXrow gr)) ((c1.sm g2 (by omega)).sm gr (by omega)) r4
    · intro n hn hj
      have hpl := zpr_pl hv hr hp (how := 0) (i := n) (by omega)
      have hsl := (zsl_e hpl (i := ink) ⟨h1.1, by omega⟩ (zsam_r S ink x y n)).1
      have hsl : zPl (zspl S ink x y n) := hsl
      rw [zsoc, zsof] at hj
      obtain ⟨a1, a2⟩ := id hpl
      obtain ⟨b1, b2⟩ := id hsl
      refine rX10_slips_84 C _ _ _ _ _ _ (kX7_cellCount zSt_5 w6 w7 ⟨by constructor <;> omega, by constructor <;> omega, fun q => absurd q (by omega), fun _ => ⟨by omega, kX5_slipped hX2 hv hr hp f2 ⟨h1, h2, h3⟩ hn ?_⟩⟩)
      rw [f2 n hn]
      refine ⟨by constructor <;> omega, by constructor <;> omega, fun e => ?_, fun e => kX0_distanceOf zCh_105 zSt_5 k2 hX2.set hpl hsl ?_⟩
      · rw [if_pos e, e, zbw_0, Int.add_zero, Int.add_zero] at hj; exact hj
      · rw [if_neg e] at hj; exact hj
  · rw [if_pos (show zsc ink x y from ⟨h1, h2, h3⟩), if_pos (show zsc ink x y from ⟨h1, h2, h3⟩), if_pos z, if_pos z] at h
    exact h _ (zsm.refl _ _) hc hR
theorem kX11_press {F : Int → zM → Prop} {R : List Int} (hM : zMs μ S) (hr : zLr S) (hv : zSet S) (hp : zPic S) (hcd : zcds μ) (hR : zMr μ R) {how : Int} (ih : zin how) (h : ∀ μ', zsm zPM μ μ' → zMr μ' (zprr S how R) → F (zpra S how) μ') : qX11_press G how μ F := by
  unfold zprr zpra at h
  obtain ⟨eN, hN⟩ := zpN_e hp
  have hn := zPic_n hp
  have g0 := zMthr μ
  have hR1 := hR.thr
  have hM1 := hM.pm g0
  have hcd1 := hcd.pm g0
  refine eX11_press fun J C => rX11_press_e C _ ?_
  generalize zup μ 153 5 0 = μ0 at *
  refine kX11_in ih (by decide) (by decide) (fun hh => ⟨by decide, fun _ => kX11_cells hM1 ⟨by constructor <;> omega, fun z => ?_, fun z => ?_⟩, fun z => absurd z (by decide)⟩) (fun hh => ⟨by decide, fun z => absurd rfl z, fun _ => ?_⟩)
  · rw [if_pos hh, if_pos hh, if_neg z, if_neg z] at h
    refine kX11_layNow hM1 hr hv hcd1 fun μ1 g1 m1 d1 l1 => kX11_layPress m1 d1 l1 hr hv hp (how := how) (by omega) fun μ2 g2 f2 => ?_
    have m2 := m1.sm g2 (by omega)
    have gx : zsm zPM μ μ2 := (g0.trans g1).trans (g2.mono (fun b j => by unfold zPM; omega))
    have hC2 : ∀ p b, zPl p → 0 ≤ b → b < 3 → zi μ2 159 (3 * p + b) = zC S p b := fun p b hp q0 q1 => by rw [g2.1 _ _ (by omega)]; exact l1.2.1 p b hp q0 q1
    refine znfor (N := zpN S) (P := fun n => J 46 ([some (zR (some 153)), none, some (zI (zpdn (zpr S how) n)), some (zL (zpfr S (zpr S how) n)), none, some (zI (n : Int)), none, none], [], μ2, 0, 0)) ?_ ?_
    · refine rX11_press_46 C _ _ _ (kX11_cells m2 ⟨by constructor <;> omega, by constructor <;> omega, fun _ => ?_, fun q => absurd (by omega) q⟩)
      refine znfor (N := 4) (P := fun k => ∀ μ', zsm (fun b j => b = 156 ∨ (b = 153 ∧ j = 4)) μ2 μ' → zMr μ' (zpsl S how k) → J 192 ([some (zR (some 153)), none, some (zI (zpdn (zpr S how) (zpN S))), some (zL (zpfr S (zpr S how) (zpN S))), none, some (zI (k : Int)), none, none], [], μ', 0, 0)) ?_ ?_ (zup μ2 153 4 0) ((zsm.refl _ _).up _ (by omega)) (zMr.nil _)
      · intro μ3 g3 r3
        exact rX11_press_192 C _ _ _ ⟨by decide, fun _ => kX11_tell r3 (by rw [zpsl_len]; decide) fun μ4 g4 r4 => h μ4 (gx.trans (zMrow (g3.trans g4))) r4, fun q => absurd (by decide) q⟩
      · intro k hk hj μ3 g3 r3
        have m3 := m2.sm g3 (by omega)
        have rr := zpsa_r (zpr S how) k (zpN S)
        refine rX11_press_192 C _ _ _ ⟨by constructor <;> omega, fun q => absurd q (by omega), fun _ => ?_⟩
        refine znfor (N := zpN S) (P := fun n => J 204 ([some (zR (some 153)), none, some (zI (zpdn (zpr S how) (zpN S))), some (zL (zpfr S (zpr S how) (zpN S))), none, some (zI (k : Int)), some (zI (zpsa (zpr S how) k n)), some (zI (n : Int))], [], μ3, 0, 0)) ?_ ?_
        · exact rX11_press_204 C _ _ _ _ _ (kX11_cells m3 ⟨by constructor <;> omega, by constructor <;> omega, fun _ => ⟨by constructor <;> omega, kX11_tell r3 (by rw [zpsl_len]; omega) fun μ4 g4 r4 => hj μ4 (g3.trans g4) r4⟩, fun q => absurd (by omega) q⟩)
        · intro n hn hj2
          rw [zpsa] at hj2
          refine rX11_press_204 C _ _ _ _ _ (kX11_cells m3 ⟨by constructor <;> omega, by constructor <;> omega, fun q => absurd q (by omega), fun _ => ⟨by omega, ?_⟩⟩)
          rw [show zi μ3 171 n = zcd (zpr S how n) by rw [g3.1 _ _ (by omega)]; exact f2 n (by omega)]
          exact kX11_am (by omega) (by omega) hj2
    · intro n hn hj
      rw [zpdn, zpfr] at hj
      have a0 := zpa_r hp (i := n) (b := 0) (by omega) (by omega) (by decide); have a1 := zpa_r hp (i := n) (b := 1) (by omega) (by omega) (by decide); have a2 := zpa_r hp (i := n) (b := 2) (by omega) (by omega) (by decide)
      have hd := zdi_r hv hr (p := zpr S how n) a0.1 a1.1 a2.1
      have hpl := zpr_pl hv hr hp (how := how) (i := n) (by omega)
      have done : qX11_numberOf G true (zcd (zpr S how n)) μ2 (fun v8 μ8 => (0 ≤ 614 + (3 * S (638 + n)) ∧ 614 + (3 * S (638 + n)) < 711) ∧ (0 ≤ (614 + (3 * S (638 + n))) + 1 ∧ (614 + (3 * S (638 + n))) + 1 < 711) ∧ (0 ≤ (614 + (3 * S (638 + n))) + 2 ∧ (614 + (3 * S (638 + n))) + 2 < 711) ∧ qX11_apartOf G v8 (zi μ8 154 (614 + (3 * S (638 + n)))) (zi μ8 154 ((614 + (3 * S (638 + n))) + 1)) (zi μ8 154 ((614 + (3 * S (638 + n))) + 2)) μ8 (fun v12 μ12 => zin v12 ∧ J 46 ([some (zR (some 153)), none, some (zI (zpdn (zpr S how) n + zpnw (zpr S how) n n)), some (zL (zpfr S (zpr S how) n + v12)), none, some (zI ((n : Int) + 1)), none, none], [], μ12, 0, 0))) := by
        refine kX11_numberOf hpl ⟨by omega, by omega, by omega, ?_⟩
        rw [m2 (614 + 3 * S (638 + n)) (by omega) (by omega), m2 (614 + 3 * S (638 + n) + 1) (by omega) (by omega), m2 (614 + 3 * S (638 + n) + 2) (by omega) (by omega)]
        rw [show S (614 + 3 * S (638 + n)) = zpa S n 0 by unfold zpa; congr 1; omega, show S (614 + 3 * S (638 + n) + 1) = zpa S n 1 by unfold zpa; congr 1; omega, show S (614 + 3 * S (638 + n) + 2) = zpa S n 2 by unfold zpa; congr 1; omega]
        exact kX11_apartOf m2.set hC2 hpl ⟨by constructor <;> omega, hj⟩
      refine rX11_press_46 C _ _ _ (kX11_cells m2 ⟨by constructor <;> omega, by constructor <;> omega, fun q => absurd q (by omega), fun _ => ?_⟩)
      refine znfor (N := n) (P := fun k => J 61 ([some (zR (some 153)), none, some (zI (zpdn (zpr S how) n)), some (zL (zpfr S (zpr S how) n)), none, some (zI (n : Int)), some (zI (zpnw (zpr S how) n k)), some (zI (k : Int))], [], μ2, 0, 0)) ?_ ?_
      · have r := zpnw_r (zpr S how) n n
        refine rX11_press_61 C _ _ _ _ _ ⟨by constructor <;> omega, by constructor <;> omega, fun _ => ⟨by constructor <;> omega, fun e => ⟨by omega, by omega, ?_⟩, fun e => ⟨by omega, by omega, ?_⟩⟩, fun q => absurd (Int.le_refl _) q⟩
        · rw [f2 n (by omega), m2 (638 + n) (by omega) (by omega)]
          rw [e] at done; exact done
        · rw [f2 n (by omega), m2 (638 + n) (by omega) (by omega)]
          rw [show zpnw (zpr S how) n n = 1 by omega] at done; exact done
      · intro k hk hj2
        have r := zpnw_r (zpr S how) n k
        have p1 := zpr_pl hv hr hp (how := how) (i := k) (by omega)
        have c1 := zcd_r (p := zpr S how k); have c2 := zcd_r (p := zpr S how n)
        refine rX11_press_61 C _ _ _ _ _ ⟨by constructor <;> omega, by constructor <;> omega, fun q => absurd q (by omega), fun _ => ⟨by constructor <;> omega, fun e => ?_, fun e => ⟨by omega, by omega, ?_⟩⟩⟩
        · rw [zpnw, e] at hj2
          have : (if zpr S how k = zpr S how n then (0 : Int) else 0) = 0 := by split <;> rfl
          rw [this] at hj2; exact hj2
        · rw [f2 k (by omega), f2 n (by omega)]
          refine ⟨by constructor <;> omega, by constructor <;> omega, fun c => ?_, fun c => ?_⟩
          · rw [zpnw, if_pos (zcd_inj p1 hpl c)] at hj2; exact hj2
          · rw [zpnw, if_neg (fun q => c (by rw [q])), show zpnw (zpr S how) n k = 1 by omega] at hj2; exact hj2
  · rw [if_pos hh, if_pos hh, if_pos z, if_pos z] at h
    exact h _ g0 hR1
  · rw [if_neg hh, if_neg hh] at h
    exact h _ g0 hR1
theorem kX11_cell {F : Int → zM → Prop} {R : List Int} (hM : zMs μ S) (hr : zLr S) (hv : zSet S) (hp : zPic S) (hcd : zcds μ) (hR : zMr μ R) {how i : Int} (ih : zin how) (ii : zin i) (h : ∀ μ', zsm zPM μ μ' → zMr μ' R → F (zcea S how i) μ') : qX11_cell G how i μ F := by
  unfold zcea at h
  have hn := zPic_n hp
  have g0 := zMthr μ
  have hR1 := hR.thr
  have hM1 := hM.pm g0
  have hcd1 := hcd.pm g0
  refine eX11_cell fun J C => rX11_cell_e C _ _ ?_
  generalize zup μ 153 5 0 = μ0 at *
  refine kX11_in ih (by decide) (by decide) (fun hh => ⟨by decide, fun _ => kX11_cells hM1 ⟨by constructor <;> omega, fun z => kX11_cells hM1 (kX11_in ii (by decide) (by constructor <;> omega) (fun hi => ⟨by decide, fun _ => ?_, fun w => absurd w (by decide)⟩) (fun hi => ⟨by decide, fun w => absurd rfl w, fun _ => ?_⟩)), fun z => ?_⟩, fun z => absurd z (by decide)⟩) (fun hh => ⟨by decide, fun z => absurd rfl z, fun _ => ?_⟩)
  · rw [if_pos hh, if_neg z, if_pos hi] at h
    refine kX11_layNowR hM1 hr hv hcd1 hR1 fun μ1 g1 m1 d1 l1 r1 => kX11_layPress m1 d1 l1 hr hv hp (how := how) (by omega) fun μ2 g2 f2 => ⟨by omega, ?_⟩
    have e := f2 i.toNat (by omega)
    rw [show ((i.toNat : Nat) : Int) = i by omega] at e
    rw [e]
    exact h μ2 ((g0.trans g1).trans (g2.mono (fun b j => by unfold zPM; omega))) (r1.sm g2 (by omega) (by omega))
  · rw [if_pos hh, if_neg z, if_neg hi] at h
    exact h _ g0 hR1
  · rw [if_pos hh, if_pos z] at h
    exact h _ g0 hR1
  · rw [if_neg hh] at h
    exact h _ g0 hR1
theorem kX11_slips {F : Int → zM → Prop} {R : List Int} (hM : zMs μ S) (hr : zLr S) (hv : zSet S) (hp : zPic S) (hcd : zcds μ) (hR : zMr μ R) {ink x y : Int} (ik : zin ink) (ix : zin x) (iy : zin y) (h : ∀ μ', zsm zPM μ μ' → zMr μ' (zslr S ink x y R) → F (zsla S ink x y) μ') : qX11_slips G ink x y μ F := by
  unfold zslr zsla at h
  obtain ⟨eN, hN⟩ := zpN_e hp
  have hn := zPic_n hp
  obtain ⟨⟨pw, ph⟩, -⟩ := id hp
  have g0 := zMthr μ
  have hR1 := hR.thr
  have hM1 := hM.pm g0
  have hcd1 := hcd.pm g0
  refine eX11_slips fun J C => rX11_slips_e C _ _ _ ?_
  generalize zup μ 153 5 0 = μ0 at *
  have ref : ¬ zsc ink x y → F (-1) μ0 := fun z => by
    rw [if_neg z, if_neg z] at h
    exact h _ g0 hR1
  refine kX11_isInk ik (fun h1 => ⟨by decide, fun z => absurd z (by decide), fun _ => kX11_in ix (by decide) (by decide) (fun h2 => ⟨by decide, fun z => absurd z (by decide), fun _ => kX11_in iy (by decide) (by decide) (fun h3 => ⟨by decide, fun _ => kX11_cells hM1 ⟨by constructor <;> omega, fun z => ?_, fun z => ?_⟩, fun z => absurd z (by decide)⟩) (fun h3 => ⟨by decide, fun z => absurd rfl z, fun _ => ref (fun z => h3 z.2.2)⟩)⟩) (fun h2 => ⟨by decide, fun _ => ref (fun z => h2 z.2.1), fun z => absurd rfl z⟩)⟩) (fun h1 => ⟨by decide, fun _ => ref (fun z => h1 z.1), fun z => absurd rfl z⟩)
  · rw [if_pos (show zsc ink x y from ⟨h1, h2, h3⟩), if_pos (show zsc ink x y from ⟨h1, h2, h3⟩), if_neg z, if_neg z] at h
    refine kX11_layNow hM1 hr hv hcd1 fun μ1 g1 m1 d1 l1 => kX11_layPress m1 d1 l1 hr hv hp (how := 0) (Or.inl rfl) fun μ2 g2 f2 => ?_
    have m2 := m1.sm g2 (by omega)
    have gx : zsm zPM μ μ2 := (g0.trans g1).trans (g2.mono (fun b j => by unfold zPM; omega))
    have hC2 : ∀ p b, zPl p → 0 ≤ b → b < 3 → zi μ2 159 (3 * p + b) = zC S p b := fun p b hp q0 q1 => by rw [g2.1 _ _ (by omega)]; exact l1.2.1 p b hp q0 q1
    have hW0 : 0 < S 702 := by
      by_cases c : 0 < S 702
      · exact c
      · have : S 702 = 0 := by omega
        rw [this] at z; omega
    have e702 := m2 702 (by decide) (by decide)
    have e703 := m2 703 (by decide) (by decide)
    refine znfor (N := zpN S) (P := fun n => J 68 ([some (zR (some 153)), some (zI ink), some (zI x), some (zI y), some (zI (zsoc S ink x y n)), some (zL (zsof S ink x y n)), none, some (zI (n : Int)), none, none, none, none, none], [], μ2, 0, 0)) ?_ ?_
    · refine rX11_slips_68 C _ _ _ _ _ _ (kX11_cells m2 ⟨by constructor <;> omega, by constructor <;> omega, fun _ => kX11_tell (zMr.nil _) (by simp) fun μ4 g4 r4 => h μ4 ((zMrow0 gx).trans (zMrow g4)) r4, fun q => absurd (by omega) q⟩)
    · intro n hn hj
      have hrt := zright (W := S 702) (H := S 703) ⟨hW0, pw.2⟩ ph (i := n) ⟨by omega, by omega⟩
      have hpl := zpr_pl hv hr hp (how := 0) (i := n) (by omega)
      obtain ⟨hsl, hsc⟩ := zsl_e hpl (i := ink) ⟨h1.1, by omega⟩ (zsam_r S ink x y n)
      have hsl : zPl (zspl S ink x y n) := hsl
      have hsc : zcd (zspl S ink x y n) = zcd (zpr S 0 n) + (zsam S ink x y n - zam (zpr S 0 n) ink) * zta 8 ink := hsc
      have cs := zcd_r (p := zspl S ink x y n); have cp := zcd_r (p := zpr S 0 n)
      have hb := zbw_r hv hr (zspl S ink x y n) (zpr S 0 n)
      have ebc := zbw_c S (zspl S ink x y n) (zpr S 0 n)
      rw [zsoc, zsof] at hj
      have e171 := f2 n (by omega)
      -- from the amount on
      have fin : ∀ a, a = zsam S ink x y n → zin (zcd (zpr S 0 n) + (a - zam (zpr S 0 n) ink) * zta 8 ink) ∧ zin (zcd (zpr S 0 n)) ∧ ((zcd (zpr S 0 n) + (a - zam (zpr S 0 n) ink) * zta 8 ink = zcd (zpr S 0 n) → qX11_numberOf G true (zcd (zpr S 0 n) + (a - zam (zpr S 0 n) ink) * zta 8 ink) μ2 (fun v9 μ9 => qX11_numberOf G true (zi μ9 171 n) μ9 (fun v10 μ10 => qX11_between G v9 v10 μ10 (fun v11 μ11 => zin v11 ∧ J 68 ([some (zR (some 153)), some (zI ink), some (zI x), some (zI y), some (zI (zsoc S ink x y n + 0)), some (zL (zsof S ink x y n + v11)), none, some (zI ((n : Int) + 1)), none, none, none, none, none], [], μ11, 0, 0))))) ∧ (¬ (zcd (zpr S 0 n) + (a - zam (zpr S 0 n) ink) * zta 8 ink = zcd (zpr S 0 n)) → qX11_numberOf G true (zcd (zpr S 0 n) + (a - zam (zpr S 0 n) ink) * zta 8 ink) μ2 (fun v13 μ13 => qX11_numberOf G true (zi μ13 171 n) μ13 (fun v14 μ14 => qX11_between G v13 v14 μ14 (fun v15 μ15 => zin v15 ∧ J 68 ([some (zR (some 153)), some (zI ink), some (zI x), some (zI y), some (zI (zsoc S ink x y n + 1)), some (zL (zsof S ink x y n + v15)), none, some (zI ((n : Int) + 1)), none, none, none, none, none], [], μ15, 0, 0)))))) := by
        intro a ea
        rw [ea, ← hsc]
        refine ⟨by constructor <;> omega, by constructor <;> omega, fun c => kX11_numberOf hsl ?_, fun c => kX11_numberOf hsl ?_⟩
        · rw [e171]
          refine kX11_numberOf hpl (kX11_between m2.set hC2 hsl hpl ⟨by constructor <;> omega, ?_⟩)
          rw [if_pos (zcd_inj hsl hpl c), ← ebc] at hj; exact hj
        · rw [e171]
          refine kX11_numberOf hpl (kX11_between m2.set hC2 hsl hpl ⟨by constructor <;> omega, ?_⟩)
          rw [if_neg (fun q => c (by rw [q])), ← ebc] at hj; exact hj
      have no : ¬ ((0 ≤ (n : Int) % S 702 - x ∧ (n : Int) % S 702 - x ≤ S 702 - 1) ∧ 0 ≤ (n : Int) / S 702 - y ∧ (n : Int) / S 702 - y ≤ S 703 - 1) → J 150 ([some (zR (some 153)), some (zI ink), some (zI x), some (zI y), some (zI (zsoc S ink x y n)), some (zL (zsof S ink x y n)), none, some (zI (n : Int)), some (zI ((n : Int) % S 702 - x)), some (zI ((n : Int) / S 702 - y)), none, none, none], [zI 0], μ2, 0, 0) := fun q => by
        refine rX11_slips_150 C _ _ _ _ _ _ _ _ _ ⟨by decide, fun _ => ⟨by omega, ?_⟩, fun w => absurd rfl w⟩
        rw [e171]
        refine kX11_am h1.1 (by omega) ⟨⟨h1.1, by omega⟩, ?_⟩
        rw [e171]
        exact fin 0 (by unfold zsam; rw [if_neg q])
      refine rX11_slips_68 C _ _ _ _ _ _ (kX11_cells m2 ⟨by constructor <;> omega, by constructor <;> omega, fun q => absurd q (by omega), fun _ => ?_⟩)
      rw [e702]
      refine ⟨by omega, by omega, by omega, by omega, kX11_in (by constructor <;> omega) (by decide) (by constructor <;> omega) (fun hc => ⟨by decide, fun q => absurd q (by decide), fun _ => ?_⟩) (fun hc => ⟨by decide, fun _ => no (fun q => hc q.1), fun q => absurd rfl q⟩)⟩
      rw [e703]
      refine kX11_in (by constructor <;> omega) (by decide) (by constructor <;> omega) (fun hl => ⟨by decide, fun q => absurd q (by decide), fun _ => ?_⟩) (fun hl => ⟨by decide, fun _ => no (fun q => hl q.2), fun q => absurd rfl q⟩)
      have ixx := zslix (W := S 702) (H := S 703) ⟨hW0, pw.2⟩ ph hc hl
      have eix : S 702 * ((n : Int) / S 702 - y) + ((n : Int) % S 702 - x) = ((n : Int) / S 702 - y) * S 702 + ((n : Int) % S 702 - x) := by rw [Int.mul_comm]
      obtain ⟨k, hk⟩ : ∃ k : Nat, (k : Int) = ((n : Int) / S 702 - y) * S 702 + ((n : Int) % S 702 - x) := ⟨(((n : Int) / S 702 - y) * S 702 + ((n : Int) % S 702 - x)).toNat, by omega⟩
      refine rX11_slips_150 C _ _ _ _ _ _ _ _ _ ⟨by decide, fun w => absurd w (by decide), fun _ => ?_⟩
      rw [e702, eix, ← hk]
      refine ⟨by omega, ?_⟩
      rw [f2 k (by omega)]
      refine kX11_am h1.1 (by omega) ⟨by omega, ?_⟩
      rw [e171]
      refine kX11_am h1.1 (by omega) ⟨⟨h1.1, by omega⟩, ?_⟩
      rw [e171]
      exact fin _ (by unfold zsam; rw [if_pos ⟨hc, hl⟩, ← hk, Int.toNat_natCast])
  · rw [if_pos (show zsc ink x y from ⟨h1, h2, h3⟩), if_pos (show zsc ink x y from ⟨h1, h2, h3⟩), if_pos z, if_pos z] at h
    exact h _ g0 hR1
end
