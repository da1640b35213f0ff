/-! ramp and rises -/
noncomputable def zwy (S : Int → Int) (p q b k : Int) : Int := zC S p b + ((zC S q b - zC S p b) * k).tdiv 8
theorem ztd8m {d m : Int} (h1 : 0 ≤ d → 0 ≤ m ∧ m ≤ 8 * d) (h2 : d < 0 → 8 * d ≤ m ∧ m ≤ 0) : (0 ≤ d → 0 ≤ m.tdiv 8 ∧ m.tdiv 8 ≤ d) ∧ (d < 0 → d ≤ m.tdiv 8 ∧ m.tdiv 8 ≤ 0) := by
  have key : ∀ t : Int, (0 ≤ m ∧ t = m / 8 ∨ m < 0 ∧ t = -((-m) / 8)) → (0 ≤ d → 0 ≤ t ∧ t ≤ d) ∧ (d < 0 → d ≤ t ∧ t ≤ 0) := by
    intro t ht
    refine ⟨fun h => ?_, fun h => ?_⟩
    · have := h1 h
      rcases ht with ⟨a, b⟩ | ⟨a, b⟩ <;> omega
    · have := h2 h
      rcases ht with ⟨a, b⟩ | ⟨a, b⟩ <;> omega
  exact key _ (ztdiv8 m)
theorem ztd8b {d k : Int} (hk : 0 ≤ k ∧ k ≤ 8) : (0 ≤ d → 0 ≤ d * k ∧ d * k ≤ 8 * d) ∧ (d < 0 → 8 * d ≤ d * k ∧ d * k ≤ 0) := by
  have hk' : k = 0 ∨ k = 1 ∨ k = 2 ∨ k = 3 ∨ k = 4 ∨ k = 5 ∨ k = 6 ∨ k = 7 ∨ k = 8 := by omega
  rcases hk' with e | e | e | e | e | e | e | e | e <;> rw [e] <;> exact ⟨fun h => by omega, fun h => by omega⟩
theorem ztd8 {d k : Int} (hk : 0 ≤ k ∧ k ≤ 8) : (0 ≤ d → 0 ≤ (d * k).tdiv 8 ∧ (d * k).tdiv 8 ≤ d) ∧ (d < 0 → d ≤ (d * k).tdiv 8 ∧ (d * k).tdiv 8 ≤ 0) := ztd8m (ztd8b hk).1 (ztd8b hk).2
theorem zwy_r {S : Int → Int} (hr : zLr S) {p q b k : Int} (hb : 0 ≤ b ∧ b < 3) (hk : 0 ≤ k ∧ k ≤ 8) : zin ((zC S q b - zC S p b) * k) ∧ zw4 (zwy S p q b k) := by
  have c0 := zC_r hr (p := p) hb
  have c1 := zC_r hr (p := q) hb
  have m := zmul8 (a := zC S q b - zC S p b) (b := k) (A := 400) (by omega) (by omega) hk.1 hk.2
  have t := ztd8 (d := zC S q b - zC S p b) hk
  refine ⟨by constructor <;> omega, ?_⟩
  unfold zwy
  by_cases c : 0 ≤ zC S q b - zC S p b
  · have := t.1 c
    constructor <;> omega
  · have := t.2 (by omega)
    constructor <;> omega
noncomputable def zrmp (S : Int → Int) (p q : Int) (k : Nat) : Int := zmat S (zwy S p q 0 k) (zwy S p q 1 k) (zwy S p q 2 k)
noncomputable def zrpg (S : Int → Int) (p q : Int) : Nat → Int
  | 0 => 0
  | n + 1 => if n = 0 then 0 else max (zrpg S p q n) (zgc (zrmp S p q (n - 1)) (zrmp S p q n))
noncomputable def zrpl (S : Int → Int) (p q : Int) : Nat → List Int
  | 0 => []
  | n + 1 => zrpl S p q n ++ [zcd (zrmp S p q n)]
theorem zrpl_len (S : Int → Int) (p q : Int) : ∀ n, (zrpl S p q n).length = n
  | 0 => rfl
  | n + 1 => by unfold zrpl; rw [List.length_append, zrpl_len S p q n]; rfl
theorem zgc_r (p q : Int) : 0 ≤ zgc p q ∧ zgc p q ≤ 8 := zgcn_r p q 4
theorem zrpg_r (S : Int → Int) (p q : Int) : ∀ n, 0 ≤ zrpg S p q n ∧ zrpg S p q n ≤ 8
  | 0 => by unfold zrpg; omega
  | n + 1 => by
    have := zrpg_r S p q n
    have := zgc_r (zrmp S p q (n - 1)) (zrmp S p q n)
    unfold zrpg
    split <;> omega
theorem zrmp_pl {S : Int → Int} (hv : zSet S) (hr : zLr S) (p q : Int) {k : Nat} (hk : k ≤ 8) : zPl (zrmp S p q k) :=
  zmat_pl hv hr (zwy_r hr (by decide) ⟨by omega, by omega⟩).2 (zwy_r hr (by decide) ⟨by omega, by omega⟩).2 (zwy_r hr (by decide) ⟨by omega, by omega⟩).2
section
variable {G : zG} {μ : zM} {S : Int → Int}
theorem kX0_onTheWay {F : Int → zM → Prop} {a : Nat} (ha : zIsCh a) (hc : zchis μ a S) (hr : zLr S) {p q b k : Int} (hp : zPl p) (hq : zPl q) (hb : 0 ≤ b ∧ b < 3) (hk : 0 ≤ k ∧ k ≤ 8) (h : F (zwy S p q b k) μ) : qX0_onTheWay G a p q b k μ F :=
  eX0_onTheWay fun J C => rX0_onTheWay_e C ha _ _ _ _ (kX0_number ha hc hp hb (kX0_number ha hc hq hb (kX0_number ha hc hp hb ⟨(zwy_r hr hb hk).1, h⟩)))
theorem kX10_ramp {F : Int → zM → Prop} {R : List Int} (hX : zXs μ 5 S) (hr : zLr S) (hv : zSet S) (hc : zXc μ) (hR : zXr μ R) {c d : Int} (ic : zin c) (id' : zin d) (h : ∀ μ', zsm zPX μ μ' → zXc μ' → zXr μ' (if zisc c ∧ zisc d then zrpl S (zpc c) (zpc d) 9 else R) → F (if zisc c ∧ zisc d then zrpg S (zpc c) (zpc d) 9 else -1) μ') : qX10_ramp G c d μ F := by
  refine eX10_ramp fun J C => rX10_ramp_e C _ _ ?_
  by_cases hc1 : zisc c
  · have hp := zpc_pl hc1
    refine kX10_placeOf ic (fun _ => ?_) (fun z => absurd hc1 z)
    by_cases hd1 : zisc d
    · have hq := zpc_pl hd1
      rw [if_pos ⟨hc1, hd1⟩, if_pos ⟨hc1, hd1⟩] at h
      refine kX10_placeOf id' (fun _ => ⟨by obtain ⟨a, b⟩ := hp; constructor <;> omega, fun z => absurd hp.1 (by omega), fun _ => ⟨by obtain ⟨a, b⟩ := hq; constructor <;> omega, fun _ => kX10_refresh hX hr hv hc fun μ1 g1 c1 k1 o1 => kX6_clear fun μ2 g2 r2 => ?_, fun z => absurd hq.1 z⟩⟩) (fun z => absurd hd1 z)
      refine znfor (N := 9) (P := fun n => ∀ μ', zsm zPX μ μ' → zXc μ' → zchis μ' 105 S → zmop μ' S → zXr μ' (zrpl S (zpc c) (zpc d) n) → J 42 ([some (zR (some 0)), none, none, some (zI (zpc c)), some (zI (zpc d)), some (zI (zrpg S (zpc c) (zpc d) n)), some (zI (if n = 0 then -1 else zrmp S (zpc c) (zpc d) (n - 1))), some (zI (n : Int)), none], [], μ', 0, 0)) ?_ ?_ μ2 ((zX105 g1).trans (zXrow g2)) (c1.sm g2 (by omega)) (k1.sm g2 (by omega)) (o1.sm g2 (by omega) (by omega)) r2
      · intro μ3 t1 t2 t3 t4 t5
        exact rX10_ramp_42 C _ _ _ _ _ ⟨by decide, fun _ => h μ3 t1 t2 t5, fun z => absurd (by decide) z⟩
      · intro n hn hj μ3 t1 t2 t3 t4 t5
        have hk : 0 ≤ (n : Int) ∧ (n : Int) ≤ 8 := ⟨by omega, by omega⟩
        have w0 := (zwy_r hr (p := zpc c) (q := zpc d) (b := 0) (by decide) hk).2
        have w1 := (zwy_r hr (p := zpc c) (q := zpc d) (b := 1) (by decide) hk).2
        have w2 := (zwy_r hr (p := zpc c) (q := zpc d) (b := 2) (by decide) hk).2
        have hpl := zrmp_pl hv hr (zpc c) (zpc d) (k := n) (by omega)
        have hplm := zrmp_pl hv hr (zpc c) (zpc d) (k := n - 1) (by omega)
        have hcd := zcd_r (p := zrmp S (zpc c) (zpc d) n)
        have hg := zrpg_r S (zpc c) (zpc d) n
        have hgc := zgc_r (zrmp S (zpc c) (zpc d) (n - 1)) (zrmp S (zpc c) (zpc d) n)
        have hlen := zrpl_len S (zpc c) (zpc d) n
        refine rX10_ramp_42 C _ _ _ _ _ ⟨by constructor <;> omega, fun z => absurd z (by omega), fun _ => kX0_onTheWay zCh_105 t3 hr hp hq (by decide) hk (kX0_onTheWay zCh_105 t3 hr hp hq (by decide) hk (kX0_onTheWay zCh_105 t3 hr hp hq (by decide) hk (kX4_find zCh_105 zSt_5 (by decide) (by decide) t3 (hX.px t1 (by decide)).set t4 hv hr w0 w1 w2 fun μ4 g4 _ _ _ _ => ?_)))⟩
        have fin : ∀ v, v = zrpg S (zpc c) (zpc d) (n + 1) → ∀ μ5, zsm (fun b j => b = 4 ∨ (b = 3 ∧ j = 1)) μ4 μ5 → zXr μ5 (zrpl S (zpc c) (zpc d) n ++ [zcd (zrmp S (zpc c) (zpc d) n)]) → J 42 ([some (zR (some 0)), none, none, some (zI (zpc c)), some (zI (zpc d)), some (zI v), some (zI (zrmp S (zpc c) (zpc d) n)), some (zI ((n : Int) + 1)), none], [], μ5, 0, 0) := by
          intro v ev μ5 g5 r5
          have hj := hj μ5 ((t1.trans (g4.mono (fun b j => by unfold zPX; omega))).trans (zXrow g5)) ((t2.sm g4 (by omega)).sm g5 (by omega)) ((t3.sm g4 (by omega)).sm g5 (by omega)) ((t4.sm g4 (by omega) (by omega)).sm g5 (by omega) (by omega)) r5
          rw [if_neg (by omega)] at hj
          rw [ev]; exact hj
        refine ⟨by obtain ⟨a, b⟩ := hplm; split <;> constructor <;> omega, fun z => ?_, fun z => ?_⟩
        · have hn0 : n = 0 := by
            by_cases e : n = 0
            · exact e
            · rw [if_neg e] at z; exact absurd hplm.1 (by omega)
          refine kX10_codeOf hpl ⟨⟨?_, ?_⟩, kX6_append (t5.sm g4 (by omega) (by omega)) (by omega) fun μ5 g5 r5 => fin _ ?_ μ5 g5 r5⟩
          · show (-2147483648 : Int) ≤ zcd (zrmp S (zpc c) (zpc d) n); omega
          · show zcd (zrmp S (zpc c) (zpc d) n) < (2147483648 : Int); omega
          · subst hn0; rfl
        · have hn0 : ¬ n = 0 := fun e => z (by rw [if_pos e]; decide)
          rw [if_neg hn0]
          refine kX10_greatestChange hplm hpl ⟨by constructor <;> omega, ⟨?_, ?_⟩, kX10_codeOf hpl ⟨⟨?_, ?_⟩, kX6_append (t5.sm g4 (by omega) (by omega)) (by omega) fun μ5 g5 r5 => fin _ ?_ μ5 g5 r5⟩⟩
          · show (-2147483648 : Int) ≤ zgc (zrmp S (zpc c) (zpc d) (n - 1)) (zrmp S (zpc c) (zpc d) n); omega
          · show zgc (zrmp S (zpc c) (zpc d) (n - 1)) (zrmp S (zpc c) (zpc d) n) < (2147483648 : Int); omega
          · show (-2147483648 : Int) ≤ zcd (zrmp S (zpc c) (zpc d) n); omega
          · show zcd (zrmp S (zpc c) (zpc d) n) < (2147483648 : Int); omega
          · rw [zrpg, if_neg hn0]; rfl
    · rw [if_neg (fun z => hd1 z.2), if_neg (fun z => hd1 z.2)] at h
      exact kX10_placeOf id' (fun z => absurd z hd1) (fun _ => ⟨by obtain ⟨a, b⟩ := hp; constructor <;> omega, fun z => h _ (zsm.refl _ _) hc hR, fun _ => ⟨by decide, fun z => absurd z (by decide), fun _ => h _ (zsm.refl _ _) hc hR⟩⟩)
  · rw [if_neg (fun z => hc1 z.1), if_neg (fun z => hc1 z.1)] at h
    refine kX10_placeOf ic (fun z => absurd z hc1) (fun _ => ?_)
    exact kX10_placeOf id' (fun _ => ⟨by decide, fun _ => h _ (zsm.refl _ _) hc hR, fun z => absurd (by decide) z⟩) (fun _ => ⟨by decide, fun _ => h _ (zsm.refl _ _) hc hR, fun z => absurd (by decide) z⟩)
theorem kX11_ramp {F : Int → zM → Prop} {R : List Int} (hM : zMs μ S) (hr : zLr S) (hv : zSet S) (hcd : zcds μ) (hR : zMr μ R) {c d : Int} (ic : zin c) (id' : zin d) (h : ∀ μ', zsm zPM μ μ' → zMr μ' (if zisc c ∧ zisc d then zrpl S (zpc c) (zpc d) 9 else R) → F (if zisc c ∧ zisc d then zrpg S (zpc c) (zpc d) 9 else -1) μ') : qX11_ramp G c d μ F := by
  refine eX11_ramp fun J C => rX11_ramp_e C _ _ (kX11_isCode ic (fun hc1 => ⟨by decide, fun z => absurd z (by decide), fun _ => kX11_isCode id' (fun hd1 => ⟨by decide, fun _ => ?_, fun z => absurd z (by decide)⟩) (fun hd1 => ⟨by decide, fun z => absurd rfl z, fun _ => ?_⟩)⟩) (fun hc1 => ⟨by decide, fun _ => ?_, fun z => absurd rfl z⟩))
  · have hp := zpc_pl hc1; have hq := zpc_pl hd1
    rw [if_pos ⟨hc1, hd1⟩, if_pos ⟨hc1, hd1⟩] at h
    refine kX11_layNow (hM.pm (zMthr μ)) hr hv (hcd.pm (zMthr μ)) fun μ1 g1 m1 d1 l1 => ?_
    rw [show qX11_numberOf G true c = qX11_numberOf G true (zcd (zpc c)) by rw [zpc_cd hc1]]
    refine kX11_numberOf hp ?_
    rw [show qX11_numberOf G true d = qX11_numberOf G true (zcd (zpc d)) by rw [zpc_cd hd1]]
    refine kX11_numberOf hq ?_
    refine znfor (N := 9) (P := fun n => ∀ μ', zsm zPM μ μ' → zMs μ' S → zcds μ' → zlaid μ' S → (∀ k : Nat, k < n → zi μ' 157 k = zcd (zrmp S (zpc c) (zpc d) k)) → J 50 ([some (zR (some 153)), none, none, some (zI (3 * zpc c)), some (zI (3 * zpc d)), some (zI (zrpg S (zpc c) (zpc d) n)), some (zI (n : Int)), none], [], μ', 0, 0)) ?_ ?_ μ1 ((zMthr μ).trans g1) m1 d1 l1 (fun k hk => absurd hk (by omega))
    · intro μ3 t1 t2 t3 t4 t5
      refine rX11_ramp_50 C _ _ _ _ ⟨by decide, fun _ => ?_, fun z => absurd (by decide) z⟩
      refine znfor (N := 9) (P := fun n => ∀ μ', zsm zPM μ μ' → (∀ k : Nat, k < 9 → zi μ' 157 k = zcd (zrmp S (zpc c) (zpc d) k)) → zMr μ' (zrpl S (zpc c) (zpc d) n) → J 232 ([some (zR (some 153)), none, none, none, none, some (zI (zrpg S (zpc c) (zpc d) 9)), some (zI (n : Int)), none], [], μ', 0, 0)) ?_ ?_ _ (zMrow0 t1) (fun k hk => by rw [zi_off (by omega)]; exact t5 k hk) (zMr.nil _)
      · intro μ4 s1 s2 s3
        exact rX11_ramp_232 C _ _ ⟨by decide, fun _ => h μ4 s1 s3, fun z => absurd (by decide) z⟩
      · intro n hn hj μ4 s1 s2 s3
        have hcdr := zcd_r (p := zrmp S (zpc c) (zpc d) n)
        have hlen := zrpl_len S (zpc c) (zpc d) n
        refine rX11_ramp_232 C _ _ ⟨by constructor <;> omega, fun z => absurd z (by omega), fun _ => ⟨by omega, ?_⟩⟩
        rw [s2 n hn]
        exact ⟨by constructor <;> omega, kX11_tell s3 (by omega) fun μ5 g5 r5 => hj μ5 (s1.trans (zMrow g5)) (fun k hk => by rw [g5.1 _ _ (by omega)]; exact s2 k hk) r5⟩
    · intro n hn hj μ3 t1 t2 t3 t4 t5
      have hk : 0 ≤ (n : Int) ∧ (n : Int) ≤ 8 := ⟨by omega, by omega⟩
      have w0 := zwy_r hr (p := zpc c) (q := zpc d) (b := 0) (by decide) hk
      have w1 := zwy_r hr (p := zpc c) (q := zpc d) (b := 1) (by decide) hk
      have w2 := zwy_r hr (p := zpc c) (q := zpc d) (b := 2) (by decide) hk
      have a0 : zi μ3 159 (3 * zpc c) = zC S (zpc c) 0 := by rw [← t4.2.1 _ 0 hp (by decide) (by decide), Int.add_zero]
      have b0 : zi μ3 159 (3 * zpc d) = zC S (zpc d) 0 := by rw [← t4.2.1 _ 0 hq (by decide) (by decide), Int.add_zero]
      obtain ⟨p0, p1⟩ := id hp
      obtain ⟨q0, q1⟩ := id hq
      refine rX11_ramp_50 C _ _ _ _ ⟨by constructor <;> omega, fun z => absurd z (by omega), fun _ => ?_⟩
      rw [a0, b0, t4.2.1 _ 1 hp (by decide) (by decide), t4.2.1 _ 1 hq (by decide) (by decide), t4.2.1 _ 2 hp (by decide) (by decide), t4.2.1 _ 2 hq (by decide) (by decide)]
      refine ⟨by omega, by omega, w0.1, by omega, by omega, w1.1, by omega, by omega, w2.1, kX11_matchOf t3 t2.set t4 hv hr w0.2 w1.2 w2.2 fun μ4 g4 _ _ _ _ => ⟨by omega, ?_⟩⟩
      have g4' : zsm zPM μ3 (zup μ4 157 n (zcd (zrmp S (zpc c) (zpc d) n))) := (g4.mono (fun b j => by unfold zPM; omega)).up _ (by unfold zPM; omega)
      have l4 : zlaid (zup μ4 157 n (zcd (zrmp S (zpc c) (zpc d) n))) S := (t4.sm g4 (by omega) (by omega) (by omega) (by omega)).sm ((zsm.refl (fun b j => b = 157) μ4).up _ rfl) (by omega) (by omega) (by omega) (by omega)
      have k4 : ∀ k : Nat, k < n + 1 → zi (zup μ4 157 n (zcd (zrmp S (zpc c) (zpc d) n))) 157 k = zcd (zrmp S (zpc c) (zpc d) k) := fun k hk => by
        by_cases e : k = n
        · subst e; exact zi_at
        · rw [zi_off (by omega), g4.1 _ _ (by omega)]; exact t5 k (by omega)
      have hj := hj _ (t1.trans g4') (t2.pm g4') (t3.pm g4') l4 k4
      change J 164 ([some (zR (some 153)), none, none, some (zI (3 * zpc c)), some (zI (3 * zpc d)), some (zI (zrpg S (zpc c) (zpc d) n)), some (zI (n : Int)), some (zI 0)], [], zup μ4 157 n (zcd (zrmp S (zpc c) (zpc d) n)), 0, 0)
      generalize zup μ4 157 n (zcd (zrmp S (zpc c) (zpc d) n)) = μ5 at *
      have hg := zrpg_r S (zpc c) (zpc d) n
      by_cases hn0 : n = 0
      · subst hn0
        exact rX11_ramp_164 C _ _ _ _ _ ⟨by decide, fun z => absurd z (by decide), fun _ => ⟨by decide, fun _ => hj, fun z => absurd (by decide) z⟩⟩
      · rw [zrpg, if_neg hn0] at hj
        have z : J 164 ([some (zR (some 153)), none, none, some (zI (3 * zpc c)), some (zI (3 * zpc d)), some (zI (max (zrpg S (zpc c) (zpc d) n) 0)), some (zI (n : Int)), some (zI 0)], [], μ5, 0, 0):= by
          refine znfor (N := 4) (P := fun m => J 164 ([some (zR (some 153)), none, none, some (zI (3 * zpc c)), some (zI (3 * zpc d)), some (zI (max (zrpg S (zpc c) (zpc d) n) (zgcn (zrmp S (zpc c) (zpc d) (n - 1)) (zrmp S (zpc c) (zpc d) n) m))), some (zI (n : Int)), some (zI (m : Int))], [], μ5, 0, 0)) ?_ ?_
          · exact rX11_ramp_164 C _ _ _ _ _ ⟨by decide, fun _ => hj, fun z => absurd (by decide) z⟩
          · intro m hm hj2
            have hgn := zgcn_r (zrmp S (zpc c) (zpc d) (n - 1)) (zrmp S (zpc c) (zpc d) n) m
            have x1 := zam_r (zrmp S (zpc c) (zpc d) (n - 1)) m; have x2 := zam_r (zrmp S (zpc c) (zpc d) n) m
            refine rX11_ramp_164 C _ _ _ _ _ ⟨by constructor <;> omega, fun z => absurd z (by omega), fun _ => ⟨by constructor <;> omega, fun z => absurd z (by omega), fun _ => ⟨by omega, ?_⟩⟩⟩
            rw [k4 n (by omega)]
            refine kX11_am (by omega) (by omega) ⟨by omega, ?_⟩
            rw [show zi μ5 157 ((n : Int) - 1) = zcd (zrmp S (zpc c) (zpc d) (n - 1)) by rw [← k4 (n - 1) (by omega)]; congr 1; omega]
            refine kX11_am (by omega) (by omega) ⟨by constructor <;> omega, by constructor <;> omega, by constructor <;> omega, ?_⟩
            rw [zgcn] at hj2
            rw [show max (max (zrpg S (zpc c) (zpc d) n) (zgcn (zrmp S (zpc c) (zpc d) (n - 1)) (zrmp S (zpc c) (zpc d) n) m)) (max (zam (zrmp S (zpc c) (zpc d) n) m - zam (zrmp S (zpc c) (zpc d) (n - 1)) m) (-(zam (zrmp S (zpc c) (zpc d) n) m - zam (zrmp S (zpc c) (zpc d) (n - 1)) m))) = max (zrpg S (zpc c) (zpc d) n) (max (zgcn (zrmp S (zpc c) (zpc d) (n - 1)) (zrmp S (zpc c) (zpc d) n) m) (max (zam (zrmp S (zpc c) (zpc d) (n - 1)) m - zam (zrmp S (zpc c) (zpc d) n) m) (-(zam (zrmp S (zpc c) (zpc d) (n - 1)) m - zam (zrmp S (zpc c) (zpc d) n) m)))) by omega]
            exact hj2
        rw [show max (zrpg S (zpc c) (zpc d) n) 0 = zrpg S (zpc c) (zpc d) n by omega] at z
        exact z
  · rw [if_neg (fun z => hd1 z.2), if_neg (fun z => hd1 z.2)] at h
    exact h _ (zMthr μ) hR.thr
  · rw [if_neg (fun z => hc1 z.1), if_neg (fun z => hc1 z.1)] at h
    exact h _ (zMthr μ) hR.thr
end
