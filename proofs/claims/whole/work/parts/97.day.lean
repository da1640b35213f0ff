/-! a day, both sides -/
/-- the state after n pieces -/
def zdS (S : Int → Int) (T : List Int) : Nat → Int → Int
  | 0 => S
  | n + 1 => zactS (zdS S T n) T (zpos 2 T n)
/-- how many are done, from the i-th on -/
noncomputable def zdm (S : Int → Int) (T : List Int) : Nat → Nat → Nat
  | 0, i => i
  | d + 1, i => @ite _ (zactO (zdS S T i) T (zpos 2 T i)) (Classical.propDecidable _) (zdm S T d (i + 1)) i
theorem zdm_r {S : Int → Int} {T : List Int} : ∀ (d i : Nat), i ≤ zdm S T d i ∧ zdm S T d i ≤ i + d
  | 0, i => by rw [zdm]; omega
  | d + 1, i => by
    rw [zdm]
    have := zdm_r (S := S) (T := T) d (i + 1)
    split <;> omega
noncomputable def zdaS (S : Int → Int) (T : List Int) (n : Nat) : Int → Int := if 0 ≤ zwr0 T 2 60 then S else zdS S T (zdm S T n 0)
noncomputable def zdaU (S : Int → Int) (U : List (Int → Int)) (T : List Int) (n : Nat) : List (Int → Int) := if 0 ≤ zwr0 T 2 60 then U else if zdm S T n 0 = 0 then U else zpush U S
noncomputable def zdaR (S : Int → Int) (T R : List Int) (n : Nat) : List Int := if 0 ≤ zwr0 T 2 60 then R else [if zdm S T n 0 = n then 0 else 1]
noncomputable def zdaA (S : Int → Int) (T : List Int) (n : Nat) : Int := if 0 ≤ zwr0 T 2 60 then -1 - zwr0 T 2 60 else zdm S T n 0
theorem zfor3_2 (c : Int) : zfor3 2 c = zaf c := by unfold zfor3; rw [if_neg (by decide), if_neg (by decide)]
theorem zdS_v {S : Int → Int} (hv : zval S) {T : List Int} {n : Nat} (hn : zpcs 2 T n) : ∀ i : Nat, i ≤ n → zval (zdS S T i)
  | 0, _ => hv
  | i + 1, h => zactS_v (zdS_v hv hn i (by omega)) (by have := hn.2 i (by omega); rw [zfor3_2] at this; exact this)
theorem zdaS_v {S : Int → Int} (hv : zval S) {T : List Int} {n : Nat} (hn : ¬ 0 ≤ zwr0 T 2 60 → zpcs 2 T n) : zval (zdaS S T n) := by
  unfold zdaS
  split
  · exact hv
  · rename_i c
    exact zdS_v hv (hn c) _ (by have := zdm_r (S := S) (T := T) n 0; omega)
theorem zday_len {T : List Int} (hT : zTv T) (h : ¬ 0 ≤ zwr0 T 2 60) : T.length ≤ 60 := by
  have hl := hT.1
  by_cases c : T.length ≤ 60
  · exact c
  · exfalso
    have e : zwr0 T 2 60 < 0 := by omega
    -- a text that is too long is wrong somewhere
    have key : ∀ (n p t j : Nat) (d : Int), 0 ≤ zwro T 2 60 n p t j d := by
      intro n
      induction n with
      | zero => intro p t j d; rw [zwro, if_pos (by omega)]; decide
      | succ n ih =>
        intro p t j d
        rw [zwro]
        split
        · exact ih _ _ _ _
        · split
          · split
            · omega
            · exact ih _ _ _ _
          · split
            · omega
            · exact ih _ _ _ _
    have := key (zN2 T 60) 0 0 0 0
    exact h this
section
variable {G : zG} {μ μ' : zM} {S : Int → Int} {W U : List (Int → Int)} {kp : Int → Int} {K : Int → Int → Int} {T R : List Int} {c : Int}
theorem zXa.row {R' : List Int} (h : zXa μ S U kp K T R) (hm : zsm (fun b j => b = 4 ∨ (b = 3 ∧ j = 1)) μ μ') (hR : zXr μ' R') : zXa μ' S U kp K T R' :=
  h.pub (hm.mono (fun b j z => by unfold zPX; omega)) (h.2.2.2.2.2.2.2.sm hm (fun b j z y => by omega)) hR
theorem kX10_day {F : Int → zM → Prop} (hx : zXa μ S U kp K T R) (hv : zval S) (hT : zTv T) {n : Nat} (hn : ¬ 0 ≤ zwr0 T 2 60 → zpcs 2 T n) (h : ∀ μ', zxm μ μ' → zXa μ' (zdaS S T n) (zdaU S U T n) kp K [] (zdaR S T R n) → F (zdaA S T n) μ') : qX10_day G μ F := by
  have hl := hT.1
  have hwr := zwr0_r (tl := 2) (most := 60) hT (by decide)
  have hs := zN2_s T (most := 60) (by decide)
  unfold zdaS zdaU zdaR zdaA at h
  refine eX10_day fun J C => rX10_day_e C (kX9_wrong0 hx.2.2.2.2.2.1 hT (by decide) (by decide) ⟨by constructor <;> omega, fun hw => ?_, fun hw => ?_⟩)
  · have hw' : ¬ 0 ≤ zwr0 T 2 60 := by omega
    have hn := hn hw'
    have hnl := zpcs_n hn
    have h60 := zday_len hT hw'
    have hdr := zdm_r (S := S) (T := T) n 0
    -- the end
    have fin : ∀ (m : Nat) (st : Int) (μ2 : zM), m = zdm S T n 0 → (st = if m = n then 0 else 1) → zxm μ μ2 → zXg μ2 (zdS S T m) U.length (U ++ [S]) kp K T R → J 104 ([some (zR (some 0)), none, some (zI (m : Int)), some (zI st), none], [], μ2, 0, 0) := by
      intro m st μ2 hm hst g2 x2
      have g3 : zsm (fun b _ => b = 1 ∨ b = 2) μ2 (zup μ2 1 1 0) := (zsm.refl _ _).up _ (Or.inl rfl)
      have x3 := x2.txt g3 (T' := []) ⟨zi_at, fun k hk => absurd hk (by simp)⟩
      -- the row
      have row : ∀ (μ4 : zM) (S' : Int → Int) (U' : List (Int → Int)), S' = zdS S T (zdm S T n 0) → U' = (if zdm S T n 0 = 0 then U else zpush U S) → zxm μ μ4 → zXa μ4 S' U' kp K [] R → qX6_clear G μ4 (fun μ3 => zin st ∧ ((st = 0 → qX6_append G 0 μ3 (fun μ6 => F m μ6)) ∧ (¬ (st = 0) → qX6_append G 1 μ3 (fun μ7 => F m μ7)))) := by
        intro μ4 S' U' hS hU g4 x4
        subst hS hU
        have h := h
        rw [if_neg hw', if_neg hw', if_neg hw', if_neg hw'] at h
        refine kX6_clear fun μ5 g5 r5 => ⟨by rw [hst]; split <;> decide, fun y => ?_, fun y => ?_⟩
        · refine kX6_append r5 (by decide) fun μ6 g6 r6 => ?_
          have h := h μ6 (g4.trans ((g5.trans g6).xm (fun b j => by omega)))
          rw [← hm] at h
          rw [← hst, y] at h
          rw [← hm] at x4
          exact h (x4.row (g5.trans g6) r6)
        · refine kX6_append r5 (by decide) fun μ6 g6 r6 => ?_
          have h := h μ6 (g4.trans ((g5.trans g6).xm (fun b j => by omega)))
          rw [← hm] at h
          rw [← hst, show st = 1 by rw [hst] at y ⊢; split at y <;> rename_i q; exact absurd rfl y; exact if_neg q] at h
          rw [← hm] at x4
          exact h (x4.row (g5.trans g6) r6)
      refine rX10_day_104 C _ _ ⟨by constructor <;> omega, fun z => ?_, fun z => ?_⟩
      · have m0 : m = 0 := by omega
        exact row _ (zdS S T m) U (by rw [hm]) (by rw [← hm, if_pos m0]) (g2.trans (g3.xm (fun b j => by omega))) ⟨hx.1, x3.drop⟩
      · refine kX1_settle x3 hx.1 fun μ4 g4 x4 => ?_
        exact row μ4 (zdS S T m) _ (by rw [hm]) (by rw [← hm, if_neg (by omega)]) (g2.trans ((g3.xm (fun b j => by omega)).trans (g4.xm (fun b j => by omega)))) x4
    -- the acts
    have key : ∀ (d i : Nat) (μ2 : zM), i + d = n → zdm S T d i = zdm S T n 0 → zxm μ μ2 → zXg μ2 (zdS S T i) U.length (U ++ [S]) kp K T R → J 39 ([some (zR (some 0)), none, some (zI (i : Int)), some (zI 0), some (zI (zpos 2 T i : Int))], [], μ2, 0, 0) := by
      intro d
      induction d with
      | zero =>
        intro i μ2 hi hd g2 x2
        have ei : i = n := by omega
        rw [zdm] at hd
        refine rX10_day_39 C _ _ _ ?_
        rw [x2.2.2.2.2.1.1]
        have hp := hn.1
        rw [← ei] at hp
        exact ⟨by constructor <;> omega, by constructor <;> omega, fun _ => fin i 0 μ2 hd (by rw [if_pos ei]) g2 x2, fun z => absurd (by omega) z⟩
      | succ d ih =>
        intro i μ2 hi hd g2 x2
        obtain ⟨l1, l2⟩ := zpcs_lt hn (k := i) (by omega)
        have l1 := l1.2 (by omega)
        have hf := hn.2 i (by omega)
        rw [zfor3_2] at hf
        have hr := zat_r hT (i := ((zpos 2 T i : Nat) : Int)) (by omega) (by omega)
        refine rX10_day_39 C _ _ _ ?_
        rw [x2.2.2.2.2.1.1]
        refine ⟨by constructor <;> omega, by constructor <;> omega, fun z => absurd z (by omega), fun _ => ⟨by decide, fun z => absurd rfl z, fun _ => ?_⟩⟩
        have hvi := zdS_v hv hn i (by omega)
        refine kX10_doAct x2 hvi hT (by omega) hf fun μ3 v g3 x3 iv ho => ⟨iv, fun z => ?_, fun z => ?_⟩
        · refine kX9_at x3.2.2.2.2.1 hT (by constructor <;> omega) ?_
          rw [if_pos (by omega)]
          refine kX9_actForm (by constructor <;> omega) ⟨zaf (zat T (zpos 2 T i)), zaf_r _, rfl, ?_⟩
          have hll := zstx_l (zaf_r (zat T (zpos 2 T i)))
          have hl0 := hf.1
          refine ⟨by constructor <;> omega, ?_⟩
          rw [show max 0 (((zstx (zaf (zat T (zpos 2 T i)))).length : Int) - 1) = ((zstx (zaf (zat T (zpos 2 T i)))).length : Int) - 1 by omega]
          rw [zdm, if_pos (ho.1 z)] at hd
          have := ih (i + 1) μ3 (by omega) hd (g2.trans (g3.xm (fun b j => by omega))) x3
          rw [zpos_s, zfor3_2] at this
          rw [show ((i + 1 : Nat) : Int) = (i : Int) + 1 by omega, show ((zpos 2 T i + (zstx (zaf (zat T (zpos 2 T i)))).length : Nat) : Int) = (zpos 2 T i : Int) + (((zstx (zaf (zat T (zpos 2 T i)))).length : Int) - 1) + 1 by omega] at this
          exact this
        · refine kX9_at x3.2.2.2.2.1 hT (by constructor <;> omega) ?_
          rw [if_pos (by omega)]
          refine kX9_actForm (by constructor <;> omega) ⟨zaf (zat T (zpos 2 T i)), zaf_r _, rfl, ?_⟩
          have hll := zstx_l (zaf_r (zat T (zpos 2 T i)))
          have hl0 := hf.1
          refine ⟨by constructor <;> omega, ?_⟩
          have no : ¬ zactO (zdS S T i) T (zpos 2 T i) := fun y => z (ho.2 y)
          rw [zdm, if_neg no] at hd
          rw [zact_no (zaf_at _ hf.1) no] at x3
          have x3t := x3.2.2.2.2.1.1
          have fin' := fin i 1 μ3 hd (by rw [if_neg (by omega)]) (g2.trans (g3.xm (fun b j => by omega))) x3
          refine rX10_day_39 C _ _ _ ?_
          rw [x3t]
          exact ⟨by constructor <;> omega, by constructor <;> omega, fun _ => fin', fun _ => ⟨by decide, fun _ => fin', fun z => absurd z (by decide)⟩⟩
    refine kX1_draft hx.2 hx.1 hv.pic hv.1 fun μ1 g1 x1 => ?_
    exact key n 0 μ1 (by omega) rfl g1 x1
  · have hw' : 0 ≤ zwr0 T 2 60 := by omega
    rw [if_pos hw', if_pos hw', if_pos hw', if_pos hw'] at h
    exact kX10_refusedText hx h
theorem kX11_day {F : Int → zM → Prop} (hM : zMa μ S U kp K T R) (hv : zval S) (hT : zTv T) {n : Nat} (hn : ¬ 0 ≤ zwr0 T 2 60 → zpcs 2 T n) (h : ∀ μ', zsm zPW μ μ' → zMa μ' (zdaS S T n) (zdaU S U T n) kp K [] (zdaR S T R n) → F (zdaA S T n) μ') : qX11_day G μ F := by
  have hs := zN2_s T (most := 60) (by decide)
  have hl := hT.1
  have g0 : zsm zPW μ (zup μ 153 5 0) := (zsm.refl _ _).up _ (by decide)
  have hM := hM.pub (zMthr μ) hM.2.2.2.2.1.thr
  unfold zdaS zdaU zdaR zdaA at h
  refine eX11_day fun J C => rX11_day_e C ?_
  generalize zup μ 153 5 0 = μ0 at *
  refine kX11_begin hM fun μ1 _ g1 hM1 p1 => ?_
  -- something is wrong
  have bad : ∀ (n : Int) (μ2 : zM), zsm zPW μ μ2 → zMa μ2 S U kp K [] R → zBad μ2 T 60 (zwr0 T 2 60) → J 13 ([some (zR (some 153)), some (zI n), none], [], μ2, 0, 0) := by
    intro n μ2 g2 m2 b2
    refine rX11_day_13 C _ (kX11_fineB b2 ⟨by decide, fun _ => ?_, fun z => absurd rfl z⟩)
    obtain ⟨a, a1, a2, a3, a4⟩ := b2
    refine kX11_wasRight a2 (by constructor <;> omega) hT (by omega) (by omega) fun μ3 g3 p3 => ?_
    rw [if_neg (by omega)] at p3
    rw [if_neg (by omega), p3.2.2.2.1]
    refine ⟨by decide, fun z => absurd rfl z, fun _ => ?_⟩
    have h := h μ3 (g2.trans (g3.mono (fun b j => by unfold zPW; omega)))
    rw [if_pos a3, if_pos a3, if_pos a3, if_pos a3] at h
    exact h (m2.rd g3 (fun b j => by omega))
  -- the acts
  have acts : ¬ 0 ≤ zwr0 T 2 60 → ∀ (d i : Nat) (μ2 : zM), i + d = n → zdm S T d i = zdm S T n 0 → zsm zPW μ μ2 → zMa μ2 (zdS S T i) U kp K [] R → (∀ x, 0 ≤ x → x < 711 → zi μ2 177 x = S x) → (∀ k : Nat, k < n → zrow5 μ2 T (zpos 2 T k) (5 * k)) → J 87 ([some (zR (some 153)), some (zI (n : Int)), some (zI (i : Int))], [], μ2, 0, 0) := by
    intro hw d
    have hn := hn hw
    have hnl := zpcs_n hn
    have h60 := zday_len hT hw
    have hdr := zdm_r (S := S) (T := T) n 0
    rw [if_neg hw, if_neg hw, if_neg hw, if_neg hw] at h
    -- the end
    have fin : ∀ (m : Nat) (μ2 : zM), m = zdm S T n 0 → zsm zPW μ μ2 → zMa μ2 (zdS S T m) U kp K [] R → (∀ x, 0 ≤ x → x < 711 → zi μ2 177 x = S x) → J 108 ([some (zR (some 153)), some (zI (n : Int)), some (zI (m : Int))], [], μ2, 0, 0) := by
      intro m μ2 hm g2 m2 a2
      rw [← hm] at h
      have row : ∀ (μ4 : zM), zsm zPW μ μ4 → zMa μ4 (zdS S T m) (if m = 0 then U else zpush U S) kp K [] R → zin (n : Int) ∧ ((((n : Int)) ≤ (m : Int) → qX11_tell G 0 (zup μ4 153 4 0) (fun μ5 => F m μ5)) ∧ (¬ ((n : Int) ≤ (m : Int)) → qX11_tell G 1 (zup μ4 153 4 0) (fun μ6 => F m μ6))) := by
        intro μ4 g4 m4
        have t0 : zsm zPM μ4 (zup μ4 153 4 0) := (zsm.refl _ _).up _ (by unfold zPM; omega)
        refine ⟨by constructor <;> omega, fun z => ?_, fun z => ?_⟩
        · refine kX11_tell (zMr.nil _) (by decide) fun μ5 g5 r5 => ?_
          have t5 : zsm zPM μ4 μ5 := t0.trans (g5.mono (fun b j => by unfold zPM; omega))
          have h := h μ5 (g4.trans (t5.mono (fun b j z => by have := zpm b j z; unfold zPW; omega)))
          rw [if_pos (show m = n by omega)] at h
          exact h (m4.pub t5 r5)
        · refine kX11_tell (zMr.nil _) (by decide) fun μ5 g5 r5 => ?_
          have t5 : zsm zPM μ4 μ5 := t0.trans (g5.mono (fun b j => by unfold zPM; omega))
          have h := h μ5 (g4.trans (t5.mono (fun b j z => by have := zpm b j z; unfold zPW; omega)))
          rw [if_neg (show ¬ m = n by omega)] at h
          exact h (m4.pub t5 r5)
      refine rX11_day_108 C _ _ ⟨by constructor <;> omega, fun z => ?_, fun z => ?_⟩
      · exact row μ2 g2 (by rw [if_pos (by omega)]; exact m2)
      · refine kX11_note m2.2.1 a2 fun μ3 g3 u3 => ?_
        exact row μ3 (g2.trans (g3.mono (fun b j => by unfold zPW; omega))) (by rw [if_neg (by omega)]; exact m2.st g3 (fun b j => by omega) (m2.1.sm g3 (by omega)) u3)
    induction d with
    | zero =>
      intro i μ2 hi hd g2 m2 a2 t2
      have ei : i = n := by omega
      rw [zdm] at hd
      exact rX11_day_87 C _ _ ⟨by constructor <;> omega, by constructor <;> omega, fun _ => fin i μ2 hd g2 m2 a2, fun z => absurd (by omega) z⟩
    | succ d ih =>
      intro i μ2 hi hd g2 m2 a2 t2
      have hf := hn.2 i (by omega)
      rw [zfor3_2] at hf
      refine rX11_day_87 C _ _ ⟨by constructor <;> omega, by constructor <;> omega, fun z => absurd z (by omega), fun _ => ?_⟩
      refine kX11_act m2.1 (zdS_v hv hn i (by omega)) (by omega) (t2 i (by omega)) hT hf (fun hO μ3 g3 m3 => ⟨by decide, fun z => absurd z (by decide), fun _ => ?_⟩) (fun hO => ⟨by decide, fun _ => ?_, fun z => absurd rfl z⟩)
      · rw [zdm, if_pos hO] at hd
        have := ih (i + 1) μ3 (by omega) hd (g2.trans (g3.mono (fun b j => by unfold zPW; omega))) (m2.st g3 (fun b j => by omega) m3 (m2.2.1.sm g3 (by omega) (by omega))) (fun x x0 x1 => by rw [g3.1 _ _ (by omega)]; exact a2 x x0 x1) (fun k hk => (t2 k hk).sm g3 (fun j j0 j1 => by omega))
        rw [show ((i + 1 : Nat) : Int) = (i : Int) + 1 by omega] at this
        exact this
      · rw [zdm, if_neg hO] at hd
        exact fin i μ2 hd g2 m2 a2
  -- the state is laid ahead
  have lay : ¬ 0 ≤ zwr0 T 2 60 → ∀ (μ2 : zM), zsm zPW μ μ2 → zMa μ2 S U kp K [] R → (∀ k : Nat, k < n → zrow5 μ2 T (zpos 2 T k) (5 * k)) → J 60 ([some (zR (some 153)), some (zI (n : Int)), some (zI 0)], [], μ2, 0, 0) := by
    intro hw μ2 g2 m2 t2
    refine zfor (lo := 0) (hi := 711) (by decide) (P := fun x => ∀ μ3, zsm (fun b _ => b = 177) μ2 μ3 → (∀ i, 0 ≤ i → i < x → zi μ3 177 i = S i) → J 60 ([some (zR (some 153)), some (zI (n : Int)), some (zI x)], [], μ3, 0, 0)) ?_ ?_ μ2 (zsm.refl _ _) (fun i i0 i1 => absurd i1 (by omega))
    · intro μ3 g3 a3
      exact rX11_day_60 C _ _ ⟨by decide, fun _ => acts hw n 0 μ3 (by omega) rfl (g2.trans (g3.mono (fun b j => by unfold zPW; omega))) (m2.rd g3 (fun b j => by omega)) a3 (fun k hk => (t2 k hk).sm g3 (fun j j0 j1 => by omega)), fun z => absurd (by decide) z⟩
    · intro x x0 x1 ih μ3 g3 a3
      refine rX11_day_60 C _ _ ⟨by constructor <;> omega, fun z => absurd z (by omega), fun _ => ⟨⟨x0, x1⟩, ?_⟩⟩
      rw [m2.1.sm g3 (by omega) x x0 x1]
      refine ih _ (g3.up _ rfl) (fun i i0 i1 => ?_)
      by_cases c : i = x
      · subst c; exact zi_at
      · rw [zi_off (by omega)]; exact a3 i i0 (by omega)
  -- the reading
  have read : ∀ (f i t : Nat) (μ2 : zM), T.length - zpos 2 T i ≤ f → zpos 2 T i ≤ zN2 T 60 → i ≤ zpos 2 T i → zsm zPW μ μ2 → zMa μ2 S U kp K [] R → zPs μ2 T 60 ((zpos 2 T i : Nat) : Int) (-1) → zwro T 2 60 (zN2 T 60 - zpos 2 T i) (zpos 2 T i) t (zstx t).length 0 = zwr0 T 2 60 → (∀ k : Nat, k < i → zrow5 μ2 T (zpos 2 T k) (5 * k) ∧ zpos 2 T k < T.length) → J 13 ([some (zR (some 153)), some (zI (i : Int)), none], [], μ2, 0, 0) := by
    intro f
    induction f with
    | zero =>
      intro i t μ2 hf hp hi g2 m2 p2 A2 t2
      have hN := zN2_le (most := 60) hT
      refine rX11_day_13 C _ (kX11_fine p2 (by decide) (fun _ => ⟨by decide, fun z => absurd z (by decide), fun _ => ?_⟩) (fun z => absurd rfl z))
      rw [p2.2.2.1, p2.1]
      have hw : ¬ 0 ≤ zwr0 T 2 60 := by
        rw [← A2, show zN2 T 60 - zpos 2 T i = 0 by omega, zwro, if_neg (by omega), if_neg (by omega)]; decide
      have hn1 := hn hw
      have en : i = n := by
        by_cases c1 : i < n
        · have := (zpcs_lt hn1 (k := i) (by omega)).1.2 c1; omega
        · by_cases c2 : n < i
          · have := (t2 n c2).2; rw [hn1.1] at this; omega
          · omega
      refine ⟨by constructor <;> omega, by constructor <;> omega, fun _ => ?_, fun z => absurd (by omega) z⟩
      refine kX11_wasRight p2 (by decide) hT (by omega) (by omega) fun μ3 g3 p3 => ?_
      rw [if_pos (by omega)]
      refine ⟨by decide, fun _ => ?_, fun z => absurd z (by decide)⟩
      have m3 := m2.rd g3 (fun b j => by omega)
      rw [en]
      exact lay hw μ3 (g2.trans (g3.mono (fun b j => by unfold zPW; omega))) m3 (fun k hk => (t2 k (by omega)).1.sm g3 (fun j j0 j1 => by omega))
    | succ f ih =>
      intro i t μ2 hf hp hi g2 m2 p2 A2 t2
      have hN := zN2_le (most := 60) hT
      by_cases c : T.length = zpos 2 T i
      · exact ih i t μ2 (by omega) hp hi g2 m2 p2 A2 t2
      · refine rX11_day_13 C _ (kX11_fine p2 (by decide) (fun _ => ⟨by decide, fun z => absurd z (by decide), fun _ => ?_⟩) (fun z => absurd rfl z))
        rw [p2.2.2.1, p2.1]
        refine ⟨by constructor <;> omega, by constructor <;> omega, fun z => absurd z (by omega), fun _ => ?_⟩
        refine kX11_readActA p2 hT (by decide) hp (by omega) A2 (by omega) (fun l3 l0 μ3 g3 p3 A3 r3 => ?_) (fun μ3 g3 b3 => bad _ μ3 (g2.trans (g3.mono (fun b j => by unfold zPW; omega))) (m2.rd g3 (fun b j => by omega)) b3)
        have es : zpos 2 T (i + 1) = zpos 2 T i + (zstx (zaf (zat T (zpos 2 T i)))).length := by rw [zpos_s, zfor3_2]
        have := ih (i + 1) (zaf (zat T (zpos 2 T i))) μ3 (by omega) (by omega) (by omega) (g2.trans (g3.mono (fun b j => by unfold zPW; omega))) (m2.rd g3 (fun b j => by omega)) (by rw [es]; exact p3) (by rw [es]; exact A3) (fun k hk => ?_)
        · rw [show ((i + 1 : Nat) : Int) = (i : Int) + 1 by omega] at this
          exact this
        · by_cases ck : k = i
          · subst ck
            exact ⟨r3, by omega⟩
          · exact ⟨(t2 k (by omega)).1.sm g3 (fun j j0 j1 => by omega), (t2 k (by omega)).2⟩
  exact read T.length 0 0 μ1 (Nat.sub_le _ _) (Nat.zero_le _) (Nat.zero_le _) (g0.trans g1) hM1 p1 rfl (fun k hk => absurd hk (by omega))
end
