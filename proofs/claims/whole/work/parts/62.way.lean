/-! ways in the memory -/
theorem zk134 (μ : zM) : zok true μ 134 (40, 6561) := zk_134 μ
abbrev zwc (S : Int → Int) (a b : Int) : Prop := zopen S (zpc a) ∧ zopen S (zpc b)
noncomputable def zwa (S : Int → Int) (a b d : Int) : Int := if zisc a ∧ zisc b then (if zwc S a b then (if zwD S d (zpc b) (zpc a) < 0 then -2 else zwD S d (zpc b) (zpc a)) else -2) else -1
noncomputable def zwr (S : Int → Int) (a b d : Int) (R : List Int) : List Int := if zisc a ∧ zisc b then (if zwc S a b then (if zwD S d (zpc b) (zpc a) < 0 then R else if zwD S d (zpc b) (zpc a) = 0 then [] else [] ++ [zcd (zwf S d (zpc b) (zpc a))]) else R) else R
section
variable {G : zG} {μ : zM} {S : Int → Int}
theorem kX10_markChangesTo {F : zM → Prop} (hX : zXs μ 5 S) (hr : zLr S) (hv : zSet S) (hc : zchis μ 105 S) {last d : Int} (hl : zPl last) (ho : zopen S last) (id' : zin d) (h : ∀ μ' D, zsm (fun b _ => b = 134 ∨ b = 135) μ μ' → zwP S d last D → (∀ x, zPl x → zi μ' 134 x = D x) → F μ') : qX10_markChangesTo G last d μ F := by
  refine eX10_markChangesTo fun J C => rX10_markChangesTo_e C _ _ (kJ7_fill zk134 (by decide) fun μ1 g1 f1 => ⟨hl, ?_⟩)
  have main : ∀ (m dn : Nat) (D : Int → Int) (l : List Int), dn + m = 6562 → zbI S d last dn D l → ∀ μ', zsm (fun b _ => b = 134 ∨ b = 135) μ μ' → (∀ x, zPl x → zi μ' 134 x = D x) → (∀ k : Nat, k < l.length → zi μ' 135 k = l.getD k 0) → J 27 ([some (zR (some 0)), none, some (zI d), some (zI (l.length : Nat)), some (zI (dn : Int)), none, none, none], [], μ', 0, 0) := by
    intro m
    induction m with
    | zero =>
      intro dn D l e hI μ2 g2 f2 f3
      have hlen := zbI_len hI
      refine rX10_markChangesTo_27 C _ _ _ ⟨by constructor <;> omega, by constructor <;> omega, fun _ => h μ2 D g2 ⟨l, ?_⟩ f2, fun c => absurd c (by omega)⟩
      obtain ⟨h1, h2, h3, h4, h5, h6, h7, h8⟩ := hI
      exact ⟨h1, h2, h3, h4, h5, fun z => absurd z (Nat.lt_irrefl _), fun i hi hil => h7 i (by omega) hil, h8⟩
    | succ m ih =>
      intro dn D l e hI μ2 g2 f2 f3
      have hlen := zbI_len hI
      refine rX10_markChangesTo_27 C _ _ _ ⟨by constructor <;> omega, by constructor <;> omega, fun c => h μ2 D g2 ⟨l, ?_⟩ f2, fun c => ⟨fun c2 => absurd c (by omega), fun c2 => ⟨by omega, ?_⟩⟩⟩
      · obtain ⟨h1, h2, h3, h4, h5, h6, h7, h8⟩ := hI
        exact ⟨h1, h2, h3, h4, h5, fun z => absurd z (Nat.lt_irrefl _), fun i hi hil => h7 i (by omega) hil, h8⟩
      · have hdn : dn < l.length := by omega
        rw [f3 dn hdn]
        have hpm := hI.2.1 _ (zget_mem hdn)
        have inner : ∀ (t : Nat) (c : Int), 0 ≤ c → c + t = 8 → ∀ (D : Int → Int) (l : List Int) (p : Int), zbI S d last dn D l → dn < l.length → l.getD dn 0 = p → (∀ c', 0 ≤ c' → c' < c → ∀ q, zchg p c' = q → zPl q → zopen S q → zbw S p q ≤ d → 0 ≤ D q ∧ D q ≤ D p + 1) → ∀ μ', zsm (fun b _ => b = 134 ∨ b = 135) μ μ' → (∀ x, zPl x → zi μ' 134 x = D x) → (∀ k : Nat, k < l.length → zi μ' 135 k = l.getD k 0) → J 53 ([some (zR (some 0)), none, some (zI d), some (zI (l.length : Nat)), some (zI (dn : Int)), some (zI p), some (zI c), none], [], μ', 0, 0) := by
          intro t
          induction t with
          | zero =>
            intro c c0 ec D l p hI hdn ep hq μ3 g3 f4 f5
            refine rX10_markChangesTo_53 C _ _ _ _ _ ⟨by constructor <;> omega, fun _ => ?_, fun z => absurd (by omega) z⟩
            refine ih (dn + 1) D l (by omega) (zbI_nx hI hdn (fun q hE => ?_)) μ3 g3 f4 f5
            rw [ep] at hE ⊢
            obtain ⟨⟨c', k0, k1, k2⟩, k3, k4, k5⟩ := hE
            exact hq c' k0 (by omega) q k2 k3 k4 k5
          | succ t iht =>
            intro c c0 ec D l p hI hdn ep hq μ3 g3 f4 f5
            have hlen := zbI_len hI
            have hp := (hI.2.1 _ (zget_mem hdn)).1.1
            have hDp := (hI.2.1 _ (zget_mem hdn)).2
            rw [ep] at hp hDp
            have skip : (∀ q, zchg p c = q → zPl q → zopen S q → zbw S p q ≤ d → 0 ≤ D q ∧ D q ≤ D p + 1) → J 53 ([some (zR (some 0)), none, some (zI d), some (zI (l.length : Nat)), some (zI (dn : Int)), some (zI p), some (zI (c + 1)), none], [], μ3, 0, 0) := fun hs =>
              iht (c + 1) (by omega) (by omega) D l p hI hdn ep (fun c' k0 k1 q k2 k3 k4 k5 => by
                by_cases z : c' = c
                · rw [z] at k2; exact hs q k2 k3 k4 k5
                · exact hq c' k0 (by omega) q k2 k3 k4 k5) μ3 g3 f4 f5
            refine rX10_markChangesTo_53 C _ _ _ _ _ ⟨by constructor <;> omega, fun z => absurd z (by omega), fun _ => kX10_changed hp ⟨c0, by omega⟩ ?_⟩
            rcases zchg_pl hp (c := c) ⟨c0, by omega⟩ with z | ⟨z1, -, -⟩
            · rw [z]
              exact ⟨by decide, fun _ => skip (fun q k2 k3 _ _ => by rw [z] at k2; rw [← k2] at k3; exact absurd k3.1 (by decide)), fun w => absurd (by decide) w⟩
            · generalize eq' : zchg p c = q at *
              obtain ⟨q0, q1⟩ := id z1
              refine ⟨by constructor <;> omega, fun z => absurd z (by omega), fun _ => ⟨z1, ?_⟩⟩
              rw [f4 q z1]
              have hDq : D q = -1 ∨ q ∈ l ∧ 0 ≤ D q ∧ D q < l.length := by
                by_cases w : q ∈ l
                · exact Or.inr ⟨w, (hI.2.1 q w).2⟩
                · exact Or.inl (hI.2.2.1 q z1 w)
              refine ⟨by rcases hDq with w | w <;> constructor <;> omega, fun w => skip (fun q' k2 _ _ _ => ?_), fun w => kX7_isOpen zSt_5 (hX.sm g3 (by omega)) hv z1 (fun op => ⟨by decide, fun y => absurd y (by decide), fun _ => kX0_distanceOf zCh_105 zSt_5 (hc.sm g3 (by omega)) (hX.sm g3 (by omega)).set hp z1 ⟨?_, id', fun y => skip (fun q' k2 _ _ k5 => ?_), fun y => ⟨hp, ?_, ?_⟩⟩⟩) (fun op => ⟨by decide, fun _ => skip (fun q' k2 _ k4 _ => ?_), fun y => absurd rfl y⟩)⟩
              · subst k2
                rcases hDq with y | ⟨y1, y2⟩
                · omega
                · have := hI.2.2.2.2.2.1 hdn q y1
                  rw [ep] at this
                  exact ⟨y2.1, this⟩
              · have := zbw_r hv hr p q; constructor <;> omega
              · subst k2; omega
              · have := zbI_len2 hI z1 (by rcases hDq with y | y <;> omega); omega
              · have hD1 : D q = -1 := by rcases hDq with y | y <;> omega
                have hE : zE S d (l.getD dn 0) q := by rw [ep]; exact ⟨⟨c, c0, by omega, eq'⟩, z1, op, by omega⟩
                have hlen2 := (zbI_len2 hI z1 hD1).1
                have hI2 := zbI_add hI hdn hE hD1
                rw [ep] at hI2
                have hnq : q ≠ p := fun y => by rw [y] at hD1; omega
                have hDp2 : zupd D q (D p + 1) p = D p := if_neg (fun y => hnq y.symm)
                have res := iht (c + 1) (by omega) (by omega) (zupd D q (D p + 1)) (l ++ [q]) p hI2 (by rw [List.length_append]; omega) (by rw [zget_left hdn]; exact ep) (fun c' k0 k1 q' k2 k3 k4 k5 => by
                  rw [hDp2]
                  by_cases y : q' = q
                  · rw [y]; unfold zupd; rw [if_pos rfl]; omega
                  · unfold zupd; rw [if_neg y]
                    by_cases w2 : c' = c
                    · rw [w2, eq'] at k2; exact absurd k2.symm y
                    · exact hq c' k0 (by omega) q' k2 k3 k4 k5) (zup (zup μ3 134 q (D p + 1)) 135 (l.length : Nat) q) ((g3.up _ (by omega)).up _ (by omega)) (fun x hx => by
                  rw [zi_off (by omega)]
                  unfold zupd
                  by_cases y : x = q
                  · rw [if_pos y, y, zi_at]
                  · rw [if_neg y, zi_off (by omega)]; exact f4 x hx) (fun k hk => by
                  rw [List.length_append] at hk
                  by_cases y : k < l.length
                  · rw [zi_off (by omega), zi_off (by omega), zget_left y]; exact f5 k y
                  · have y2 : k = l.length := by simp at hk; omega
                    subst y2; rw [zi_at, zget_last])
                rw [List.length_append] at res
                rw [f4 p hp]
                exact res
              · subst k2; exact absurd k4 op
        exact inner 8 0 (by decide) (by decide) D l _ hI hdn rfl (fun c' k0 k1 => absurd k0 (by omega)) μ2 g2 f2 f3
  have := main 6562 0 _ _ rfl (zbI_0 (d := d) hl ho) (zup (zup μ1 134 last 0) 135 0 last) (((g1.mono (fun b j => by omega)).up _ (by omega)).up _ (by omega)) (fun x hx => by
    rw [zi_off (by omega)]
    unfold zupd
    by_cases y : x = last
    · rw [if_pos y, y, zi_at]
    · rw [if_neg y, zi_off (by omega)]; exact f1 x hx.1 hx.2) (fun k hk => by
    have : k = 0 := by simp at hk; omega
    subst this; exact zi_at)
  exact this
theorem kX10_firstOfTheWay {F : Int → zM → Prop} (hX : zsX μ 5 S) (hr : zLr S) (hv : zSet S) (hc : zchis μ 105 S) {last d p : Int} {D : Int → Int} (hw : zwP S d last D) (hD : ∀ x, zPl x → zi μ 134 x = D x) (hp : zPl p) (id' : zin d) (h0 : 0 < zwD S d last p) (h : zPl (zwf S d last p) → F (zwf S d last p) μ) : qX10_firstOfTheWay G p d μ F := by
  have hD2 : ∀ x, zPl x → zi μ 134 x = zwD S d last x := fun x hx => by rw [hD x hx]; exact zwD_e hw hx
  have hrp := zwP_r hw hp
  refine eX10_firstOfTheWay fun J C => rX10_firstOfTheWay_e C _ _ ?_
  refine zfor (lo := 0) (hi := 8) (by decide) (P := fun c => ∀ v, (v = 6561 ∨ zwF S d last p v) → (∀ c', 0 ≤ c' → c' < c → zwF S d last p (zchg p c') → v ≤ zchg p c') → J 7 ([some (zR (some 0)), some (zI p), some (zI d), some (zI v), some (zI c), none], [], μ, 0, 0)) ?_ ?_ 6561 (Or.inl rfl) (fun c' k0 k1 => absurd k0 (by omega))
  · intro v hv1 hv2
    refine rX10_firstOfTheWay_7 C _ _ _ _ ⟨by decide, fun _ => ?_, fun z => absurd (by decide) z⟩
    have low : ∀ w, zwF S d last p w → v ≤ w := fun w hw => by
      obtain ⟨⟨c, c0, c1, e⟩, -⟩ := id hw
      have := hv2 c c0 c1 (by rw [e]; exact hw)
      rw [e] at this; exact this
    have hvF : zwF S d last p v := by
      rcases hv1 with z | z
      · exfalso
        obtain ⟨w, hw2⟩ := zwF_ex hw hp h0
        have := low w hw2
        have := hw2.2.1.2
        omega
      · exact z
    have e := zwf_e hvF low
    rw [e] at hvF ⊢
    exact h hvF.2.1
  · intro c c0 c1 hj v hv1 hv2
    have hvr : 0 ≤ v ∧ v ≤ 6561 := by
      rcases hv1 with z | ⟨-, z, -⟩
      · omega
      · obtain ⟨z1, z2⟩ := z; omega
    have skip : ¬ (zwF S d last p (zchg p c) ∧ ¬ v ≤ zchg p c) → J 7 ([some (zR (some 0)), some (zI p), some (zI d), some (zI v), some (zI (c + 1)), none], [], μ, 0, 0) := fun hs =>
      hj v hv1 (fun c' k0 k1 k2 => by
        by_cases z : c' = c
        · subst z
          by_cases y : v ≤ zchg p c'
          · exact y
          · exact absurd ⟨k2, y⟩ hs
        · exact hv2 c' k0 (by omega) k2)
    refine rX10_firstOfTheWay_7 C _ _ _ _ ⟨by constructor <;> omega, fun z => absurd z (by omega), fun _ => kX10_changed hp ⟨c0, c1⟩ ?_⟩
    rcases zchg_pl hp (c := c) ⟨c0, c1⟩ with z | ⟨z1, -, -⟩
    · rw [z]
      exact ⟨by decide, fun _ => skip (fun k => by rw [z] at k; exact absurd k.1.2.1.1 (by decide)), fun w => absurd (by decide) w⟩
    · have hjn := hj (zchg p c)
      generalize eq' : zchg p c = q at *
      obtain ⟨q0, q1⟩ := id z1
      have hrq := zwP_r hw z1
      refine ⟨by constructor <;> omega, fun z => absurd z (by omega), fun _ => ⟨by constructor <;> omega, fun y => skip (fun k => k.2 y), fun y => ⟨z1, hp, ?_⟩⟩⟩
      rw [hD2 q z1, hD2 p hp]
      refine ⟨by constructor <;> omega, by constructor <;> omega, fun k => skip (fun w => k w.1.2.2.1), fun k => kX0_distanceOf zCh_105 zSt_5 hc hX hp z1 ⟨?_, id', fun k2 => skip (fun w => by have := w.1.2.2.2; omega), fun k2 => ?_⟩⟩
      · have := zbw_r hv hr p q; constructor <;> omega
      · refine hjn (Or.inr ⟨⟨c, c0, c1, eq'⟩, z1, k, by omega⟩) (fun c' k0 k1 k3 => ?_)
        by_cases z : c' = c
        · rw [z, eq']; exact Int.le_refl _
        · have := hv2 c' k0 (by omega) k3; omega
theorem kX10_way {F : Int → zM → Prop} {R : List Int} (hX : zXs μ 5 S) (hr : zLr S) (hv : zSet S) (hc : zXc μ) (hR : zXr μ R) {a b d : Int} (ia : zin a) (ib : zin b) (id' : zin d) (h : ∀ μ', zsm zPX μ μ' → zXc μ' → zXr μ' (zwr S a b d R) → F (zwa S a b d) μ') : qX10_way G a b d μ F := by
  unfold zwr zwa at h
  have ref : ¬ (zisc a ∧ zisc b) → F (-1) μ := fun z => by
    rw [if_neg z, if_neg z] at h
    exact h _ (zsm.refl _ _) hc hR
  refine eX10_way fun J C => rX10_way_e C _ _ _ (kX10_placeOf ia (fun ha => ?_) (fun ha => kX10_placeOf ib (fun hb => ⟨by decide, fun _ => ref (fun z => ha z.1), fun z => absurd (by decide) z⟩) (fun hb => ⟨by decide, fun _ => ref (fun z => ha z.1), fun z => absurd (by decide) z⟩)))
  have hp := zpc_pl ha
  obtain ⟨p0, p1⟩ := id hp
  refine kX10_placeOf ib (fun hb => ?_) (fun hb => ⟨by constructor <;> omega, fun z => absurd p0 (by omega), fun _ => ⟨by decide, fun z => absurd z (by decide), fun _ => ref (fun z => hb z.2)⟩⟩)
  have hq := zpc_pl hb
  obtain ⟨q0, q1⟩ := id hq
  rw [if_pos (show zisc a ∧ zisc b from ⟨ha, hb⟩), if_pos (show zisc a ∧ zisc b from ⟨ha, hb⟩)] at h
  have ref2 : ¬ zwc S a b → F (-2) μ := fun z => by
    rw [if_neg z, if_neg z] at h
    exact h _ (zsm.refl _ _) hc hR
  refine ⟨by constructor <;> omega, fun z => absurd p0 (by omega), fun _ => ⟨by constructor <;> omega, fun _ => kX7_isOpen zSt_5 hX hv hp (fun oa => ⟨by decide, fun z => absurd z (by decide), fun _ => kX7_isOpen zSt_5 hX hv hq (fun ob => ⟨by decide, fun _ => ?_, fun z => absurd z (by decide)⟩) (fun ob => ⟨by decide, fun z => absurd rfl z, fun _ => ref2 (fun z => ob z.2)⟩)⟩) (fun oa => ⟨by decide, fun _ => ref2 (fun z => oa z.1), fun z => absurd rfl z⟩), fun z => absurd q0 z⟩⟩
  rw [if_pos (show zwc S a b from ⟨oa, ob⟩), if_pos (show zwc S a b from ⟨oa, ob⟩)] at h
  refine kX10_refresh hX hr hv hc fun μ1 g1 c1 k1 o1 => kX10_markChangesTo (hX.px (zX105 g1) (by decide)) hr hv k1 hq ob id' fun μ2 D g2 w2 f2 => ⟨hp, ?_⟩
  have eD := zwD_e w2 hp
  have hrp := zwP_r w2 hp
  have gx : zsm zPX μ μ2 := (zX105 g1).trans (g2.mono (fun b j => by unfold zPX; omega))
  rw [f2 _ hp, eD]
  refine ⟨by constructor <;> omega, fun z => kX6_clear fun μ3 g3 r3 => ?_, fun z => ?_⟩
  · have f3 : ∀ x, zPl x → zi μ3 134 x = D x := fun x hx => by rw [g3.1 _ _ (by omega)]; exact f2 x hx
    rw [if_neg (show ¬ zwD S d (zpc b) (zpc a) < 0 by omega), if_neg (show ¬ zwD S d (zpc b) (zpc a) < 0 by omega)] at h
    rw [f3 _ hp, eD]
    refine ⟨by constructor <;> omega, fun y => ?_, fun y => ?_⟩
    · rw [if_pos (show zwD S d (zpc b) (zpc a) = 0 by omega)] at h
      exact h _ (gx.trans (zXrow g3)) ((c1.sm g2 (by omega)).sm g3 (by omega)) r3
    · rw [if_neg (show ¬ zwD S d (zpc b) (zpc a) = 0 by omega)] at h
      refine kX10_firstOfTheWay (hX.px (gx.trans (zXrow g3)) (by decide)).set hr hv ((k1.sm g2 (by omega)).sm g3 (by omega)) w2 f3 hp id' (by omega) fun hz => kX10_codeOf hz ⟨by have := zcd_r (p := zwf S d (zpc b) (zpc a)); constructor <;> omega, kX6_append r3 (by simp) fun μ4 g4 r4 => ?_⟩
      rw [show zi μ4 134 (zpc a) = zwD S d (zpc b) (zpc a) by rw [g4.1 _ _ (by omega), f3 _ hp, eD]]
      exact h _ ((gx.trans (zXrow g3)).trans (zXrow g4)) (((c1.sm g2 (by omega)).sm g3 (by omega)).sm g4 (by omega)) r4
  · rw [if_pos (show zwD S d (zpc b) (zpc a) < 0 by omega), if_pos (show zwD S d (zpc b) (zpc a) < 0 by omega)] at h
    exact h _ gx (c1.sm g2 (by omega)) ((hR.sm g1 (by omega) (by omega)).sm g2 (by omega) (by omega))
theorem kX11_layWays {F : zM → Prop} (hM : zMs μ S) (hr : zLr S) (hv : zSet S) (hC : ∀ p b, zPl p → 0 ≤ b → b < 3 → zi μ 159 (3 * p + b) = zC S p b) {last d : Int} (hl : zPl last) (ho : zopen S last) (id' : zin d) (h : ∀ μ' D, zsm (fun b _ => b = 167 ∨ b = 168) μ μ' → zwP S d last D → (∀ x, zPl x → zi μ' 167 x = D x) → F μ') : qX11_layWays G (zcd last) d μ F := by
  refine eX11_layWays fun J C => rX11_layWays_e C _ _ ?_
  have main : ∀ (m dn : Nat) (D : Int → Int) (l : List Int), dn + m = 6562 → zbI S d last dn D l → ∀ μ', zsm (fun b _ => b = 167 ∨ b = 168) μ μ' → (∀ x, zPl x → zi μ' 167 x = D x) → (∀ k : Nat, k < l.length → zi μ' 168 k = zcd (l.getD k 0)) → J 44 ([some (zR (some 153)), none, some (zI d), some (zI (l.length : Nat)), some (zI (dn : Int)), none, none], [], μ', 0, 0) := by
    intro m
    induction m with
    | zero =>
      intro dn D l e hI μ2 g2 f2 f3
      have hlen := zbI_len hI
      refine rX11_layWays_44 C _ _ _ ⟨by constructor <;> omega, by constructor <;> omega, fun _ => h μ2 D g2 ⟨l, ?_⟩ f2, fun c => absurd c (by omega)⟩
      obtain ⟨h1, h2, h3, h4, h5, h6, h7, h8⟩ := hI
      exact ⟨h1, h2, h3, h4, h5, fun z => absurd z (Nat.lt_irrefl _), fun i hi hil => h7 i (by omega) hil, h8⟩
    | succ m ih =>
      intro dn D l e hI μ2 g2 f2 f3
      have hlen := zbI_len hI
      refine rX11_layWays_44 C _ _ _ ⟨by constructor <;> omega, by constructor <;> omega, fun c => h μ2 D g2 ⟨l, ?_⟩ f2, fun c => ?_⟩
      · obtain ⟨h1, h2, h3, h4, h5, h6, h7, h8⟩ := hI
        exact ⟨h1, h2, h3, h4, h5, fun z => absurd z (Nat.lt_irrefl _), fun i hi hil => h7 i (by omega) hil, h8⟩
      · have hdn : dn < l.length := by omega
        have inner : ∀ (t : Nat) (c : Int), 0 ≤ c → c + t = 8 → ∀ (D : Int → Int) (l : List Int) (p : Int), zbI S d last dn D l → dn < l.length → l.getD dn 0 = p → (∀ c', 0 ≤ c' → c' < c → ∀ q, zchg p (zturn c') = q → zPl q → zopen S q → zbw S p q ≤ d → 0 ≤ D q ∧ D q ≤ D p + 1) → ∀ μ', zsm (fun b _ => b = 167 ∨ b = 168) μ μ' → (∀ x, zPl x → zi μ' 167 x = D x) → (∀ k : Nat, k < l.length → zi μ' 168 k = zcd (l.getD k 0)) → J 53 ([some (zR (some 153)), none, some (zI d), some (zI (l.length : Nat)), some (zI (dn : Int)), some (zI c), none], [], μ', 0, 0) := by
          intro t
          induction t with
          | zero =>
            intro c c0 ec D l p hI hdn ep hq μ3 g3 f4 f5
            refine rX11_layWays_53 C _ _ _ _ ⟨by constructor <;> omega, fun _ => ?_, fun z => absurd (by omega) z⟩
            refine ih (dn + 1) D l (by omega) (zbI_nx hI hdn (fun q hE => ?_)) μ3 g3 f4 f5
            rw [ep] at hE ⊢
            obtain ⟨⟨c', k0, k1, k2⟩, k3, k4, k5⟩ := hE
            have := zturn_r (t := c') ⟨k0, k1⟩
            exact hq (zturn c') this.1 (by omega) q (by rw [zturn_t ⟨k0, k1⟩]; exact k2) k3 k4 k5
          | succ t iht =>
            intro c c0 ec D l p hI hdn ep hq μ3 g3 f4 f5
            have hlen := zbI_len hI
            have hp := (hI.2.1 _ (zget_mem hdn)).1.1
            have hDp := (hI.2.1 _ (zget_mem hdn)).2
            rw [ep] at hp hDp
            have h168 : zi μ3 168 dn = zcd p := by rw [f5 dn hdn, ep]
            have hM3 := hM.sm g3 (by omega)
            have hC3 : ∀ p b, zPl p → 0 ≤ b → b < 3 → zi μ3 159 (3 * p + b) = zC S p b := fun p b hp q0 q1 => by rw [g3.1 _ _ (by omega)]; exact hC p b hp q0 q1
            have skip : (∀ q, zchg p (zturn c) = q → zPl q → zopen S q → zbw S p q ≤ d → 0 ≤ D q ∧ D q ≤ D p + 1) → J 53 ([some (zR (some 153)), none, some (zI d), some (zI (l.length : Nat)), some (zI (dn : Int)), some (zI (c + 1)), none], [], μ3, 0, 0) := fun hs =>
              iht (c + 1) (by omega) (by omega) D l p hI hdn ep (fun c' k0 k1 q k2 k3 k4 k5 => by
                by_cases z : c' = c
                · rw [z] at k2; exact hs q k2 k3 k4 k5
                · exact hq c' k0 (by omega) q k2 k3 k4 k5) μ3 g3 f4 f5
            refine rX11_layWays_53 C _ _ _ _ ⟨by constructor <;> omega, fun z => absurd z (by omega), fun _ => ⟨by omega, ?_⟩⟩
            rw [h168]
            refine kX11_neighbour hp ⟨c0, by omega⟩ ?_
            rcases zchg_pl hp (c := zturn c) (zturn_r ⟨c0, by omega⟩) with z | ⟨z1, -, -⟩
            · rw [if_pos z]
              exact ⟨by decide, fun _ => skip (fun q k2 k3 _ _ => by rw [z] at k2; rw [← k2] at k3; exact absurd k3.1 (by decide)), fun w => absurd rfl w⟩
            · generalize eq' : zchg p (zturn c) = q at *
              obtain ⟨q0, q1⟩ := id z1
              have hcq := zcd_r (p := q)
              rw [if_neg (by omega)]
              refine ⟨by constructor <;> omega, fun z => absurd z (by omega), fun _ => kX11_open hM3 hv (fun op => ⟨by decide, fun y => absurd y (by decide), fun _ => kX11_numberOf z1 ⟨z1, ?_⟩⟩) (fun op => ⟨by decide, fun _ => skip (fun q' k2 _ k4 _ => by subst k2; exact absurd k4 op), fun y => absurd rfl y⟩)⟩
              rw [f4 q z1]
              have hDq : D q = -1 ∨ q ∈ l ∧ 0 ≤ D q ∧ D q < l.length := by
                by_cases w : q ∈ l
                · exact Or.inr ⟨w, (hI.2.1 q w).2⟩
                · exact Or.inl (hI.2.2.1 q z1 w)
              refine ⟨by rcases hDq with w | w <;> constructor <;> omega, fun w => skip (fun q' k2 _ _ _ => ?_), fun w => kX11_numberOf z1 ?_⟩
              · subst k2
                rcases hDq with y | ⟨y1, y2⟩
                · omega
                · have := hI.2.2.2.2.2.1 hdn q y1
                  rw [ep] at this
                  exact ⟨y2.1, this⟩
              rw [h168]
              refine kX11_numberOf hp (kX11_between hM3.set hC3 z1 hp ?_)
              rw [zbw_c]
              refine ⟨?_, id', fun y => kX11_numberOf z1 ?_, fun y => skip (fun q' k2 _ _ k5 => ?_)⟩
              · have := zbw_r hv hr p q; constructor <;> omega
              · rw [h168]
                refine kX11_numberOf hp ⟨hp, z1, ?_, ?_⟩
                · have := zbI_len2 hI z1 w; omega
                · have hE : zE S d (l.getD dn 0) q := by rw [ep]; exact ⟨⟨zturn c, (zturn_r ⟨c0, by omega⟩).1, (zturn_r ⟨c0, by omega⟩).2, eq'⟩, z1, op, y⟩
                  have hI2 := zbI_add hI hdn hE w
                  rw [ep] at hI2
                  have hnq : q ≠ p := fun y => by rw [y] at w; omega
                  have hDp2 : zupd D q (D p + 1) p = D p := if_neg (fun y => hnq y.symm)
                  have res := iht (c + 1) (by omega) (by omega) (zupd D q (D p + 1)) (l ++ [q]) p hI2 (by rw [List.length_append]; omega) (by rw [zget_left hdn]; exact ep) (fun c' k0 k1 q' k2 k3 k4 k5 => by
                    rw [hDp2]
                    by_cases y : q' = q
                    · rw [y]; unfold zupd; rw [if_pos rfl]; omega
                    · unfold zupd; rw [if_neg y]
                      by_cases w2 : c' = c
                      · rw [w2, eq'] at k2; exact absurd k2.symm y
                      · exact hq c' k0 (by omega) q' k2 k3 k4 k5) (zup (zup μ3 167 q (D p + 1)) 168 (l.length : Nat) (zcd q)) ((g3.up _ (by omega)).up _ (by omega)) (fun x hx => by
                    rw [zi_off (by omega)]
                    unfold zupd
                    by_cases y : x = q
                    · rw [if_pos y, y, zi_at]
                    · rw [if_neg y, zi_off (by omega)]; exact f4 x hx) (fun k hk => by
                    rw [List.length_append] at hk
                    by_cases y : k < l.length
                    · rw [zi_off (by omega), zi_off (by omega), zget_left y]; exact f5 k y
                    · have y2 : k = l.length := by simp at hk; omega
                      subst y2; rw [zi_at, zget_last])
                  rw [List.length_append] at res
                  rw [f4 p hp]
                  exact res
              · subst k2; omega
        exact inner 8 0 (by decide) (by decide) D l _ hI hdn rfl (fun c' k0 k1 => absurd k0 (by omega)) μ2 g2 f2 f3
  refine zfor (lo := 0) (hi := 6561) (by decide) (P := fun n => ∀ μ', zsm (fun b _ => b = 167 ∨ b = 168) μ μ' → (∀ x, 0 ≤ x → x < n → zi μ' 167 x = -1) → J 2 ([some (zR (some 153)), some (zI (zcd last)), some (zI d), some (zI n), none, none, none], [], μ', 0, 0)) ?_ ?_ μ (zsm.refl _ _) (fun x h0 h1 => absurd h0 (by omega))
  · intro μ1 g1 f1
    refine rX11_layWays_2 C _ _ _ ⟨by decide, fun _ => kX11_numberOf hl ⟨hl, ?_⟩, fun c => absurd (by decide) c⟩
    have := main 6562 0 _ _ rfl (zbI_0 (d := d) hl ho) (zup (zup μ1 168 0 (zcd last)) 167 last 0) ((g1.up _ (by omega)).up _ (by omega)) (fun x hx => by
      unfold zupd
      by_cases y : x = last
      · rw [if_pos y, y, zi_at]
      · rw [if_neg y, zi_off (by omega), zi_off (by omega)]; exact f1 x hx.1 hx.2) (fun k hk => by
      have : k = 0 := by simp at hk; omega
      subst this; rw [zi_off (by omega)]; exact zi_at)
    exact this
  · intro n n0 n1 hj μ1 g1 f1
    refine rX11_layWays_2 C _ _ _ ⟨by constructor <;> omega, fun c => absurd c (by omega), fun _ => ⟨by omega, hj _ (g1.up _ (by omega)) (fun x h0 h1 => ?_)⟩⟩
    by_cases c : x = n
    · subst c; exact zi_at
    · rw [zi_off (by omega)]; exact f1 x h0 (by omega)
theorem kX11_way {F : Int → zM → Prop} {R : List Int} (hM : zMs μ S) (hr : zLr S) (hv : zSet S) (hcd : zcds μ) (hR : zMr μ R) {a b d : Int} (ia : zin a) (ib : zin b) (id' : zin d) (h : ∀ μ', zsm zPM μ μ' → zMr μ' (zwr S a b d R) → F (zwa S a b d) μ') : qX11_way G a b d μ F := by
  unfold zwr zwa at h
  have g0 := zMthr μ
  have hR1 := hR.thr
  have hM1 := hM.pm g0
  have hcd1 := hcd.pm g0
  refine eX11_way fun J C => rX11_way_e C _ _ _ ?_
  generalize zup μ 153 5 0 = μ0 at *
  have ref : ¬ (zisc a ∧ zisc b) → F (-1) μ0 := fun z => by
    rw [if_neg z, if_neg z] at h
    exact h _ g0 hR1
  refine kX11_isCode ia (fun ha => ⟨by decide, fun z => absurd z (by decide), fun _ => kX11_isCode ib (fun hb => ⟨by decide, fun _ => ?_, fun z => absurd z (by decide)⟩) (fun hb => ⟨by decide, fun z => absurd rfl z, fun _ => ref (fun z => hb z.2)⟩)⟩) (fun ha => ⟨by decide, fun _ => ref (fun z => ha z.1), fun z => absurd rfl z⟩)
  have hp := zpc_pl ha
  obtain ⟨p0, p1⟩ := id hp
  have hq := zpc_pl hb
  rw [if_pos (show zisc a ∧ zisc b from ⟨ha, hb⟩), if_pos (show zisc a ∧ zisc b from ⟨ha, hb⟩)] at h
  have ref2 : ¬ zwc S a b → F (-2) μ0 := fun z => by
    rw [if_neg z, if_neg z] at h
    exact h _ g0 hR1
  have ea := zpc_cd ha; have eb := zpc_cd hb
  rw [show qX11_open G a = qX11_open G (zcd (zpc a)) by rw [ea], show qX11_open G b = qX11_open G (zcd (zpc b)) by rw [eb]]
  refine kX11_open hM1 hv (fun oa => ⟨by decide, fun z => absurd z (by decide), fun _ => kX11_open hM1 hv (fun ob => ⟨by decide, fun _ => ?_, fun z => absurd z (by decide)⟩) (fun ob => ⟨by decide, fun z => absurd rfl z, fun _ => ref2 (fun z => ob z.2)⟩)⟩) (fun oa => ⟨by decide, fun _ => ref2 (fun z => oa z.1), fun z => absurd rfl z⟩)
  rw [if_pos (show zwc S a b from ⟨oa, ob⟩), if_pos (show zwc S a b from ⟨oa, ob⟩)] at h
  rw [show qX11_layWays G b = qX11_layWays G (zcd (zpc b)) by rw [eb]]
  refine kX11_layNowR hM1 hr hv hcd1 hR1 fun μ1 g1 m1 d1 l1 r1 => kX11_layWays m1 hr hv l1.2.1 hq ob id' fun μ2 D g2 w2 f2 => ?_
  rw [show qX11_numberOf G true a = qX11_numberOf G true (zcd (zpc a)) by rw [ea]]
  refine kX11_numberOf hp ⟨hp, ?_⟩
  have eD := zwD_e w2 hp
  have hrp := zwP_r w2 hp
  have gx : zsm zPM μ μ2 := (g0.trans g1).trans (g2.mono (fun b j => by unfold zPM; omega))
  rw [f2 _ hp, eD]
  refine ⟨by constructor <;> omega, fun z => ?_, fun z => ?_⟩
  · rw [if_neg (show ¬ zwD S d (zpc b) (zpc a) < 0 by omega), if_neg (show ¬ zwD S d (zpc b) (zpc a) < 0 by omega)] at h
    have hM2 : zMs (zup μ2 153 4 0) S := (m1.sm g2 (by omega)).pm (zMrow0 (zsm.refl _ _))
    have hC2 : ∀ p b, zPl p → 0 ≤ b → b < 3 → zi (zup μ2 153 4 0) 159 (3 * p + b) = zC S p b := fun p b hp q0 q1 => by rw [zi_off (by omega), g2.1 _ _ (by omega)]; exact l1.2.1 p b hp q0 q1
    have f3 : ∀ x, zPl x → zi (zup μ2 153 4 0) 167 x = zwD S d (zpc b) x := fun x hx => by rw [zi_off (by omega), f2 x hx]; exact zwD_e w2 hx
    have gy := zMrow0 gx
    have ry := zMr.nil μ2
    generalize zup μ2 153 4 0 = μ3 at *
    by_cases y : zwD S d (zpc b) (zpc a) = 0
    · rw [if_pos y] at h
      exact rX11_way_82 C _ _ _ _ ⟨by decide, fun k => absurd k (by decide), fun _ => ⟨by constructor <;> omega, fun _ => h _ gy ry, fun k => absurd (by omega) k⟩⟩
    · rw [if_neg y] at h
      refine zfor (lo := 0) (hi := 8) (by decide) (P := fun t => (∀ t', 0 ≤ t' → t' < t → ¬ zwF S d (zpc b) (zpc a) (zchg (zpc a) (zturn t'))) → J 82 ([some (zR (some 153)), some (zI a), none, some (zI d), some (zI (zwD S d (zpc b) (zpc a))), some (zI t), none], [], μ3, 0, 0)) ?_ ?_ (fun t' k0 k1 => absurd k0 (by omega))
      · intro hn
        exfalso
        obtain ⟨v, hv1⟩ := zwF_ex w2 hp (by omega)
        obtain ⟨⟨c, c0, c1, e⟩, -⟩ := id hv1
        have := zturn_r (t := c) ⟨c0, c1⟩
        refine hn (zturn c) this.1 (by omega) ?_
        rw [zturn_t ⟨c0, c1⟩, e]; exact hv1
      · intro t t0 t1 hj hn
        have skip : ¬ zwF S d (zpc b) (zpc a) (zchg (zpc a) (zturn t)) → J 82 ([some (zR (some 153)), some (zI a), none, some (zI d), some (zI (zwD S d (zpc b) (zpc a))), some (zI (t + 1)), none], [], μ3, 0, 0) := fun hs =>
          hj (fun t' k0 k1 => by
            by_cases k : t' = t
            · rw [k]; exact hs
            · exact hn t' k0 (by omega))
        refine rX11_way_82 C _ _ _ _ ⟨by constructor <;> omega, fun k => absurd k (by omega), fun _ => ⟨by constructor <;> omega, fun k => absurd k (by omega), fun _ => ?_⟩⟩
        rw [show zi μ3 153 4 = 0 from ry.2.1]
        refine ⟨by decide, fun k => absurd rfl k, fun _ => ?_⟩
        rw [show qX11_neighbour G true a = qX11_neighbour G true (zcd (zpc a)) by rw [ea]]
        refine kX11_neighbour hp ⟨t0, t1⟩ ?_
        rcases zchg_pl hp (c := zturn t) (zturn_r ⟨t0, t1⟩) with k | ⟨z1, -, -⟩
        · rw [if_pos k]
          exact ⟨by decide, fun _ => skip (fun w => by rw [k] at w; exact absurd w.2.1.1 (by decide)), fun w => absurd rfl w⟩
        · generalize eq' : zchg (zpc a) (zturn t) = q at *
          obtain ⟨q0, q1⟩ := id z1
          have hcq := zcd_r (p := q)
          have hrq := zwP_r w2 z1
          rw [if_neg (by omega)]
          refine ⟨by constructor <;> omega, fun k => absurd k (by omega), fun _ => kX11_open hM2 hv (fun op => ⟨by decide, fun k => absurd k (by decide), fun _ => kX11_numberOf z1 ⟨z1, ?_⟩⟩) (fun op => ⟨by decide, fun _ => skip (fun w => op (zwP_open w2 z1 (by have := w.2.2.1; omega))), fun k => absurd rfl k⟩)⟩
          rw [f3 q z1]
          refine ⟨by constructor <;> omega, by constructor <;> omega, fun k => skip (fun w => k w.2.2.1), fun k => kX11_numberOf z1 ?_⟩
          rw [show qX11_numberOf G true a = qX11_numberOf G true (zcd (zpc a)) by rw [ea]]
          refine kX11_numberOf hp (kX11_between hM2.set hC2 z1 hp ?_)
          rw [zbw_c]
          refine ⟨by have := zbw_r hv hr (zpc a) q; constructor <;> omega, id', fun k2 => kX11_tell ry (by simp) fun μ4 g4 r4 => ?_, fun k2 => skip (fun w => k2 w.2.2.2)⟩
          have hF : zwF S d (zpc b) (zpc a) q := ⟨⟨zturn t, (zturn_r ⟨t0, t1⟩).1, (zturn_r ⟨t0, t1⟩).2, eq'⟩, z1, k, k2⟩
          have ew := zwf_e hF (fun w hw => by
            obtain ⟨⟨c, c0, c1, e⟩, -⟩ := id hw
            have hc := zturn_r (t := c) ⟨c0, c1⟩
            by_cases k3 : zturn c < t
            · exfalso
              refine hn (zturn c) hc.1 k3 ?_
              rw [zturn_t ⟨c0, c1⟩, e]; exact hw
            · by_cases k4 : zturn c = t
              · have : zchg (zpc a) (zturn (zturn c)) = q := by rw [k4]; exact eq'
                rw [zturn_t ⟨c0, c1⟩, e] at this
                omega
              · have := zturn_lt (p := zpc a) (t := t) (u := zturn c) t0 (by omega) hc.2 (by rw [eq']; exact z1) (by rw [zturn_t ⟨c0, c1⟩, e]; exact hw.2.1)
                rw [eq', zturn_t ⟨c0, c1⟩, e] at this
                omega)
          rw [← ew] at h
          have fin := h _ (gy.trans (zMrow g4)) r4
          refine rX11_way_82 C _ _ _ _ ⟨by constructor <;> omega, fun _ => fin, fun _ => ⟨by constructor <;> omega, fun _ => fin, fun _ => ?_⟩⟩
          rw [show zi μ4 153 4 = 1 from r4.2.1]
          exact ⟨by decide, fun _ => fin, fun k => absurd k (by decide)⟩
  · rw [if_pos (show zwD S d (zpc b) (zpc a) < 0 by omega), if_pos (show zwD S d (zpc b) (zpc a) < 0 by omega)] at h
    exact h _ gx (r1.sm g2 (by omega) (by omega))
end
