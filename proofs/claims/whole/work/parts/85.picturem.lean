/-! picture of the reference -/
section
variable {G : zG} {μ : zM} {S : Int → Int} {c : Int} {W U : List (Int → Int)} {kp : Int → Int} {K : Int → Int → Int} {T R : List Int}
theorem kX11_picture {F : Int → zM → Prop} (hM : zMa μ S U kp K T R) (hv : zval S) (hT : zTv T) (h : ∀ μ', zsm zPW μ μ' → zMa μ' (zpiSS S T) (if zpcW T < 0 then zpush U S else U) kp K [] R → F (zpiA T) μ') : qX11_picture G μ F := by
  have g0 : zsm zPW μ (zup μ 153 5 0) := (zsm.refl _ _).up _ (by decide)
  have hM := hM.pub (zMthr μ) hM.2.2.2.2.1.thr
  have hl := hT.1
  have hwr := zpcW_r hT
  unfold zpiSS zpiA at h
  refine eX11_picture fun J C => rX11_picture_e C ?_
  generalize zup μ 153 5 0 = μa at *
  refine kX11_begin hM fun μ0 _ g1 hM p0 => ?_
  have g0 := g0.trans g1
  have hMs : ∀ μ1, zsm (fun b j => zPp b j ∨ b = 157) μ0 μ1 → zMa μ1 S U kp K [] R := fun μ1 g2 => hM.pub (g2.mono (fun b j => by unfold zPM; omega)) (hM.2.2.2.2.1.sm g2 (by omega) (by omega))
  -- something was wrong: nothing is done
  have wrong : ∀ (μ1 : zM) (a : Int), zsm (fun b j => zPp b j ∨ b = 157) μ0 μ1 → zPs μ1 T 80 a (zpcW T) → zpcW T ≠ -1 → F (-1 - zi μ1 153 9) μ1 := fun μ1 a g2 p1 hw => by
    rw [if_neg (by omega), if_neg (by omega), if_neg (by omega)] at h
    rw [p1.2.2.2.1]
    exact h μ1 (g0.trans (g2.mono (fun b j => by unfold zPW; omega))) (hMs μ1 g2)
  have wr31 : ∀ (μ1 : zM) (a x1 x2 x3 x4 : Int), zin x4 → zsm (fun b j => zPp b j ∨ b = 157) μ0 μ1 → zPs μ1 T 80 a (zpcW T) → zpcW T ≠ -1 → 0 ≤ a → a ≤ 100 → J 31 ([some (zR (some 153)), some (zI x1), some (zI x2), some (zI x3), some (zI x4), none, none], [], μ1, 0, 0) := by
    intro μ1 a x1 x2 x3 x4 i4 g2 p1 hw a0 a1
    have fin : ∀ Q : Prop, qX11_wasRight G μ1 (fun v3 μ3 => zin v3 ∧ ((¬ v3 = 0 → qX11_change G μ3 (fun μ6 => J 244 ([some (zR (some 153)), some (zI x1), some (zI x2), some (zI x3), none, some (zI 0), none], [], μ6, 0, 0))) ∧ (v3 = 0 → F ((-1) - (zi μ3 153 9)) μ3))) := fun _ => by
      refine kX11_wasRight p1 (by constructor <;> omega) hT a0 (by omega) fun μ3 g3 p3 => ?_
      rw [if_neg (fun z => hw z.1)] at p3 ⊢
      exact ⟨by decide, fun z => absurd rfl z, fun _ => wrong μ3 a (g2.trans (g3.mono (fun b j => by omega))) p3 hw⟩
    exact rX11_picture_31 C _ _ _ _ ⟨i4, fun _ => fin True, fun _ => kX11_fine p1 (by constructor <;> omega) (fun z => absurd z hw) (fun _ => ⟨by decide, fun _ => fin True, fun z => absurd rfl z⟩)⟩
  have wr155 : ∀ (μ1 : zM) (a x1 x2 x3 x5 : Int), (0 ≤ x3 ∧ x3 ≤ 10) → zsm (fun b j => zPp b j ∨ b = 157) μ0 μ1 → zPs μ1 T 80 a (zpcW T) → zpcW T ≠ -1 → 0 ≤ a → a ≤ 100 → J 155 ([some (zR (some 153)), some (zI x1), some (zI x2), some (zI x3), none, some (zI x5), none], [], μ1, 0, 0) := by
    intro μ1 a x1 x2 x3 x5 i3 g2 p1 hw a0 a1
    have nx : ∀ x2', J 186 ([some (zR (some 153)), some (zI x1), some (zI x2'), some (zI (x3 + 1)), none, none, none], [zI 0], μ1, 0, 0) := fun x2' =>
      rX11_picture_186 C _ _ _ _ ⟨by decide, fun z => absurd rfl z, fun _ => wr31 μ1 a _ _ _ _ (by decide) g2 p1 hw a0 a1⟩
    exact rX11_picture_155 C _ _ _ _ ⟨by constructor <;> omega, fun _ => kX11_fine p1 (by constructor <;> omega) (fun z => absurd z hw) (fun _ => ⟨by decide, fun _ => nx _, fun z => absurd rfl z⟩), fun _ => kX11_fine p1 (by constructor <;> omega) (fun z => absurd z hw) (fun _ => ⟨by decide, fun _ => nx _, fun z => absurd rfl z⟩)⟩
  have wr46 : ∀ (μ1 : zM) (a x1 x2 x3 x5 : Int), zin x2 → (0 ≤ x3 ∧ x3 ≤ 10) → zin x5 → zsm (fun b j => zPp b j ∨ b = 157) μ0 μ1 → zPs μ1 T 80 a (zpcW T) → zpcW T ≠ -1 → 0 ≤ a → a ≤ 100 → J 46 ([some (zR (some 153)), some (zI x1), some (zI x2), some (zI x3), none, some (zI x5), none], [], μ1, 0, 0) := by
    intro μ1 a x1 x2 x3 x5 i2 i3 i5 g2 p1 hw a0 a1
    refine rX11_picture_46 C _ _ _ _ (kX11_fine p1 (by constructor <;> omega) (fun z => absurd z hw) (fun _ => ⟨by decide, fun _ => ?_, fun z => absurd rfl z⟩))
    refine rX11_picture_137 C _ _ _ _ ⟨by constructor <;> omega, fun _ => wr155 μ1 a _ _ _ _ i3 g2 p1 hw a0 a1, fun _ => ⟨i5, i2, fun _ => wr155 μ1 a _ _ _ _ i3 g2 p1 hw a0 a1, fun _ => kX11_fault p1 (by constructor <;> omega) fun μ2 g3 p2 => ?_⟩⟩
    rw [if_neg hw] at p2
    exact wr155 μ2 a _ _ _ _ i3 (g2.trans (g3.mono (fun b j => by omega))) p2 hw a0 a1
  -- all was right: the picture hangs
  have good : ∀ (μ1 : zM) (x2 : Int), zpcW T = -1 → zsm (fun b j => zPp b j ∨ b = 157) μ0 μ1 → zPs μ1 T 80 T.length (-1) → x2 = zpW T → (∀ i, 0 ≤ i → i < zpcc T T.length → zi μ1 157 i = zplS T T.length i) → J 31 ([some (zR (some 153)), some (zI (zpcc T T.length)), some (zI x2), some (zI (zpH T)), some (zI 0), none, none], [], μ1, 0, 0) := by
    intro μ1 x2 hw g2 p1 e2 a1
    subst e2
    have hwl : zpcW T < 0 := by omega
    rw [if_pos hwl, if_pos hwl, if_pos hwl] at h
    have hcr := zpcc_r (zpcW_n hwl).1
    refine rX11_picture_31 C _ _ _ _ ⟨by decide, fun _ => kX11_wasRight p1 (by decide) hT (by omega) (by omega) fun μ2 g3 p2 => ?_, fun z => absurd rfl z⟩
    rw [if_pos ⟨rfl, by omega⟩]
    refine ⟨by decide, fun _ => ?_, fun z => absurd z (by decide)⟩
    have g23 : zsm (fun b j => zPp b j ∨ b = 157) μ0 μ2 := g2.trans (g3.mono (fun b j => by omega))
    have hM2 := hMs μ2 g23
    refine kX11_change hM2.1 hM2.2.1 fun μ3 g4 u3 => ?_
    have m3 := hM2.1.sm g4 (by omega)
    have g4' : zsm (fun b j => b = 154 ∨ b = 175 ∨ b = 177 ∨ (b = 153 ∧ j = 39)) μ2 μ3 := g4.mono (fun b j => by omega)
    refine zfor (lo := 0) (hi := 64) (by decide) (P := fun n => ∀ μ4, zsm (fun b _ => b = 154) μ3 μ4 → (∀ i, 0 ≤ i → i < 711 → zi μ4 154 i = if 638 ≤ i ∧ i < 638 + n then zpiS S T i else S i) → J 244 ([some (zR (some 153)), some (zI (zpcc T T.length)), some (zI (zpW T)), some (zI (zpH T)), none, some (zI n), none], [], μ4, 0, 0)) ?_ ?_ μ3 (zsm.refl _ _) (fun i i0 i1 => by rw [if_neg (by omega)]; exact m3 i i0 i1)
    · intro μ4 g5 m4
      refine rX11_picture_244 C _ _ _ _ ⟨by decide, fun _ => ?_, fun z => absurd (by decide) z⟩
      have g6 : zsm (fun b _ => b = 154) μ3 (zup (zup μ4 154 702 (zpW T)) 154 703 (zpH T)) := (g5.up _ rfl).up _ rfl
      refine h _ ((g0.trans (g23.mono (fun b j => by unfold zPW; omega))).trans ((g4'.trans (g6.mono (fun b j => by omega))).mono (fun b j => by unfold zPW; omega))) (hM2.st (g4'.trans (g6.mono (fun b j => by omega))) (fun b j z => z) (fun i i0 i1 => ?_) (u3.sm g6 (by omega) (by omega)))
      by_cases d3 : i = 703
      · rw [d3, zi_at, zpiS_3]
      · by_cases d2 : i = 702
        · rw [d2, zi_off (by omega), zi_at, zpiS_2]
        · rw [zi_off (by omega), zi_off (by omega), m4 i i0 i1]
          split
          · rfl
          · rw [zpiS_o (by omega)]
    · intro n n0 n1 ih μ4 g5 m4
      have fin : ∀ v, v = zpiS S T (638 + n) → J 244 ([some (zR (some 153)), some (zI (zpcc T T.length)), some (zI (zpW T)), some (zI (zpH T)), none, some (zI (n + 1)), none], [], zup μ4 154 (638 + n) v, 0, 0) := fun v ev => by
        rw [ev]
        refine ih _ (g5.up _ rfl) (fun i i0 i1 => ?_)
        by_cases d : i = 638 + n
        · rw [d, zi_at, if_pos (by omega)]
        · rw [zi_off (by omega), m4 i i0 i1]
          by_cases e : 638 ≤ i ∧ i < 638 + n
          · rw [if_pos e, if_pos (by omega)]
          · rw [if_neg e, if_neg (by omega)]
      refine rX11_picture_244 C _ _ _ _ ⟨by constructor <;> omega, fun z => absurd z (by omega), fun _ => ⟨by constructor <;> omega, fun z => ⟨by omega, fin 0 ?_⟩, fun z => ⟨by omega, by omega, fin _ ?_⟩⟩⟩
      · rw [zpiS_c n0 n1, if_neg (by omega)]
      · rw [zpiS_c n0 n1, if_pos (by omega), g5.1 _ _ (by omega), g4.1 _ _ (by omega), g3.1 _ _ (by omega)]
        exact a1 n n0 (by omega)
  rw [p0.1]
  refine ⟨by constructor <;> omega, fun c0 => ?_, fun c0 => ?_⟩
  · have hz : T.length = 0 := by omega
    have hw : zpcW T = -1 := by unfold zpcW; rw [hz]; rfl
    have := good μ0 0 hw (zsm.refl _ _) (by rw [hz]; exact p0) (by unfold zpW; rw [if_pos hz]) (fun i i0 i1 => by rw [hz] at i1; exact absurd i1 (by show ¬ i < 0; omega))
    rw [show zpcc T T.length = 0 by rw [hz]; rfl, show zpH T = 0 by unfold zpH; rw [if_pos hz]] at this
    exact this
  · -- sign by sign
    have key : ∀ (m p : Nat), m = T.length - p → p ≤ T.length → zpcF T p = -1 → ∀ (μ1 : zM) (x2 : Int), zsm (fun b j => zPp b j ∨ b = 157) μ0 μ1 → zPs μ1 T 80 p (-1) → (∀ i, 0 ≤ i → i < zpcc T p → zi μ1 157 i = zplS T p i) → (0 < (zpq T p).2.1 → x2 = (zpq T p).1) → zin x2 → J 46 ([some (zR (some 153)), some (zI (zpcc T p)), some (zI x2), some (zI (zpq T p).2.1), none, some (zI (zpq T p).2.2), none], [], μ1, 0, 0) := by
      intro m
      induction m using Nat.strongRecOn with
      | ind m IH =>
        intro p hm hp hf μ1 x2 g2 p1 a1 hx2 ix2
        have ih := fun (p' : Nat) (h1 : p < p') (h2 : p' ≤ T.length) => IH (T.length - p') (by omega) p' rfl h2
        obtain ⟨q1, q2, q3, q4, q5, q6⟩ := zpq_i hf
        have hcr := zpcc_r hf
        have hbad := fun hn hb => zpcW_b (T := T) hf hb hn
        have hg := fun hb => zpcF_g (T := T) hf hb
        have hend : p = T.length → 0 < (zpq T p).2.1 ∧ (zpq T p).2.2 < (zpq T p).1 → zpcW T = p := fun e d => by
          unfold zpcW
          rw [← e, if_neg (by omega), if_pos d]
        have hend2 : p = T.length → ¬ (0 < (zpq T p).2.1 ∧ (zpq T p).2.2 < (zpq T p).1) → zpcW T = -1 := fun e d => by
          unfold zpcW
          rw [← e, if_neg (by omega), if_neg d]
        have eW : p = T.length → zpW T = (zpq T p).2.2 := fun e => by unfold zpW; rw [if_neg (by omega), ← e]
        have eH : p = T.length → zpH T = (zpq T p).2.1 + 1 := fun e => by unfold zpH; rw [if_neg (by omega), ← e]
        have e1 : zat T p = 47 → zpq T (p + 1) = ((zpq T p).2.2, (zpq T p).2.1 + 1, 0) ∧ zpcc T (p + 1) = zpcc T p ∧ zplS T (p + 1) = zplS T p := fun z => ⟨by rw [zpq, if_pos z], by rw [zpcc, if_pos z], by rw [zplS, if_pos z]⟩
        have e2 : zat T p ≠ 47 → zpq T (p + 1) = ((zpq T p).1, (zpq T p).2.1, (zpq T p).2.2 + 1) ∧ zpcc T (p + 1) = zpcc T p + 1 ∧ zplS T (p + 1) = zupd (zplS T p) (zpcc T p) (zat T p - 97) := fun z => ⟨by rw [zpq, if_neg z], by rw [zpcc, if_neg z], by rw [zplS, if_neg z]⟩
        unfold zpbad at hbad hg
        generalize zpq T p = s at *
        obtain ⟨wi, ro, inr⟩ := s
        simp only at *
        have hher : p < T.length → zher T 80 p = zat T p := fun z => by unfold zher; rw [if_pos (by omega)]
        have hher2 : ¬ p < T.length → zher T 80 p = -1 := fun z => by unfold zher; rw [if_neg (by omega)]
        -- one letter
        have letter : inr ≠ wi → (inr = 0 ∨ (p < T.length ∧ zat T p ≠ 47)) → qX11_oneOf G 97 8 μ1 (fun v4 μ4 => qX11_fine G μ4 (fun v5 μ5 => zin v5 ∧ ((v5 = 0 → J 46 ([some (zR (some 153)), some (zI (zpcc T p)), some (zI x2), some (zI ro), none, some (zI (inr + 1)), none], [], μ5, 0, 0)) ∧ (¬ (v5 = 0) → (0 ≤ zpcc T p ∧ zpcc T p < 320) ∧ J 46 ([some (zR (some 153)), some (zI (zpcc T p + 1)), some (zI x2), some (zI ro), none, some (zI (inr + 1)), none], [], zup μ5 157 (zpcc T p) v4, 0, 0))))) := by
          intro hnw hc
          refine kX11_oneOf p1 (by decide) hT (by omega) (by omega) (by decide) (by decide) (by decide) (by decide) (fun z => absurd rfl z) (fun _ hb μ2 g3 p2 => ?_) (fun _ hb μ2 g3 p2 => ?_)
          · have hlt : p < T.length := by
              by_cases z : p < T.length
              · exact z
              · rw [hher2 z] at hb; omega
            rw [hher hlt] at hb
            obtain ⟨f1, f2, f3⟩ := e2 (by omega)
            have hnx := hg (by omega)
            refine kX11_fine p2 (by decide) (fun _ => ⟨by decide, fun z => absurd z (by decide), fun _ => ⟨by omega, ?_⟩⟩) (fun z => absurd rfl z)
            have gm : zsm (fun b j => zPp b j ∨ b = 157) μ0 (zup μ2 157 (zpcc T p) (zat T p - 97)) := (g2.trans (g3.mono (fun b j => by omega))).up _ (Or.inr rfl)
            have p3 : zPs (zup μ2 157 (zpcc T p) (zat T p - 97)) T 80 ((p : Int) + 1) (-1) := p2.sm ((zsm.refl (fun b _ => b = 157) _).up _ rfl) (fun j hj => by omega) (fun j => by omega)
            have := ih (p + 1) (by omega) (by omega) hnx _ x2 gm p3
            rw [f1, f2, f3] at this
            refine this (fun i i0 i1 => ?_) hx2 ix2
            by_cases d : i = zpcc T p
            · rw [d, zupd_at, zi_at]
            · rw [zupd_off d, zi_off (by omega), g3.1 _ _ (by omega)]; exact a1 i i0 (by omega)
          · have hw : zpcW T = p := by
              by_cases z : p < T.length
              · rw [hher z] at hb
                exact hbad z (by omega)
              · refine hend (by omega) ⟨?_, by omega⟩
                by_cases y : ro = 0
                · have := (q5 y).2; omega
                · omega
            refine kX11_fine p2 (by constructor <;> omega) (fun z => absurd z (by omega)) (fun _ => ⟨by decide, fun _ => ?_, fun z => absurd rfl z⟩)
            exact wr46 μ2 p _ _ _ _ ix2 (by omega) (by constructor <;> omega) (g2.trans (g3.mono (fun b j => by omega))) (by rw [hw]; exact p2) (by omega) (by omega) (by omega)
        -- the end of a row
        have wr0 : ∀ μ2, zsm zPp μ1 μ2 → zPs μ2 T 80 p p → zpcW T = p → J 155 ([some (zR (some 153)), some (zI (zpcc T p)), some (zI x2), some (zI ro), none, some (zI inr), none], [], μ2, 0, 0) := fun μ2 g3 p2 hw =>
          wr155 μ2 p _ _ _ _ (by omega) (g2.trans (g3.mono (fun b j => by omega))) (by rw [hw]; exact p2) (by omega) (by omega) (by omega)
        have last : ∀ x2', x2' = inr → inr ≠ 0 → (ro = 0 ∨ wi ≤ inr) → (p < T.length → zat T p = 47) → qX11_fine G μ1 (fun v3 μ3 => zin v3 ∧ ((v3 = 0 → J 186 ([some (zR (some 153)), some (zI (zpcc T p)), some (zI x2'), some (zI (ro + 1)), none, none, none], [zI 0], μ3, 0, 0)) ∧ (¬ (v3 = 0) → qX11_here G μ3 (fun v6 μ6 => zin v6 ∧ ((¬ v6 = 47 → J 186 ([some (zR (some 153)), some (zI (zpcc T p)), some (zI x2'), some (zI (ro + 1)), none, none, none], [zI 0], μ6, 0, 0)) ∧ (v6 = 47 → J 186 ([some (zR (some 153)), some (zI (zpcc T p)), some (zI x2'), some (zI (ro + 1)), none, none, none], [zI 1], μ6, 0, 0))))))) := by
          intro x2' ex hi0 hrow hs
          subst ex
          refine kX11_fine p1 (by decide) (fun _ => ⟨by decide, fun z => absurd z (by decide), fun _ => kX11_here p1 hT (by omega) (by omega) (by decide) ?_⟩) (fun z => absurd rfl z)
          have hhr := zher_r hT (top := 80) (a := (p : Int)) (by omega)
          refine ⟨by constructor <;> omega, fun c6 => ?_, fun c6 => ?_⟩
          · have hpl : p = T.length := by
              by_cases z : p < T.length
              · rw [hher z] at c6; exact absurd (hs z) c6
              · omega
            refine rX11_picture_186 C _ _ _ _ ⟨by decide, fun z => absurd rfl z, fun _ => ?_⟩
            have hw := hend2 hpl (by omega)
            have := good μ1 x2' hw g2 (by rw [← hpl]; exact p1) (eW hpl).symm (by rw [← hpl]; exact a1)
            rw [eH hpl, ← hpl] at this
            exact this
          · have hlt : p < T.length := by
              by_cases z : p < T.length
              · exact z
              · rw [hher2 z] at c6; omega
            have hs47 := hs hlt
            obtain ⟨f1, f2, f3⟩ := e1 hs47
            refine rX11_picture_186 C _ _ _ _ ⟨by decide, fun _ => ⟨by constructor <;> omega, fun c8 => ?_, fun c8 => ?_⟩, fun z => absurd z (by decide)⟩
            · have hnx := hg (by omega)
              rw [p1.2.2.1]
              have gm : zsm (fun b j => zPp b j ∨ b = 157) μ0 (zup μ1 153 8 ((p : Int) + 1)) := g2.up _ (Or.inl ⟨rfl, Or.inl rfl⟩)
              have p3 : zPs (zup μ1 153 8 ((p : Int) + 1)) T 80 ((p : Int) + 1) (-1) := ⟨by rw [zi_off (by decide)]; exact p1.1, by rw [zi_off (by decide)]; exact p1.2.1, zi_at, by rw [zi_off (by decide)]; exact p1.2.2.2.1, fun k hk => by rw [zi_off (by omega)]; exact p1.2.2.2.2 k hk⟩
              refine rX11_picture_31 C _ _ _ _ ⟨by decide, fun z => absurd z (by decide), fun _ => kX11_fine p3 (by decide) (fun _ => ⟨by decide, fun z => absurd z (by decide), fun _ => ?_⟩) (fun z => absurd rfl z)⟩
              have := ih (p + 1) (by omega) (by omega) hnx _ x2' gm p3
              rw [f1, f2, f3] at this
              exact this (fun i i0 i1 => by rw [zi_off (by omega)]; exact a1 i i0 i1) (fun _ => rfl) (by constructor <;> omega)
            · have hw := hbad hlt (by omega)
              rw [p1.2.2.1]
              refine kX11_fault p1 (by decide) fun μ2 g3 p2 => ?_
              rw [if_pos rfl] at p2
              have e8 : zi μ2 153 8 = p := p2.2.2.1
              rw [e8]
              have gm : zsm (fun b j => zPp b j ∨ b = 157) μ0 (zup μ2 153 8 ((p : Int) + 1)) := (g2.trans (g3.mono (fun b j => by omega))).up _ (Or.inl ⟨rfl, Or.inl rfl⟩)
              have p3 : zPs (zup μ2 153 8 ((p : Int) + 1)) T 80 ((p : Int) + 1) p := ⟨by rw [zi_off (by decide)]; exact p2.1, by rw [zi_off (by decide)]; exact p2.2.1, zi_at, by rw [zi_off (by decide)]; exact p2.2.2.2.1, fun k hk => by rw [zi_off (by omega)]; exact p2.2.2.2.2 k hk⟩
              exact wr31 _ ((p : Int) + 1) _ _ _ _ (by decide) gm (by rw [hw]; exact p3) (by omega) (by omega) (by omega)
        have rowend : inr ≠ 0 → (p < T.length → zat T p = 47) → J 137 ([some (zR (some 153)), some (zI (zpcc T p)), some (zI x2), some (zI ro), none, some (zI inr), none], [], μ1, 0, 0) := by
          intro hi0 hs
          have go : (ro = 0 ∨ wi ≤ inr) → J 155 ([some (zR (some 153)), some (zI (zpcc T p)), some (zI x2), some (zI ro), none, some (zI inr), none], [], μ1, 0, 0) := fun hrow =>
            rX11_picture_155 C _ _ _ _ ⟨by constructor <;> omega, fun z => last x2 (by have := hx2 (by omega); omega) hi0 hrow hs, fun z => last inr rfl hi0 hrow hs⟩
          refine rX11_picture_137 C _ _ _ _ ⟨by constructor <;> omega, fun z => go (Or.inl (by omega)), fun z => ⟨by constructor <;> omega, ix2, fun y => go (Or.inr (by have := hx2 (by omega); omega)), fun y => ?_⟩⟩
          have hxw := hx2 (by omega)
          rw [p1.2.2.1]
          refine kX11_fault p1 (by decide) fun μ2 g3 p2 => ?_
          rw [if_pos rfl] at p2
          refine wr0 μ2 g3 p2 ?_
          by_cases w : p < T.length
          · exact hbad w (Or.inl ⟨hs w, Or.inr (Or.inl (by omega))⟩)
          · exact hend (by omega) (by omega)
        -- what stands there
        have next : (inr = 0 ∨ (p < T.length ∧ zat T p ≠ 47)) → J 78 ([some (zR (some 153)), some (zI (zpcc T p)), some (zI x2), some (zI ro), none, some (zI inr), none], [], μ1, 0, 0) := by
          intro hc
          -- one sign too many in the row
          have many : inr = wi → qX11_fault G (zi μ1 153 8) μ1 (fun μ3 => qX11_oneOf G 97 8 μ3 (fun v4 μ4 => qX11_fine G μ4 (fun v5 μ5 => zin v5 ∧ ((v5 = 0 → J 46 ([some (zR (some 153)), some (zI (zpcc T p)), some (zI x2), some (zI ro), none, some (zI (inr + 1)), none], [], μ5, 0, 0)) ∧ (¬ (v5 = 0) → (0 ≤ zpcc T p ∧ zpcc T p < 320) ∧ J 46 ([some (zR (some 153)), some (zI (zpcc T p + 1)), some (zI x2), some (zI ro), none, some (zI (inr + 1)), none], [], zup μ5 157 (zpcc T p) v4, 0, 0)))))) := by
            intro hi
            have hc2 : p < T.length ∧ zat T p ≠ 47 := by rcases hc with z | z; omega; exact z
            have hw := hbad hc2.1 (Or.inr ⟨hc2.2, Or.inr (Or.inr hi)⟩)
            rw [p1.2.2.1]
            refine kX11_fault p1 (by decide) fun μ2 g3 p2 => ?_
            rw [if_pos rfl] at p2
            refine kX11_oneOf p2 (by constructor <;> omega) hT (by omega) (by omega) (by decide) (by decide) (by decide) (by decide) (fun _ => ?_) (fun z => absurd z (by omega)) (fun z => absurd z (by omega))
            refine kX11_fine p2 (by constructor <;> omega) (fun z => absurd z (by omega)) (fun _ => ⟨by decide, fun _ => ?_, fun z => absurd rfl z⟩)
            exact wr46 μ2 p _ _ _ _ ix2 (by omega) (by constructor <;> omega) (g2.trans (g3.mono (fun b j => by omega))) (by rw [hw]; exact p2) (by omega) (by omega) (by omega)
          refine rX11_picture_78 C _ _ _ _ ⟨by constructor <;> omega, fun z => many (by omega), fun z => ⟨by constructor <;> omega, fun y => letter (by have := (q5 (by omega)).1; omega) hc, fun y => ⟨ix2, fun x => letter (by have := hx2 (by omega); omega) hc, fun x => many (by have := hx2 (by omega); omega)⟩⟩⟩
        refine rX11_picture_46 C _ _ _ _ (kX11_fine p1 (by decide) (fun _ => ⟨by decide, fun z => absurd z (by decide), fun _ => ⟨by constructor <;> omega, fun z => next (Or.inl z), fun z => ?_⟩⟩) (fun z => absurd rfl z))
        rw [p1.1, p1.2.2.1]
        have hhr := zher_r hT (top := 80) (a := (p : Int)) (by omega)
        refine ⟨by constructor <;> omega, by constructor <;> omega, fun y => rowend z (fun w => absurd w (by omega)), fun y => kX11_here p1 hT (by omega) (by omega) (by decide) ⟨by constructor <;> omega, fun w => rowend z (fun v => by rw [← hher v]; exact w), fun w => next (Or.inr ⟨by omega, by rw [← hher (by omega)]; exact w⟩)⟩⟩
    refine rX11_picture_31 C _ _ _ _ ⟨by decide, fun z => absurd z (by decide), fun _ => kX11_fine p0 (by decide) (fun _ => ⟨by decide, fun z => absurd z (by decide), fun _ => ?_⟩) (fun z => absurd rfl z)⟩
    exact key T.length 0 (by omega) (by omega) rfl μ0 0 (zsm.refl _ _) p0 (fun i i0 i1 => absurd i1 (by show ¬ i < 0; omega)) (fun z => absurd z (by show ¬ (0 : Int) < 0; decide)) (by decide)
end
