/-! a link told: the reference, the whole call -/
section
variable {G : zG} {μ μ' : zM} {S : Int → Int} {W U : List (Int → Int)} {kp : Int → Int} {K : Int → Int → Int} {T R : List Int} {c : Int}
theorem zMa.rq (h : zMa μ S U kp K T R) (hm : zsm zPq μ μ') : zMa μ' S U kp K T R :=
  h.pub (hm.mono (fun b j z => by unfold zPM; omega)) (h.2.2.2.2.1.sm hm (by omega) (by omega))
theorem zval.lim {S : Int → Int} (h : zval S) : 8 ≤ S 704 ∧ S 704 ≤ 32 := ⟨h.2.2.2.2.2.2.2.1, by have := h.2.1; unfold zSet at this; omega⟩
theorem kX11_link {F : Int → zM → Prop} (hM : zMa μ S U kp K T R) (hv : zval S) (hle : zLe S) (hT : zTv T) (h : ∀ μ', zsm zPW μ μ' → zMa μ' (zliS S T) (zliU S U T) kp K [] R → F (zliA S T) μ') : qX11_link G μ F := by
  have hN := zN2_le (most := 40) hT
  have hs := zN2_s T (most := 40) (by decide)
  have hl := hT.1
  have hlim := hv.lim
  have g0 : zsm zPW μ (zup μ 153 5 0) := (zsm.refl _ _).up _ (by decide)
  have hM := hM.pub (zMthr μ) hM.2.2.2.2.1.thr
  unfold zliS zliU zliA at h
  refine eX11_link fun J C => rX11_link_e C ?_
  generalize zup μ 153 5 0 = μ0 at *
  refine kX11_begin hM fun μ1 _ g1 hM1 p1 => ?_
  have g2 : zsm zPq μ1 (zup μ1 153 11 0) := (zsm.refl _ _).up _ (by decide)
  have hM2 := hM1.rq g2
  have p2 : zPs (zup μ1 153 11 0) T 40 ((0 : Nat) : Int) (-1) := ⟨by rw [zi_off (by decide)]; exact p1.1, by rw [zi_off (by decide)]; exact p1.2.1, by rw [zi_off (by decide)]; exact p1.2.2.1, by rw [zi_off (by decide)]; exact p1.2.2.2.1, fun k hk => by rw [zi_off (by omega)]; exact p1.2.2.2.2 k hk⟩
  have f2 : zi (zup μ1 153 11 0) 153 11 = 0 := zi_at
  have g2 : zsm zPW μ (zup μ1 153 11 0) := (g0.trans g1).trans (g2.mono (fun b j => by unfold zPW; omega))
  generalize zup μ1 153 11 0 = μ2 at *
  -- something is wrong
  have wrong : ∀ (v : Int) (μ3 : zM), zsm zPW μ μ3 → zMa μ3 S U kp K [] R → zi μ3 153 9 = zwr0 T 1 40 → 0 ≤ zwr0 T 1 40 → F (-1 - zi μ3 153 9) μ3 := by
    intro v μ3 g3 m3 e3 h0
    have h := h μ3 g3
    rw [if_pos h0, if_pos h0, if_pos h0] at h
    rw [e3]
    exact h m3
  refine eX11_readSteps fun J3 C3 => rX11_readSteps_e C3 _ ?_
  refine kX11_linkSteps (T := T) (A := zwr0 T 1 40) (lim := S 704) (L := S 613) hT hlim (zN2 T 40) (d := 0) (a := 0) (t := 0) C3 (by decide) (by decide) (Nat.sub_le _ _) (Nat.zero_le _) p2 (hM2.1 613 (by decide) (by decide)) rfl (fun v μ3 g3 b3 => ?_) (fun e t' v μ3 g3 e0 e1 p3 A3 s3 w3 v3 fl3 => ?_)
  · have m3 := hM2.rq g3
    obtain ⟨a, a1, a2, a3, a4⟩ := b3
    refine kX11_wasRight a2 (by constructor <;> omega) hT (by omega) (by omega) fun μ4 g4 p4 => ?_
    rw [if_neg (by omega)] at p4
    rw [if_neg (by omega)]
    exact ⟨by decide, fun z => absurd rfl z, fun _ => wrong v μ4 ((g2.trans (g3.mono (fun b j => by unfold zPW; omega))).trans (g4.mono (fun b j => by unfold zPW; omega))) (m3.rd g4 (fun b j => by omega)) p4.2.2.2.1 a3⟩
  · have m3 := hM2.rq g3
    have g3' : zsm zPW μ μ3 := g2.trans (g3.mono (fun b j => by unfold zPW; omega))
    rw [Int.zero_add]
    refine kX11_wasRight p3 (by decide) hT (by omega) (by omega) fun μ4 g4 p4 => ?_
    have g4' : zsm zPW μ μ4 := g3'.trans (g4.mono (fun b j => by unfold zPW; omega))
    have m4 := m3.rd g4 (fun b j => by omega)
    by_cases ce : (e : Int) < T.length
    · rw [if_pos ⟨rfl, ce⟩] at p4
      rw [if_neg (fun z => z.2 ce)]
      have hAa : zwr0 T 1 40 = e := by
        by_cases y : e < zN2 T 40
        · have l0 : (zstx (zsf (zat T e))).length = 0 := by
            by_cases y3 : 0 < (zstx (zsf (zat T e))).length
            · exact absurd (zsf_at _ y3) (s3 y)
            · omega
          obtain ⟨m, hm⟩ : ∃ m, zN2 T 40 - e = m + 1 := ⟨zN2 T 40 - e - 1, by omega⟩
          rw [← A3, hm, zwro, if_neg (by omega), if_pos rfl, zfor3_1, if_pos (Or.inl l0)]
        · rw [← A3, show zN2 T 40 - e = 0 by omega, zwro, if_pos (by omega)]; omega
      exact ⟨by decide, fun z => absurd rfl z, fun _ => wrong v μ4 g4' m4 (by rw [p4.2.2.2.1, hAa]) (by rw [hAa]; omega)⟩
    · rw [if_neg (fun z => ce z.2)] at p4
      rw [if_pos ⟨rfl, ce⟩]
      have ee : e = T.length := by omega
      have hw : ¬ 0 ≤ zwr0 T 1 40 := by
        rw [← A3, show zN2 T 40 - e = 0 by omega, zwro, if_neg (by omega), if_neg (by omega)]; decide
      have ev : v = zlnV S T := by rw [v3, ee]; rfl
      rw [if_neg hw, if_neg hw, if_neg hw] at h
      have hvr := zlnV_r hv hle hlim hT hw
      have hage : 0 ≤ S 612 ∧ S 612 ≤ 6 := hv.2.2.2.2.1.1
      have asc := zWF_asc _ _ _ _ w3
      have efl : (zi μ4 153 11 = zhpI T) := by
        rw [g4.1 _ _ (by omega)]
        rcases zhpI_r T with ⟨q1, k, q2, q3⟩ | ⟨q1, q2⟩
        · rcases fl3 with ⟨f1, -⟩ | ⟨-, f1⟩
          · rw [f1, q1]
          · exact absurd q3 (f1 k (Nat.zero_le _) (by omega))
        · rcases fl3 with ⟨-, k, -, q3, q4⟩ | ⟨f1, -⟩
          · exact absurd q4 (q2 k (by omega))
          · rw [f1, f2, q1]
      subst ev
      -- the AGE is known
      have last : J 68 ([some (zR (some 153)), some (zI (zlnV S T)), none, none], [zI (zlnG S T)], μ4, 0, 0) := by
        have hG : 0 ≤ zlnG S T ∧ zlnG S T ≤ 7 := by unfold zlnG; split <;> (try split) <;> omega
        have hG0 : zlnG S T = 0 → T.length = 0 := fun z => by
          by_cases y : T.length = 0
          · exact y
          · unfold zlnG at z; rw [if_neg y] at z; split at z <;> omega
        refine rX11_link_68 C _ _ ⟨by constructor <;> omega, fun z => ⟨by constructor <;> omega, fun y => ?_, fun y => ?_⟩, fun z => ?_⟩
        · rw [if_neg (show ¬ 500 < zlnV S T by omega), if_neg (show ¬ 500 < zlnV S T by omega), if_neg (show ¬ 500 < zlnV S T by omega), if_neg (show ¬ 6 < zlnG S T by omega), if_neg (show ¬ 6 < zlnG S T by omega), if_neg (show ¬ 6 < zlnG S T by omega)] at h
          refine kX11_change m4.1 m4.2.1 fun μ5 g5 u5 => ?_
          have m5 : zMa μ5 S (zpush U S) kp K [] R := m4.st g5 (fun b j => by omega) (m4.1.sm g5 (by omega)) u5
          have g5' : zsm zPW μ μ5 := g4'.trans (g5.mono (fun b j => by unfold zPW; omega))
          have p5 : zi μ5 153 6 = T.length := by rw [g5.1 _ _ (by omega)]; exact p4.1
          have t5 : ∀ k : Nat, k < T.length → zi μ5 155 k = zat T k := fun k hk => by
            rw [g5.1 _ _ (by omega), p4.2.2.2.2 k hk]
            have := asc k (by omega) (by omega)
            rw [zsT_at (by omega) (by omega)] at this
            exact if_pos this
          have s0 : zMs (zup (zup μ5 154 612 (zlnG S T)) 154 613 (zlnV S T)) (zupd (zupd S 612 (zlnG S T)) 613 (zlnV S T)) := (m5.1.up _ _).up _ _
          have g6 : zsm (fun b _ => b = 154) μ5 (zup (zup μ5 154 612 (zlnG S T)) 154 613 (zlnV S T)) := ((zsm.refl _ _).up _ rfl).up _ rfl
          have fin : ∀ μ7, zsm (fun b _ => b = 154) μ5 μ7 → zMs μ7 (zlnW S T (zlnG S T) (zlnV S T)) → F (zlnV S T) μ7 := fun μ7 g7 m7 =>
            h μ7 (g5'.trans (g7.mono (fun b j => by unfold zPW; omega))) (m5.st g7 (fun b j => by omega) m7 (m5.2.1.sm g7 (by omega) (by omega)))
          generalize zup (zup μ5 154 612 (zlnG S T)) 154 613 (zlnV S T) = μ6 at *
          refine ⟨fun x => ?_, fun x => ?_⟩
          · refine zfor (lo := 0) (hi := (T.length : Int)) (by omega) (P := fun n => ∀ μ7, zsm (fun b _ => b = 154) μ6 μ7 → (∀ i, 0 ≤ i → i < 711 → zi μ7 154 i = if 360 + 40 * (zlnG S T - 1) ≤ i ∧ i < 360 + 40 * (zlnG S T - 1) + n then zat T (i - (360 + 40 * (zlnG S T - 1))) else zupd (zupd S 612 (zlnG S T)) 613 (zlnV S T) i) → J 120 ([some (zR (some 153)), some (zI (zlnV S T)), some (zI (zlnG S T)), some (zI n)], [], μ7, 0, 0)) ?_ ?_ μ6 (zsm.refl _ _) (fun i i0 i1 => by rw [if_neg (by omega)]; exact s0 i i0 i1)
            · intro μ7 g7 a7
              refine rX11_link_120 C _ _ _ ?_
              rw [g7.1 153 6 (by decide), g6.1 153 6 (by decide), p5]
              refine ⟨by constructor <;> omega, by constructor <;> omega, fun _ => ⟨by omega, by omega, ?_⟩, fun z => absurd (Int.le_refl _) z⟩
              refine fin _ (((g6.trans g7).up _ rfl).up _ rfl) (fun i i0 i1 => ?_)
              have e704 : zi (zup μ7 154 (600 + zlnG S T - 1) (T.length : Int)) 154 704 = S 704 := by
                rw [zi_off (by omega), a7 704 (by decide) (by decide), if_neg (by omega), zupd_off (by decide), zupd_off (by decide)]
              rw [e704]
              unfold zlnW
              by_cases c1 : i = 606 + zlnG S T - 1
              · rw [c1, zi_at, if_neg (by omega), if_neg (by omega), if_neg x, if_neg (by omega), if_pos rfl]
              · rw [zi_off (by omega)]
                by_cases c2 : i = 600 + zlnG S T - 1
                · rw [c2, zi_at, if_neg (by omega), if_neg (by omega), if_neg x, if_pos rfl]
                · rw [zi_off (by omega), a7 i i0 i1]
                  by_cases c3 : i = 612
                  · rw [if_neg (by omega), if_pos c3, c3, zupd_off (by decide), zupd_at]
                  · by_cases c4 : i = 613
                    · rw [if_neg (by omega), if_neg c3, if_pos c4, c4, zupd_at]
                    · rw [if_neg c3, if_neg c4, if_neg x, if_neg c2, if_neg c1]
                      by_cases c5 : 360 + 40 * (zlnG S T - 1) ≤ i ∧ i < 360 + 40 * (zlnG S T - 1) + T.length
                      · rw [if_pos c5, if_pos c5]
                      · rw [if_neg c5, if_neg c5, zupd_off c4, zupd_off c3]
            · intro n n0 n1 ih μ7 g7 a7
              refine rX11_link_120 C _ _ _ ?_
              rw [g7.1 153 6 (by decide), g6.1 153 6 (by decide), p5]
              refine ⟨by constructor <;> omega, by constructor <;> omega, fun z => absurd z (by omega), fun _ => ⟨by omega, by omega, ?_⟩⟩
              have t7 := t5 n.toNat (by omega)
              rw [show ((n.toNat : Nat) : Int) = n by omega] at t7
              rw [g7.1 155 n (by omega), g6.1 155 n (by omega), t7]
              refine ih _ (g7.up _ rfl) (fun i i0 i1 => ?_)
              by_cases c1 : i = 360 + 40 * (zlnG S T - 1) + n
              · rw [c1, zi_at, if_pos (by omega), show 360 + 40 * (zlnG S T - 1) + n - (360 + 40 * (zlnG S T - 1)) = n by omega]
              · rw [zi_off (by omega), a7 i i0 i1]
                by_cases c2 : 360 + 40 * (zlnG S T - 1) ≤ i ∧ i < 360 + 40 * (zlnG S T - 1) + n
                · rw [if_pos c2, if_pos (by omega)]
                · rw [if_neg c2, if_neg (by omega)]
          · refine fin μ6 g6 (fun i i0 i1 => ?_)
            rw [s0 i i0 i1]
            unfold zlnW
            by_cases c3 : i = 612
            · rw [if_pos c3, c3, zupd_off (by decide), zupd_at]
            · by_cases c4 : i = 613
              · rw [if_neg c3, if_pos c4, c4, zupd_at]
              · rw [if_neg c3, if_neg c4, if_pos x, zupd_off c4, zupd_off c3]
        · rw [if_neg (show ¬ 500 < zlnV S T by omega), if_neg (show ¬ 500 < zlnV S T by omega), if_neg (show ¬ 500 < zlnV S T by omega), if_pos (show 6 < zlnG S T by omega), if_pos (show 6 < zlnG S T by omega), if_pos (show 6 < zlnG S T by omega)] at h
          exact h μ4 g4' m4
        · rw [if_pos (show 500 < zlnV S T by omega), if_pos (show 500 < zlnV S T by omega), if_pos (show 500 < zlnV S T by omega)] at h
          exact h μ4 g4' m4
      refine ⟨by decide, fun _ => ?_, fun z => absurd z (by decide)⟩
      rw [p4.1]
      refine ⟨by constructor <;> omega, fun z => ?_, fun z => ?_⟩
      · rw [efl]
        refine ⟨by rcases zhpI_r T with q | q <;> rw [q.1] <;> decide, fun y => ?_, fun y => ?_⟩
        · have e : zlnG S T = 1 := by unfold zlnG; rw [if_neg (by omega), if_pos y]
          rw [e] at last; exact last
        · have e : zlnG S T = S 612 + 1 := by unfold zlnG; rw [if_neg (by omega), if_neg y]
          rw [m4.1 612 (by decide) (by decide)]
          rw [e] at last; exact last
      · have e : zlnG S T = 0 := by unfold zlnG; rw [if_pos (by omega)]
        rw [e] at last; exact last
end
