/-! rounds -/
noncomputable def zob (S : Int → Int) (p : Int) : Nat → Int
  | 0 => p
  | n + 1 => zlk S (zob S p n)
theorem zob_pl {S : Int → Int} (hcv : zCv S) (hw : zLw S) {p : Int} (hp : zPl p) : ∀ n, zPl (zob S p n)
  | 0 => hp
  | n + 1 => zlk_pl hcv hw _
def zobD (S : Int → Int) (p : Int) (n : Nat) : Prop := ∀ i j, i < n → j < n → zob S p i = zob S p j → i = j
theorem zobD_le {S : Int → Int} (hcv : zCv S) (hw : zLw S) {p : Int} (hp : zPl p) {n : Nat} (h : zobD S p n) : n ≤ 6561 := by
  have := zpig 6561 ((List.range n).map (zob S p)) (by
    rw [List.pairwise_map]
    refine List.Pairwise.imp_of_mem (R := fun a b => a < b) (fun {a b} ha hb hab z => ?_) List.pairwise_lt_range
    have := h a b (List.mem_range.1 ha) (List.mem_range.1 hb) z
    omega) (fun x hx => by
      obtain ⟨i, _, e⟩ := List.mem_map.1 hx
      have := zob_pl hcv hw hp i
      rw [← e]; exact ⟨this.1, by have := this.2; omega⟩)
  rw [List.length_map, List.length_range] at this
  exact this
noncomputable def zobE (S : Int → Int) (p : Int) : Nat × Nat := Classical.epsilon (fun q : Nat × Nat => zobD S p q.1 ∧ q.2 < q.1 ∧ zob S p q.1 = zob S p q.2)
theorem zobE_e {S : Int → Int} {p : Int} {n b : Nat} (h : zobD S p n) (hb : b < n) (he : zob S p n = zob S p b) : zobE S p = (n, b) := by
  obtain ⟨h1, h2, h3⟩ : zobD S p (zobE S p).1 ∧ (zobE S p).2 < (zobE S p).1 ∧ zob S p (zobE S p).1 = zob S p (zobE S p).2 := Classical.epsilon_spec (p := fun q : Nat × Nat => zobD S p q.1 ∧ q.2 < q.1 ∧ zob S p q.1 = zob S p q.2) ⟨(n, b), h, hb, he⟩
  have hn : (zobE S p).1 = n := by
    rcases Nat.lt_trichotomy (zobE S p).1 n with c | c | c
    · have := h _ _ c (Nat.lt_trans h2 c) h3; omega
    · exact c
    · have := h1 _ _ c (Nat.lt_trans hb c) he; omega
  rw [hn] at h2 h3
  have hbb : (zobE S p).2 = b := h _ _ h2 hb (by rw [← h3, he])
  exact Prod.ext hn hbb
/-- the lowest of the round, after k more steps -/
noncomputable def zobm (S : Int → Int) (p : Int) (n : Nat) : Nat → Int
  | 0 => zob S p n
  | k + 1 => min (zobm S p n k) (zob S p (n + k + 1))
theorem zobm_le (S : Int → Int) (p : Int) (n : Nat) : ∀ k, zobm S p n k ≤ zob S p n
  | 0 => Int.le_refl _
  | k + 1 => Int.le_trans (Int.min_le_left _ _) (zobm_le S p n k)
theorem zobm_pl {S : Int → Int} (hcv : zCv S) (hw : zLw S) {p : Int} (hp : zPl p) (n : Nat) : ∀ k, zPl (zobm S p n k)
  | 0 => zob_pl hcv hw hp n
  | k + 1 => by
    have h1 := zobm_pl hcv hw hp n k
    have h2 := zob_pl hcv hw hp (n + k + 1)
    show 0 ≤ min (zobm S p n k) (zob S p (n + k + 1)) ∧ min (zobm S p n k) (zob S p (n + k + 1)) < 6561
    omega
theorem zob_per {S : Int → Int} {p : Int} {n b : Nat} (he : zob S p n = zob S p b) : ∀ k, zob S p (n + k) = zob S p (b + k)
  | 0 => he
  | k + 1 => by
    show zlk S (zob S p (n + k)) = zlk S (zob S p (b + k))
    rw [zob_per he k]
theorem zobm_c {S : Int → Int} {p : Int} {n b : Nat} (hb : b < n) (he : zob S p n = zob S p b) : zobm S p n (n - b) = zobm S p n (n - b - 1) := by
  obtain ⟨k, hk⟩ : ∃ k, n - b = k + 1 := ⟨n - b - 1, by omega⟩
  rw [hk]
  show min (zobm S p n k) (zob S p (n + k + 1)) = zobm S p n k
  have h1 : zob S p (n + (k + 1)) = zob S p (b + (k + 1)) := zob_per he (k + 1)
  rw [show b + (k + 1) = n by omega] at h1
  rw [show n + k + 1 = n + (k + 1) by omega, h1]
  have := zobm_le S p n k
  omega
theorem zcd_min {a b : Int} (ha : zPl a) (hb : zPl b) : min (zcd a) (zcd b) = zcd (min a b) := by
  have h1 := zcd_lt ha hb; have h2 := zcd_lt hb ha
  by_cases c : a ≤ b
  · rw [Int.min_eq_left c]
    apply Int.min_eq_left
    by_cases d : zcd b < zcd a
    · have := h2.1 d; omega
    · omega
  · have := h2.2 (by omega)
    rw [Int.min_eq_right (show b ≤ a by omega)]
    exact Int.min_eq_right (by omega)
/-- the marks: when each place of the way was met -/
def zobI (μ : zM) (a : Nat) (S : Int → Int) (p : Int) (n : Nat) : Prop := ∀ x, 0 ≤ x → x < 6561 → (zi μ a x = -1 ∧ (∀ i, i < n → zob S p i ≠ x)) ∨ (∃ i, i < n ∧ zob S p i = x ∧ zi μ a x = (i : Int))
theorem zobI.step {μ μ' : zM} {a : Nat} {S : Int → Int} {p : Int} {n : Nat} (h : zobI μ a S p n) (hd : zobD S p n) (hp : zPl (zob S p n)) (hn : zi μ a (zob S p n) = -1) (hs : ∀ x, x ≠ zob S p n → zi μ' a x = zi μ a x) (hs2 : zi μ' a (zob S p n) = (n : Int)) : zobI μ' a S p (n + 1) ∧ zobD S p (n + 1) := by
  have hnew : ∀ i, i < n → zob S p i ≠ zob S p n := by
    rcases h _ hp.1 hp.2 with ⟨_, h1⟩ | ⟨i, hi, e, h1⟩
    · exact h1
    · rw [hn] at h1; omega
  refine ⟨fun x x0 x1 => ?_, fun i j hi hj e => ?_⟩
  · by_cases c : x = zob S p n
    · exact Or.inr ⟨n, by omega, c.symm, by rw [c]; exact hs2⟩
    · rw [hs x c]
      rcases h x x0 x1 with ⟨h1, h2⟩ | ⟨i, hi, e, h1⟩
      · refine Or.inl ⟨h1, fun i hi => ?_⟩
        by_cases d : i = n
        · rw [d]; exact fun z => c z.symm
        · exact h2 i (by omega)
      · exact Or.inr ⟨i, by omega, e, h1⟩
  · by_cases c : i = n
    · by_cases d : j = n
      · rw [c, d]
      · rw [c] at e; exact absurd e.symm (hnew j (by omega))
    · by_cases d : j = n
      · rw [d] at e; exact absurd e (hnew i (by omega))
      · exact hd i j (by omega) (by omega) e
/-- the answer: when the round begins, how long it is, its lowest place -/
noncomputable def zobA (S : Int → Int) (p : Int) : Int := ((zobE S p).2 : Nat)
noncomputable def zobN (S : Int → Int) (p : Int) : Int := ((zobE S p).1 : Int) - ((zobE S p).2 : Int)
noncomputable def zobL (S : Int → Int) (p : Int) : Int := zcd (zobm S p (zobE S p).1 ((zobE S p).1 - (zobE S p).2))
section
variable {G : zG} {μ : zM} {S : Int → Int}
theorem kX10_rounds {F : Int → zM → Prop} {R : List Int} (hX : zXs μ 5 S) (hL : zLnk S μ (zr μ 5 8)) (hcv : zCv S) (hw : zLw S) (hc : zXc μ) (hR : zXr μ R) {c : Int} (ic : zin c) (h : ∀ μ', zsm zPX μ μ' → zXc μ' → zXr μ' (if zisc c then [zobN S (zpc c), zobL S (zpc c)] else R) → F (if zisc c then zobA S (zpc c) else -1) μ') : qX10_rounds G c μ F := by
  refine eX10_rounds fun J C => rX10_rounds_e C _ (kX10_placeOf ic (fun hc1 => ?_) (fun hc1 => ⟨by decide, fun z => absurd z (by decide), fun _ => ?_⟩))
  · have hp := zpc_pl hc1
    obtain ⟨p0, p1⟩ := id hp
    rw [if_pos hc1, if_pos hc1] at h
    generalize zpc c = p at *
    refine ⟨by constructor <;> omega, fun _ => kJ7_fill zk134 (by decide) fun μ1 g1 f1 => ?_, fun z => absurd p0 z⟩
    -- the round itself
    have fin : ∀ (n b : Nat) (μ2 : zM), n ≤ 6561 → b < n → zobD S p n → zob S p n = zob S p b → zsm (fun b _ => b = 134 ∨ b = 129) μ μ2 → J 78 ([some (zR (some 0)), none, some (zI (zob S p n)), some (zI (n : Int)), some (zI (b : Int)), some (zI (zob S p n)), some (zI (b : Int))], [], μ2, 0, 0) := by
      intro n b μ2 hn hb hd he g2
      have hE := zobE_e hd hb he
      have key : ∀ k : Nat, k ≤ n - b → ∀ μ3, zsm (fun b _ => b = 134 ∨ b = 129) μ μ3 → J 78 ([some (zR (some 0)), none, some (zI (zob S p (n + k))), some (zI (n : Int)), some (zI (b : Int)), some (zI (zobm S p n k)), some (zI ((b : Int) + (k : Int)))], [], μ3, 0, 0) := by
        intro k
        obtain ⟨m, hm⟩ : ∃ m, m = n - b - k := ⟨_, rfl⟩
        induction m generalizing k with
        | zero =>
          intro hk μ3 g3
          have hk2 : k = n - b := by omega
          refine rX10_rounds_78 C _ _ _ _ _ ⟨by constructor <;> omega, by constructor <;> omega, fun _ => kX6_clear fun μ4 g4 r4 => ⟨by constructor <;> omega, kX6_append r4 (by simp) fun μ5 g5 r5 => kX10_codeOf (zobm_pl hcv hw hp n k) ⟨?_, kX6_append r5 (by simp) fun μ6 g6 r6 => ?_⟩⟩, fun z => absurd (by omega) z⟩
          · have := zcd_r (p := zobm S p n k); constructor <;> omega
          · have gx : zsm zPX μ μ6 := (((g3.mono (fun b j => by unfold zPX; omega)).trans (zXrow g4)).trans (zXrow g5)).trans (zXrow g6)
            have e1 : zobA S p = (b : Int) := by unfold zobA; rw [hE]
            have e2 : zobN S p = (n : Int) - (b : Int) := by unfold zobN; rw [hE]
            have e3 : zobL S p = zcd (zobm S p n k) := by unfold zobL; rw [hE, hk2]
            have := h μ6 gx (((hc.sm g3 (by omega)).sm g4 (by omega)).sm g5 (by omega) |>.sm g6 (by omega)) (by rw [e2, e3]; exact r6)
            rw [e1] at this
            exact this
        | succ m ih =>
          intro hk μ3 g3
          have q1 := zob_pl hcv hw hp (n + k)
          have q2 := zob_pl hcv hw hp (n + k + 1)
          have q3 := zobm_pl hcv hw hp n k
          refine rX10_rounds_78 C _ _ _ _ _ ⟨by constructor <;> omega, by constructor <;> omega, fun z => absurd z (by omega), fun _ => ?_⟩
          refine kX10_linked (by rw [g3.2.1]; exact hL.sm g3 (fun b j hb z => by have := zlb_n hb; omega)) hcv hw (hX.sm g3 (by omega)).2.2.2.1 q1 fun μ4 g4 => ⟨by constructor <;> omega, ?_, ?_⟩
          · show zin (zob S p (n + k + 1)); constructor <;> omega
          · have := ih (k + 1) (by omega) (by omega) μ4 (g3.trans (g4.mono (fun b j => by omega)))
            exact this
      exact key 0 (by omega) μ2 g2
    -- the way into it
    have I0 : zobI μ1 134 S p 0 := fun x x0 x1 => Or.inl ⟨f1 x x0 (by omega), fun i hi => absurd hi (by omega)⟩
    have key : ∀ (m n : Nat), m = 6561 - n → n ≤ 6561 → ∀ μ2, zsm (fun b _ => b = 134 ∨ b = 129) μ μ2 → zobD S p n → zobI μ2 134 S p n → J 24 ([some (zR (some 0)), none, some (zI (zob S p n)), some (zI (n : Int)), some (zI (n : Int)), none, none], [], μ2, 0, 0) := by
      intro m
      induction m with
      | zero =>
        intro n hm hn μ2 g2 hd hI
        have hq := zob_pl hcv hw hp n
        have hn2 : n = 6561 := by omega
        refine rX10_rounds_24 C _ _ _ ⟨by constructor <;> omega, fun z => absurd z (by omega), fun _ => ⟨hq, ?_⟩⟩
        rcases hI _ hq.1 hq.2 with ⟨h1, h2⟩ | ⟨i, hi, e, h1⟩
        · have hd2 : zobD S p (n + 1) := fun i j hi hj e => by
            by_cases c : i = n
            · by_cases d : j = n
              · rw [c, d]
              · rw [c] at e; exact absurd e.symm (h2 j (by omega))
            · by_cases d : j = n
              · rw [d] at e; exact absurd e (h2 i (by omega))
              · exact hd i j (by omega) (by omega) e
          have := zobD_le hcv hw hp hd2
          omega
        · refine ⟨by rw [h1]; constructor <;> omega, fun _ => ?_, fun z => absurd (by omega) z⟩
          rw [h1]
          exact fin n i μ2 hn hi hd e.symm g2
      | succ m ih =>
        intro n hm hn μ2 g2 hd hI
        have hq := zob_pl hcv hw hp n
        refine rX10_rounds_24 C _ _ _ ⟨by constructor <;> omega, fun z => absurd z (by omega), fun _ => ⟨hq, ?_⟩⟩
        rcases hI _ hq.1 hq.2 with ⟨h1, h2⟩ | ⟨i, hi, e, h1⟩
        · refine ⟨by rw [h1]; decide, fun z => absurd z (by omega), fun _ => ?_⟩
          have g3 : zsm (fun b _ => b = 134 ∨ b = 129) μ (zup μ2 134 (zob S p n) n) := g2.up _ (Or.inl rfl)
          refine kX10_linked (by rw [g3.2.1]; exact hL.sm g3 (fun b j hb z => by have := zlb_n hb; omega)) hcv hw (hX.sm g3 (by omega)).2.2.2.1 hq fun μ4 g4 => ?_
          obtain ⟨I1, D1⟩ := hI.step (μ' := μ4) hd hq h1 (fun x hx => by rw [g4.1 _ _ (by omega), zi_up]; simp [hx]) (by rw [g4.1 _ _ (by omega), zi_up]; simp)
          exact ih (n + 1) (by omega) (by omega) μ4 (g3.trans (g4.mono (fun b j => by omega))) D1 I1
        · refine ⟨by rw [h1]; constructor <;> omega, fun _ => ?_, fun z => absurd (by omega) z⟩
          rw [h1]
          exact fin n i μ2 hn hi hd e.symm g2
    exact key 6561 0 (by omega) (by omega) μ1 (g1.mono (fun b j => by omega)) (fun i j hi => absurd hi (by omega)) I0
  · rw [if_neg hc1, if_neg hc1] at h
    exact h _ (zsm.refl _ _) hc hR
theorem kX11_rounds {F : Int → zM → Prop} {R : List Int} (hM : zMs μ S) (hz : zSx S) (hcv : zCv S) (hw : zLw S) (hR : zMr μ R) {c : Int} (ic : zin c) (h : ∀ μ', zsm zPM μ μ' → zMr μ' (if zisc c then [zobN S (zpc c), zobL S (zpc c)] else R) → F (if zisc c then zobA S (zpc c) else -1) μ') : qX11_rounds G c μ F := by
  have g0 := zMthr μ
  refine eX11_rounds fun J C => rX11_rounds_e C _ (kX11_isCode ic (fun hc1 => ⟨by decide, fun _ => ?_, fun z => absurd z (by decide)⟩) (fun hc1 => ⟨by decide, fun z => absurd rfl z, fun _ => ?_⟩))
  · have hp := zpc_pl hc1
    have hcp : c = zcd (zpc c) := (zpc_cd hc1).symm
    obtain ⟨p0, p1⟩ := id hp
    rw [if_pos hc1, if_pos hc1] at h
    have hM1 := hM.pm g0
    have hR1 := hR.thr
    generalize zpc c = p at *
    subst hcp
    generalize zup μ 153 5 0 = μ0 at *
    -- the round itself
    have fin : ∀ (n b : Nat) (μ2 : zM), n ≤ 6561 → b < n → zobD S p n → zob S p n = zob S p b → zsm (fun b _ => b = 167 ∨ b = 164) μ0 μ2 → J 98 ([some (zR (some 153)), none, some (zI (zcd (zob S p n))), none, some (zI (b : Int)), some (zI (zcd (zob S p n))), some (zI ((n : Int) - (b : Int))), some (zI 0)], [], μ2, 0, 0) := by
      intro n b μ2 hn hb hd he g2
      have hE := zobE_e hd hb he
      have key : ∀ k : Nat, k ≤ n - b → ∀ μ3, zsm (fun b _ => b = 167 ∨ b = 164) μ0 μ3 → J 98 ([some (zR (some 153)), none, some (zI (zcd (zob S p (n + k)))), none, some (zI (b : Int)), some (zI (zcd (zobm S p n (k - 1)))), some (zI ((n : Int) - (b : Int))), some (zI (k : Int))], [], μ3, 0, 0) := by
        intro k
        obtain ⟨m, hm⟩ : ∃ m, m = n - b - k := ⟨_, rfl⟩
        induction m generalizing k with
        | zero =>
          intro hk μ3 g3
          have hk2 : k = n - b := by omega
          have q3 := zcd_r (p := zobm S p n (k - 1))
          have gr : zsm (fun b j => b = 153 ∧ j = 4) μ3 (zup μ3 153 4 0) := (zsm.refl _ _).up _ ⟨rfl, rfl⟩
          refine rX11_rounds_98 C _ _ _ _ _ ⟨by constructor <;> omega, by constructor <;> omega, fun _ => kX11_tell (R := []) ⟨by decide, by rw [zi_up]; simp, fun k hk => absurd hk (by simp)⟩ (by simp) fun μ4 g4 r4 => ⟨by constructor <;> omega, kX11_tell r4 (by simp) fun μ5 g5 r5 => ?_⟩, fun z => absurd (by omega) z⟩
          have gx : zsm zPM μ μ5 := (((g0.trans (g3.mono (fun b j => by unfold zPM; omega))).trans (gr.mono (fun b j => by unfold zPM; omega))).trans (g4.mono (fun b j => by unfold zPM; omega))).trans (g5.mono (fun b j => by unfold zPM; omega))
          have e1 : zobA S p = (b : Int) := by unfold zobA; rw [hE]
          have e2 : zobN S p = (n : Int) - (b : Int) := by unfold zobN; rw [hE]
          have e3 : zobL S p = zcd (zobm S p n (k - 1)) := by unfold zobL; rw [hE, hk2]; exact congrArg zcd (zobm_c hb he)
          have := h μ5 gx (by rw [e2, e3]; exact r5)
          rw [e1] at this
          exact this
        | succ m ih =>
          intro hk μ3 g3
          have q1 := zob_pl hcv hw hp (n + k)
          have q3 := zobm_pl hcv hw hp n (k - 1)
          have q4 := zcd_r (p := zob S p (n + k)); have q5 := zcd_r (p := zobm S p n (k - 1))
          refine rX11_rounds_98 C _ _ _ _ _ ⟨by constructor <;> omega, by constructor <;> omega, fun z => absurd z (by omega), fun _ => ⟨by constructor <;> omega, by constructor <;> omega, ?_⟩⟩
          refine kX11_linked (hM1.sm g3 (by omega)) hz hcv hw fun μ4 g4 => ?_
          have := ih (k + 1) (by omega) (by omega) μ4 (g3.trans (g4.mono (fun b j => by omega)))
          rw [zcd_min q3 q1]
          have e : min (zobm S p n (k - 1)) (zob S p (n + k)) = zobm S p n (k + 1 - 1) := by
            cases k with
            | zero => show min (zob S p n) (zob S p n) = zob S p n; omega
            | succ k => rfl
          rw [e]
          exact this
      exact key 0 (by omega) μ2 g2
    have key : ∀ (m n : Nat), m = 6561 - n → n ≤ 6561 → ∀ μ2, zsm (fun b _ => b = 167 ∨ b = 164) μ0 μ2 → zobD S p n → zobI μ2 167 S p n → J 40 ([some (zR (some 153)), none, some (zI (zcd (zob S p n))), some (zI (n : Int)), none, none, none, none], [], μ2, 0, 0) := by
      intro m
      induction m with
      | zero =>
        intro n hm hn μ2 g2 hd hI
        have hq := zob_pl hcv hw hp n
        refine rX11_rounds_40 C _ _ (kX11_numberOf hq ⟨hq, ?_⟩)
        rcases hI _ hq.1 hq.2 with ⟨h1, h2⟩ | ⟨i, hi, e, h1⟩
        · have hd2 : zobD S p (n + 1) := fun i j hi hj e => by
            by_cases c : i = n
            · by_cases d : j = n
              · rw [c, d]
              · rw [c] at e; exact absurd e.symm (h2 j (by omega))
            · by_cases d : j = n
              · rw [d] at e; exact absurd e (h2 i (by omega))
              · exact hd i j (by omega) (by omega) e
          have := zobD_le hcv hw hp hd2
          omega
        · refine ⟨by rw [h1]; constructor <;> omega, fun _ => kX11_numberOf hq ⟨hq, ?_⟩, fun z => absurd z (by omega)⟩
          rw [h1]
          exact fin n i μ2 hn hi hd e.symm g2
      | succ m ih =>
        intro n hm hn μ2 g2 hd hI
        have hq := zob_pl hcv hw hp n
        refine rX11_rounds_40 C _ _ (kX11_numberOf hq ⟨hq, ?_⟩)
        rcases hI _ hq.1 hq.2 with ⟨h1, h2⟩ | ⟨i, hi, e, h1⟩
        · refine ⟨by rw [h1]; decide, fun z => absurd h1 z, fun _ => kX11_numberOf hq ⟨hq, ?_⟩⟩
          have g3 : zsm (fun b _ => b = 167 ∨ b = 164) μ0 (zup μ2 167 (zob S p n) n) := g2.up _ (Or.inl rfl)
          refine kX11_linked (hM1.sm g3 (by omega)) hz hcv hw fun μ4 g4 => ?_
          obtain ⟨I1, D1⟩ := hI.step (μ' := μ4) hd hq h1 (fun x hx => by rw [g4.1 _ _ (by omega), zi_up]; simp [hx]) (by rw [g4.1 _ _ (by omega), zi_up]; simp)
          exact ih (n + 1) (by omega) (by omega) μ4 (g3.trans (g4.mono (fun b j => by omega))) D1 I1
        · refine ⟨by rw [h1]; constructor <;> omega, fun _ => kX11_numberOf hq ⟨hq, ?_⟩, fun z => absurd z (by omega)⟩
          rw [h1]
          exact fin n i μ2 hn hi hd e.symm g2
    refine zfor (lo := 0) (hi := 6561) (by decide) (P := fun n => ∀ μ2, zsm (fun b _ => b = 167) μ0 μ2 → (∀ x, 0 ≤ x → x < n → zi μ2 167 x = -1) → J 16 ([some (zR (some 153)), some (zI (zcd p)), some (zI n), none, none, none, none, none], [], μ2, 0, 0)) ?_ ?_ μ0 (zsm.refl _ _) (fun x x0 x1 => absurd x1 (by omega))
    · intro μ2 g2 f2
      refine rX11_rounds_16 C _ _ ⟨by decide, fun _ => ?_, fun z => absurd (by decide) z⟩
      exact key 6561 0 (by omega) (by omega) μ2 (g2.mono (fun b j => by omega)) (fun i j hi => absurd hi (by omega)) (fun x x0 x1 => Or.inl ⟨f2 x x0 x1, fun i hi => absurd hi (by omega)⟩)
    · intro n n0 n1 ih μ2 g2 f2
      refine rX11_rounds_16 C _ _ ⟨by constructor <;> omega, fun z => absurd z (by omega), fun _ => ⟨⟨n0, n1⟩, ?_⟩⟩
      refine ih _ (g2.up _ rfl) (fun x x0 x1 => ?_)
      rw [zi_up]
      by_cases cx : x = n
      · simp [cx]
      · simp [cx]; exact f2 x x0 (by omega)
  · rw [if_neg hc1, if_neg hc1] at h
    exact h _ g0 hR.thr
end
