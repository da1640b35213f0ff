/-! what a link does; the class's steps and the reference's text -/
def zit (g : (Int → Int) → Int → Int) : Nat → (Int → Int) → Int → Int
  | 0, A => A
  | n + 1, A => g (zit g n A)
/-- from k on, as deep as d, the bracket that closes -/
def zclo (S : Int → Int) (b : Int) : Nat → Nat → Int → Int
  | 0, _, k => k
  | f + 1, d, k => if S (b + k) = 41 then (if d = 0 then k else zclo S b f (d - 1) (k + 1)) else if S (b + k) = 40 then zclo S b f (d + 1) (k + 1) else zclo S b f d (k + 1)
abbrev zcl1 (S : Int → Int) (a k : Int) : Int := zclo S (zba a) 64 0 (k + zqp (S (zba a + k)) + 1)
/-- the steps of a text from k up to t -/
def zgo (S : Int → Int) : Nat → Int → Int → Int → (Int → Int) → Int → Int
  | 0, _, _, _, A => A
  | f + 1, a, k, t, A =>
    if t ≤ k then A
    else if zaro (S (zba a + k)) then zgo S f a (zcl1 S a k + 1) t (zit (zgo S f a (k + zqp (S (zba a + k)) + 1) (zcl1 S a k)) (ztmo (S (zba a + k)) (zf1 S a k) (zf2 S a k) A).toNat A)
    else if S (zba a + k) = 112 then zgo S f a (k + 1) t (if a ≤ 0 then A else zgo S f (a - 1) 0 (S (600 + a - 1)) A)
    else zgo S f a (k + zwd (S (zba a + k))) t (zon S (S (zba a + k)) (zf1 S a k) (zf2 S a k) A)
/-- such a text is well made, D deep at most -/
def zWF (S : Int → Int) : Nat → Nat → Int → Int → Int → Prop
  | 0, _, _, _, _ => False
  | f + 1, D, a, k, t => k = t ∨ (k < t ∧ zkin (S (zba a + k)) ∧ zfok (S (zba a + k)) (zf1 S a k) (zf2 S a k) ∧
      (zaro (S (zba a + k)) → S (zba a + k + zqp (S (zba a + k))) = 40 ∧ S (zba a + zcl1 S a k) = 41 ∧ k + zqp (S (zba a + k)) + 1 ≤ zcl1 S a k ∧ zcl1 S a k < t ∧ (∃ D', D = D' + 1 ∧ zWF S f D' a (k + zqp (S (zba a + k)) + 1) (zcl1 S a k)) ∧ zWF S f D a (zcl1 S a k + 1) t) ∧
      (S (zba a + k) = 112 → (0 < a → (0 ≤ S (600 + a - 1) ∧ S (600 + a - 1) ≤ 40) ∧ ∃ D', D = D' + 1 ∧ zWF S f D' (a - 1) 0 (S (600 + a - 1))) ∧ zWF S f D a (k + 1) t) ∧
      (¬ zaro (S (zba a + k)) → S (zba a + k) ≠ 112 → k + zwd (S (zba a + k)) ≤ t ∧ zWF S f D a (k + zwd (S (zba a + k))) t))
/-- the steps in the memory are those of the text -/
def zTX (S : Int → Int) (μ : zM) : Nat → Option Nat → Int → Int → Int → Prop
  | 0, _, _, _, _ => False
  | f + 1, r, a, k, t => (k = t ∧ r = none) ∨ (k < t ∧ S (zba a + k) = 112 ∧ (0 < a → zTX S μ f none (a - 1) 0 (S (600 + a - 1))) ∧ zTX S μ f r a (k + 1) t) ∨
      (k < t ∧ ∃ b, r = some b ∧ znd μ b ∧ zi μ b 0 = S (zba a + k) ∧ (zuf1 (S (zba a + k)) → zi μ b 1 = zf1 S a k) ∧ (zus1 (S (zba a + k)) → zi μ b 2 = zf2 S a k) ∧
        (zaro (S (zba a + k)) → zTX S μ f (zr μ b 3) a (k + zqp (S (zba a + k)) + 1) (zcl1 S a k) ∧ zTX S μ f (zr μ b 5) a (zcl1 S a k + 1) t) ∧
        (S (zba a + k) = 112 → 0 < a ∧ zTX S μ f (zr μ b 3) (a - 1) 0 (S (600 + a - 1)) ∧ zTX S μ f (zr μ b 5) a (k + 1) t) ∧
        (¬ zaro (S (zba a + k)) → S (zba a + k) ≠ 112 → zr μ b 3 = none ∧ zTX S μ f (zr μ b 5) a (k + zwd (S (zba a + k))) t))
theorem zTX.sm {S : Int → Int} {P : Nat → Int → Prop} {μ μ' : zM} (hm : zsm P μ μ') (hP : ∀ b j, 182 ≤ b → ¬ P b j) : ∀ (f : Nat) (r : Option Nat) (a k t : Int), zTX S μ f r a k t → zTX S μ' f r a k t
  | 0, _, _, _, _, h => h
  | f + 1, r, a, k, t, h => by
    rcases h with h | ⟨h1, h2, h3, h4⟩ | ⟨h1, b, h2, h3, h4, h5, h6, h7, h8, h9⟩
    · exact Or.inl h
    · exact Or.inr (Or.inl ⟨h1, h2, fun z => zTX.sm hm hP f _ _ _ _ (h3 z), zTX.sm hm hP f _ _ _ _ h4⟩)
    · have e := fun j => hm.1 b j (hP b j h3.1)
      refine Or.inr (Or.inr ⟨h1, b, h2, h3.sm hm, by rw [e]; exact h4, fun z => by rw [e]; exact h5 z, fun z => by rw [e]; exact h6 z, fun z => ?_, fun z => ?_, fun z w => ?_⟩)
      · rw [hm.2.1]; exact ⟨zTX.sm hm hP f _ _ _ _ (h7 z).1, zTX.sm hm hP f _ _ _ _ (h7 z).2⟩
      · rw [hm.2.1]; exact ⟨(h8 z).1, zTX.sm hm hP f _ _ _ _ (h8 z).2.1, zTX.sm hm hP f _ _ _ _ (h8 z).2.2⟩
      · rw [hm.2.1]; exact ⟨(h9 z w).1, zTX.sm hm hP f _ _ _ _ (h9 z w).2⟩
theorem zit_am {g : (Int → Int) → Int → Int} (hg : ∀ A, zAmt A → zAmt (g A)) : ∀ (n : Nat) (A : Int → Int), zAmt A → zAmt (zit g n A)
  | 0, _, h => h
  | n + 1, A, h => hg _ (zit_am hg n A h)
theorem zit_id {g : (Int → Int) → Int → Int} (hg : ∀ A, g A = A) : ∀ (n : Nat) (A : Int → Int), zit g n A = A
  | 0, _ => rfl
  | n + 1, A => by rw [zit, zit_id hg n A, hg]
theorem zgo_am {S : Int → Int} (hc : zCv S) : ∀ (f D : Nat) (a k t : Int) (A : Int → Int), zWF S f D a k t → zAmt A → zAmt (zgo S f a k t A)
  | 0, _, _, _, _, _, h, _ => h.elim
  | f + 1, D, a, k, t, A, h, hA => by
    rw [zgo]
    rcases h with h | ⟨h1, h2, h3, h4, h5, h6⟩
    · rw [if_pos (by omega)]; exact hA
    · rw [if_neg (by omega)]
      by_cases c : zaro (S (zba a + k))
      · rw [if_pos c]
        obtain ⟨-, -, -, -, ⟨D', -, w1⟩, w2⟩ := h4 c
        exact zgo_am hc f D _ _ _ _ w2 (zit_am (fun B hB => zgo_am hc f D' _ _ _ B w1 hB) _ _ hA)
      · rw [if_neg c]
        by_cases c2 : S (zba a + k) = 112
        · rw [if_pos c2]
          obtain ⟨w1, w2⟩ := h5 c2
          refine zgo_am hc f D _ _ _ _ w2 ?_
          by_cases c3 : a ≤ 0
          · rw [if_pos c3]; exact hA
          · rw [if_neg c3]
            obtain ⟨-, D', -, w3⟩ := w1 (by omega)
            exact zgo_am hc f D' _ _ _ _ w3 hA
        · rw [if_neg c2]
          exact zgo_am hc f D _ _ _ _ (h6 c c2).2 (zon_am hA hc h3)
/-- where nothing stands in the memory, nothing is done -/
theorem zTX_none {S : Int → Int} {μ : zM} : ∀ (f : Nat) (a k t : Int) (A : Int → Int), zTX S μ f none a k t → zgo S f a k t A = A
  | 0, _, _, _, _, h => h.elim
  | f + 1, a, k, t, A, h => by
    rw [zgo]
    rcases h with ⟨h, -⟩ | ⟨h1, h2, h3, h4⟩ | ⟨h1, b, h2, -⟩
    · rw [if_pos (by omega)]
    · rw [if_neg (by omega), if_neg (by unfold zaro; omega), if_pos h2]
      by_cases c3 : a ≤ 0
      · rw [if_pos c3]; exact zTX_none f _ _ _ _ h4
      · rw [if_neg c3, zTX_none f _ _ _ _ (h3 (by omega))]; exact zTX_none f _ _ _ _ h4
    · cases h2
theorem ztmo_r {A : Int → Int} (hm : zAmt A) {c f s : Int} (ho : zfok c f s) (hc : zaro c ∨ c = 112) : 0 ≤ ztmo c f s A ∧ ztmo c f s A ≤ 9 := by
  obtain ⟨o1, o2, o3, o4, o5, o6, o7⟩ := ho
  unfold ztmo
  unfold zaro at hc
  by_cases c1 : c = 110
  · rw [if_pos c1]; exact o5 c1
  rw [if_neg c1]
  by_cases c2 : c = 111
  · rw [if_pos c2]
    have hf := o4 (by omega); have := hm f hf.1 hf.2; omega
  rw [if_neg c2]
  by_cases c3 : c = 105
  · rw [if_pos c3]; split <;> omega
  rw [if_neg c3]
  by_cases c4 : c = 106
  · rw [if_pos c4]; split <;> omega
  rw [if_neg c4, if_pos (by omega)]; omega
section
variable {G : zG} {S : Int → Int}
theorem kX2_steps {a2 : Nat} (ea2 : a2 = 9) (hcv : zCv S) : ∀ (f D dd : Nat) {F : zM → Prop} {J : Nat → zS → Prop} {μ : zM} {r : Option Nat} {a k t x : Int} {A : Int → Int}, zJ G true (11 + dd) 0 0 mX2_doSteps (zKV F) J → zWF S f D a k t → zTX S μ f r a k t → zisA μ 129 A → zAmt A → (∀ i, 0 ≤ i → i < 36 → zi μ 9 i = S (324 + i)) → 0 ≤ x → x + D ≤ 40 → D ≤ dd → (∀ μ', zsm (fun b _ => b = 129) μ μ' → zisA μ' 129 (zgo S f a k t A) → F μ') → J 10 ([some (zR (some 128)), none, some (zR (some a2)), some (zI x), some (zR r), none, none], [], μ, 0, 0) := by
  subst ea2
  have z9 : zIsAr 9 36 := ⟨by decide, by decide +kernel⟩
  intro f
  induction f with
  | zero => intro D dd F J μ r a k t x A C h; exact h.elim
  | succ f ih =>
    intro D dd F J μ r a k t x A C hw ht hA hm hS hx hxD hdd h
    rw [zgo] at h
    rcases hw with hw | ⟨w1, w2, w3, w4, w5, w6⟩
    · rw [if_pos (by omega)] at h
      rcases ht with ⟨-, rfl⟩ | ⟨q, -⟩ | ⟨q, -⟩
      · exact rX2_doSteps_10 C z9 (by decide) _ _ ⟨fun _ => h μ (zsm.refl _ _) hA, fun b1 e => by cases e⟩
      · omega
      · omega
    rw [if_neg (by omega)] at h
    rcases ht with ⟨q, -⟩ | ⟨-, q2, q3, q4⟩ | ⟨-, b, rfl, q3, q4, q5, q6, q7, q8, q9⟩
    · omega
    · rw [if_neg (by unfold zaro; omega), if_pos q2] at h
      have e : (if a ≤ 0 then A else zgo S f (a - 1) 0 (S (600 + a - 1)) A) = A := by
        by_cases c3 : a ≤ 0
        · rw [if_pos c3]
        · rw [if_neg c3, zTX_none f _ _ _ _ (q3 (by omega))]
      rw [e] at h
      exact ih D dd C (w5 q2).2 q4 hA hm hS hx hxD hdd h
    have hin : zWF S f D a k t → True := fun _ => trivial
    -- what is done ahead of the step itself
    have step : ∀ (n : Nat) (B : Nat → Int → Int), B 0 = A → (∀ i, zAmt (B i)) → (zr μ b 3 ≠ none → (n : Int) = ztmo (S (zba a + k)) (zf1 S a k) (zf2 S a k) A) → (zr μ b 3 = none → B 0 = B n) → (∀ i, i < n → zr μ b 3 ≠ none → ∀ μ', zsm (fun b _ => b = 129) μ μ' → zisA μ' 129 (B i) → ∀ F2 : zM → Prop, (∀ μ'', zsm (fun b _ => b = 129) μ' μ'' → zisA μ'' 129 (B (i + 1)) → F2 μ'') → ∃ d9, d9 < dd ∧ qX2_doSteps G d9 (zr μ b 3) 9 (x + 1) μ' F2) → (∀ μ', zsm (fun b _ => b = 129) μ μ' → zisA μ' 129 (zon S (S (zba a + k)) (zf1 S a k) (zf2 S a k) (B n)) → J 10 ([some (zR (some 128)), none, some (zR (some 9)), some (zI x), some (zR (zr μ b 5)), none, none], [], μ', 0, 0)) → J 10 ([some (zR (some 128)), none, some (zR (some 9)), some (zI x), some (zR (some b)), none, none], [], μ, 0, 0) := by
      intro n B hB0 hBm hn hB1 hBi hend
      have after : ∀ μ', zsm (fun b _ => b = 129) μ μ' → zisA μ' 129 (B n) → qX2_doOne G (some b) 9 μ' (fun μ4 => ∃ b5, some b = some b5 ∧ zok true μ4 b5 (8, 6) ∧ J 10 ([some (zR (some 128)), none, some (zR (some 9)), some (zI x), some (zR (zr μ4 b5 5)), none, none], [], μ4, 0, 0)) := by
        intro μ' g hA'
        have hb182 := q3.1
        refine kX2_doOne hA' (hBm n) (fun i h0 h1 => by rw [g.1 _ _ (by omega)]; exact hS i h0 h1) (q3.sm g) w2 w3 (by rw [g.1 _ _ (by omega)]; exact q4) (fun z => by rw [g.1 _ _ (by omega)]; exact q5 z) (fun z => by rw [g.1 _ _ (by omega)]; exact q6 z) fun μ4 g4 t4 => ⟨b, rfl, ((q3.sm g).sm g4).ok, ?_⟩
        have := hend μ4 (g.trans g4) t4
        rw [g4.2.1, g.2.1]
        exact this
      refine rX2_doSteps_10 C z9 (by decide) _ _ ⟨fun e => (by cases e), fun b1 e => ?_⟩
      have tr := fun hc => ztmo_r hm w3 hc
      refine kX2_timesOf hA hm q3 w2 w3 q4 q5 q6 (fun hnn => ?_) (fun hnn => ?_)
      · refine rX2_doSteps_26 C z9 (by decide) _ _ _ _ ⟨by decide, by decide, fun _ => after μ (zsm.refl _ _) (by rw [← hB1 hnn, hB0]; exact hA), fun c => absurd (by decide) c⟩
      · rw [← hn hnn]
        have nr : n ≤ 9 := by
          have := hn hnn
          by_cases c : zaro (S (zba a + k)) ∨ S (zba a + k) = 112
          · have := tr c; omega
          · have e : ztmo (S (zba a + k)) (zf1 S a k) (zf2 S a k) A = 0 := by
              unfold ztmo
              unfold zaro at c
              rw [if_neg (by omega), if_neg (by omega), if_neg (by omega), if_neg (by omega), if_neg (by omega)]
            omega
        refine znfor (N := n) (P := fun i => ∀ μ', zsm (fun b _ => b = 129) μ μ' → zisA μ' 129 (B i) → J 26 ([some (zR (some 128)), none, some (zR (some 9)), some (zI x), some (zR (some b)), some (zI (n : Int)), some (zI (i : Int))], [], μ', 0, 0)) ?_ ?_ μ (zsm.refl _ _) (by rw [hB0]; exact hA)
        · intro μ1 g1 t1
          exact rX2_doSteps_26 C z9 (by decide) _ _ _ _ ⟨by constructor <;> omega, by constructor <;> omega, fun _ => after μ1 g1 t1, fun c => absurd (Int.le_refl _) c⟩
        · intro i hi hj μ1 g1 t1
          refine rX2_doSteps_26 C z9 (by decide) _ _ _ _ ⟨by constructor <;> omega, by constructor <;> omega, fun c => absurd c (by omega), fun _ => ⟨b, rfl, (q3.sm g1).ok, ?_⟩⟩
          rw [g1.2.1]
          exact hBi i hi hnn μ1 g1 t1 _ (fun μ2 g2 t2 => hj μ2 (g1.trans g2) t2)
    have hb182 := q3.1
    -- a part of the text done by a call of its own
    have call : ∀ (D' : Nat) (a' k' t' : Int) (B : Int → Int) (r' : Option Nat), D = D' + 1 → zWF S f D' a' k' t' → zTX S μ f r' a' k' t' → zAmt B → ∀ μ', zsm (fun b _ => b = 129) μ μ' → zisA μ' 129 B → ∀ F2 : zM → Prop, (∀ μ'', zsm (fun b _ => b = 129) μ' μ'' → zisA μ'' 129 (zgo S f a' k' t' B) → F2 μ'') → ∃ d9, d9 < dd ∧ qX2_doSteps G d9 r' 9 (x + 1) μ' F2 := by
      intro D' a' k' t' B r' hD hw' ht' hB μ' g hA' F2 h2
      refine ⟨dd - 1, by omega, eX2_doSteps fun J2 C2 => rX2_doSteps_e C2 _ z9 (by decide) _ ⟨by constructor <;> omega, fun _ => ?_, fun c => absurd (by omega) c⟩⟩
      exact ih D' (dd - 1) C2 hw' (zTX.sm g (fun b j hb => by omega) f _ _ _ _ ht') hA' hB (fun i h0 h1 => by rw [g.1 _ _ (by omega)]; exact hS i h0 h1) (by omega) (by omega) (by omega) h2
    by_cases c : zaro (S (zba a + k))
    · rw [if_pos c] at h
      obtain ⟨-, -, -, -, ⟨D', eD, w7⟩, w8⟩ := w4 c
      obtain ⟨q10, q11⟩ := q7 c
      have tr := ztmo_r hm w3 (Or.inl c)
      have hgm : ∀ i, zAmt (zit (zgo S f a (k + zqp (S (zba a + k)) + 1) (zcl1 S a k)) i A) := fun i => zit_am (fun B hB => zgo_am hcv f D' _ _ _ B w7 hB) i A hm
      refine step (ztmo (S (zba a + k)) (zf1 S a k) (zf2 S a k) A).toNat (fun i => zit (zgo S f a (k + zqp (S (zba a + k)) + 1) (zcl1 S a k)) i A) rfl hgm (fun _ => by omega) (fun hn => ?_) (fun i hi hn μ' g hA' F2 h2 => call D' _ _ _ _ _ eD w7 q10 (hgm i) μ' g hA' F2 h2) (fun μ' g hA' => ?_)
      · rw [hn] at q10
        exact (zit_id (fun B => zTX_none f _ _ _ B q10) _ A).symm
      · have ezon : zon S (S (zba a + k)) (zf1 S a k) (zf2 S a k) (zit (zgo S f a (k + zqp (S (zba a + k)) + 1) (zcl1 S a k)) (ztmo (S (zba a + k)) (zf1 S a k) (zf2 S a k) A).toNat A) = zit (zgo S f a (k + zqp (S (zba a + k)) + 1) (zcl1 S a k)) (ztmo (S (zba a + k)) (zf1 S a k) (zf2 S a k) A).toNat A := by
          unfold zaro at c
          unfold zon
          rw [if_neg (by omega), if_neg (by omega), if_neg (by omega), if_neg (by omega), if_neg (by omega), if_neg (by omega), if_neg (by omega), if_neg (by omega), if_neg (by omega)]
        rw [ezon] at hA'
        exact ih D dd C w8 (zTX.sm g (fun b j hb => by omega) f _ _ _ _ q11) hA' (hgm _) (fun i h0 h1 => by rw [g.1 _ _ (by omega)]; exact hS i h0 h1) hx hxD hdd (fun μ'' g2 t2 => h μ'' (g.trans g2) t2)
    · rw [if_neg c] at h
      by_cases c2 : S (zba a + k) = 112
      · rw [if_pos c2] at h
        obtain ⟨qa, q10, q11⟩ := q8 c2
        obtain ⟨w7, w8⟩ := w5 c2
        obtain ⟨-, D', eD, w9⟩ := w7 qa
        rw [if_neg (by omega)] at h
        have et : ztmo (S (zba a + k)) (zf1 S a k) (zf2 S a k) A = 1 := by
          unfold ztmo
          rw [if_neg (by omega), if_neg (by omega), if_neg (by omega), if_neg (by omega), if_pos c2]
        have hgm : ∀ i, zAmt (zit (zgo S f (a - 1) 0 (S (600 + a - 1))) i A) := fun i => zit_am (fun B hB => zgo_am hcv f D' _ _ _ B w9 hB) i A hm
        refine step 1 (fun i => zit (zgo S f (a - 1) 0 (S (600 + a - 1))) i A) rfl hgm (fun _ => by omega) (fun hn => ?_) (fun i hi hn μ' g hA' F2 h2 => call D' _ _ _ _ _ eD w9 q10 (hgm i) μ' g hA' F2 h2) (fun μ' g hA' => ?_)
        · rw [hn] at q10
          exact (zit_id (fun B => zTX_none f _ _ _ B q10) _ A).symm
        · have ezon : zon S (S (zba a + k)) (zf1 S a k) (zf2 S a k) (zit (zgo S f (a - 1) 0 (S (600 + a - 1))) 1 A) = zgo S f (a - 1) 0 (S (600 + a - 1)) A := by
            unfold zon
            rw [if_neg (by omega), if_neg (by omega), if_neg (by omega), if_neg (by omega), if_neg (by omega), if_neg (by omega), if_neg (by omega), if_neg (by omega), if_neg (by omega)]
            rfl
          rw [ezon] at hA'
          exact ih D dd C w8 (zTX.sm g (fun b j hb => by omega) f _ _ _ _ q11) hA' (zgo_am hcv f D' _ _ _ A w9 hm) (fun i h0 h1 => by rw [g.1 _ _ (by omega)]; exact hS i h0 h1) hx hxD hdd (fun μ'' g2 t2 => h μ'' (g.trans g2) t2)
      · rw [if_neg c2] at h
        obtain ⟨q10, q11⟩ := q9 c c2
        obtain ⟨w7, w8⟩ := w6 c c2
        refine step 0 (fun _ => A) rfl (fun _ => hm) (fun hn => absurd q10 hn) (fun _ => rfl) (fun i hi => absurd hi (Nat.not_lt_zero _)) (fun μ' g hA' => ?_)
        exact ih D dd C w8 (zTX.sm g (fun b j hb => by omega) f _ _ _ _ q11) hA' (zon_am hm hcv w3) (fun i h0 h1 => by rw [g.1 _ _ (by omega)]; exact hS i h0 h1) hx hxD hdd (fun μ'' g2 t2 => h μ'' (g.trans g2) t2)
end
