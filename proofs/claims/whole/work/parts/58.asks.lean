/-! doubt, asks -/
noncomputable def zun (S : Int → Int) (p : Int) : Int := zdw S (zlt S p 0 - zrk S p 0) (zlt S p 1 - zrk S p 1) (zlt S p 2 - zrk S p 2)
theorem zrk_r {S : Int → Int} (hr : zLr S) {p b : Int} (hp : 0 ≤ p) (hb : 0 ≤ b ∧ b < 3) : 0 ≤ zrk S p b ∧ zrk S p b ≤ 100 := zrkn_r hr hp hb 4 (by decide)
theorem zun_r {S : Int → Int} (hs : zSet S) (hr : zLr S) {p : Int} (hp : 0 ≤ p ∧ p < 81) : 0 ≤ zun S p ∧ zun S p ≤ 4320000 := by
  have a0 := zlt_r hr hp (b := 0) (by decide); have a1 := zlt_r hr hp (b := 1) (by decide); have a2 := zlt_r hr hp (b := 2) (by decide)
  have b0 := zrk_r hr hp.1 (b := 0) (by decide); have b1 := zrk_r hr hp.1 (b := 1) (by decide); have b2 := zrk_r hr hp.1 (b := 2) (by decide)
  exact zdw_r hs (by omega) (by omega) (by omega)
noncomputable def zdb (S : Int → Int) : Nat → Int
  | 0 => -1
  | n + 1 => if S (243 + (n : Int)) = 1 ∧ (zdb S n = -1 ∨ zun S (zdb S n) < zun S n) then (n : Int) else zdb S n
theorem zdb_r (S : Int → Int) : ∀ n : Nat, zdb S n = -1 ∨ (0 ≤ zdb S n ∧ zdb S n < n)
  | 0 => Or.inl rfl
  | n + 1 => by
    have := zdb_r S n
    unfold zdb
    split <;> omega
section
variable {G : zG} {μ : zM} {S : Int → Int}
theorem kX7_unlike {F : Int → zM → Prop} {a : Nat} (ha : zIsSt a) (hX : zXs μ a S) (hr : zLr S) {p : Int} (hp : 0 ≤ p ∧ p < 81) (h : F (zun S p) μ) : qX7_unlike G a p μ F := by
  obtain ⟨x1, x2, x3, -⟩ := hX
  exact eX7_unlike fun J C => rX7_unlike_e C ha _ (kX7_lightOf ha x1 x2 hr hp (by decide) (kX7_reckoned ha x1 hr hp (by decide) (kX7_lightOf ha x1 x2 hr hp (by decide) (kX7_reckoned ha x1 hr hp (by decide) (kX7_lightOf ha x1 x2 hr hp (by decide) (kX7_reckoned ha x1 hr hp (by decide) (kX7_weighed ha x3 h)))))))
theorem kX10_doubt {F : Int → zM → Prop} {R : List Int} (hX : zXs μ 5 S) (hr : zLr S) (hv : zSet S) (hc : zXc μ) (hR : zXr μ R) (h : ∀ μ', zsm zPX μ μ' → zXc μ' → zXr μ' (if zdb S 81 = -1 then R else [] ++ [zun S (zdb S 81)]) → F (if zdb S 81 = -1 then -2 else zdb S 81) μ') : qX10_doubt G μ F := by
  refine eX10_doubt fun J C => rX10_doubt_e C ?_
  refine znfor (N := 81) (P := fun n => J 6 ([some (zR (some 0)), some (zI (if zdb S n = -1 then -1 else zun S (zdb S n))), some (zI (zdb S n)), some (zI (n : Int))], [], μ, 0, 0)) ?_ ?_
  · have q := zdb_r S 81
    refine rX10_doubt_6 C _ _ _ ⟨by decide, fun _ => ⟨by constructor <;> omega, fun c => ?_, fun c => ?_⟩, fun c => absurd (by decide) c⟩
    · have e : ¬ zdb S 81 = -1 := by omega
      have u := zun_r hv hr (p := zdb S 81) (by omega)
      rw [if_neg e, if_neg e] at h
      rw [if_neg e]
      exact kX6_clear fun μ2 g2 t2 => ⟨by constructor <;> omega, kX6_append t2 (by simp) fun μ3 g3 t3 => h _ (zXrow (g2.trans g3)) (hc.sm (g2.trans g3) (by omega)) t3⟩
    · have e : zdb S 81 = -1 := by omega
      rw [if_pos e, if_pos e] at h
      exact h _ (zsm.refl _ _) hc hR
  · intro n hn hj
    have q := zdb_r S n
    have m := hr.2 n (by omega) (by omega)
    have u := zun_r hv hr (p := n) ⟨by omega, by omega⟩
    refine rX10_doubt_6 C _ _ _ ⟨by constructor <;> omega, fun c => absurd c (by omega), fun _ => ⟨by omega, ?_⟩⟩
    rw [show zi μ 7 n = S (243 + n) from hX.2.1 n (by omega) (by omega)]
    refine ⟨by constructor <;> omega, fun c => ?_, fun c => kX7_unlike zSt_5 hX hr ⟨by omega, by omega⟩ ⟨by constructor <;> omega, ?_, fun c2 => ?_, fun c2 => kX7_unlike zSt_5 hX hr ⟨by omega, by omega⟩ ?_⟩⟩
    · rw [show zdb S (n + 1) = zdb S n from if_neg (fun z => by have := z.1; omega)] at hj; exact hj
    · rcases q with q | q
      · rw [if_pos q]; decide
      · have u2 := zun_r hv hr (p := zdb S n) (by omega)
        rw [if_neg (by omega)]; constructor <;> omega
    · have e : ¬ zdb S n = -1 := fun e => by rw [if_pos e] at c2; omega
      rw [if_neg e] at c2
      rw [show zdb S (n + 1) = zdb S n from if_neg (fun z => by rcases z.2 with z | z <;> omega)] at hj; exact hj
    · have e : S (243 + (n : Int)) = 1 ∧ (zdb S n = -1 ∨ zun S (zdb S n) < zun S n) := by
        refine ⟨by omega, ?_⟩
        by_cases e : zdb S n = -1
        · exact Or.inl e
        · rw [if_neg e] at c2; exact Or.inr (by omega)
      rw [show zdb S (n + 1) = (n : Int) from if_pos e, if_neg (by omega)] at hj; exact hj
theorem kX11_doubt {F : Int → zM → Prop} {R : List Int} (hM : zMs μ S) (hr : zLr S) (hv : zSet S) (hR : zMr μ R) (h : ∀ μ', zsm zPM μ μ' → zMr μ' (if zdb S 81 = -1 then R else [] ++ [zun S (zdb S 81)]) → F (if zdb S 81 = -1 then -2 else zdb S 81) μ') : qX11_doubt G μ F := by
  have hM1 := hM.pm (zMthr μ)
  have hR1 := hR.thr
  refine eX11_doubt fun J C => rX11_doubt_e C ?_
  have g0 := zMthr μ
  generalize zup μ 153 5 0 = μ1 at *
  refine znfor (N := 81) (P := fun n => J 11 ([some (zR (some 153)), some (zI (zdb S n)), some (zI (if zdb S n = -1 then 0 else zun S (zdb S n))), some (zI (n : Int)), none, none, none], [], μ1, 0, 0)) ?_ ?_
  · have q := zdb_r S 81
    refine rX11_doubt_11 C _ _ _ ⟨by decide, fun _ => ⟨by constructor <;> omega, fun e => ?_, fun e => ?_⟩, fun c => absurd (by decide) c⟩
    · have u := zun_r hv hr (p := zdb S 81) (by omega)
      rw [if_neg e, if_neg e] at h
      rw [if_neg e]
      exact ⟨by constructor <;> omega, kX11_tell (zMr.nil _) (by simp) fun μ3 g3 t3 => h _ ((zMrow0 g0).trans (zMrow g3)) t3⟩
    · rw [if_pos e, if_pos e] at h
      exact h _ g0 hR1
  · intro n hn hj
    have q := zdb_r S n
    have m := hr.2 n (by omega) (by omega)
    have u := zun_r hv hr (p := n) ⟨by omega, by omega⟩
    refine rX11_doubt_11 C _ _ _ ⟨by constructor <;> omega, fun c => absurd c (by omega), fun _ => ⟨by omega, ?_⟩⟩
    rw [hM1 (243 + n) (by omega) (by omega)]
    refine ⟨by constructor <;> omega, fun c => ?_, fun c => ?_⟩
    · have s1 : S (243 + (n : Int)) = 1 := by omega
      have el : ∀ b : Int, 0 ≤ b → b < 3 → S (3 * (n : Int) + b) = zlt S n b := fun b _ _ => by unfold zlt; rw [if_pos (Or.inl s1)]
      have st : ∀ (x b : Int), 0 ≤ b → b < 3 → J 39 ([some (zR (some 153)), some (zI (zdb S n)), some (zI (if zdb S n = -1 then 0 else zun S (zdb S n))), some (zI (n : Int)), some (zI (x + S (708 + b) * (zlt S n b - zrk S n b) * (zlt S n b - zrk S n b))), some (zI (b + 1)), none], [], μ1, 0, 0) → J 39 ([some (zR (some 153)), some (zI (zdb S n)), some (zI (if zdb S n = -1 then 0 else zun S (zdb S n))), some (zI (n : Int)), some (zI x), some (zI b), none], [], μ1, 0, 0) := by
        intro x b b0 b1 hk
        refine rX11_doubt_39 C _ _ _ _ _ ⟨by constructor <;> omega, fun c => absurd c (by omega), fun _ => ⟨by omega, kX11_reckoned zZ154 (by decide) (by decide) (fun p h0 h1 => hM1 p h0 (by omega)) hr ⟨by omega, by omega⟩ ⟨b0, b1⟩ ⟨by omega, ?_⟩⟩⟩
        rw [hM1 (708 + b) (by omega) (by omega), hM1 (3 * n + b) (by omega) (by omega), el b b0 b1]
        exact hk
      refine st 0 0 (by decide) (by decide) (st _ _ (by decide) (by decide) (st _ _ (by decide) (by decide) ?_))
      have e : 0 + S (708 + 0) * (zlt S n 0 - zrk S n 0) * (zlt S n 0 - zrk S n 0) + S (708 + (0 + 1)) * (zlt S n (0 + 1) - zrk S n (0 + 1)) * (zlt S n (0 + 1) - zrk S n (0 + 1)) + S (708 + (0 + 1 + 1)) * (zlt S n (0 + 1 + 1) - zrk S n (0 + 1 + 1)) * (zlt S n (0 + 1 + 1) - zrk S n (0 + 1 + 1)) = zun S n := by
        unfold zun zdw
        rw [Int.zero_add]
        rfl
      rw [e]
      refine rX11_doubt_39 C _ _ _ _ _ ⟨by decide, fun _ => ⟨by constructor <;> omega, fun c1 => ?_, fun c1 => ⟨by constructor <;> omega, ?_, fun c2 => ?_, fun c2 => ?_⟩⟩, fun c => absurd (by decide) c⟩
      · rw [show zdb S (n + 1) = (n : Int) from if_pos ⟨s1, Or.inl c1⟩, if_neg (by omega)] at hj; exact hj
      · have u2 := zun_r hv hr (p := zdb S n) (by omega)
        rw [if_neg c1]; constructor <;> omega
      · rw [if_neg c1] at c2
        rw [show zdb S (n + 1) = (n : Int) from if_pos ⟨s1, Or.inr c2⟩, if_neg (by omega)] at hj; exact hj
      · rw [if_neg c1] at c2
        rw [show zdb S (n + 1) = zdb S n from if_neg (fun z => by rcases z.2 with z | z; exact c1 z; exact c2 z)] at hj; exact hj
    · rw [show zdb S (n + 1) = zdb S n from if_neg (fun z => by have := z.1; omega)] at hj; exact hj
end
/-- how often the patches count -/
def zuk (s : Int → Int) (p : Int) : Nat → Int → Int
  | 0 => s
  | k + 1 => fun x => if 0 < zcnt p k ∧ x = zpt p k then zuk s p k x + 1 else zuk s p k x
theorem zuk_s (s : Int → Int) (p : Int) (k : Nat) (x : Int) : zuk s p (k + 1) x = if 0 < zcnt p k ∧ x = zpt p k then zuk s p k x + 1 else zuk s p k x := rfl
def zuf (s : Int → Int) (p : Int) : Int → Int := zuk s p 5
noncomputable def zuE (S : Int → Int) : Int → Int := zgE zuf (fun _ => 0) S
def zuI (n : Nat) (s : Int → Int) : Prop := ∀ x, 0 ≤ s x ∧ s x ≤ 5 * n
theorem zuk_r {s : Int → Int} {p : Int} {n : Nat} (h : zuI n s) : ∀ (k : Nat) (x : Int), 0 ≤ zuk s p k x ∧ zuk s p k x ≤ 5 * n + k
  | 0, x => by have := h x; exact ⟨this.1, by show s x ≤ _; omega⟩
  | k + 1, x => by
    have := zuk_r (p := p) h k x
    unfold zuk
    split <;> omega
theorem zuI_s (n : Nat) (s : Int → Int) (p : Int) (h : zuI n s) : zuI (n + 1) (zuf s p) := fun x => by
  have := zuk_r (p := p) h 5 x
  unfold zuf
  omega
theorem zuI_X {S : Int → Int} (n : Nat) (hn : n ≤ zON S) : zuI n (zgX zuf (fun _ => 0) S n) :=
  zgX_i (I := zuI) (fun _ => ⟨Int.le_refl _, by omega⟩) (fun k s p _ _ hs => zuI_s k s p hs) n hn
theorem zuI_M {S : Int → Int} (n : Nat) (hn : n ≤ zN65) : zuI n (zgM zuf (fun _ => 0) S n) :=
  zgM_i (I := zuI) (fun _ => ⟨Int.le_refl _, by omega⟩) (fun k s p _ _ hs => zuI_s k s p hs) (fun k s h x => by have := h x; omega) n hn
/-- the patch to ask for -/
def zaq (S T : Int → Int) : Nat → Int
  | 0 => -1
  | n + 1 => if ¬ zplain n ∧ S (243 + (n : Int)) = 0 ∧ (zaq S T n = -1 ∨ T (zaq S T n) < T n) then (n : Int) else zaq S T n
theorem zaq_r (S T : Int → Int) : ∀ n : Nat, zaq S T n = -1 ∨ (0 ≤ zaq S T n ∧ zaq S T n < n)
  | 0 => Or.inl rfl
  | n + 1 => by
    have := zaq_r S T n
    unfold zaq
    split <;> omega
noncomputable def zaa (S : Int → Int) : Int := if zaq S (zuE S) 81 = -1 then -2 else zaq S (zuE S) 81
noncomputable def zar (S : Int → Int) (R : List Int) : List Int := if zaq S (zuE S) 81 = -1 then R else [] ++ [zuE S (zaq S (zuE S) 81)]
section
variable {G : zG} {μ : zM} {S : Int → Int}
theorem kJ7_fill {F : zM → Prop} {a n : Nat} {x : Int} (hk : ∀ μ' : zM, zok true μ' a (40, n)) (hn : n < 2147483648) (h : ∀ μ', zsm (fun b _ => b = a) μ μ' → (∀ i : Int, 0 ≤ i → i < n → zi μ' a i = x) → F μ') : qJ7_fill_53178 G true a x μ F := by
  refine eJ7_fill_53178 fun J C => rJ7_fill_53178_e C _ _ ⟨n, hn, hk μ, ?_⟩
  refine zfor (lo := 0) (hi := (n : Int)) (by omega) (P := fun i => ∀ μ', zsm (fun b _ => b = a) μ μ' → (∀ j : Int, 0 ≤ j → j < i → zi μ' a j = x) → J 5 ([some (zR (some a)), some (zI x), some (zI i), some (zI (n : Int))], [], μ', 0, 0)) ?_ ?_ μ (zsm.refl _ _) (fun j h0 h1 => absurd h0 (by omega))
  · intro μ1 g1 g2
    exact rJ7_fill_53178_5 C _ _ _ _ ⟨by constructor <;> omega, by constructor <;> omega, fun _ => h μ1 g1 g2, fun c => absurd (Int.le_refl _) c⟩
  · intro i h0 h1 hj μ1 g1 g2
    refine rJ7_fill_53178_5 C _ _ _ _ ⟨by constructor <;> omega, by constructor <;> omega, fun c => absurd c (by omega), fun _ => ⟨n, hn, hk μ1, ⟨h0, h1⟩, hj _ (g1.up _ rfl) (fun j j0 j1 => ?_)⟩⟩
    by_cases e : j = i
    · subst e; exact zi_at
    · rw [zi_off (by omega)]; exact g2 j j0 (by omega)
theorem zk136 (μ : zM) : zok true μ 136 (40, 6561) := zk_136 μ
theorem kX10_asks {F : Int → zM → Prop} {R : List Int} (hX : zXs μ 5 S) (hr : zLr S) (hv : zSet S) (hc : zXc μ) (hR : zXr μ R) (h : ∀ μ', zsm zPX μ μ' → zXc μ' → zXr μ' (zar S R) → F (zaa S) μ') : qX10_asks G μ F := by
  have hN := zON_le S
  refine eX10_asks fun J C => rX10_asks_e C (kX10_refresh hX hr hv hc fun μ1 g1 c1 k1 o1 => kJ7_fill zk136 (by decide) fun μ2 g2 f2 => ?_)
  have gx : zsm (fun b j => (106 ≤ b ∧ b ≤ 110) ∨ b = 126 ∨ (b = 125 ∧ 1 ≤ j ∧ j ≤ 3) ∨ b = 136) μ μ2 := (g1.mono (fun b j => by omega)).trans (g2.mono (fun b j => by omega))
  refine znfor (N := zON S) (P := fun n => ∀ μ', zsm (fun b j => (106 ≤ b ∧ b ≤ 110) ∨ b = 126 ∨ (b = 125 ∧ 1 ≤ j ∧ j ≤ 3) ∨ b = 136) μ μ' → zXc μ' → zmop μ' S → (∀ x, 0 ≤ x → x < 81 → zi μ' 136 x = zgX zuf (fun _ => 0) S n x) → J 14 ([some (zR (some 0)), some (zI (n : Int)), none], [], μ', 0, 0)) ?_ ?_ μ2 gx (c1.sm g2 (by omega)) (o1.sm g2 (by omega) (by omega)) (fun x h0 h1 => f2 x h0 (by omega))
  · intro μ3 g3 c3 o3 f3
    have f3 : ∀ x, 0 ≤ x → x < 81 → zi μ3 136 x = zuE S x := fun x h0 h1 => by
      have := f3 x h0 h1
      rw [zgX_e] at this; exact this
    have hI := zuI_X (S := S) _ (Nat.le_refl _)
    rw [zgX_e] at hI
    have hI : zuI (zON S) (zuE S) := hI
    refine rX10_asks_14 C _ ?_
    rw [o3.1]
    refine ⟨by constructor <;> omega, by constructor <;> omega, fun _ => ?_, fun c => absurd (Int.le_refl _) c⟩
    unfold zar zaa at h
    generalize zuE S = T at *
    refine znfor (N := 81) (P := fun n => J 94 ([some (zR (some 0)), some (zI (zaq S T n)), some (zI (n : Int))], [], μ3, 0, 0)) ?_ ?_
    · have q := zaq_r S T 81
      refine rX10_asks_94 C _ _ ⟨by decide, fun _ => ⟨by constructor <;> omega, fun c => kX6_clear fun μ4 g4 t4 => ?_, fun c => ?_⟩, fun c => absurd (by decide) c⟩
      · have e : ¬ zaq S T 81 = -1 := by omega
        rw [if_neg e, if_neg e] at h
        have u := hI (zaq S T 81)
        rw [show zi μ4 136 (zaq S T 81) = T (zaq S T 81) by rw [g4.1 _ _ (by omega)]; exact f3 _ (by omega) (by omega)]
        exact ⟨by omega, by constructor <;> omega, kX6_append t4 (by simp) fun μ5 g5 t5 => h _ ((g3.mono (fun b j => by unfold zPX; omega)).trans (zXrow (g4.trans g5))) (c3.sm (g4.trans g5) (by omega)) t5⟩
      · have e : zaq S T 81 = -1 := by omega
        rw [if_pos e, if_pos e] at h
        exact h _ (g3.mono (fun b j => by unfold zPX; omega)) c3 (hR.sm g3 (by omega) (by omega))
    · intro n hn hj
      have q := zaq_r S T n
      have m := hr.2 n (by omega) (by omega)
      have u := hI n; have u2 := hI (zaq S T n)
      have hX3 := hX.sm g3 (by omega)
      refine rX10_asks_94 C _ _ ⟨by constructor <;> omega, fun c => absurd c (by omega), fun _ => kX10_isPlain (by omega) (by omega) (fun hpl => ⟨by decide, fun _ => ?_, fun z => absurd z (by decide)⟩) (fun hpl => ⟨by decide, fun z => absurd rfl z, fun _ => ⟨by omega, ?_⟩⟩)⟩
      · rw [show zaq S T (n + 1) = zaq S T n from if_neg (fun z => z.1 hpl)] at hj; exact hj
      · rw [show zi μ3 7 n = S (243 + n) from hX3.2.1 n (by omega) (by omega)]
        refine ⟨by constructor <;> omega, fun c => ?_, fun c => ⟨by constructor <;> omega, fun c2 => ?_, fun c2 => ⟨by omega, by omega, ?_⟩⟩⟩
        · rw [show zaq S T (n + 1) = zaq S T n from if_neg (fun z => c z.2.1)] at hj; exact hj
        · rw [show zaq S T (n + 1) = (n : Int) from if_pos ⟨hpl, c, Or.inl (by omega)⟩] at hj; exact hj
        · rw [f3 n (by omega) (by omega), f3 (zaq S T n) (by omega) (by omega)]
          refine ⟨by constructor <;> omega, by constructor <;> omega, fun c3 => ?_, fun c3 => ?_⟩
          · rw [show zaq S T (n + 1) = zaq S T n from if_neg (fun z => by rcases z.2.2 with z | z <;> omega)] at hj; exact hj
          · rw [show zaq S T (n + 1) = (n : Int) from if_pos ⟨hpl, c, Or.inr (by omega)⟩] at hj; exact hj
  · intro n hn hj μ3 g3 c3 o3 f3
    have hI := zuI_X (S := S) n (by omega)
    rw [zgX_s hn] at hj
    generalize zgX zuf (fun _ => 0) S n = s at *
    have hp := (zO_mem hn).1
    refine rX10_asks_14 C _ ?_
    rw [o3.1, o3.2 n hn]
    refine ⟨by constructor <;> omega, by constructor <;> omega, fun c => absurd c (by omega), fun _ => ⟨by omega, kX0_goTo zCh_105 hp fun μ4 g4 w4 => ?_⟩⟩
    refine znfor (N := 5) (P := fun k => ∀ μ', zsm (fun b j => (106 ≤ b ∧ b ≤ 110) ∨ b = 126 ∨ (b = 125 ∧ 1 ≤ j ∧ j ≤ 3) ∨ b = 136) μ μ' → zXc μ' → zmop μ' S → (∀ k : Nat, k ≤ 4 → zi μ' 108 k = zpt (zO S n) k ∧ zi μ' 109 k = zcnt (zO S n) k) → (∀ x, 0 ≤ x → x < 81 → zi μ' 136 x = zuk s (zO S n) k x) → J 43 ([some (zR (some 0)), some (zI (n : Int)), some (zI (k : Int))], [], μ', 0, 0)) ?_ ?_ μ4 (g3.trans (g4.mono (fun b j => by omega))) (c3.sm g4 (by omega)) (o3.sm g4 (by omega) (by omega)) w4 (fun x h0 h1 => by rw [g4.1 _ _ (by omega)]; exact f3 x h0 h1)
    · intro μ5 g5 c5 o5 w5 f5
      exact rX10_asks_43 C _ _ ⟨by decide, fun _ => hj μ5 g5 c5 o5 f5, fun c => absurd (by decide) c⟩
    · intro k hk hj2 μ5 g5 c5 o5 w5 f5
      obtain ⟨w1, w2⟩ := w5 k (by omega)
      have z := zpt_r (zO S n) (k := k) (by omega)
      have cr := zcnt_r (zO S n)
      have cr2 : 0 ≤ zcnt (zO S n) k ∧ zcnt (zO S n) k ≤ 4 := by
        have hk' : k = 0 ∨ k = 1 ∨ k = 2 ∨ k = 3 ∨ k = 4 := by omega
        rcases hk' with rfl | rfl | rfl | rfl | rfl <;> omega
      refine rX10_asks_43 C _ _ ⟨by constructor <;> omega, fun c => absurd c (by omega), fun _ => ⟨by omega, ?_⟩⟩
      rw [w1, w2]
      refine ⟨by constructor <;> omega, fun c => ?_, fun c => ⟨by omega, ?_⟩⟩
      · refine hj2 μ5 g5 c5 o5 w5 (fun x h0 h1 => ?_)
        rw [f5 x h0 h1, zuk_s, if_neg (fun z => by have := z.1; omega)]
      · refine hj2 _ (g5.up _ (by omega)) (c5.sm ((zsm.refl (fun b j => b = 136) μ5).up _ rfl) (by omega)) (o5.sm ((zsm.refl (fun b j => b = 136) μ5).up _ rfl) (by omega) (by omega)) (fun j hj => by rw [zi_off (by omega), zi_off (by omega)]; exact w5 j hj) (fun x h0 h1 => ?_)
        rw [zuk_s]
        by_cases e : x = zpt (zO S n) k
        · rw [if_pos ⟨by omega, e⟩, e, zi_at, f5 _ (by omega) (by omega)]
        · rw [if_neg (fun z => e z.2), zi_off (by omega)]; exact f5 x h0 h1
theorem kX11_asks {F : Int → zM → Prop} {R : List Int} (hM : zMs μ S) (hr : zLr S) (hv : zSet S) (hR : zMr μ R) (h : ∀ μ', zsm zPM μ μ' → zMr μ' (zar S R) → F (zaa S) μ') : qX11_asks G μ F := by
  have hN := zON_le S
  have eN := zN65_e
  have hR1 := hR.thr
  have hM1 := hM.pm (zMthr μ)
  refine eX11_asks fun J C => rX11_asks_e C ?_
  have g0 := zMthr μ
  generalize zup μ 153 5 0 = μ1 at *
  refine znfor (N := 81) (P := fun n => ∀ μ', zsm (fun b j => b = 160 ∨ b = 161 ∨ b = 173) μ1 μ' → (∀ x : Int, 0 ≤ x → x < n → zi μ' 173 x = 0) → J 7 ([some (zR (some 153)), some (zI (n : Int)), none], [], μ', 0, 0)) ?_ ?_ μ1 (zsm.refl _ _) (fun x h0 h1 => absurd h0 (by omega))
  · intro μ2 g2 f2
    refine rX11_asks_7 C _ ⟨by decide, fun _ => ?_, fun c => absurd (by decide) c⟩
    refine znfor (N := zN65) (P := fun n => ∀ μ', zsm (fun b j => b = 160 ∨ b = 161 ∨ b = 173) μ1 μ' → (∀ x, 0 ≤ x → x < 81 → zi μ' 173 x = zgM zuf (fun _ => 0) S n x) → J 28 ([some (zR (some 153)), some (zI (n : Int)), none], [], μ', 0, 0)) ?_ ?_ μ2 g2 (fun x h0 h1 => f2 x h0 (by omega))
    · intro μ3 g3 f3
      have f3 : ∀ x, 0 ≤ x → x < 81 → zi μ3 173 x = zuE S x := f3
      have hI := zuI_M (S := S) _ (Nat.le_refl _)
      rw [zgM_e] at hI
      have hI : zuI zN65 (zuE S) := hI
      refine rX11_asks_28 C _ ⟨by constructor <;> omega, fun _ => ?_, fun c => absurd (by omega) c⟩
      unfold zar zaa at h
      generalize zuE S = T at *
      have gg : zsm zPM μ μ3 := g0.trans (g3.mono (fun b j => by unfold zPM; omega))
      refine znfor (N := 81) (P := fun n => J 104 ([some (zR (some 153)), some (zI (zaq S T n)), some (zI (n : Int))], [], μ3, 0, 0)) ?_ ?_
      · have q := zaq_r S T 81
        refine rX11_asks_104 C _ _ ⟨by decide, fun _ => ⟨by constructor <;> omega, fun e => ?_, fun e => ?_⟩, fun c => absurd (by decide) c⟩
        · rw [if_neg e, if_neg e] at h
          have u := hI (zaq S T 81)
          rw [show zi (zup μ3 153 4 0) 173 (zaq S T 81) = T (zaq S T 81) by rw [zi_off (by omega)]; exact f3 _ (by omega) (by omega)]
          exact ⟨by omega, by constructor <;> omega, kX11_tell (zMr.nil _) (by simp) fun μ5 g5 t5 => h _ ((zMrow0 gg).trans (zMrow g5)) t5⟩
        · rw [if_pos e, if_pos e] at h
          exact h _ gg (hR1.sm g3 (by omega) (by omega))
      · intro n hn hj
        have q := zaq_r S T n
        have m := hr.2 n (by omega) (by omega)
        have u := hI n; have u2 := hI (zaq S T n)
        have hM3 : zMs μ3 S := hM1.sm g3 (by omega)
        refine rX11_asks_104 C _ _ ⟨by constructor <;> omega, fun c => absurd c (by omega), fun _ => kX11_isPlain (by omega) (by omega) (fun hpl => ⟨by decide, fun _ => ?_, fun z => absurd z (by decide)⟩) (fun hpl => ⟨by decide, fun z => absurd rfl z, fun _ => ⟨by omega, ?_⟩⟩)⟩
        · rw [show zaq S T (n + 1) = zaq S T n from if_neg (fun z => z.1 hpl)] at hj; exact hj
        · rw [hM3 (243 + n) (by omega) (by omega)]
          refine ⟨by constructor <;> omega, fun c => ⟨by constructor <;> omega, fun c2 => ?_, fun c2 => ⟨by omega, by omega, ?_⟩⟩, fun c => ?_⟩
          · rw [show zaq S T (n + 1) = (n : Int) from if_pos ⟨hpl, by omega, Or.inl (by omega)⟩] at hj; exact hj
          · rw [f3 n (by omega) (by omega), f3 (zaq S T n) (by omega) (by omega)]
            refine ⟨by constructor <;> omega, by constructor <;> omega, fun c3 => ?_, fun c3 => ?_⟩
            · rw [show zaq S T (n + 1) = zaq S T n from if_neg (fun z => by rcases z.2.2 with z | z <;> omega)] at hj; exact hj
            · rw [show zaq S T (n + 1) = (n : Int) from if_pos ⟨hpl, by omega, Or.inr (by omega)⟩] at hj; exact hj
          · rw [show zaq S T (n + 1) = zaq S T n from if_neg (fun z => by have := z.2.1; omega)] at hj; exact hj
    · intro n hn hj μ3 g3 f3
      have hI := zuI_M (S := S) n (by omega)
      have hp : zPl n := ⟨by omega, by omega⟩
      have hM3 : zMs μ3 S := hM1.sm g3 (by omega)
      refine rX11_asks_28 C _ ⟨by constructor <;> omega, fun c => absurd c (by omega), fun _ => kX11_codeOf hp (kX11_open hM3 hv (fun ho => ⟨by decide, fun _ => kX11_codeOf hp (kX11_layWay fun μ4 g4 w4 => ?_), fun z => absurd z (by decide)⟩) (fun ho => ⟨by decide, fun z => absurd rfl z, fun _ => ?_⟩))⟩
      · rw [zgM_1 ho] at hj
        generalize zgM zuf (fun _ => 0) S n = s at *
        refine znfor (N := 5) (P := fun k => ∀ μ', zsm (fun b j => b = 160 ∨ b = 161 ∨ b = 173) μ1 μ' → (∀ k : Nat, k ≤ 4 → zi μ' 160 k = zpt n k ∧ zi μ' 161 k = zcnt n k) → (∀ x, 0 ≤ x → x < 81 → zi μ' 173 x = zuk s n k x) → J 59 ([some (zR (some 153)), some (zI (n : Int)), some (zI (k : Int))], [], μ', 0, 0)) ?_ ?_ μ4 (g3.trans (g4.mono (fun b j => by omega))) w4 (fun x h0 h1 => by rw [g4.1 _ _ (by omega)]; exact f3 x h0 h1)
        · intro μ5 g5 w5 f5
          exact rX11_asks_59 C _ _ ⟨by decide, fun _ => hj μ5 g5 f5, fun c => absurd (by decide) c⟩
        · intro k hk hj2 μ5 g5 w5 f5
          obtain ⟨w1, w2⟩ := w5 k (by omega)
          have z := zpt_r n (k := k) (by omega)
          have cr := zcnt_r n
          have cr2 : 0 ≤ zcnt n k ∧ zcnt n k ≤ 4 := by
            have hk' : k = 0 ∨ k = 1 ∨ k = 2 ∨ k = 3 ∨ k = 4 := by omega
            rcases hk' with rfl | rfl | rfl | rfl | rfl <;> omega
          refine rX11_asks_59 C _ _ ⟨by constructor <;> omega, fun c => absurd c (by omega), fun _ => ⟨by omega, ?_⟩⟩
          rw [w1, w2]
          refine ⟨by constructor <;> omega, fun c => ?_, fun c => ⟨by omega, ?_⟩⟩
          · refine hj2 μ5 g5 w5 (fun x h0 h1 => ?_)
            rw [f5 x h0 h1, zuk_s, if_neg (fun z => by have := z.1; omega)]
          · refine hj2 _ (g5.up _ (by omega)) (fun j hj => by rw [zi_off (by omega), zi_off (by omega)]; exact w5 j hj) (fun x h0 h1 => ?_)
            rw [zuk_s]
            by_cases e : x = zpt n k
            · rw [if_pos ⟨by omega, e⟩, e, zi_at, f5 _ (by omega) (by omega)]
            · rw [if_neg (fun z => e z.2), zi_off (by omega)]; exact f5 x h0 h1
      · rw [zgM_n ho] at hj; exact hj μ3 g3 f3
  · intro n hn hj μ2 g2 f2
    refine rX11_asks_7 C _ ⟨by constructor <;> omega, fun c => absurd c (by omega), fun _ => ⟨by omega, hj _ (g2.up _ (by omega)) (fun x h0 h1 => ?_)⟩⟩
    by_cases e : x = n
    · subst e; exact zi_at
    · rw [zi_off (by omega)]; exact f2 x h0 (by omega)
end
