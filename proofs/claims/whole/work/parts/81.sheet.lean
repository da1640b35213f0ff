/-! sheet -/
theorem zw_of (x : Int) : Int32.ofInt (zw x) = Int32.ofInt x := by rw [← Int32.toInt_inj, z_toInt, z_toInt]; unfold zw; omega
theorem zRun_w {G : zG} {ph : Bool} {d mc ms : Nat} {M : zMeth} {av av' : List zV} {μ : zM} {K : Option zV → zM → Prop} (e : av.map (cv G) = av'.map (cv G)) (h : zRun G ph d mc ms M av μ K) : zRun G ph d mc ms M av' μ K := by
  unfold zRun zP at h ⊢
  rw [← e]
  exact h
theorem zJ_w {G : zG} {ph : Bool} {D mc ms : Nat} {M : zMeth} {K : Option zV → zM → Prop} {J : Nat → zS → Prop} (C : zJ G ph D mc ms M K J) {pc : Nat} {L : List (Option zV)} {st st' : List zV} {μ : zM} {cn un : Nat} (e : st.map (cv G) = st'.map (cv G)) (h : J pc (L, st, μ, cn, un)) : J pc (L, st', μ, cn, un) := by
  obtain ⟨p, ev, s, m, args, below, meth, c, -, -, -, -, -, rfl⟩ := C
  unfold zJd at h ⊢
  show ∀ (H : Heap) (locs : List Loc) (ls : Array Slot), _
  intro H locs ls h1 h2 h3
  have := h H locs ls h1 h2 h3
  show W _ _ _ _ _ _ _ _ _ _ _ _ _ _ _ (F0 m pc ls (st'.map (cv G)))
  rw [← e]
  exact this
theorem cv_w (G : zG) (x : Int) : cv G (zI (zw x)) = cv G (zI x) := by
  show Value.int (Int32.ofInt (zw x)) = Value.int (Int32.ofInt x)
  rw [zw_of]
theorem zw_in (x : Int) : zin (zw x) := ⟨zw_lo x, zw_hi x⟩
theorem zb_in (x : Int) : zin (zb x) := by unfold zb; constructor <;> omega
theorem zsh_in (x : Int) : zin (zsh x) := by unfold zsh; constructor <;> omega
def zshE (k v : Int) : Int := if k = 0 then zb v else if k = 1 then zsh v else zw v
theorem zshE_in (k v : Int) : zin (zshE k v) := by
  unfold zshE
  split
  · exact zb_in v
  · split
    · exact zsh_in v
    · exact zw_in v
def zshV (k n f s i : Int) : Int := if k = 3 ∨ n ≤ i then 100 else max 0 (min 100 (zshE k (f + i * s)))
theorem zshV_r (k n f s i : Int) : 0 ≤ zshV k n f s i ∧ zshV k n f s i ≤ 100 := by
  unfold zshV
  split <;> omega
def zshP (i : Int) : Int := 3 * zta 3 (i / 3) + i % 3
theorem zshP_f : ∀ i : Fin 27, (0 ≤ zta 3 ((i.val : Int) / 3) ∧ zta 3 ((i.val : Int) / 3) ≤ 54) := by decide +kernel
theorem zshP_r {i : Int} (h : 0 ≤ i ∧ i < 27) : 0 ≤ zshP i ∧ zshP i < 243 := by
  have := zshP_f ⟨i.toNat, by omega⟩
  rw [show (((⟨i.toNat, by omega⟩ : Fin 27).val : Nat) : Int) = i from by show ((i.toNat : Nat) : Int) = i; omega] at this
  unfold zshP
  omega
def zshS (S : Int → Int) (k n f s : Int) : Nat → Int → Int
  | 0 => S
  | m + 1 => zupd (zshS S k n f s m) (zshP m) (zshV k n f s m)
def zshT (k n f s : Int) : Nat → Int
  | 0 => 0
  | m + 1 => zshT k n f s m + zshV k n f s m
theorem zshT_r (k n f s : Int) : ∀ m : Nat, 0 ≤ zshT k n f s m ∧ zshT k n f s m ≤ 100 * m
  | 0 => ⟨Int.le_refl _, Int.le_refl _⟩
  | m + 1 => by
    have := zshT_r k n f s m
    have := zshV_r k n f s m
    rw [zshT]
    omega
theorem zshS_hi {S : Int → Int} {k n f s : Int} : ∀ m : Nat, m ≤ 27 → ∀ i, 243 ≤ i → zshS S k n f s m i = S i
  | 0, _, _, _ => rfl
  | m + 1, hm, i, hi => by
    have := zshP_r (i := (m : Int)) (by omega)
    rw [zshS, zupd_off (by omega)]
    exact zshS_hi m (by omega) i hi
theorem zshS_v {S : Int → Int} (h : zval S) (k n f s : Int) : ∀ m : Nat, m ≤ 27 → zval (zshS S k n f s m)
  | 0, _ => h
  | m + 1, hm => by
    have hq := zshS_v h k n f s m (by omega)
    have hp := zshP_r (i := (m : Int)) (by omega)
    have hv := zshV_r k n f s m
    rw [zshS]
    refine hq.lo (fun i i0 => zupd_off (by omega)) ⟨fun x x0 x1 => ?_, fun x x0 x1 => by rw [zupd_off (by omega)]; exact hq.1.2 x x0 x1⟩ (fun x x0 x1 hx => by rw [zupd_off (by omega)]; exact hq.2.2.2.2.2.2.1 x x0 x1 hx)
    by_cases c : x = zshP m
    · rw [c, zupd_at]; exact hv
    · rw [zupd_off c]; exact hq.1.1 x x0 x1
abbrev zsheO (k n : Int) : Prop := (0 ≤ k ∧ k ≤ 3) ∧ n ≤ 27 ∧ (k = 3 ∨ 0 ≤ n)
def zsheS (S : Int → Int) (k n f s : Int) : Int → Int := if zsheO k n then zshS S k n f s 27 else S
def zsheA (k n f s : Int) : Int := if ¬ (0 ≤ k ∧ k ≤ 3) ∨ 27 < n then -1 else if k ≠ 3 ∧ n < 0 then -2 else if k = 3 then -3 else zshT k n f s 27
theorem zsheS_v {S : Int → Int} (h : zval S) (k n f s : Int) : zval (zsheS S k n f s) := by
  unfold zsheS
  split
  · exact zshS_v h k n f s 27 (by decide)
  · exact h
section
variable {G : zG} {μ : zM} {S : Int → Int} {c : Int} {W U : List (Int → Int)} {kp : Int → Int} {K : Int → Int → Int} {T R : List Int}
theorem kX10_entryOf {F : Int → zM → Prop} {ph : Bool} {k v : Int} (ik : zin k) (h : F (if k = 0 then zb v else if k = 1 then zsh v else v) μ) : qX10_entryOf G ph k v μ F :=
  eX10_entryOf fun J C => rX10_entryOf_e C _ _ ⟨ik, fun c0 => ⟨fun c1 => by rw [if_neg c0, if_neg c1] at h; exact h, fun c1 => by rw [if_neg c0, if_pos c1] at h; exact h⟩, fun c0 => by rw [if_pos c0] at h; exact h⟩
theorem kX10_sheet {F : Int → zM → Prop} (hx : zXa μ S U kp K T R) (hv : zval S) {k n f s : Int} (ik : zin k) (iN : zin n) (h : ∀ μ', zxm μ μ' → zXa μ' (zsheS S k n f s) U kp K T R → F (zsheA k n f s) μ') : qX10_sheet G k n f s μ F := by
  obtain ⟨hu, hx⟩ := hx
  unfold zsheS zsheA at h
  refine eX10_sheet fun J C => rX10_sheet_e C _ _ _ _ ?_
  have loop : zsheO k n → J 39 ([some (zR (some 0)), some (zI k), some (zI n), some (zI f), some (zI s), some (zI 0), some (zI 0), none], [], μ, 0, 0) := by
    intro hO
    rw [if_pos hO, if_neg (by omega), if_neg (by omega)] at h
    refine znfor (N := 27) (P := fun m => ∀ μ1, zsm (fun b _ => b = 6) μ μ1 → zXs μ1 5 (zshS S k n f s m) → J 39 ([some (zR (some 0)), some (zI k), some (zI n), some (zI f), some (zI s), some (zI (zshT k n f s m)), some (zI (m : Int)), none], [], μ1, 0, 0)) ?_ ?_ μ (zsm.refl _ _) hx.1
    · intro μ1 g1 x1
      have hx1 := hx.st g1 (fun b j z => by omega) x1 (fun i i0 i1 => zshS_hi 27 (by decide) i (by omega)) hv.2.2.2.2.1
      have h := h μ1 (g1.xm (fun b j z => by omega)) ⟨hu, hx1⟩
      refine rX10_sheet_39 C _ _ _ _ _ _ ⟨by decide, by decide, fun _ => ⟨ik, fun z => ?_, fun z => ?_⟩, fun z => absurd (by decide) z⟩
      · rw [if_neg z] at h; exact h
      · rw [if_pos z] at h; exact h
    · intro m hm hj μ1 g1 x1
      have hp := zshP_r (i := (m : Int)) (by omega)
      have hpe : (zta 3 ((m : Int) / 3)) * 3 + (m : Int) % 3 = zshP m := by unfold zshP; omega
      have hvm := zshS_v hv k n f s m (by omega)
      have fin : ∀ v, v = zshV k n f s m → J 39 ([some (zR (some 0)), some (zI k), some (zI n), some (zI f), some (zI s), some (zI (zshT k n f s m + v)), some (zI ((m : Int) + 1)), none], [], zup μ1 6 (zshP m) v, 0, 0) := fun v e => by
        rw [e]
        exact hj _ (g1.up _ rfl) (x1.up hvm.pic (b := 6) (Or.inl ⟨rfl, rfl, hp.1, hp.2⟩))
      refine rX10_sheet_39 C _ _ _ _ _ _ ⟨by constructor <;> omega, by decide, fun z => absurd z (by omega), fun _ => ⟨ik, fun z => ?_, fun z => ⟨iN, fun y => ?_, fun y => ?_⟩⟩⟩
      · rw [hpe]
        exact ⟨by omega, by omega, by omega, hp, fin 100 (by unfold zshV; rw [if_pos (Or.inl z)])⟩
      · rw [hpe]
        exact ⟨by omega, by omega, by omega, hp, fin 100 (by unfold zshV; rw [if_pos (Or.inr y)])⟩
      · rw [hpe]
        refine kX10_entryOf ik ?_
        have hz := zshE_in k (f + (m : Int) * s)
        have put : ∀ v, cv G (zI v) = cv G (zI (zshE k (f + (m : Int) * s))) → qX10_put G true v 100 μ1 (fun v15 μ15 => (0 ≤ (m : Int) ∧ (m : Int) < 2147483648) ∧ (0 ≤ (m : Int) / 3 ∧ (m : Int) / 3 < 9) ∧ (0 ≤ (m : Int) ∧ (m : Int) < 2147483648) ∧ (0 ≤ zshP m ∧ zshP m < 243) ∧ J 39 ([some (zR (some 0)), some (zI k), some (zI n), some (zI f), some (zI s), some (zI (zshT k n f s m + v15)), some (zI ((m : Int) + 1)), none], [], zup μ15 6 (zshP m) v15, 0, 0)) := fun v e => by
          refine zRun_w (av := [zI (zshE k (f + (m : Int) * s)), zI 100]) (by simp only [List.map]; rw [e]) ?_
          refine eX10_put fun J C => rX10_put_e C _ _ ⟨hz, by decide, by constructor <;> omega, ⟨by omega, by omega⟩, ⟨by omega, by omega⟩, ⟨by omega, by omega⟩, hp, fin _ ?_⟩
          unfold zshV
          rw [if_neg (by omega), Int.min_comm]
        refine put _ ?_
        unfold zshE
        split
        · rfl
        · split
          · rfl
          · exact (cv_w G _).symm
  refine kX10_isIn ik (by decide) (by decide) (fun c1 => ⟨by decide, fun z => absurd z (by decide), fun _ => ⟨iN, by decide, fun c2 => ⟨fun c3 => loop ⟨c1, by omega, Or.inr c3⟩, fun c3 => ⟨ik, fun c4 => loop ⟨c1, by omega, Or.inl c4⟩, fun c4 => ?_⟩⟩, fun c2 => ?_⟩⟩) (fun c1 => ⟨by decide, fun _ => ?_, fun z => absurd rfl z⟩)
  · rw [if_neg (by omega), if_neg (by omega), if_pos (by omega)] at h
    exact h μ (zxm.refl _) ⟨hu, hx⟩
  · rw [if_neg (by omega), if_pos (by omega)] at h
    exact h μ (zxm.refl _) ⟨hu, hx⟩
  · rw [if_neg (by omega), if_pos (by omega)] at h
    exact h μ (zxm.refl _) ⟨hu, hx⟩
theorem kX11_sheet {F : Int → zM → Prop} (hM : zMa μ S U kp K T R) {k n f s : Int} (ik : zin k) (iN : zin n) (h : ∀ μ', zsm zPW μ μ' → zMa μ' (zsheS S k n f s) U kp K T R → F (zsheA k n f s) μ') : qX11_sheet G k n f s μ F := by
  have g0 : zsm zPW μ (zup μ 153 5 0) := (zsm.refl _ _).up _ (by decide)
  have hM := hM.pub (zMthr μ) hM.2.2.2.2.1.thr
  unfold zsheS zsheA at h
  refine eX11_sheet fun J C => rX11_sheet_e C _ _ _ _ ?_
  generalize zup μ 153 5 0 = μ0 at *
  have loop : zsheO k n → J 47 ([some (zR (some 153)), some (zI k), some (zI n), none, some (zI s), some (zI f), some (zI 0), some (zI 0), none, none], [], μ0, 0, 0) := by
    intro hO
    rw [if_pos hO, if_neg (by omega), if_neg (by omega)] at h
    have st : J 47 ([some (zR (some 153)), some (zI k), some (zI n), none, some (zI s), some (zI (f + ((0 : Nat) : Int) * s)), some (zI 0), some (zI ((0 : Nat) : Int)), none, none], [], μ0, 0, 0) := by
      refine znfor (N := 27) (P := fun m => ∀ μ1, zsm (fun b _ => b = 154) μ0 μ1 → zMs μ1 (zshS S k n f s m) → J 47 ([some (zR (some 153)), some (zI k), some (zI n), none, some (zI s), some (zI (f + (m : Int) * s)), some (zI (zshT k n f s m)), some (zI (m : Int)), none, none], [], μ1, 0, 0)) ?_ ?_ μ0 (zsm.refl _ _) hM.1
      · intro μ1 g1 m1
        have h := h μ1 (g0.trans (g1.mono (fun b j => by unfold zPW; omega))) (hM.st g1 (fun b j z => by omega) m1 (hM.2.1.sm g1 (by omega) (by omega)))
        refine rX11_sheet_47 C _ _ _ _ _ _ ⟨by decide, by decide, fun _ => ⟨ik, fun z => ?_, fun z => ?_⟩, fun z => absurd (by decide) z⟩
        · rw [if_neg z] at h; exact h
        · rw [if_pos z] at h; exact h
      · intro m hm hj μ1 g1 m1
        have hp := zshP_r (i := (m : Int)) (by omega)
        have hpe : 3 * (zta 9 ((m : Int) / 3)) + (m : Int) % 3 = zshP m := rfl
        have es : f + (m : Int) * s + s = f + ((m + 1 : Nat) : Int) * s := by rw [Int.natCast_add, Int.add_mul]; omega
        have fin : ∀ v, v = zshV k n f s m → J 47 ([some (zR (some 153)), some (zI k), some (zI n), none, some (zI s), some (zI (f + (m : Int) * s + s)), some (zI (zshT k n f s m + v)), some (zI ((m : Int) + 1)), none, none], [], zup μ1 154 (zshP m) v, 0, 0) := fun v e => by
          rw [e, es]
          exact hj _ (g1.up _ rfl) (m1.up _ _)
        have hz := zshE_in k (f + (m : Int) * s)
        have go : ∀ v, cv G (zI v) = cv G (zI (zshE k (f + (m : Int) * s))) → J 81 ([some (zR (some 153)), some (zI k), some (zI n), none, some (zI s), some (zI (f + (m : Int) * s)), some (zI (zshT k n f s m)), some (zI (m : Int)), none, none], [zI v], μ1, 0, 0) := fun v e => by
          refine zJ_w C (st := [zI (zshE k (f + (m : Int) * s))]) (by simp only [List.map]; rw [e]) ?_
          refine rX11_sheet_81 C _ _ _ _ _ _ _ ⟨ik, fun z => ?_, fun z => ⟨by constructor <;> omega, iN, fun y => ?_, fun y => ?_⟩⟩
          · rw [hpe]
            exact ⟨by omega, by omega, by omega, by omega, fin 100 (by unfold zshV; rw [if_pos (Or.inl z)])⟩
          · rw [hpe]
            exact ⟨hz, by constructor <;> omega, by omega, by omega, by omega, by omega, fin _ (by unfold zshV; rw [if_neg (by omega)])⟩
          · rw [hpe]
            exact ⟨by omega, by omega, by omega, by omega, fin 100 (by unfold zshV; rw [if_pos (by omega)])⟩
        refine rX11_sheet_47 C _ _ _ _ _ _ ⟨by constructor <;> omega, by decide, fun z => absurd z (by omega), fun _ => ⟨ik, fun z => ⟨fun y => go _ ?_, fun y => go _ ?_⟩, fun z => go _ ?_⟩⟩
        · unfold zshE; rw [if_neg z, if_neg y]; exact (cv_w G _).symm
        · unfold zshE; rw [if_neg z, if_pos y]
        · unfold zshE; rw [if_pos z]
    have e0 : f + ((0 : Nat) : Int) * s = f := by simp
    rw [e0] at st
    exact st
  refine kX11_in ik (by decide) (by decide) (fun c1 => ⟨by decide, fun z => absurd z (by decide), fun _ => ⟨iN, by decide, fun c2 => ⟨ik, fun c3 => loop ⟨c1, by omega, Or.inl (by omega)⟩, fun c3 => ⟨fun c4 => loop ⟨c1, by omega, Or.inr c4⟩, fun c4 => ?_⟩⟩, fun c2 => ?_⟩⟩) (fun c1 => ⟨by decide, fun _ => ?_, fun z => absurd rfl z⟩)
  · rw [if_neg (by omega), if_neg (by omega), if_pos (by omega)] at h
    exact h μ0 g0 hM
  · rw [if_neg (by omega), if_pos (by omega)] at h
    exact h μ0 g0 hM
  · rw [if_neg (by omega), if_pos (by omega)] at h
    exact h μ0 g0 hM
end
