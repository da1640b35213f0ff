/-! what the law keeps from call to call -/
def zok2 (S : Int → Int) : Prop := zval S ∧ zLe S
/-- nothing of the link changes -/
def zsame (S S' : Int → Int) : Prop := ∀ i, 360 ≤ i → i < 614 → S' i = S i
theorem zsame.refl (S : Int → Int) : zsame S S := fun _ _ _ => rfl
theorem zsame.trans {S S' S'' : Int → Int} (h : zsame S S') (h2 : zsame S' S'') : zsame S S'' := fun i h0 h1 => (h2 i h0 h1).trans (h i h0 h1)
theorem zsame_upd (S : Int → Int) {a v : Int} (h : a < 360 ∨ 614 ≤ a) : zsame S (zupd S a v) := fun i h0 h1 => if_neg (by omega)
theorem zsame_put3 (S : Int → Int) {a r q b : Int} (h : a + 2 < 360 ∨ 614 ≤ a) : zsame S (zput3 S a r q b) := by
  have h1 : zsame S (zupd S a r) := zsame_upd _ (by omega)
  have h2 : zsame (zupd S a r) (zupd (zupd S a r) (a + 1) q) := zsame_upd _ (by omega)
  have h3 : zsame (zupd (zupd S a r) (a + 1) q) (zput3 S a r q b) := zsame_upd _ (by omega)
  exact (h1.trans h2).trans h3
theorem zLe_c {S S' : Int → Int} (hs : zsame S S') (hw : zLw S) (h : zLe S) : zLe S' := by
  obtain ⟨h1, h2, h3⟩ := h
  obtain ⟨w1, w2⟩ := hw
  have e2 := hs 612 (by decide) (by decide)
  have e3 := hs 613 (by decide) (by decide)
  refine ⟨by rw [e3]; exact h1, fun z => by rw [e3]; exact h2 (by rw [← e2]; exact z), fun z => ?_⟩
  rw [e2] at z ⊢
  rw [e3, hs (600 + S 612 - 1) (by omega) (by omega)]
  obtain ⟨p1, p2⟩ := h3 z
  obtain ⟨q1, q2⟩ := w2 z
  have hg : zagr S S' (S 612 - 1) := fun i hi => hs i (by omega) (by omega)
  exact ⟨(zTX_c (fun _ _ => 0, fun _ _ => none, fun _ => (0, 0), 0) _ _ (S 612 - 1) 0 _ (by omega) (Int.le_refl _) q1.2 hg p1).1, fun y => p2 (zno_c 400 _ _ (S 612 - 1) 0 _ (by omega) (Int.le_refl _) q1.2 hg q2 y)⟩
theorem zok2.c {S S' : Int → Int} (h : zok2 S) (hv : zval S') (hs : zsame S S') : zok2 S' := ⟨hv, zLe_c hs h.1.2.2.2.2.1 h.2⟩
section
variable {S : Int → Int}
theorem zsame_mea {p r q b : Int} (hO : zmeaO p r q b) : zsame S (zmeaS S p r q b) := by
  unfold zmeaS
  split
  · exact zsame_put3 _ (by omega)
  · exact (zsame_put3 _ (by omega)).trans (zsame_upd _ (by omega))
theorem zok_mea (h : zok2 S) {p r q b : Int} (hO : zmeaO p r q b) : zok2 (zmeaS S p r q b) := h.c (zmeaS_v h.1 hO) (zsame_mea hO)
theorem zok_fog (h : zok2 S) (p : Int) : zok2 (zfogS S p) := h.c (zfogS_v h.1 p) (by
  unfold zfogS
  split
  · exact zsame_upd _ (by omega)
  · exact zsame.refl _)
theorem zok_set (h : zok2 S) (w v : Int) : zok2 (zsetS S w v) := h.c (zsetS_v h.1 w v) (by
  unfold zsetS
  split
  · exact zsame_upd _ (by omega)
  · exact zsame.refl _)
theorem zok_pai (h : zok2 S) (l r q b : Int) : zok2 (zpaiS S l r q b) := h.c (zpaiS_v h.1 l r q b) (by
  unfold zpaiS
  split
  · exact zsame_put3 _ (by omega)
  · exact zsame.refl _)
theorem zok_she (h : zok2 S) (k n f s : Int) : zok2 (zsheS S k n f s) := h.c (zsheS_v h.1 k n f s) (by
  have key : ∀ m : Nat, m ≤ 27 → zsame S (zshS S k n f s m) := by
    intro m
    induction m with
    | zero => intro _; exact zsame.refl _
    | succ m ih =>
      intro hm
      have := zshP_r (i := (m : Int)) (by omega)
      exact (ih (by omega)).trans (zsame_upd _ (by omega))
  unfold zsheS
  split
  · exact key 27 (Nat.le_refl _)
  · exact zsame.refl _)
theorem zok_cur (h : zok2 S) (T : List Int) (ink : Int) : zok2 (zcuSS S T ink) := h.c (zcuSS_v h.1 T ink) (by
  have key : (0 ≤ ink ∧ ink ≤ 3) → ∀ m : Nat, m ≤ 9 → zsame S (zcuS S T ink m) := by
    intro hi m
    induction m with
    | zero => intro _; exact zsame.refl _
    | succ m ih => intro hm; exact (ih (by omega)).trans (zsame_upd _ (by omega))
  unfold zcuSS
  split
  · rename_i c
    exact key c.2 9 (Nat.le_refl _)
  · exact zsame.refl _)
theorem zok_pic (h : zok2 S) (T : List Int) : zok2 (zpiSS S T) := h.c (zpiSS_v h.1 T) (by
  unfold zpiSS
  split
  · intro i h0 h1
    unfold zpiS
    rw [if_neg (show ¬ i = 703 by omega), if_neg (show ¬ i = 702 by omega), if_neg (show ¬ (638 ≤ i ∧ i < 702) by omega)]
  · exact zsame.refl _)
theorem zok_paS (h : zok2 S) {T : List Int} : ∀ {n : Nat}, zpaOK T n → zok2 (zpaS S T n)
  | 0, _ => h
  | n + 1, hk => zok_mea (zok_paS h (fun k hk2 => hk k (by omega))) (hk n (by omega))
theorem zok_act (h : zok2 S) {T : List Int} {a : Nat} (hp : zfpc T (zaf (zat T a)) a) : zok2 (zactS S T a) := by
  rcases zaf_at _ hp.1 with z | z | z | z | z | z | z
  · rw [zactS_101 z]; exact zok_pai h _ _ _ _
  · rw [zactS_102 z]; exact zok_fog h _
  · rw [zactS_103 z]; exact zok_set h _ _
  · rw [zactS_108 z]; exact zok_set h _ _
  · rw [zactS_109 z]; exact zok_mea h (zfpc_109 hp z)
  · rw [zactS_116 z]; exact zok_set h _ _
  · rw [zactS_119 z]; exact zok_set h _ _
theorem zok_dS (h : zok2 S) {T : List Int} {n : Nat} (hn : zpcs 2 T n) : ∀ i : Nat, i ≤ n → zok2 (zdS S T i)
  | 0, _ => h
  | i + 1, hi => zok_act (zok_dS h hn i (by omega)) (by have := hn.2 i (by omega); rw [zfor3_2] at this; exact this)
theorem zok_day (h : zok2 S) {T : List Int} {n : Nat} (hn : ¬ 0 ≤ zwr0 T 2 60 → zpcs 2 T n) : zok2 (zdaS S T n) := by
  unfold zdaS
  split
  · exact h
  · rename_i c
    exact zok_dS h (hn c) _ (by have := zdm_r (S := S) (T := T) n 0; omega)
theorem zok_lin (h : zok2 S) {T : List Int} (hT : zTv T) : zok2 (zliS S T) := zliS_v h.1 h.2 hT
end
/-- all that goes on from call to call -/
def zInv (μ : zM) : Prop := ∃ (S : Int → Int) (U : List (Int → Int)) (kp : Int → Int) (K : Int → Int → Int) (T R : List Int), zXa μ S U kp K T R ∧ zMa μ S U kp K T R ∧ zok2 S ∧ (∀ V ∈ U, zok2 V) ∧ (∀ i, 0 ≤ i → i < 2 → (kp i = 0 ∨ kp i = 1) ∧ (kp i = 1 → zok2 (K i))) ∧ zTv T ∧ zcld μ
theorem zok_push {U : List (Int → Int)} {S : Int → Int} (hU : ∀ V ∈ U, zok2 V) (h : zok2 S) : ∀ V ∈ zpush U S, zok2 V := fun V hV => by
  rcases zpush_mem hV with z | z
  · exact hU V z
  · rw [z]; exact h
theorem zok_pushI {U : List (Int → Int)} {S : Int → Int} (hU : ∀ V ∈ U, zok2 V) (h : zok2 S) {c : Prop} [Decidable c] : ∀ V ∈ (if c then zpush U S else U), zok2 V := by
  split
  · exact zok_push hU h
  · exact hU
theorem zU_mem {U : List (Int → Int)} {k : Nat} (hk : k < U.length) : zU U k ∈ U := by
  unfold zU
  rw [List.getD_eq_getElem?_getD, List.getElem?_eq_getElem hk]
  exact List.getElem_mem hk
theorem zUv_of {U : List (Int → Int)} (h : ∀ V ∈ U, zok2 V) : zUv U := fun k hk => (h _ (zU_mem hk)).1
section
variable {μ μ1 μ2 : zM} {S S' : Int → Int} {U U' : List (Int → Int)} {kp kp' : Int → Int} {K K' : Int → Int → Int} {T T' R R' : List Int}
theorem zPM_W {μ μ' : zM} (g : zsm zPM μ μ') : zsm zPW μ μ' := g.mono (fun b j h => by unfold zPM at h; show 153 ≤ b ∧ b ≤ 181; omega)
/-- a call that leaves the state, both sides -/
theorem zpub2 (hX : zXa μ S U kp K T R) (hM : zMa μ S U kp K T R) (hcl : zcld μ) (g1 : zsm zPX μ μ1) (c1 : zXc μ1) (r1 : zXr μ1 R') (g2 : zsm zPM μ1 μ2) (r2 : zMr μ2 R') : zXa μ2 S U kp K T R' ∧ zMa μ2 S U kp K T R' ∧ zcld μ2 :=
  ⟨(hX.pub g1 c1 r1).m (zPM_W g2), (hM.x (g1.xm (fun b j z => by unfold zPX at z; omega))).pub g2 r2, g2.cld (g1.cld hcl)⟩
theorem zInv_pub (hX : zXa μ S U kp K T R) (hM : zMa μ S U kp K T R) (hS : zok2 S) (hU : ∀ V ∈ U, zok2 V) (hK : ∀ i, 0 ≤ i → i < 2 → (kp i = 0 ∨ kp i = 1) ∧ (kp i = 1 → zok2 (K i))) (hT : zTv T) (hcl : zcld μ) (g1 : zsm zPX μ μ1) (c1 : zXc μ1) (r1 : zXr μ1 R') (g2 : zsm zPM μ1 μ2) (r2 : zMr μ2 R') : zInv μ2 := by
  obtain ⟨a, b, c⟩ := zpub2 hX hM hcl g1 c1 r1 g2 r2
  exact ⟨S, U, kp, K, T, R', a, b, hS, hU, hK, hT, c⟩
/-- a call that changes the state, both sides -/
theorem zInv_st (hX : zXa μ1 S' U' kp' K' T' R') (x1 : zxm μ μ1) (g2 : zsm zPW μ1 μ2) (hM : zMa μ2 S' U' kp' K' T' R') (hS : zok2 S') (hU : ∀ V ∈ U', zok2 V) (hK : ∀ i, 0 ≤ i → i < 2 → (kp' i = 0 ∨ kp' i = 1) ∧ (kp' i = 1 → zok2 (K' i))) (hT : zTv T') (hcl : zcld μ) : zInv μ2 :=
  ⟨S', U', kp', K', T', R', hX.m g2, hM, hS, hU, hK, hT, g2.cld (x1.2 hcl)⟩
end
