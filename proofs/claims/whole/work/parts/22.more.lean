/-! rows with the side facts as the printed regions want them -/
abbrev zin (x : Int) : Prop := -2147483648 ≤ x ∧ x < 2147483648
abbrev zin64 (x : Int) : Prop := -9223372036854775808 ≤ x ∧ x < 9223372036854775808
def zle : List (Option zV) → List (Option zV) → Prop
  | [], [] => True
  | none :: l, _ :: r => zle l r
  | some v :: l, w :: r => w = some v ∧ zle l r
  | _, _ => False
theorem zle_len : ∀ {l r : List (Option zV)}, zle l r → l.length = r.length
  | [], [], _ => rfl
  | none :: l, _ :: r, h => by simp [zle_len (l := l) (r := r) h]
  | some _ :: l, _ :: r, h => by simp [zle_len (l := l) (r := r) h.2]
  | [], _ :: _, h => h.elim
  | none :: _, [], h => h.elim
  | some _ :: _, [], h => h.elim
theorem zle_get : ∀ {l r : List (Option zV)}, zle l r → ∀ (i : Nat) (v : zV), l[i]? = some (some v) → r[i]? = some (some v)
  | [], [], _, i, v, h => by simp at h
  | none :: l, _ :: r, hle, 0, v, h => by simp at h
  | none :: l, _ :: r, hle, i + 1, v, h => by simpa using zle_get (l := l) (r := r) hle i v (by simpa using h)
  | some w :: l, x :: r, hle, 0, v, h => by simp at h; subst h; simp [hle.1]
  | some w :: l, x :: r, hle, i + 1, v, h => by simpa using zle_get (l := l) (r := r) hle.2 i v (by simpa using h)
  | [], _ :: _, hle, _, _, _ => hle.elim
  | none :: _, [], hle, _, _, _ => hle.elim
  | some _ :: _, [], hle, _, _, _ => hle.elim
theorem zin_w {x : Int} (h : zin x) : zw x = x := zw_id h.1 h.2
theorem zin_w64 {x : Int} (h : zin64 x) : zw64 x = x := zw64_id h.1 h.2
/-- places that stand from the beginning on -/
theorem zk_of {μ : zM} {a : Nat} {q : Nat × Nat} (h : a < 182) (hq : zsTab a = q) : zok true μ a q := ⟨Or.inr ⟨rfl, h⟩, by unfold zs; rw [if_pos h]; exact hq⟩
def zIsSt (a : Nat) : Prop := a + 7 < 182 ∧ zsTab a = (27, 9) ∧ zsTab (a + 1) = (40, 243) ∧ zsTab (a + 2) = (42, 81) ∧ zsTab (a + 3) = (40, 7) ∧ zsTab (a + 4) = (40, 36) ∧ zsTab (a + 5) = (40, 24) ∧ zsTab (a + 6) = (40, 64)
def zIsCh (a : Nat) : Prop := a + 5 < 182 ∧ zsTab a = (20, 5) ∧ zsTab (a + 1) = (40, 243) ∧ zsTab (a + 2) = (40, 19683) ∧ zsTab (a + 3) = (40, 5) ∧ zsTab (a + 4) = (40, 5) ∧ zsTab (a + 5) = (40, 4)
def zIsAr (a n : Nat) : Prop := a < 182 ∧ zsTab a = (40, n)
theorem zIsSt.k0 {a : Nat} (h : zIsSt a) (μ : zM) : zok true μ a (27, 9) := zk_of (by have := h.1; omega) h.2.1
theorem zIsSt.k1 {a : Nat} (h : zIsSt a) (μ : zM) : zok true μ (a + 1) (40, 243) := zk_of (by have := h.1; omega) h.2.2.1
theorem zIsSt.k2 {a : Nat} (h : zIsSt a) (μ : zM) : zok true μ (a + 2) (42, 81) := zk_of (by have := h.1; omega) h.2.2.2.1
theorem zIsSt.k3 {a : Nat} (h : zIsSt a) (μ : zM) : zok true μ (a + 3) (40, 7) := zk_of (by have := h.1; omega) h.2.2.2.2.1
theorem zIsSt.k4 {a : Nat} (h : zIsSt a) (μ : zM) : zok true μ (a + 4) (40, 36) := zk_of (by have := h.1; omega) h.2.2.2.2.2.1
theorem zIsSt.k5 {a : Nat} (h : zIsSt a) (μ : zM) : zok true μ (a + 5) (40, 24) := zk_of (by have := h.1; omega) h.2.2.2.2.2.2.1
theorem zIsSt.k6 {a : Nat} (h : zIsSt a) (μ : zM) : zok true μ (a + 6) (40, 64) := zk_of (by have := h.1; omega) h.2.2.2.2.2.2.2
theorem zIsCh.k0 {a : Nat} (h : zIsCh a) (μ : zM) : zok true μ a (20, 5) := zk_of (by have := h.1; omega) h.2.1
theorem zIsCh.k1 {a : Nat} (h : zIsCh a) (μ : zM) : zok true μ (a + 1) (40, 243) := zk_of (by have := h.1; omega) h.2.2.1
theorem zIsCh.k2 {a : Nat} (h : zIsCh a) (μ : zM) : zok true μ (a + 2) (40, 19683) := zk_of (by have := h.1; omega) h.2.2.2.1
theorem zIsCh.k3 {a : Nat} (h : zIsCh a) (μ : zM) : zok true μ (a + 3) (40, 5) := zk_of (by have := h.1; omega) h.2.2.2.2.1
theorem zIsCh.k4 {a : Nat} (h : zIsCh a) (μ : zM) : zok true μ (a + 4) (40, 5) := zk_of (by have := h.1; omega) h.2.2.2.2.2.1
theorem zIsCh.k5 {a : Nat} (h : zIsCh a) (μ : zM) : zok true μ (a + 5) (40, 4) := zk_of (by have := h.1; omega) h.2.2.2.2.2.2
theorem zIsAr.k {a n : Nat} (h : zIsAr a n) (μ : zM) : zok true μ a (40, n) := zk_of h.1 h.2
theorem zSt_tab : ∀ i, i < 11 → zsTab (15 + 8 * i) = (27, 9) ∧ zsTab (15 + 8 * i + 1) = (40, 243) ∧ zsTab (15 + 8 * i + 2) = (42, 81) ∧ zsTab (15 + 8 * i + 3) = (40, 7) ∧ zsTab (15 + 8 * i + 4) = (40, 36) ∧ zsTab (15 + 8 * i + 5) = (40, 24) ∧ zsTab (15 + 8 * i + 6) = (40, 64) := by decide +kernel
theorem zSt_tab2 : ∀ i, i < 2 → zsTab (137 + 8 * i) = (27, 9) ∧ zsTab (137 + 8 * i + 1) = (40, 243) ∧ zsTab (137 + 8 * i + 2) = (42, 81) ∧ zsTab (137 + 8 * i + 3) = (40, 7) ∧ zsTab (137 + 8 * i + 4) = (40, 36) ∧ zsTab (137 + 8 * i + 5) = (40, 24) ∧ zsTab (137 + 8 * i + 6) = (40, 64) := by decide +kernel
theorem zSt_slot {i : Int} (h : 0 ≤ i ∧ i < 11) : zIsSt (15 + 8 * i.toNat) := ⟨by omega, zSt_tab i.toNat (by omega)⟩
theorem zSt_kept {i : Int} (h : 0 ≤ i ∧ i < 2) : zIsSt (137 + 8 * i.toNat) := ⟨by omega, zSt_tab2 i.toNat (by omega)⟩
theorem zSt_5 : zIsSt 5 := ⟨by decide, by decide +kernel⟩
theorem zSt_111 : zIsSt 111 := ⟨by decide, by decide +kernel⟩
theorem zCh_105 : zIsCh 105 := ⟨by decide, by decide +kernel⟩
theorem zCh_119 : zIsCh 119 := ⟨by decide, by decide +kernel⟩
def zKI (F : Int → zM → Prop) : Option zV → zM → Prop := fun r μ => ∃ x, r = some (zI x) ∧ F x μ
def zKL (F : Int → zM → Prop) : Option zV → zM → Prop := fun r μ => ∃ x, r = some (zL x) ∧ F x μ
def zKR (F : Option Nat → zM → Prop) : Option zV → zM → Prop := fun r μ => ∃ x, r = some (zR x) ∧ F x μ
def zKT (F : Nat → zM → Prop) : Option zV → zM → Prop := fun r μ => ∃ x, r = some (zT x) ∧ F x μ
def zKV (F : zM → Prop) : Option zV → zM → Prop := fun r μ => r = none ∧ F μ
section
variable {G : zG} {ph : Bool} {p : Program} {e : Env} {R : Room} {s : State} {m : MethodId} {args : Array Value} {below : List Frame} {meth : Method} {c : Code} {Q : State → Prop} {cc : ByteArray} {own : String} {Ts : List Cond} {pc : Nat} {L L' : List (Option zV)} {st st' : List zV} {μ μ' : zM} {cn un : Nat}
theorem z_wk (h : zle L' L) (k : zJd G ph p e R s m args below meth c Q pc (L', st, μ, cn, un)) : zJd G ph p e R s m args below meth c Q pc (L, st, μ, cn, un) :=
  fun H locs ls hl hh hS => k H locs ls ⟨hl.1, (zle_len h).trans hl.2.1, hl.2.2.1, fun i v hi => hl.2.2.2 i v (zle_get h i v hi)⟩ hh hS
theorem z_eqS (h : st = st') (k : zJd G ph p e R s m args below meth c Q pc (L, st', μ, cn, un)) : zJd G ph p e R s m args below meth c Q pc (L, st, μ, cn, un) := h ▸ k
theorem z_iald (A : zAm G p s m args c cc own Ts) {i : Int} {a n : Nat} (d : decode cc pc = .ok (.iaload, 1)) (hq : zok ph μ a (40, n)) (hn : n < 2147483648) (hi : 0 ≤ i ∧ i < (n : Int)) (k9 : zJd G ph p e R s m args below meth c Q (pc + 1) (L, zI (zi μ a i) :: st, μ, cn, un)) : zJd G ph p e R s m args below meth c Q pc (L, zI i :: zR (some a) :: st, μ, cn, un) := by
  have hw : zw i = i := zw_id (by omega) (by omega)
  exact s_iald A d hq (by rw [hw]; exact hi) (by rw [hw]; exact k9)
theorem z_zald (A : zAm G p s m args c cc own Ts) {i : Int} {a n : Nat} (d : decode cc pc = .ok (.baload, 1)) (hq : zok ph μ a (42, n)) (hn : n < 2147483648) (hi : 0 ≤ i ∧ i < (n : Int)) (k9 : zJd G ph p e R s m args below meth c Q (pc + 1) (L, zI (zi μ a i) :: st, μ, cn, un)) : zJd G ph p e R s m args below meth c Q pc (L, zI i :: zR (some a) :: st, μ, cn, un) := by
  have hw : zw i = i := zw_id (by omega) (by omega)
  exact s_zald A d hq (by rw [hw]; exact hi) (by rw [hw]; exact k9)
theorem z_bald (A : zAm G p s m args c cc own Ts) {i : Int} {a n : Nat} (d : decode cc pc = .ok (.baload, 1)) (hq : zok ph μ a (43, n)) (hn : n < 2147483648) (hi : 0 ≤ i ∧ i < (n : Int)) (k9 : zJd G ph p e R s m args below meth c Q (pc + 1) (L, zI (zi μ a i) :: st, μ, cn, un)) : zJd G ph p e R s m args below meth c Q pc (L, zI i :: zR (some a) :: st, μ, cn, un) := by
  have hw : zw i = i := zw_id (by omega) (by omega)
  exact s_bald A d hq (by rw [hw]; exact hi) (by rw [hw]; exact k9)
theorem z_lald (A : zAm G p s m args c cc own Ts) {i : Int} {a n : Nat} (d : decode cc pc = .ok (.laload, 1)) (hq : zok ph μ a (41, n)) (hn : n < 2147483648) (hi : 0 ≤ i ∧ i < (n : Int)) (k9 : zJd G ph p e R s m args below meth c Q (pc + 1) (L, zL (zi μ a i) :: st, μ, cn, un)) : zJd G ph p e R s m args below meth c Q pc (L, zI i :: zR (some a) :: st, μ, cn, un) := by
  have hw : zw i = i := zw_id (by omega) (by omega)
  exact s_lald A d hq (by rw [hw]; exact hi) (by rw [hw]; exact k9)
theorem z_tald (A : zAm G p s m args c cc own Ts) {i : Int} {t : Nat} (d : decode cc pc = .ok (.iaload, 1)) (ht : t < 12 ∨ t = 40) (hn : (zst G t).1 < 2147483648) (hi : 0 ≤ i ∧ i < ((zst G t).1 : Int)) (k9 : zJd G ph p e R s m args below meth c Q (pc + 1) (L, zI ((zst G t).2 i.toNat) :: st, μ, cn, un)) : zJd G ph p e R s m args below meth c Q pc (L, zI i :: zT t :: st, μ, cn, un) := by
  have hw : zw i = i := zw_id (by omega) (by omega)
  exact s_tald A d ht (by rw [hw]; exact hi) (by rw [hw]; exact k9)
theorem z_iast (A : zAm G p s m args c cc own Ts) {i x : Int} {a n : Nat} (d : decode cc pc = .ok (.iastore, 1)) (hq : zok ph μ a (40, n)) (hn : n < 2147483648) (hi : 0 ≤ i ∧ i < (n : Int)) (k9 : zJd G ph p e R s m args below meth c Q (pc + 1) (L, st, zup μ a i x, cn, un)) : zJd G ph p e R s m args below meth c Q pc (L, zI x :: zI i :: zR (some a) :: st, μ, cn, un) := by
  have hw : zw i = i := zw_id (by omega) (by omega)
  exact s_iast A d hq (by rw [hw]; exact hi) (by rw [hw]; exact k9)
theorem z_bast (A : zAm G p s m args c cc own Ts) {i x : Int} {a n : Nat} (d : decode cc pc = .ok (.bastore, 1)) (hq : zok ph μ a (43, n)) (hn : n < 2147483648) (hi : 0 ≤ i ∧ i < (n : Int)) (k9 : zJd G ph p e R s m args below meth c Q (pc + 1) (L, st, zup μ a i (zb x), cn, un)) : zJd G ph p e R s m args below meth c Q pc (L, zI x :: zI i :: zR (some a) :: st, μ, cn, un) := by
  have hw : zw i = i := zw_id (by omega) (by omega)
  exact s_bast A d hq (by rw [hw]; exact hi) (by rw [hw]; exact k9)
theorem z_zast (A : zAm G p s m args c cc own Ts) {i x : Int} {a n : Nat} (d : decode cc pc = .ok (.bastore, 1)) (hq : zok ph μ a (42, n)) (hn : n < 2147483648) (hi : 0 ≤ i ∧ i < (n : Int)) (hx : x = 0 ∨ x = 1) (k9 : zJd G ph p e R s m args below meth c Q (pc + 1) (L, st, zup μ a i x, cn, un)) : zJd G ph p e R s m args below meth c Q pc (L, zI x :: zI i :: zR (some a) :: st, μ, cn, un) := by
  have hw : zw i = i := zw_id (by omega) (by omega)
  exact s_zast A d hq (by rw [hw]; exact hi) hx (by rw [hw]; exact k9)
theorem z_last (A : zAm G p s m args c cc own Ts) {i x : Int} {a n : Nat} (d : decode cc pc = .ok (.lastore, 1)) (hq : zok ph μ a (41, n)) (hn : n < 2147483648) (hi : 0 ≤ i ∧ i < (n : Int)) (k9 : zJd G ph p e R s m args below meth c Q (pc + 1) (L, st, zup μ a i x, cn, un)) : zJd G ph p e R s m args below meth c Q pc (L, zL x :: zI i :: zR (some a) :: st, μ, cn, un) := by
  have hw : zw i = i := zw_id (by omega) (by omega)
  exact s_last A d hq (by rw [hw]; exact hi) (by rw [hw]; exact k9)
theorem z_aald (A : zAm G p s m args c cc own Ts) {i : Int} {a k n : Nat} {r : Option Nat} (d : decode cc pc = .ok (.aaload, 1)) (hk : 44 ≤ k) (hq : zok ph μ a (k, n)) (hn : n < 2147483648) (hi : 0 ≤ i ∧ i < (n : Int)) (hr : zel μ a k i.toNat = r) (k9 : zJd G ph p e R s m args below meth c Q (pc + 1) (L, zR r :: st, μ, cn, un)) : zJd G ph p e R s m args below meth c Q pc (L, zI i :: zR (some a) :: st, μ, cn, un) := by
  have hw : zw i = i := zw_id (by omega) (by omega)
  exact s_aald A d hk hq (by rw [hw]; exact hi) (by rw [hw]; exact hr) k9
theorem z_aastS (A : zAm G p s m args c cc own Ts) {i : Int} {a v n N : Nat} {sl : Bool} (d : decode cc pc = .ok (.aastore, 1)) (hq : zok ph μ a (44, n)) (hn : n < 2147483648) (hi : 0 ≤ i ∧ i < (n : Int)) (hv : zok ph μ v (cond sl (7 + 20) 7, N)) (k9 : zJd G ph p e R s m args below meth c Q (pc + 1) (L, st, zupr μ a i (some v), cn, un)) : zJd G ph p e R s m args below meth c Q pc (L, zR (some v) :: zI i :: zR (some a) :: st, μ, cn, un) := by
  have hw : zw i = i := zw_id (by omega) (by omega)
  exact s_aast_State A d hq (by rw [hw]; exact hi) hv (by rw [hw]; exact k9)
theorem z_aastT (A : zAm G p s m args c cc own Ts) {i : Int} {a v n N : Nat} {sl : Bool} (d : decode cc pc = .ok (.aastore, 1)) (hq : zok ph μ a (45, n)) (hn : n < 2147483648) (hi : 0 ≤ i ∧ i < (n : Int)) (hv : zok ph μ v (cond sl (8 + 20) 8, N)) (k9 : zJd G ph p e R s m args below meth c Q (pc + 1) (L, st, zupr μ a i (some v), cn, un)) : zJd G ph p e R s m args below meth c Q pc (L, zR (some v) :: zI i :: zR (some a) :: st, μ, cn, un) := by
  have hw : zw i = i := zw_id (by omega) (by omega)
  exact s_aast_Step A d hq (by rw [hw]; exact hi) hv (by rw [hw]; exact k9)
/-- quotients of numbers that are not below 0 -/
theorem z_idiv (A : zAm G p s m args c cc own Ts) {x y : Int} (d : decode cc pc = .ok (.idiv, 1)) (hx : 0 ≤ x ∧ x < 2147483648) (hy : 0 < y ∧ y < 2147483648) (k9 : zJd G ph p e R s m args below meth c Q (pc + 1) (L, zI (x / y) :: st, μ, cn, un)) : zJd G ph p e R s m args below meth c Q pc (L, zI y :: zI x :: st, μ, cn, un) := by
  have hw : zw x = x := zw_id (by omega) hx.2
  have hv : zw y = y := zw_id (by omega) hy.2
  refine s_idiv A d (by rw [hv]; omega) ?_
  unfold zdiv
  rw [hw, hv, Int.tdiv_eq_ediv_of_nonneg hx.1]
  exact k9
theorem z_irem (A : zAm G p s m args c cc own Ts) {x y : Int} (d : decode cc pc = .ok (.irem, 1)) (hx : 0 ≤ x ∧ x < 2147483648) (hy : 0 < y ∧ y < 2147483648) (k9 : zJd G ph p e R s m args below meth c Q (pc + 1) (L, zI (x % y) :: st, μ, cn, un)) : zJd G ph p e R s m args below meth c Q pc (L, zI y :: zI x :: st, μ, cn, un) := by
  have hw : zw x = x := zw_id (by omega) hx.2
  have hv : zw y = y := zw_id (by omega) hy.2
  refine s_irem A d (by rw [hv]; omega) ?_
  unfold zrem
  rw [hw, hv, Int.tmod_eq_emod_of_nonneg hx.1]
  exact k9
theorem z_idivt (A : zAm G p s m args c cc own Ts) {x y : Int} (d : decode cc pc = .ok (.idiv, 1)) (hx : zin x) (hy : 0 < y ∧ y < 2147483648) (k9 : zJd G ph p e R s m args below meth c Q (pc + 1) (L, zI (x.tdiv y) :: st, μ, cn, un)) : zJd G ph p e R s m args below meth c Q pc (L, zI y :: zI x :: st, μ, cn, un) := by
  have hv : zw y = y := zw_id (by omega) hy.2
  refine s_idiv A d (by rw [hv]; omega) ?_
  unfold zdiv
  rw [zin_w hx, hv]
  exact k9
theorem z_ldiv (A : zAm G p s m args c cc own Ts) {x y : Int} (d : decode cc pc = .ok (.ldiv, 1)) (hx : 0 ≤ x ∧ x < 9223372036854775808) (hy : 0 < y ∧ y < 9223372036854775808) (k9 : zJd G ph p e R s m args below meth c Q (pc + 1) (L, zL (x / y) :: st, μ, cn, un)) : zJd G ph p e R s m args below meth c Q pc (L, zL y :: zL x :: st, μ, cn, un) := by
  have hw : zw64 x = x := zw64_id (by omega) hx.2
  have hv : zw64 y = y := zw64_id (by omega) hy.2
  refine s_ldiv A d (by rw [hv]; omega) ?_
  unfold zdiv64
  rw [hw, hv, Int.tdiv_eq_ediv_of_nonneg hx.1]
  exact k9
theorem z_lrem (A : zAm G p s m args c cc own Ts) {x y : Int} (d : decode cc pc = .ok (.lrem, 1)) (hx : 0 ≤ x ∧ x < 9223372036854775808) (hy : 0 < y ∧ y < 9223372036854775808) (k9 : zJd G ph p e R s m args below meth c Q (pc + 1) (L, zL (x % y) :: st, μ, cn, un)) : zJd G ph p e R s m args below meth c Q pc (L, zL y :: zL x :: st, μ, cn, un) := by
  have hw : zw64 x = x := zw64_id (by omega) hx.2
  have hv : zw64 y = y := zw64_id (by omega) hy.2
  refine s_lrem A d (by rw [hv]; omega) ?_
  unfold zrem64
  rw [hw, hv, Int.tmod_eq_emod_of_nonneg hx.1]
  exact k9
theorem z_i2l2 (A : zAm G p s m args c cc own Ts) {x : Int} (d : decode cc pc = .ok (.i2l, 1)) (hx : zin x) (k9 : zJd G ph p e R s m args below meth c Q (pc + 1) (L, zL x :: st, μ, cn, un)) : zJd G ph p e R s m args below meth c Q pc (L, zI x :: st, μ, cn, un) := by
  refine s_i2l A d ?_
  rw [zin_w hx]
  exact k9
end
