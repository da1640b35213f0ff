/-! spread: how many colours there are -/
noncomputable def zkc (S : Int → Int) (p : Int) : Int := (401 * zC S p 0 + zC S p 1) * 401 + zC S p 2
noncomputable def zky (S : Int → Int) (p : Int) : Int := 10000 * zkc S p + zcd p
theorem zkc_r {S : Int → Int} (hr : zLr S) (p : Int) : 0 ≤ zkc S p ∧ zkc S p < 100000000 := by
  have c0 := zC_r hr (p := p) (b := 0) (by decide); have c1 := zC_r hr (p := p) (b := 1) (by decide); have c2 := zC_r hr (p := p) (b := 2) (by decide)
  unfold zkc; omega
theorem zky_d {S : Int → Int} (hr : zLr S) (p : Int) : zky S p / 10000 = zkc S p ∧ zky S p % 10000 = zcd p ∧ 0 ≤ zky S p ∧ zky S p < 1000000000000 := by
  have a := zkc_r hr p; have b := zcd_r (p := p)
  unfold zky; omega
theorem zky_lt {S : Int → Int} {p q : Int} (hp : zPl p) (hq : zPl q) (h : zkc S p = zkc S q) : zky S p ≤ zky S q ↔ p ≤ q := by
  have a := zcd_lt hq hp
  unfold zky
  rw [h]
  constructor
  · intro h1
    by_cases c : q < p
    · have := a.2 c; omega
    · omega
  · intro h1
    by_cases c : zcd q < zcd p
    · have := a.1 c; omega
    · omega
theorem zky_inj {S : Int → Int} (hr : zLr S) {p q : Int} (hp : zPl p) (hq : zPl q) (h : zky S p = zky S q) : p = q := by
  have a := zky_d hr p; have b := zky_d hr q
  exact zcd_inj hp hq (by rw [← a.2.1, ← b.2.1, h])
noncomputable def zpk (S : Int → Int) (p : Int) : Int := (zC S p 0 * 512 + zC S p 1) * 512 + zC S p 2
theorem zpk_e {S : Int → Int} (hr : zLr S) (p q : Int) : (0 ≤ zpk S p ∧ zpk S p < 1000000000) ∧ (zpk S p = zpk S q ↔ zkc S p = zkc S q) := by
  have c0 := zC_r hr (p := p) (b := 0) (by decide); have c1 := zC_r hr (p := p) (b := 1) (by decide); have c2 := zC_r hr (p := p) (b := 2) (by decide)
  have d0 := zC_r hr (p := q) (b := 0) (by decide); have d1 := zC_r hr (p := q) (b := 1) (by decide); have d2 := zC_r hr (p := q) (b := 2) (by decide)
  unfold zpk zkc
  generalize zC S p 0 = a0 at *; generalize zC S p 1 = a1 at *; generalize zC S p 2 = a2 at *
  generalize zC S q 0 = b0 at *; generalize zC S q 1 = b1 at *; generalize zC S q 2 = b2 at *
  refine ⟨by omega, fun h => ?_, fun h => ?_⟩
  · have e0 : a0 = b0 := by omega
    have e1 : a1 = b1 := by omega
    have e2 : a2 = b2 := by omega
    rw [e0, e1, e2]
  · have e0 : a0 = b0 := by omega
    have e1 : a1 = b1 := by omega
    have e2 : a2 = b2 := by omega
    rw [e0, e1, e2]
/-- of keys: the least of its colour, how many of its colour, how many colours, the most -/
def zrkk (K : List Int) (q : Int) : Prop := ∀ w ∈ K, w / 10000 = q / 10000 → q ≤ w
noncomputable def zrkb (K : List Int) (q : Int) : Bool := @decide (zrkk K q) (Classical.propDecidable _)
theorem zrkb_e (K : List Int) (q : Int) : zrkb K q = true ↔ zrkk K q := by unfold zrkb; exact @decide_eq_true_iff _ (Classical.propDecidable _)
def zcn (K : List Int) (q : Int) : Nat := (K.filter (fun w => decide (w / 10000 = q / 10000))).length
noncomputable def zdf (K : List Int) : Nat := (K.filter (zrkb K)).length
def zbbs (K : List Int) (m w : Int) : Prop := ∃ q ∈ K, zrkk K q ∧ (zcn K q : Int) = m ∧ q % 10000 = w ∧ ∀ x ∈ K, zrkk K x → (zcn K x : Int) < m ∨ ((zcn K x : Int) = m ∧ w ≤ x % 10000)
theorem zrkk_p {K L : List Int} (h : K.Perm L) (q : Int) : zrkk K q ↔ zrkk L q := ⟨fun a w hw => a w (h.mem_iff.2 hw), fun a w hw => a w (h.mem_iff.1 hw)⟩
theorem zcn_p {K L : List Int} (h : K.Perm L) (q : Int) : zcn K q = zcn L q := (h.filter _).length_eq
theorem zdf_p {K L : List Int} (h : K.Perm L) : zdf K = zdf L := by
  have e : zrkb K = zrkb L := funext fun q => by
    have a := zrkb_e K q; have b := zrkb_e L q; have c := zrkk_p h q
    cases h1 : zrkb K q <;> cases h2 : zrkb L q
    · rfl
    · rw [h2] at b; rw [h1] at a; exact absurd (a.2 (c.2 (b.1 rfl))) (by decide)
    · rw [h2] at b; rw [h1] at a; exact absurd (b.2 (c.1 (a.1 rfl))) (by decide)
    · rfl
  unfold zdf
  rw [e]
  exact (h.filter _).length_eq
theorem zbs_p {K L : List Int} (h : K.Perm L) {m w : Int} (hb : zbbs K m w) : zbbs L m w := by
  obtain ⟨q, a, b, c, d, e⟩ := hb
  exact ⟨q, h.mem_iff.1 a, (zrkk_p h q).1 b, by rw [← zcn_p h]; exact c, d, fun x hx hr => by rw [← zcn_p h]; exact e x (h.mem_iff.2 hx) ((zrkk_p h x).2 hr)⟩
theorem zbs_u {K : List Int} {m w m' w' : Int} (h : zbbs K m w) (h' : zbbs K m' w') : m = m' ∧ w = w' := by
  obtain ⟨q, a, b, c, d, e⟩ := h
  obtain ⟨q', a', b', c', d', e'⟩ := h'
  have x := e q' a' b'
  have y := e' q a b
  omega
noncomputable def zKx (S : Int → Int) : List Int := (zol S zN65).map (zky S)
noncomputable def zspm (S : Int → Int) : Int × Int := Classical.epsilon (fun s : Int × Int => zbbs (zKx S) s.1 s.2)
theorem zspm_e {S : Int → Int} {m w : Int} (h : zbbs (zKx S) m w) : m = (zspm S).1 ∧ w = (zspm S).2 :=
  zbs_u h (Classical.epsilon_spec (p := fun s : Int × Int => zbbs (zKx S) s.1 s.2) ⟨(m, w), h⟩)
noncomputable def zspr (S : Int → Int) : List Int := [] ++ [(zspm S).1] ++ [(zspm S).2] ++ [(zON S : Int)]
/-- among the first n open places: how many of a colour, how many colours -/
noncomputable def zcc (S : Int → Int) (c : Int) : Nat → Int
  | 0 => 0
  | n + 1 => zcc S c n + (if zkc S (zO S n) = c then 1 else 0)
noncomputable def zfc (S : Int → Int) : Nat → Int
  | 0 => 0
  | n + 1 => zfc S n + (if zcc S (zkc S (zO S n)) n = 0 then 1 else 0)
theorem zcc_r (S : Int → Int) (c : Int) : ∀ n : Nat, (0 ≤ zcc S c n ∧ zcc S c n ≤ n) ∧ (zcc S c n = 0 ↔ ∀ j, j < n → zkc S (zO S j) ≠ c)
  | 0 => ⟨⟨Int.le_refl _, Int.le_refl _⟩, fun _ j hj => absurd hj (Nat.not_lt_zero _), fun _ => rfl⟩
  | n + 1 => by
    obtain ⟨h1, h2⟩ := zcc_r S c n
    rw [zcc]
    by_cases e : zkc S (zO S n) = c
    · rw [if_pos e]
      exact ⟨by omega, fun z => absurd z (by omega), fun z => absurd e (z n (Nat.lt_succ_self _))⟩
    · rw [if_neg e, Int.add_zero]
      refine ⟨by omega, fun z j hj => ?_, fun z => h2.2 (fun j hj => z j (by omega))⟩
      by_cases e2 : j = n
      · rw [e2]; exact e
      · exact h2.1 z j (by omega)
theorem zfc_r (S : Int → Int) : ∀ n : Nat, 0 ≤ zfc S n ∧ zfc S n ≤ n
  | 0 => ⟨Int.le_refl _, Int.le_refl _⟩
  | n + 1 => by
    have := zfc_r S n
    rw [zfc]
    split <;> omega
/-- among the first n the place is the first of its colour -/
def zfst (S : Int → Int) (n : Nat) (q : Int) : Prop := ∃ i, i < n ∧ zO S i = q ∧ zcc S (zkc S q) i = 0
theorem zKx_take {S : Int → Int} {n : Nat} (hn : n < zON S) : (zKx S).take (n + 1) = (zKx S).take n ++ [zky S (zO S n)] := by
  have hk : n < (zol S zN65).length := hn
  have e : (zKx S)[n]? = some (zky S (zO S n)) := by
    unfold zKx
    rw [List.getElem?_map, List.getElem?_eq_getElem hk]
    show some (zky S ((zol S zN65)[n])) = some (zky S (zO S n))
    rw [show zO S n = (zol S zN65)[n] from zgetD hk]
  rw [List.take_add_one, e]
  rfl
theorem zKx_len (S : Int → Int) : (zKx S).length = zON S := by unfold zKx; rw [List.length_map]; rfl
theorem zKx_mem {S : Int → Int} {x : Int} (h : x ∈ zKx S) : ∃ i, i < zON S ∧ x = zky S (zO S i) := by
  unfold zKx at h
  obtain ⟨p, hp, e⟩ := List.mem_map.1 h
  obtain ⟨i, hi, e2⟩ := zget_ex hp
  exact ⟨i, hi, by rw [← e, ← e2]; rfl⟩
theorem zKx_at {S : Int → Int} {i : Nat} (h : i < zON S) : zky S (zO S i) ∈ zKx S := List.mem_map.2 ⟨zO S i, zget_mem h, rfl⟩
theorem zrkk_i {S : Int → Int} (hr : zLr S) {i : Nat} (hi : i < zON S) : zrkk (zKx S) (zky S (zO S i)) ↔ zcc S (zkc S (zO S i)) i = 0 := by
  rw [(zcc_r S _ i).2]
  constructor
  · intro h j hj e
    have := h _ (zKx_at (show j < zON S by omega)) (by rw [(zky_d hr _).1, (zky_d hr _).1, e])
    have := (zky_lt (zO_mem hi).1 (zO_mem (show j < zON S by omega)).1 e.symm).1 this
    have := zO_lt (S := S) hj hi
    omega
  · intro h w hw e
    obtain ⟨j, hj, rfl⟩ := zKx_mem hw
    rw [(zky_d hr _).1, (zky_d hr _).1] at e
    refine (zky_lt (zO_mem hi).1 (zO_mem hj).1 e.symm).2 ?_
    by_cases c : j < i
    · exact absurd e (h j c)
    · by_cases c2 : j = i
      · rw [c2]; exact Int.le_refl _
      · have := zO_lt (S := S) (show i < j by omega) hj; omega
theorem zcn_i {S : Int → Int} (hr : zLr S) (c : Int) (p : Int) (hc : zkc S p = c) : ∀ n : Nat, n ≤ zON S → ((((zKx S).take n).filter (fun w => decide (w / 10000 = zky S p / 10000))).length : Int) = zcc S c n
  | 0, _ => rfl
  | n + 1, hn => by
    have ih := zcn_i hr c p hc n (by omega)
    rw [zKx_take (by omega), List.filter_append, List.length_append, zcc]
    have e1 := (zky_d hr (zO S n)).1
    have e2 := (zky_d hr p).1
    by_cases e : zkc S (zO S n) = c
    · rw [if_pos e, List.filter_cons_of_pos (by rw [e1, e2, hc, e]; simp)]
      simp
      rw [← ih]
    · rw [if_neg e, List.filter_cons_of_neg (by rw [e1, e2, hc]; simp [e])]
      simp
      rw [← ih]
theorem zcn_e {S : Int → Int} (hr : zLr S) (p : Int) : (zcn (zKx S) (zky S p) : Int) = zcc S (zkc S p) (zON S) := by
  have := zcn_i hr _ p rfl (zON S) (Nat.le_refl _)
  rw [← zKx_len, List.take_length, zKx_len] at this
  exact this
theorem zdf_i {S : Int → Int} (hr : zLr S) : ∀ n : Nat, n ≤ zON S → ((((zKx S).take n).filter (zrkb (zKx S))).length : Int) = zfc S n
  | 0, _ => rfl
  | n + 1, hn => by
    have ih := zdf_i hr n (by omega)
    rw [zKx_take (by omega), List.filter_append, List.length_append, zfc]
    have e := zrkk_i hr (show n < zON S by omega)
    have e2 := zrkb_e (zKx S) (zky S (zO S n))
    by_cases c : zcc S (zkc S (zO S n)) n = 0
    · rw [if_pos c, List.filter_cons_of_pos (e2.2 (e.2 c))]
      simp
      rw [← ih]
    · rw [if_neg c, List.filter_cons_of_neg (fun z => c (e.1 (e2.1 z)))]
      simp
      rw [← ih]
theorem zdf_e {S : Int → Int} (hr : zLr S) : (zdf (zKx S) : Int) = zfc S (zON S) := by
  have := zdf_i hr (zON S) (Nat.le_refl _)
  rw [← zKx_len, List.take_length, zKx_len] at this
  exact this
/-- a chain in the memory -/
def zhn (f : Int → Int) : Int → List Int → Prop
  | x, [] => x = -1
  | x, y :: ys => x = y ∧ zhn f (f y) ys
theorem zhn_c {f g : Int → Int} : ∀ (l : List Int) (x : Int), (∀ y ∈ l, f y = g y) → zhn f x l → zhn g x l
  | [], _, _, h => h
  | y :: ys, _, hc, h => ⟨h.1, by rw [← hc y List.mem_cons_self]; exact zhn_c ys _ (fun z hz => hc z (List.mem_cons_of_mem _ hz)) h.2⟩
section
variable {G : zG} {μ : zM} {S : Int → Int}
theorem kX0_packed {F : Int → zM → Prop} {a : Nat} (ha : zIsCh a) (hc : zchis μ a S) {p : Int} (hp : zPl p) (h : F (zpk S p) μ) : qX0_packed G a p μ F :=
  eX0_packed fun J C => rX0_packed_e C ha _ (kX0_number ha hc hp (by decide) (kX0_number ha hc hp (by decide) (kX0_number ha hc hp (by decide) h)))
theorem kX10_firstAlike {F : Int → zM → Prop} (hc : zchis μ 105 S) (hr : zLr S) {p : Int} (hp : zPl p) {l : List Int} (hl : zhn (zi μ 135) (zi μ 134 (zpk S p % 6561)) l) (hn : l.Pairwise (· ≠ ·)) (hpl : ∀ x ∈ l, zPl x) (h1 : ∀ q, q ∈ l → zkc S q = zkc S p → F q μ) (h0 : (∀ q ∈ l, zkc S q ≠ zkc S p) → F p (zup (zup μ 135 p (zi μ 134 (zpk S p % 6561))) 134 (zpk S p % 6561) p)) : qX10_firstAlike G p μ F := by
  have hk := (zpk_e hr p p).1
  refine eX10_firstAlike fun J C => rX10_firstAlike_e C _ (kX0_packed zCh_105 hc hp ⟨by omega, by omega, ?_⟩)
  have go : ∀ (t done : List Int) (x : Int), done ++ t = l → zhn (zi μ 135) x t → (∀ q ∈ done, zkc S q ≠ zkc S p) → J 23 ([some (zR (some 0)), some (zI p), some (zI (zpk S p % 6561)), some (zI x), some (zI (done.length : Nat))], [], μ, 0, 0) := by
    intro t
    induction t with
    | nil =>
      intro done x e hx hd
      have hx : x = -1 := hx
      have hlen : done.length ≤ 6561 := by
        rw [List.append_nil] at e
        rw [e]
        exact zpig 6561 l hn (fun y hy => ⟨(hpl y hy).1, by have := (hpl y hy).2; omega⟩)
      rw [List.append_nil] at e
      rw [e] at hd
      have fin := h0 hd
      exact rX10_firstAlike_23 C _ _ _ _ ⟨by constructor <;> omega, fun _ => ⟨by omega, hp, fin⟩, fun _ => ⟨by constructor <;> omega, fun _ => ⟨by omega, hp, fin⟩, fun z => absurd z (by omega)⟩⟩
    | cons y ys ih =>
      intro done x e hx hd
      obtain ⟨hx1, hx2⟩ := hx
      subst hx1
      have hxl : x ∈ l := by rw [← e]; exact List.mem_append_right _ List.mem_cons_self
      have hpx := hpl x hxl
      obtain ⟨x0, x1⟩ := id hpx
      have hlen : done.length < 6561 := by
        have := zpig 6561 l hn (fun y hy => ⟨(hpl y hy).1, by have := (hpl y hy).2; omega⟩)
        rw [← e, List.length_append] at this
        simp at this
        omega
      have kx := zpk_e hr x p
      refine rX10_firstAlike_23 C _ _ _ _ ⟨by constructor <;> omega, fun z => absurd z (by omega), fun _ => ⟨by constructor <;> omega, fun z => absurd z (by omega), fun _ => kX0_packed zCh_105 hc hpx (kX0_packed zCh_105 hc hp ⟨by constructor <;> omega, by constructor <;> omega, fun z => ⟨hpx, ?_⟩, fun z => h1 x hxl (kx.2.1 z)⟩)⟩⟩
      have := ih (done ++ [x]) (zi μ 135 x) (by rw [List.append_assoc]; exact e) hx2 (fun q hq => by
        rcases List.mem_append.1 hq with w | w
        · exact hd q w
        · rw [List.mem_singleton.1 w]; exact fun k => z (kx.2.2 k))
      rw [List.length_append] at this
      exact this
  exact go l [] _ rfl hl (fun q hq => absurd hq List.not_mem_nil)
/-- what stands in marks, chain and tally when n of the open places are told -/
def zspI (μ : zM) (S : Int → Int) (n : Nat) : Prop := (∃ L : Int → List Int, (∀ h, 0 ≤ h → h < 6561 → zhn (zi μ 135) (zi μ 134 h) (L h) ∧ (L h).Pairwise (· ≠ ·)) ∧ ∀ h q, q ∈ L h ↔ zfst S n q ∧ zpk S q % 6561 = h) ∧ ∀ q, zPl q → (zfst S n q → zi μ 136 q = zcc S (zkc S q) n) ∧ (¬ zfst S n q → zi μ 136 q = 0)
theorem zfst_pl {S : Int → Int} {n : Nat} (hn : n ≤ zON S) {q : Int} (h : zfst S n q) : zPl q := by
  obtain ⟨i, hi, e, -⟩ := h
  rw [← e]; exact (zO_mem (show i < zON S by omega)).1
theorem zfst_s {S : Int → Int} {n : Nat} {q : Int} : zfst S (n + 1) q ↔ zfst S n q ∨ (zO S n = q ∧ zcc S (zkc S q) n = 0) := by
  constructor
  · rintro ⟨i, hi, e, z⟩
    by_cases c : i = n
    · subst c; exact Or.inr ⟨e, z⟩
    · exact Or.inl ⟨i, by omega, e, z⟩
  · rintro (⟨i, hi, e, z⟩ | ⟨e, z⟩)
    · exact ⟨i, by omega, e, z⟩
    · exact ⟨n, by omega, e, z⟩
theorem zfst_no {S : Int → Int} {n : Nat} (hn : n < zON S) : ¬ zfst S n (zO S n) := by
  rintro ⟨i, hi, e, -⟩
  have := zO_lt (S := S) hi hn
  omega
theorem zfst_ex {S : Int → Int} {c : Int} : ∀ n : Nat, zcc S c n ≠ 0 → ∃ q, zfst S n q ∧ zkc S q = c
  | 0, h => absurd rfl h
  | n + 1, h => by
    by_cases z : zcc S c n = 0
    · rw [zcc, z] at h
      have e : zkc S (zO S n) = c := by
        by_cases e : zkc S (zO S n) = c
        · exact e
        · rw [if_neg e] at h; exact absurd rfl h
      exact ⟨zO S n, zfst_s.2 (Or.inr ⟨rfl, by rw [e]; exact z⟩), e⟩
    · obtain ⟨q, a, b⟩ := zfst_ex n z
      exact ⟨q, zfst_s.2 (Or.inl a), b⟩
theorem zfst_u {S : Int → Int} {n : Nat} {q w : Int} (h1 : zfst S n q) (h2 : zfst S n w) (e : zkc S q = zkc S w) : q = w := by
  obtain ⟨i, hi, ei, zi1⟩ := h1
  obtain ⟨j, hj, ej, zj⟩ := h2
  have a := (zcc_r S _ i).2.1 zi1
  have b := (zcc_r S _ j).2.1 zj
  rcases Nat.lt_trichotomy i j with c | c | c
  · exact absurd (by rw [ei]; exact e) (b i c)
  · subst c; rw [← ei, ← ej]
  · exact absurd (by rw [ej]; exact e.symm) (a j c)
theorem kX10_spread {F : Int → zM → Prop} {R : List Int} (hX : zXs μ 5 S) (hr : zLr S) (hv : zSet S) (hc : zXc μ) (hR : zXr μ R) (h : ∀ μ', zsm zPX μ μ' → zXc μ' → zXr μ' (zspr S) → F (zdf (zKx S) : Nat) μ') : qX10_spread G μ F := by
  have hN := zON_le S
  refine eX10_spread fun J C => rX10_spread_e C (kX10_refresh hX hr hv hc fun μ1 g1 c1 k1 o1 => kJ7_fill zk134 (by decide) fun μ2 g2 f2 => kJ7_fill zk136 (by decide) fun μ3 g3 f3 => ?_)
  have ga : zsm (fun b j => b = 134 ∨ b = 135 ∨ b = 136) μ1 μ3 := (g2.mono (fun b j => by omega)).trans (g3.mono (fun b j => by omega))
  have I0 : zspI μ3 S 0 := by
    refine ⟨⟨fun _ => [], fun h h0 h1 => ⟨?_, List.Pairwise.nil⟩, fun h q => ⟨fun z => absurd z List.not_mem_nil, fun z => ?_⟩⟩, fun q hq => ⟨fun z => ?_, fun _ => f3 q hq.1 hq.2⟩⟩
    · show zi μ3 134 h = -1
      rw [g3.1 _ _ (by omega)]; exact f2 h h0 h1
    · obtain ⟨⟨i, hi, -⟩, -⟩ := z; exact absurd hi (Nat.not_lt_zero _)
    · obtain ⟨i, hi, -⟩ := z; exact absurd hi (Nat.not_lt_zero _)
  refine znfor (N := zON S) (P := fun n => ∀ μ', zsm (fun b j => b = 134 ∨ b = 135 ∨ b = 136) μ1 μ' → zspI μ' S n → J 24 ([some (zR (some 0)), some (zI (zfc S n)), some (zI (n : Int)), none, none], [], μ', 0, 0)) ?_ ?_ μ3 ga I0
  · intro μ4 g4 I4
    obtain ⟨-, I4⟩ := I4
    have o4 := o1.sm g4 (by omega) (by omega)
    refine rX10_spread_24 C _ _ ?_
    rw [o4.1]
    refine ⟨by constructor <;> omega, by constructor <;> omega, fun _ => ?_, fun c => absurd (Int.le_refl _) c⟩
    have T0 : ∀ q, zPl q → 0 ≤ zi μ4 136 q ∧ zi μ4 136 q ≤ 6561 := fun q hq => by
      have r := (zcc_r S (zkc S q) (zON S)).1
      by_cases c : zfst S (zON S) q
      · rw [(I4 q hq).1 c]; omega
      · rw [(I4 q hq).2 c]; omega
    have f0 : zfst S (zON S) 0 := ⟨0, zON_pos hv, zO_0 hv, rfl⟩
    have t0 : 0 < zi μ4 136 0 := by
      rw [(I4 0 (by decide)).1 f0]
      have r := zcc_r S (zkc S 0) (zON S)
      by_cases c : zcc S (zkc S 0) (zON S) = 0
      · exfalso
        have := r.2.1 c 0 (zON_pos hv)
        rw [zO_0 hv] at this
        exact this rfl
      · omega
    refine zfor (lo := 1) (hi := 6561) (by decide) (P := fun n => ∀ w, (0 ≤ w ∧ w < n) → (∀ q, 0 ≤ q → q < n → zi μ4 136 q ≤ zi μ4 136 w ∧ (zi μ4 136 q = zi μ4 136 w → w ≤ q)) → J 82 ([some (zR (some 0)), some (zI (zfc S (zON S))), some (zI w), some (zI n), none], [], μ4, 0, 0)) ?_ ?_ 0 (by decide) (fun q q0 q1 => by rw [show q = 0 by omega]; exact ⟨Int.le_refl _, fun _ => Int.le_refl _⟩)
    · intro w hw hm
      have hpw : zPl w := hw
      have fw : zfst S (zON S) w := by
        by_cases c : zfst S (zON S) w
        · exact c
        · have := (I4 w hpw).2 c; have := (hm 0 (by decide) (by decide)).1; omega
      obtain ⟨i, hi, ei, zi1⟩ := id fw
      have key : zbbs (zKx S) (zi μ4 136 w) (zcd w) := by
        refine ⟨zky S w, by rw [← ei]; exact zKx_at hi, by rw [← ei]; exact (zrkk_i hr hi).2 (by rw [ei]; exact zi1), by rw [zcn_e hr, (I4 w hpw).1 fw], (zky_d hr w).2.1, fun x hx hxr => ?_⟩
        obtain ⟨j, hj, rfl⟩ := zKx_mem hx
        have fj : zfst S (zON S) (zO S j) := ⟨j, hj, rfl, (zrkk_i hr hj).1 hxr⟩
        have hpj := (zO_mem hj).1
        have m := hm _ hpj.1 hpj.2
        rw [zcn_e hr, (zky_d hr _).2.1, ← (I4 _ hpj).1 fj]
        by_cases c : zi μ4 136 (zO S j) = zi μ4 136 w
        · refine Or.inr ⟨c, ?_⟩
          have := m.2 c
          have := zcd_lt hpj hpw
          by_cases d : zcd (zO S j) < zcd w
          · have := this.1 d; omega
          · omega
        · exact Or.inl (by omega)
      obtain ⟨e1, e2⟩ := zspm_e key
      have tw := T0 w hpw
      have cw := zcd_r (p := w)
      refine rX10_spread_82 C _ _ _ ⟨by decide, fun _ => kX6_clear fun μ5 g5 r5 => ⟨hpw, ?_⟩, fun c => absurd (by decide) c⟩
      rw [show zi μ5 136 w = zi μ4 136 w from g5.1 _ _ (by omega)]
      refine ⟨by constructor <;> omega, kX6_append r5 (by simp) fun μ6 g6 r6 => kX10_codeOf hpw ⟨by constructor <;> omega, kX6_append r6 (by simp) fun μ7 g7 r7 => ?_⟩⟩
      rw [show zi μ7 125 1 = zON S by rw [g7.1 _ _ (by omega), g6.1 _ _ (by omega), g5.1 _ _ (by omega)]; exact o4.1]
      refine ⟨by constructor <;> omega, kX6_append r7 (by simp) fun μ8 g8 r8 => ?_⟩
      have gr := ((g5.trans g6).trans g7).trans g8
      rw [e1, e2] at r8
      rw [← zdf_e hr]
      exact h μ8 (((zX105 g1).trans (g4.mono (fun b j => by unfold zPX; omega))).trans (zXrow gr)) ((c1.sm g4 (by omega)).sm gr (by omega)) r8
    · intro n n0 n1 hj w hw hm
      have tn := T0 n ⟨by omega, n1⟩; have tw := T0 w ⟨hw.1, by omega⟩
      refine rX10_spread_82 C _ _ _ ⟨by constructor <;> omega, fun c => absurd c (by omega), fun _ => ⟨by omega, by omega, by constructor <;> omega, by constructor <;> omega, fun c => hj w (by omega) (fun q q0 q1 => ?_), fun c => hj n (by omega) (fun q q0 q1 => ?_)⟩⟩
      · by_cases e : q = n
        · rw [e]; exact ⟨c, fun _ => by omega⟩
        · exact hm q q0 (by omega)
      · by_cases e : q = n
        · rw [e]; exact ⟨Int.le_refl _, fun _ => Int.le_refl _⟩
        · have := (hm q q0 (by omega)).1; exact ⟨by omega, fun z => by omega⟩
  · intro n hn hj μ4 g4 I4
    obtain ⟨⟨L, L1, L2⟩, I5⟩ := I4
    have o4 := o1.sm g4 (by omega) (by omega)
    have hp := (zO_mem hn).1
    obtain ⟨p0, p1⟩ := id hp
    have hk := (zpk_e hr (zO S n) (zO S n)).1
    have hf := zfc_r S n
    refine rX10_spread_24 C _ _ ?_
    rw [o4.1, o4.2 n hn]
    refine ⟨by constructor <;> omega, by constructor <;> omega, fun c => absurd c (by omega), fun _ => ⟨by omega, kX10_firstAlike (k1.sm g4 (by omega)) hr hp (L1 _ (by omega) (by omega)).1 (L1 _ (by omega) (by omega)).2 (fun x hx => zfst_pl (Nat.le_of_lt hn) ((L2 _ _).1 hx).1) (fun q hq e => ?_) (fun hq => ?_)⟩⟩
    · have hfq := ((L2 _ _).1 hq).1
      have hpq := zfst_pl (Nat.le_of_lt hn) hfq
      obtain ⟨q0, q1⟩ := id hpq
      have hne : q ≠ zO S n := fun z => zfst_no hn (by rw [← z]; exact hfq)
      have hz : zcc S (zkc S (zO S n)) n ≠ 0 := fun z => by
        obtain ⟨i, hi, ei, -⟩ := hfq
        exact (zcc_r S _ n).2.1 z i hi (by rw [ei]; exact e)
      rw [zfc, if_neg hz, Int.add_zero] at hj
      refine ⟨by constructor <;> omega, by constructor <;> omega, fun _ => ⟨hpq, hj _ (g4.up _ (by omega)) ⟨⟨L, fun h h0 h1 => ?_, fun h w => ?_⟩, fun w hw => ?_⟩⟩, fun z => absurd z hne⟩
      · have := L1 h h0 h1
        rw [show zi (zup μ4 136 q (zi μ4 136 q + 1)) 134 h = zi μ4 134 h from zi_off (by omega)]
        exact ⟨zhn_c _ _ (fun y _ => (zi_off (by omega)).symm) this.1, this.2⟩
      · rw [L2, zfst_s]
        constructor
        · rintro ⟨a, b⟩; exact ⟨Or.inl a, b⟩
        · rintro ⟨a | ⟨a, z⟩, b⟩
          · exact ⟨a, b⟩
          · rw [← a] at z; exact absurd z hz
      · have iff : zfst S (n + 1) w ↔ zfst S n w := by
          rw [zfst_s]
          constructor
          · rintro (a | ⟨a, z⟩)
            · exact a
            · rw [← a] at z; exact absurd z hz
          · exact Or.inl
        rw [iff]
        by_cases c : w = q
        · subst c
          refine ⟨fun _ => ?_, fun z => absurd hfq z⟩
          rw [zi_at, (I5 w hw).1 hfq, zcc, if_pos e.symm]
        · rw [zi_off (by omega)]
          refine ⟨fun a => ?_, fun a => (I5 w hw).2 a⟩
          have hne2 : zkc S (zO S n) ≠ zkc S w := fun z => c (zfst_u a hfq (by rw [e, z]))
          rw [(I5 w hw).1 a, zcc, if_neg hne2, Int.add_zero]
    · have hz : zcc S (zkc S (zO S n)) n = 0 := by
        by_cases c : zcc S (zkc S (zO S n)) n = 0
        · exact c
        · obtain ⟨q, a, b⟩ := zfst_ex n c
          exfalso
          refine hq q ((L2 _ q).2 ⟨a, ?_⟩) b
          rw [((zpk_e hr q (zO S n)).2).2 b]
      rw [zfc, if_pos hz] at hj
      have hfp : zfst S (n + 1) (zO S n) := zfst_s.2 (Or.inr ⟨rfl, hz⟩)
      have T0 : zi μ4 136 (zO S n) = 0 := (I5 _ hp).2 (zfst_no hn)
      refine ⟨by constructor <;> omega, by constructor <;> omega, fun z => absurd rfl z, fun _ => ⟨hp, ?_⟩⟩
      rw [show zi (zup (zup μ4 135 (zO S n) (zi μ4 134 (zpk S (zO S n) % 6561))) 134 (zpk S (zO S n) % 6561) (zO S n)) 136 (zO S n) = 0 by rw [zi_off (by omega), zi_off (by omega)]; exact T0]
      refine hj _ (((g4.up _ (by omega)).up _ (by omega)).up _ (by omega)) ⟨⟨fun h => if h = zpk S (zO S n) % 6561 then zO S n :: L h else L h, fun h h0 h1 => ?_, fun h w => ?_⟩, fun w hw => ?_⟩
      · have l1 := L1 h h0 h1
        have hnm : ∀ y ∈ L h, y ≠ zO S n := fun y hy z => zfst_no hn (by rw [← z]; exact ((L2 _ _).1 hy).1)
        have hcong : ∀ y ∈ L h, zi μ4 135 y = zi (zup (zup (zup μ4 135 (zO S n) (zi μ4 134 (zpk S (zO S n) % 6561))) 134 (zpk S (zO S n) % 6561) (zO S n)) 136 (zO S n) (0 + 1)) 135 y := fun y hy => by rw [zi_off (by omega), zi_off (by omega), zi_off (fun z => hnm y hy z.2)]
        by_cases c : h = zpk S (zO S n) % 6561
        · subst c
          simp only [if_true]
          refine ⟨⟨by rw [zi_off (by omega), zi_at], ?_⟩, List.pairwise_cons.2 ⟨fun y hy z => hnm y hy z.symm, l1.2⟩⟩
          rw [show zi (zup (zup (zup μ4 135 (zO S n) (zi μ4 134 (zpk S (zO S n) % 6561))) 134 (zpk S (zO S n) % 6561) (zO S n)) 136 (zO S n) (0 + 1)) 135 (zO S n) = zi μ4 134 (zpk S (zO S n) % 6561) by rw [zi_off (by omega), zi_off (by omega), zi_at]]
          exact zhn_c _ _ hcong l1.1
        · simp only [if_neg c]
          rw [show zi (zup (zup (zup μ4 135 (zO S n) (zi μ4 134 (zpk S (zO S n) % 6561))) 134 (zpk S (zO S n) % 6561) (zO S n)) 136 (zO S n) (0 + 1)) 134 h = zi μ4 134 h by rw [zi_off (by omega), zi_off (fun z => c z.2), zi_off (by omega)]]
          exact ⟨zhn_c _ _ hcong l1.1, l1.2⟩
      · rw [zfst_s]
        by_cases c : h = zpk S (zO S n) % 6561
        · simp only [if_pos c, List.mem_cons]
          rw [L2]
          constructor
          · rintro (a | ⟨a, b⟩)
            · subst a; exact ⟨Or.inr ⟨rfl, hz⟩, c.symm⟩
            · exact ⟨Or.inl a, b⟩
          · rintro ⟨a | ⟨a, z⟩, b⟩
            · exact Or.inr ⟨a, b⟩
            · exact Or.inl a.symm
        · simp only [if_neg c]
          rw [L2]
          constructor
          · rintro ⟨a, b⟩; exact ⟨Or.inl a, b⟩
          · rintro ⟨a | ⟨a, z⟩, b⟩
            · exact ⟨a, b⟩
            · exfalso; subst a; exact c b.symm
      · by_cases c : w = zO S n
        · subst c
          refine ⟨fun _ => ?_, fun z => absurd hfp z⟩
          rw [zi_at, zcc, if_pos rfl, hz]
        · rw [zi_off (by omega), zi_off (by omega), zi_off (by omega)]
          have iff : zfst S (n + 1) w ↔ zfst S n w := by
            rw [zfst_s]
            constructor
            · rintro (a | ⟨a, z⟩)
              · exact a
              · exact absurd a.symm c
            · exact Or.inl
          rw [iff]
          refine ⟨fun a => ?_, fun a => (I5 w hw).2 a⟩
          have hne2 : zkc S (zO S n) ≠ zkc S w := fun z => by
            obtain ⟨i, hi, ei, -⟩ := a
            exact (zcc_r S _ n).2.1 hz i hi (by rw [ei, z])
          rw [(I5 w hw).1 a, zcc, if_neg hne2, Int.add_zero]
end
