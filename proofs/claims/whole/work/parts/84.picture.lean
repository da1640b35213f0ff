/-! picture -/
def zpq (T : List Int) : Nat → Int × Int × Int
  | 0 => (8, 0, 0)
  | n + 1 => if zat T n = 47 then ((zpq T n).2.2, (zpq T n).2.1 + 1, 0) else ((zpq T n).1, (zpq T n).2.1, (zpq T n).2.2 + 1)
abbrev zpbad (T : List Int) (n : Nat) : Prop := (zat T n = 47 ∧ ((zpq T n).2.2 = 0 ∨ (0 < (zpq T n).2.1 ∧ (zpq T n).2.2 < (zpq T n).1) ∨ (zpq T n).2.1 = 7)) ∨ (zat T n ≠ 47 ∧ (zat T n < 97 ∨ 104 < zat T n ∨ (zpq T n).2.2 = (zpq T n).1))
def zpcF (T : List Int) : Nat → Int
  | 0 => -1
  | n + 1 => if 0 ≤ zpcF T n then zpcF T n else if zpbad T n then (n : Int) else -1
def zpcW (T : List Int) : Int := if 0 ≤ zpcF T T.length then zpcF T T.length else if 0 < (zpq T T.length).2.1 ∧ (zpq T T.length).2.2 < (zpq T T.length).1 then T.length else -1
theorem zpcF_r (T : List Int) : ∀ n : Nat, -1 ≤ zpcF T n ∧ zpcF T n < n
  | 0 => ⟨Int.le_refl (-1), (by decide : (-1 : Int) < 0)⟩
  | n + 1 => by
    have := zpcF_r T n
    rw [zpcF]
    split
    · omega
    · split <;> omega
theorem zpcF_m (T : List Int) {n : Nat} (h : 0 ≤ zpcF T n) : ∀ m : Nat, zpcF T (n + m) = zpcF T n
  | 0 => rfl
  | m + 1 => by
    have := zpcF_m T h m
    show zpcF T ((n + m) + 1) = _
    rw [zpcF, this, if_pos h]
theorem zpcF_b {T : List Int} {n : Nat} (h : zpcF T n = -1) (hb : zpbad T n) {m : Nat} (hm : n < m) : zpcF T m = n := by
  have e : zpcF T (n + 1) = n := by rw [zpcF, if_neg (by omega), if_pos hb]
  have := zpcF_m T (n := n + 1) (by omega) (m - (n + 1))
  rw [show n + 1 + (m - (n + 1)) = m by omega] at this
  rw [this, e]
theorem zpcF_g {T : List Int} {n : Nat} (h : zpcF T n = -1) (hb : ¬ zpbad T n) : zpcF T (n + 1) = -1 := by rw [zpcF, if_neg (by omega), if_neg hb]
theorem zpcF_l {T : List Int} {n m : Nat} (h : zpcF T m = -1) (hn : n ≤ m) : zpcF T n = -1 := by
  have h1 := zpcF_r T n
  by_cases c : 0 ≤ zpcF T n
  · have := zpcF_m T c (m - n)
    rw [show n + (m - n) = m by omega] at this
    omega
  · omega
theorem zpcW_r {T : List Int} (hT : zTv T) : -1 ≤ zpcW T ∧ zpcW T ≤ 80 := by
  have := zpcF_r T T.length
  have := hT.1
  unfold zpcW
  split
  · omega
  · split <;> omega
theorem zpcW_b {T : List Int} {n : Nat} (h : zpcF T n = -1) (hb : zpbad T n) (hn : n < T.length) : zpcW T = n := by
  unfold zpcW
  rw [zpcF_b h hb hn, if_pos (by omega)]
/-- letters: how many, which -/
def zpcc (T : List Int) : Nat → Int
  | 0 => 0
  | n + 1 => if zat T n = 47 then zpcc T n else zpcc T n + 1
def zplS (T : List Int) : Nat → Int → Int
  | 0 => fun _ => 0
  | n + 1 => if zat T n = 47 then zplS T n else zupd (zplS T n) (zpcc T n) (zat T n - 97)
theorem zpq_i {T : List Int} : ∀ {n : Nat}, zpcF T n = -1 → (1 ≤ (zpq T n).1 ∧ (zpq T n).1 ≤ 8) ∧ (0 ≤ (zpq T n).2.1 ∧ (zpq T n).2.1 ≤ 7) ∧ (0 ≤ (zpq T n).2.2 ∧ (zpq T n).2.2 ≤ (zpq T n).1) ∧ zpcc T n = (zpq T n).2.1 * (zpq T n).1 + (zpq T n).2.2 ∧ ((zpq T n).2.1 = 0 → (zpq T n).1 = 8 ∧ (zpq T n).2.2 = n) ∧ (∀ i, 0 ≤ i → i < zpcc T n → 0 ≤ zplS T n i ∧ zplS T n i ≤ 7)
  | 0, _ => ⟨(by decide : (1 : Int) ≤ 8 ∧ (8 : Int) ≤ 8), (by decide : (0 : Int) ≤ 0 ∧ (0 : Int) ≤ 7), (by decide : (0 : Int) ≤ 0 ∧ (0 : Int) ≤ 8), rfl, fun _ => ⟨rfl, rfl⟩, fun i i0 i1 => absurd i1 (by show ¬ i < 0; omega)⟩
  | n + 1, h => by
    have h1 : zpcF T n = -1 := zpcF_l h (by omega)
    have hb : ¬ zpbad T n := fun z => by
      have := zpcF_b h1 z (m := n + 1) (by omega)
      omega
    obtain ⟨q1, q2, q3, q4, q5, q6⟩ := zpq_i h1
    unfold zpbad at hb
    rw [zpq, zpcc, zplS]
    generalize zpq T n = s at *
    obtain ⟨wi, ro, inr⟩ := s
    simp only at *
    by_cases c : zat T n = 47
    · rw [if_pos c, if_pos c, if_pos c]
      show (1 ≤ inr ∧ inr ≤ 8) ∧ (0 ≤ ro + 1 ∧ ro + 1 ≤ 7) ∧ ((0 : Int) ≤ 0 ∧ (0 : Int) ≤ inr) ∧ zpcc T n = (ro + 1) * inr + 0 ∧ (ro + 1 = 0 → inr = 8 ∧ (0 : Int) = ((n + 1 : Nat) : Int)) ∧ (∀ i, 0 ≤ i → i < zpcc T n → 0 ≤ zplS T n i ∧ zplS T n i ≤ 7)
      refine ⟨⟨by omega, by omega⟩, ⟨by omega, by omega⟩, ⟨by omega, by omega⟩, ?_, fun z => absurd z (by omega), q6⟩
      show zpcc T n = (ro + 1) * inr + 0
      rw [q4]
      by_cases d : ro = 0
      · subst d; omega
      · have : inr = wi := by omega
        subst this
        rw [Int.add_mul]; omega
    · rw [if_neg c, if_neg c, if_neg c]
      show (1 ≤ wi ∧ wi ≤ 8) ∧ (0 ≤ ro ∧ ro ≤ 7) ∧ (0 ≤ inr + 1 ∧ inr + 1 ≤ wi) ∧ zpcc T n + 1 = ro * wi + (inr + 1) ∧ (ro = 0 → wi = 8 ∧ inr + 1 = ((n + 1 : Nat) : Int)) ∧ (∀ i, 0 ≤ i → i < zpcc T n + 1 → 0 ≤ zupd (zplS T n) (zpcc T n) (zat T n - 97) i ∧ zupd (zplS T n) (zpcc T n) (zat T n - 97) i ≤ 7)
      refine ⟨by omega, by omega, ⟨by omega, by omega⟩, ?_, fun z => ⟨(q5 z).1, by have := (q5 z).2; omega⟩, fun i i0 i1 => ?_⟩
      · show zpcc T n + 1 = ro * wi + (inr + 1)
        omega
      · by_cases d : i = zpcc T n
        · rw [d, zupd_at]; omega
        · rw [zupd_off d]; exact q6 i i0 (by omega)
theorem zpcc_r {T : List Int} {n : Nat} (h : zpcF T n = -1) : 0 ≤ zpcc T n ∧ zpcc T n ≤ 64 ∧ ((zpq T n).2.2 < (zpq T n).1 → zpcc T n < 64) := by
  obtain ⟨q1, q2, q3, q4, q5, q6⟩ := zpq_i h
  rw [q4]
  generalize zpq T n = s at *
  obtain ⟨wi, ro, inr⟩ := s
  simp only at *
  have hr : ro = 0 ∨ ro = 1 ∨ ro = 2 ∨ ro = 3 ∨ ro = 4 ∨ ro = 5 ∨ ro = 6 ∨ ro = 7 := by omega
  rcases hr with rfl | rfl | rfl | rfl | rfl | rfl | rfl | rfl <;> omega
/-- wide, high -/
def zpW (T : List Int) : Int := if T.length = 0 then 0 else (zpq T T.length).2.2
def zpH (T : List Int) : Int := if T.length = 0 then 0 else (zpq T T.length).2.1 + 1
theorem zpcW_n {T : List Int} (h : zpcW T < 0) : zpcF T T.length = -1 ∧ ¬ (0 < (zpq T T.length).2.1 ∧ (zpq T T.length).2.2 < (zpq T T.length).1) := by
  have h1 := zpcF_r T T.length
  unfold zpcW at h
  by_cases c : 0 ≤ zpcF T T.length
  · rw [if_pos c] at h; omega
  · rw [if_neg c] at h
    by_cases d : 0 < (zpq T T.length).2.1 ∧ (zpq T T.length).2.2 < (zpq T T.length).1
    · rw [if_pos d] at h; omega
    · exact ⟨by omega, d⟩
theorem zpWH {T : List Int} (h : zpcW T < 0) : (0 ≤ zpW T ∧ zpW T ≤ 8) ∧ (0 ≤ zpH T ∧ zpH T ≤ 8) ∧ zpW T * zpH T = zpcc T T.length ∧ (T.length ≠ 0 → 0 < zpH T) := by
  obtain ⟨h1, h2⟩ := zpcW_n h
  obtain ⟨q1, q2, q3, q4, q5, q6⟩ := zpq_i h1
  unfold zpW zpH
  by_cases c : T.length = 0
  · rw [if_pos c, if_pos c, c]
    exact ⟨by omega, by omega, rfl, fun z => absurd rfl z⟩
  · rw [if_neg c, if_neg c, q4]
    generalize zpq T T.length = s at *
    obtain ⟨wi, ro, inr⟩ := s
    simp only at *
    refine ⟨by omega, by omega, ?_, fun _ => by omega⟩
    by_cases d : ro = 0
    · subst d; omega
    · have : inr = wi := by omega
      subst this
      rw [Int.mul_add, Int.mul_comm]; omega
def zpiS (S : Int → Int) (T : List Int) : Int → Int := fun i => if i = 703 then zpH T else if i = 702 then zpW T else if 638 ≤ i ∧ i < 702 then (if i - 638 < zpcc T T.length then zplS T T.length (i - 638) else 0) else S i
theorem zpiS_o {S : Int → Int} {T : List Int} {i : Int} (h : i < 638 ∨ 704 ≤ i) : zpiS S T i = S i := by
  unfold zpiS
  rw [if_neg (by omega), if_neg (by omega), if_neg (by omega)]
theorem zpiS_c {S : Int → Int} {T : List Int} {i : Int} (h0 : 0 ≤ i) (h1 : i < 64) : zpiS S T (638 + i) = if i < zpcc T T.length then zplS T T.length i else 0 := by
  unfold zpiS
  rw [if_neg (by omega), if_neg (by omega), if_pos (by omega), show 638 + i - 638 = i by omega]
theorem zpiS_2 {S : Int → Int} {T : List Int} : zpiS S T 702 = zpW T := by unfold zpiS; rw [if_neg (by decide), if_pos rfl]
theorem zpiS_3 {S : Int → Int} {T : List Int} : zpiS S T 703 = zpH T := by unfold zpiS; rw [if_pos rfl]
theorem zpiS_v {S : Int → Int} {T : List Int} (hv : zval S) (h : zpcW T < 0) : zval (zpiS S T) := by
  obtain ⟨h1, h2, h3, h4, h5, h6, h7, h8, h9⟩ := hv
  obtain ⟨w1, w2, w3, w4⟩ := zpWH h
  have hq := (zpq_i (zpcW_n h).1).2.2.2.2.2
  have hs : ∀ i, i < 638 ∨ 704 ≤ i → zpiS S T i = S i := fun i hi => zpiS_o hi
  have hc : ∀ i, 0 ≤ i → i < 64 → 0 ≤ zpiS S T (638 + i) ∧ zpiS S T (638 + i) ≤ 7 := fun i i0 i1 => by
    rw [zpiS_c i0 i1]
    split
    · rename_i c; exact hq i i0 c
    · omega
  refine ⟨⟨fun x x0 x1 => by rw [hs _ (by omega)]; exact h1.1 x x0 x1, fun x x0 x1 => by rw [hs _ (by omega)]; exact h1.2 x x0 x1⟩, zSet_c (fun i i0 i1 => hs i (by omega)) h2, ⟨by rw [zpiS_2, zpiS_3]; exact ⟨w1, w2⟩, hc, fun i i0 i1 => by rw [hs _ (by omega)]; exact h3.2.2 i i0 i1⟩, fun i i0 i1 => by rw [hs _ (by omega)]; exact h4 i i0 i1, zLw_c (fun i i0 _ => hs i (by omega)) h5, fun i i0 i1 => ?_, fun x x0 x1 hx => by rw [hs _ (by omega)]; exact h7 x x0 x1 hx, by rw [hs _ (by decide)]; exact h8, by rw [hs _ (by decide)]; exact h9⟩
  by_cases c1 : i < 638 ∨ 704 ≤ i
  · rw [hs i c1]; exact h6 i i0 i1
  · by_cases c2 : i = 702
    · rw [c2, zpiS_2]; constructor <;> omega
    · by_cases c3 : i = 703
      · rw [c3, zpiS_3]; constructor <;> omega
      · have := hc (i - 638) (by omega) (by omega)
        rw [show 638 + (i - 638) = i by omega] at this
        constructor <;> omega
def zpiSS (S : Int → Int) (T : List Int) : Int → Int := if zpcW T < 0 then zpiS S T else S
def zpiA (T : List Int) : Int := if zpcW T < 0 then zpcc T T.length else -1 - zpcW T
theorem zpiSS_v {S : Int → Int} (hv : zval S) (T : List Int) : zval (zpiSS S T) := by
  unfold zpiSS
  split
  · rename_i c; exact zpiS_v hv c
  · exact hv
section
variable {G : zG} {μ : zM} {S : Int → Int} {c : Int} {W U : List (Int → Int)} {kp : Int → Int} {K : Int → Int → Int} {T R : List Int}
theorem kX9_pictureWrongAt {F : Int → zM → Prop} (ht : zXt μ T) (hT : zTv T) (h : F (zpcW T) μ) : qX9_pictureWrongAt G μ F := by
  have hl := hT.1
  refine eX9_pictureWrongAt fun J C => rX9_pictureWrongAt_e C ?_
  refine znfor (N := T.length) (P := fun n => zpcF T n = -1 → J 10 ([some (zR (some 1)), some (zI (zpq T n).1), some (zI (zpq T n).2.1), some (zI (zpq T n).2.2), some (zI (n : Int)), none], [], μ, 0, 0)) ?_ ?_ rfl
  · intro hn
    obtain ⟨q1, q2, q3, -, -, -⟩ := zpq_i hn
    refine rX9_pictureWrongAt_10 C _ _ _ _ ?_
    rw [ht.1]
    unfold zpcW at h
    rw [if_neg (by omega)] at h
    refine ⟨by constructor <;> omega, by constructor <;> omega, fun _ => ⟨by constructor <;> omega, fun c1 => ?_, fun c1 => ⟨by constructor <;> omega, by constructor <;> omega, fun c2 => ?_, fun c2 => ?_⟩⟩, fun z => absurd (Int.le_refl _) z⟩
    · rw [if_neg (by omega)] at h; exact h
    · rw [if_neg (by omega)] at h; exact h
    · rw [if_pos (by omega)] at h; exact h
  · intro n hn ih hf
    obtain ⟨q1, q2, q3, -, -, -⟩ := zpq_i hf
    have e : zi μ 2 n = zat T n := ht.2 n hn
    have hrT := zat_r hT (i := (n : Int)) (by omega) (by omega)
    have bad : zpbad T n → F (n : Int) μ := fun hb => by
      rw [zpcW_b hf hb hn] at h
      exact h
    have e1 : zat T n = 47 → zpq T (n + 1) = ((zpq T n).2.2, (zpq T n).2.1 + 1, 0) := fun z => by rw [zpq, if_pos z]
    have e2 : zat T n ≠ 47 → zpq T (n + 1) = ((zpq T n).1, (zpq T n).2.1, (zpq T n).2.2 + 1) := fun z => by rw [zpq, if_neg z]
    have hg := fun z => ih (zpcF_g hf z)
    unfold zpbad at bad hg
    refine rX9_pictureWrongAt_10 C _ _ _ _ ?_
    rw [ht.1, e]
    generalize zpq T n = s at *
    obtain ⟨wi, ro, inr⟩ := s
    simp only at *
    have nx : zat T n = 47 → ¬ (inr = 0) → (ro ≤ 0 ∨ ¬ inr < wi) → J 48 ([some (zR (some 1)), none, some (zI ro), some (zI inr), some (zI (n : Int)), none], [], μ, 0, 0) := fun z y x => by
      refine rX9_pictureWrongAt_48 C _ _ _ ⟨by constructor <;> omega, fun c7 => ?_, fun c7 => bad (Or.inl ⟨z, Or.inr (Or.inr c7)⟩)⟩
      have := hg (by omega)
      rw [e1 z] at this
      exact this
    refine ⟨by constructor <;> omega, by constructor <;> omega, fun z => absurd z (by omega), fun _ => ⟨by omega, by constructor <;> omega, fun c1 => ?_, fun c1 => ⟨by constructor <;> omega, fun c2 => bad (Or.inl ⟨c1, Or.inl c2⟩), fun c2 => ⟨by constructor <;> omega, fun c3 => nx c1 c2 (Or.inl c3), fun c3 => ⟨by constructor <;> omega, fun c4 => bad (Or.inl ⟨c1, Or.inr (Or.inl ⟨by omega, c4⟩)⟩), fun c4 => nx c1 c2 (Or.inr c4)⟩⟩⟩⟩⟩
    refine eX9_canStand fun J2 C2 => rX9_canStand_e C2 _ _ _ ⟨by decide, fun z => absurd z (by decide), fun z => absurd z (by decide), fun _ => ⟨by constructor <;> omega, fun c2 => ⟨by decide, fun _ => bad (Or.inr ⟨c1, Or.inl c2⟩), fun z => absurd rfl z⟩, fun c2 => ⟨fun c3 => ⟨by decide, fun _ => bad (Or.inr ⟨c1, Or.inr (Or.inl c3)⟩), fun z => absurd rfl z⟩, fun c3 => ⟨by decide, fun z => absurd z (by decide), fun _ => ⟨by constructor <;> omega, by constructor <;> omega, fun c4 => ?_, fun c4 => bad (Or.inr ⟨c1, Or.inr (Or.inr c4)⟩)⟩⟩⟩⟩, fun z => absurd z (by decide), fun z => absurd rfl z.2.2.1⟩
    have := hg (by omega)
    rw [e2 c1] at this
    exact this
theorem kX7_hang {F : zM → Prop} (ht : zXt μ T) (hT : zTv T) (hX : zXs μ 5 S) (hw : zpcW T < 0) (h : ∀ μ', zsm (fun b j => b = 11 ∨ (b = 5 ∧ (j = 6 ∨ j = 7))) μ μ' → zXs μ' 5 (zpiS S T) → F μ') : qX7_hang G 5 μ F := by
  have hl := hT.1
  obtain ⟨h1, h2⟩ := zpcW_n hw
  obtain ⟨w1, w2, w3, w4⟩ := zpWH hw
  refine eX7_hang fun J C => rX7_hang_e C zSt_5 ?_
  rw [ht.1]
  have main : ∀ μ0, zsm (fun b j => b = 11 ∨ (b = 5 ∧ (j = 6 ∨ j = 7))) μ μ0 → zi μ0 5 7 = (if T.length = 0 then 0 else 1) → J 20 ([some (zR (some 5)), some (zR (some 1)), some (zI 0), some (zI 0)], [], μ0, 0, 0) := by
    intro μ0 g0 e0
    refine znfor (N := T.length) (P := fun n => ∀ μ1, zsm (fun b j => b = 11 ∨ (b = 5 ∧ (j = 6 ∨ j = 7))) μ μ1 → zi μ1 5 7 = (if T.length = 0 then 0 else 1) + (zpq T n).2.1 → (∀ i, 0 ≤ i → i < zpcc T n → zi μ1 11 i = zplS T n i) → J 20 ([some (zR (some 5)), some (zR (some 1)), some (zI (zpcc T n)), some (zI (n : Int))], [], μ1, 0, 0)) ?_ ?_ μ0 g0 (by rw [e0]; exact (Int.add_zero _).symm) (fun i i0 i1 => absurd i1 (by show ¬ i < 0; omega))
    · intro μ1 g1 e1 a1
      have eH : zi μ1 5 7 = zpH T := by
        rw [e1]; unfold zpH
        by_cases z : T.length = 0
        · rw [if_pos z, if_pos z, z]; rfl
        · rw [if_neg z, if_neg z]; omega
      have fin : ∀ v, v = zpW T → F (zup μ1 5 6 v) := fun v ev => by
        subst ev
        have g2 : zsm (fun b j => b = 11 ∨ (b = 5 ∧ (j = 6 ∨ j = 7))) μ (zup μ1 5 6 (zpW T)) := g1.up _ (Or.inr ⟨rfl, Or.inl rfl⟩)
        obtain ⟨x1, x2, x3, x4, x5, x6, x7, x8⟩ := hX
        refine h _ g2 ⟨fun p p0 p1 => ?_, fun p p0 p1 => ?_, fun p p0 p1 => ?_, fun p p0 p1 => ?_, fun p p0 p1 => ?_, ?_, ?_, ?_⟩
        · rw [g2.1 _ _ (by omega), zpiS_o (by omega)]; exact x1 p p0 p1
        · rw [g2.1 _ _ (by omega), zpiS_o (by omega)]; exact x2 p p0 p1
        · rw [g2.1 _ _ (by omega), zpiS_o (by omega)]; exact x3 p p0 p1
        · rw [g2.1 _ _ (by omega), zpiS_o (by omega)]; exact x4 p p0 p1
        · rw [g2.1 _ _ (by omega), zpiS_o (by omega)]; exact x5 p p0 p1
        · rw [zi_at, zpiS_2]
        · rw [zi_off (by omega), zpiS_3]; exact eH
        · rw [zpiS_2, zpiS_3, w3]
          intro i i0 i1
          have := (zpcc_r h1).2.1
          rw [zi_off (by omega), zpiS_c i0 (by omega), if_pos i1]
          exact a1 i i0 i1
      have ht1 : zi μ1 1 1 = T.length := by rw [g1.1 _ _ (by omega)]; exact ht.1
      refine rX7_hang_20 C zSt_5 _ _ ?_
      rw [ht1, eH]
      have hcr := zpcc_r h1
      refine ⟨by constructor <;> omega, by constructor <;> omega, fun _ => ⟨by constructor <;> omega, fun z => ⟨by omega, by omega, fin _ ?_⟩, fun z => fin _ ?_⟩, fun z => absurd (Int.le_refl _) z⟩
      · rw [← w3]
        exact Int.mul_ediv_cancel _ z
      · by_cases y : T.length = 0
        · unfold zpW; rw [if_pos y]
        · have := w4 y; omega
    · intro n hn ih μ1 g1 e1 a1
      have hf := zpcF_l h1 (n := n) (by omega)
      have hf1 := zpcF_l h1 (n := n + 1) (by omega)
      have hcr := zpcc_r hf
      have hcr1 := zpcc_r hf1
      have ht1 : zXt μ1 T := ⟨by rw [g1.1 _ _ (by omega)]; exact ht.1, fun k hk => by rw [g1.1 _ _ (by omega)]; exact ht.2 k hk⟩
      have hrT := zat_r hT (i := (n : Int)) (by omega) (by omega)
      refine rX7_hang_20 C zSt_5 _ _ ?_
      rw [ht1.1]
      refine ⟨by constructor <;> omega, by constructor <;> omega, fun z => absurd z (by omega), fun _ => ⟨by constructor <;> omega, fun z => absurd z (by omega), fun _ => kX9_at ht1 hT (by constructor <;> omega) ?_⟩⟩
      rw [if_pos (by omega)]
      rw [zpcc] at hcr1 ih
      rw [zpq, zplS] at ih
      refine ⟨by constructor <;> omega, fun c1 => ?_, fun c1 => ?_⟩
      · rw [if_neg c1] at hcr1 ih
        rw [if_neg c1, if_neg c1] at ih
        refine ⟨fun z => absurd z (by omega), fun _ => kX9_at ht1 hT (by constructor <;> omega) ?_⟩
        rw [if_pos (by omega)]
        refine ⟨by omega, ih _ (g1.up _ (Or.inl rfl)) (by rw [zi_off (by omega)]; exact e1) (fun i i0 i1 => ?_)⟩
        by_cases d : i = zpcc T n
        · rw [d, zupd_at]; exact zi_at
        · rw [zupd_off d]
          show zi (zup μ1 11 (zpcc T n) (zat T n - 97)) 11 i = _
          rw [zi_off (by omega)]; exact a1 i i0 (by omega)
      · rw [if_pos c1] at hcr1 ih
        rw [if_pos c1, if_pos c1] at ih
        refine ih _ (g1.up _ (Or.inr ⟨rfl, Or.inr rfl⟩)) ?_ (fun i i0 i1 => by rw [zi_off (by omega)]; exact a1 i i0 i1)
        rw [zi_at, e1]
        show _ = _ + ((zpq T n).2.1 + 1)
        omega
  refine ⟨by constructor <;> omega, fun z => main _ ((zsm.refl _ _).up _ (Or.inr ⟨rfl, Or.inr rfl⟩)) (by rw [zi_at, if_neg (by omega)]), fun z => main _ ((zsm.refl _ _).up _ (Or.inr ⟨rfl, Or.inr rfl⟩)) (by rw [zi_at, if_pos (by omega)])⟩
theorem kX10_picture {F : Int → zM → Prop} (hx : zXa μ S U kp K T R) (hv : zval S) (hT : zTv T) (h : ∀ μ', zxm μ μ' → zXa μ' (zpiSS S T) (if zpcW T < 0 then zpush U S else U) kp K [] R → F (zpiA T) μ') : qX10_picture G μ F := by
  have ht := hx.2.2.2.2.2.1
  have hw := zpcW_r hT
  unfold zpiSS zpiA at h
  refine eX10_picture fun J C => rX10_picture_e C (kX9_pictureWrongAt ht hT ⟨by constructor <;> omega, fun c1 => ?_, fun c1 => ?_⟩)
  · rw [if_pos c1, if_pos c1, if_pos c1] at h
    obtain ⟨hu, hx⟩ := hx
    obtain ⟨w1, w2, w3, w4⟩ := zpWH c1
    have hcr := zpcc_r (zpcW_n c1).1
    refine kX1_draft hx hu hv.pic hv.1 fun μ1 g1 x1 => kX7_hang x1.2.2.2.2.1 hT x1.1 c1 fun μ2 g2 x2 => ?_
    have hx2 := x1.st g2 (fun b j z => by omega) x2 (fun i i0 i1 => zpiS_o (by omega)) hv.2.2.2.2.1
    have gm : zsm (fun b _ => b = 1 ∨ b = 2) μ2 (zup μ2 1 1 0) := (zsm.refl _ _).up _ (Or.inl rfl)
    have hx3 := hx2.txt (T' := []) gm ⟨zi_at, fun k hk => absurd hk (by simp)⟩
    refine eX7_cellCount fun J C => rX7_cellCount_e C zSt_5 ?_
    rw [hx3.1.2.2.2.2.2.1, hx3.1.2.2.2.2.2.2.1, zpiS_2, zpiS_3, w3]
    exact kX10_settled (by constructor <;> omega) hx3 hu (fun z => absurd z (by omega)) (fun _ μ3 g3 x4 => h μ3 (((g1.trans (g2.xm (fun b j z => by omega))).trans (gm.xm (fun b j z => by omega))).trans g3) x4)
  · rw [if_neg c1, if_neg c1, if_neg c1] at h
    exact kX10_refusedText hx fun μ1 g1 x1 => h μ1 g1 x1
end
