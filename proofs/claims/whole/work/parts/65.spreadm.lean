/-! spread of the reference -/
def zpn2 (P : Nat → Bool) : Nat → Nat
  | 0 => 0
  | n + 1 => zpn2 P n + (if P n then 1 else 0)
theorem zpn2_f (f : Nat → Int) (p : Int → Bool) : ∀ n : Nat, (((List.range n).map f).filter p).length = zpn2 (fun i => p (f i)) n
  | 0 => rfl
  | n + 1 => by
    rw [List.range_succ, List.map_append, List.filter_append, List.length_append, zpn2_f f p n, zpn2]
    congr 1
    by_cases c : p (f n) = true
    · rw [if_pos c]
      show (List.filter p [f n]).length = 1
      rw [List.filter_cons_of_pos c]; rfl
    · rw [if_neg c]
      show (List.filter p [f n]).length = 0
      rw [List.filter_cons_of_neg c]; rfl
theorem zpn2_stay {P : Nat → Bool} {k : Nat} : ∀ t : Nat, (∀ i, k ≤ i → i < k + t → P i = false) → zpn2 P (k + t) = zpn2 P k
  | 0, _ => rfl
  | t + 1, h => by
    rw [← Nat.add_assoc, zpn2, zpn2_stay t (fun i h0 h1 => h i h0 (by omega)), h (k + t) (by omega) (by omega)]
    rfl
theorem zpn2_seg {P : Nat → Bool} {k t : Nat} (h1 : ∀ i, i < k → P i = false) (h2 : ∀ i, k ≤ i → i < t → P i = true) (h3 : ∀ i, t ≤ i → P i = false ∨ True) : ∀ n : Nat, n ≤ t → zpn2 P n = n - k
  | 0, _ => by rw [zpn2]; omega
  | n + 1, hn => by
    rw [zpn2, zpn2_seg h1 h2 h3 n (by omega)]
    by_cases c : n < k
    · rw [h1 n c, if_neg (by decide)]; omega
    · rw [h2 n (by omega) (by omega), if_pos rfl]; omega
theorem zct_count (f : Int → Int) (v : Int) : ∀ n : Nat, ((((List.range n).map (fun i : Nat => f i)).count v : Nat) : Int) = zct f 0 v n
  | 0 => rfl
  | n + 1 => by
    rw [List.range_succ, List.map_append, List.count_append, zct, ← zct_count f v n]
    show (((_ + List.count v [f n] : Nat)) : Int) = _
    rw [List.count_singleton, Int.zero_add]
    by_cases c : f n = v
    · rw [if_pos c, if_pos (by simp [c])]; omega
    · rw [if_neg c, if_neg (by simp [c])]; omega
section
variable {G : zG} {μ : zM} {S : Int → Int}
theorem zKx_range (S : Int → Int) : zKx S = (List.range (zON S)).map (fun i : Nat => zky S (zO S i)) := by
  apply List.ext_getElem?
  intro i
  unfold zKx
  rw [List.getElem?_map, List.getElem?_map]
  by_cases c : i < zON S
  · have hi : i < (zol S zN65).length := c
    rw [List.getElem?_eq_getElem hi, List.getElem?_range c]
    show some (zky S ((zol S zN65)[i])) = some (zky S (zO S i))
    rw [show zO S i = (zol S zN65)[i] from zgetD hi]
  · rw [List.getElem?_eq_none (show (zol S zN65).length ≤ i by have : (zol S zN65).length = zON S := rfl; omega), List.getElem?_eq_none (by rw [List.length_range]; omega)]
    rfl
theorem zKx_nd {S : Int → Int} (hr : zLr S) : (zKx S).Nodup := by
  unfold zKx
  have h := zol_sorted S zN65
  refine List.pairwise_map.2 (h.imp_of_mem (fun {a b} ha hb hab e => ?_))
  obtain ⟨i, hi, ei⟩ := zget_ex ha
  obtain ⟨j, hj, ej⟩ := zget_ex hb
  have pa : zPl a := by rw [← ei]; exact (zO_mem (S := S) hi).1
  have pb : zPl b := by rw [← ej]; exact (zO_mem (S := S) hj).1
  have := zky_inj hr pa pb e
  omega
theorem zsp_at {S : Int → Int} {n : Nat} (h : zopen S n) : (zol S (n + 1)).length = (zol S n).length + 1 ∧ (zol S (n + 1)).getD (zol S n).length 0 = n ∧ ∀ k, k < (zol S n).length → (zol S (n + 1)).getD k 0 = (zol S n).getD k 0 := by
  have e : zol S (n + 1) = zol S n ++ [(n : Int)] := by rw [zol, if_pos h]
  rw [e]
  exact ⟨by rw [List.length_append]; rfl, zget_last, fun k hk => zget_left hk⟩
theorem kX11_spread {F : Int → zM → Prop} {R : List Int} (hM : zMs μ S) (hr : zLr S) (hv : zSet S) (hcd : zcds μ) (hR : zMr μ R) (h : ∀ μ', zsm zPM μ μ' → zMr μ' (zspr S) → F (zdf (zKx S) : Nat) μ') : qX11_spread G μ F := by
  have hN := zON_le S
  have hP := zON_pos hv
  have eN := zN65_e
  have g0 := zMthr μ
  refine eX11_spread fun J C => rX11_spread_e C (kX11_layNow (hM.pm g0) hr hv (hcd.pm g0) fun μ1 g1 m1 d1 l1 => ?_)
  refine znfor (N := zN65) (P := fun n => ∀ μ', zsm (fun b _ => b = 169) μ1 μ' → (∀ k : Nat, k < (zol S n).length → zi μ' 169 k = zky S ((zol S n).getD k 0)) → J 17 ([some (zR (some 153)), some (zI ((zol S n).length : Nat)), some (zI (n : Int)), none, none, none, none, none, none, none], [], μ', 0, 0)) ?_ ?_ μ1 (zsm.refl _ _) (fun k hk => absurd hk (by unfold zol; simp))
  · intro μ2 g2 f2
    have f2 : ∀ k : Nat, k < zON S → zi μ2 169 k = zky S (zO S k) := f2
    rw [show (zol S zN65).length = zON S from rfl]
    refine rX11_spread_17 C _ _ ⟨by constructor <;> omega, fun _ => ?_, fun c => absurd (by omega) c⟩
    have hf : ∀ i : Int, 0 ≤ i → i < zON S → zi μ2 169 i = (fun i : Int => zky S (zO S i.toNat)) i := fun i h0 h1 => by
      have := f2 i.toNat (by omega)
      rw [show ((i.toNat : Nat) : Int) = i by omega] at this
      exact this
    refine kX11_sort hN hf (fun i _ _ => by have := zky_d hr (zO S i.toNat); constructor <;> omega) fun μ3 g g3 f3 s3 c3 => ?_
    have gg : zsm zPM μ μ3 := ((g0.trans g1).trans (g2.mono (fun b j => by unfold zPM; omega))).trans (g3.mono (fun b j => by unfold zPM; omega))
    obtain ⟨K, eK⟩ : ∃ K : List Int, K = (List.range (zON S)).map (fun i : Nat => g i) := ⟨_, rfl⟩
    have hperm : K.Perm (zKx S) := by
      rw [List.perm_iff_count]
      intro v
      have a := zct_count g v (zON S)
      have b := zct_count (fun i : Int => zky S (zO S i.toNat)) v (zON S)
      rw [c3 v, ← b] at a
      rw [eK, zKx_range]
      exact Int.ofNat.inj a
    have hnd : K.Nodup := hperm.symm.nodup (zKx_nd hr)
    have klen : K.length = zON S := by rw [eK, List.length_map, List.length_range]
    have kget : ∀ i (hi : i < K.length), K[i] = g i := fun i hi => by subst eK; rw [List.getElem_map, List.getElem_range]
    have slt : ∀ i j : Nat, i < j → j < zON S → g i < g j := fun i j hij hj => by
      have a := s3 i j (by omega) (by omega) (by omega)
      have b := List.pairwise_iff_getElem.1 hnd i j (by omega) (by omega) hij
      rw [kget, kget] at b
      omega
    have kmem : ∀ i : Nat, i < zON S → g i ∈ K := fun i hi => by rw [← kget i (by omega)]; exact List.getElem_mem _
    have kmem2 : ∀ w, w ∈ K → ∃ i : Nat, i < zON S ∧ w = g i := fun w hw => by
      obtain ⟨i, hi, e⟩ := List.getElem_of_mem hw
      exact ⟨i, by omega, by rw [← e, kget]⟩
    have gr : ∀ i : Nat, i < zON S → 0 ≤ g i ∧ g i < 1000000000000 := fun i hi => by
      obtain ⟨j, hj, e⟩ := zKx_mem (hperm.mem_iff.1 (kmem i hi))
      have := zky_d hr (zO S j)
      omega
    have hcn : ∀ q, zcn K q = zpn2 (fun i : Nat => decide (g i / 10000 = q / 10000)) (zON S) := fun q => by
      unfold zcn; rw [eK]; exact zpn2_f _ _ _
    have hdf : zdf K = zpn2 (fun i : Nat => zrkb K (g i)) (zON S) := by
      unfold zdf
      have := zpn2_f (fun i : Nat => g i) (zrkb K) (zON S)
      rw [← eK] at this
      exact this
    have hz : ∀ k, zpn2 (fun i : Nat => zrkb K (g i)) k ≤ k := fun k => by
      induction k with
      | zero => exact Nat.le_refl _
      | succ k ih => rw [zpn2]; split <;> omega
    have main : ∀ (s k : Nat), k + s = zON S → (∀ i j : Nat, i < k → k ≤ j → j < zON S → g i / 10000 < g j / 10000) → ∀ m w : Int, (0 ≤ m ∧ m ≤ 6561) → (0 ≤ w ∧ w < 10000) → (k = 0 ∧ m = 0 ∨ (∃ i : Nat, i < k ∧ zrkk K (g i) ∧ (zcn K (g i) : Int) = m ∧ g i % 10000 = w) ∧ ∀ i : Nat, i < k → zrkk K (g i) → (zcn K (g i) : Int) < m ∨ ((zcn K (g i) : Int) = m ∧ w ≤ g i % 10000)) → J 121 ([some (zR (some 153)), some (zI (zON S : Nat)), some (zI (zpn2 (fun i : Nat => zrkb K (g i)) k : Nat)), some (zI m), some (zL w), none, some (zI (k : Int)), none, none, none], [], μ3, 0, 0) := by
      intro s
      induction s using Nat.strongRecOn with
      | ind s ih =>
        intro k hs hb m w hm hw hbest
        have hzk := hz k
        refine rX11_spread_121 C _ _ _ _ _ ⟨by constructor <;> omega, by constructor <;> omega, fun c => ?_, fun c => ?_⟩
        · have ek : k = zON S := by omega
          subst ek
          rw [← hdf, zdf_p hperm]
          have key : zbbs (zKx S) m w := by
            refine zbs_p hperm ?_
            rcases hbest with ⟨z, _⟩ | ⟨⟨i, hi, r1, r2, r3⟩, r4⟩
            · omega
            · exact ⟨g i, kmem i hi, r1, r2, r3, fun x hx hxr => by
                obtain ⟨j, hj, rfl⟩ := kmem2 x hx
                exact r4 j hj hxr⟩
          obtain ⟨e1, e2⟩ := zspm_e key
          refine ⟨by constructor <;> omega, kX11_tell (zMr.nil _) (by simp) fun μ5 g5 r5 => kX11_tell r5 (by simp) fun μ6 g6 r6 => kX11_tell r6 (by simp) fun μ7 g7 r7 => ?_⟩
          rw [e1, e2] at r7
          exact h _ ((zMrow0 gg).trans (zMrow ((g5.trans g6).trans g7))) r7
        · have hk : k < zON S := by omega
          have gk := gr k hk
          have fin : ∀ t : Nat, k < t → t ≤ zON S → (∀ i : Nat, k ≤ i → i < t → g i / 10000 = g k / 10000) → (t < zON S → g t / 10000 ≠ g k / 10000) → J 169 ([some (zR (some 153)), some (zI (zON S : Nat)), some (zI (zpn2 (fun i : Nat => zrkb K (g i)) k : Nat)), some (zI m), some (zL w), none, some (zI (k : Int)), some (zI (t : Int)), none, none], [], μ3, 0, 0) := by
            intro t hkt htn ht1 ht2
            have hb2 : ∀ i j : Nat, i < t → t ≤ j → j < zON S → g i / 10000 < g j / 10000 := fun i j h0 h1 h2 => by
              have a := ht2 (by omega)
              have b := slt k t hkt (by omega)
              have c : g t ≤ g j := by
                by_cases e : t = j
                · rw [e]; exact Int.le_refl _
                · have := slt t j (by omega) h2; omega
              by_cases e : i < k
              · have := hb i j e (by omega) h2; exact this
              · have := ht1 i (by omega) h0; omega
            have rk1 : zrkk K (g k) := fun x hx e => by
              obtain ⟨j, hj, rfl⟩ := kmem2 x hx
              by_cases c2 : j < k
              · have := hb j k c2 (Nat.le_refl _) hk; omega
              · by_cases c3 : j = k
                · rw [c3]; exact Int.le_refl _
                · have := slt k j (by omega) hj; omega
            have rk0 : ∀ i : Nat, k < i → i < t → ¬ zrkk K (g i) := fun i h0 h1 z => by
              have := z (g k) (kmem k hk) (ht1 i (by omega) h1).symm
              have := slt k i h0 (by omega)
              omega
            have cn : (zcn K (g k) : Int) = t - k := by
              rw [hcn]
              have a := zpn2_seg (P := fun i : Nat => decide (g i / 10000 = g k / 10000)) (k := k) (t := t) (fun i hi => by have := hb i k hi (Nat.le_refl _) hk; simp; omega) (fun i h0 h1 => by simp; exact ht1 i h0 h1) (fun _ _ => Or.inr trivial) t (Nat.le_refl _)
              have b := zpn2_stay (P := fun i : Nat => decide (g i / 10000 = g k / 10000)) (k := t) (zON S - t) (fun i h0 h1 => by have := hb2 k i hkt h0 (by omega); simp; omega)
              rw [show t + (zON S - t) = zON S by omega] at b
              rw [b, a]
              omega
            have df : zpn2 (fun i : Nat => zrkb K (g i)) t = zpn2 (fun i : Nat => zrkb K (g i)) k + 1 := by
              have a := zpn2_stay (P := fun i : Nat => zrkb K (g i)) (k := k + 1) (t - (k + 1)) (fun i h0 h1 => by
                have n := rk0 i (by omega) (by omega)
                cases e : zrkb K (g i)
                · rfl
                · exact absurd ((zrkb_e K (g i)).1 e) n)
              rw [show k + 1 + (t - (k + 1)) = t by omega] at a
              rw [a, zpn2, if_pos ((zrkb_e K (g k)).2 rk1)]
            have nx : ∀ m' w' : Int, (0 ≤ m' ∧ m' ≤ 6561) → (0 ≤ w' ∧ w' < 10000) → ((∃ i : Nat, i < t ∧ zrkk K (g i) ∧ (zcn K (g i) : Int) = m' ∧ g i % 10000 = w') ∧ ∀ i : Nat, i < t → zrkk K (g i) → (zcn K (g i) : Int) < m' ∨ ((zcn K (g i) : Int) = m' ∧ w' ≤ g i % 10000)) → J 121 ([some (zR (some 153)), some (zI (zON S : Nat)), some (zI ((zpn2 (fun i : Nat => zrkb K (g i)) k : Nat) + 1)), some (zI m'), some (zL w'), none, some (zI (t : Int)), none, none, none], [], μ3, 0, 0) := fun m' w' a b c => by
              have := ih (zON S - t) (by omega) t (by omega) hb2 m' w' a b (Or.inr c)
              rw [df] at this
              exact this
            have old : ∀ (m' w' : Int), (∀ i : Nat, i < k → zrkk K (g i) → (zcn K (g i) : Int) < m' ∨ ((zcn K (g i) : Int) = m' ∧ w' ≤ g i % 10000)) → ((t : Int) - k < m' ∨ ((t : Int) - k = m' ∧ w' ≤ g k % 10000)) → ∀ i : Nat, i < t → zrkk K (g i) → (zcn K (g i) : Int) < m' ∨ ((zcn K (g i) : Int) = m' ∧ w' ≤ g i % 10000) := fun m' w' a b i hi hri => by
              by_cases c1 : i < k
              · exact a i c1 hri
              · by_cases c2 : i = k
                · subst c2; rw [cn]; exact b
                · exact absurd hri (rk0 i (by omega) hi)
            have mine : ∃ i : Nat, i < t ∧ zrkk K (g i) ∧ (zcn K (g i) : Int) = (t : Int) - k ∧ g i % 10000 = g k % 10000 := ⟨k, hkt, rk1, cn, rfl⟩
            refine rX11_spread_169 C _ _ _ _ _ _ ?_
            rw [f3 k (by omega) (by omega)]
            refine ⟨by omega, by omega, by constructor <;> omega, by constructor <;> omega, fun c1 => nx _ _ (by omega) (by omega) ⟨mine, old _ _ (fun i hi hri => ?_) (Or.inr ⟨rfl, Int.le_refl _⟩)⟩, fun c1 => ⟨fun c2 => nx _ _ hm hw ?_, fun c2 => ⟨by constructor <;> omega, by constructor <;> omega, fun c3 => nx _ _ hm hw ?_, fun c3 => nx _ _ (by omega) (by omega) ⟨mine, old _ _ (fun i hi hri => ?_) (Or.inr ⟨rfl, Int.le_refl _⟩)⟩⟩⟩⟩
            · rcases hbest with ⟨z, _⟩ | ⟨_, r4⟩
              · omega
              · rcases r4 i hi hri with q | q <;> exact Or.inl (by omega)
            · rcases hbest with ⟨z, z2⟩ | ⟨⟨i, hi, r1, r2, r3⟩, r4⟩
              · omega
              · exact ⟨⟨i, by omega, r1, r2, r3⟩, old _ _ r4 (Or.inl (by omega))⟩
            · rcases hbest with ⟨z, z2⟩ | ⟨⟨i, hi, r1, r2, r3⟩, r4⟩
              · omega
              · exact ⟨⟨i, by omega, r1, r2, r3⟩, old _ _ r4 (Or.inr ⟨by omega, c3⟩)⟩
            · rcases hbest with ⟨z, _⟩ | ⟨_, r4⟩
              · omega
              · rcases r4 i hi hri with q | q
                · exact Or.inl (by omega)
                · exact Or.inr ⟨by omega, by omega⟩
          have inner : ∀ (r t : Nat), t + r = zON S → k ≤ t → (∀ i : Nat, k ≤ i → i < t → g i / 10000 = g k / 10000) → J 131 ([some (zR (some 153)), some (zI (zON S : Nat)), some (zI (zpn2 (fun i : Nat => zrkb K (g i)) k : Nat)), some (zI m), some (zL w), none, some (zI (k : Int)), some (zI (t : Int)), none, none], [], μ3, 0, 0) := by
            intro r
            induction r with
            | zero =>
              intro t ht hkt h1
              exact rX11_spread_131 C _ _ _ _ _ _ ⟨by constructor <;> omega, by constructor <;> omega, fun _ => fin t (by omega) (by omega) h1 (fun z => absurd z (by omega)), fun z => absurd z (by omega)⟩
            | succ r ihr =>
              intro t ht hkt h1
              have gt := gr t (by omega)
              refine rX11_spread_131 C _ _ _ _ _ _ ⟨by constructor <;> omega, by constructor <;> omega, fun z => absurd z (by omega), fun _ => ?_⟩
              rw [f3 t (by omega) (by omega), f3 k (by omega) (by omega)]
              refine ⟨by omega, by omega, by omega, by omega, by constructor <;> omega, by constructor <;> omega, fun z => fin t ?_ (by omega) h1 (fun _ => z), fun z => ?_⟩
              · by_cases e : k = t
                · subst e; exact absurd rfl z
                · omega
              · exact ihr (t + 1) (by omega) (by omega) (fun i h0 h2 => by
                  by_cases e : i = t
                  · rw [e]; exact z
                  · exact h1 i h0 (by omega))
          exact inner (zON S - k) k (by omega) (Nat.le_refl _) (fun i h0 h1 => absurd h0 (by omega))
    exact main (zON S) 0 (by omega) (fun i j h0 => absurd h0 (Nat.not_lt_zero _)) 0 0 (by decide) (by decide) (Or.inl ⟨rfl, rfl⟩)
  · intro n hn hj μ2 g2 f2
    have hp : zPl n := ⟨by omega, by omega⟩
    have hl := zol_len S n
    have m2 := m1.sm g2 (by omega)
    refine rX11_spread_17 C _ _ ⟨by constructor <;> omega, fun c => absurd c (by omega), fun _ => kX11_codeOf hp (kX11_open m2 hv (fun ho => ⟨by decide, fun _ => ?_, fun z => absurd z (by decide)⟩) (fun ho => ⟨by decide, fun z => absurd rfl z, fun _ => ?_⟩))⟩
    · obtain ⟨a1, a2, a3⟩ := zsp_at ho
      rw [a1] at hj
      have hC2 : ∀ p b, zPl p → 0 ≤ b → b < 3 → zi μ2 159 (3 * p + b) = zC S p b := fun p b hp q0 q1 => by rw [g2.1 _ _ (by omega)]; exact l1.2.1 p b hp q0 q1
      obtain ⟨e0, e1, e2⟩ := zC159 hC2 hp
      have c0 := zC_r hr (p := n) (b := 0) (by decide); have c1 := zC_r hr (p := n) (b := 1) (by decide); have c2 := zC_r hr (p := n) (b := 2) (by decide)
      have cd := zcd_r (p := n)
      rw [e0, e1, e2]
      refine ⟨by omega, by constructor <;> omega, by omega, by constructor <;> omega, by omega, by constructor <;> omega, kX11_codeOf hp ⟨by constructor <;> omega, by omega, hj _ (g2.up _ rfl) (fun k hk => ?_)⟩⟩
      by_cases c : k = (zol S n).length
      · rw [c, a2]; exact zi_at
      · rw [zi_off (by omega), a3 k (by omega)]; exact f2 k (by omega)
    · rw [zol, if_neg ho, List.append_nil] at hj
      exact hj _ g2 f2
end
