section
variable {G : zG} {μ : zM} {S : Int → Int}
theorem kX4_countFits {F : zM → Prop} (hO : zmop μ S) (hv : zSet S) (hr : zLr S) {r q b : Int} (h1 : zw4 r) (h2 : zw4 q) (h3 : zw4 b) (hd : ∀ k : Nat, k < zON S → zi μ 127 k = zdk S r q b k) (h : ∀ μ', zsm (fun b j => b = 125 ∧ 6 ≤ j ∧ j ≤ 8) μ μ' → zi μ' 125 6 = zlow S r q b (zON S) → zi μ' 125 7 = zhigh S r q b (zON S) → zi μ' 125 8 = zfts S r q b (zON S) → F μ') : qX4_countFits G (zlst S r q b + S 706) μ F := by
  refine eX4_countFits fun J C => rX4_countFits_e C _ ?_
  have hN := zON_le S
  have hls := zlst_r hv hr h1 h2 h3
  have hsl := hv.2.2.1
  refine znfor (N := zON S) (P := fun n => ∀ μ', zsm (fun b j => b = 125 ∧ 6 ≤ j ∧ j ≤ 8) μ μ' → zi μ' 125 6 = zlow S r q b n → zi μ' 125 7 = zhigh S r q b n → zi μ' 125 8 = zfts S r q b n → J 18 ([some (zR (some 125)), some (zI (zlst S r q b + S 706)), some (zI (n : Int))], [], μ', 0, 0)) ?_ ?_ _ (((zsm.refl _ _).up _ ⟨rfl, by decide, by decide⟩ |>.up _ ⟨rfl, by decide, by decide⟩).up _ ⟨rfl, by decide, by decide⟩) (by rw [zi_off (by omega)]; exact zi_at) zi_at (by rw [zi_off (by omega), zi_off (by omega)]; exact zi_at)
  · intro μ1 g1 g2 g3 g4
    refine rX4_countFits_18 C _ _ ?_
    rw [g1.1 125 1 (by omega), hO.1]
    exact ⟨by constructor <;> omega, by constructor <;> omega, fun _ => h μ1 g1 g2 g3 g4, fun c => absurd (Int.le_refl _) c⟩
  · intro n hn hj μ1 g1 g2 g3 g4
    have hO1 := hO.sm g1 (by omega) (by omega)
    have hdr := zdk_r hv hr h1 h2 h3 n
    have hd1 : zi μ1 127 n = zdk S r q b n := by rw [g1.1 _ _ (by omega)]; exact hd n hn
    have hlr := zlow_r S r q b n
    have ham := zam_r (zO S n) 3
    have hpl := (zO_mem hn).1
    refine rX4_countFits_18 C _ _ ?_
    rw [hO1.1, hd1]
    refine ⟨by constructor <;> omega, by constructor <;> omega, fun c => absurd c (by omega), fun _ => ⟨by omega, by constructor <;> omega, by constructor <;> omega, fun c => ?_, fun c => ?_⟩⟩
    · have hnf : ¬ zfit S r q b n := by unfold zfit; omega
      refine hj μ1 g1 ?_ ?_ ?_
      · rw [zlow, if_neg hnf]; exact g2
      · rw [zhigh, if_neg hnf]; exact g3
      · rw [zfts, if_neg hnf]; exact g4
    · have hf : zfit S r q b n := by unfold zfit; omega
      rw [show zi (zup μ1 125 8 (zi μ1 125 8 + 1)) 126 n = zO S n by rw [zi_off (by omega)]; exact hO1.2 n hn]
      refine kX10_am hpl (by decide) (by decide) ?_
      rw [show zi (zup μ1 125 8 (zi μ1 125 8 + 1)) 125 6 = zlow S r q b n by rw [zi_off (by omega)]; exact g2]
      refine ⟨by constructor <;> omega, by constructor <;> omega, ?_⟩
      rw [show zi (zup (zup μ1 125 8 (zi μ1 125 8 + 1)) 125 6 (min (zlow S r q b n) (zam (zO S n) 3))) 126 n = zO S n by rw [zi_off (by omega), zi_off (by omega)]; exact hO1.2 n hn]
      refine kX10_am hpl (by decide) (by decide) ?_
      rw [show zi (zup (zup μ1 125 8 (zi μ1 125 8 + 1)) 125 6 (min (zlow S r q b n) (zam (zO S n) 3))) 125 7 = zhigh S r q b n by rw [zi_off (by omega), zi_off (by omega)]; exact g3]
      refine ⟨by constructor <;> omega, by constructor <;> omega, hj _ (((g1.up _ ⟨rfl, by decide, by decide⟩).up _ ⟨rfl, by decide, by decide⟩).up _ ⟨rfl, by decide, by decide⟩) ?_ ?_ ?_⟩
      · rw [zi_off (by omega), zi_at, zlow, if_pos hf]
      · rw [zi_at, zhigh, if_pos hf]
      · rw [zi_off (by omega), zi_off (by omega), zi_at, g4, zfts, if_pos hf]
theorem kX4_rankOf {F : Int → zM → Prop} (hO : zmop μ S) (hv : zSet S) (hr : zLr S) {r q b : Int} (h1 : zw4 r) (h2 : zw4 q) (h3 : zw4 b) (hd : ∀ k : Nat, k < zON S → zi μ 127 k = zdk S r q b k) {k : Nat} (hk : k < zON S) (h : F (zrnk S r q b k) μ) : qX4_rankOf G k (zwsh S r q b) μ F := by
  have hN := zON_le S
  have ham := zam_r (zO S k) 3
  have hw := (zwsh_r hv hr h1 h2 h3).2
  have hdr := zdk_r hv hr h1 h2 h3 k
  have ht := ztot_r (zO S k)
  refine eX4_rankOf fun J C => rX4_rankOf_e C _ _ ⟨by omega, ?_⟩
  rw [hO.2 k hk]
  refine kX10_am (zO_mem hk).1 (by decide) (by decide) ⟨by constructor <;> omega, by constructor <;> omega, ?_⟩
  rw [hd k hk, hO.2 k hk]
  exact ⟨by constructor <;> omega, kX10_totalOf (zO_mem hk).1 ⟨by constructor <;> omega, h⟩⟩
theorem kX4_find {F : Int → zM → Prop} {a s : Nat} (ha : zIsCh a) (hs : zIsSt s) (ha2 : a + 5 < 125 ∨ 127 < a) (hs2 : s + 6 < 125 ∨ 127 < s) (hc : zchis μ a S) (hX : zsX μ s S) (hO : zmop μ S) (hv : zSet S) (hr : zLr S) {r q b : Int} (h1 : zw4 r) (h2 : zw4 q) (h3 : zw4 b) (h : ∀ μ', zsm (fun b j => b = 127 ∨ (b = 125 ∧ 5 ≤ j)) μ μ' → zi μ' 125 5 = zdi S (zmat S r q b) r q b → zi μ' 125 6 = zlow S r q b (zON S) → zi μ' 125 7 = zhigh S r q b (zON S) → zi μ' 125 8 = zfts S r q b (zON S) → F (zmat S r q b) μ') : qX4_find G s a r q b μ F := by
  refine eX4_find fun J C => rX4_find_e C hs ha _ _ _ (kX4_leastDistance ha hs (by omega) (by omega) hc hX hO hv hr h1 h2 h3 fun μ1 g1 g2 => ?_)
  have hN := zON_le S
  have hls := zlst_r hv hr h1 h2 h3
  have hsl := hv.2.2.1
  have hX1 := hX.sm g1 (by omega)
  have hO1 := hO.sm g1 (by omega) (by omega)
  rw [show zi μ1 (s + 3) 2 = S 706 from hX1 2 (by decide) (by decide)]
  refine kX4_countFits hO1 hv hr h1 h2 h3 g2 fun μ2 t1 t2 t3 t4 => ?_
  have hX2 := hX1.sm t1 (by omega)
  have hO2 := hO1.sm t1 (by omega) (by omega)
  have hd2 : ∀ k : Nat, k < zON S → zi μ2 127 k = zdk S r q b k := fun k hk => by rw [t1.1 _ _ (by omega)]; exact g2 k hk
  have hw := zwsh_r hv hr h1 h2 h3
  have hm := zmk_lt hv hr h1 h2 h3
  have gg : zsm (fun b j => b = 127 ∨ (b = 125 ∧ 5 ≤ j)) μ μ2 := (g1.mono (fun b j => by omega)).trans (t1.mono (fun b j => by omega))
  rw [t2, t3, show zi μ2 (s + 3) 1 = S 705 from hX2 1 (by decide) (by decide)]
  refine ⟨by omega, ?_⟩
  refine znfor (N := zON S) (P := fun n => J 62 ([some (zR (some 125)), none, none, none, none, none, some (zI (zlst S r q b + S 706)), some (zI (zwsh S r q b)), some (zI ((zbst S r q b n - 1 : Nat) : Int)), some (zL (if zbst S r q b n = 0 then 9223372036854775807 else zrnk S r q b (zbst S r q b n - 1))), none, some (zI (n : Int))], [], μ2, 0, 0)) ?_ ?_
  · have hb := (zbst_r S r q b (zON S)).1
    refine rX4_find_62 C _ _ _ _ _ ?_
    rw [hO2.1]
    refine ⟨by constructor <;> omega, by constructor <;> omega, fun _ => ⟨by omega, ?_⟩, fun c => absurd (Int.le_refl _) c⟩
    have e1 : zi μ2 127 ((zbst S r q b (zON S) - 1 : Nat) : Int) = zdk S r q b (zmk S r q b) := hd2 _ hm.2
    have e2 : zi μ2 126 ((zbst S r q b (zON S) - 1 : Nat) : Int) = zmat S r q b := hO2.2 _ hm.2
    rw [zi_off (by omega), e1, e2]
    refine h _ (gg.up _ (by omega)) zi_at ?_ ?_ ?_
    · rw [zi_off (by omega)]; exact t2
    · rw [zi_off (by omega)]; exact t3
    · rw [zi_off (by omega)]; exact t4
  · intro n hn hj
    have hdr := zdk_r hv hr h1 h2 h3 n
    have hbr := zbst_r S r q b n
    have hrk := zrnk_r hv hr h1 h2 h3 n
    have hrb := zrnk_r hv hr h1 h2 h3 (zbst S r q b n - 1)
    refine rX4_find_62 C _ _ _ _ _ ?_
    rw [hO2.1, hd2 n hn]
    refine ⟨by constructor <;> omega, by constructor <;> omega, fun c => absurd c (by omega), fun _ => ⟨by omega, by constructor <;> omega, by constructor <;> omega, fun c => ?_, fun c => ?_⟩⟩
    · have hnf : ¬ zfit S r q b n := by unfold zfit; omega
      have hnx : zbst S r q b (n + 1) = zbst S r q b n := by
        rw [zbst, if_neg (fun z => hnf z.1)]
      rw [hnx] at hj; exact hj
    · have hf : zfit S r q b n := by unfold zfit; omega
      refine kX4_rankOf hO2 hv hr h1 h2 h3 hd2 hn ⟨by constructor <;> omega, by split <;> constructor <;> omega, fun c2 => ?_, fun c2 => kX4_rankOf hO2 hv hr h1 h2 h3 hd2 hn ?_⟩
      · have hnx : zbst S r q b (n + 1) = zbst S r q b n := by
          rw [zbst, if_neg]
          rintro ⟨-, z | z⟩
          · rw [if_pos z] at c2; omega
          · by_cases e : zbst S r q b n = 0
            · rw [if_pos e] at c2; omega
            · rw [if_neg e] at c2; omega
        rw [hnx] at hj; exact hj
      · have hnx : zbst S r q b (n + 1) = n + 1 := by
          rw [zbst, if_pos]
          refine ⟨hf, ?_⟩
          by_cases e : zbst S r q b n = 0
          · exact Or.inl e
          · rw [if_neg e] at c2; exact Or.inr (by omega)
        rw [hnx, if_neg (by omega)] at hj
        exact hj
/-- the order of ranks -/
theorem zrnk_lt {S : Int → Int} (hv : zSet S) (hr : zLr S) {r q b : Int} (h1 : zw4 r) (h2 : zw4 q) (h3 : zw4 b) (k l : Nat) :
    zrnk S r q b k < zrnk S r q b l ↔
      (let m := zab (zam (zO S k) 3 - zwsh S r q b) - zab (zam (zO S l) 3 - zwsh S r q b)
       m < 0 ∨ m = 0 ∧ (zam (zO S k) 3 - zam (zO S l) 3 < 0 ∨ zam (zO S k) 3 - zam (zO S l) 3 = 0 ∧ (zdk S r q b k - zdk S r q b l < 0 ∨ zdk S r q b k - zdk S r q b l = 0 ∧ ztot (zO S k) - ztot (zO S l) < 0))) := by
  have a1 := zam_r (zO S k) 3; have a2 := zam_r (zO S l) 3
  have d1 := zdk_r hv hr h1 h2 h3 k; have d2 := zdk_r hv hr h1 h2 h3 l
  have t1 := ztot_r (zO S k); have t2 := ztot_r (zO S l)
  have hw := (zwsh_r hv hr h1 h2 h3).2
  unfold zrnk
  dsimp only
  generalize zdk S r q b k = x at *
  generalize zdk S r q b l = y at *
  generalize ztot (zO S k) = t at *
  generalize ztot (zO S l) = u at *
  generalize zwsh S r q b = w at *
  generalize zam (zO S k) 3 = g at *
  generalize zam (zO S l) 3 = i at *
  have e1 : 0 ≤ zab (g - w) ∧ zab (g - w) ≤ 8 := by unfold zab; omega
  have e2 : 0 ≤ zab (i - w) ∧ zab (i - w) ≤ 8 := by unfold zab; omega
  generalize zab (g - w) = m at *
  generalize zab (i - w) = n at *
  constructor <;> intro h <;> omega
theorem kX11_isBetter {F : Int → zM → Prop} (hcd : zcds μ) (hl : zlaid μ S) (hv : zSet S) (hr : zLr S) {r q b : Int} (h1 : zw4 r) (h2 : zw4 q) (h3 : zw4 b) (hd : ∀ k : Nat, k < zON S → zi μ 165 k = zdk S r q b k) {k l : Nat} (hk : k < zON S) (hl2 : l < zON S) (ht : zrnk S r q b k < zrnk S r q b l → F 1 μ) (hf : ¬ zrnk S r q b k < zrnk S r q b l → F 0 μ) : qX11_isBetter G k l (zwsh S r q b) μ F := by
  have hN := zON_le S
  have ok := zO_mem hk
  have ol := zO_mem hl2
  have a1 := zam_r (zO S k) 3; have a2 := zam_r (zO S l) 3
  have d1 := zdk_r hv hr h1 h2 h3 k; have d2 := zdk_r hv hr h1 h2 h3 l
  have t1 := ztot_r (zO S k); have t2 := ztot_r (zO S l)
  have hw := (zwsh_r hv hr h1 h2 h3).2
  rw [zrnk_lt hv hr h1 h2 h3] at ht hf
  dsimp only at ht hf
  unfold zab at ht hf
  refine eX11_isBetter fun J C => rX11_isBetter_e C _ _ _ ?_
  have m71 : ∀ m : Int, zin m → (m < 0 → F 1 μ) → (0 < m → F 0 μ) → (m = 0 → ztot (zO S k) - ztot (zO S l) < 0 → F 1 μ) → (m = 0 → ¬ ztot (zO S k) - ztot (zO S l) < 0 → F 0 μ) → J 71 ([some (zR (some 153)), some (zI (k : Int)), some (zI (l : Int)), none, none, none, some (zI m)], [], μ, 0, 0) := by
    intro m hm j1 j2 j3 j4
    refine rX11_isBetter_71 C _ _ _ ⟨hm, fun c => ⟨fun c2 => j2 (by omega), fun c2 => j1 (by omega)⟩, fun c => ⟨by omega, ?_⟩⟩
    rw [hl.2.2.2 k hk, hcd _ ok.1.1 ok.1.2]
    refine ⟨ok.1, kX11_totalOf ⟨by omega, ?_⟩⟩
    rw [hl.2.2.2 l hl2, hcd _ ol.1.1 ol.1.2]
    exact ⟨ol.1, kX11_totalOf ⟨by constructor <;> omega, fun c2 => j4 c (by omega), fun c2 => j3 c (by omega)⟩⟩
  have ek : zi μ 163 k % 9 = zam (zO S k) 3 := by rw [hl.2.2.2 k hk]; exact (zam3 _).symm
  have el : zi μ 163 l % 9 = zam (zO S l) 3 := by rw [hl.2.2.2 l hl2]; exact (zam3 _).symm
  rw [ek, el, hl.2.2.2 k hk, hl.2.2.2 l hl2, hd k hk, hd l hl2]
  have e1 : 0 ≤ zab (zam (zO S k) 3 - zwsh S r q b) ∧ zab (zam (zO S k) 3 - zwsh S r q b) ≤ 8 := by unfold zab; omega
  have e2 : 0 ≤ zab (zam (zO S l) 3 - zwsh S r q b) ∧ zab (zam (zO S l) 3 - zwsh S r q b) ≤ 8 := by unfold zab; omega
  refine ⟨by omega, ⟨ok.1.1, by have := ok.1.2; omega⟩, by omega, ⟨ol.1.1, by have := ol.1.2; omega⟩, by constructor <;> omega, by constructor <;> omega, by constructor <;> omega, fun c => ⟨fun c2 => ?_, fun c2 => absurd c2 c⟩, fun c => ⟨by constructor <;> omega, fun c2 => ?_, fun c2 => ?_⟩⟩
  · exact m71 _ (by constructor <;> omega) (fun m => ht (by omega)) (fun m => hf (by omega)) (fun m => absurd m c) (fun m => absurd m c)
  · exact m71 _ (by constructor <;> omega) (fun m => ht (by omega)) (fun m => hf (by omega)) (fun m => absurd m c2) (fun m => absurd m c2)
  · exact m71 _ (by constructor <;> omega) (fun m => ht (by omega)) (fun m => hf (by omega)) (fun m m2 => ht (by omega)) (fun m m2 => hf (by omega))
theorem kX11_matchOf {F : Int → zM → Prop} (hcd : zcds μ) (hM : zsMM μ S) (hl : zlaid μ S) (hv : zSet S) (hr : zLr S) {r q b : Int} (h1 : zw4 r) (h2 : zw4 q) (h3 : zw4 b) (h : ∀ μ', zsm (fun b j => b = 165 ∨ (b = 153 ∧ 20 ≤ j ∧ j ≤ 23)) μ μ' → zi μ' 153 20 = zlst S r q b → zi μ' 153 21 = zlow S r q b (zON S) → zi μ' 153 22 = zhigh S r q b (zON S) → zi μ' 153 23 = zfts S r q b (zON S) → F (zcd (zmat S r q b)) μ') : qX11_matchOf G r q b μ F := by
  refine eX11_matchOf fun J C => rX11_matchOf_e C _ _ _ (kX11_leastOf hM hl hv hr h1 h2 h3 fun μ1 g1 g2 => ?_)
  have hN := zON_le S
  have hls := zlst_r hv hr h1 h2 h3
  have hsl := hv.2.2.1
  have gg0 : zsm (fun b j => b = 165 ∨ (b = 153 ∧ 20 ≤ j ∧ j ≤ 23)) μ (zup (zup (zup (zup μ1 153 20 (zlst S r q b)) 153 21 8) 153 22 0) 153 23 0) := ((((g1.mono (fun b j => by omega)).up _ (by omega)).up _ (by omega)).up _ (by omega)).up _ (by omega)
  refine znfor (N := zON S) (P := fun n => ∀ μ', zsm (fun b j => b = 165 ∨ (b = 153 ∧ 20 ≤ j ∧ j ≤ 23)) μ μ' → (∀ k : Nat, k < zON S → zi μ' 165 k = zdk S r q b k) → zi μ' 153 20 = zlst S r q b → zi μ' 153 21 = zlow S r q b n → zi μ' 153 22 = zhigh S r q b n → zi μ' 153 23 = zfts S r q b n → J 30 ([some (zR (some 153)), none, none, none, some (zI (n : Int)), none, none], [], μ', 0, 0)) ?_ ?_ _ gg0 (fun k hk => by rw [zi_off (by omega), zi_off (by omega), zi_off (by omega), zi_off (by omega)]; exact g2 k hk) (by rw [zi_off (by omega), zi_off (by omega), zi_off (by omega)]; exact zi_at) (by rw [zi_off (by omega), zi_off (by omega)]; exact zi_at) (by rw [zi_off (by omega)]; exact zi_at) zi_at
  · intro μ2 t1 hd t0 t2 t3 t4
    have hM2 := hM.sm t1 (by omega)
    have hl2 := hl.sm t1 (by omega) (by omega) (by omega) (by omega)
    have hcd2 := hcd.sm t1 (by omega)
    have hw := zwsh_r hv hr h1 h2 h3
    have hm := zmk_lt hv hr h1 h2 h3
    refine rX11_matchOf_30 C _ ?_
    rw [hl2.2.2.1, t2, t3, show zi μ2 154 705 = S 705 from hM2 1 (by decide) (by decide)]
    refine ⟨by constructor <;> omega, by constructor <;> omega, fun _ => ⟨by omega, ?_⟩, fun c => absurd (Int.le_refl _) c⟩
    refine znfor (N := zON S) (P := fun n => J 156 ([some (zR (some 153)), none, none, none, some (zI (zwsh S r q b)), some (zI ((zbst S r q b n : Nat) - 1 : Int)), some (zI (n : Int))], [], μ2, 0, 0)) ?_ ?_
    · have hb := (zbst_r S r q b (zON S)).1
      refine rX11_matchOf_156 C _ _ _ ?_
      have ez : ((zbst S r q b (zON S) : Nat) - 1 : Int) = ((zmk S r q b : Nat) : Int) := by unfold zmk; omega
      rw [hl2.2.2.1, ez, hl2.2.2.2 _ hm.2]
      have hp := zmat_pl hv hr h1 h2 h3
      refine ⟨by constructor <;> omega, by constructor <;> omega, fun _ => ⟨by omega, hp, ?_⟩, fun c => absurd (Int.le_refl _) c⟩
      rw [hcd2 (zO S (zmk S r q b)) hp.1 hp.2]
      exact h μ2 t1 t0 t2 t3 t4
    · intro n hn hj
      have hdr := zdk_r hv hr h1 h2 h3 n
      have hbr := zbst_r S r q b n
      refine rX11_matchOf_156 C _ _ _ ?_
      rw [hl2.2.2.1, hd n hn, t0, show zi μ2 154 706 = S 706 from hM2 2 (by decide) (by decide)]
      refine ⟨by constructor <;> omega, by constructor <;> omega, fun c => absurd c (by omega), fun _ => ⟨by omega, by constructor <;> omega, by constructor <;> omega, fun c => ⟨by constructor <;> omega, fun c2 => ?_, fun c2 => ?_⟩, fun c => ?_⟩⟩
      · have hnx : zbst S r q b (n + 1) = n + 1 := by
          rw [zbst, if_pos ⟨c, Or.inl (by omega)⟩]
        rw [hnx, show (((n + 1 : Nat) : Int) - 1) = n by omega] at hj
        exact hj
      · have ez : ((zbst S r q b n : Nat) - 1 : Int) = ((zbst S r q b n - 1 : Nat) : Int) := by omega
        rw [ez]
        refine kX11_isBetter hcd2 hl2 hv hr h1 h2 h3 hd hn (by omega) (fun c3 => ⟨by decide, fun q => absurd q (by decide), fun _ => ?_⟩) (fun c3 => ⟨by decide, fun _ => ?_, fun q => absurd rfl q⟩)
        · have hnx : zbst S r q b (n + 1) = n + 1 := by
            rw [zbst, if_pos ⟨c, Or.inr c3⟩]
          rw [hnx, show (((n + 1 : Nat) : Int) - 1) = n by omega] at hj
          exact hj
        · have hnx : zbst S r q b (n + 1) = zbst S r q b n := by
            rw [zbst, if_neg]
            rintro ⟨-, z | z⟩
            · omega
            · exact c3 z
          rw [hnx, ez] at hj
          exact hj
      · have hnf : ¬ zfit S r q b n := c
        have hnx : zbst S r q b (n + 1) = zbst S r q b n := by
          rw [zbst, if_neg (fun z => hnf z.1)]
        rw [hnx] at hj; exact hj
  · intro n hn hj μ2 t1 hd t0 t2 t3 t4
    have hM2 := hM.sm t1 (by omega)
    have hl2 := hl.sm t1 (by omega) (by omega) (by omega) (by omega)
    have hdr := zdk_r hv hr h1 h2 h3 n
    have hlr := zlow_r S r q b n
    have ham := zam_r (zO S n) 3
    have hpl := (zO_mem hn).1
    have e9 : zO S n % 9 = zam (zO S n) 3 := (zam3 _).symm
    refine rX11_matchOf_30 C _ ?_
    rw [hl2.2.2.1, hd n hn, t0, show zi μ2 154 706 = S 706 from hM2 2 (by decide) (by decide)]
    refine ⟨by constructor <;> omega, by constructor <;> omega, fun c => absurd c (by omega), fun _ => ⟨by omega, by constructor <;> omega, by constructor <;> omega, fun c => ?_, fun c => ?_⟩⟩
    · have hf : zfit S r q b n := c
      have hp2 : 0 ≤ zO S n ∧ zO S n < 2147483648 := ⟨hpl.1, by have := hpl.2; omega⟩
      rw [show zi (zup μ2 153 23 (zi μ2 153 23 + 1)) 163 n = zO S n by rw [zi_off (by omega)]; exact hl2.2.2.2 n hn, e9, show zi (zup μ2 153 23 (zi μ2 153 23 + 1)) 153 21 = zlow S r q b n by rw [zi_off (by omega)]; exact t2]
      rw [show zi (zup (zup μ2 153 23 (zi μ2 153 23 + 1)) 153 21 (min (zlow S r q b n) (zam (zO S n) 3))) 163 n = zO S n by rw [zi_off (by omega), zi_off (by omega)]; exact hl2.2.2.2 n hn, e9, show zi (zup (zup μ2 153 23 (zi μ2 153 23 + 1)) 153 21 (min (zlow S r q b n) (zam (zO S n) 3))) 153 22 = zhigh S r q b n by rw [zi_off (by omega), zi_off (by omega)]; exact t3]
      refine ⟨hp2, by constructor <;> omega, by constructor <;> omega, hp2, by constructor <;> omega, by constructor <;> omega, hj _ (((t1.up _ (by omega)).up _ (by omega)).up _ (by omega)) ?_ ?_ ?_ ?_ ?_⟩
      · intro k hk; rw [zi_off (by omega), zi_off (by omega), zi_off (by omega)]; exact hd k hk
      · rw [zi_off (by omega), zi_off (by omega), zi_off (by omega)]; exact t0
      · rw [zi_off (by omega), zi_at, zlow, if_pos hf]
      · rw [zi_at, zhigh, if_pos hf]
      · rw [zi_off (by omega), zi_off (by omega), zi_at, t4, zfts, if_pos hf]
    · have hnf : ¬ zfit S r q b n := c
      refine hj μ2 t1 hd t0 ?_ ?_ ?_
      · rw [zlow, if_neg hnf]; exact t2
      · rw [zhigh, if_neg hnf]; exact t3
      · rw [zfts, if_neg hnf]; exact t4
end
