/-! the reference goes through a text -/
theorem zaro_q {S : Int → Int} {a k : Int} (c : zaro (S (zba a + k))) (ho : zfok (S (zba a + k)) (zf1 S a k) (zf2 S a k)) : (zqp (S (zba a + k)) = 2 ∨ zqp (S (zba a + k)) = 3) ∧ S (zba a + k) ≠ 40 ∧ S (zba a + k + 1) ≠ 40 ∧ (zqp (S (zba a + k)) = 3 → S (zba a + k + 2) ≠ 40) := by
  obtain ⟨-, -, -, o4, o5, o6, o7⟩ := ho
  have i1 : zf1 S a k = zik (S (zba a + k + 1)) → 0 ≤ zf1 S a k → S (zba a + k + 1) ≠ 40 := fun e h z => by
    rw [e] at h
    have := zik_in h
    omega
  have i2 : zf2 S a k = zik (S (zba a + k + 2)) → 0 ≤ zf2 S a k → S (zba a + k + 2) ≠ 40 := fun e h z => by
    rw [e] at h
    have := zik_in h
    omega
  rcases c with c | c | c | c
  · have e2 : zqp (S (zba a + k)) = 2 := if_pos (Or.inl c)
    refine ⟨Or.inl e2, fun z => absurd (c.symm.trans z) (by decide), fun z => ?_, fun z => absurd (e2.symm.trans z) (by decide)⟩
    have h := (o5 c).1
    have e : zf1 S a k = S (zba a + k + 1) - 48 := by unfold zf1; rw [if_neg (fun q => absurd (c.symm.trans q) (by decide)), if_pos (Or.inr (Or.inr c))]
    omega
  · have e2 : zqp (S (zba a + k)) = 2 := if_pos (Or.inr c)
    have h := o4 (Or.inr (Or.inr (Or.inr (Or.inr (Or.inr (Or.inl c))))))
    have e : zf1 S a k = zik (S (zba a + k + 1)) := by unfold zf1; rw [if_neg (fun q => absurd (c.symm.trans q) (by decide)), if_neg (fun q => by rcases q with q | q | q <;> exact absurd (c.symm.trans q) (by decide))]
    exact ⟨Or.inl e2, fun z => absurd (c.symm.trans z) (by decide), i1 e h.1, fun z => absurd (e2.symm.trans z) (by decide)⟩
  · have e2 : zqp (S (zba a + k)) = 3 := if_neg (fun q => by rcases q with q | q <;> exact absurd (c.symm.trans q) (by decide))
    have h := o4 (Or.inr (Or.inr (Or.inr (Or.inr (Or.inr (Or.inr (Or.inl c)))))))
    have hs := o6 (Or.inr (Or.inr (Or.inr c)))
    have e : zf1 S a k = zik (S (zba a + k + 1)) := by unfold zf1; rw [if_neg (fun q => absurd (c.symm.trans q) (by decide)), if_neg (fun q => by rcases q with q | q | q <;> exact absurd (c.symm.trans q) (by decide))]
    have f2d : zf2 S a k = S (zba a + k + 2) - 48 := by unfold zf2; rw [if_neg (fun q => by rcases q with q | q <;> exact absurd (c.symm.trans q) (by decide))]
    exact ⟨Or.inr e2, fun z => absurd (c.symm.trans z) (by decide), i1 e h.1, fun _ z => by omega⟩
  · have e2 : zqp (S (zba a + k)) = 3 := if_neg (fun q => by rcases q with q | q <;> exact absurd (c.symm.trans q) (by decide))
    have h := o4 (Or.inr (Or.inr (Or.inr (Or.inr (Or.inr (Or.inr (Or.inr c)))))))
    have hs := o7 (Or.inr c)
    have e : zf1 S a k = zik (S (zba a + k + 1)) := by unfold zf1; rw [if_neg (fun q => absurd (c.symm.trans q) (by decide)), if_neg (fun q => by rcases q with q | q | q <;> exact absurd (c.symm.trans q) (by decide))]
    have f2i : zf2 S a k = zik (S (zba a + k + 2)) := by unfold zf2; rw [if_pos (Or.inr c)]
    exact ⟨Or.inr e2, fun z => absurd (c.symm.trans z) (by decide), i1 e h.1, fun _ => i2 f2i hs.1⟩
/-- a step without brackets is one, two or three signs wide -/
theorem zwd_c {c : Int} (h : zkin c) (h1 : ¬ zaro c) (h2 : c ≠ 112) : (c ≠ 103 ∧ c ≠ 117 ∧ c ≠ 104 ∧ c ≠ 97 ∧ c ≠ 115 ∧ c ≠ 119 ∧ c ≠ 120 ∧ zwd c = 1) ∨ ((c = 103 ∨ c = 117 ∨ c = 104) ∧ zwd c = 2) ∨ ((c = 97 ∨ c = 115 ∨ c = 119 ∨ c = 120) ∧ zwd c = 3) := by
  rcases h with rfl | rfl | rfl | rfl | rfl | rfl | rfl | rfl | rfl | h | h
  · exact Or.inl (by decide)
  · exact Or.inl (by decide)
  · exact Or.inr (Or.inl (by decide))
  · exact Or.inr (Or.inl (by decide))
  · exact Or.inr (Or.inr (by decide))
  · exact Or.inr (Or.inr (by decide))
  · exact Or.inr (Or.inr (by decide))
  · exact Or.inr (Or.inl (by decide))
  · exact Or.inr (Or.inr (by decide))
  · exact absurd h h2
  · exact absurd h h1
section
variable {G : zG} {μ : zM} {S : Int → Int}
theorem kX11_goes (hz : zSx S) (hcv : zCv S) : ∀ (f D dd : Nat) {F : zM → Prop} {J : Nat → zS → Prop} {μ : zM} {a k t : Int} {A : Int → Int}, zJ G true (10 + dd) 0 0 mX11_goes (zKV F) J → zWF S f D a k t → zisA μ 164 A → zAmt A → zMs μ S → (0 ≤ a ∧ a ≤ 5) → 0 ≤ k → t ≤ 40 → 2 * D + 1 ≤ dd → (∀ μ', zsm (fun b _ => b = 164) μ μ' → zisA μ' 164 (zgo S f a k t A) → F μ') → J 13 ([some (zR (some 153)), some (zI a), none, some (zI t), some (zI (zba a)), some (zI k), none, none, none, none, none], [], μ, 0, 0) := by
  intro f
  induction f with
  | zero => intro D dd F J μ a k t A C h; exact h.elim
  | succ f ih =>
    intro D dd F J μ a k t A C hw hA hm hM ha hk ht hdd h
    rw [zgo] at h
    have hba : zba a = 360 + 40 * a := rfl
    rcases hw with hw | ⟨w1, w2, w3, w4, w5, w6⟩
    · rw [if_pos (by omega)] at h
      exact rX11_goes_13 C _ _ _ _ ⟨by constructor <;> omega, by constructor <;> omega, fun _ => h μ (zsm.refl _ _) hA, fun c => absurd (by omega) c⟩
    rw [if_neg (by omega)] at h
    have z0 := hz (zba a + k) (by omega) (by omega)
    -- a part of the text done by a call of its own
    have call : ∀ (D' d' : Nat) (a' k' t' : Int) (B : Int → Int), 2 * D' + 1 ≤ d' → (0 ≤ a' ∧ a' ≤ 5) → 0 ≤ k' → t' ≤ 40 → zWF S f D' a' k' t' → zAmt B → ∀ μ', zsm (fun b _ => b = 164) μ μ' → zisA μ' 164 B → ∀ F2 : zM → Prop, (∀ μ'', zsm (fun b _ => b = 164) μ' μ'' → zisA μ'' 164 (zgo S f a' k' t' B) → F2 μ'') → qX11_goes G d' a' k' t' μ' F2 := by
      intro D' d' a' k' t' B hd' ha' hk' ht' hw' hB μ' g hA' F2 h2
      exact eX11_goes fun J2 C2 => rX11_goes_e C2 _ _ _ (ih D' d' C2 hw' hA' hB (hM.sm g (by omega)) ha' hk' ht' hd' h2)
    refine rX11_goes_13 C _ _ _ _ ⟨by constructor <;> omega, by constructor <;> omega, fun c => absurd c (by omega), fun _ => ⟨by omega, ?_⟩⟩
    rw [hM (zba a + k) (by omega) (by omega)]
    refine kX11_isAround z0 (fun c => ⟨by decide, fun q => absurd q (by decide), fun _ => ?_⟩) (fun c => ⟨by decide, fun _ => ?_, fun q => absurd rfl q⟩)
    · rw [if_pos c] at h
      obtain ⟨w7, w8, w9, w10, ⟨D', eD, w11⟩, w12⟩ := w4 c
      obtain ⟨hq, n0, n1, n2⟩ := zaro_q c w3
      have tr := ztmo_r hm w3 (Or.inl c)
      have hgm : ∀ i, zAmt (zit (zgo S f a (k + zqp (S (zba a + k)) + 1) (zcl1 S a k)) i A) := fun i => zit_am (fun B hB => zgo_am hcv f D' _ _ _ B w11 hB) i A hm
      -- at the bracket
      have atq : J 43 ([some (zR (some 153)), some (zI a), none, some (zI t), some (zI (zba a)), some (zI k), some (zI (S (zba a + k))), some (zI (k + zqp (S (zba a + k)))), none, none, none], [], μ, 0, 0) := by
        refine rX11_goes_43 C _ _ _ _ _ _ ⟨by omega, ?_⟩
        rw [hM (zba a + (k + zqp (S (zba a + k)))) (by omega) (by omega), show zba a + (k + zqp (S (zba a + k))) = zba a + k + zqp (S (zba a + k)) by omega, w7]
        refine ⟨by decide, fun _ => kX11_closing hM hz (by omega) (by omega) (by show zcl1 S a k ≤ 41; omega) (kX11_timesOf hA hm hM hz ha ⟨hk, by omega⟩ c w3 ?_), fun q => absurd rfl q⟩
        obtain ⟨T, eT⟩ : ∃ T : Nat, (T : Int) = ztmo (S (zba a + k)) (zf1 S a k) (zf2 S a k) A := ⟨(ztmo (S (zba a + k)) (zf1 S a k) (zf2 S a k) A).toNat, by omega⟩
        rw [← eT] at h tr ⊢
        rw [Int.toNat_natCast] at h
        refine znfor (N := T) (P := fun i => ∀ μ', zsm (fun b _ => b = 164) μ μ' → zisA μ' 164 (zit (zgo S f a (k + zqp (S (zba a + k)) + 1) (zcl1 S a k)) i A) → J 95 ([some (zR (some 153)), some (zI a), none, some (zI t), some (zI (zba a)), none, none, some (zI (k + zqp (S (zba a + k)))), some (zI (zcl1 S a k)), some (zI (T : Int)), some (zI (i : Int))], [], μ', 0, 0)) ?_ ?_ μ (zsm.refl _ _) hA
        · intro μ1 g1 t1
          exact rX11_goes_95 C _ _ _ _ _ _ _ ⟨by constructor <;> omega, by constructor <;> omega, fun _ => ih D dd C w12 t1 (hgm T) (hM.sm g1 (by omega)) ha (by omega) ht hdd (fun μ2 g2 t2 => h μ2 (g1.trans g2) t2), fun q => absurd (Int.le_refl _) q⟩
        · intro i hi hj μ1 g1 t1
          exact rX11_goes_95 C _ _ _ _ _ _ _ ⟨by constructor <;> omega, by constructor <;> omega, fun q => absurd q (by omega), fun _ => ⟨dd - 1, by omega, call D' (dd - 1) _ _ _ _ (by omega) ha (by omega) (by omega) w11 (hgm i) μ1 g1 t1 _ (fun μ2 g2 t2 => hj μ2 (g1.trans g2) t2)⟩⟩
      -- ahead of it
      have skip : ∀ x, 0 ≤ x → x ≤ k + 2 → S (zba a + x) ≠ 40 → J 43 ([some (zR (some 153)), some (zI a), none, some (zI t), some (zI (zba a)), some (zI k), some (zI (S (zba a + k))), some (zI (x + 1)), none, none, none], [], μ, 0, 0) → J 43 ([some (zR (some 153)), some (zI a), none, some (zI t), some (zI (zba a)), some (zI k), some (zI (S (zba a + k))), some (zI x), none, none, none], [], μ, 0, 0) := by
        intro x x0 x1 e hj
        refine rX11_goes_43 C _ _ _ _ _ _ ⟨by omega, ?_⟩
        rw [hM (zba a + x) (by omega) (by omega)]
        exact ⟨hz _ (by omega) (by omega), fun q => absurd q e, fun _ => hj⟩
      refine skip k hk (by omega) n0 (skip (k + 1) (by omega) (by omega) (by rw [← Int.add_assoc]; exact n1) ?_)
      rcases hq with e | e
      · rw [e] at atq
        rw [show k + 1 + 1 = k + 2 by omega]; exact atq
      · have n2 := n2 e
        rw [e] at atq
        refine skip (k + 1 + 1) (by omega) (by omega) (by rw [show zba a + (k + 1 + 1) = zba a + k + 2 by omega]; exact n2) ?_
        rw [show k + 1 + 1 + 1 = k + 3 by omega]; exact atq
    · rw [if_neg c] at h
      by_cases c2 : S (zba a + k) = 112
      · rw [if_pos c2] at h
        obtain ⟨w7, w8⟩ := w5 c2
        have nxt : ∀ (B : Int → Int), zAmt B → (∀ μ', zsm (fun b _ => b = 164) μ μ' → zisA μ' 164 (zgo S f a (k + 1) t B) → F μ') → ∀ μ8, zsm (fun b _ => b = 164) μ μ8 → zisA μ8 164 B → J 13 ([some (zR (some 153)), some (zI a), none, some (zI t), some (zI (zba a)), some (zI (k + 1)), none, none, none, none, none], [], μ8, 0, 0) := fun B hB hh μ8 g8 t8 =>
          ih D dd C w8 t8 hB (hM.sm g8 (by omega)) ha (by omega) ht hdd (fun μ2 g2 t2 => hh μ2 (g8.trans g2) t2)
        have fin : ∀ μ8, J 13 ([some (zR (some 153)), some (zI a), none, some (zI t), some (zI (zba a)), some (zI (k + 1)), none, none, none, none, none], [], μ8, 0, 0) → zin (S (zba a + k)) ∧ ((S (zba a + k) = 103 → J 13 ([some (zR (some 153)), some (zI a), none, some (zI t), some (zI (zba a)), some (zI (k + 2)), none, none, none, none, none], [], μ8, 0, 0)) ∧ (¬ (S (zba a + k) = 103) → ((S (zba a + k) = 117 → J 13 ([some (zR (some 153)), some (zI a), none, some (zI t), some (zI (zba a)), some (zI (k + 2)), none, none, none, none, none], [], μ8, 0, 0)) ∧ (¬ (S (zba a + k) = 117) → ((¬ S (zba a + k) = 104 → ((S (zba a + k) = 97 → J 13 ([some (zR (some 153)), some (zI a), none, some (zI t), some (zI (zba a)), some (zI (k + 3)), none, none, none, none, none], [], μ8, 0, 0)) ∧ (¬ (S (zba a + k) = 97) → ((S (zba a + k) = 115 → J 13 ([some (zR (some 153)), some (zI a), none, some (zI t), some (zI (zba a)), some (zI (k + 3)), none, none, none, none, none], [], μ8, 0, 0)) ∧ (¬ (S (zba a + k) = 115) → ((S (zba a + k) = 119 → J 13 ([some (zR (some 153)), some (zI a), none, some (zI t), some (zI (zba a)), some (zI (k + 3)), none, none, none, none, none], [], μ8, 0, 0)) ∧ (¬ (S (zba a + k) = 119) → ((¬ S (zba a + k) = 120 → J 13 ([some (zR (some 153)), some (zI a), none, some (zI t), some (zI (zba a)), some (zI (k + 1)), none, none, none, none, none], [], μ8, 0, 0)) ∧ (S (zba a + k) = 120 → J 13 ([some (zR (some 153)), some (zI a), none, some (zI t), some (zI (zba a)), some (zI (k + 3)), none, none, none, none, none], [], μ8, 0, 0)))))))))) ∧ (S (zba a + k) = 104 → J 13 ([some (zR (some 153)), some (zI a), none, some (zI t), some (zI (zba a)), some (zI (k + 2)), none, none, none, none, none], [], μ8, 0, 0))))))) := fun μ8 hj =>
          ⟨z0, fun q => absurd (c2.symm.trans q) (by decide), fun _ => ⟨fun q => absurd (c2.symm.trans q) (by decide), fun _ => ⟨fun _ => ⟨fun q => absurd (c2.symm.trans q) (by decide), fun _ => ⟨fun q => absurd (c2.symm.trans q) (by decide), fun _ => ⟨fun q => absurd (c2.symm.trans q) (by decide), fun _ => ⟨fun _ => hj, fun q => absurd (c2.symm.trans q) (by decide)⟩⟩⟩⟩, fun q => absurd (c2.symm.trans q) (by decide)⟩⟩⟩
        refine ⟨dd - 1, by omega, eX11_does fun J2 C2 => rX11_does_e C2 _ _ _ ⟨z0, fun q => absurd (c2.symm.trans q) (by decide), fun q => absurd (c2.symm.trans q) (by decide), fun _ => ⟨by constructor <;> omega, fun c3 => ?_, fun c3 => ?_⟩, fun q => absurd (c2.symm.trans q) (by decide), fun q => absurd (c2.symm.trans q) (by decide), fun q => absurd c2 q.2.2.1⟩⟩
        · rw [if_pos c3] at h
          exact fin μ (nxt A hm h μ (zsm.refl _ _) hA)
        · rw [if_neg c3] at h
          obtain ⟨hs, D', eD, w9⟩ := w7 (by omega)
          rw [hM (600 + a - 1) (by omega) (by omega)]
          refine ⟨by omega, dd - 2, by omega, call D' (dd - 2) _ _ _ _ (by omega) (by omega) (by decide) hs.2 w9 hm μ (zsm.refl _ _) hA _ (fun μ2 g2 t2 => ?_)⟩
          exact fin μ2 (nxt _ (zgo_am hcv f D' _ _ _ A w9 hm) h μ2 g2 t2)
      · rw [if_neg c2] at h
        obtain ⟨w7, w8⟩ := w6 c c2
        refine ⟨dd - 1, by omega, kX11_does1 hA hm hM hz hcv ha ⟨hk, by omega⟩ w2 c c2 w3 fun μ8 g8 t8 => ?_⟩
        have hj : J 13 ([some (zR (some 153)), some (zI a), none, some (zI t), some (zI (zba a)), some (zI (k + zwd (S (zba a + k)))), none, none, none, none, none], [], μ8, 0, 0) := ih D dd C w8 t8 (zon_am hm hcv w3) (hM.sm g8 (by omega)) ha (by unfold zwd; split <;> (try split) <;> omega) ht hdd (fun μ2 g2 t2 => h μ2 (g8.trans g2) t2)
        have h9 := zwd_c w2 c c2
        clear w2 w3 w4 w5 w6 h ih call c c2 w7 w8
        generalize S (zba a + k) = v at *
        rcases h9 with ⟨d1, d2, d3, d4, d5, d6, d7, e⟩ | ⟨d, e⟩ | ⟨d, e⟩
        · rw [e] at hj
          exact ⟨z0, fun q => absurd q d1, fun _ => ⟨fun q => absurd q d2, fun _ => ⟨fun _ => ⟨fun q => absurd q d4, fun _ => ⟨fun q => absurd q d5, fun _ => ⟨fun q => absurd q d6, fun _ => ⟨fun _ => hj, fun q => absurd q d7⟩⟩⟩⟩, fun q => absurd q d3⟩⟩⟩
        · rw [e] at hj
          exact ⟨z0, fun _ => hj, fun n1 => ⟨fun _ => hj, fun n2 => ⟨fun n3 => by rcases d with d | d | d; exact absurd d n1; exact absurd d n2; exact absurd d n3, fun _ => hj⟩⟩⟩
        · rw [e] at hj
          exact ⟨z0, fun q => by rcases d with d | d | d | d <;> exact absurd (d.symm.trans q) (by decide), fun _ => ⟨fun q => by rcases d with d | d | d | d <;> exact absurd (d.symm.trans q) (by decide), fun _ => ⟨fun _ => ⟨fun _ => hj, fun n1 => ⟨fun _ => hj, fun n2 => ⟨fun _ => hj, fun n3 => ⟨fun n4 => by rcases d with d | d | d | d; exact absurd d n1; exact absurd d n2; exact absurd d n3; exact absurd d n4, fun _ => hj⟩⟩⟩⟩, fun q => by rcases d with d | d | d | d <;> exact absurd (d.symm.trans q) (by decide)⟩⟩⟩
end
