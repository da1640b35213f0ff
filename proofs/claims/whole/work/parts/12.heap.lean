/-- kind and size of the thing at a place; ph: the things that are made once stand, and their places are known -/
def zs (ph : Bool) (μ : zM) (a : Nat) : Nat × Nat := if a < 182 then (if ph then zsTab a else zsTabR a) else zh μ a
def zfv (G : zG) (μ : zM) (a : Nat) (sealed : Bool) (k j : Nat) : Value := match zft k j with
  | 0 => .int (Int32.ofInt (zi μ a j))
  | 1 => .long (Int64.ofInt (zi μ a j))
  | _ => va_rf ((match sealed, zoff k j with
    | true, some d => some (a + d)
    | _, _ => zr μ a j).map (zad G))
def zel (μ : zM) (a : Nat) (k : Nat) (j : Nat) : Option Nat := if k = 46 then some (a + 1 + 8 * j) else if k = 47 then some (a + 34 + 8 * j) else zr μ a j
def zcell (G : zG) (ph : Bool) (μ : zM) (a : Nat) : va_E := match zs ph μ a with
  | (k, n) => if k < 12 then .inr (k, (List.range n).map (zfv G μ a false k)) else if k < 32 then .inr (k - 20, (List.range n).map (zfv G μ a true (k - 20)))
    else if k = 41 then .inl (zcA G 1, n, .inr (.inl (fun j => Int64.ofInt (zi μ a j))))
    else if k < 44 then .inl (zcA G (k - 40), n, .inl (fun j => Int32.ofInt (zi μ a j)))
    else .inl (zcA G (if k = 45 then 5 else 4), n, .inr (.inr (.inr (.inr (fun j => (zel μ a k j).map (zad G))))))
def zW (G : zG) (ph : Bool) (μ : zM) : va_W := (List.range (zn μ)).map (fun a => (zad G a, zcell G ph μ a))
theorem zW_get {G : zG} {ph : Bool} {μ : zM} {a : Nat} (h : a < zn μ) : (zW G ph μ)[a]? = some (zad G a, zcell G ph μ a) := by
  unfold zW
  rw [List.getElem?_map, List.getElem?_range h]
  rfl
theorem zW_len (G : zG) (ph : Bool) (μ : zM) : (zW G ph μ).length = zn μ := by simp [zW]
/-- one thing changed -/
theorem zW_set {G : zG} {ph : Bool} {μ μ' : zM} {a : Nat} (hn : zn μ' = zn μ) (ho : ∀ b, b < zn μ → b ≠ a → zcell G ph μ' b = zcell G ph μ b) : zW G ph μ' = (zW G ph μ).set a (zad G a, zcell G ph μ' a) := by
  apply List.ext_getElem?
  intro b
  rw [List.getElem?_set]
  by_cases hb : b < zn μ
  · rw [zW_get (by rw [hn]; exact hb)]
    by_cases he : a = b
    · subst he; simp [zW_len, hb]
    · rw [if_neg he, zW_get hb, ho b hb (fun h => he h.symm)]
  · have h1 : (zW G ph μ')[b]? = none := List.getElem?_eq_none (by rw [zW_len, hn]; omega)
    have h2 : (zW G ph μ)[b]? = none := List.getElem?_eq_none (by rw [zW_len]; omega)
    rw [h1]
    by_cases he : a = b
    · subst he; simp [zW_len, hb]
    · rw [if_neg he, h2]
/-- one thing more -/
theorem zW_push {G : zG} {ph : Bool} {μ μ' : zM} (hn : zn μ' = zn μ + 1) (ho : ∀ b, b < zn μ → zcell G ph μ' b = zcell G ph μ b) : zW G ph μ' = zW G ph μ ++ [(zad G (zn μ), zcell G ph μ' (zn μ))] := by
  unfold zW
  rw [hn, List.range_succ, List.map_append]
  congr 1
  apply List.map_congr_left
  intro b hb
  rw [ho b (List.mem_range.mp hb)]
def zTys (G : zG) : List (ClassId × FieldType) := [(zcA G 0, .int), (zcA G 1, .long), (zcA G 2, .boolean), (zcA G 3, .byte), (zcA G 4, .object RX7), (zcA G 5, .object RX8)]
/-- static rows: 0 .. 11 of the classes, 40 the script -/
def zst (G : zG) : Nat → Nat × (Nat → Int) := fun k => match k with
  | 40 => zscr G
  | k => let l := ([[1000, 100, 10, 1], [729, 81, 9, 1], [27, 9, 3, 1], [0, 1, 2, 3, 6, 9, 18, 27, 54], [8, 0, 0, 0, 1, 1, 1], [32, 4, 99999, 8, 9, 9, 9], [32, 2, 0, 8, 1, 1, 1], [27, 9, 3, 1], [1000, 100, 10, 1], [0, 1, 2, 3, 6, 9, 18, 27, 54], [8, 0, 0, 0, 1, 1, 1], [32, 4, 99999, 8, 9, 9, 9]] : List (List Int)).getD k []
    (l.length, fun j => l.getD j 0)
def zsn : Nat → String × String := fun k => ([(RX10, "CODE_WORTH"), (RX10, "PLACE_WORTH"), (RX10, "PATCH_WORTH"), (RX10, "PLAIN_PATCHES"), (RX10, "LEAST_SETTING"), (RX10, "MOST_SETTING"), (RX10, "FIRST_SETTING"), (RX11, "POW"), (RX11, "TEN"), (RX11, "PLAIN"), (RX11, "LOWEST"), (RX11, "HIGHEST")] : List (String × String)).getD k ("", "")
/-- String constants: whose, where in its file, the text; their signs -/
def zso : Nat → String × Nat × String := fun k => ([(RX9, 56, ""), (RX9, 70, "2222999999"), (RX9, 36, "*"), (RX9, 38, "*4"), (RX9, 40, "*8"), (RX9, 42, "*k8"), (RX9, 44, "*k"), (RX9, 46, "*kk"), (RX9, 48, "*9("), (RX9, 50, "*k("), (RX9, 52, "*k8("), (RX9, 54, "*kk("), (RX9, 58, "*2222999999"), (RX9, 60, "*2222"), (RX9, 62, "*99"), (RX9, 64, "*9"), (RX9, 66, "*29"), (RX9, 68, "*h999999"), (RX9, 29, "cmyk"), (RX10, 109, "2222999999")] : List (String × Nat × String)).getD k (RX9, 56, "")
def zstx : Nat → List Int := fun k => ([[], [50, 50, 50, 50, 57, 57, 57, 57, 57, 57], [42], [42, 52], [42, 56], [42, 107, 56], [42, 107], [42, 107, 107], [42, 57, 40], [42, 107, 40], [42, 107, 56, 40], [42, 107, 107, 40], [42, 50, 50, 50, 50, 57, 57, 57, 57, 57, 57], [42, 50, 50, 50, 50], [42, 57, 57], [42, 57], [42, 50, 57], [42, 104, 57, 57, 57, 57, 57, 57], [99, 109, 121, 107], [50, 50, 50, 50, 57, 57, 57, 57, 57, 57]] : List (List Int)).getD k []
def zTxt (G : zG) (U : State) (H : Heap) : Prop := va_Z "java/lang/String" "COMPACT_STRINGS" "Z" (.int 1) (zA G) U H ∧ (va_Z "jdk/internal/util/Preconditions" "SIOOBE_FORMATTER" "Ljava/util/function/BiFunction;" .null (zA G) U H ∨ va_Z "jdk/internal/util/Preconditions" "SIOOBE_FORMATTER" "Ljava/util/function/BiFunction;" (.ref (zsa G 59)) (zA G) U H) ∧ ∀ i, i < 20 → va_O "java/lang/String" (zsa G (60 + i)) (zA G) U H ∧ va_OF "java/lang/String" "coder" "B" (.int 0) (zsa G (60 + i)) (zA G) U H ∧ va_OF "java/lang/String" "value" "[B" (.ref (zsa G (80 + i))) (zsa G (60 + i)) (zA G) U H ∧ va_T .byte (zsa G (80 + i)) (zstx i).length (fun j => .int (Int32.ofInt ((zstx i).getD j 0))) (zA G) U H
theorem zTxt.moved {G : zG} {u U : State} {H : Heap} (hvm : u.vm.Alike U.vm) (h : zTxt G u H) : zTxt G U H := ⟨va_Z.moved hvm h.1, h.2.1.elim (fun z => Or.inl (va_Z.moved hvm z)) (fun z => Or.inr (va_Z.moved hvm z)), fun i hi => ⟨va_O.moved hvm (h.2.2 i hi).1, va_OF.moved hvm (h.2.2 i hi).2.1, va_OF.moved hvm (h.2.2 i hi).2.2.1, va_T.moved hvm (h.2.2 i hi).2.2.2⟩⟩
theorem zTxt.kept {G : zG} {U : State} {H H1 : Heap} (h : zTxt G U H) (hq : ∀ a : Nat, a < H.size → ¬ zA G a → H1[a]? = H[a]?) : zTxt G U H1 := ⟨va_Z.kept h.1 hq, h.2.1.elim (fun z => Or.inl (va_Z.kept z hq)) (fun z => Or.inr (va_Z.kept z hq)), fun i hi => ⟨(h.2.2 i hi).1.kept hq, (h.2.2 i hi).2.1.kept hq, (h.2.2 i hi).2.2.1.kept hq, (h.2.2 i hi).2.2.2.kept hq⟩⟩
def zStat (G : zG) (U : State) (H : Heap) : Prop := (∀ k, k < 12 → va_Z (zsn k).1 (zsn k).2 "[I" (.ref (zsa G k)) (zA G) U H) ∧ (∀ k, k < 12 ∨ k = 40 → va_T .int (zsa G k) (zst G k).1 (fun j => .int (Int32.ofInt ((zst G k).2 j))) (zA G) U H) ∧ zTxt G U H
theorem zStat.moved {G : zG} {u U : State} {H : Heap} (hvm : u.vm.Alike U.vm) (h : zStat G u H) : zStat G U H := ⟨fun k hk => va_Z.moved hvm (h.1 k hk), fun k hk => va_T.moved hvm (h.2.1 k hk), zTxt.moved hvm h.2.2⟩
theorem zStat.kept {G : zG} {U : State} {H H1 : Heap} (h : zStat G U H) (hq : ∀ a : Nat, a < H.size → ¬ zA G a → H1[a]? = H[a]?) : zStat G U H1 := ⟨fun k hk => va_Z.kept (h.1 k hk) hq, fun k hk => va_T.kept (h.2.1 k hk) hq, zTxt.kept h.2.2 hq⟩
/-- the heap holds the memory -/
def zH (G : zG) (ph : Bool) (μ : zM) (H : Heap) : Prop := va_P (zD G) vwCl (zW G ph μ) H ∧ va_D (zA G) (zW G ph μ) ∧ (∀ j, zad G (zn μ + j) = H.size + j) ∧ zs0 G ≤ H.size ∧ (ph = true → 182 ≤ zn μ)
/-- words on links between nest mates -/
def zisN : Cond → Bool
  | .fieldLinkNest _ _ _ _ _ _ => true
  | .methodLinkNest _ _ _ _ => true
  | .arrayOver (.object _) => true
  | _ => false
def zNs (G : zG) (U : State) : Prop := (∀ w ∈ lw_tbl, zisN w = true → va_Nw w U) ∧ ∀ i, i < 20 → vk_R (zso i).1 (zso i).2.1 (zso i).2.2 (zsa G (60 + i)) U
theorem zNs.warm {G : zG} {s U : State} (hW : s.WarmedH U.vm) (h : zNs G s) : zNs G U := by
  refine ⟨fun w hw hn => ?_, fun i hi => (h.2 i hi).warm hW⟩
  have h1 := h.1 w hw hn
  cases w with
  | fieldLinkNest a b c d e f => exact va_Nw.warmF hW h1
  | methodLinkNest a b c d => exact va_Nw.warmM hW h1
  | arrayOver t =>
    cases t with
    | object C => exact va_AO.moved hW.alike h1
    | _ => cases hn
  | _ => cases hn
theorem zNs.same {G : zG} {u U : State} (hv : u.vm = U.vm) (h : zNs G u) : zNs G U := by
  refine ⟨fun w hw hn => ?_, fun i hi => vk_R.same hv.symm (h.2 i hi)⟩
  have h1 := h.1 w hw hn
  cases w with
  | fieldLinkNest a b c d e f => exact va_Nw.same rfl hv h1
  | methodLinkNest a b c d => exact va_Nw.same rfl hv h1
  | arrayOver t =>
    cases t with
    | object C => exact va_AO.moved (by rw [hv]; exact Vm.Alike.refl _) h1
    | _ => cases hn
  | _ => cases hn
def zRel (G : zG) (ph : Bool) (μ : zM) (U : State) : Prop := zH G ph μ U.heap ∧ va_K (zD G) vwCl (zTys G) U ∧ zStat G U U.heap ∧ zNs G U
theorem zRel.same {G : zG} {ph : Bool} {μ : zM} {u U : State} (hh : U.heap = u.heap) (hv : u.vm = U.vm) (h : zRel G ph μ u) : zRel G ph μ U := ⟨by rw [hh]; exact h.1, h.2.1.moved (by rw [hv]; exact Vm.Alike.refl _), by rw [hh]; exact h.2.2.1.moved (by rw [hv]; exact Vm.Alike.refl _), h.2.2.2.same hv⟩
/-- what stands at a place -/
def zok (ph : Bool) (μ : zM) (a : Nat) (q : Nat × Nat) : Prop := (a < zn μ ∨ (ph = true ∧ a < 182)) ∧ zs ph μ a = q
theorem zok.lt {G : zG} {ph : Bool} {μ : zM} {H : Heap} {a : Nat} {q : Nat × Nat} (h : zok ph μ a q) (hH : zH G ph μ H) : a < zn μ := by
  rcases h.1 with h1 | ⟨h1, h2⟩
  · exact h1
  · have := hH.2.2.2.2 h1; omega
theorem zi_up (μ : zM) (a : Nat) (i v : Int) (b : Nat) (j : Int) : zi (zup μ a i v) b j = if b = a ∧ j = i then v else zi μ b j := rfl
theorem zr_up (μ : zM) (a : Nat) (i v : Int) (b : Nat) (j : Int) : zr (zup μ a i v) b j = zr μ b j := rfl
theorem zi_upr (μ : zM) (a : Nat) (i : Int) (v : Option Nat) (b : Nat) (j : Int) : zi (zupr μ a i v) b j = zi μ b j := rfl
theorem zr_upr (μ : zM) (a : Nat) (i : Int) (v : Option Nat) (b : Nat) (j : Int) : zr (zupr μ a i v) b j = if b = a ∧ j = i then v else zr μ b j := rfl
theorem zn_up (μ : zM) (a : Nat) (i v : Int) : zn (zup μ a i v) = zn μ := rfl
theorem zn_upr (μ : zM) (a : Nat) (i : Int) (v : Option Nat) : zn (zupr μ a i v) = zn μ := rfl
theorem zh_up (μ : zM) (a : Nat) (i v : Int) : zh (zup μ a i v) = zh μ := rfl
theorem zh_upr (μ : zM) (a : Nat) (i : Int) (v : Option Nat) : zh (zupr μ a i v) = zh μ := rfl
theorem zs_up (ph : Bool) (μ : zM) (a : Nat) (i v : Int) (b : Nat) : zs ph (zup μ a i v) b = zs ph μ b := rfl
theorem zs_upr (ph : Bool) (μ : zM) (a : Nat) (i : Int) (v : Option Nat) (b : Nat) : zs ph (zupr μ a i v) b = zs ph μ b := rfl
