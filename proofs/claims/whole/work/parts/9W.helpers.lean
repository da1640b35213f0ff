/-! the law's light, bent, row -/
def mL_light : zMeth := (yL_light, cL_light, 5, some .int)
def mL_bent : zMeth := (yL_bent, cL_bent, 5, some .int)
def mL_row : zMeth := (yL_row, cL_row, 4, some .int)
abbrev zh_light : zHt := [(0, 10, 13, 13)]
abbrev zh_row : zHt := [(0, 8, 11, 13)]
theorem zwd1206 : (Jvm.Cond.methodLink "InkFoldsLaw" (53 : Nat) mL_light.1) ∈ zTw := zTw_mem (List.mem_of_getElem? (i := 1206) (by decide +kernel)) rfl
theorem zwd1207 : (Jvm.Cond.static mL_light.1) ∈ zTw := zTw_mem (List.mem_of_getElem? (i := 1207) (by decide +kernel)) rfl
theorem zcd_L_light : zcodeX mL_light zh_light ∈ zTw := zTw_mem (List.mem_of_getElem? (i := 1208) (by decide +kernel)) rfl
theorem zwd1209 : (Jvm.Cond.classLink "InkFoldsLaw" (13 : Nat) zNSE) ∈ zTw := zTw_mem (List.mem_of_getElem? (i := 1209) (by decide +kernel)) rfl
theorem zwd1210 : (Jvm.Cond.methodLink "InkFoldsLaw" (7 : Nat) mX10_light.1) ∈ zTw := zTw_mem (List.mem_of_getElem? (i := 1210) (by decide +kernel)) rfl
theorem zwd1277 : (Jvm.Cond.methodLink "InkFoldsLaw" (62 : Nat) mL_bent.1) ∈ zTw := zTw_mem (List.mem_of_getElem? (i := 1277) (by decide +kernel)) rfl
theorem zwd1278 : (Jvm.Cond.static mL_bent.1) ∈ zTw := zTw_mem (List.mem_of_getElem? (i := 1278) (by decide +kernel)) rfl
theorem zcd_L_bent : zcodeX mL_bent zh_light ∈ zTw := zTw_mem (List.mem_of_getElem? (i := 1279) (by decide +kernel)) rfl
theorem zwd1280 : (Jvm.Cond.methodLink "InkFoldsLaw" (15 : Nat) mX10_bent.1) ∈ zTw := zTw_mem (List.mem_of_getElem? (i := 1280) (by decide +kernel)) rfl
theorem zwd1284 : (Jvm.Cond.methodLink "InkFoldsLaw" (203 : Nat) mL_row.1) ∈ zTw := zTw_mem (List.mem_of_getElem? (i := 1284) (by decide +kernel)) rfl
theorem zwd1285 : (Jvm.Cond.static mL_row.1) ∈ zTw := zTw_mem (List.mem_of_getElem? (i := 1285) (by decide +kernel)) rfl
theorem zcd_L_row : zcodeX mL_row zh_row ∈ zTw := zTw_mem (List.mem_of_getElem? (i := 1286) (by decide +kernel)) rfl
theorem zwd1287 : (Jvm.Cond.methodLink "InkFoldsLaw" (18 : Nat) mX10_row.1) ∈ zTw := zTw_mem (List.mem_of_getElem? (i := 1287) (by decide +kernel)) rfl
theorem zwd1211 : (Jvm.Cond.instanceMethod mX10_light.1) ∈ zTw := zTw_mem (List.mem_of_getElem? (i := 1211) (by decide +kernel)) rfl
theorem zwd1212 : (Jvm.Cond.selects RX10 mX10_light.1 mX10_light.1) ∈ zTw := zTw_mem (List.mem_of_getElem? (i := 1212) (by decide +kernel)) rfl
theorem zwd1281 : (Jvm.Cond.instanceMethod mX10_bent.1) ∈ zTw := zTw_mem (List.mem_of_getElem? (i := 1281) (by decide +kernel)) rfl
theorem zwd1282 : (Jvm.Cond.selects RX10 mX10_bent.1 mX10_bent.1) ∈ zTw := zTw_mem (List.mem_of_getElem? (i := 1282) (by decide +kernel)) rfl
theorem zwd1288 : (Jvm.Cond.instanceMethod mX10_row.1) ∈ zTw := zTw_mem (List.mem_of_getElem? (i := 1288) (by decide +kernel)) rfl
theorem zwd1289 : (Jvm.Cond.selects RX10 mX10_row.1 mX10_row.1) ∈ zTw := zTw_mem (List.mem_of_getElem? (i := 1289) (by decide +kernel)) rfl
section
variable {G : zG} {μ : zM} {F : Int → zM → Prop} {KX : zM → Prop}
theorem kL_light {p b : Int} (run : zRunX G mX10_light (zR (some 0) :: [zI p, zI b]) μ (zKI (fun x μ' => F 0 (zup μ' 181 0 (zw x)))) KX) (hcl : ∀ μ', KX μ' → zcld μ') (hx : ∀ μ', KX μ' → F 1 μ') : zRunH G mL_light zh_light (zR (some 0) :: [zI p, zI b, zR (some 181)]) μ (zKI F) := by
  refine zh_body (by decide +kernel) (Nat.le_of_ble_eq_true rfl) ?_
  intro p e s m args below meth c A hml hr hlk hX htab
  refine s_aload_n A dL_light_0 rfl ?_
  refine s_iconst A dL_light_1 ?_
  refine s_aload_n A dL_light_2 rfl ?_
  refine s_iload_n A dL_light_3 rfl ?_
  refine s_iload_n A dL_light_4 rfl ?_
  refine zx_callC (a := 0) (k := 10) (N := 15) (sl := true) (n := 2) (M := mX10_light) (av := [zI _, zI _]) (st := [zI 0, zR (some 181)]) (x0 := ⟨0, 10, 13, 13⟩) (ct := 13) (hpc := 13) A hX dL_light_5 rfl (by decide) (zk_0 _) zwd1210 zwd1211 zwd1212 zwd89 zcd_X10_light (Nat.le_of_ble_eq_true rfl) (Nat.le_of_ble_eq_true rfl) (Nat.le_of_ble_eq_true rfl) ⟨(Nat.le_of_ble_eq_true rfl), (Nat.le_of_ble_eq_true rfl)⟩ ⟨rfl, zhn_X10_light⟩ rfl (Nat.le_of_ble_eq_true rfl) rfl htab (by decide) rfl (by decide) zwd1209 rfl run ?_ hcl ?_ ?_
  · rintro r μ' ⟨x, rfl, h⟩
    refine s_i2l A dL_light_8 ?_
    refine z_last A dL_light_9 (zk_181 _) (Nat.le_of_ble_eq_true rfl) (by decide) ?_
    refine s_goto (tgt := 17) A dL_light_10 (by decide) ?_
    refine s_iconst A dL_light_17 ?_
    exact zh_iret (Or.inl rfl) A dL_light_18 hr hlk (Nat.le_of_ble_eq_true rfl) (Nat.le_of_ble_eq_true rfl) ⟨_, rfl, h⟩
  · intro z q μ' hK hn hz v hv
    have hg := zGx_cv (G := G) (G' := zGz G z q) (Or.inr ⟨z, q, rfl, fun b hb => hz b (Nat.lt_of_lt_of_le hb hn)⟩)
    have hv : some v ∈ [some (zR (some 0)), some (zI _), some (zI _), some (zR (some 181)), none] := hv
    simp only [List.mem_cons, List.not_mem_nil, or_false, Option.some.injEq, reduceCtorEq] at hv
    rcases hv with rfl | rfl | rfl | rfl
    · exact hg.2.2.1 0 (by decide)
    · exact hg.1 _
    · exact hg.1 _
    · exact hg.2.2.1 181 (by decide)
  · intro z q μ' hK hn hz
    have A2 := zAm_gz (z := z) (q := q) A
    refine s_astoreT A2 dL_light_13 (Nat.le_of_ble_eq_true rfl) rfl ?_
    refine s_iconst A2 dL_light_15 ?_
    exact zh_iret (Or.inr ⟨z, q, rfl, fun b hb => hz b (Nat.lt_of_lt_of_le hb hn)⟩) A2 dL_light_16 hr hlk (Nat.le_of_ble_eq_true rfl) (Nat.le_of_ble_eq_true rfl) ⟨_, rfl, hx μ' hK⟩
theorem kL_bent {p b : Int} (run : zRunX G mX10_bent (zR (some 0) :: [zI p, zI b]) μ (zKI (fun x μ' => F 0 (zup μ' 181 0 (zw x)))) KX) (hcl : ∀ μ', KX μ' → zcld μ') (hx : ∀ μ', KX μ' → F 1 μ') : zRunH G mL_bent zh_light (zR (some 0) :: [zI p, zI b, zR (some 181)]) μ (zKI F) := by
  refine zh_body (by decide +kernel) (Nat.le_of_ble_eq_true rfl) ?_
  intro p e s m args below meth c A hml hr hlk hX htab
  refine s_aload_n A dL_bent_0 rfl ?_
  refine s_iconst A dL_bent_1 ?_
  refine s_aload_n A dL_bent_2 rfl ?_
  refine s_iload_n A dL_bent_3 rfl ?_
  refine s_iload_n A dL_bent_4 rfl ?_
  refine zx_callC (a := 0) (k := 10) (N := 15) (sl := true) (n := 2) (M := mX10_bent) (av := [zI _, zI _]) (st := [zI 0, zR (some 181)]) (x0 := ⟨0, 10, 13, 13⟩) (ct := 13) (hpc := 13) A hX dL_bent_5 rfl (by decide) (zk_0 _) zwd1280 zwd1281 zwd1282 zwd89 zcd_X10_bent (Nat.le_of_ble_eq_true rfl) (Nat.le_of_ble_eq_true rfl) (Nat.le_of_ble_eq_true rfl) ⟨(Nat.le_of_ble_eq_true rfl), (Nat.le_of_ble_eq_true rfl)⟩ ⟨rfl, zhn_X10_bent⟩ rfl (Nat.le_of_ble_eq_true rfl) rfl htab (by decide) rfl (by decide) zwd1209 rfl run ?_ hcl ?_ ?_
  · rintro r μ' ⟨x, rfl, h⟩
    refine s_i2l A dL_bent_8 ?_
    refine z_last A dL_bent_9 (zk_181 _) (Nat.le_of_ble_eq_true rfl) (by decide) ?_
    refine s_goto (tgt := 17) A dL_bent_10 (by decide) ?_
    refine s_iconst A dL_bent_17 ?_
    exact zh_iret (Or.inl rfl) A dL_bent_18 hr hlk (Nat.le_of_ble_eq_true rfl) (Nat.le_of_ble_eq_true rfl) ⟨_, rfl, h⟩
  · intro z q μ' hK hn hz v hv
    have hg := zGx_cv (G := G) (G' := zGz G z q) (Or.inr ⟨z, q, rfl, fun b hb => hz b (Nat.lt_of_lt_of_le hb hn)⟩)
    have hv : some v ∈ [some (zR (some 0)), some (zI _), some (zI _), some (zR (some 181)), none] := hv
    simp only [List.mem_cons, List.not_mem_nil, or_false, Option.some.injEq, reduceCtorEq] at hv
    rcases hv with rfl | rfl | rfl | rfl
    · exact hg.2.2.1 0 (by decide)
    · exact hg.1 _
    · exact hg.1 _
    · exact hg.2.2.1 181 (by decide)
  · intro z q μ' hK hn hz
    have A2 := zAm_gz (z := z) (q := q) A
    refine s_astoreT A2 dL_bent_13 (Nat.le_of_ble_eq_true rfl) rfl ?_
    refine s_iconst A2 dL_bent_15 ?_
    exact zh_iret (Or.inr ⟨z, q, rfl, fun b hb => hz b (Nat.lt_of_lt_of_le hb hn)⟩) A2 dL_bent_16 hr hlk (Nat.le_of_ble_eq_true rfl) (Nat.le_of_ble_eq_true rfl) ⟨_, rfl, hx μ' hK⟩
theorem kL_row {p : Int} (run : zRunX G mX10_row (zR (some 0) :: [zI p]) μ (zKL (fun x μ' => F 0 (zup μ' 181 0 (x)))) KX) (hcl : ∀ μ', KX μ' → zcld μ') (hx : ∀ μ', KX μ' → F 1 μ') : zRunH G mL_row zh_row (zR (some 0) :: [zI p, zR (some 181)]) μ (zKI F) := by
  refine zh_body (by decide +kernel) (Nat.le_of_ble_eq_true rfl) ?_
  intro p e s m args below meth c A hml hr hlk hX htab
  refine s_aload_n A dL_row_0 rfl ?_
  refine s_iconst A dL_row_1 ?_
  refine s_aload_n A dL_row_2 rfl ?_
  refine s_iload_n A dL_row_3 rfl ?_
  refine zx_callC (a := 0) (k := 10) (N := 15) (sl := true) (n := 1) (M := mX10_row) (av := [zI _]) (st := [zI 0, zR (some 181)]) (x0 := ⟨0, 8, 11, 13⟩) (ct := 13) (hpc := 11) A hX dL_row_4 rfl (by decide) (zk_0 _) zwd1287 zwd1288 zwd1289 zwd89 zcd_X10_row (Nat.le_of_ble_eq_true rfl) (Nat.le_of_ble_eq_true rfl) (Nat.le_of_ble_eq_true rfl) ⟨(Nat.le_of_ble_eq_true rfl), (Nat.le_of_ble_eq_true rfl)⟩ ⟨rfl, zhn_X10_row⟩ rfl (Nat.le_of_ble_eq_true rfl) rfl htab (by decide) rfl (by decide) zwd1209 rfl run ?_ hcl ?_ ?_
  · rintro r μ' ⟨x, rfl, h⟩
    refine z_last A dL_row_7 (zk_181 _) (Nat.le_of_ble_eq_true rfl) (by decide) ?_
    refine s_goto (tgt := 14) A dL_row_8 (by decide) ?_
    refine s_iconst A dL_row_14 ?_
    exact zh_iret (Or.inl rfl) A dL_row_15 hr hlk (Nat.le_of_ble_eq_true rfl) (Nat.le_of_ble_eq_true rfl) ⟨_, rfl, h⟩
  · intro z q μ' hK hn hz v hv
    have hg := zGx_cv (G := G) (G' := zGz G z q) (Or.inr ⟨z, q, rfl, fun b hb => hz b (Nat.lt_of_lt_of_le hb hn)⟩)
    have hv : some v ∈ [some (zR (some 0)), some (zI _), some (zR (some 181)), none] := hv
    simp only [List.mem_cons, List.not_mem_nil, or_false, Option.some.injEq, reduceCtorEq] at hv
    rcases hv with rfl | rfl | rfl
    · exact hg.2.2.1 0 (by decide)
    · exact hg.1 _
    · exact hg.2.2.1 181 (by decide)
  · intro z q μ' hK hn hz
    have A2 := zAm_gz (z := z) (q := q) A
    refine s_astore_nT A2 dL_row_11 (Nat.le_of_ble_eq_true rfl) rfl ?_
    refine s_iconst A2 dL_row_12 ?_
    exact zh_iret (Or.inr ⟨z, q, rfl, fun b hb => hz b (Nat.lt_of_lt_of_le hb hn)⟩) A2 dL_row_13 hr hlk (Nat.le_of_ble_eq_true rfl) (Nat.le_of_ble_eq_true rfl) ⟨_, rfl, hx μ' hK⟩
end
