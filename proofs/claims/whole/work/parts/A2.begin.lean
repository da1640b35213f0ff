/-! the law begins -/
theorem zmade_b {μ μ' : zM} (h : zmade μ) (hb : ∀ a, a < 153 → (∀ j, zi μ' a j = zi μ a j) ∧ ∀ j, zr μ' a j = zr μ a j) : zmade μ' := by
  obtain ⟨a0, a1, a3, a5, a13, a14, a105, a111, a119, a125, a125b, a128, a130, a137, c1, c3, c131, c132, c104, c106, c120, c125⟩ := h
  have i : ∀ a, a < 153 → ∀ j, zi μ' a j = zi μ a j := fun a x => (hb a x).1
  have r : ∀ a, a < 153 → ∀ j, zr μ' a j = zr μ a j := fun a x => (hb a x).2
  exact ⟨fun j hj => by rw [r 0 (by decide)]; exact a0 j hj, by rw [r 1 (by decide)]; exact a1, by rw [r 3 (by decide)]; exact a3, zstm_b a5 (fun a x y => hb a (by omega)), by rw [r 13 (by decide)]; exact a13, fun v hv => ⟨by rw [r 14 (by decide)]; exact (a14 v hv).1, fun j hj => by rw [r _ (by omega)]; exact (a14 v hv).2 j hj⟩, fun j hj => by rw [r 105 (by decide)]; exact a105 j hj, fun j hj => by rw [r 111 (by decide)]; exact a111 j hj, fun j hj => by rw [r 119 (by decide)]; exact a119 j hj, by rw [r 125 (by decide)]; exact a125, by rw [r 125 (by decide)]; exact a125b, by rw [r 128 (by decide)]; exact a128, fun j hj => by rw [r 130 (by decide)]; exact a130 j hj, fun v hv => ⟨by rw [r 103 (by decide)]; exact (a137 v hv).1, fun j hj => by rw [r _ (by omega)]; exact (a137 v hv).2 j hj⟩, by rw [i 1 (by decide)]; exact c1, by rw [i 3 (by decide)]; exact c3, by rw [i 13 (by decide)]; exact c131, by rw [i 13 (by decide)]; exact c132, fun j => by rw [i 104 (by decide)]; exact c104 j, fun j j0 j1 => by rw [i 106 (by decide)]; exact c106 j j0 j1, fun j j0 j1 => by rw [i 120 (by decide)]; exact c120 j j0 j1, by rw [i 125 (by decide)]; exact c125⟩
def zμ0 : zM := (fun _ _ => 0, fun _ _ => none, fun _ => (0, 0), 0)
theorem zμ0_cld : zcld zμ0 := ⟨fun a j b h0 hb => (by cases (show (none : Option Nat) = some b from hb)), fun a h0 h1 => absurd (show a < 0 from h1) (Nat.not_lt_zero a)⟩
theorem zInv_first {μ : zM} (hm : zmade μ) (hM : zMs μ zS0) (hc : zcds μ) (hz : ∀ a, a = 153 ∨ a = 180 → ∀ i, zi μ a i = 0) (hcl : zcld μ) : zInv μ :=
  ⟨zS0, [], zkp0, zK0, [], [], zX_first hm, zM_first hM hc hz, zS0_v, fun V hV => absurd hV (by simp), fun i i0 i1 => ⟨Or.inl rfl, fun e => absurd e (by show ¬ ((0 : Int) = 1); decide)⟩, zTv_nil, hcl⟩
theorem zwd113 : (Jvm.Cond.classLink "InkFoldsLaw" (8 : Nat) "InkFolds") ∈ zTw := zTw_mem (List.mem_of_getElem? (i := 113) (by decide +kernel)) rfl
theorem zwd114 : (Jvm.Cond.instantiable "InkFolds" (15 : Nat)) ∈ zTw := zTw_mem (List.mem_of_getElem? (i := 114) (by decide +kernel)) rfl
theorem zwd115 : (Jvm.Cond.methodLink "InkFoldsLaw" (22 : Nat) mX10_init.1) ∈ zTw := zTw_mem (List.mem_of_getElem? (i := 115) (by decide +kernel)) rfl
theorem zwd116 : (Jvm.Cond.instanceMethod mX10_init.1) ∈ zTw := zTw_mem (List.mem_of_getElem? (i := 116) (by decide +kernel)) rfl
theorem zwd1291 : (Jvm.Cond.classLink "InkFoldsLaw" (23 : Nat) "InkFoldsModel") ∈ zTw := zTw_mem (List.mem_of_getElem? (i := 1291) (by decide +kernel)) rfl
theorem zwd1292 : (Jvm.Cond.instantiable "InkFoldsModel" (45 : Nat)) ∈ zTw := zTw_mem (List.mem_of_getElem? (i := 1292) (by decide +kernel)) rfl
theorem zwd1293 : (Jvm.Cond.methodLink "InkFoldsLaw" (25 : Nat) mX11_init.1) ∈ zTw := zTw_mem (List.mem_of_getElem? (i := 1293) (by decide +kernel)) rfl
theorem zwd1294 : (Jvm.Cond.instanceMethod mX11_init.1) ∈ zTw := zTw_mem (List.mem_of_getElem? (i := 1294) (by decide +kernel)) rfl
section
variable {G : zG} {p : Program} {e : Env} {s : State} {m : MethodId} {args : Array Value} {below : List Frame} {meth : Method} {c : Code} {Q : State → Prop}
/-- from now on all that is made once lies sealed -/
theorem zJd_seal {R : Room} {pc : Nat} {L : List (Option zV)} {st : List zV} {μ : zM} {cn un : Nat} (hn : zn μ = 182) (hs : zsld μ) (k : zJd G true p e R s m args below meth c Q pc (L, st, μ, cn, un)) : zJd G false p e R s m args below meth c Q pc (L, st, μ, cn, un) :=
  fun H locs ls hl hh hS => k H locs ls hl (zH_seal hn hs hh) hS
theorem jL_begin (A : zAm G p s m args c cL_law RL zTw) (k : ∀ μ, zInv μ → zJd G true p e room_1 s m args below meth c Q 23 (zLl 0 none none none, [], μ, 182, 177521)) : zJd G false p e room_1 s m args below meth c Q 0 ([some (zT 40), none, none, none, none, none, none, none], [], zμ0, 0, 0) := by
  refine z_new (k := 10) (N := 15) A dL_law_0 rfl zuw_X10 tyX10 tyX10_ok zdf_X10 (by decide) zwd113 zwd114 zwd89 (by decide +kernel) (Nat.le_of_ble_eq_true rfl) (Nat.le_of_ble_eq_true rfl) (fun b1 μ1 e1 m1 => ?_)
  have e1 : b1 = 0 := e1
  subst e1
  have n1 : zn μ1 = 1 := by rw [m1]; rfl
  have l1 : zcld μ1 := by rw [m1]; exact znew_cld zμ0_cld (Or.inl (by decide))
  clear m1
  refine s_dup A dL_law_3 rfl ?_
  refine s_callI (a := 0) (M := mX10_init) (n := 0) (d := 5) (mc := 152) (ms := 80087) (av := []) (st := [zR (some 0)]) A dL_law_4 rfl zwd115 zwd116 zwd89 zcd_X10_init rfl (Nat.le_of_ble_eq_true rfl) (Nat.le_of_ble_eq_true rfl) (Nat.le_of_ble_eq_true rfl) ⟨Nat.le_of_ble_eq_true rfl, Nat.le_of_ble_eq_true rfl⟩ zhn_X10_init rfl (Nat.le_of_ble_eq_true rfl) rfl (z_contV (fun μ2 h => h) (kX10_init n1 (fun μ2 n2 hm l2 => ?_)))
  have l2 := l2 l1
  refine s_astore_n (L' := [some (zT 40), some (zR (some 0)), none, none, none, none, none, none]) A dL_law_7 (Nat.le_of_ble_eq_true rfl) rfl ?_
  refine z_new (k := 11) (N := 45) A dL_law_8 rfl zuw_X11 tyX11 tyX11_ok zdf_X11 (by decide) zwd1291 zwd1292 zwd100 (ztz (by omega) (by rw [n2]; decide +kernel)) (Nat.le_of_ble_eq_true rfl) (Nat.le_of_ble_eq_true rfl) (fun b3 μ3 e3 m3 => ?_)
  rw [n2] at e3
  subst e3
  have n3 : zn μ3 = 154 := by rw [m3, zn_new, n2]
  have l3 : zcld μ3 := by rw [m3]; exact znew_cld l2 (Or.inl (by omega))
  have b3 : ∀ a, a < 153 → (∀ j, zi μ3 a j = zi μ2 a j) ∧ ∀ j, zr μ3 a j = zr μ2 a j := fun a ha => ⟨fun j => by rw [m3, zi_new, if_neg (by omega)], fun j => by rw [m3, zr_new, if_neg (by omega)]⟩
  have z3 : ∀ j, zi μ3 153 j = 0 := fun j => by rw [m3, zi_new, if_pos n2.symm]
  clear m3
  refine s_dup A dL_law_11 rfl ?_
  refine s_callI (a := 153) (M := mX11_init) (n := 0) (d := 2) (mc := 27) (ms := 97373) (av := []) (st := [zR (some 153)]) A dL_law_12 rfl zwd1293 zwd1294 zwd100 zcd_X11_init rfl (Nat.le_of_ble_eq_true rfl) (Nat.le_of_ble_eq_true rfl) (Nat.le_of_ble_eq_true rfl) ⟨Nat.le_of_ble_eq_true rfl, Nat.le_of_ble_eq_true rfl⟩ zhn_X11_init rfl (Nat.le_of_ble_eq_true rfl) rfl (z_contV (fun μ4 h => h) (kX11_init n3 z3 (fun μ4 n4 b4 hM hc hz hk l4 => ?_)))
  have l4 := l4 l3
  refine s_astore_n (L' := [some (zT 40), some (zR (some 0)), some (zR (some 153)), none, none, none, none, none]) A dL_law_15 (Nat.le_of_ble_eq_true rfl) rfl ?_
  refine s_iconst A dL_law_16 ?_
  refine z_newa_long (n := 1) A dL_law_17 rfl (by decide) zwd153 (ztz (by omega) (by rw [n4]; decide +kernel)) (Nat.le_of_ble_eq_true rfl) (Nat.le_of_ble_eq_true rfl) (fun b5 μ5 e5 m5 => ?_)
  rw [n4] at e5
  subst e5
  have n5 : zn μ5 = 182 := by rw [m5, zn_new, n4]
  have l5 : zcld μ5 := by rw [m5]; exact znew_cld l4 (Or.inl (by omega))
  have b5 : ∀ a, a < 181 → (∀ j, zi μ5 a j = zi μ4 a j) ∧ ∀ j, zr μ5 a j = zr μ4 a j := fun a ha => ⟨fun j => by rw [m5, zi_new, if_neg (by omega)], fun j => by rw [m5, zr_new, if_neg (by omega)]⟩
  clear m5
  have hm5 : zmade μ5 := zmade_b hm (fun a ha => ⟨fun j => ((b5 a (by omega)).1 j).trans (((b4 a ha).1 j).trans ((b3 a ha).1 j)), fun j => ((b5 a (by omega)).2 j).trans (((b4 a ha).2 j).trans ((b3 a ha).2 j))⟩)
  have hk5 : ∀ k : Nat, k < 27 → zr μ5 153 (zfld k) = some (154 + k) := fun k hk2 => by rw [(b5 153 (by decide)).2]; exact hk k hk2
  refine zJd_seal n5 (zmade_sld hm5 hk5) ?_
  refine s_astore_n (L' := [some (zT 40), some (zR (some 0)), some (zR (some 153)), some (zR (some 181)), none, none, none, none]) A dL_law_19 (Nat.le_of_ble_eq_true rfl) rfl ?_
  refine s_iconst A dL_law_20 ?_
  refine s_istore (L' := zLl 0 none none none) A dL_law_21 (Nat.le_of_ble_eq_true rfl) rfl ?_
  exact k μ5 (zInv_first hm5 (fun i i0 i1 => by rw [(b5 154 (by decide)).1]; exact hM i i0 i1) (fun i i0 i1 => by rw [(b5 162 (by decide)).1]; exact hc i i0 i1) (fun a ha i => by rw [(b5 a (by omega)).1]; exact hz a ha i) l5)
end
