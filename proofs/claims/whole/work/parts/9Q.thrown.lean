/-! words for a throw -/
abbrev zNSE : String := "java/util/NoSuchElementException"
abbrev zup2 : List String := ["java/lang/RuntimeException", "java/lang/Exception"]
theorem zthr_in : vx_at0 RX10 175 zNSE zup2 = [110, 1242, 1251, 1253, 1256, 1258, 1243, 1244, 120, 121, 1245, 1250, 1254, 1270, 1232, 1271, 1234, 1272, 1236, 1246, 1248, 1238, 1260, 1261, 1262, 1263, 1223, 1263, 1264, 1265, 1266, 1225, 1266, 1267, 1268, 1243, 1227, 1259, 1221, 1222, 1229, 1230, 1231, 1233, 1235, 1237, 1269, 1240, 1239].filterMap (fun i => lw_tbl[i]?) := by decide +kernel
theorem zthr_k : Cond.classLink RX10 173 zNSE ∈ zTw := zTw_mem (List.mem_of_getElem? (i := 1220) (by decide +kernel)) rfl
theorem zthr_i : Cond.initialized zNSE ∈ zTw := zTw_mem (List.mem_of_getElem? (i := 113) (by decide +kernel)) rfl
theorem zthr_ot : ∀ w ∈ Cond.classLink RX10 173 zNSE :: Cond.initialized zNSE :: vx_at0 RX10 175 zNSE zup2, vx_ot w = true := by decide +kernel
theorem zthr_fit : Bundle.fit zNSE = true ∧ ∀ n ∈ zup2, Bundle.fit n = true := by decide +kernel
