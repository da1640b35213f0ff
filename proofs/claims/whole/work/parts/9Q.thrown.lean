/-! words for a throw -/
abbrev zNSE : String := "java/util/NoSuchElementException"
abbrev zup2 : List String := ["java/lang/RuntimeException", "java/lang/Exception"]
theorem zthr_in : vx_at0 RX10 175 zNSE zup2 = [109, 1237, 1246, 1248, 1251, 1253, 1238, 1239, 119, 120, 1240, 1245, 1249, 1265, 1227, 1266, 1229, 1267, 1231, 1241, 1243, 1233, 1255, 1256, 1257, 1258, 1218, 1258, 1259, 1260, 1261, 1220, 1261, 1262, 1263, 1238, 1222, 1254, 1216, 1217, 1224, 1225, 1226, 1228, 1230, 1232, 1264, 1235, 1234].filterMap (fun i => lw_tbl[i]?) := by decide +kernel
theorem zthr_k : Cond.classLink RX10 173 zNSE ∈ zTw := zTw_mem (List.mem_of_getElem? (i := 1215) (by decide +kernel)) rfl
theorem zthr_i : Cond.initialized zNSE ∈ zTw := zTw_mem (List.mem_of_getElem? (i := 112) (by decide +kernel)) rfl
theorem zthr_ot : ∀ w ∈ Cond.classLink RX10 173 zNSE :: Cond.initialized zNSE :: vx_at0 RX10 175 zNSE zup2, vx_ot w = true := by decide +kernel
theorem zthr_fit : Bundle.fit zNSE = true ∧ ∀ n ∈ zup2, Bundle.fit n = true := by decide +kernel
