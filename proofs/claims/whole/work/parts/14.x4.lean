noncomputable def F_X8_isSheet (v0 : Int32) (σ : S3) : R3 :=
  if v0 < (0 : Int32) then (some ((0 : Int32), σ))
  else (if (4 : Int32) ≤ v0 then (some ((0 : Int32), σ))
  else (some ((1 : Int32), σ)))
set_option maxHeartbeats 4000000 in
set_option maxRecDepth 100000 in
theorem B_X8_isSheet_0 {κ : zT} {σ' : S3} {r : Int32} (X : zC κ zX RX8 cX8_isSheet 1 (some .boolean) 0 (some (.int r)) σ') {v0 : Int32} {σ : S3} (h : F_X8_isSheet v0 σ = some (r, σ')) : Z κ 1 (zX (ze κ.1) σ) [(0, .int v0)] 0 [] := by
  unfold F_X8_isSheet at h
  refine z_iload_n (i := 0) X.1 dX8_isSheet_0 0 rfl rfl ?_
  refine z_if_lt (tgt := 13) X.1 dX8_isSheet_1 (by decide) h (fun q1220 h => ?_) (fun q1220 h => ?_)
  · refine z_iconst (v := (0 : Int32)) X.1 dX8_isSheet_13 (by decide) ?_
    exact z_zret X dX8_isSheet_14 (Or.inl rfl) h
  · refine z_iload_n (i := 0) X.1 dX8_isSheet_4 0 rfl rfl ?_
    refine z_iconst (v := (4 : Int32)) X.1 dX8_isSheet_5 (by decide) ?_
    refine z_icmp_ge (tgt := 13) X.1 dX8_isSheet_6 (by decide) h (fun q1221 h => ?_) (fun q1221 h => ?_)
    · refine z_iconst (v := (0 : Int32)) X.1 dX8_isSheet_13 (by decide) ?_
      exact z_zret X dX8_isSheet_14 (Or.inl rfl) h
    · refine z_iconst (v := (1 : Int32)) X.1 dX8_isSheet_9 (by decide) ?_
      refine z_goto (tgt := 14) X.1 dX8_isSheet_10 (by decide) ?_
      exact z_zret X dX8_isSheet_14 (Or.inr rfl) h
theorem C_X8_isSheet {ζ : zW} (hZ : zDis ζ zX) {v0 : Int32} {σ σ' : S3} {r : Int32} (h : F_X8_isSheet v0 σ = some (r, σ')) : zMet ζ zX 0 yX8_isSheet cX8_isSheet 1 (some .boolean) [.int v0] σ (some (.int r)) σ' :=
  zMet_of pn_X8 hZ (Nat.le_of_ble_eq_true rfl) (fun κ e X => by subst e; exact B_X8_isSheet_0 X h)
noncomputable def F_X8_sheet_65 (v1 : Int32) (v2 : Int32) (v3 : Int32) (σ : S3) : R3 :=
  ck v1 4 (if v2 = (0 : Int32) then (bd (F_X4_renew (8 + ix v1) v2 (0 : Int32) σ) (fun r1234 s1235 => some ((1 : Int32), s1235)))
  else (bd (F_X4_renew (8 + ix v1) v2 v3 σ) (fun r1231 s1232 => some ((1 : Int32), s1232))))
set_option maxHeartbeats 4000000 in
set_option maxRecDepth 100000 in
theorem B_X8_sheet_65 {κ : zT} {σ' : S3} {r : Int32} (X : zC κ zX RX8 cX8_sheet 4 (some .int) 2 (some (.int r)) σ') {v1 : Int32} {v2 : Int32} {v3 : Int32} {σ : S3} (h : F_X8_sheet_65 v1 v2 v3 σ = some (r, σ')) : Z κ 4 (zX (ze κ.1) σ) [(0, .ref (zo κ.1 0)), (1, .int v1), (2, .int v2), (3, .int v3)] 65 [] := by
  unfold F_X8_sheet_65 at h
  refine z_aload_n (i := 0) X.1 dX8_sheet_65 0 rfl rfl ?_
  refine g_X8_sheets X.1 tw276 dX8_sheet_66 ?_
  refine z_iload_n (i := 1) X.1 dX8_sheet_69 1 rfl rfl ?_
  refine al_X8_sheets X.1 dX8_sheet_70 h (fun hs1229 h => ?_)
  refine z_iload_n (i := 2) X.1 dX8_sheet_71 2 rfl rfl ?_
  refine z_iload_n (i := 2) X.1 dX8_sheet_72 2 rfl rfl ?_
  refine z_if_ne (tgt := 80) X.1 dX8_sheet_73 (by decide) h (fun q1230 h => ?_) (fun q1230 h => ?_)
  · refine z_iload_n (i := 3) X.1 dX8_sheet_80 3 rfl rfl ?_
    obtain ⟨r1231, s1232, hc1233, h⟩ := bd_inv h
    refine cl_X8_249 (d1 := 1) (b := zo κ.1 (8 + ix v1)) (r := 0) (As := [.int v2, .int v3]) (rest := []) X.1 (by decide) (C_X4_renew X.2.1 hs1229 hc1233) (rcX4 hs1229) rfl rfl (Nat.le_of_ble_eq_true rfl) dX8_sheet_81 ?_
    refine z_iconst (v := (1 : Int32)) X.1 dX8_sheet_84 (by decide) ?_
    exact z_iret X dX8_sheet_85 h
  · refine z_iconst (v := (0 : Int32)) X.1 dX8_sheet_76 (by decide) ?_
    refine z_goto (tgt := 81) X.1 dX8_sheet_77 (by decide) ?_
    obtain ⟨r1234, s1235, hc1236, h⟩ := bd_inv h
    refine cl_X8_249 (d1 := 1) (b := zo κ.1 (8 + ix v1)) (r := 0) (As := [.int v2, .int (0 : Int32)]) (rest := []) X.1 (by decide) (C_X4_renew X.2.1 hs1229 hc1236) (rcX4 hs1229) rfl rfl (Nat.le_of_ble_eq_true rfl) dX8_sheet_81 ?_
    refine z_iconst (v := (1 : Int32)) X.1 dX8_sheet_84 (by decide) ?_
    exact z_iret X dX8_sheet_85 h
noncomputable def F_X8_sheet_49 (v1 : Int32) (v2 : Int32) (v3 : Int32) (σ : S3) : R3 :=
  if v2 = (0 : Int32) then (F_X8_sheet_65 v1 v2 v3 σ)
  else (if v3 ≤ (24 : Int32) then (F_X8_sheet_65 v1 v2 v3 σ)
  else (bd (F_X8_fail (1 : Int32) σ) (fun r1238 s1239 => some (r1238, s1239))))
set_option maxHeartbeats 4000000 in
set_option maxRecDepth 100000 in
theorem B_X8_sheet_49 {κ : zT} {σ' : S3} {r : Int32} (X : zC κ zX RX8 cX8_sheet 4 (some .int) 2 (some (.int r)) σ') {v1 : Int32} {v2 : Int32} {v3 : Int32} {σ : S3} (h : F_X8_sheet_49 v1 v2 v3 σ = some (r, σ')) : Z κ 4 (zX (ze κ.1) σ) [(0, .ref (zo κ.1 0)), (1, .int v1), (2, .int v2), (3, .int v3)] 49 [] := by
  unfold F_X8_sheet_49 at h
  refine z_iload_n (i := 2) X.1 dX8_sheet_49 2 rfl rfl ?_
  refine z_if_eq (tgt := 65) X.1 dX8_sheet_50 (by decide) h (fun q1228 h => ?_) (fun q1228 h => ?_)
  · exact z_sub [0, 1, 2, 3] rfl (B_X8_sheet_65 X h)
  · refine z_iload_n (i := 3) X.1 dX8_sheet_53 3 rfl rfl ?_
    refine z_bipush (v := (24 : Int32)) X.1 dX8_sheet_54 (by decide) ?_
    refine z_icmp_le (tgt := 65) X.1 dX8_sheet_56 (by decide) h (fun q1237 h => ?_) (fun q1237 h => ?_)
    · exact z_sub [0, 1, 2, 3] rfl (B_X8_sheet_65 X h)
    · refine z_aload_n (i := 0) X.1 dX8_sheet_59 0 rfl rfl ?_
      refine z_iconst (v := (1 : Int32)) X.1 dX8_sheet_60 (by decide) ?_
      obtain ⟨r1238, s1239, hc1240, h⟩ := bd_inv h
      refine cl_X8_69 (d1 := 0) (b := zo κ.1 0) (As := [.int (1 : Int32)]) (rest := []) X.1 (by decide) (C_X8_fail X.2.1 hc1240) rcX8 rfl rfl (Nat.le_of_ble_eq_true rfl) dX8_sheet_61 ?_
      exact z_iret X dX8_sheet_64 h
noncomputable def F_X8_sheet_35 (v1 : Int32) (v2 : Int32) (v3 : Int32) (σ : S3) : R3 :=
  if v2 = (0 : Int32) then (F_X8_sheet_49 v1 v2 v3 σ)
  else (if (0 : Int32) ≤ v3 then (F_X8_sheet_49 v1 v2 v3 σ)
  else (bd (F_X8_fail (3 : Int32) σ) (fun r1242 s1243 => some (r1242, s1243))))
set_option maxHeartbeats 4000000 in
set_option maxRecDepth 100000 in
theorem B_X8_sheet_35 {κ : zT} {σ' : S3} {r : Int32} (X : zC κ zX RX8 cX8_sheet 4 (some .int) 2 (some (.int r)) σ') {v1 : Int32} {v2 : Int32} {v3 : Int32} {σ : S3} (h : F_X8_sheet_35 v1 v2 v3 σ = some (r, σ')) : Z κ 4 (zX (ze κ.1) σ) [(0, .ref (zo κ.1 0)), (1, .int v1), (2, .int v2), (3, .int v3)] 35 [] := by
  unfold F_X8_sheet_35 at h
  refine z_iload_n (i := 2) X.1 dX8_sheet_35 2 rfl rfl ?_
  refine z_if_eq (tgt := 49) X.1 dX8_sheet_36 (by decide) h (fun q1227 h => ?_) (fun q1227 h => ?_)
  · exact z_sub [0, 1, 2, 3] rfl (B_X8_sheet_49 X h)
  · refine z_iload_n (i := 3) X.1 dX8_sheet_39 3 rfl rfl ?_
    refine z_if_ge (tgt := 49) X.1 dX8_sheet_40 (by decide) h (fun q1241 h => ?_) (fun q1241 h => ?_)
    · exact z_sub [0, 1, 2, 3] rfl (B_X8_sheet_49 X h)
    · refine z_aload_n (i := 0) X.1 dX8_sheet_43 0 rfl rfl ?_
      refine z_iconst (v := (3 : Int32)) X.1 dX8_sheet_44 (by decide) ?_
      obtain ⟨r1242, s1243, hc1244, h⟩ := bd_inv h
      refine cl_X8_69 (d1 := 0) (b := zo κ.1 0) (As := [.int (3 : Int32)]) (rest := []) X.1 (by decide) (C_X8_fail X.2.1 hc1244) rcX8 rfl rfl (Nat.le_of_ble_eq_true rfl) dX8_sheet_45 ?_
      exact z_iret X dX8_sheet_48 h
noncomputable def F_X8_sheet (v1 : Int32) (v2 : Int32) (v3 : Int32) (σ : S3) : R3 :=
  bd (F_X8_isSheet v1 σ) (fun r1217 s1218 => if r1217 = (0 : Int32) then (bd (F_X8_fail (1 : Int32) s1218) (fun r1223 s1224 => some (r1223, s1224)))
  else (if v2 = (0 : Int32) then (F_X8_sheet_35 v1 v2 v3 s1218)
  else (if v2 = (8 : Int32) then (F_X8_sheet_35 v1 v2 v3 s1218)
  else (if v2 = (16 : Int32) then (F_X8_sheet_35 v1 v2 v3 s1218)
  else (if v2 = (32 : Int32) then (F_X8_sheet_35 v1 v2 v3 s1218)
  else (bd (F_X8_fail (1 : Int32) s1218) (fun r1248 s1249 => some (r1248, s1249))))))))
set_option maxHeartbeats 4000000 in
set_option maxRecDepth 100000 in
theorem B_X8_sheet_0 {κ : zT} {σ' : S3} {r : Int32} (X : zC κ zX RX8 cX8_sheet 4 (some .int) 2 (some (.int r)) σ') {v1 : Int32} {v2 : Int32} {v3 : Int32} {σ : S3} (h : F_X8_sheet v1 v2 v3 σ = some (r, σ')) : Z κ 4 (zX (ze κ.1) σ) [(0, .ref (zo κ.1 0)), (1, .int v1), (2, .int v2), (3, .int v3)] 0 [] := by
  unfold F_X8_sheet at h
  refine z_iload_n (i := 1) X.1 dX8_sheet_0 1 rfl rfl ?_
  obtain ⟨r1217, s1218, hc1219, h⟩ := bd_inv h
  refine cl_X8_246 (d1 := 0) (As := [.int v1]) (rest := []) X.1 (by decide) (C_X8_isSheet X.2.1 hc1219) rfl rfl (Nat.le_of_ble_eq_true rfl) dX8_sheet_1 ?_
  refine z_if_eq (tgt := 29) X.1 dX8_sheet_4 (by decide) h (fun q1222 h => ?_) (fun q1222 h => ?_)
  · refine z_aload_n (i := 0) X.1 dX8_sheet_29 0 rfl rfl ?_
    refine z_iconst (v := (1 : Int32)) X.1 dX8_sheet_30 (by decide) ?_
    obtain ⟨r1223, s1224, hc1225, h⟩ := bd_inv h
    refine cl_X8_69 (d1 := 0) (b := zo κ.1 0) (As := [.int (1 : Int32)]) (rest := []) X.1 (by decide) (C_X8_fail X.2.1 hc1225) rcX8 rfl rfl (Nat.le_of_ble_eq_true rfl) dX8_sheet_31 ?_
    exact z_iret X dX8_sheet_34 h
  · refine z_iload_n (i := 2) X.1 dX8_sheet_7 2 rfl rfl ?_
    refine z_if_eq (tgt := 35) X.1 dX8_sheet_8 (by decide) h (fun q1226 h => ?_) (fun q1226 h => ?_)
    · exact z_sub [0, 1, 2, 3] rfl (B_X8_sheet_35 X h)
    · refine z_iload_n (i := 2) X.1 dX8_sheet_11 2 rfl rfl ?_
      refine z_bipush (v := (8 : Int32)) X.1 dX8_sheet_12 (by decide) ?_
      refine z_icmp_eq (tgt := 35) X.1 dX8_sheet_14 (by decide) h (fun q1245 h => ?_) (fun q1245 h => ?_)
      · exact z_sub [0, 1, 2, 3] rfl (B_X8_sheet_35 X h)
      · refine z_iload_n (i := 2) X.1 dX8_sheet_17 2 rfl rfl ?_
        refine z_bipush (v := (16 : Int32)) X.1 dX8_sheet_18 (by decide) ?_
        refine z_icmp_eq (tgt := 35) X.1 dX8_sheet_20 (by decide) h (fun q1246 h => ?_) (fun q1246 h => ?_)
        · exact z_sub [0, 1, 2, 3] rfl (B_X8_sheet_35 X h)
        · refine z_iload_n (i := 2) X.1 dX8_sheet_23 2 rfl rfl ?_
          refine z_bipush (v := (32 : Int32)) X.1 dX8_sheet_24 (by decide) ?_
          refine z_icmp_eq (tgt := 35) X.1 dX8_sheet_26 (by decide) h (fun q1247 h => ?_) (fun q1247 h => ?_)
          · exact z_sub [0, 1, 2, 3] rfl (B_X8_sheet_35 X h)
          · refine z_aload_n (i := 0) X.1 dX8_sheet_29 0 rfl rfl ?_
            refine z_iconst (v := (1 : Int32)) X.1 dX8_sheet_30 (by decide) ?_
            obtain ⟨r1248, s1249, hc1250, h⟩ := bd_inv h
            refine cl_X8_69 (d1 := 0) (b := zo κ.1 0) (As := [.int (1 : Int32)]) (rest := []) X.1 (by decide) (C_X8_fail X.2.1 hc1250) rcX8 rfl rfl (Nat.le_of_ble_eq_true rfl) dX8_sheet_31 ?_
            exact z_iret X dX8_sheet_34 h
theorem C_X8_sheet {ζ : zW} (hZ : zDis ζ zX) {v1 : Int32} {v2 : Int32} {v3 : Int32} {σ σ' : S3} {r : Int32} (h : F_X8_sheet v1 v2 v3 σ = some (r, σ')) : zMet ζ zX 2 yX8_sheet cX8_sheet 4 (some .int) [.ref (zo ζ 0), .int v1, .int v2, .int v3] σ (some (.int r)) σ' :=
  zMet_of pn_X8 hZ (Nat.le_of_ble_eq_true rfl) (fun κ e X => by subst e; exact B_X8_sheet_0 X h)
noncomputable def F_X8_errorOfNumber (v1 : Int32) (v2 : Int32) (σ : S3) : R3 :=
  bd (F_X8_isSheet v1 σ) (fun r1254 s1255 => if r1254 = (0 : Int32) then (some ((1 : Int32), s1255))
  else (ck v1 4 (bd (F_X4_isMissing (8 + ix v1) s1255) (fun r1259 s1260 => if r1259 = (0 : Int32) then (if v2 < (0 : Int32) then (some ((1 : Int32), s1260))
  else (ck v1 4 (if v2 < (s1260 (8 + ix v1) 1 0) then (some ((0 : Int32), s1260))
  else (some ((1 : Int32), s1260)))))
  else (some ((6 : Int32), s1260))))))
set_option maxHeartbeats 4000000 in
set_option maxRecDepth 100000 in
theorem B_X8_errorOfNumber_0 {κ : zT} {σ' : S3} {r : Int32} (X : zC κ zX RX8 cX8_errorOfNumber 3 (some .int) 1 (some (.int r)) σ') {v1 : Int32} {v2 : Int32} {σ : S3} (h : F_X8_errorOfNumber v1 v2 σ = some (r, σ')) : Z κ 3 (zX (ze κ.1) σ) [(0, .ref (zo κ.1 0)), (1, .int v1), (2, .int v2)] 0 [] := by
  unfold F_X8_errorOfNumber at h
  refine z_iload_n (i := 1) X.1 dX8_errorOfNumber_0 1 rfl rfl ?_
  obtain ⟨r1254, s1255, hc1256, h⟩ := bd_inv h
  refine cl_X8_246 (d1 := 0) (As := [.int v1]) (rest := []) X.1 (by decide) (C_X8_isSheet X.2.1 hc1256) rfl rfl (Nat.le_of_ble_eq_true rfl) dX8_errorOfNumber_1 ?_
  refine z_if_ne (tgt := 9) X.1 dX8_errorOfNumber_4 (by decide) h (fun q1257 h => ?_) (fun q1257 h => ?_)
  · refine z_aload_n (i := 0) X.1 dX8_errorOfNumber_9 0 rfl rfl ?_
    refine g_X8_sheets X.1 tw276 dX8_errorOfNumber_10 ?_
    refine z_iload_n (i := 1) X.1 dX8_errorOfNumber_13 1 rfl rfl ?_
    refine al_X8_sheets X.1 dX8_errorOfNumber_14 h (fun hs1258 h => ?_)
    obtain ⟨r1259, s1260, hc1261, h⟩ := bd_inv h
    refine cl_X8_261 (d1 := 0) (b := zo κ.1 (8 + ix v1)) (As := []) (rest := []) X.1 (by decide) (C_X4_isMissing X.2.1 hs1258 hc1261) (rcX4 hs1258) rfl rfl (Nat.le_of_ble_eq_true rfl) dX8_errorOfNumber_15 ?_
    refine z_if_eq (tgt := 24) X.1 dX8_errorOfNumber_18 (by decide) h (fun q1262 h => ?_) (fun q1262 h => ?_)
    · refine z_iload_n (i := 2) X.1 dX8_errorOfNumber_24 2 rfl rfl ?_
      refine z_if_lt (tgt := 41) X.1 dX8_errorOfNumber_25 (by decide) h (fun q1263 h => ?_) (fun q1263 h => ?_)
      · refine z_iconst (v := (1 : Int32)) X.1 dX8_errorOfNumber_41 (by decide) ?_
        refine z_goto (tgt := 46) X.1 dX8_errorOfNumber_42 (by decide) ?_
        exact z_iret X dX8_errorOfNumber_46 h
      · refine z_iload_n (i := 2) X.1 dX8_errorOfNumber_28 2 rfl rfl ?_
        refine z_aload_n (i := 0) X.1 dX8_errorOfNumber_29 0 rfl rfl ?_
        refine g_X8_sheets X.1 tw276 dX8_errorOfNumber_30 ?_
        refine z_iload_n (i := 1) X.1 dX8_errorOfNumber_33 1 rfl rfl ?_
        refine al_X8_sheets X.1 dX8_errorOfNumber_34 h (fun hs1264 h => ?_)
        refine g_X4_size hs1264 X.1 tw259 dX8_errorOfNumber_35 ?_
        refine z_icmp_lt (tgt := 45) X.1 dX8_errorOfNumber_38 (by decide) h (fun q1265 h => ?_) (fun q1265 h => ?_)
        · refine z_iconst (v := (0 : Int32)) X.1 dX8_errorOfNumber_45 (by decide) ?_
          exact z_iret X dX8_errorOfNumber_46 h
        · refine z_iconst (v := (1 : Int32)) X.1 dX8_errorOfNumber_41 (by decide) ?_
          refine z_goto (tgt := 46) X.1 dX8_errorOfNumber_42 (by decide) ?_
          exact z_iret X dX8_errorOfNumber_46 h
    · refine z_bipush (v := (6 : Int32)) X.1 dX8_errorOfNumber_21 (by decide) ?_
      exact z_iret X dX8_errorOfNumber_23 h
  · refine z_iconst (v := (1 : Int32)) X.1 dX8_errorOfNumber_7 (by decide) ?_
    exact z_iret X dX8_errorOfNumber_8 h
theorem C_X8_errorOfNumber {ζ : zW} (hZ : zDis ζ zX) {v1 : Int32} {v2 : Int32} {σ σ' : S3} {r : Int32} (h : F_X8_errorOfNumber v1 v2 σ = some (r, σ')) : zMet ζ zX 1 yX8_errorOfNumber cX8_errorOfNumber 3 (some .int) [.ref (zo ζ 0), .int v1, .int v2] σ (some (.int r)) σ' :=
  zMet_of pn_X8 hZ (Nat.le_of_ble_eq_true rfl) (fun κ e X => by subst e; exact B_X8_errorOfNumber_0 X h)
noncomputable def F_X8_put (v1 : Int32) (v2 : Int32) (v3 : Int32) (σ : S3) : R3 :=
  bd (F_X8_errorOfNumber v1 v2 σ) (fun r1251 s1252 => if r1251 = (0 : Int32) then (ck v1 4 (bd (F_X4_write (8 + ix v1) v2 v3 s1252) (fun r1268 s1269 => some ((1 : Int32), s1269))))
  else (bd (F_X8_fail r1251 s1252) (fun r1271 s1272 => some (r1271, s1272))))
set_option maxHeartbeats 4000000 in
set_option maxRecDepth 100000 in
theorem B_X8_put_0 {κ : zT} {σ' : S3} {r : Int32} (X : zC κ zX RX8 cX8_put 5 (some .int) 2 (some (.int r)) σ') {v1 : Int32} {v2 : Int32} {v3 : Int32} {σ : S3} (h : F_X8_put v1 v2 v3 σ = some (r, σ')) : Z κ 5 (zX (ze κ.1) σ) [(0, .ref (zo κ.1 0)), (1, .int v1), (2, .int v2), (3, .int v3)] 0 [] := by
  unfold F_X8_put at h
  refine z_aload_n (i := 0) X.1 dX8_put_0 0 rfl rfl ?_
  refine z_iload_n (i := 1) X.1 dX8_put_1 1 rfl rfl ?_
  refine z_iload_n (i := 2) X.1 dX8_put_2 2 rfl rfl ?_
  obtain ⟨r1251, s1252, hc1253, h⟩ := bd_inv h
  refine cl_X8_252 (d1 := 1) (b := zo κ.1 0) (As := [.int v1, .int v2]) (rest := []) X.1 (by decide) (C_X8_errorOfNumber X.2.1 hc1253) rcX8 rfl rfl (Nat.le_of_ble_eq_true rfl) dX8_put_3 ?_
  refine z_istore (i := 4) (lv' := [(4, .int r1251), (0, .ref (zo κ.1 0)), (1, .int v1), (2, .int v2), (3, .int v3)]) X.1 dX8_put_6 (by decide) rfl ?_
  refine z_iload X.1 dX8_put_8 0 rfl ?_
  refine z_if_eq (tgt := 20) X.1 dX8_put_10 (by decide) h (fun q1266 h => ?_) (fun q1266 h => ?_)
  · refine z_aload_n (i := 0) X.1 dX8_put_20 1 rfl rfl ?_
    refine g_X8_sheets X.1 tw276 dX8_put_21 ?_
    refine z_iload_n (i := 1) X.1 dX8_put_24 2 rfl rfl ?_
    refine al_X8_sheets X.1 dX8_put_25 h (fun hs1267 h => ?_)
    refine z_iload_n (i := 2) X.1 dX8_put_26 3 rfl rfl ?_
    refine z_iload_n (i := 3) X.1 dX8_put_27 4 rfl rfl ?_
    obtain ⟨r1268, s1269, hc1270, h⟩ := bd_inv h
    refine cl_X8_255 (d1 := 0) (b := zo κ.1 (8 + ix v1)) (r := 0) (As := [.int v2, .int v3]) (rest := []) X.1 (by decide) (C_X4_write X.2.1 hs1267 hc1270) (rcX4 hs1267) rfl rfl (Nat.le_of_ble_eq_true rfl) dX8_put_28 ?_
    refine z_iconst (v := (1 : Int32)) X.1 dX8_put_31 (by decide) ?_
    exact z_iret X dX8_put_32 h
  · refine z_aload_n (i := 0) X.1 dX8_put_13 1 rfl rfl ?_
    refine z_iload X.1 dX8_put_14 0 rfl ?_
    obtain ⟨r1271, s1272, hc1273, h⟩ := bd_inv h
    refine cl_X8_69 (d1 := 0) (b := zo κ.1 0) (As := [.int r1251]) (rest := []) X.1 (by decide) (C_X8_fail X.2.1 hc1273) rcX8 rfl rfl (Nat.le_of_ble_eq_true rfl) dX8_put_16 ?_
    exact z_iret X dX8_put_19 h
theorem C_X8_put {ζ : zW} (hZ : zDis ζ zX) {v1 : Int32} {v2 : Int32} {v3 : Int32} {σ σ' : S3} {r : Int32} (h : F_X8_put v1 v2 v3 σ = some (r, σ')) : zMet ζ zX 2 yX8_put cX8_put 5 (some .int) [.ref (zo ζ 0), .int v1, .int v2, .int v3] σ (some (.int r)) σ' :=
  zMet_of pn_X8 hZ (Nat.le_of_ble_eq_true rfl) (fun κ e X => by subst e; exact B_X8_put_0 X h)
noncomputable def F_X8_number (v1 : Int32) (v2 : Int32) (σ : S3) : R3 :=
  bd (F_X8_errorOfNumber v1 v2 σ) (fun r1274 s1275 => if r1274 = (0 : Int32) then (ck v1 4 (ck v2 24 (some (s1275 (8 + ix v1) 2 (ix v2), s1275))))
  else (bd (F_X8_fail r1274 s1275) (fun r1279 s1280 => some (r1279, s1280))))
set_option maxHeartbeats 4000000 in
set_option maxRecDepth 100000 in
theorem B_X8_number_0 {κ : zT} {σ' : S3} {r : Int32} (X : zC κ zX RX8 cX8_number 4 (some .int) 2 (some (.int r)) σ') {v1 : Int32} {v2 : Int32} {σ : S3} (h : F_X8_number v1 v2 σ = some (r, σ')) : Z κ 4 (zX (ze κ.1) σ) [(0, .ref (zo κ.1 0)), (1, .int v1), (2, .int v2)] 0 [] := by
  unfold F_X8_number at h
  refine z_aload_n (i := 0) X.1 dX8_number_0 0 rfl rfl ?_
  refine z_iload_n (i := 1) X.1 dX8_number_1 1 rfl rfl ?_
  refine z_iload_n (i := 2) X.1 dX8_number_2 2 rfl rfl ?_
  obtain ⟨r1274, s1275, hc1276, h⟩ := bd_inv h
  refine cl_X8_252 (d1 := 1) (b := zo κ.1 0) (As := [.int v1, .int v2]) (rest := []) X.1 (by decide) (C_X8_errorOfNumber X.2.1 hc1276) rcX8 rfl rfl (Nat.le_of_ble_eq_true rfl) dX8_number_3 ?_
  refine z_istore_n (i := 3) (lv' := [(3, .int r1274), (0, .ref (zo κ.1 0)), (1, .int v1), (2, .int v2)]) X.1 dX8_number_6 rfl (by decide) rfl ?_
  refine z_iload_n (i := 3) X.1 dX8_number_7 0 rfl rfl ?_
  refine z_if_eq (tgt := 19) X.1 dX8_number_8 (by decide) h (fun q1277 h => ?_) (fun q1277 h => ?_)
  · refine z_aload_n (i := 0) X.1 dX8_number_19 1 rfl rfl ?_
    refine g_X8_sheets X.1 tw276 dX8_number_20 ?_
    refine z_iload_n (i := 1) X.1 dX8_number_23 2 rfl rfl ?_
    refine al_X8_sheets X.1 dX8_number_24 h (fun hs1278 h => ?_)
    refine g_X4_row hs1278 X.1 tw261 dX8_number_25 ?_
    refine z_iload_n (i := 2) X.1 dX8_number_28 3 rfl rfl ?_
    refine al_X4_row hs1278 X.1 dX8_number_29 h (fun h => ?_)
    exact z_iret X dX8_number_30 h
  · refine z_aload_n (i := 0) X.1 dX8_number_11 1 rfl rfl ?_
    refine z_iload_n (i := 3) X.1 dX8_number_12 0 rfl rfl ?_
    obtain ⟨r1279, s1280, hc1281, h⟩ := bd_inv h
    refine cl_X8_69 (d1 := 0) (b := zo κ.1 0) (As := [.int r1274]) (rest := []) X.1 (by decide) (C_X8_fail X.2.1 hc1281) rcX8 rfl rfl (Nat.le_of_ble_eq_true rfl) dX8_number_13 ?_
    refine z_goto (tgt := 30) X.1 dX8_number_16 (by decide) ?_
    exact z_iret X dX8_number_30 h
theorem C_X8_number {ζ : zW} (hZ : zDis ζ zX) {v1 : Int32} {v2 : Int32} {σ σ' : S3} {r : Int32} (h : F_X8_number v1 v2 σ = some (r, σ')) : zMet ζ zX 2 yX8_number cX8_number 4 (some .int) [.ref (zo ζ 0), .int v1, .int v2] σ (some (.int r)) σ' :=
  zMet_of pn_X8 hZ (Nat.le_of_ble_eq_true rfl) (fun κ e X => by subst e; exact B_X8_number_0 X h)
noncomputable def F_X8_copy (v1 : Int32) (v2 : Int32) (v3 : Int32) (v4 : Int32) (v5 : Int32) (σ : S3) : R3 :=
  bd (F_X8_isSheet v1 σ) (fun r1282 s1283 => if r1282 = (0 : Int32) then (bd (F_X8_fail (1 : Int32) s1283) (fun r1286 s1287 => some (r1286, s1287)))
  else (bd (F_X8_isSheet v3 s1283) (fun r1289 s1290 => if r1289 = (0 : Int32) then (bd (F_X8_fail (1 : Int32) s1290) (fun r1328 s1329 => some (r1328, s1329)))
  else (ck v1 4 (ck v3 4 (bd (F_X4_isMissing (8 + ix v1) s1290) (fun r1295 s1296 => if r1295 = (0 : Int32) then (bd (F_X4_isMissing (8 + ix v3) s1296) (fun r1302 s1303 => if r1302 = (0 : Int32) then (if (s1303 (8 + ix v1) 0 0) = (s1303 (8 + ix v3) 0 0) then (bd (F_X4_hasRun (8 + ix v1) v2 v5 s1303) (fun r1307 s1308 => if r1307 = (0 : Int32) then (bd (F_X8_fail (1 : Int32) s1308) (fun r1311 s1312 => some (r1311, s1312)))
  else (bd (F_X4_hasRun (8 + ix v3) v4 v5 s1308) (fun r1314 s1315 => if r1314 = (0 : Int32) then (bd (F_X8_fail (1 : Int32) s1315) (fun r1319 s1320 => some (r1319, s1320)))
  else (ckc v2 v4 v5 24 24 (nm (cpyA s1315 (8 + ix v1) 2 (8 + ix v3) 2 v2 v4 v5) (fun s1318 => some (v5, s1318))))))))
  else (bd (F_X8_fail (5 : Int32) s1303) (fun r1322 s1323 => some (r1322, s1323))))
  else (bd (F_X8_fail (6 : Int32) s1303) (fun r1325 s1326 => some (r1325, s1326)))))
  else (bd (F_X8_fail (6 : Int32) s1296) (fun r1299 s1300 => some (r1299, s1300))))))))))
set_option maxHeartbeats 4000000 in
set_option maxRecDepth 100000 in
theorem B_X8_copy_0 {κ : zT} {σ' : S3} {r : Int32} (X : zC κ zX RX8 cX8_copy 8 (some .int) 1 (some (.int r)) σ') {v1 : Int32} {v2 : Int32} {v3 : Int32} {v4 : Int32} {v5 : Int32} {σ : S3} (h : F_X8_copy v1 v2 v3 v4 v5 σ = some (r, σ')) : Z κ 8 (zX (ze κ.1) σ) [(0, .ref (zo κ.1 0)), (1, .int v1), (2, .int v2), (3, .int v3), (4, .int v4), (5, .int v5)] 0 [] := by
  unfold F_X8_copy at h
  refine z_iload_n (i := 1) X.1 dX8_copy_0 1 rfl rfl ?_
  obtain ⟨r1282, s1283, hc1284, h⟩ := bd_inv h
  refine cl_X8_246 (d1 := 0) (As := [.int v1]) (rest := []) X.1 (by decide) (C_X8_isSheet X.2.1 hc1284) rfl rfl (Nat.le_of_ble_eq_true rfl) dX8_copy_1 ?_
  refine z_if_eq (tgt := 14) X.1 dX8_copy_4 (by decide) h (fun q1285 h => ?_) (fun q1285 h => ?_)
  · refine z_aload_n (i := 0) X.1 dX8_copy_14 0 rfl rfl ?_
    refine z_iconst (v := (1 : Int32)) X.1 dX8_copy_15 (by decide) ?_
    obtain ⟨r1286, s1287, hc1288, h⟩ := bd_inv h
    refine cl_X8_69 (d1 := 0) (b := zo κ.1 0) (As := [.int (1 : Int32)]) (rest := []) X.1 (by decide) (C_X8_fail X.2.1 hc1288) rcX8 rfl rfl (Nat.le_of_ble_eq_true rfl) dX8_copy_16 ?_
    exact z_iret X dX8_copy_19 h
  · refine z_iload_n (i := 3) X.1 dX8_copy_7 3 rfl rfl ?_
    obtain ⟨r1289, s1290, hc1291, h⟩ := bd_inv h
    refine cl_X8_246 (d1 := 0) (As := [.int v3]) (rest := []) X.1 (by decide) (C_X8_isSheet X.2.1 hc1291) rfl rfl (Nat.le_of_ble_eq_true rfl) dX8_copy_8 ?_
    refine z_if_ne (tgt := 20) X.1 dX8_copy_11 (by decide) h (fun q1292 h => ?_) (fun q1292 h => ?_)
    · refine z_aload_n (i := 0) X.1 dX8_copy_20 0 rfl rfl ?_
      refine g_X8_sheets X.1 tw276 dX8_copy_21 ?_
      refine z_iload_n (i := 1) X.1 dX8_copy_24 1 rfl rfl ?_
      refine al_X8_sheets X.1 dX8_copy_25 h (fun hs1293 h => ?_)
      refine z_astore (i := 6) (lv' := [(6, .ref (zo κ.1 (8 + ix v1))), (0, .ref (zo κ.1 0)), (1, .int v1), (2, .int v2), (3, .int v3), (4, .int v4), (5, .int v5)]) X.1 dX8_copy_26 (by decide) rfl ?_
      refine z_aload_n (i := 0) X.1 dX8_copy_28 1 rfl rfl ?_
      refine g_X8_sheets X.1 tw276 dX8_copy_29 ?_
      refine z_iload_n (i := 3) X.1 dX8_copy_32 4 rfl rfl ?_
      refine al_X8_sheets X.1 dX8_copy_33 h (fun hs1294 h => ?_)
      refine z_astore (i := 7) (lv' := [(7, .ref (zo κ.1 (8 + ix v3))), (6, .ref (zo κ.1 (8 + ix v1))), (0, .ref (zo κ.1 0)), (1, .int v1), (2, .int v2), (3, .int v3), (4, .int v4), (5, .int v5)]) X.1 dX8_copy_34 (by decide) rfl ?_
      refine z_aload X.1 dX8_copy_36 1 rfl ?_
      obtain ⟨r1295, s1296, hc1297, h⟩ := bd_inv h
      refine cl_X8_261 (d1 := 0) (b := zo κ.1 (8 + ix v1)) (As := []) (rest := []) X.1 (by decide) (C_X4_isMissing X.2.1 hs1293 hc1297) (rcX4 hs1293) rfl rfl (Nat.le_of_ble_eq_true rfl) dX8_copy_38 ?_
      refine z_if_ne (tgt := 52) X.1 dX8_copy_41 (by decide) h (fun q1298 h => ?_) (fun q1298 h => ?_)
      · refine z_aload_n (i := 0) X.1 dX8_copy_52 2 rfl rfl ?_
        refine z_bipush (v := (6 : Int32)) X.1 dX8_copy_53 (by decide) ?_
        obtain ⟨r1299, s1300, hc1301, h⟩ := bd_inv h
        refine cl_X8_69 (d1 := 0) (b := zo κ.1 0) (As := [.int (6 : Int32)]) (rest := []) X.1 (by decide) (C_X8_fail X.2.1 hc1301) rcX8 rfl rfl (Nat.le_of_ble_eq_true rfl) dX8_copy_55 ?_
        exact z_iret X dX8_copy_58 h
      · refine z_aload X.1 dX8_copy_44 0 rfl ?_
        obtain ⟨r1302, s1303, hc1304, h⟩ := bd_inv h
        refine cl_X8_261 (d1 := 0) (b := zo κ.1 (8 + ix v3)) (As := []) (rest := []) X.1 (by decide) (C_X4_isMissing X.2.1 hs1294 hc1304) (rcX4 hs1294) rfl rfl (Nat.le_of_ble_eq_true rfl) dX8_copy_46 ?_
        refine z_if_eq (tgt := 59) X.1 dX8_copy_49 (by decide) h (fun q1305 h => ?_) (fun q1305 h => ?_)
        · refine z_aload X.1 dX8_copy_59 1 rfl ?_
          refine g_X4_bits hs1293 X.1 tw257 dX8_copy_61 ?_
          refine z_aload X.1 dX8_copy_64 0 rfl ?_
          refine g_X4_bits hs1294 X.1 tw257 dX8_copy_66 ?_
          refine z_icmp_eq (tgt := 78) X.1 dX8_copy_69 (by decide) h (fun q1306 h => ?_) (fun q1306 h => ?_)
          · refine z_aload X.1 dX8_copy_78 1 rfl ?_
            refine z_iload_n (i := 2) X.1 dX8_copy_80 4 rfl rfl ?_
            refine z_iload X.1 dX8_copy_81 7 rfl ?_
            obtain ⟨r1307, s1308, hc1309, h⟩ := bd_inv h
            refine cl_X8_267 (d1 := 0) (b := zo κ.1 (8 + ix v1)) (As := [.int v2, .int v5]) (rest := []) X.1 (by decide) (C_X4_hasRun X.2.1 hs1293 hc1309) (rcX4 hs1293) rfl rfl (Nat.le_of_ble_eq_true rfl) dX8_copy_83 ?_
            refine z_if_eq (tgt := 101) X.1 dX8_copy_86 (by decide) h (fun q1310 h => ?_) (fun q1310 h => ?_)
            · refine z_aload_n (i := 0) X.1 dX8_copy_101 2 rfl rfl ?_
              refine z_iconst (v := (1 : Int32)) X.1 dX8_copy_102 (by decide) ?_
              obtain ⟨r1311, s1312, hc1313, h⟩ := bd_inv h
              refine cl_X8_69 (d1 := 0) (b := zo κ.1 0) (As := [.int (1 : Int32)]) (rest := []) X.1 (by decide) (C_X8_fail X.2.1 hc1313) rcX8 rfl rfl (Nat.le_of_ble_eq_true rfl) dX8_copy_103 ?_
              exact z_iret X dX8_copy_106 h
            · refine z_aload X.1 dX8_copy_89 0 rfl ?_
              refine z_iload X.1 dX8_copy_91 6 rfl ?_
              refine z_iload X.1 dX8_copy_93 7 rfl ?_
              obtain ⟨r1314, s1315, hc1316, h⟩ := bd_inv h
              refine cl_X8_267 (d1 := 0) (b := zo κ.1 (8 + ix v3)) (As := [.int v4, .int v5]) (rest := []) X.1 (by decide) (C_X4_hasRun X.2.1 hs1294 hc1316) (rcX4 hs1294) rfl rfl (Nat.le_of_ble_eq_true rfl) dX8_copy_95 ?_
              refine z_if_ne (tgt := 107) X.1 dX8_copy_98 (by decide) h (fun q1317 h => ?_) (fun q1317 h => ?_)
              · refine z_aload X.1 dX8_copy_107 1 rfl ?_
                refine g_X4_row hs1293 X.1 tw261 dX8_copy_109 ?_
                refine z_iload_n (i := 2) X.1 dX8_copy_112 4 rfl rfl ?_
                refine z_aload X.1 dX8_copy_113 0 rfl ?_
                refine g_X4_row hs1294 X.1 tw261 dX8_copy_115 ?_
                refine z_iload X.1 dX8_copy_118 6 rfl ?_
                refine z_iload X.1 dX8_copy_120 7 rfl ?_
                refine cp_X4_row hs1294 hs1293 X.1 (by decide) X.2.1 tw760 (Nat.le_of_ble_eq_true rfl) dX8_copy_122 h (fun s1318 h => ?_)
                refine z_iload X.1 dX8_copy_125 7 rfl ?_
                exact z_iret X dX8_copy_127 h
              · refine z_aload_n (i := 0) X.1 dX8_copy_101 2 rfl rfl ?_
                refine z_iconst (v := (1 : Int32)) X.1 dX8_copy_102 (by decide) ?_
                obtain ⟨r1319, s1320, hc1321, h⟩ := bd_inv h
                refine cl_X8_69 (d1 := 0) (b := zo κ.1 0) (As := [.int (1 : Int32)]) (rest := []) X.1 (by decide) (C_X8_fail X.2.1 hc1321) rcX8 rfl rfl (Nat.le_of_ble_eq_true rfl) dX8_copy_103 ?_
                exact z_iret X dX8_copy_106 h
          · refine z_aload_n (i := 0) X.1 dX8_copy_72 2 rfl rfl ?_
            refine z_iconst (v := (5 : Int32)) X.1 dX8_copy_73 (by decide) ?_
            obtain ⟨r1322, s1323, hc1324, h⟩ := bd_inv h
            refine cl_X8_69 (d1 := 0) (b := zo κ.1 0) (As := [.int (5 : Int32)]) (rest := []) X.1 (by decide) (C_X8_fail X.2.1 hc1324) rcX8 rfl rfl (Nat.le_of_ble_eq_true rfl) dX8_copy_74 ?_
            exact z_iret X dX8_copy_77 h
        · refine z_aload_n (i := 0) X.1 dX8_copy_52 2 rfl rfl ?_
          refine z_bipush (v := (6 : Int32)) X.1 dX8_copy_53 (by decide) ?_
          obtain ⟨r1325, s1326, hc1327, h⟩ := bd_inv h
          refine cl_X8_69 (d1 := 0) (b := zo κ.1 0) (As := [.int (6 : Int32)]) (rest := []) X.1 (by decide) (C_X8_fail X.2.1 hc1327) rcX8 rfl rfl (Nat.le_of_ble_eq_true rfl) dX8_copy_55 ?_
          exact z_iret X dX8_copy_58 h
    · refine z_aload_n (i := 0) X.1 dX8_copy_14 0 rfl rfl ?_
      refine z_iconst (v := (1 : Int32)) X.1 dX8_copy_15 (by decide) ?_
      obtain ⟨r1328, s1329, hc1330, h⟩ := bd_inv h
      refine cl_X8_69 (d1 := 0) (b := zo κ.1 0) (As := [.int (1 : Int32)]) (rest := []) X.1 (by decide) (C_X8_fail X.2.1 hc1330) rcX8 rfl rfl (Nat.le_of_ble_eq_true rfl) dX8_copy_16 ?_
      exact z_iret X dX8_copy_19 h
theorem C_X8_copy {ζ : zW} (hZ : zDis ζ zX) {v1 : Int32} {v2 : Int32} {v3 : Int32} {v4 : Int32} {v5 : Int32} {σ σ' : S3} {r : Int32} (h : F_X8_copy v1 v2 v3 v4 v5 σ = some (r, σ')) : zMet ζ zX 1 yX8_copy cX8_copy 8 (some .int) [.ref (zo ζ 0), .int v1, .int v2, .int v3, .int v4, .int v5] σ (some (.int r)) σ' :=
  zMet_of pn_X8 hZ (Nat.le_of_ble_eq_true rfl) (fun κ e X => by subst e; exact B_X8_copy_0 X h)
noncomputable def Fb_X8_degrees_64 (v1 : Int32) (v2 : Int32) (v3 : Int32) (K64 : Int32 → S3 → R3) (v4 : Int32) (σ : S3) : R3 :=
  if v3 ≤ v4 then (some (v3, σ))
  else (ck v1 4 (bd (F_X2_degree 1 v4 v2 σ) (fun r1352 s1353 => bd (F_X4_write (8 + ix v1) v4 r1352 s1353) (fun r1355 s1356 => nm (v4 + (1 : Int32)) (fun x1358 => K64 x1358 s1356)))))
noncomputable def F_X8_degrees_64 (v1 : Int32) (v2 : Int32) (v3 : Int32) (n : Nat) : Int32 → S3 → R3 := zl1 (Fb_X8_degrees_64 v1 v2 v3) n
set_option maxHeartbeats 4000000 in
set_option maxRecDepth 100000 in
theorem B_X8_degrees_64 {κ : zT} {σ' : S3} {r : Int32} (X : zC κ zX RX8 cX8_degrees 5 (some .int) 2 (some (.int r)) σ') {v1 : Int32} {v2 : Int32} {v3 : Int32} : ∀ (n : Nat) (v4 : Int32) (σ : S3), F_X8_degrees_64 v1 v2 v3 n v4 σ = some (r, σ') → Z κ 5 (zX (ze κ.1) σ) [(0, .ref (zo κ.1 0)), (1, .int v1), (2, .int v2), (3, .int v3), (4, .int v4)] 64 [] := by
  intro n
  induction n with
  | zero =>
    intro v4 σ h
    cases (show (none : R3) = some (r, σ') from h)
  | succ n ih =>
    intro v4 σ h
    have hK64 := ih
    have h : Fb_X8_degrees_64 v1 v2 v3 (F_X8_degrees_64 v1 v2 v3 n) v4 σ = some (r, σ') := h
    unfold Fb_X8_degrees_64 at h
    refine z_iload X.1 dX8_degrees_64 4 rfl ?_
    refine z_iload_n (i := 3) X.1 dX8_degrees_66 3 rfl rfl ?_
    refine z_icmp_ge (tgt := 97) X.1 dX8_degrees_67 (by decide) h (fun q1350 h => ?_) (fun q1350 h => ?_)
    · refine z_iload_n (i := 3) X.1 dX8_degrees_97 3 rfl rfl ?_
      exact z_iret X dX8_degrees_98 h
    · refine z_aload_n (i := 0) X.1 dX8_degrees_70 0 rfl rfl ?_
      refine g_X8_sheets X.1 tw276 dX8_degrees_71 ?_
      refine z_iload_n (i := 1) X.1 dX8_degrees_74 1 rfl rfl ?_
      refine al_X8_sheets X.1 dX8_degrees_75 h (fun hs1351 h => ?_)
      refine z_iload X.1 dX8_degrees_76 4 rfl ?_
      refine z_aload_n (i := 0) X.1 dX8_degrees_78 0 rfl rfl ?_
      refine g_X8_net X.1 tw269 dX8_degrees_79 ?_
      refine z_iload X.1 dX8_degrees_82 4 rfl ?_
      refine z_iload_n (i := 2) X.1 dX8_degrees_84 2 rfl rfl ?_
      obtain ⟨r1352, s1353, hc1354, h⟩ := bd_inv h
      refine cl_X8_118 (d1 := 1) (b := zo κ.1 1) (As := [.int v4, .int v2]) (rest := [.int v4, .ref (zo κ.1 (8 + ix v1))]) X.1 (by decide) (C_X2_degree X.2.1 (Or.inl rfl) hc1354) (rcX2 (Or.inl rfl)) rfl rfl (Nat.le_of_ble_eq_true rfl) dX8_degrees_85 ?_
      obtain ⟨r1355, s1356, hc1357, h⟩ := bd_inv h
      refine cl_X8_255 (d1 := 0) (b := zo κ.1 (8 + ix v1)) (r := 0) (As := [.int v4, .int r1352]) (rest := []) X.1 (by decide) (C_X4_write X.2.1 hs1351 hc1357) (rcX4 hs1351) rfl rfl (Nat.le_of_ble_eq_true rfl) dX8_degrees_88 ?_
      refine z_iinc_m (v := (1 : Int32)) (lv' := fun x1358 => [(4, .int x1358), (0, .ref (zo κ.1 0)), (1, .int v1), (2, .int v2), (3, .int v3)]) X.1 dX8_degrees_91 4 rfl (by decide) (by decide) (fun _ => rfl) h (fun x1358 h => ?_)
      refine z_goto (tgt := 64) X.1 dX8_degrees_94 (by decide) ?_
      exact z_sub [1, 2, 3, 4, 0] rfl (hK64 _ _ h)
noncomputable def F_X8_degrees (v1 : Int32) (v2 : Int32) (σ : S3) : R3 :=
  bd (F_X8_isSheet v1 σ) (fun r1331 s1332 => if r1331 = (0 : Int32) then (bd (F_X8_fail (1 : Int32) s1332) (fun r1335 s1336 => some (r1335, s1336)))
  else (if v2 < (0 : Int32) then (bd (F_X8_fail (1 : Int32) s1332) (fun r1339 s1340 => some (r1339, s1340)))
  else (if v2 ≤ (2 : Int32) then (ck v1 4 (bd (F_X4_isMissing (8 + ix v1) s1332) (fun r1344 s1345 => if r1344 = (0 : Int32) then (ck v1 4 (nm (if (s1345 1 0 0) < (s1345 (8 + ix v1) 1 0) then (s1345 1 0 0) else (s1345 (8 + ix v1) 1 0)) (fun x1349 => F_X8_degrees_64 v1 v2 x1349 zF (0 : Int32) s1345)))
  else (bd (F_X8_fail (6 : Int32) s1345) (fun r1359 s1360 => some (r1359, s1360))))))
  else (bd (F_X8_fail (1 : Int32) s1332) (fun r1362 s1363 => some (r1362, s1363))))))
set_option maxHeartbeats 4000000 in
set_option maxRecDepth 100000 in
theorem B_X8_degrees_0 {κ : zT} {σ' : S3} {r : Int32} (X : zC κ zX RX8 cX8_degrees 5 (some .int) 2 (some (.int r)) σ') {v1 : Int32} {v2 : Int32} {σ : S3} (h : F_X8_degrees v1 v2 σ = some (r, σ')) : Z κ 5 (zX (ze κ.1) σ) [(0, .ref (zo κ.1 0)), (1, .int v1), (2, .int v2)] 0 [] := by
  unfold F_X8_degrees at h
  refine z_iload_n (i := 1) X.1 dX8_degrees_0 1 rfl rfl ?_
  obtain ⟨r1331, s1332, hc1333, h⟩ := bd_inv h
  refine cl_X8_246 (d1 := 0) (As := [.int v1]) (rest := []) X.1 (by decide) (C_X8_isSheet X.2.1 hc1333) rfl rfl (Nat.le_of_ble_eq_true rfl) dX8_degrees_1 ?_
  refine z_if_eq (tgt := 16) X.1 dX8_degrees_4 (by decide) h (fun q1334 h => ?_) (fun q1334 h => ?_)
  · refine z_aload_n (i := 0) X.1 dX8_degrees_16 0 rfl rfl ?_
    refine z_iconst (v := (1 : Int32)) X.1 dX8_degrees_17 (by decide) ?_
    obtain ⟨r1335, s1336, hc1337, h⟩ := bd_inv h
    refine cl_X8_69 (d1 := 0) (b := zo κ.1 0) (As := [.int (1 : Int32)]) (rest := []) X.1 (by decide) (C_X8_fail X.2.1 hc1337) rcX8 rfl rfl (Nat.le_of_ble_eq_true rfl) dX8_degrees_18 ?_
    exact z_iret X dX8_degrees_21 h
  · refine z_iload_n (i := 2) X.1 dX8_degrees_7 2 rfl rfl ?_
    refine z_if_lt (tgt := 16) X.1 dX8_degrees_8 (by decide) h (fun q1338 h => ?_) (fun q1338 h => ?_)
    · refine z_aload_n (i := 0) X.1 dX8_degrees_16 0 rfl rfl ?_
      refine z_iconst (v := (1 : Int32)) X.1 dX8_degrees_17 (by decide) ?_
      obtain ⟨r1339, s1340, hc1341, h⟩ := bd_inv h
      refine cl_X8_69 (d1 := 0) (b := zo κ.1 0) (As := [.int (1 : Int32)]) (rest := []) X.1 (by decide) (C_X8_fail X.2.1 hc1341) rcX8 rfl rfl (Nat.le_of_ble_eq_true rfl) dX8_degrees_18 ?_
      exact z_iret X dX8_degrees_21 h
    · refine z_iload_n (i := 2) X.1 dX8_degrees_11 2 rfl rfl ?_
      refine z_iconst (v := (2 : Int32)) X.1 dX8_degrees_12 (by decide) ?_
      refine z_icmp_le (tgt := 22) X.1 dX8_degrees_13 (by decide) h (fun q1342 h => ?_) (fun q1342 h => ?_)
      · refine z_aload_n (i := 0) X.1 dX8_degrees_22 0 rfl rfl ?_
        refine g_X8_sheets X.1 tw276 dX8_degrees_23 ?_
        refine z_iload_n (i := 1) X.1 dX8_degrees_26 1 rfl rfl ?_
        refine al_X8_sheets X.1 dX8_degrees_27 h (fun hs1343 h => ?_)
        obtain ⟨r1344, s1345, hc1346, h⟩ := bd_inv h
        refine cl_X8_261 (d1 := 0) (b := zo κ.1 (8 + ix v1)) (As := []) (rest := []) X.1 (by decide) (C_X4_isMissing X.2.1 hs1343 hc1346) (rcX4 hs1343) rfl rfl (Nat.le_of_ble_eq_true rfl) dX8_degrees_28 ?_
        refine z_if_eq (tgt := 41) X.1 dX8_degrees_31 (by decide) h (fun q1347 h => ?_) (fun q1347 h => ?_)
        · refine z_aload_n (i := 0) X.1 dX8_degrees_41 0 rfl rfl ?_
          refine g_X8_sheets X.1 tw276 dX8_degrees_42 ?_
          refine z_iload_n (i := 1) X.1 dX8_degrees_45 1 rfl rfl ?_
          refine al_X8_sheets X.1 dX8_degrees_46 h (fun hs1348 h => ?_)
          refine g_X4_size hs1348 X.1 tw259 dX8_degrees_47 ?_
          refine z_aload_n (i := 0) X.1 dX8_degrees_50 0 rfl rfl ?_
          refine g_X8_net X.1 tw269 dX8_degrees_51 ?_
          refine g_X2_size (Or.inl rfl) X.1 tw98 dX8_degrees_54 ?_
          refine z_mmin X.1 (by decide) tw765 tw546 tw81 tw547 (Nat.le_of_ble_eq_true rfl) dX8_degrees_57 ?_
          refine z_istore_nn (i := 3) (lv' := fun x1349 => [(3, .int x1349), (0, .ref (zo κ.1 0)), (1, .int v1), (2, .int v2)]) X.1 dX8_degrees_60 rfl (by decide) (fun _ => rfl) h (fun x1349 h => ?_)
          refine z_iconst (v := (0 : Int32)) X.1 dX8_degrees_61 (by decide) ?_
          refine z_istore (i := 4) (lv' := [(4, .int (0 : Int32)), (3, .int x1349), (0, .ref (zo κ.1 0)), (1, .int v1), (2, .int v2)]) X.1 dX8_degrees_62 (by decide) rfl ?_
          exact z_sub [2, 3, 4, 1, 0] rfl (B_X8_degrees_64 X zF _ _ h)
        · refine z_aload_n (i := 0) X.1 dX8_degrees_34 0 rfl rfl ?_
          refine z_bipush (v := (6 : Int32)) X.1 dX8_degrees_35 (by decide) ?_
          obtain ⟨r1359, s1360, hc1361, h⟩ := bd_inv h
          refine cl_X8_69 (d1 := 0) (b := zo κ.1 0) (As := [.int (6 : Int32)]) (rest := []) X.1 (by decide) (C_X8_fail X.2.1 hc1361) rcX8 rfl rfl (Nat.le_of_ble_eq_true rfl) dX8_degrees_37 ?_
          exact z_iret X dX8_degrees_40 h
      · refine z_aload_n (i := 0) X.1 dX8_degrees_16 0 rfl rfl ?_
        refine z_iconst (v := (1 : Int32)) X.1 dX8_degrees_17 (by decide) ?_
        obtain ⟨r1362, s1363, hc1364, h⟩ := bd_inv h
        refine cl_X8_69 (d1 := 0) (b := zo κ.1 0) (As := [.int (1 : Int32)]) (rest := []) X.1 (by decide) (C_X8_fail X.2.1 hc1364) rcX8 rfl rfl (Nat.le_of_ble_eq_true rfl) dX8_degrees_18 ?_
        exact z_iret X dX8_degrees_21 h
theorem C_X8_degrees {ζ : zW} (hZ : zDis ζ zX) {v1 : Int32} {v2 : Int32} {σ σ' : S3} {r : Int32} (h : F_X8_degrees v1 v2 σ = some (r, σ')) : zMet ζ zX 2 yX8_degrees cX8_degrees 5 (some .int) [.ref (zo ζ 0), .int v1, .int v2] σ (some (.int r)) σ' :=
  zMet_of pn_X8 hZ (Nat.le_of_ble_eq_true rfl) (fun κ e X => by subst e; exact B_X8_degrees_0 X h)
noncomputable def F_X8_walks_150 (v2 : Int32) (v3 : Int32) (v4 : Int32) (σ : S3) : R3 :=
  if v2 = (0 : Int32) then (some (v4, σ))
  else (bd (F_X1_wins v3 σ) (fun r1389 s1390 => if r1389 = (0 : Int32) then (some ((0 : Int32), s1390))
  else (some ((1 : Int32), s1390))))
set_option maxHeartbeats 4000000 in
set_option maxRecDepth 100000 in
theorem B_X8_walks_150 {κ : zT} {σ' : S3} {r : Int32} (X : zC κ zX RX8 cX8_walks 7 (some .int) 24 (some (.int r)) σ') {v2 : Int32} {v3 : Int32} {v4 : Int32} {σ : S3} (h : F_X8_walks_150 v2 v3 v4 σ = some (r, σ')) : Z κ 7 (zX (ze κ.1) σ) [(0, .ref (zo κ.1 0)), (2, .int v2), (3, .int v3), (4, .int v4)] 150 [] := by
  unfold F_X8_walks_150 at h
  refine z_iload_n (i := 2) X.1 dX8_walks_150 1 rfl rfl ?_
  refine z_if_ne (tgt := 157) X.1 dX8_walks_151 (by decide) h (fun q1388 h => ?_) (fun q1388 h => ?_)
  · refine z_aload_n (i := 0) X.1 dX8_walks_157 0 rfl rfl ?_
    refine g_X8_judge X.1 tw271 dX8_walks_158 ?_
    refine z_iload_n (i := 3) X.1 dX8_walks_161 2 rfl rfl ?_
    obtain ⟨r1389, s1390, hc1391, h⟩ := bd_inv h
    refine cl_X8_171 (d1 := 23) (b := zo κ.1 3) (As := [.int v3]) (rest := []) X.1 (by decide) (C_X1_wins X.2.1 hc1391) rcX1 rfl rfl (Nat.le_of_ble_eq_true rfl) dX8_walks_162 ?_
    refine z_if_eq (tgt := 172) X.1 dX8_walks_165 (by decide) h (fun q1392 h => ?_) (fun q1392 h => ?_)
    · refine z_iconst (v := (0 : Int32)) X.1 dX8_walks_172 (by decide) ?_
      exact z_iret X dX8_walks_173 h
    · refine z_iconst (v := (1 : Int32)) X.1 dX8_walks_168 (by decide) ?_
      refine z_goto (tgt := 173) X.1 dX8_walks_169 (by decide) ?_
      exact z_iret X dX8_walks_173 h
  · refine z_iload X.1 dX8_walks_154 3 rfl ?_
    exact z_iret X dX8_walks_156 h
noncomputable def Fb_X8_walks_71 (v1 : Int32) (v2 : Int32) (K71 : Int32 → Int32 → Int32 → S3 → R3) (v3 : Int32) (v4 : Int32) (v5 : Int32) (σ : S3) : R3 :=
  ck v1 4 (if (σ (8 + ix v1) 1 0) ≤ v5 then (F_X8_walks_150 v2 v3 v4 σ)
  else (ck v1 4 (ck v5 24 (nm (σ (8 + ix v1) 2 (ix v5)) (fun x1394 => bd (F_X2_hasLine 1 x1394 σ) (fun r1395 s1396 => if r1395 = (0 : Int32) then (F_X8_walks_150 v2 v3 v4 s1396)
  else (bd (F_X1_movesFrom v3 s1396) (fun r1399 s1400 => if ((r1399 >>> (x1394 &&& 31)) &&& (1 : Int32)) = (0 : Int32) then (F_X8_walks_150 v2 v3 v4 s1400)
  else (bd (F_X1_behind v3 x1394 s1400) (fun r1403 s1404 => nm (v4 + (1 : Int32)) (fun x1406 => nm (v5 + (1 : Int32)) (fun x1407 => K71 r1403 x1406 x1407 s1404))))))))))))
noncomputable def F_X8_walks_71 (v1 : Int32) (v2 : Int32) (n : Nat) : Int32 → Int32 → Int32 → S3 → R3 := zl3 (Fb_X8_walks_71 v1 v2) n
set_option maxHeartbeats 4000000 in
set_option maxRecDepth 100000 in
theorem B_X8_walks_71 {κ : zT} {σ' : S3} {r : Int32} (X : zC κ zX RX8 cX8_walks 7 (some .int) 24 (some (.int r)) σ') {v1 : Int32} {v2 : Int32} : ∀ (n : Nat) (v3 : Int32) (v4 : Int32) (v5 : Int32) (σ : S3), F_X8_walks_71 v1 v2 n v3 v4 v5 σ = some (r, σ') → Z κ 7 (zX (ze κ.1) σ) [(0, .ref (zo κ.1 0)), (1, .int v1), (2, .int v2), (3, .int v3), (4, .int v4), (5, .int v5)] 71 [] := by
  intro n
  induction n with
  | zero =>
    intro v3 v4 v5 σ h
    cases (show (none : R3) = some (r, σ') from h)
  | succ n ih =>
    intro v3 v4 v5 σ h
    have hK71 := ih
    have h : Fb_X8_walks_71 v1 v2 (F_X8_walks_71 v1 v2 n) v3 v4 v5 σ = some (r, σ') := h
    unfold Fb_X8_walks_71 at h
    refine z_iload X.1 dX8_walks_71 5 rfl ?_
    refine z_aload_n (i := 0) X.1 dX8_walks_73 0 rfl rfl ?_
    refine g_X8_sheets X.1 tw276 dX8_walks_74 ?_
    refine z_iload_n (i := 1) X.1 dX8_walks_77 1 rfl rfl ?_
    refine al_X8_sheets X.1 dX8_walks_78 h (fun hs1386 h => ?_)
    refine g_X4_size hs1386 X.1 tw259 dX8_walks_79 ?_
    refine z_icmp_ge (tgt := 150) X.1 dX8_walks_82 (by decide) h (fun q1387 h => ?_) (fun q1387 h => ?_)
    · exact z_sub [0, 2, 3, 4] rfl (B_X8_walks_150 X h)
    · refine z_aload_n (i := 0) X.1 dX8_walks_85 0 rfl rfl ?_
      refine g_X8_sheets X.1 tw276 dX8_walks_86 ?_
      refine z_iload_n (i := 1) X.1 dX8_walks_89 1 rfl rfl ?_
      refine al_X8_sheets X.1 dX8_walks_90 h (fun hs1393 h => ?_)
      refine g_X4_row hs1393 X.1 tw261 dX8_walks_91 ?_
      refine z_iload X.1 dX8_walks_94 5 rfl ?_
      refine al_X4_row hs1393 X.1 dX8_walks_96 h (fun h => ?_)
      refine z_istore_m (i := 6) (lv' := fun x1394 => [(6, .int x1394), (0, .ref (zo κ.1 0)), (1, .int v1), (2, .int v2), (3, .int v3), (4, .int v4), (5, .int v5)]) X.1 dX8_walks_97 (by decide) (fun _ => rfl) h (fun x1394 h => ?_)
      refine z_aload_n (i := 0) X.1 dX8_walks_99 1 rfl rfl ?_
      refine g_X8_net X.1 tw269 dX8_walks_100 ?_
      refine z_iload X.1 dX8_walks_103 0 rfl ?_
      obtain ⟨r1395, s1396, hc1397, h⟩ := bd_inv h
      refine cl_X8_99 (d1 := 0) (b := zo κ.1 1) (As := [.int x1394]) (rest := []) X.1 (by decide) (C_X2_hasLine X.2.1 (Or.inl rfl) hc1397) (rcX2 (Or.inl rfl)) rfl rfl (Nat.le_of_ble_eq_true rfl) dX8_walks_105 ?_
      refine z_if_eq (tgt := 150) X.1 dX8_walks_108 (by decide) h (fun q1398 h => ?_) (fun q1398 h => ?_)
      · exact z_sub [1, 3, 4, 5] rfl (B_X8_walks_150 X h)
      · refine z_aload_n (i := 0) X.1 dX8_walks_111 1 rfl rfl ?_
        refine g_X8_judge X.1 tw271 dX8_walks_112 ?_
        refine z_iload_n (i := 3) X.1 dX8_walks_115 4 rfl rfl ?_
        obtain ⟨r1399, s1400, hc1401, h⟩ := bd_inv h
        refine cl_X8_178 (d1 := 1) (b := zo κ.1 3) (As := [.int v3]) (rest := []) X.1 (by decide) (C_X1_movesFrom X.2.1 hc1401) rcX1 rfl rfl (Nat.le_of_ble_eq_true rfl) dX8_walks_116 ?_
        refine z_iload X.1 dX8_walks_119 0 rfl ?_
        refine z_ishr X.1 dX8_walks_121 ?_
        refine z_iconst (v := (1 : Int32)) X.1 dX8_walks_122 (by decide) ?_
        refine z_iand X.1 dX8_walks_123 ?_
        refine z_if_ne (tgt := 130) X.1 dX8_walks_124 (by decide) h (fun q1402 h => ?_) (fun q1402 h => ?_)
        · refine z_aload_n (i := 0) X.1 dX8_walks_130 1 rfl rfl ?_
          refine g_X8_judge X.1 tw271 dX8_walks_131 ?_
          refine z_iload_n (i := 3) X.1 dX8_walks_134 4 rfl rfl ?_
          refine z_iload X.1 dX8_walks_135 0 rfl ?_
          obtain ⟨r1403, s1404, hc1405, h⟩ := bd_inv h
          refine cl_X8_181 (d1 := 1) (b := zo κ.1 3) (As := [.int v3, .int x1394]) (rest := []) X.1 (by decide) (C_X1_behind X.2.1 hc1405) rcX1 rfl rfl (Nat.le_of_ble_eq_true rfl) dX8_walks_137 ?_
          refine z_istore_n (i := 3) (lv' := [(3, .int r1403), (6, .int x1394), (0, .ref (zo κ.1 0)), (1, .int v1), (2, .int v2), (4, .int v4), (5, .int v5)]) X.1 dX8_walks_140 rfl (by decide) rfl ?_
          refine z_iinc_m (v := (1 : Int32)) (lv' := fun x1406 => [(4, .int x1406), (3, .int r1403), (6, .int x1394), (0, .ref (zo κ.1 0)), (1, .int v1), (2, .int v2), (5, .int v5)]) X.1 dX8_walks_141 5 rfl (by decide) (by decide) (fun _ => rfl) h (fun x1406 h => ?_)
          refine z_iinc_m (v := (1 : Int32)) (lv' := fun x1407 => [(5, .int x1407), (4, .int x1406), (3, .int r1403), (6, .int x1394), (0, .ref (zo κ.1 0)), (1, .int v1), (2, .int v2)]) X.1 dX8_walks_144 6 rfl (by decide) (by decide) (fun _ => rfl) h (fun x1407 h => ?_)
          refine z_goto (tgt := 71) X.1 dX8_walks_147 (by decide) ?_
          exact z_sub [4, 5, 6, 2, 1, 0] rfl (hK71 _ _ _ _ h)
        · refine z_goto (tgt := 150) X.1 dX8_walks_127 (by decide) ?_
          exact z_sub [1, 3, 4, 5] rfl (B_X8_walks_150 X h)
noncomputable def F_X8_walks (v1 : Int32) (v2 : Int32) (σ : S3) : R3 :=
  bd (F_X8_isSheet v1 σ) (fun r1365 s1366 => if r1365 = (0 : Int32) then (bd (F_X8_fail (1 : Int32) s1366) (fun r1369 s1370 => some (r1369, s1370)))
  else (if v2 < (0 : Int32) then (bd (F_X8_fail (1 : Int32) s1366) (fun r1373 s1374 => some (r1373, s1374)))
  else (if v2 ≤ (1 : Int32) then (ck v1 4 (bd (F_X4_isMissing (8 + ix v1) s1366) (fun r1378 s1379 => if r1378 = (0 : Int32) then (if (s1379 6 0 0) = (0 : Int32) then (bd (F_X8_fail (3 : Int32) s1379) (fun r1408 s1409 => some (r1408, s1409)))
  else (bd (F_X0_stand s1379) (fun r1383 s1384 => F_X8_walks_71 v1 v2 zF r1383 (0 : Int32) (0 : Int32) s1384)))
  else (bd (F_X8_fail (6 : Int32) s1379) (fun r1411 s1412 => some (r1411, s1412))))))
  else (bd (F_X8_fail (1 : Int32) s1366) (fun r1414 s1415 => some (r1414, s1415))))))
set_option maxHeartbeats 4000000 in
set_option maxRecDepth 100000 in
theorem B_X8_walks_0 {κ : zT} {σ' : S3} {r : Int32} (X : zC κ zX RX8 cX8_walks 7 (some .int) 24 (some (.int r)) σ') {v1 : Int32} {v2 : Int32} {σ : S3} (h : F_X8_walks v1 v2 σ = some (r, σ')) : Z κ 7 (zX (ze κ.1) σ) [(0, .ref (zo κ.1 0)), (1, .int v1), (2, .int v2)] 0 [] := by
  unfold F_X8_walks at h
  refine z_iload_n (i := 1) X.1 dX8_walks_0 1 rfl rfl ?_
  obtain ⟨r1365, s1366, hc1367, h⟩ := bd_inv h
  refine cl_X8_246 (d1 := 0) (As := [.int v1]) (rest := []) X.1 (by decide) (C_X8_isSheet X.2.1 hc1367) rfl rfl (Nat.le_of_ble_eq_true rfl) dX8_walks_1 ?_
  refine z_if_eq (tgt := 16) X.1 dX8_walks_4 (by decide) h (fun q1368 h => ?_) (fun q1368 h => ?_)
  · refine z_aload_n (i := 0) X.1 dX8_walks_16 0 rfl rfl ?_
    refine z_iconst (v := (1 : Int32)) X.1 dX8_walks_17 (by decide) ?_
    obtain ⟨r1369, s1370, hc1371, h⟩ := bd_inv h
    refine cl_X8_69 (d1 := 0) (b := zo κ.1 0) (As := [.int (1 : Int32)]) (rest := []) X.1 (by decide) (C_X8_fail X.2.1 hc1371) rcX8 rfl rfl (Nat.le_of_ble_eq_true rfl) dX8_walks_18 ?_
    exact z_iret X dX8_walks_21 h
  · refine z_iload_n (i := 2) X.1 dX8_walks_7 2 rfl rfl ?_
    refine z_if_lt (tgt := 16) X.1 dX8_walks_8 (by decide) h (fun q1372 h => ?_) (fun q1372 h => ?_)
    · refine z_aload_n (i := 0) X.1 dX8_walks_16 0 rfl rfl ?_
      refine z_iconst (v := (1 : Int32)) X.1 dX8_walks_17 (by decide) ?_
      obtain ⟨r1373, s1374, hc1375, h⟩ := bd_inv h
      refine cl_X8_69 (d1 := 0) (b := zo κ.1 0) (As := [.int (1 : Int32)]) (rest := []) X.1 (by decide) (C_X8_fail X.2.1 hc1375) rcX8 rfl rfl (Nat.le_of_ble_eq_true rfl) dX8_walks_18 ?_
      exact z_iret X dX8_walks_21 h
    · refine z_iload_n (i := 2) X.1 dX8_walks_11 2 rfl rfl ?_
      refine z_iconst (v := (1 : Int32)) X.1 dX8_walks_12 (by decide) ?_
      refine z_icmp_le (tgt := 22) X.1 dX8_walks_13 (by decide) h (fun q1376 h => ?_) (fun q1376 h => ?_)
      · refine z_aload_n (i := 0) X.1 dX8_walks_22 0 rfl rfl ?_
        refine g_X8_sheets X.1 tw276 dX8_walks_23 ?_
        refine z_iload_n (i := 1) X.1 dX8_walks_26 1 rfl rfl ?_
        refine al_X8_sheets X.1 dX8_walks_27 h (fun hs1377 h => ?_)
        obtain ⟨r1378, s1379, hc1380, h⟩ := bd_inv h
        refine cl_X8_261 (d1 := 0) (b := zo κ.1 (8 + ix v1)) (As := []) (rest := []) X.1 (by decide) (C_X4_isMissing X.2.1 hs1377 hc1380) (rcX4 hs1377) rfl rfl (Nat.le_of_ble_eq_true rfl) dX8_walks_28 ?_
        refine z_if_eq (tgt := 41) X.1 dX8_walks_31 (by decide) h (fun q1381 h => ?_) (fun q1381 h => ?_)
        · refine z_aload_n (i := 0) X.1 dX8_walks_41 0 rfl rfl ?_
          refine g_X8_current X.1 tw274 dX8_walks_42 ?_
          refine g_X0_on X.1 tw216 dX8_walks_45 ?_
          refine z_if_ne (tgt := 57) X.1 dX8_walks_48 (by decide) h (fun q1382 h => ?_) (fun q1382 h => ?_)
          · refine z_aload_n (i := 0) X.1 dX8_walks_57 0 rfl rfl ?_
            refine g_X8_current X.1 tw274 dX8_walks_58 ?_
            obtain ⟨r1383, s1384, hc1385, h⟩ := bd_inv h
            refine cl_X8_168 (d1 := 0) (b := zo κ.1 6) (As := []) (rest := []) X.1 (by decide) (C_X0_stand X.2.1 hc1385) rcX0 rfl rfl (Nat.le_of_ble_eq_true rfl) dX8_walks_61 ?_
            refine z_istore_n (i := 3) (lv' := [(3, .int r1383), (0, .ref (zo κ.1 0)), (1, .int v1), (2, .int v2)]) X.1 dX8_walks_64 rfl (by decide) rfl ?_
            refine z_iconst (v := (0 : Int32)) X.1 dX8_walks_65 (by decide) ?_
            refine z_istore (i := 4) (lv' := [(4, .int (0 : Int32)), (3, .int r1383), (0, .ref (zo κ.1 0)), (1, .int v1), (2, .int v2)]) X.1 dX8_walks_66 (by decide) rfl ?_
            refine z_iconst (v := (0 : Int32)) X.1 dX8_walks_68 (by decide) ?_
            refine z_istore (i := 5) (lv' := [(5, .int (0 : Int32)), (4, .int (0 : Int32)), (3, .int r1383), (0, .ref (zo κ.1 0)), (1, .int v1), (2, .int v2)]) X.1 dX8_walks_69 (by decide) rfl ?_
            exact z_sub [3, 4, 5, 2, 1, 0] rfl (B_X8_walks_71 X zF _ _ _ _ h)
          · refine z_aload_n (i := 0) X.1 dX8_walks_51 0 rfl rfl ?_
            refine z_iconst (v := (3 : Int32)) X.1 dX8_walks_52 (by decide) ?_
            obtain ⟨r1408, s1409, hc1410, h⟩ := bd_inv h
            refine cl_X8_69 (d1 := 0) (b := zo κ.1 0) (As := [.int (3 : Int32)]) (rest := []) X.1 (by decide) (C_X8_fail X.2.1 hc1410) rcX8 rfl rfl (Nat.le_of_ble_eq_true rfl) dX8_walks_53 ?_
            exact z_iret X dX8_walks_56 h
        · refine z_aload_n (i := 0) X.1 dX8_walks_34 0 rfl rfl ?_
          refine z_bipush (v := (6 : Int32)) X.1 dX8_walks_35 (by decide) ?_
          obtain ⟨r1411, s1412, hc1413, h⟩ := bd_inv h
          refine cl_X8_69 (d1 := 0) (b := zo κ.1 0) (As := [.int (6 : Int32)]) (rest := []) X.1 (by decide) (C_X8_fail X.2.1 hc1413) rcX8 rfl rfl (Nat.le_of_ble_eq_true rfl) dX8_walks_37 ?_
          exact z_iret X dX8_walks_40 h
      · refine z_aload_n (i := 0) X.1 dX8_walks_16 0 rfl rfl ?_
        refine z_iconst (v := (1 : Int32)) X.1 dX8_walks_17 (by decide) ?_
        obtain ⟨r1414, s1415, hc1416, h⟩ := bd_inv h
        refine cl_X8_69 (d1 := 0) (b := zo κ.1 0) (As := [.int (1 : Int32)]) (rest := []) X.1 (by decide) (C_X8_fail X.2.1 hc1416) rcX8 rfl rfl (Nat.le_of_ble_eq_true rfl) dX8_walks_18 ?_
        exact z_iret X dX8_walks_21 h
theorem C_X8_walks {ζ : zW} (hZ : zDis ζ zX) {v1 : Int32} {v2 : Int32} {σ σ' : S3} {r : Int32} (h : F_X8_walks v1 v2 σ = some (r, σ')) : zMet ζ zX 24 yX8_walks cX8_walks 7 (some .int) [.ref (zo ζ 0), .int v1, .int v2] σ (some (.int r)) σ' :=
  zMet_of pn_X8 hZ (Nat.le_of_ble_eq_true rfl) (fun κ e X => by subst e; exact B_X8_walks_0 X h)
noncomputable def F_X8_seed (v1 : Int32) (σ : S3) : R3 :=
  nm (σ 4 2 0) (fun x1417 => nm (up σ 4 2 0 v1) (fun s1418 => some (x1417, s1418)))
set_option maxHeartbeats 4000000 in
set_option maxRecDepth 100000 in
theorem B_X8_seed_0 {κ : zT} {σ' : S3} {r : Int32} (X : zC κ zX RX8 cX8_seed 3 (some .int) 0 (some (.int r)) σ') {v1 : Int32} {σ : S3} (h : F_X8_seed v1 σ = some (r, σ')) : Z κ 3 (zX (ze κ.1) σ) [(0, .ref (zo κ.1 0)), (1, .int v1)] 0 [] := by
  unfold F_X8_seed at h
  refine z_aload_n (i := 0) X.1 dX8_seed_0 0 rfl rfl ?_
  refine g_X8_planner X.1 tw272 dX8_seed_1 ?_
  refine g_X3_z X.1 tw169 dX8_seed_4 ?_
  refine z_istore_nn (i := 2) (lv' := fun x1417 => [(2, .int x1417), (0, .ref (zo κ.1 0)), (1, .int v1)]) X.1 dX8_seed_7 rfl (by decide) (fun _ => rfl) h (fun x1417 h => ?_)
  refine z_aload_n (i := 0) X.1 dX8_seed_8 1 rfl rfl ?_
  refine g_X8_planner X.1 tw272 dX8_seed_9 ?_
  refine z_iload_n (i := 1) X.1 dX8_seed_12 2 rfl rfl ?_
  refine p_X3_z X.1 X.2.1 tw169 dX8_seed_13 h (fun s1418 h => ?_)
  refine z_iload_n (i := 2) X.1 dX8_seed_16 0 rfl rfl ?_
  exact z_iret X dX8_seed_17 h
theorem C_X8_seed {ζ : zW} (hZ : zDis ζ zX) {v1 : Int32} {σ σ' : S3} {r : Int32} (h : F_X8_seed v1 σ = some (r, σ')) : zMet ζ zX 0 yX8_seed cX8_seed 3 (some .int) [.ref (zo ζ 0), .int v1] σ (some (.int r)) σ' :=
  zMet_of pn_X8 hZ (Nat.le_of_ble_eq_true rfl) (fun κ e X => by subst e; exact B_X8_seed_0 X h)
noncomputable def F_X8_image (σ : S3) : R3 :=
  bd (F_X2_become 2 1 σ) (fun r1419 s1420 => nm (up s1420 0 10 0 (s1420 4 2 0)) (fun s1422 => nm (up s1422 0 9 0 (1 : Int32)) (fun s1423 => some (s1423 2 1 0, s1423))))
set_option maxHeartbeats 4000000 in
set_option maxRecDepth 100000 in
theorem B_X8_image_0 {κ : zT} {σ' : S3} {r : Int32} (X : zC κ zX RX8 cX8_image 1 (some .int) 3 (some (.int r)) σ') {σ : S3} (h : F_X8_image σ = some (r, σ')) : Z κ 1 (zX (ze κ.1) σ) [(0, .ref (zo κ.1 0))] 0 [] := by
  unfold F_X8_image at h
  refine z_aload_n (i := 0) X.1 dX8_image_0 0 rfl rfl ?_
  refine g_X8_kept X.1 tw270 dX8_image_1 ?_
  refine z_aload_n (i := 0) X.1 dX8_image_4 0 rfl rfl ?_
  refine g_X8_net X.1 tw269 dX8_image_5 ?_
  obtain ⟨r1419, s1420, hc1421, h⟩ := bd_inv h
  refine cl_X8_283 (d1 := 2) (b := zo κ.1 2) (r := 0) (As := [.ref (zo κ.1 1)]) (rest := []) X.1 (by decide) (C_X2_become X.2.1 (Or.inr rfl) (Or.inl rfl) hc1421) (rcX2 (Or.inr rfl)) rfl rfl (Nat.le_of_ble_eq_true rfl) dX8_image_8 ?_
  refine z_aload_n (i := 0) X.1 dX8_image_11 0 rfl rfl ?_
  refine z_aload_n (i := 0) X.1 dX8_image_12 0 rfl rfl ?_
  refine g_X8_planner X.1 tw272 dX8_image_13 ?_
  refine g_X3_z X.1 tw169 dX8_image_16 ?_
  refine p_X8_keptZ X.1 X.2.1 tw279 dX8_image_19 h (fun s1422 h => ?_)
  refine z_aload_n (i := 0) X.1 dX8_image_22 0 rfl rfl ?_
  refine z_iconst (v := (1 : Int32)) X.1 dX8_image_23 (by decide) ?_
  refine p_X8_hasImage X.1 X.2.1 tw278 (Or.inr rfl) dX8_image_24 h (fun s1423 h => ?_)
  refine z_aload_n (i := 0) X.1 dX8_image_27 0 rfl rfl ?_
  refine g_X8_kept X.1 tw270 dX8_image_28 ?_
  refine g_X2_lines (Or.inr rfl) X.1 tw101 dX8_image_31 ?_
  exact z_iret X dX8_image_34 h
theorem C_X8_image {ζ : zW} (hZ : zDis ζ zX) {σ σ' : S3} {r : Int32} (h : F_X8_image  σ = some (r, σ')) : zMet ζ zX 3 yX8_image cX8_image 1 (some .int) [.ref (zo ζ 0)] σ (some (.int r)) σ' :=
  zMet_of pn_X8 hZ (Nat.le_of_ble_eq_true rfl) (fun κ e X => by subst e; exact B_X8_image_0 X h)
noncomputable def F_X8_restore (σ : S3) : R3 :=
  if (σ 0 9 0) = (0 : Int32) then (bd (F_X8_fail (2 : Int32) σ) (fun r1430 s1431 => some (r1430, s1431)))
  else (bd (F_X2_become 1 2 σ) (fun r1425 s1426 => nm (up s1426 4 2 0 (s1426 0 10 0)) (fun s1428 => nm (up s1428 6 0 0 (0 : Int32)) (fun s1429 => some (s1429 1 1 0, s1429)))))
set_option maxHeartbeats 4000000 in
set_option maxRecDepth 100000 in
theorem B_X8_restore_0 {κ : zT} {σ' : S3} {r : Int32} (X : zC κ zX RX8 cX8_restore 1 (some .int) 3 (some (.int r)) σ') {σ : S3} (h : F_X8_restore σ = some (r, σ')) : Z κ 1 (zX (ze κ.1) σ) [(0, .ref (zo κ.1 0))] 0 [] := by
  unfold F_X8_restore at h
  refine z_aload_n (i := 0) X.1 dX8_restore_0 0 rfl rfl ?_
  refine g_X8_hasImage X.1 tw278 dX8_restore_1 ?_
  refine z_if_ne (tgt := 13) X.1 dX8_restore_4 (by decide) h (fun q1424 h => ?_) (fun q1424 h => ?_)
  · refine z_aload_n (i := 0) X.1 dX8_restore_13 0 rfl rfl ?_
    refine g_X8_net X.1 tw269 dX8_restore_14 ?_
    refine z_aload_n (i := 0) X.1 dX8_restore_17 0 rfl rfl ?_
    refine g_X8_kept X.1 tw270 dX8_restore_18 ?_
    obtain ⟨r1425, s1426, hc1427, h⟩ := bd_inv h
    refine cl_X8_283 (d1 := 2) (b := zo κ.1 1) (r := 0) (As := [.ref (zo κ.1 2)]) (rest := []) X.1 (by decide) (C_X2_become X.2.1 (Or.inl rfl) (Or.inr rfl) hc1427) (rcX2 (Or.inl rfl)) rfl rfl (Nat.le_of_ble_eq_true rfl) dX8_restore_21 ?_
    refine z_aload_n (i := 0) X.1 dX8_restore_24 0 rfl rfl ?_
    refine g_X8_planner X.1 tw272 dX8_restore_25 ?_
    refine z_aload_n (i := 0) X.1 dX8_restore_28 0 rfl rfl ?_
    refine g_X8_keptZ X.1 tw279 dX8_restore_29 ?_
    refine p_X3_z X.1 X.2.1 tw169 dX8_restore_32 h (fun s1428 h => ?_)
    refine z_aload_n (i := 0) X.1 dX8_restore_35 0 rfl rfl ?_
    refine g_X8_current X.1 tw274 dX8_restore_36 ?_
    refine z_iconst (v := (0 : Int32)) X.1 dX8_restore_39 (by decide) ?_
    refine p_X0_on X.1 X.2.1 tw216 (Or.inl rfl) dX8_restore_40 h (fun s1429 h => ?_)
    refine z_aload_n (i := 0) X.1 dX8_restore_43 0 rfl rfl ?_
    refine g_X8_net X.1 tw269 dX8_restore_44 ?_
    refine g_X2_lines (Or.inl rfl) X.1 tw101 dX8_restore_47 ?_
    exact z_iret X dX8_restore_50 h
  · refine z_aload_n (i := 0) X.1 dX8_restore_7 0 rfl rfl ?_
    refine z_iconst (v := (2 : Int32)) X.1 dX8_restore_8 (by decide) ?_
    obtain ⟨r1430, s1431, hc1432, h⟩ := bd_inv h
    refine cl_X8_69 (d1 := 0) (b := zo κ.1 0) (As := [.int (2 : Int32)]) (rest := []) X.1 (by decide) (C_X8_fail X.2.1 hc1432) rcX8 rfl rfl (Nat.le_of_ble_eq_true rfl) dX8_restore_9 ?_
    exact z_iret X dX8_restore_12 h
theorem C_X8_restore {ζ : zW} (hZ : zDis ζ zX) {σ σ' : S3} {r : Int32} (h : F_X8_restore  σ = some (r, σ')) : zMet ζ zX 3 yX8_restore cX8_restore 1 (some .int) [.ref (zo ζ 0)] σ (some (.int r)) σ' :=
  zMet_of pn_X8 hZ (Nat.le_of_ble_eq_true rfl) (fun κ e X => by subst e; exact B_X8_restore_0 X h)
noncomputable def Fb_X8_sheetsThere_4 (K4 : Int32 → Int32 → S3 → R3) (v1 : Int32) (v2 : Int32) (σ : S3) : R3 :=
  if (4 : Int32) ≤ v2 then (some (v1, σ))
  else (ck v2 4 (bd (F_X4_isMissing (8 + ix v2) σ) (fun r1445 s1446 => if r1445 = (0 : Int32) then (nm (v1 + (1 : Int32)) (fun x1450 => nm (v2 + (1 : Int32)) (fun x1451 => K4 x1450 x1451 s1446)))
  else (nm (v2 + (1 : Int32)) (fun x1449 => K4 v1 x1449 s1446)))))
noncomputable def F_X8_sheetsThere_4 (n : Nat) : Int32 → Int32 → S3 → R3 := zl2 (Fb_X8_sheetsThere_4) n
set_option maxHeartbeats 4000000 in
set_option maxRecDepth 100000 in
theorem B_X8_sheetsThere_4 {κ : zT} {σ' : S3} {r : Int32} (X : zC κ zX RX8 cX8_sheetsThere 3 (some .int) 1 (some (.int r)) σ') : ∀ (n : Nat) (v1 : Int32) (v2 : Int32) (σ : S3), F_X8_sheetsThere_4 n v1 v2 σ = some (r, σ') → Z κ 3 (zX (ze κ.1) σ) [(0, .ref (zo κ.1 0)), (1, .int v1), (2, .int v2)] 4 [] := by
  intro n
  induction n with
  | zero =>
    intro v1 v2 σ h
    cases (show (none : R3) = some (r, σ') from h)
  | succ n ih =>
    intro v1 v2 σ h
    have hK4 := ih
    have h : Fb_X8_sheetsThere_4 (F_X8_sheetsThere_4 n) v1 v2 σ = some (r, σ') := h
    unfold Fb_X8_sheetsThere_4 at h
    refine z_iload_n (i := 2) X.1 dX8_sheetsThere_4 2 rfl rfl ?_
    refine z_iconst (v := (4 : Int32)) X.1 dX8_sheetsThere_5 (by decide) ?_
    refine z_icmp_ge (tgt := 30) X.1 dX8_sheetsThere_6 (by decide) h (fun q1443 h => ?_) (fun q1443 h => ?_)
    · refine z_iload_n (i := 1) X.1 dX8_sheetsThere_30 1 rfl rfl ?_
      exact z_iret X dX8_sheetsThere_31 h
    · refine z_aload_n (i := 0) X.1 dX8_sheetsThere_9 0 rfl rfl ?_
      refine g_X8_sheets X.1 tw276 dX8_sheetsThere_10 ?_
      refine z_iload_n (i := 2) X.1 dX8_sheetsThere_13 2 rfl rfl ?_
      refine al_X8_sheets X.1 dX8_sheetsThere_14 h (fun hs1444 h => ?_)
      obtain ⟨r1445, s1446, hc1447, h⟩ := bd_inv h
      refine cl_X8_261 (d1 := 0) (b := zo κ.1 (8 + ix v2)) (As := []) (rest := []) X.1 (by decide) (C_X4_isMissing X.2.1 hs1444 hc1447) (rcX4 hs1444) rfl rfl (Nat.le_of_ble_eq_true rfl) dX8_sheetsThere_15 ?_
      refine z_if_ne (tgt := 24) X.1 dX8_sheetsThere_18 (by decide) h (fun q1448 h => ?_) (fun q1448 h => ?_)
      · refine z_iinc_m (v := (1 : Int32)) (lv' := fun x1449 => [(2, .int x1449), (0, .ref (zo κ.1 0)), (1, .int v1)]) X.1 dX8_sheetsThere_24 2 rfl (by decide) (by decide) (fun _ => rfl) h (fun x1449 h => ?_)
        refine z_goto (tgt := 4) X.1 dX8_sheetsThere_27 (by decide) ?_
        exact z_sub [1, 2, 0] rfl (hK4 _ _ _ h)
      · refine z_iinc_m (v := (1 : Int32)) (lv' := fun x1450 => [(1, .int x1450), (0, .ref (zo κ.1 0)), (2, .int v2)]) X.1 dX8_sheetsThere_21 1 rfl (by decide) (by decide) (fun _ => rfl) h (fun x1450 h => ?_)
        refine z_iinc_m (v := (1 : Int32)) (lv' := fun x1451 => [(2, .int x1451), (1, .int x1450), (0, .ref (zo κ.1 0))]) X.1 dX8_sheetsThere_24 2 rfl (by decide) (by decide) (fun _ => rfl) h (fun x1451 h => ?_)
        refine z_goto (tgt := 4) X.1 dX8_sheetsThere_27 (by decide) ?_
        exact z_sub [2, 1, 0] rfl (hK4 _ _ _ h)
noncomputable def F_X8_sheetsThere (σ : S3) : R3 :=
  F_X8_sheetsThere_4 zF (0 : Int32) (0 : Int32) σ
set_option maxHeartbeats 4000000 in
set_option maxRecDepth 100000 in
theorem B_X8_sheetsThere_0 {κ : zT} {σ' : S3} {r : Int32} (X : zC κ zX RX8 cX8_sheetsThere 3 (some .int) 1 (some (.int r)) σ') {σ : S3} (h : F_X8_sheetsThere σ = some (r, σ')) : Z κ 3 (zX (ze κ.1) σ) [(0, .ref (zo κ.1 0))] 0 [] := by
  unfold F_X8_sheetsThere at h
  refine z_iconst (v := (0 : Int32)) X.1 dX8_sheetsThere_0 (by decide) ?_
  refine z_istore_n (i := 1) (lv' := [(1, .int (0 : Int32)), (0, .ref (zo κ.1 0))]) X.1 dX8_sheetsThere_1 rfl (by decide) rfl ?_
  refine z_iconst (v := (0 : Int32)) X.1 dX8_sheetsThere_2 (by decide) ?_
  refine z_istore_n (i := 2) (lv' := [(2, .int (0 : Int32)), (1, .int (0 : Int32)), (0, .ref (zo κ.1 0))]) X.1 dX8_sheetsThere_3 rfl (by decide) rfl ?_
  exact z_sub [2, 1, 0] rfl (B_X8_sheetsThere_4 X zF _ _ _ h)
theorem C_X8_sheetsThere {ζ : zW} (hZ : zDis ζ zX) {σ σ' : S3} {r : Int32} (h : F_X8_sheetsThere  σ = some (r, σ')) : zMet ζ zX 1 yX8_sheetsThere cX8_sheetsThere 3 (some .int) [.ref (zo ζ 0)] σ (some (.int r)) σ' :=
  zMet_of pn_X8 hZ (Nat.le_of_ble_eq_true rfl) (fun κ e X => by subst e; exact B_X8_sheetsThere_0 X h)
noncomputable def F_X8_count (v1 : Int32) (σ : S3) : R3 :=
  (if v1 = (0 : Int32) then (some (σ 1 0 0, σ))
  else (if v1 = (1 : Int32) then (some (σ 1 1 0, σ))
  else (if v1 = (2 : Int32) then (some (σ 7 0 0, σ))
  else (if v1 = (3 : Int32) then (if (σ 6 0 0) = (0 : Int32) then (some ((0 : Int32), σ))
  else (some ((1 : Int32), σ)))
  else (if v1 = (4 : Int32) then (some (σ 4 2 0, σ))
  else (if v1 = (5 : Int32) then (bd (F_X8_sheetsThere σ) (fun r1440 s1441 => some (r1440, s1441)))
  else (bd (F_X8_fail (1 : Int32) σ) (fun r1452 s1453 => some (r1452, s1453)))))))))
set_option maxHeartbeats 4000000 in
set_option maxRecDepth 100000 in
theorem B_X8_count_0 {κ : zT} {σ' : S3} {r : Int32} (X : zC κ zX RX8 cX8_count 2 (some .int) 2 (some (.int r)) σ') {v1 : Int32} {σ : S3} (h : F_X8_count v1 σ = some (r, σ')) : Z κ 2 (zX (ze κ.1) σ) [(0, .ref (zo κ.1 0)), (1, .int v1)] 0 [] := by
  unfold F_X8_count at h
  refine z_iload_n (i := 1) X.1 dX8_count_0 1 rfl rfl ?_
  by_cases q0 : v1 = (0 : Int32)
  · rw [if_pos q0] at h
    refine z_tabIn (tgt := 40) X.1 dX8_count_1 q0 (by decide) (by decide) rfl (by decide) ?_
    refine z_aload_n (i := 0) X.1 dX8_count_40 0 rfl rfl ?_
    refine g_X8_net X.1 tw269 dX8_count_41 ?_
    refine g_X2_size (Or.inl rfl) X.1 tw98 dX8_count_44 ?_
    exact z_iret X dX8_count_47 h
  · rw [if_neg q0] at h
    by_cases q1 : v1 = (1 : Int32)
    · rw [if_pos q1] at h
      refine z_tabIn (tgt := 48) X.1 dX8_count_1 q1 (by decide) (by decide) rfl (by decide) ?_
      refine z_aload_n (i := 0) X.1 dX8_count_48 0 rfl rfl ?_
      refine g_X8_net X.1 tw269 dX8_count_49 ?_
      refine g_X2_lines (Or.inl rfl) X.1 tw101 dX8_count_52 ?_
      exact z_iret X dX8_count_55 h
    · rw [if_neg q1] at h
      by_cases q2 : v1 = (2 : Int32)
      · rw [if_pos q2] at h
        refine z_tabIn (tgt := 56) X.1 dX8_count_1 q2 (by decide) (by decide) rfl (by decide) ?_
        refine z_aload_n (i := 0) X.1 dX8_count_56 0 rfl rfl ?_
        refine g_X8_tape X.1 tw275 dX8_count_57 ?_
        refine g_X6_length X.1 tw242 dX8_count_60 ?_
        exact z_iret X dX8_count_63 h
      · rw [if_neg q2] at h
        by_cases q3 : v1 = (3 : Int32)
        · rw [if_pos q3] at h
          refine z_tabIn (tgt := 64) X.1 dX8_count_1 q3 (by decide) (by decide) rfl (by decide) ?_
          refine z_aload_n (i := 0) X.1 dX8_count_64 0 rfl rfl ?_
          refine g_X8_current X.1 tw274 dX8_count_65 ?_
          refine g_X0_on X.1 tw216 dX8_count_68 ?_
          refine z_if_eq (tgt := 78) X.1 dX8_count_71 (by decide) h (fun q1437 h => ?_) (fun q1437 h => ?_)
          · refine z_iconst (v := (0 : Int32)) X.1 dX8_count_78 (by decide) ?_
            exact z_iret X dX8_count_79 h
          · refine z_iconst (v := (1 : Int32)) X.1 dX8_count_74 (by decide) ?_
            refine z_goto (tgt := 79) X.1 dX8_count_75 (by decide) ?_
            exact z_iret X dX8_count_79 h
        · rw [if_neg q3] at h
          by_cases q4 : v1 = (4 : Int32)
          · rw [if_pos q4] at h
            refine z_tabIn (tgt := 80) X.1 dX8_count_1 q4 (by decide) (by decide) rfl (by decide) ?_
            refine z_aload_n (i := 0) X.1 dX8_count_80 0 rfl rfl ?_
            refine g_X8_planner X.1 tw272 dX8_count_81 ?_
            refine g_X3_z X.1 tw169 dX8_count_84 ?_
            exact z_iret X dX8_count_87 h
          · rw [if_neg q4] at h
            by_cases q5 : v1 = (5 : Int32)
            · rw [if_pos q5] at h
              refine z_tabIn (tgt := 88) X.1 dX8_count_1 q5 (by decide) (by decide) rfl (by decide) ?_
              refine z_aload_n (i := 0) X.1 dX8_count_88 0 rfl rfl ?_
              obtain ⟨r1440, s1441, hc1442, h⟩ := bd_inv h
              refine cl_X8_292 (d1 := 1) (b := zo κ.1 0) (As := []) (rest := []) X.1 (by decide) (C_X8_sheetsThere X.2.1 hc1442) rcX8 rfl rfl (Nat.le_of_ble_eq_true rfl) dX8_count_89 ?_
              exact z_iret X dX8_count_92 h
            · rw [if_neg q5] at h
              have t0 : v1.toInt ≠ 0 := tab_ne q0
              have t1 : v1.toInt ≠ 1 := tab_ne q1
              have t2 : v1.toInt ≠ 2 := tab_ne q2
              have t3 : v1.toInt ≠ 3 := tab_ne q3
              have t4 : v1.toInt ≠ 4 := tab_ne q4
              have t5 : v1.toInt ≠ 5 := tab_ne q5
              refine z_tabOut (tgt := 93) X.1 dX8_count_1 (by omega) (by decide) ?_
              refine z_aload_n (i := 0) X.1 dX8_count_93 0 rfl rfl ?_
              refine z_iconst (v := (1 : Int32)) X.1 dX8_count_94 (by decide) ?_
              obtain ⟨r1452, s1453, hc1454, h⟩ := bd_inv h
              refine cl_X8_69 (d1 := 0) (b := zo κ.1 0) (As := [.int (1 : Int32)]) (rest := []) X.1 (by decide) (C_X8_fail X.2.1 hc1454) rcX8 rfl rfl (Nat.le_of_ble_eq_true rfl) dX8_count_95 ?_
              exact z_iret X dX8_count_98 h
theorem C_X8_count {ζ : zW} (hZ : zDis ζ zX) {v1 : Int32} {σ σ' : S3} {r : Int32} (h : F_X8_count v1 σ = some (r, σ')) : zMet ζ zX 2 yX8_count cX8_count 2 (some .int) [.ref (zo ζ 0), .int v1] σ (some (.int r)) σ' :=
  zMet_of pn_X8 hZ (Nat.le_of_ble_eq_true rfl) (fun κ e X => by subst e; exact B_X8_count_0 X h)
noncomputable def F_X8_told (v1 : Int32) (σ : S3) : R3 :=
  if v1 < (1 : Int32) then (bd (F_X8_fail (1 : Int32) σ) (fun r1456 s1457 => some (r1456, s1457)))
  else (if v1 ≤ (6 : Int32) then (ck v1 7 (some (σ 0 8 (ix v1), σ)))
  else (bd (F_X8_fail (1 : Int32) σ) (fun r1460 s1461 => some (r1460, s1461))))
set_option maxHeartbeats 4000000 in
set_option maxRecDepth 100000 in
theorem B_X8_told_0 {κ : zT} {σ' : S3} {r : Int32} (X : zC κ zX RX8 cX8_told 2 (some .int) 1 (some (.int r)) σ') {v1 : Int32} {σ : S3} (h : F_X8_told v1 σ = some (r, σ')) : Z κ 2 (zX (ze κ.1) σ) [(0, .ref (zo κ.1 0)), (1, .int v1)] 0 [] := by
  unfold F_X8_told at h
  refine z_iload_n (i := 1) X.1 dX8_told_0 1 rfl rfl ?_
  refine z_iconst (v := (1 : Int32)) X.1 dX8_told_1 (by decide) ?_
  refine z_icmp_lt (tgt := 11) X.1 dX8_told_2 (by decide) h (fun q1455 h => ?_) (fun q1455 h => ?_)
  · refine z_aload_n (i := 0) X.1 dX8_told_11 0 rfl rfl ?_
    refine z_iconst (v := (1 : Int32)) X.1 dX8_told_12 (by decide) ?_
    obtain ⟨r1456, s1457, hc1458, h⟩ := bd_inv h
    refine cl_X8_69 (d1 := 0) (b := zo κ.1 0) (As := [.int (1 : Int32)]) (rest := []) X.1 (by decide) (C_X8_fail X.2.1 hc1458) rcX8 rfl rfl (Nat.le_of_ble_eq_true rfl) dX8_told_13 ?_
    refine z_goto (tgt := 25) X.1 dX8_told_16 (by decide) ?_
    exact z_iret X dX8_told_25 h
  · refine z_iload_n (i := 1) X.1 dX8_told_5 1 rfl rfl ?_
    refine z_bipush (v := (6 : Int32)) X.1 dX8_told_6 (by decide) ?_
    refine z_icmp_le (tgt := 19) X.1 dX8_told_8 (by decide) h (fun q1459 h => ?_) (fun q1459 h => ?_)
    · refine z_aload_n (i := 0) X.1 dX8_told_19 0 rfl rfl ?_
      refine g_X8_errors X.1 tw277 dX8_told_20 ?_
      refine z_iload_n (i := 1) X.1 dX8_told_23 1 rfl rfl ?_
      refine al_X8_errors X.1 dX8_told_24 h (fun h => ?_)
      exact z_iret X dX8_told_25 h
    · refine z_aload_n (i := 0) X.1 dX8_told_11 0 rfl rfl ?_
      refine z_iconst (v := (1 : Int32)) X.1 dX8_told_12 (by decide) ?_
      obtain ⟨r1460, s1461, hc1462, h⟩ := bd_inv h
      refine cl_X8_69 (d1 := 0) (b := zo κ.1 0) (As := [.int (1 : Int32)]) (rest := []) X.1 (by decide) (C_X8_fail X.2.1 hc1462) rcX8 rfl rfl (Nat.le_of_ble_eq_true rfl) dX8_told_13 ?_
      refine z_goto (tgt := 25) X.1 dX8_told_16 (by decide) ?_
      exact z_iret X dX8_told_25 h
theorem C_X8_told {ζ : zW} (hZ : zDis ζ zX) {v1 : Int32} {σ σ' : S3} {r : Int32} (h : F_X8_told v1 σ = some (r, σ')) : zMet ζ zX 1 yX8_told cX8_told 2 (some .int) [.ref (zo ζ 0), .int v1] σ (some (.int r)) σ' :=
  zMet_of pn_X8 hZ (Nat.le_of_ble_eq_true rfl) (fun κ e X => by subst e; exact B_X8_told_0 X h)
