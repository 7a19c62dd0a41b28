noncomputable def F_X0_start (v1 : Int32) (v2 : Int32) (σ : S3) : R3 :=
  nm (up σ 6 0 0 (1 : Int32)) (fun s1 => nm (up s1 6 1 0 v1) (fun s2 => nm (up s2 6 2 0 (0 : Int32)) (fun s3 => ck (0 : Int32) 13 (nm (up s3 6 4 (ix (0 : Int32)) v2) (fun s4 => some ((0 : Int32), s4))))))
set_option maxHeartbeats 4000000 in
set_option maxRecDepth 100000 in
theorem B_X0_start_0 {κ : zT} {σ' : S3} {r : Int32} (X : zC κ zX RX0 cX0_start 3 none 0 none σ') {v1 : Int32} {v2 : Int32} {σ : S3} (h : F_X0_start v1 v2 σ = some (r, σ')) : Z κ 3 (zX (ze κ.1) σ) [(0, .ref (zo κ.1 6)), (1, .int v1), (2, .int v2)] 0 [] := by
  unfold F_X0_start at h
  refine z_aload_n (i := 0) X.1 dX0_start_0 0 rfl rfl ?_
  refine z_iconst (v := (1 : Int32)) X.1 dX0_start_1 (by decide) ?_
  refine p_X0_on X.1 X.2.1 tw215 (Or.inr rfl) dX0_start_2 h (fun s1 h => ?_)
  refine z_aload_n (i := 0) X.1 dX0_start_5 0 rfl rfl ?_
  refine z_iload_n (i := 1) X.1 dX0_start_6 1 rfl rfl ?_
  refine p_X0_rule X.1 X.2.1 tw217 dX0_start_7 h (fun s2 h => ?_)
  refine z_aload_n (i := 0) X.1 dX0_start_10 0 rfl rfl ?_
  refine z_iconst (v := (0 : Int32)) X.1 dX0_start_11 (by decide) ?_
  refine p_X0_made X.1 X.2.1 tw219 dX0_start_12 h (fun s3 h => ?_)
  refine z_aload_n (i := 0) X.1 dX0_start_15 0 rfl rfl ?_
  refine g_X0_stands X.1 tw223 dX0_start_16 ?_
  refine z_iconst (v := (0 : Int32)) X.1 dX0_start_19 (by decide) ?_
  refine z_iload_n (i := 2) X.1 dX0_start_20 2 rfl rfl ?_
  refine as_X0_stands X.1 X.2.1 dX0_start_21 h (fun s4 h => ?_)
  exact z_vret X dX0_start_22 h
theorem C_X0_start {ζ : zW} (hZ : zDis ζ zX) {v1 : Int32} {v2 : Int32} {σ σ' : S3} {r : Int32} (h : F_X0_start v1 v2 σ = some (r, σ')) : zMet ζ zX 0 yX0_start cX0_start 3 none [.ref (zo ζ 6), .int v1, .int v2] σ none σ' :=
  zMet_of pn_X0 hZ (Nat.le_of_ble_eq_true rfl) (fun κ e X => by subst e; exact B_X0_start_0 X h)
noncomputable def F_X0_stand (σ : S3) : R3 :=
  ck (σ 6 2 0) 13 (some (σ 6 4 (ix (σ 6 2 0)), σ))
set_option maxHeartbeats 4000000 in
set_option maxRecDepth 100000 in
theorem B_X0_stand_0 {κ : zT} {σ' : S3} {r : Int32} (X : zC κ zX RX0 cX0_stand 1 (some .int) 0 (some (.int r)) σ') {σ : S3} (h : F_X0_stand σ = some (r, σ')) : Z κ 1 (zX (ze κ.1) σ) [(0, .ref (zo κ.1 6))] 0 [] := by
  unfold F_X0_stand at h
  refine z_aload_n (i := 0) X.1 dX0_stand_0 0 rfl rfl ?_
  refine g_X0_stands X.1 tw223 dX0_stand_1 ?_
  refine z_aload_n (i := 0) X.1 dX0_stand_4 0 rfl rfl ?_
  refine g_X0_made X.1 tw219 dX0_stand_5 ?_
  refine al_X0_stands X.1 dX0_stand_8 h (fun h => ?_)
  exact z_iret X dX0_stand_9 h
theorem C_X0_stand {ζ : zW} (hZ : zDis ζ zX) {σ σ' : S3} {r : Int32} (h : F_X0_stand  σ = some (r, σ')) : zMet ζ zX 0 yX0_stand cX0_stand 1 (some .int) [.ref (zo ζ 6)] σ (some (.int r)) σ' :=
  zMet_of pn_X0 hZ (Nat.le_of_ble_eq_true rfl) (fun κ e X => by subst e; exact B_X0_stand_0 X h)
noncomputable def F_X0_advance (v1 : Int32) (v2 : Int32) (σ : S3) : R3 :=
  if (12 : Int32) ≤ (σ 6 2 0) then (some ((0 : Int32), σ))
  else (ck (σ 6 2 0) 12 (nm (up σ 6 3 (ix (σ 6 2 0)) v1) (fun s6 => nm (up s6 6 2 0 ((s6 6 2 0) + (1 : Int32))) (fun s7 => ck (s7 6 2 0) 13 (nm (up s7 6 4 (ix (s7 6 2 0)) v2) (fun s8 => some ((0 : Int32), s8)))))))
set_option maxHeartbeats 4000000 in
set_option maxRecDepth 100000 in
theorem B_X0_advance_0 {κ : zT} {σ' : S3} {r : Int32} (X : zC κ zX RX0 cX0_advance 3 none 0 none σ') {v1 : Int32} {v2 : Int32} {σ : S3} (h : F_X0_advance v1 v2 σ = some (r, σ')) : Z κ 3 (zX (ze κ.1) σ) [(0, .ref (zo κ.1 6)), (1, .int v1), (2, .int v2)] 0 [] := by
  unfold F_X0_advance at h
  refine z_aload_n (i := 0) X.1 dX0_advance_0 0 rfl rfl ?_
  refine g_X0_made X.1 tw219 dX0_advance_1 ?_
  refine z_bipush (v := (12 : Int32)) X.1 dX0_advance_4 (by decide) ?_
  refine z_icmp_ge (tgt := 39) X.1 dX0_advance_6 (by decide) h (fun q5 h => ?_) (fun q5 h => ?_)
  · exact z_vret X dX0_advance_39 h
  · refine z_aload_n (i := 0) X.1 dX0_advance_9 0 rfl rfl ?_
    refine g_X0_taken X.1 tw221 dX0_advance_10 ?_
    refine z_aload_n (i := 0) X.1 dX0_advance_13 0 rfl rfl ?_
    refine g_X0_made X.1 tw219 dX0_advance_14 ?_
    refine z_iload_n (i := 1) X.1 dX0_advance_17 1 rfl rfl ?_
    refine as_X0_taken X.1 X.2.1 dX0_advance_18 h (fun s6 h => ?_)
    refine z_aload_n (i := 0) X.1 dX0_advance_19 0 rfl rfl ?_
    refine z_dup X.1 dX0_advance_20 rfl ?_
    refine g_X0_made X.1 tw219 dX0_advance_21 ?_
    refine z_iconst (v := (1 : Int32)) X.1 dX0_advance_24 (by decide) ?_
    refine z_iadd X.1 dX0_advance_25 ?_
    refine p_X0_made X.1 X.2.1 tw219 dX0_advance_26 h (fun s7 h => ?_)
    refine z_aload_n (i := 0) X.1 dX0_advance_29 0 rfl rfl ?_
    refine g_X0_stands X.1 tw223 dX0_advance_30 ?_
    refine z_aload_n (i := 0) X.1 dX0_advance_33 0 rfl rfl ?_
    refine g_X0_made X.1 tw219 dX0_advance_34 ?_
    refine z_iload_n (i := 2) X.1 dX0_advance_37 2 rfl rfl ?_
    refine as_X0_stands X.1 X.2.1 dX0_advance_38 h (fun s8 h => ?_)
    exact z_vret X dX0_advance_39 h
theorem C_X0_advance {ζ : zW} (hZ : zDis ζ zX) {v1 : Int32} {v2 : Int32} {σ σ' : S3} {r : Int32} (h : F_X0_advance v1 v2 σ = some (r, σ')) : zMet ζ zX 0 yX0_advance cX0_advance 3 none [.ref (zo ζ 6), .int v1, .int v2] σ none σ' :=
  zMet_of pn_X0 hZ (Nat.le_of_ble_eq_true rfl) (fun κ e X => by subst e; exact B_X0_advance_0 X h)
noncomputable def F_X1_turnTo (v1 : Int32) (σ : S3) : R3 :=
  nm (up σ 3 3 0 v1) (fun s9 => nm (up s9 3 2 0 ((s9 3 2 0) + (1 : Int32))) (fun s10 => if (s10 3 2 0) < (1048576 : Int32) then (some ((0 : Int32), s10))
  else (nm (fillA s10 3 1 8192 (0 : Int32)) (fun s12 => nm (up s12 3 2 0 (1 : Int32)) (fun s13 => some ((0 : Int32), s13))))))
set_option maxHeartbeats 4000000 in
set_option maxRecDepth 100000 in
theorem B_X1_turnTo_0 {κ : zT} {σ' : S3} {r : Int32} (X : zC κ zX RX1 cX1_turnTo 2 none 1 none σ') {v1 : Int32} {σ : S3} (h : F_X1_turnTo v1 σ = some (r, σ')) : Z κ 2 (zX (ze κ.1) σ) [(0, .ref (zo κ.1 3)), (1, .int v1)] 0 [] := by
  unfold F_X1_turnTo at h
  refine z_aload_n (i := 0) X.1 dX1_turnTo_0 0 rfl rfl ?_
  refine z_iload_n (i := 1) X.1 dX1_turnTo_1 1 rfl rfl ?_
  refine p_X1_rule X.1 X.2.1 tw150 dX1_turnTo_2 h (fun s9 h => ?_)
  refine z_aload_n (i := 0) X.1 dX1_turnTo_5 0 rfl rfl ?_
  refine z_dup X.1 dX1_turnTo_6 rfl ?_
  refine g_X1_turn X.1 tw149 dX1_turnTo_7 ?_
  refine z_iconst (v := (1 : Int32)) X.1 dX1_turnTo_10 (by decide) ?_
  refine z_iadd X.1 dX1_turnTo_11 ?_
  refine p_X1_turn X.1 X.2.1 tw149 dX1_turnTo_12 h (fun s10 h => ?_)
  refine z_aload_n (i := 0) X.1 dX1_turnTo_15 0 rfl rfl ?_
  refine g_X1_turn X.1 tw149 dX1_turnTo_16 ?_
  refine z_ldc (v := (1048576 : Int32)) X.1 dX1_turnTo_19 tw484 ?_
  refine z_icmp_lt (tgt := 37) X.1 dX1_turnTo_21 (by decide) h (fun q11 h => ?_) (fun q11 h => ?_)
  · exact z_vret X dX1_turnTo_37 h
  · refine z_aload_n (i := 0) X.1 dX1_turnTo_24 0 rfl rfl ?_
    refine g_X1_found X.1 tw148 dX1_turnTo_25 ?_
    refine z_iconst (v := (0 : Int32)) X.1 dX1_turnTo_28 (by decide) ?_
    refine fi_X1_found X.1 (by decide) X.2.1 tw485 (Nat.le_of_ble_eq_true rfl) dX1_turnTo_29 h (fun s12 h => ?_)
    refine z_aload_n (i := 0) X.1 dX1_turnTo_32 0 rfl rfl ?_
    refine z_iconst (v := (1 : Int32)) X.1 dX1_turnTo_33 (by decide) ?_
    refine p_X1_turn X.1 X.2.1 tw149 dX1_turnTo_34 h (fun s13 h => ?_)
    exact z_vret X dX1_turnTo_37 h
theorem C_X1_turnTo {ζ : zW} (hZ : zDis ζ zX) {v1 : Int32} {σ σ' : S3} {r : Int32} (h : F_X1_turnTo v1 σ = some (r, σ')) : zMet ζ zX 1 yX1_turnTo cX1_turnTo 2 none [.ref (zo ζ 3), .int v1] σ none σ' :=
  zMet_of pn_X1 hZ (Nat.le_of_ble_eq_true rfl) (fun κ e X => by subst e; exact B_X1_turnTo_0 X h)
noncomputable def F_X5_marker (v0 : Int32) (σ : S3) : R3 :=
  some (v0 &&& (15 : Int32), σ)
set_option maxHeartbeats 4000000 in
set_option maxRecDepth 100000 in
theorem B_X5_marker_0 {κ : zT} {σ' : S3} {r : Int32} (X : zC κ zX RX5 cX5_marker 1 (some .int) 0 (some (.int r)) σ') {v0 : Int32} {σ : S3} (h : F_X5_marker v0 σ = some (r, σ')) : Z κ 1 (zX (ze κ.1) σ) [(0, .int v0)] 0 [] := by
  unfold F_X5_marker at h
  refine z_iload_n (i := 0) X.1 dX5_marker_0 0 rfl rfl ?_
  refine z_bipush (v := (15 : Int32)) X.1 dX5_marker_1 (by decide) ?_
  refine z_iand X.1 dX5_marker_3 ?_
  exact z_iret X dX5_marker_4 h
theorem C_X5_marker {ζ : zW} (hZ : zDis ζ zX) {v0 : Int32} {σ σ' : S3} {r : Int32} (h : F_X5_marker v0 σ = some (r, σ')) : zMet ζ zX 0 yX5_marker cX5_marker 1 (some .int) [.int v0] σ (some (.int r)) σ' :=
  zMet_of pn_X5 hZ (Nat.le_of_ble_eq_true rfl) (fun κ e X => by subst e; exact B_X5_marker_0 X h)
noncomputable def F_X1_overLines (σ : S3) : R3 :=
  if (σ 3 3 0) = (1 : Int32) then (some ((1 : Int32), σ))
  else (if (σ 3 3 0) = (3 : Int32) then (some ((1 : Int32), σ))
  else (some ((0 : Int32), σ)))
set_option maxHeartbeats 4000000 in
set_option maxRecDepth 100000 in
theorem B_X1_overLines_0 {κ : zT} {σ' : S3} {r : Int32} (X : zC κ zX RX1 cX1_overLines 1 (some .boolean) 0 (some (.int r)) σ') {σ : S3} (h : F_X1_overLines σ = some (r, σ')) : Z κ 1 (zX (ze κ.1) σ) [(0, .ref (zo κ.1 3))] 0 [] := by
  unfold F_X1_overLines at h
  refine z_aload_n (i := 0) X.1 dX1_overLines_0 0 rfl rfl ?_
  refine g_X1_rule X.1 tw150 dX1_overLines_1 ?_
  refine z_iconst (v := (1 : Int32)) X.1 dX1_overLines_4 (by decide) ?_
  refine z_icmp_eq (tgt := 16) X.1 dX1_overLines_5 (by decide) h (fun q22 h => ?_) (fun q22 h => ?_)
  · refine z_iconst (v := (1 : Int32)) X.1 dX1_overLines_16 (by decide) ?_
    refine z_goto (tgt := 21) X.1 dX1_overLines_17 (by decide) ?_
    exact z_zret X dX1_overLines_21 (Or.inr rfl) h
  · refine z_aload_n (i := 0) X.1 dX1_overLines_8 0 rfl rfl ?_
    refine g_X1_rule X.1 tw150 dX1_overLines_9 ?_
    refine z_iconst (v := (3 : Int32)) X.1 dX1_overLines_12 (by decide) ?_
    refine z_icmp_ne (tgt := 20) X.1 dX1_overLines_13 (by decide) h (fun q23 h => ?_) (fun q23 h => ?_)
    · refine z_iconst (v := (0 : Int32)) X.1 dX1_overLines_20 (by decide) ?_
      exact z_zret X dX1_overLines_21 (Or.inl rfl) h
    · refine z_iconst (v := (1 : Int32)) X.1 dX1_overLines_16 (by decide) ?_
      refine z_goto (tgt := 21) X.1 dX1_overLines_17 (by decide) ?_
      exact z_zret X dX1_overLines_21 (Or.inr rfl) h
theorem C_X1_overLines {ζ : zW} (hZ : zDis ζ zX) {σ σ' : S3} {r : Int32} (h : F_X1_overLines  σ = some (r, σ')) : zMet ζ zX 0 yX1_overLines cX1_overLines 1 (some .boolean) [.ref (zo ζ 3)] σ (some (.int r)) σ' :=
  zMet_of pn_X1 hZ (Nat.le_of_ble_eq_true rfl) (fun κ e X => by subst e; exact B_X1_overLines_0 X h)
noncomputable def F_X5_met (v0 : Int32) (σ : S3) : R3 :=
  some (((Int32.toUInt32 v0 >>> (Int32.toUInt32 (4 : Int32) &&& Int32.toUInt32 31)).toInt32) &&& (1023 : Int32), σ)
set_option maxHeartbeats 4000000 in
set_option maxRecDepth 100000 in
theorem B_X5_met_0 {κ : zT} {σ' : S3} {r : Int32} (X : zC κ zX RX5 cX5_met 1 (some .int) 0 (some (.int r)) σ') {v0 : Int32} {σ : S3} (h : F_X5_met v0 σ = some (r, σ')) : Z κ 1 (zX (ze κ.1) σ) [(0, .int v0)] 0 [] := by
  unfold F_X5_met at h
  refine z_iload_n (i := 0) X.1 dX5_met_0 0 rfl rfl ?_
  refine z_iconst (v := (4 : Int32)) X.1 dX5_met_1 (by decide) ?_
  refine z_iushr X.1 dX5_met_2 ?_
  refine z_sipush (v := (1023 : Int32)) X.1 dX5_met_3 (by decide) ?_
  refine z_iand X.1 dX5_met_6 ?_
  exact z_iret X dX5_met_7 h
theorem C_X5_met {ζ : zW} (hZ : zDis ζ zX) {v0 : Int32} {σ σ' : S3} {r : Int32} (h : F_X5_met v0 σ = some (r, σ')) : zMet ζ zX 0 yX5_met cX5_met 1 (some .int) [.int v0] σ (some (.int r)) σ' :=
  zMet_of pn_X5 hZ (Nat.le_of_ble_eq_true rfl) (fun κ e X => by subst e; exact B_X5_met_0 X h)
noncomputable def F_X2_otherEnd (c : Nat) (v1 : Int32) (v2 : Int32) (σ : S3) : R3 :=
  ck v1 12 (ck v1 12 (some (((σ c 2 (ix v1)) ^^^ (σ c 3 (ix v1))) ^^^ v2, σ)))
set_option maxHeartbeats 4000000 in
set_option maxRecDepth 100000 in
theorem B_X2_otherEnd_0 {κ : zT} {σ' : S3} {r : Int32} (X : zC κ zX RX2 cX2_otherEnd 3 (some .int) 0 (some (.int r)) σ') {c : Nat} (hc : zNet c) {v1 : Int32} {v2 : Int32} {σ : S3} (h : F_X2_otherEnd c v1 v2 σ = some (r, σ')) : Z κ 3 (zX (ze κ.1) σ) [(0, .ref (zo κ.1 c)), (1, .int v1), (2, .int v2)] 0 [] := by
  unfold F_X2_otherEnd at h
  refine z_aload_n (i := 0) X.1 dX2_otherEnd_0 0 rfl rfl ?_
  refine g_X2_from hc X.1 tw105 dX2_otherEnd_1 ?_
  refine z_iload_n (i := 1) X.1 dX2_otherEnd_4 1 rfl rfl ?_
  refine al_X2_from hc X.1 dX2_otherEnd_5 h (fun h => ?_)
  refine z_aload_n (i := 0) X.1 dX2_otherEnd_6 0 rfl rfl ?_
  refine g_X2_to hc X.1 tw107 dX2_otherEnd_7 ?_
  refine z_iload_n (i := 1) X.1 dX2_otherEnd_10 1 rfl rfl ?_
  refine al_X2_to hc X.1 dX2_otherEnd_11 h (fun h => ?_)
  refine z_ixor X.1 dX2_otherEnd_12 ?_
  refine z_iload_n (i := 2) X.1 dX2_otherEnd_13 2 rfl rfl ?_
  refine z_ixor X.1 dX2_otherEnd_14 ?_
  exact z_iret X dX2_otherEnd_15 h
theorem C_X2_otherEnd {ζ : zW} (hZ : zDis ζ zX) {c : Nat} (hc : zNet c) {v1 : Int32} {v2 : Int32} {σ σ' : S3} {r : Int32} (h : F_X2_otherEnd c v1 v2 σ = some (r, σ')) : zMet ζ zX 0 yX2_otherEnd cX2_otherEnd 3 (some .int) [.ref (zo ζ c), .int v1, .int v2] σ (some (.int r)) σ' :=
  zMet_of pn_X2 hZ (Nat.le_of_ble_eq_true rfl) (fun κ e X => by subst e; exact B_X2_otherEnd_0 X hc h)
noncomputable def F_X5_gone (v0 : Int32) (σ : S3) : R3 :=
  some (((Int32.toUInt32 v0 >>> (Int32.toUInt32 (14 : Int32) &&& Int32.toUInt32 31)).toInt32) &&& (4095 : Int32), σ)
set_option maxHeartbeats 4000000 in
set_option maxRecDepth 100000 in
theorem B_X5_gone_0 {κ : zT} {σ' : S3} {r : Int32} (X : zC κ zX RX5 cX5_gone 1 (some .int) 0 (some (.int r)) σ') {v0 : Int32} {σ : S3} (h : F_X5_gone v0 σ = some (r, σ')) : Z κ 1 (zX (ze κ.1) σ) [(0, .int v0)] 0 [] := by
  unfold F_X5_gone at h
  refine z_iload_n (i := 0) X.1 dX5_gone_0 0 rfl rfl ?_
  refine z_bipush (v := (14 : Int32)) X.1 dX5_gone_1 (by decide) ?_
  refine z_iushr X.1 dX5_gone_3 ?_
  refine z_sipush (v := (4095 : Int32)) X.1 dX5_gone_4 (by decide) ?_
  refine z_iand X.1 dX5_gone_7 ?_
  exact z_iret X dX5_gone_8 h
theorem C_X5_gone {ζ : zW} (hZ : zDis ζ zX) {v0 : Int32} {σ σ' : S3} {r : Int32} (h : F_X5_gone v0 σ = some (r, σ')) : zMet ζ zX 0 yX5_gone cX5_gone 1 (some .int) [.int v0] σ (some (.int r)) σ' :=
  zMet_of pn_X5 hZ (Nat.le_of_ble_eq_true rfl) (fun κ e X => by subst e; exact B_X5_gone_0 X h)
noncomputable def Fb_X1_movesFrom_83 (v2 : Int32) (v4 : Int32) (v5 : Int32) (K83 : Int32 → Int32 → S3 → R3) (v6 : Int32) (v7 : Int32) (σ : S3) : R3 :=
  if (σ 1 1 0) ≤ v7 then (some (v6, σ))
  else (if ((v4 >>> (v7 &&& 31)) &&& (1 : Int32)) = (0 : Int32) then (nm (v7 + (1 : Int32)) (fun x30 => K83 v6 x30 σ))
  else (bd (F_X2_otherEnd 1 v7 v2 σ) (fun r31 s32 => if ((v5 >>> (r31 &&& 31)) &&& (1 : Int32)) = (0 : Int32) then (nm (v6 ||| ((1 : Int32) <<< (v7 &&& 31))) (fun x36 => nm (v7 + (1 : Int32)) (fun x37 => K83 x36 x37 s32)))
  else (nm (v7 + (1 : Int32)) (fun x35 => K83 v6 x35 s32)))))
noncomputable def F_X1_movesFrom_83 (v2 : Int32) (v4 : Int32) (v5 : Int32) (n : Nat) : Int32 → Int32 → S3 → R3 := zl2 (Fb_X1_movesFrom_83 v2 v4 v5) n
set_option maxHeartbeats 4000000 in
set_option maxRecDepth 100000 in
theorem B_X1_movesFrom_83 {κ : zT} {σ' : S3} {r : Int32} (X : zC κ zX RX1 cX1_movesFrom 8 (some .int) 1 (some (.int r)) σ') {v2 : Int32} {v4 : Int32} {v5 : Int32} : ∀ (n : Nat) (v6 : Int32) (v7 : Int32) (σ : S3), F_X1_movesFrom_83 v2 v4 v5 n v6 v7 σ = some (r, σ') → Z κ 8 (zX (ze κ.1) σ) [(0, .ref (zo κ.1 3)), (2, .int v2), (4, .int v4), (5, .int v5), (6, .int v6), (7, .int v7)] 83 [] := by
  intro n
  induction n with
  | zero =>
    intro v6 v7 σ h
    cases (show (none : R3) = some (r, σ') from h)
  | succ n ih =>
    intro v6 v7 σ h
    have hK83 := ih
    have h : Fb_X1_movesFrom_83 v2 v4 v5 (F_X1_movesFrom_83 v2 v4 v5 n) v6 v7 σ = some (r, σ') := h
    unfold Fb_X1_movesFrom_83 at h
    refine z_iload X.1 dX1_movesFrom_83 5 rfl ?_
    refine z_aload_n (i := 0) X.1 dX1_movesFrom_85 0 rfl rfl ?_
    refine g_X1_net X.1 tw147 dX1_movesFrom_86 ?_
    refine g_X2_lines (Or.inl rfl) X.1 tw102 dX1_movesFrom_89 ?_
    refine z_icmp_ge (tgt := 138) X.1 dX1_movesFrom_92 (by decide) h (fun q28 h => ?_) (fun q28 h => ?_)
    · refine z_iload X.1 dX1_movesFrom_138 4 rfl ?_
      exact z_iret X dX1_movesFrom_140 h
    · refine z_iload X.1 dX1_movesFrom_95 2 rfl ?_
      refine z_iload X.1 dX1_movesFrom_97 5 rfl ?_
      refine z_ishr X.1 dX1_movesFrom_99 ?_
      refine z_iconst (v := (1 : Int32)) X.1 dX1_movesFrom_100 (by decide) ?_
      refine z_iand X.1 dX1_movesFrom_101 ?_
      refine z_if_eq (tgt := 132) X.1 dX1_movesFrom_102 (by decide) h (fun q29 h => ?_) (fun q29 h => ?_)
      · refine z_iinc_m (v := (1 : Int32)) (lv' := fun x30 => [(7, .int x30), (0, .ref (zo κ.1 3)), (2, .int v2), (4, .int v4), (5, .int v5), (6, .int v6)]) X.1 dX1_movesFrom_132 5 rfl (by decide) (by decide) (fun _ => rfl) h (fun x30 h => ?_)
        refine z_goto (tgt := 83) X.1 dX1_movesFrom_135 (by decide) ?_
        exact z_sub [1, 2, 3, 4, 5, 0] rfl (hK83 _ _ _ h)
      · refine z_iload X.1 dX1_movesFrom_105 3 rfl ?_
        refine z_aload_n (i := 0) X.1 dX1_movesFrom_107 0 rfl rfl ?_
        refine g_X1_net X.1 tw147 dX1_movesFrom_108 ?_
        refine z_iload X.1 dX1_movesFrom_111 5 rfl ?_
        refine z_iload_n (i := 2) X.1 dX1_movesFrom_113 1 rfl rfl ?_
        obtain ⟨r31, s32, hc33, h⟩ := bd_inv h
        refine cl_X1_60 (d1 := 0) (b := zo κ.1 1) (As := [.int v7, .int v2]) (rest := [.int v5]) X.1 (by decide) (C_X2_otherEnd X.2.1 (Or.inl rfl) hc33) (rcX2 (Or.inl rfl)) rfl rfl (Nat.le_of_ble_eq_true rfl) dX1_movesFrom_114 ?_
        refine z_ishr X.1 dX1_movesFrom_117 ?_
        refine z_iconst (v := (1 : Int32)) X.1 dX1_movesFrom_118 (by decide) ?_
        refine z_iand X.1 dX1_movesFrom_119 ?_
        refine z_if_ne (tgt := 132) X.1 dX1_movesFrom_120 (by decide) h (fun q34 h => ?_) (fun q34 h => ?_)
        · refine z_iinc_m (v := (1 : Int32)) (lv' := fun x35 => [(7, .int x35), (0, .ref (zo κ.1 3)), (2, .int v2), (4, .int v4), (5, .int v5), (6, .int v6)]) X.1 dX1_movesFrom_132 5 rfl (by decide) (by decide) (fun _ => rfl) h (fun x35 h => ?_)
          refine z_goto (tgt := 83) X.1 dX1_movesFrom_135 (by decide) ?_
          exact z_sub [1, 2, 3, 4, 5, 0] rfl (hK83 _ _ _ h)
        · refine z_iload X.1 dX1_movesFrom_123 4 rfl ?_
          refine z_iconst (v := (1 : Int32)) X.1 dX1_movesFrom_125 (by decide) ?_
          refine z_iload X.1 dX1_movesFrom_126 5 rfl ?_
          refine z_ishl X.1 dX1_movesFrom_128 ?_
          refine z_ior X.1 dX1_movesFrom_129 ?_
          refine z_istore_m (i := 6) (lv' := fun x36 => [(6, .int x36), (0, .ref (zo κ.1 3)), (2, .int v2), (4, .int v4), (5, .int v5), (7, .int v7)]) X.1 dX1_movesFrom_130 (by decide) (fun _ => rfl) h (fun x36 h => ?_)
          refine z_iinc_m (v := (1 : Int32)) (lv' := fun x37 => [(7, .int x37), (6, .int x36), (0, .ref (zo κ.1 3)), (2, .int v2), (4, .int v4), (5, .int v5)]) X.1 dX1_movesFrom_132 5 rfl (by decide) (by decide) (fun _ => rfl) h (fun x37 h => ?_)
          refine z_goto (tgt := 83) X.1 dX1_movesFrom_135 (by decide) ?_
          exact z_sub [2, 3, 4, 5, 1, 0] rfl (hK83 _ _ _ h)
noncomputable def F_X1_movesFrom_52 (v1 : Int32) (v2 : Int32) (s0 : Int32) (σ : S3) : R3 :=
  bd (F_X1_overLines σ) (fun r19 s20 => if r19 = (0 : Int32) then (bd (F_X5_met v1 s20) (fun r25 s26 => F_X1_movesFrom_83 v2 s0 r25 zF (0 : Int32) (0 : Int32) s26))
  else (bd (F_X5_gone v1 s20) (fun r38 s39 => some (s0 &&& (r38 ^^^ (-1 : Int32)), s39))))
set_option maxHeartbeats 4000000 in
set_option maxRecDepth 100000 in
theorem B_X1_movesFrom_52 {κ : zT} {σ' : S3} {r : Int32} (X : zC κ zX RX1 cX1_movesFrom 8 (some .int) 1 (some (.int r)) σ') {v1 : Int32} {v2 : Int32} {s0 : Int32} {σ : S3} (h : F_X1_movesFrom_52 v1 v2 s0 σ = some (r, σ')) : Z κ 8 (zX (ze κ.1) σ) [(0, .ref (zo κ.1 3)), (1, .int v1), (2, .int v2)] 52 [.int s0] := by
  unfold F_X1_movesFrom_52 at h
  refine z_istore (i := 4) (lv' := [(4, .int s0), (0, .ref (zo κ.1 3)), (1, .int v1), (2, .int v2)]) X.1 dX1_movesFrom_52 (by decide) rfl ?_
  refine z_aload_n (i := 0) X.1 dX1_movesFrom_54 1 rfl rfl ?_
  obtain ⟨r19, s20, hc21, h⟩ := bd_inv h
  refine cl_X1_47 (d1 := 0) (b := zo κ.1 3) (As := []) (rest := []) X.1 (by decide) (C_X1_overLines X.2.1 hc21) rcX1 rfl rfl (Nat.le_of_ble_eq_true rfl) dX1_movesFrom_55 ?_
  refine z_if_eq (tgt := 71) X.1 dX1_movesFrom_58 (by decide) h (fun q24 h => ?_) (fun q24 h => ?_)
  · refine z_iload_n (i := 1) X.1 dX1_movesFrom_71 2 rfl rfl ?_
    obtain ⟨r25, s26, hc27, h⟩ := bd_inv h
    refine cl_X1_54 (d1 := 0) (As := [.int v1]) (rest := []) X.1 (by decide) (C_X5_met X.2.1 hc27) rfl rfl (Nat.le_of_ble_eq_true rfl) dX1_movesFrom_72 ?_
    refine z_istore (i := 5) (lv' := [(5, .int r25), (4, .int s0), (0, .ref (zo κ.1 3)), (1, .int v1), (2, .int v2)]) X.1 dX1_movesFrom_75 (by decide) rfl ?_
    refine z_iconst (v := (0 : Int32)) X.1 dX1_movesFrom_77 (by decide) ?_
    refine z_istore (i := 6) (lv' := [(6, .int (0 : Int32)), (5, .int r25), (4, .int s0), (0, .ref (zo κ.1 3)), (1, .int v1), (2, .int v2)]) X.1 dX1_movesFrom_78 (by decide) rfl ?_
    refine z_iconst (v := (0 : Int32)) X.1 dX1_movesFrom_80 (by decide) ?_
    refine z_istore (i := 7) (lv' := [(7, .int (0 : Int32)), (6, .int (0 : Int32)), (5, .int r25), (4, .int s0), (0, .ref (zo κ.1 3)), (1, .int v1), (2, .int v2)]) X.1 dX1_movesFrom_81 (by decide) rfl ?_
    exact z_sub [4, 6, 3, 2, 1, 0] rfl (B_X1_movesFrom_83 X zF _ _ _ h)
  · refine z_iload X.1 dX1_movesFrom_61 0 rfl ?_
    refine z_iload_n (i := 1) X.1 dX1_movesFrom_63 2 rfl rfl ?_
    obtain ⟨r38, s39, hc40, h⟩ := bd_inv h
    refine cl_X1_51 (d1 := 0) (As := [.int v1]) (rest := [.int s0]) X.1 (by decide) (C_X5_gone X.2.1 hc40) rfl rfl (Nat.le_of_ble_eq_true rfl) dX1_movesFrom_64 ?_
    refine z_iconst (v := (-1 : Int32)) X.1 dX1_movesFrom_67 (by decide) ?_
    refine z_ixor X.1 dX1_movesFrom_68 ?_
    refine z_iand X.1 dX1_movesFrom_69 ?_
    exact z_iret X dX1_movesFrom_70 h
noncomputable def F_X1_movesFrom_26 (v1 : Int32) (v2 : Int32) (s0 : Int32) (σ : S3) : R3 :=
  if s0 = (0 : Int32) then (ck v2 16 (F_X1_movesFrom_52 v1 v2 (σ 1 5 (ix v2)) σ))
  else (ck v2 16 (F_X1_movesFrom_52 v1 v2 (σ 1 6 (ix v2)) σ))
set_option maxHeartbeats 4000000 in
set_option maxRecDepth 100000 in
theorem B_X1_movesFrom_26 {κ : zT} {σ' : S3} {r : Int32} (X : zC κ zX RX1 cX1_movesFrom 8 (some .int) 1 (some (.int r)) σ') {v1 : Int32} {v2 : Int32} {s0 : Int32} {σ : S3} (h : F_X1_movesFrom_26 v1 v2 s0 σ = some (r, σ')) : Z κ 8 (zX (ze κ.1) σ) [(0, .ref (zo κ.1 3)), (1, .int v1), (2, .int v2)] 26 [.int s0] := by
  unfold F_X1_movesFrom_26 at h
  refine z_istore_n (i := 3) (lv' := [(3, .int s0), (0, .ref (zo κ.1 3)), (1, .int v1), (2, .int v2)]) X.1 dX1_movesFrom_26 rfl (by decide) rfl ?_
  refine z_iload_n (i := 3) X.1 dX1_movesFrom_27 0 rfl rfl ?_
  refine z_if_eq (tgt := 43) X.1 dX1_movesFrom_28 (by decide) h (fun q18 h => ?_) (fun q18 h => ?_)
  · refine z_aload_n (i := 0) X.1 dX1_movesFrom_43 1 rfl rfl ?_
    refine g_X1_net X.1 tw147 dX1_movesFrom_44 ?_
    refine g_X2_touching (Or.inl rfl) X.1 tw112 dX1_movesFrom_47 ?_
    refine z_iload_n (i := 2) X.1 dX1_movesFrom_50 3 rfl rfl ?_
    refine al_X2_touching (Or.inl rfl) X.1 dX1_movesFrom_51 h (fun h => ?_)
    exact z_sub [1, 2, 3] rfl (B_X1_movesFrom_52 X h)
  · refine z_aload_n (i := 0) X.1 dX1_movesFrom_31 1 rfl rfl ?_
    refine g_X1_net X.1 tw147 dX1_movesFrom_32 ?_
    refine g_X2_leaving (Or.inl rfl) X.1 tw115 dX1_movesFrom_35 ?_
    refine z_iload_n (i := 2) X.1 dX1_movesFrom_38 3 rfl rfl ?_
    refine al_X2_leaving (Or.inl rfl) X.1 dX1_movesFrom_39 h (fun h => ?_)
    refine z_goto (tgt := 52) X.1 dX1_movesFrom_40 (by decide) ?_
    exact z_sub [1, 2, 3] rfl (B_X1_movesFrom_52 X h)
noncomputable def F_X1_movesFrom_21 (v1 : Int32) (v2 : Int32) (σ : S3) : R3 :=
  F_X1_movesFrom_26 v1 v2 (1 : Int32) σ
set_option maxHeartbeats 4000000 in
set_option maxRecDepth 100000 in
theorem B_X1_movesFrom_21 {κ : zT} {σ' : S3} {r : Int32} (X : zC κ zX RX1 cX1_movesFrom 8 (some .int) 1 (some (.int r)) σ') {v1 : Int32} {v2 : Int32} {σ : S3} (h : F_X1_movesFrom_21 v1 v2 σ = some (r, σ')) : Z κ 8 (zX (ze κ.1) σ) [(0, .ref (zo κ.1 3)), (1, .int v1), (2, .int v2)] 21 [] := by
  unfold F_X1_movesFrom_21 at h
  refine z_iconst (v := (1 : Int32)) X.1 dX1_movesFrom_21 (by decide) ?_
  refine z_goto (tgt := 26) X.1 dX1_movesFrom_22 (by decide) ?_
  exact z_sub [0, 1, 2] rfl (B_X1_movesFrom_26 X h)
noncomputable def F_X1_movesFrom (v1 : Int32) (σ : S3) : R3 :=
  bd (F_X5_marker v1 σ) (fun r14 s15 => if (s15 3 3 0) = (2 : Int32) then (F_X1_movesFrom_21 v1 r14 s15)
  else (if (s15 3 3 0) = (3 : Int32) then (F_X1_movesFrom_21 v1 r14 s15)
  else (F_X1_movesFrom_26 v1 r14 (0 : Int32) s15)))
set_option maxHeartbeats 4000000 in
set_option maxRecDepth 100000 in
theorem B_X1_movesFrom_0 {κ : zT} {σ' : S3} {r : Int32} (X : zC κ zX RX1 cX1_movesFrom 8 (some .int) 1 (some (.int r)) σ') {v1 : Int32} {σ : S3} (h : F_X1_movesFrom v1 σ = some (r, σ')) : Z κ 8 (zX (ze κ.1) σ) [(0, .ref (zo κ.1 3)), (1, .int v1)] 0 [] := by
  unfold F_X1_movesFrom at h
  refine z_iload_n (i := 1) X.1 dX1_movesFrom_0 1 rfl rfl ?_
  obtain ⟨r14, s15, hc16, h⟩ := bd_inv h
  refine cl_X1_35 (d1 := 0) (As := [.int v1]) (rest := []) X.1 (by decide) (C_X5_marker X.2.1 hc16) rfl rfl (Nat.le_of_ble_eq_true rfl) dX1_movesFrom_1 ?_
  refine z_istore_n (i := 2) (lv' := [(2, .int r14), (0, .ref (zo κ.1 3)), (1, .int v1)]) X.1 dX1_movesFrom_4 rfl (by decide) rfl ?_
  refine z_aload_n (i := 0) X.1 dX1_movesFrom_5 1 rfl rfl ?_
  refine g_X1_rule X.1 tw150 dX1_movesFrom_6 ?_
  refine z_iconst (v := (2 : Int32)) X.1 dX1_movesFrom_9 (by decide) ?_
  refine z_icmp_eq (tgt := 21) X.1 dX1_movesFrom_10 (by decide) h (fun q17 h => ?_) (fun q17 h => ?_)
  · exact z_sub [1, 2, 0] rfl (B_X1_movesFrom_21 X h)
  · refine z_aload_n (i := 0) X.1 dX1_movesFrom_13 1 rfl rfl ?_
    refine g_X1_rule X.1 tw150 dX1_movesFrom_14 ?_
    refine z_iconst (v := (3 : Int32)) X.1 dX1_movesFrom_17 (by decide) ?_
    refine z_icmp_ne (tgt := 25) X.1 dX1_movesFrom_18 (by decide) h (fun q41 h => ?_) (fun q41 h => ?_)
    · refine z_iconst (v := (0 : Int32)) X.1 dX1_movesFrom_25 (by decide) ?_
      exact z_sub [1, 2, 0] rfl (B_X1_movesFrom_26 X h)
    · exact z_sub [1, 2, 0] rfl (B_X1_movesFrom_21 X h)
theorem C_X1_movesFrom {ζ : zW} (hZ : zDis ζ zX) {v1 : Int32} {σ σ' : S3} {r : Int32} (h : F_X1_movesFrom v1 σ = some (r, σ')) : zMet ζ zX 1 yX1_movesFrom cX1_movesFrom 8 (some .int) [.ref (zo ζ 3), .int v1] σ (some (.int r)) σ' :=
  zMet_of pn_X1 hZ (Nat.le_of_ble_eq_true rfl) (fun κ e X => by subst e; exact B_X1_movesFrom_0 X h)
noncomputable def F_X2_hasLine (c : Nat) (v1 : Int32) (σ : S3) : R3 :=
  if v1 < (0 : Int32) then (some ((0 : Int32), σ))
  else (if (σ c 1 0) ≤ v1 then (some ((0 : Int32), σ))
  else (some ((1 : Int32), σ)))
set_option maxHeartbeats 4000000 in
set_option maxRecDepth 100000 in
theorem B_X2_hasLine_0 {κ : zT} {σ' : S3} {r : Int32} (X : zC κ zX RX2 cX2_hasLine 2 (some .boolean) 0 (some (.int r)) σ') {c : Nat} (hc : zNet c) {v1 : Int32} {σ : S3} (h : F_X2_hasLine c v1 σ = some (r, σ')) : Z κ 2 (zX (ze κ.1) σ) [(0, .ref (zo κ.1 c)), (1, .int v1)] 0 [] := by
  unfold F_X2_hasLine at h
  refine z_iload_n (i := 1) X.1 dX2_hasLine_0 1 rfl rfl ?_
  refine z_if_lt (tgt := 16) X.1 dX2_hasLine_1 (by decide) h (fun q45 h => ?_) (fun q45 h => ?_)
  · refine z_iconst (v := (0 : Int32)) X.1 dX2_hasLine_16 (by decide) ?_
    exact z_zret X dX2_hasLine_17 (Or.inl rfl) h
  · refine z_iload_n (i := 1) X.1 dX2_hasLine_4 1 rfl rfl ?_
    refine z_aload_n (i := 0) X.1 dX2_hasLine_5 0 rfl rfl ?_
    refine g_X2_lines hc X.1 tw100 dX2_hasLine_6 ?_
    refine z_icmp_ge (tgt := 16) X.1 dX2_hasLine_9 (by decide) h (fun q46 h => ?_) (fun q46 h => ?_)
    · refine z_iconst (v := (0 : Int32)) X.1 dX2_hasLine_16 (by decide) ?_
      exact z_zret X dX2_hasLine_17 (Or.inl rfl) h
    · refine z_iconst (v := (1 : Int32)) X.1 dX2_hasLine_12 (by decide) ?_
      refine z_goto (tgt := 17) X.1 dX2_hasLine_13 (by decide) ?_
      exact z_zret X dX2_hasLine_17 (Or.inr rfl) h
theorem C_X2_hasLine {ζ : zW} (hZ : zDis ζ zX) {c : Nat} (hc : zNet c) {v1 : Int32} {σ σ' : S3} {r : Int32} (h : F_X2_hasLine c v1 σ = some (r, σ')) : zMet ζ zX 0 yX2_hasLine cX2_hasLine 2 (some .boolean) [.ref (zo ζ c), .int v1] σ (some (.int r)) σ' :=
  zMet_of pn_X2 hZ (Nat.le_of_ble_eq_true rfl) (fun κ e X => by subst e; exact B_X2_hasLine_0 X hc h)
noncomputable def F_X5_behind (v0 : Int32) (v1 : Int32) (v2 : Int32) (σ : S3) : R3 :=
  some ((((v0 &&& (-16 : Int32)) ||| v2) ||| ((1 : Int32) <<< ((v2 + (4 : Int32)) &&& 31))) ||| ((1 : Int32) <<< ((v1 + (14 : Int32)) &&& 31)), σ)
set_option maxHeartbeats 4000000 in
set_option maxRecDepth 100000 in
theorem B_X5_behind_0 {κ : zT} {σ' : S3} {r : Int32} (X : zC κ zX RX5 cX5_behind 3 (some .int) 0 (some (.int r)) σ') {v0 : Int32} {v1 : Int32} {v2 : Int32} {σ : S3} (h : F_X5_behind v0 v1 v2 σ = some (r, σ')) : Z κ 3 (zX (ze κ.1) σ) [(0, .int v0), (1, .int v1), (2, .int v2)] 0 [] := by
  unfold F_X5_behind at h
  refine z_iload_n (i := 0) X.1 dX5_behind_0 0 rfl rfl ?_
  refine z_bipush (v := (-16 : Int32)) X.1 dX5_behind_1 (by decide) ?_
  refine z_iand X.1 dX5_behind_3 ?_
  refine z_iload_n (i := 2) X.1 dX5_behind_4 2 rfl rfl ?_
  refine z_ior X.1 dX5_behind_5 ?_
  refine z_iconst (v := (1 : Int32)) X.1 dX5_behind_6 (by decide) ?_
  refine z_iload_n (i := 2) X.1 dX5_behind_7 2 rfl rfl ?_
  refine z_iconst (v := (4 : Int32)) X.1 dX5_behind_8 (by decide) ?_
  refine z_iadd X.1 dX5_behind_9 ?_
  refine z_ishl X.1 dX5_behind_10 ?_
  refine z_ior X.1 dX5_behind_11 ?_
  refine z_iconst (v := (1 : Int32)) X.1 dX5_behind_12 (by decide) ?_
  refine z_iload_n (i := 1) X.1 dX5_behind_13 1 rfl rfl ?_
  refine z_bipush (v := (14 : Int32)) X.1 dX5_behind_14 (by decide) ?_
  refine z_iadd X.1 dX5_behind_16 ?_
  refine z_ishl X.1 dX5_behind_17 ?_
  refine z_ior X.1 dX5_behind_18 ?_
  exact z_iret X dX5_behind_19 h
theorem C_X5_behind {ζ : zW} (hZ : zDis ζ zX) {v0 : Int32} {v1 : Int32} {v2 : Int32} {σ σ' : S3} {r : Int32} (h : F_X5_behind v0 v1 v2 σ = some (r, σ')) : zMet ζ zX 0 yX5_behind cX5_behind 3 (some .int) [.int v0, .int v1, .int v2] σ (some (.int r)) σ' :=
  zMet_of pn_X5 hZ (Nat.le_of_ble_eq_true rfl) (fun κ e X => by subst e; exact B_X5_behind_0 X h)
noncomputable def F_X1_behind (v1 : Int32) (v2 : Int32) (σ : S3) : R3 :=
  bd (F_X2_hasLine 1 v2 σ) (fun r42 s43 => if r42 = (0 : Int32) then (some (v1, s43))
  else (bd (F_X5_marker v1 s43) (fun r48 s49 => bd (F_X2_otherEnd 1 v2 r48 s49) (fun r51 s52 => bd (F_X5_behind v1 v2 r51 s52) (fun r54 s55 => some (r54, s55))))))
set_option maxHeartbeats 4000000 in
set_option maxRecDepth 100000 in
theorem B_X1_behind_0 {κ : zT} {σ' : S3} {r : Int32} (X : zC κ zX RX1 cX1_behind 3 (some .int) 1 (some (.int r)) σ') {v1 : Int32} {v2 : Int32} {σ : S3} (h : F_X1_behind v1 v2 σ = some (r, σ')) : Z κ 3 (zX (ze κ.1) σ) [(0, .ref (zo κ.1 3)), (1, .int v1), (2, .int v2)] 0 [] := by
  unfold F_X1_behind at h
  refine z_aload_n (i := 0) X.1 dX1_behind_0 0 rfl rfl ?_
  refine g_X1_net X.1 tw147 dX1_behind_1 ?_
  refine z_iload_n (i := 2) X.1 dX1_behind_4 2 rfl rfl ?_
  obtain ⟨r42, s43, hc44, h⟩ := bd_inv h
  refine cl_X1_64 (d1 := 0) (b := zo κ.1 1) (As := [.int v2]) (rest := []) X.1 (by decide) (C_X2_hasLine X.2.1 (Or.inl rfl) hc44) (rcX2 (Or.inl rfl)) rfl rfl (Nat.le_of_ble_eq_true rfl) dX1_behind_5 ?_
  refine z_if_eq (tgt := 31) X.1 dX1_behind_8 (by decide) h (fun q47 h => ?_) (fun q47 h => ?_)
  · refine z_iload_n (i := 1) X.1 dX1_behind_31 1 rfl rfl ?_
    exact z_iret X dX1_behind_32 h
  · refine z_iload_n (i := 1) X.1 dX1_behind_11 1 rfl rfl ?_
    refine z_iload_n (i := 2) X.1 dX1_behind_12 2 rfl rfl ?_
    refine z_aload_n (i := 0) X.1 dX1_behind_13 0 rfl rfl ?_
    refine g_X1_net X.1 tw147 dX1_behind_14 ?_
    refine z_iload_n (i := 2) X.1 dX1_behind_17 2 rfl rfl ?_
    refine z_iload_n (i := 1) X.1 dX1_behind_18 1 rfl rfl ?_
    obtain ⟨r48, s49, hc50, h⟩ := bd_inv h
    refine cl_X1_35 (d1 := 0) (As := [.int v1]) (rest := [.int v2, .ref (zo κ.1 1), .int v2, .int v1]) X.1 (by decide) (C_X5_marker X.2.1 hc50) rfl rfl (Nat.le_of_ble_eq_true rfl) dX1_behind_19 ?_
    obtain ⟨r51, s52, hc53, h⟩ := bd_inv h
    refine cl_X1_60 (d1 := 0) (b := zo κ.1 1) (As := [.int v2, .int r48]) (rest := [.int v2, .int v1]) X.1 (by decide) (C_X2_otherEnd X.2.1 (Or.inl rfl) hc53) (rcX2 (Or.inl rfl)) rfl rfl (Nat.le_of_ble_eq_true rfl) dX1_behind_22 ?_
    obtain ⟨r54, s55, hc56, h⟩ := bd_inv h
    refine cl_X1_68 (d1 := 0) (As := [.int v1, .int v2, .int r51]) (rest := []) X.1 (by decide) (C_X5_behind X.2.1 hc56) rfl rfl (Nat.le_of_ble_eq_true rfl) dX1_behind_25 ?_
    refine z_goto (tgt := 32) X.1 dX1_behind_28 (by decide) ?_
    exact z_iret X dX1_behind_32 h
theorem C_X1_behind {ζ : zW} (hZ : zDis ζ zX) {v1 : Int32} {v2 : Int32} {σ σ' : S3} {r : Int32} (h : F_X1_behind v1 v2 σ = some (r, σ')) : zMet ζ zX 1 yX1_behind cX1_behind 3 (some .int) [.ref (zo ζ 3), .int v1, .int v2] σ (some (.int r)) σ' :=
  zMet_of pn_X1 hZ (Nat.le_of_ble_eq_true rfl) (fun κ e X => by subst e; exact B_X1_behind_0 X h)
noncomputable def F_X5_markerAndMet (v0 : Int32) (σ : S3) : R3 :=
  bd (F_X5_marker v0 σ) (fun r67 s68 => bd (F_X5_met v0 s68) (fun r70 s71 => nm (r70 &&& (((1 : Int32) <<< (r67 &&& 31)) - (1 : Int32))) (fun x73 => nm (((Int32.toUInt32 r70 >>> (Int32.toUInt32 (r67 + (1 : Int32)) &&& Int32.toUInt32 31)).toInt32) <<< (r67 &&& 31)) (fun x74 => some ((r67 <<< ((9 : Int32) &&& 31)) ||| ((x73 ||| x74) &&& (511 : Int32)), s71)))))
set_option maxHeartbeats 4000000 in
set_option maxRecDepth 100000 in
theorem B_X5_markerAndMet_0 {κ : zT} {σ' : S3} {r : Int32} (X : zC κ zX RX5 cX5_markerAndMet 5 (some .int) 1 (some (.int r)) σ') {v0 : Int32} {σ : S3} (h : F_X5_markerAndMet v0 σ = some (r, σ')) : Z κ 5 (zX (ze κ.1) σ) [(0, .int v0)] 0 [] := by
  unfold F_X5_markerAndMet at h
  refine z_iload_n (i := 0) X.1 dX5_markerAndMet_0 0 rfl rfl ?_
  obtain ⟨r67, s68, hc69, h⟩ := bd_inv h
  refine cl_X5_9 (d1 := 0) (As := [.int v0]) (rest := []) X.1 (by decide) (C_X5_marker X.2.1 hc69) rfl rfl (Nat.le_of_ble_eq_true rfl) dX5_markerAndMet_1 ?_
  refine z_istore_n (i := 1) (lv' := [(1, .int r67), (0, .int v0)]) X.1 dX5_markerAndMet_4 rfl (by decide) rfl ?_
  refine z_iload_n (i := 0) X.1 dX5_markerAndMet_5 1 rfl rfl ?_
  obtain ⟨r70, s71, hc72, h⟩ := bd_inv h
  refine cl_X5_13 (d1 := 0) (As := [.int v0]) (rest := []) X.1 (by decide) (C_X5_met X.2.1 hc72) rfl rfl (Nat.le_of_ble_eq_true rfl) dX5_markerAndMet_6 ?_
  refine z_istore_n (i := 2) (lv' := [(2, .int r70), (1, .int r67), (0, .int v0)]) X.1 dX5_markerAndMet_9 rfl (by decide) rfl ?_
  refine z_iload_n (i := 2) X.1 dX5_markerAndMet_10 0 rfl rfl ?_
  refine z_iconst (v := (1 : Int32)) X.1 dX5_markerAndMet_11 (by decide) ?_
  refine z_iload_n (i := 1) X.1 dX5_markerAndMet_12 1 rfl rfl ?_
  refine z_ishl X.1 dX5_markerAndMet_13 ?_
  refine z_iconst (v := (1 : Int32)) X.1 dX5_markerAndMet_14 (by decide) ?_
  refine z_isub X.1 dX5_markerAndMet_15 ?_
  refine z_iand X.1 dX5_markerAndMet_16 ?_
  refine z_istore_nn (i := 3) (lv' := fun x73 => [(3, .int x73), (2, .int r70), (1, .int r67), (0, .int v0)]) X.1 dX5_markerAndMet_17 rfl (by decide) (fun _ => rfl) h (fun x73 h => ?_)
  refine z_iload_n (i := 2) X.1 dX5_markerAndMet_18 1 rfl rfl ?_
  refine z_iload_n (i := 1) X.1 dX5_markerAndMet_19 2 rfl rfl ?_
  refine z_iconst (v := (1 : Int32)) X.1 dX5_markerAndMet_20 (by decide) ?_
  refine z_iadd X.1 dX5_markerAndMet_21 ?_
  refine z_iushr X.1 dX5_markerAndMet_22 ?_
  refine z_iload_n (i := 1) X.1 dX5_markerAndMet_23 2 rfl rfl ?_
  refine z_ishl X.1 dX5_markerAndMet_24 ?_
  refine z_istore_m (i := 4) (lv' := fun x74 => [(4, .int x74), (3, .int x73), (2, .int r70), (1, .int r67), (0, .int v0)]) X.1 dX5_markerAndMet_25 (by decide) (fun _ => rfl) h (fun x74 h => ?_)
  refine z_iload_n (i := 1) X.1 dX5_markerAndMet_27 3 rfl rfl ?_
  refine z_bipush (v := (9 : Int32)) X.1 dX5_markerAndMet_28 (by decide) ?_
  refine z_ishl X.1 dX5_markerAndMet_30 ?_
  refine z_iload_n (i := 3) X.1 dX5_markerAndMet_31 1 rfl rfl ?_
  refine z_iload X.1 dX5_markerAndMet_32 0 rfl ?_
  refine z_ior X.1 dX5_markerAndMet_34 ?_
  refine z_sipush (v := (511 : Int32)) X.1 dX5_markerAndMet_35 (by decide) ?_
  refine z_iand X.1 dX5_markerAndMet_38 ?_
  refine z_ior X.1 dX5_markerAndMet_39 ?_
  exact z_iret X dX5_markerAndMet_40 h
theorem C_X5_markerAndMet {ζ : zW} (hZ : zDis ζ zX) {v0 : Int32} {σ σ' : S3} {r : Int32} (h : F_X5_markerAndMet v0 σ = some (r, σ')) : zMet ζ zX 1 yX5_markerAndMet cX5_markerAndMet 5 (some .int) [.int v0] σ (some (.int r)) σ' :=
  zMet_of pn_X5 hZ (Nat.le_of_ble_eq_true rfl) (fun κ e X => by subst e; exact B_X5_markerAndMet_0 X h)
noncomputable def F_J6_numberOfTrailingZeros_0f7a4_62 (v0 : Int32) (v1 : Int32) (σ : S3) : R3 :=
  if v0 ≤ (4 : Int32) then (some (v1 + ((Int32.toUInt32 v0 >>> (Int32.toUInt32 (1 : Int32) &&& Int32.toUInt32 31)).toInt32), σ))
  else (nm (v1 + (2 : Int32)) (fun x88 => nm ((Int32.toUInt32 v0 >>> (Int32.toUInt32 (2 : Int32) &&& Int32.toUInt32 31)).toInt32) (fun x89 => some (x88 + ((Int32.toUInt32 x89 >>> (Int32.toUInt32 (1 : Int32) &&& Int32.toUInt32 31)).toInt32), σ))))
set_option maxHeartbeats 4000000 in
set_option maxRecDepth 100000 in
theorem B_J6_numberOfTrailingZeros_0f7a4_62 {κ : zT} {σ' : S3} {r : Int32} (X : zC κ zX RJ6 cJ6_numberOfTrailingZeros_0f7a4 2 (some .int) 0 (some (.int r)) σ') {v0 : Int32} {v1 : Int32} {σ : S3} (h : F_J6_numberOfTrailingZeros_0f7a4_62 v0 v1 σ = some (r, σ')) : Z κ 2 (zX (ze κ.1) σ) [(0, .int v0), (1, .int v1)] 62 [] := by
  unfold F_J6_numberOfTrailingZeros_0f7a4_62 at h
  refine z_iload_n (i := 0) X.1 dJ6_numberOfTrailingZeros_0f7a4_62 0 rfl rfl ?_
  refine z_iconst (v := (4 : Int32)) X.1 dJ6_numberOfTrailingZeros_0f7a4_63 (by decide) ?_
  refine z_icmp_le (tgt := 74) X.1 dJ6_numberOfTrailingZeros_0f7a4_64 (by decide) h (fun q87 h => ?_) (fun q87 h => ?_)
  · refine z_iload_n (i := 1) X.1 dJ6_numberOfTrailingZeros_0f7a4_74 1 rfl rfl ?_
    refine z_iload_n (i := 0) X.1 dJ6_numberOfTrailingZeros_0f7a4_75 0 rfl rfl ?_
    refine z_iconst (v := (1 : Int32)) X.1 dJ6_numberOfTrailingZeros_0f7a4_76 (by decide) ?_
    refine z_iushr X.1 dJ6_numberOfTrailingZeros_0f7a4_77 ?_
    refine z_iadd X.1 dJ6_numberOfTrailingZeros_0f7a4_78 ?_
    exact z_iret X dJ6_numberOfTrailingZeros_0f7a4_79 h
  · refine z_iinc_m (v := (2 : Int32)) (lv' := fun x88 => [(1, .int x88), (0, .int v0)]) X.1 dJ6_numberOfTrailingZeros_0f7a4_67 1 rfl (by decide) (by decide) (fun _ => rfl) h (fun x88 h => ?_)
    refine z_iload_n (i := 0) X.1 dJ6_numberOfTrailingZeros_0f7a4_70 1 rfl rfl ?_
    refine z_iconst (v := (2 : Int32)) X.1 dJ6_numberOfTrailingZeros_0f7a4_71 (by decide) ?_
    refine z_iushr X.1 dJ6_numberOfTrailingZeros_0f7a4_72 ?_
    refine z_istore_nn (i := 0) (lv' := fun x89 => [(0, .int x89), (1, .int x88)]) X.1 dJ6_numberOfTrailingZeros_0f7a4_73 rfl (by decide) (fun _ => rfl) h (fun x89 h => ?_)
    refine z_iload_n (i := 1) X.1 dJ6_numberOfTrailingZeros_0f7a4_74 1 rfl rfl ?_
    refine z_iload_n (i := 0) X.1 dJ6_numberOfTrailingZeros_0f7a4_75 0 rfl rfl ?_
    refine z_iconst (v := (1 : Int32)) X.1 dJ6_numberOfTrailingZeros_0f7a4_76 (by decide) ?_
    refine z_iushr X.1 dJ6_numberOfTrailingZeros_0f7a4_77 ?_
    refine z_iadd X.1 dJ6_numberOfTrailingZeros_0f7a4_78 ?_
    exact z_iret X dJ6_numberOfTrailingZeros_0f7a4_79 h
noncomputable def F_J6_numberOfTrailingZeros_0f7a4_49 (v0 : Int32) (v1 : Int32) (σ : S3) : R3 :=
  if v0 ≤ (16 : Int32) then (F_J6_numberOfTrailingZeros_0f7a4_62 v0 v1 σ)
  else (nm (v1 + (4 : Int32)) (fun x90 => nm ((Int32.toUInt32 v0 >>> (Int32.toUInt32 (4 : Int32) &&& Int32.toUInt32 31)).toInt32) (fun x91 => F_J6_numberOfTrailingZeros_0f7a4_62 x91 x90 σ)))
set_option maxHeartbeats 4000000 in
set_option maxRecDepth 100000 in
theorem B_J6_numberOfTrailingZeros_0f7a4_49 {κ : zT} {σ' : S3} {r : Int32} (X : zC κ zX RJ6 cJ6_numberOfTrailingZeros_0f7a4 2 (some .int) 0 (some (.int r)) σ') {v0 : Int32} {v1 : Int32} {σ : S3} (h : F_J6_numberOfTrailingZeros_0f7a4_49 v0 v1 σ = some (r, σ')) : Z κ 2 (zX (ze κ.1) σ) [(0, .int v0), (1, .int v1)] 49 [] := by
  unfold F_J6_numberOfTrailingZeros_0f7a4_49 at h
  refine z_iload_n (i := 0) X.1 dJ6_numberOfTrailingZeros_0f7a4_49 0 rfl rfl ?_
  refine z_bipush (v := (16 : Int32)) X.1 dJ6_numberOfTrailingZeros_0f7a4_50 (by decide) ?_
  refine z_icmp_le (tgt := 62) X.1 dJ6_numberOfTrailingZeros_0f7a4_52 (by decide) h (fun q86 h => ?_) (fun q86 h => ?_)
  · exact z_sub [0, 1] rfl (B_J6_numberOfTrailingZeros_0f7a4_62 X h)
  · refine z_iinc_m (v := (4 : Int32)) (lv' := fun x90 => [(1, .int x90), (0, .int v0)]) X.1 dJ6_numberOfTrailingZeros_0f7a4_55 1 rfl (by decide) (by decide) (fun _ => rfl) h (fun x90 h => ?_)
    refine z_iload_n (i := 0) X.1 dJ6_numberOfTrailingZeros_0f7a4_58 1 rfl rfl ?_
    refine z_iconst (v := (4 : Int32)) X.1 dJ6_numberOfTrailingZeros_0f7a4_59 (by decide) ?_
    refine z_iushr X.1 dJ6_numberOfTrailingZeros_0f7a4_60 ?_
    refine z_istore_nn (i := 0) (lv' := fun x91 => [(0, .int x91), (1, .int x90)]) X.1 dJ6_numberOfTrailingZeros_0f7a4_61 rfl (by decide) (fun _ => rfl) h (fun x91 h => ?_)
    exact z_sub [0, 1] rfl (B_J6_numberOfTrailingZeros_0f7a4_62 X h)
noncomputable def F_J6_numberOfTrailingZeros_0f7a4_34 (v0 : Int32) (v1 : Int32) (σ : S3) : R3 :=
  if v0 ≤ (256 : Int32) then (F_J6_numberOfTrailingZeros_0f7a4_49 v0 v1 σ)
  else (nm (v1 + (8 : Int32)) (fun x92 => nm ((Int32.toUInt32 v0 >>> (Int32.toUInt32 (8 : Int32) &&& Int32.toUInt32 31)).toInt32) (fun x93 => F_J6_numberOfTrailingZeros_0f7a4_49 x93 x92 σ)))
set_option maxHeartbeats 4000000 in
set_option maxRecDepth 100000 in
theorem B_J6_numberOfTrailingZeros_0f7a4_34 {κ : zT} {σ' : S3} {r : Int32} (X : zC κ zX RJ6 cJ6_numberOfTrailingZeros_0f7a4 2 (some .int) 0 (some (.int r)) σ') {v0 : Int32} {v1 : Int32} {σ : S3} (h : F_J6_numberOfTrailingZeros_0f7a4_34 v0 v1 σ = some (r, σ')) : Z κ 2 (zX (ze κ.1) σ) [(0, .int v0), (1, .int v1)] 34 [] := by
  unfold F_J6_numberOfTrailingZeros_0f7a4_34 at h
  refine z_iload_n (i := 0) X.1 dJ6_numberOfTrailingZeros_0f7a4_34 0 rfl rfl ?_
  refine z_sipush (v := (256 : Int32)) X.1 dJ6_numberOfTrailingZeros_0f7a4_35 (by decide) ?_
  refine z_icmp_le (tgt := 49) X.1 dJ6_numberOfTrailingZeros_0f7a4_38 (by decide) h (fun q85 h => ?_) (fun q85 h => ?_)
  · exact z_sub [0, 1] rfl (B_J6_numberOfTrailingZeros_0f7a4_49 X h)
  · refine z_iinc_m (v := (8 : Int32)) (lv' := fun x92 => [(1, .int x92), (0, .int v0)]) X.1 dJ6_numberOfTrailingZeros_0f7a4_41 1 rfl (by decide) (by decide) (fun _ => rfl) h (fun x92 h => ?_)
    refine z_iload_n (i := 0) X.1 dJ6_numberOfTrailingZeros_0f7a4_44 1 rfl rfl ?_
    refine z_bipush (v := (8 : Int32)) X.1 dJ6_numberOfTrailingZeros_0f7a4_45 (by decide) ?_
    refine z_iushr X.1 dJ6_numberOfTrailingZeros_0f7a4_47 ?_
    refine z_istore_nn (i := 0) (lv' := fun x93 => [(0, .int x93), (1, .int x92)]) X.1 dJ6_numberOfTrailingZeros_0f7a4_48 rfl (by decide) (fun _ => rfl) h (fun x93 h => ?_)
    exact z_sub [0, 1] rfl (B_J6_numberOfTrailingZeros_0f7a4_49 X h)
noncomputable def F_J6_numberOfTrailingZeros_0f7a4 (v0 : Int32) (σ : S3) : R3 :=
  nm ((v0 ^^^ (-1 : Int32)) &&& (v0 - (1 : Int32))) (fun x82 => if (0 : Int32) < x82 then (if x82 ≤ (65536 : Int32) then (F_J6_numberOfTrailingZeros_0f7a4_34 x82 (1 : Int32) σ)
  else (nm ((1 : Int32) + (16 : Int32)) (fun x94 => nm ((Int32.toUInt32 x82 >>> (Int32.toUInt32 (16 : Int32) &&& Int32.toUInt32 31)).toInt32) (fun x95 => F_J6_numberOfTrailingZeros_0f7a4_34 x95 x94 σ))))
  else (some (x82 &&& (32 : Int32), σ)))
set_option maxHeartbeats 4000000 in
set_option maxRecDepth 100000 in
theorem B_J6_numberOfTrailingZeros_0f7a4_0 {κ : zT} {σ' : S3} {r : Int32} (X : zC κ zX RJ6 cJ6_numberOfTrailingZeros_0f7a4 2 (some .int) 0 (some (.int r)) σ') {v0 : Int32} {σ : S3} (h : F_J6_numberOfTrailingZeros_0f7a4 v0 σ = some (r, σ')) : Z κ 2 (zX (ze κ.1) σ) [(0, .int v0)] 0 [] := by
  unfold F_J6_numberOfTrailingZeros_0f7a4 at h
  refine z_iload_n (i := 0) X.1 dJ6_numberOfTrailingZeros_0f7a4_0 0 rfl rfl ?_
  refine z_iconst (v := (-1 : Int32)) X.1 dJ6_numberOfTrailingZeros_0f7a4_1 (by decide) ?_
  refine z_ixor X.1 dJ6_numberOfTrailingZeros_0f7a4_2 ?_
  refine z_iload_n (i := 0) X.1 dJ6_numberOfTrailingZeros_0f7a4_3 0 rfl rfl ?_
  refine z_iconst (v := (1 : Int32)) X.1 dJ6_numberOfTrailingZeros_0f7a4_4 (by decide) ?_
  refine z_isub X.1 dJ6_numberOfTrailingZeros_0f7a4_5 ?_
  refine z_iand X.1 dJ6_numberOfTrailingZeros_0f7a4_6 ?_
  refine z_istore_nn (i := 0) (lv' := fun x82 => [(0, .int x82)]) X.1 dJ6_numberOfTrailingZeros_0f7a4_7 rfl (by decide) (fun _ => rfl) h (fun x82 h => ?_)
  refine z_iload_n (i := 0) X.1 dJ6_numberOfTrailingZeros_0f7a4_8 0 rfl rfl ?_
  refine z_if_gt (tgt := 17) X.1 dJ6_numberOfTrailingZeros_0f7a4_9 (by decide) h (fun q83 h => ?_) (fun q83 h => ?_)
  · refine z_iconst (v := (1 : Int32)) X.1 dJ6_numberOfTrailingZeros_0f7a4_17 (by decide) ?_
    refine z_istore_n (i := 1) (lv' := [(1, .int (1 : Int32)), (0, .int x82)]) X.1 dJ6_numberOfTrailingZeros_0f7a4_18 rfl (by decide) rfl ?_
    refine z_iload_n (i := 0) X.1 dJ6_numberOfTrailingZeros_0f7a4_19 1 rfl rfl ?_
    refine z_ldc_w (v := (65536 : Int32)) X.1 dJ6_numberOfTrailingZeros_0f7a4_20 tw555 ?_
    refine z_icmp_le (tgt := 34) X.1 dJ6_numberOfTrailingZeros_0f7a4_23 (by decide) h (fun q84 h => ?_) (fun q84 h => ?_)
    · exact z_sub [1, 0] rfl (B_J6_numberOfTrailingZeros_0f7a4_34 X h)
    · refine z_iinc_m (v := (16 : Int32)) (lv' := fun x94 => [(1, .int x94), (0, .int x82)]) X.1 dJ6_numberOfTrailingZeros_0f7a4_26 0 rfl (by decide) (by decide) (fun _ => rfl) h (fun x94 h => ?_)
      refine z_iload_n (i := 0) X.1 dJ6_numberOfTrailingZeros_0f7a4_29 1 rfl rfl ?_
      refine z_bipush (v := (16 : Int32)) X.1 dJ6_numberOfTrailingZeros_0f7a4_30 (by decide) ?_
      refine z_iushr X.1 dJ6_numberOfTrailingZeros_0f7a4_32 ?_
      refine z_istore_nn (i := 0) (lv' := fun x95 => [(0, .int x95), (1, .int x94)]) X.1 dJ6_numberOfTrailingZeros_0f7a4_33 rfl (by decide) (fun _ => rfl) h (fun x95 h => ?_)
      exact z_sub [0, 1] rfl (B_J6_numberOfTrailingZeros_0f7a4_34 X h)
  · refine z_iload_n (i := 0) X.1 dJ6_numberOfTrailingZeros_0f7a4_12 0 rfl rfl ?_
    refine z_bipush (v := (32 : Int32)) X.1 dJ6_numberOfTrailingZeros_0f7a4_13 (by decide) ?_
    refine z_iand X.1 dJ6_numberOfTrailingZeros_0f7a4_15 ?_
    exact z_iret X dJ6_numberOfTrailingZeros_0f7a4_16 h
theorem C_J6_numberOfTrailingZeros_0f7a4 {ζ : zW} (hZ : zDis ζ zX) {v0 : Int32} {σ σ' : S3} {r : Int32} (h : F_J6_numberOfTrailingZeros_0f7a4 v0 σ = some (r, σ')) : zMet ζ zX 0 yJ6_numberOfTrailingZeros_0f7a4 cJ6_numberOfTrailingZeros_0f7a4 2 (some .int) [.int v0] σ (some (.int r)) σ' :=
  zMet_of pn_J6 hZ (Nat.le_of_ble_eq_true rfl) (fun κ e X => by subst e; exact B_J6_numberOfTrailingZeros_0f7a4_0 X h)
noncomputable def F_X1_joined (v0 : Int32) (v1 : Int32) (v2 : Int32) (σ : S3) : R3 :=
  some ((v0 ||| (v1 <<< ((1 : Int32) &&& 31))) ||| (v2 <<< ((5 : Int32) &&& 31)), σ)
set_option maxHeartbeats 4000000 in
set_option maxRecDepth 100000 in
theorem B_X1_joined_0 {κ : zT} {σ' : S3} {r : Int32} (X : zC κ zX RX1 cX1_joined 3 (some .int) 0 (some (.int r)) σ') {v0 : Int32} {v1 : Int32} {v2 : Int32} {σ : S3} (h : F_X1_joined v0 v1 v2 σ = some (r, σ')) : Z κ 3 (zX (ze κ.1) σ) [(0, .int v0), (1, .int v1), (2, .int v2)] 0 [] := by
  unfold F_X1_joined at h
  refine z_iload_n (i := 0) X.1 dX1_joined_0 0 rfl rfl ?_
  refine z_iload_n (i := 1) X.1 dX1_joined_1 1 rfl rfl ?_
  refine z_iconst (v := (1 : Int32)) X.1 dX1_joined_2 (by decide) ?_
  refine z_ishl X.1 dX1_joined_3 ?_
  refine z_ior X.1 dX1_joined_4 ?_
  refine z_iload_n (i := 2) X.1 dX1_joined_5 2 rfl rfl ?_
  refine z_iconst (v := (5 : Int32)) X.1 dX1_joined_6 (by decide) ?_
  refine z_ishl X.1 dX1_joined_7 ?_
  refine z_ior X.1 dX1_joined_8 ?_
  exact z_iret X dX1_joined_9 h
theorem C_X1_joined {ζ : zW} (hZ : zDis ζ zX) {v0 : Int32} {v1 : Int32} {v2 : Int32} {σ σ' : S3} {r : Int32} (h : F_X1_joined v0 v1 v2 σ = some (r, σ')) : zMet ζ zX 0 yX1_joined cX1_joined 3 (some .int) [.int v0, .int v1, .int v2] σ (some (.int r)) σ' :=
  zMet_of pn_X1 hZ (Nat.le_of_ble_eq_true rfl) (fun κ e X => by subst e; exact B_X1_joined_0 X h)
noncomputable def F_X1_winsAs (v0 : Int32) (σ : S3) : R3 :=
  if (v0 &&& (1 : Int32)) = (0 : Int32) then (some ((0 : Int32), σ))
  else (some ((1 : Int32), σ))
set_option maxHeartbeats 4000000 in
set_option maxRecDepth 100000 in
theorem B_X1_winsAs_0 {κ : zT} {σ' : S3} {r : Int32} (X : zC κ zX RX1 cX1_winsAs 1 (some .boolean) 0 (some (.int r)) σ') {v0 : Int32} {σ : S3} (h : F_X1_winsAs v0 σ = some (r, σ')) : Z κ 1 (zX (ze κ.1) σ) [(0, .int v0)] 0 [] := by
  unfold F_X1_winsAs at h
  refine z_iload_n (i := 0) X.1 dX1_winsAs_0 0 rfl rfl ?_
  refine z_iconst (v := (1 : Int32)) X.1 dX1_winsAs_1 (by decide) ?_
  refine z_iand X.1 dX1_winsAs_2 ?_
  refine z_if_eq (tgt := 10) X.1 dX1_winsAs_3 (by decide) h (fun q115 h => ?_) (fun q115 h => ?_)
  · refine z_iconst (v := (0 : Int32)) X.1 dX1_winsAs_10 (by decide) ?_
    exact z_zret X dX1_winsAs_11 (Or.inl rfl) h
  · refine z_iconst (v := (1 : Int32)) X.1 dX1_winsAs_6 (by decide) ?_
    refine z_goto (tgt := 11) X.1 dX1_winsAs_7 (by decide) ?_
    exact z_zret X dX1_winsAs_11 (Or.inr rfl) h
theorem C_X1_winsAs {ζ : zW} (hZ : zDis ζ zX) {v0 : Int32} {σ σ' : S3} {r : Int32} (h : F_X1_winsAs v0 σ = some (r, σ')) : zMet ζ zX 0 yX1_winsAs cX1_winsAs 1 (some .boolean) [.int v0] σ (some (.int r)) σ' :=
  zMet_of pn_X1 hZ (Nat.le_of_ble_eq_true rfl) (fun κ e X => by subst e; exact B_X1_winsAs_0 X h)
noncomputable def F_X1_lengthAs (v0 : Int32) (σ : S3) : R3 :=
  some ((v0 >>> ((1 : Int32) &&& 31)) &&& (15 : Int32), σ)
set_option maxHeartbeats 4000000 in
set_option maxRecDepth 100000 in
theorem B_X1_lengthAs_0 {κ : zT} {σ' : S3} {r : Int32} (X : zC κ zX RX1 cX1_lengthAs 1 (some .int) 0 (some (.int r)) σ') {v0 : Int32} {σ : S3} (h : F_X1_lengthAs v0 σ = some (r, σ')) : Z κ 1 (zX (ze κ.1) σ) [(0, .int v0)] 0 [] := by
  unfold F_X1_lengthAs at h
  refine z_iload_n (i := 0) X.1 dX1_lengthAs_0 0 rfl rfl ?_
  refine z_iconst (v := (1 : Int32)) X.1 dX1_lengthAs_1 (by decide) ?_
  refine z_ishr X.1 dX1_lengthAs_2 ?_
  refine z_bipush (v := (15 : Int32)) X.1 dX1_lengthAs_3 (by decide) ?_
  refine z_iand X.1 dX1_lengthAs_5 ?_
  exact z_iret X dX1_lengthAs_6 h
theorem C_X1_lengthAs {ζ : zW} (hZ : zDis ζ zX) {v0 : Int32} {σ σ' : S3} {r : Int32} (h : F_X1_lengthAs v0 σ = some (r, σ')) : zMet ζ zX 0 yX1_lengthAs cX1_lengthAs 1 (some .int) [.int v0] σ (some (.int r)) σ' :=
  zMet_of pn_X1 hZ (Nat.le_of_ble_eq_true rfl) (fun κ e X => by subst e; exact B_X1_lengthAs_0 X h)
noncomputable def F_X1_nimAs (v0 : Int32) (σ : S3) : R3 :=
  some ((v0 >>> ((5 : Int32) &&& 31)) &&& (15 : Int32), σ)
set_option maxHeartbeats 4000000 in
set_option maxRecDepth 100000 in
theorem B_X1_nimAs_0 {κ : zT} {σ' : S3} {r : Int32} (X : zC κ zX RX1 cX1_nimAs 1 (some .int) 0 (some (.int r)) σ') {v0 : Int32} {σ : S3} (h : F_X1_nimAs v0 σ = some (r, σ')) : Z κ 1 (zX (ze κ.1) σ) [(0, .int v0)] 0 [] := by
  unfold F_X1_nimAs at h
  refine z_iload_n (i := 0) X.1 dX1_nimAs_0 0 rfl rfl ?_
  refine z_iconst (v := (5 : Int32)) X.1 dX1_nimAs_1 (by decide) ?_
  refine z_ishr X.1 dX1_nimAs_2 ?_
  refine z_bipush (v := (15 : Int32)) X.1 dX1_nimAs_3 (by decide) ?_
  refine z_iand X.1 dX1_nimAs_5 ?_
  exact z_iret X dX1_nimAs_6 h
theorem C_X1_nimAs {ζ : zW} (hZ : zDis ζ zX) {v0 : Int32} {σ σ' : S3} {r : Int32} (h : F_X1_nimAs v0 σ = some (r, σ')) : zMet ζ zX 0 yX1_nimAs cX1_nimAs 1 (some .int) [.int v0] σ (some (.int r)) σ' :=
  zMet_of pn_X1 hZ (Nat.le_of_ble_eq_true rfl) (fun κ e X => by subst e; exact B_X1_nimAs_0 X h)
noncomputable def F_X1_weigh_220 (Rc : Int32 → Int32 → S3 → R3) (v3 : Int32) (s0 : Int32) (σ : S3) : R3 :=
  ck v3 8192 (nm (up σ 3 1 (ix v3) (((σ 3 2 0) <<< ((9 : Int32) &&& 31)) ||| s0)) (fun s100 => some (s0, s100)))
set_option maxHeartbeats 4000000 in
set_option maxRecDepth 100000 in
theorem B_X1_weigh_220 {κ : zT} {σ' : S3} {r : Int32} {d d0 : Nat} (X : zC κ zX RX1 cX1_weigh 10 (some .int) d (some (.int r)) σ') {Rc : Int32 → Int32 → S3 → R3} (hR : ∀ (a1 a2 : Int32) (s1 s2 : S3) (r1 : Int32), Rc a1 a2 s1 = some (r1, s2) → zMet κ.1 zX d0 yX1_weigh cX1_weigh 10 (some .int) [.ref (zo κ.1 3), .int a1, .int a2] s1 (some (.int r1)) s2) (hd : d0 + 1 ≤ d) (hb : 2 ≤ d) {v3 : Int32} {s0 : Int32} {σ : S3} (h : F_X1_weigh_220 Rc v3 s0 σ = some (r, σ')) : Z κ 10 (zX (ze κ.1) σ) [(0, .ref (zo κ.1 3)), (3, .int v3)] 220 [.int s0] := by
  unfold F_X1_weigh_220 at h
  refine z_istore (i := 9) (lv' := [(9, .int s0), (0, .ref (zo κ.1 3)), (3, .int v3)]) X.1 dX1_weigh_220 (by decide) rfl ?_
  refine z_aload_n (i := 0) X.1 dX1_weigh_222 1 rfl rfl ?_
  refine g_X1_found X.1 tw148 dX1_weigh_223 ?_
  refine z_iload_n (i := 3) X.1 dX1_weigh_226 2 rfl rfl ?_
  refine z_aload_n (i := 0) X.1 dX1_weigh_227 1 rfl rfl ?_
  refine g_X1_turn X.1 tw149 dX1_weigh_228 ?_
  refine z_bipush (v := (9 : Int32)) X.1 dX1_weigh_231 (by decide) ?_
  refine z_ishl X.1 dX1_weigh_233 ?_
  refine z_iload X.1 dX1_weigh_234 0 rfl ?_
  refine z_ior X.1 dX1_weigh_236 ?_
  refine as_X1_found X.1 X.2.1 dX1_weigh_237 h (fun s100 h => ?_)
  refine z_iload X.1 dX1_weigh_238 0 rfl ?_
  exact z_iret X dX1_weigh_240 h
noncomputable def F_X1_weigh_150 (Rc : Int32 → Int32 → S3 → R3) (K92 : Int32 → Int32 → Int32 → Int32 → S3 → R3) (v1 : Int32) (v2 : Int32) (v3 : Int32) (v4 : Int32) (v5 : Int32) (v6 : Int32) (v7 : Int32) (v8 : Int32) (v9 : Int32) (σ : S3) : R3 :=
  bd (F_X1_lengthAs v9 σ) (fun r117 s118 => nm (if v6 < r117 then r117 else v6) (fun x120 => bd (F_X1_nimAs v9 s118) (fun r121 s122 => nm (v7 ||| ((1 : Int32) <<< (r121 &&& 31))) (fun x124 => nm (v8 + (1 : Int32)) (fun x125 => K92 v5 x120 x124 x125 s122)))))
set_option maxHeartbeats 4000000 in
set_option maxRecDepth 100000 in
theorem B_X1_weigh_150 {κ : zT} {σ' : S3} {r : Int32} {d d0 : Nat} (X : zC κ zX RX1 cX1_weigh 10 (some .int) d (some (.int r)) σ') {Rc : Int32 → Int32 → S3 → R3} (hR : ∀ (a1 a2 : Int32) (s1 s2 : S3) (r1 : Int32), Rc a1 a2 s1 = some (r1, s2) → zMet κ.1 zX d0 yX1_weigh cX1_weigh 10 (some .int) [.ref (zo κ.1 3), .int a1, .int a2] s1 (some (.int r1)) s2) (hd : d0 + 1 ≤ d) (hb : 2 ≤ d) {K92 : Int32 → Int32 → Int32 → Int32 → S3 → R3} {v1 : Int32} {v2 : Int32} {v3 : Int32} {v4 : Int32} {v5 : Int32} {v6 : Int32} {v7 : Int32} {v8 : Int32} {v9 : Int32} {σ : S3} (hK92 : ∀ (w5 : Int32) (w6 : Int32) (w7 : Int32) (w8 : Int32) (s1 : S3), K92 w5 w6 w7 w8 s1 = some (r, σ') → Z κ 10 (zX (ze κ.1) s1) [(0, .ref (zo κ.1 3)), (1, .int v1), (2, .int v2), (3, .int v3), (4, .int v4), (5, .int w5), (6, .int w6), (7, .int w7), (8, .int w8)] 92 []) (h : F_X1_weigh_150 Rc K92 v1 v2 v3 v4 v5 v6 v7 v8 v9 σ = some (r, σ')) : Z κ 10 (zX (ze κ.1) σ) [(0, .ref (zo κ.1 3)), (1, .int v1), (2, .int v2), (3, .int v3), (4, .int v4), (5, .int v5), (6, .int v6), (7, .int v7), (8, .int v8), (9, .int v9)] 150 [] := by
  unfold F_X1_weigh_150 at h
  refine z_iload X.1 dX1_weigh_150 6 rfl ?_
  refine z_iload X.1 dX1_weigh_152 9 rfl ?_
  obtain ⟨r117, s118, hc119, h⟩ := bd_inv h
  refine cl_X1_81 (d1 := 0) (As := [.int v9]) (rest := [.int v6]) X.1 (Nat.le_trans (by decide) hb) (C_X1_lengthAs X.2.1 hc119) rfl rfl (Nat.le_of_ble_eq_true rfl) dX1_weigh_154 ?_
  refine z_mmax X.1 (Nat.le_trans (by decide) hb) tw548 tw416 tw81 tw417 (Nat.le_of_ble_eq_true rfl) dX1_weigh_157 ?_
  refine z_istore_m (i := 6) (lv' := fun x120 => [(6, .int x120), (0, .ref (zo κ.1 3)), (1, .int v1), (2, .int v2), (3, .int v3), (4, .int v4), (5, .int v5), (7, .int v7), (8, .int v8), (9, .int v9)]) X.1 dX1_weigh_160 (by decide) (fun _ => rfl) h (fun x120 h => ?_)
  refine z_iload X.1 dX1_weigh_162 7 rfl ?_
  refine z_iconst (v := (1 : Int32)) X.1 dX1_weigh_164 (by decide) ?_
  refine z_iload X.1 dX1_weigh_165 9 rfl ?_
  obtain ⟨r121, s122, hc123, h⟩ := bd_inv h
  refine cl_X1_84 (d1 := 0) (As := [.int v9]) (rest := [.int (1 : Int32), .int v7]) X.1 (Nat.le_trans (by decide) hb) (C_X1_nimAs X.2.1 hc123) rfl rfl (Nat.le_of_ble_eq_true rfl) dX1_weigh_167 ?_
  refine z_ishl X.1 dX1_weigh_170 ?_
  refine z_ior X.1 dX1_weigh_171 ?_
  refine z_istore_m (i := 7) (lv' := fun x124 => [(7, .int x124), (6, .int x120), (0, .ref (zo κ.1 3)), (1, .int v1), (2, .int v2), (3, .int v3), (4, .int v4), (5, .int v5), (8, .int v8), (9, .int v9)]) X.1 dX1_weigh_172 (by decide) (fun _ => rfl) h (fun x124 h => ?_)
  refine z_iinc_m (v := (1 : Int32)) (lv' := fun x125 => [(8, .int x125), (7, .int x124), (6, .int x120), (0, .ref (zo κ.1 3)), (1, .int v1), (2, .int v2), (3, .int v3), (4, .int v4), (5, .int v5), (9, .int v9)]) X.1 dX1_weigh_174 8 rfl (by decide) (by decide) (fun _ => rfl) h (fun x125 h => ?_)
  refine z_goto (tgt := 92) X.1 dX1_weigh_177 (by decide) ?_
  exact z_sub [3, 4, 5, 6, 7, 8, 2, 1, 0] rfl (hK92 _ _ _ _ _ h)
noncomputable def Fb_X1_weigh_92 (Rc : Int32 → Int32 → S3 → R3) (v1 : Int32) (v2 : Int32) (v3 : Int32) (v4 : Int32) (K92 : Int32 → Int32 → Int32 → Int32 → S3 → R3) (v5 : Int32) (v6 : Int32) (v7 : Int32) (v8 : Int32) (σ : S3) : R3 :=
  if (σ 1 1 0) ≤ v8 then (bd (F_J6_numberOfTrailingZeros_0f7a4 (v7 ^^^ (-1 : Int32)) σ) (fun r79 s80 => if (1000 : Int32) ≤ v5 then (bd (F_X1_joined (0 : Int32) ((1 : Int32) + v6) r79 s80) (fun r97 s98 => F_X1_weigh_220 Rc v3 r97 s98))
  else (bd (F_X1_joined (1 : Int32) ((1 : Int32) + v5) r79 s80) (fun r101 s102 => F_X1_weigh_220 Rc v3 r101 s102))))
  else (if ((v4 >>> (v8 &&& 31)) &&& (1 : Int32)) = (0 : Int32) then (nm (v8 + (1 : Int32)) (fun x105 => K92 v5 v6 v7 x105 σ))
  else (bd (F_X1_behind v1 v8 σ) (fun r106 s107 => bd (Rc r106 (v2 - (1 : Int32)) s107) (fun r109 s110 => bd (F_X1_winsAs r109 s110) (fun r112 s113 => if r112 = (0 : Int32) then (bd (F_X1_lengthAs r109 s113) (fun r126 s127 => nm (if r126 < v5 then r126 else v5) (fun x129 => F_X1_weigh_150 Rc K92 v1 v2 v3 v4 x129 v6 v7 v8 r109 s127)))
  else (F_X1_weigh_150 Rc K92 v1 v2 v3 v4 v5 v6 v7 v8 r109 s113))))))
noncomputable def F_X1_weigh_92 (Rc : Int32 → Int32 → S3 → R3) (v1 : Int32) (v2 : Int32) (v3 : Int32) (v4 : Int32) (n : Nat) : Int32 → Int32 → Int32 → Int32 → S3 → R3 := zl4 (Fb_X1_weigh_92 Rc v1 v2 v3 v4) n
set_option maxHeartbeats 4000000 in
set_option maxRecDepth 100000 in
theorem B_X1_weigh_92 {κ : zT} {σ' : S3} {r : Int32} {d d0 : Nat} (X : zC κ zX RX1 cX1_weigh 10 (some .int) d (some (.int r)) σ') {Rc : Int32 → Int32 → S3 → R3} (hR : ∀ (a1 a2 : Int32) (s1 s2 : S3) (r1 : Int32), Rc a1 a2 s1 = some (r1, s2) → zMet κ.1 zX d0 yX1_weigh cX1_weigh 10 (some .int) [.ref (zo κ.1 3), .int a1, .int a2] s1 (some (.int r1)) s2) (hd : d0 + 1 ≤ d) (hb : 2 ≤ d) {v1 : Int32} {v2 : Int32} {v3 : Int32} {v4 : Int32} : ∀ (n : Nat) (v5 : Int32) (v6 : Int32) (v7 : Int32) (v8 : Int32) (σ : S3), F_X1_weigh_92 Rc v1 v2 v3 v4 n v5 v6 v7 v8 σ = some (r, σ') → Z κ 10 (zX (ze κ.1) σ) [(0, .ref (zo κ.1 3)), (1, .int v1), (2, .int v2), (3, .int v3), (4, .int v4), (5, .int v5), (6, .int v6), (7, .int v7), (8, .int v8)] 92 [] := by
  intro n
  induction n with
  | zero =>
    intro v5 v6 v7 v8 σ h
    cases (show (none : R3) = some (r, σ') from h)
  | succ n ih =>
    intro v5 v6 v7 v8 σ h
    have hK92 := ih
    have h : Fb_X1_weigh_92 Rc v1 v2 v3 v4 (F_X1_weigh_92 Rc v1 v2 v3 v4 n) v5 v6 v7 v8 σ = some (r, σ') := h
    unfold Fb_X1_weigh_92 at h
    refine z_iload X.1 dX1_weigh_92 8 rfl ?_
    refine z_aload_n (i := 0) X.1 dX1_weigh_94 0 rfl rfl ?_
    refine g_X1_net X.1 tw147 dX1_weigh_95 ?_
    refine g_X2_lines (Or.inl rfl) X.1 tw102 dX1_weigh_98 ?_
    refine z_icmp_ge (tgt := 180) X.1 dX1_weigh_101 (by decide) h (fun q78 h => ?_) (fun q78 h => ?_)
    · refine z_iload X.1 dX1_weigh_180 7 rfl ?_
      refine z_iconst (v := (-1 : Int32)) X.1 dX1_weigh_182 (by decide) ?_
      refine z_ixor X.1 dX1_weigh_183 ?_
      obtain ⟨r79, s80, hc81, h⟩ := bd_inv h
      refine cl_X1_103 (d1 := 0) (As := [.int (v7 ^^^ (-1 : Int32))]) (rest := []) X.1 (Nat.le_trans (by decide) hb) (C_J6_numberOfTrailingZeros_0f7a4 X.2.1 hc81) rfl rfl (Nat.le_of_ble_eq_true rfl) dX1_weigh_184 ?_
      refine z_istore (i := 8) (lv' := [(8, .int r79), (0, .ref (zo κ.1 3)), (1, .int v1), (2, .int v2), (3, .int v3), (4, .int v4), (5, .int v5), (6, .int v6), (7, .int v7)]) X.1 dX1_weigh_187 (by decide) rfl ?_
      refine z_iload X.1 dX1_weigh_189 6 rfl ?_
      refine z_sipush (v := (1000 : Int32)) X.1 dX1_weigh_191 (by decide) ?_
      refine z_icmp_ge (tgt := 210) X.1 dX1_weigh_194 (by decide) h (fun q96 h => ?_) (fun q96 h => ?_)
      · refine z_iconst (v := (0 : Int32)) X.1 dX1_weigh_210 (by decide) ?_
        refine z_iconst (v := (1 : Int32)) X.1 dX1_weigh_211 (by decide) ?_
        refine z_iload X.1 dX1_weigh_212 7 rfl ?_
        refine z_iadd X.1 dX1_weigh_214 ?_
        refine z_iload X.1 dX1_weigh_215 0 rfl ?_
        obtain ⟨r97, s98, hc99, h⟩ := bd_inv h
        refine cl_X1_108 (d1 := 0) (As := [.int (0 : Int32), .int ((1 : Int32) + v6), .int r79]) (rest := []) X.1 (Nat.le_trans (by decide) hb) (C_X1_joined X.2.1 hc99) rfl rfl (Nat.le_of_ble_eq_true rfl) dX1_weigh_217 ?_
        exact z_sub [1, 4] rfl (B_X1_weigh_220 X hR hd hb h)
      · refine z_iconst (v := (1 : Int32)) X.1 dX1_weigh_197 (by decide) ?_
        refine z_iconst (v := (1 : Int32)) X.1 dX1_weigh_198 (by decide) ?_
        refine z_iload X.1 dX1_weigh_199 6 rfl ?_
        refine z_iadd X.1 dX1_weigh_201 ?_
        refine z_iload X.1 dX1_weigh_202 0 rfl ?_
        obtain ⟨r101, s102, hc103, h⟩ := bd_inv h
        refine cl_X1_108 (d1 := 0) (As := [.int (1 : Int32), .int ((1 : Int32) + v5), .int r79]) (rest := []) X.1 (Nat.le_trans (by decide) hb) (C_X1_joined X.2.1 hc103) rfl rfl (Nat.le_of_ble_eq_true rfl) dX1_weigh_204 ?_
        refine z_goto (tgt := 220) X.1 dX1_weigh_207 (by decide) ?_
        exact z_sub [1, 4] rfl (B_X1_weigh_220 X hR hd hb h)
    · refine z_iload X.1 dX1_weigh_104 4 rfl ?_
      refine z_iload X.1 dX1_weigh_106 8 rfl ?_
      refine z_ishr X.1 dX1_weigh_108 ?_
      refine z_iconst (v := (1 : Int32)) X.1 dX1_weigh_109 (by decide) ?_
      refine z_iand X.1 dX1_weigh_110 ?_
      refine z_if_eq (tgt := 174) X.1 dX1_weigh_111 (by decide) h (fun q104 h => ?_) (fun q104 h => ?_)
      · refine z_iinc_m (v := (1 : Int32)) (lv' := fun x105 => [(8, .int x105), (0, .ref (zo κ.1 3)), (1, .int v1), (2, .int v2), (3, .int v3), (4, .int v4), (5, .int v5), (6, .int v6), (7, .int v7)]) X.1 dX1_weigh_174 8 rfl (by decide) (by decide) (fun _ => rfl) h (fun x105 h => ?_)
        refine z_goto (tgt := 92) X.1 dX1_weigh_177 (by decide) ?_
        exact z_sub [1, 2, 3, 4, 5, 6, 7, 8, 0] rfl (hK92 _ _ _ _ _ h)
      · refine z_aload_n (i := 0) X.1 dX1_weigh_114 0 rfl rfl ?_
        refine z_aload_n (i := 0) X.1 dX1_weigh_115 0 rfl rfl ?_
        refine z_iload_n (i := 1) X.1 dX1_weigh_116 1 rfl rfl ?_
        refine z_iload X.1 dX1_weigh_117 8 rfl ?_
        obtain ⟨r106, s107, hc108, h⟩ := bd_inv h
        refine cl_X1_90 (d1 := 1) (b := zo κ.1 3) (As := [.int v1, .int v8]) (rest := [.ref (zo κ.1 3)]) X.1 (Nat.le_trans (by decide) hb) (C_X1_behind X.2.1 hc108) rcX1 rfl rfl (Nat.le_of_ble_eq_true rfl) dX1_weigh_119 ?_
        refine z_iload_n (i := 2) X.1 dX1_weigh_122 2 rfl rfl ?_
        refine z_iconst (v := (1 : Int32)) X.1 dX1_weigh_123 (by decide) ?_
        refine z_isub X.1 dX1_weigh_124 ?_
        obtain ⟨r109, s110, hc111, h⟩ := bd_inv h
        refine cl_X1_72 (d1 := d0) (b := zo κ.1 3) (As := [.int r106, .int (v2 - (1 : Int32))]) (rest := []) X.1 hd (hR _ _ _ _ _ hc111) rcX1 rfl rfl (Nat.le_of_ble_eq_true rfl) dX1_weigh_125 ?_
        refine z_istore (i := 9) (lv' := [(9, .int r109), (0, .ref (zo κ.1 3)), (1, .int v1), (2, .int v2), (3, .int v3), (4, .int v4), (5, .int v5), (6, .int v6), (7, .int v7), (8, .int v8)]) X.1 dX1_weigh_128 (by decide) rfl ?_
        refine z_iload X.1 dX1_weigh_130 0 rfl ?_
        obtain ⟨r112, s113, hc114, h⟩ := bd_inv h
        refine cl_X1_75 (d1 := 0) (As := [.int r109]) (rest := []) X.1 (Nat.le_trans (by decide) hb) (C_X1_winsAs X.2.1 hc114) rfl rfl (Nat.le_of_ble_eq_true rfl) dX1_weigh_132 ?_
        refine z_if_ne (tgt := 150) X.1 dX1_weigh_135 (by decide) h (fun q116 h => ?_) (fun q116 h => ?_)
        · exact z_sub [1, 2, 3, 4, 5, 6, 7, 8, 9, 0] rfl (B_X1_weigh_150 X hR hd hb hK92 h)
        · refine z_iload X.1 dX1_weigh_138 6 rfl ?_
          refine z_iload X.1 dX1_weigh_140 0 rfl ?_
          obtain ⟨r126, s127, hc128, h⟩ := bd_inv h
          refine cl_X1_81 (d1 := 0) (As := [.int r109]) (rest := [.int v5]) X.1 (Nat.le_trans (by decide) hb) (C_X1_lengthAs X.2.1 hc128) rfl rfl (Nat.le_of_ble_eq_true rfl) dX1_weigh_142 ?_
          refine z_mmin X.1 (Nat.le_trans (by decide) hb) tw545 tw546 tw81 tw547 (Nat.le_of_ble_eq_true rfl) dX1_weigh_145 ?_
          refine z_istore_m (i := 5) (lv' := fun x129 => [(5, .int x129), (9, .int r109), (0, .ref (zo κ.1 3)), (1, .int v1), (2, .int v2), (3, .int v3), (4, .int v4), (6, .int v6), (7, .int v7), (8, .int v8)]) X.1 dX1_weigh_148 (by decide) (fun _ => rfl) h (fun x129 h => ?_)
          exact z_sub [2, 3, 4, 5, 6, 0, 7, 8, 9, 1] rfl (B_X1_weigh_150 X hR hd hb hK92 h)
noncomputable def F_X1_weigh_81 (Rc : Int32 → Int32 → S3 → R3) (v1 : Int32) (v2 : Int32) (v3 : Int32) (v4 : Int32) (s0 : Int32) (σ : S3) : R3 :=
  F_X1_weigh_92 Rc v1 v2 v3 v4 zF s0 (-1 : Int32) (0 : Int32) (0 : Int32) σ
set_option maxHeartbeats 4000000 in
set_option maxRecDepth 100000 in
theorem B_X1_weigh_81 {κ : zT} {σ' : S3} {r : Int32} {d d0 : Nat} (X : zC κ zX RX1 cX1_weigh 10 (some .int) d (some (.int r)) σ') {Rc : Int32 → Int32 → S3 → R3} (hR : ∀ (a1 a2 : Int32) (s1 s2 : S3) (r1 : Int32), Rc a1 a2 s1 = some (r1, s2) → zMet κ.1 zX d0 yX1_weigh cX1_weigh 10 (some .int) [.ref (zo κ.1 3), .int a1, .int a2] s1 (some (.int r1)) s2) (hd : d0 + 1 ≤ d) (hb : 2 ≤ d) {v1 : Int32} {v2 : Int32} {v3 : Int32} {v4 : Int32} {s0 : Int32} {σ : S3} (h : F_X1_weigh_81 Rc v1 v2 v3 v4 s0 σ = some (r, σ')) : Z κ 10 (zX (ze κ.1) σ) [(0, .ref (zo κ.1 3)), (1, .int v1), (2, .int v2), (3, .int v3), (4, .int v4)] 81 [.int s0] := by
  unfold F_X1_weigh_81 at h
  refine z_istore (i := 5) (lv' := [(5, .int s0), (0, .ref (zo κ.1 3)), (1, .int v1), (2, .int v2), (3, .int v3), (4, .int v4)]) X.1 dX1_weigh_81 (by decide) rfl ?_
  refine z_iconst (v := (-1 : Int32)) X.1 dX1_weigh_83 (by decide) ?_
  refine z_istore (i := 6) (lv' := [(6, .int (-1 : Int32)), (5, .int s0), (0, .ref (zo κ.1 3)), (1, .int v1), (2, .int v2), (3, .int v3), (4, .int v4)]) X.1 dX1_weigh_84 (by decide) rfl ?_
  refine z_iconst (v := (0 : Int32)) X.1 dX1_weigh_86 (by decide) ?_
  refine z_istore (i := 7) (lv' := [(7, .int (0 : Int32)), (6, .int (-1 : Int32)), (5, .int s0), (0, .ref (zo κ.1 3)), (1, .int v1), (2, .int v2), (3, .int v3), (4, .int v4)]) X.1 dX1_weigh_87 (by decide) rfl ?_
  refine z_iconst (v := (0 : Int32)) X.1 dX1_weigh_89 (by decide) ?_
  refine z_istore (i := 8) (lv' := [(8, .int (0 : Int32)), (7, .int (0 : Int32)), (6, .int (-1 : Int32)), (5, .int s0), (0, .ref (zo κ.1 3)), (1, .int v1), (2, .int v2), (3, .int v3), (4, .int v4)]) X.1 dX1_weigh_90 (by decide) rfl ?_
  exact z_sub [4, 5, 6, 7, 8, 3, 2, 1, 0] rfl (B_X1_weigh_92 X hR hd hb zF _ _ _ _ _ h)
noncomputable def F_X1_weigh_59 (Rc : Int32 → Int32 → S3 → R3) (v1 : Int32) (v2 : Int32) (v3 : Int32) (s0 : Int32) (σ : S3) : R3 :=
  if (σ 3 3 0) = (4 : Int32) then (if s0 = (0 : Int32) then (F_X1_weigh_81 Rc v1 v2 v3 s0 (-1 : Int32) σ)
  else (F_X1_weigh_81 Rc v1 v2 v3 s0 (1000 : Int32) σ))
  else (F_X1_weigh_81 Rc v1 v2 v3 s0 (1000 : Int32) σ)
set_option maxHeartbeats 4000000 in
set_option maxRecDepth 100000 in
theorem B_X1_weigh_59 {κ : zT} {σ' : S3} {r : Int32} {d d0 : Nat} (X : zC κ zX RX1 cX1_weigh 10 (some .int) d (some (.int r)) σ') {Rc : Int32 → Int32 → S3 → R3} (hR : ∀ (a1 a2 : Int32) (s1 s2 : S3) (r1 : Int32), Rc a1 a2 s1 = some (r1, s2) → zMet κ.1 zX d0 yX1_weigh cX1_weigh 10 (some .int) [.ref (zo κ.1 3), .int a1, .int a2] s1 (some (.int r1)) s2) (hd : d0 + 1 ≤ d) (hb : 2 ≤ d) {v1 : Int32} {v2 : Int32} {v3 : Int32} {s0 : Int32} {σ : S3} (h : F_X1_weigh_59 Rc v1 v2 v3 s0 σ = some (r, σ')) : Z κ 10 (zX (ze κ.1) σ) [(0, .ref (zo κ.1 3)), (1, .int v1), (2, .int v2), (3, .int v3)] 59 [.int s0] := by
  unfold F_X1_weigh_59 at h
  refine z_istore (i := 4) (lv' := [(4, .int s0), (0, .ref (zo κ.1 3)), (1, .int v1), (2, .int v2), (3, .int v3)]) X.1 dX1_weigh_59 (by decide) rfl ?_
  refine z_aload_n (i := 0) X.1 dX1_weigh_61 1 rfl rfl ?_
  refine g_X1_rule X.1 tw150 dX1_weigh_62 ?_
  refine z_iconst (v := (4 : Int32)) X.1 dX1_weigh_65 (by decide) ?_
  refine z_icmp_ne (tgt := 78) X.1 dX1_weigh_66 (by decide) h (fun q77 h => ?_) (fun q77 h => ?_)
  · refine z_sipush (v := (1000 : Int32)) X.1 dX1_weigh_78 (by decide) ?_
    exact z_sub [1, 2, 3, 4, 0] rfl (B_X1_weigh_81 X hR hd hb h)
  · refine z_iload X.1 dX1_weigh_69 0 rfl ?_
    refine z_if_ne (tgt := 78) X.1 dX1_weigh_71 (by decide) h (fun q130 h => ?_) (fun q130 h => ?_)
    · refine z_sipush (v := (1000 : Int32)) X.1 dX1_weigh_78 (by decide) ?_
      exact z_sub [1, 2, 3, 4, 0] rfl (B_X1_weigh_81 X hR hd hb h)
    · refine z_iconst (v := (-1 : Int32)) X.1 dX1_weigh_74 (by decide) ?_
      refine z_goto (tgt := 81) X.1 dX1_weigh_75 (by decide) ?_
      exact z_sub [1, 2, 3, 4, 0] rfl (B_X1_weigh_81 X hR hd hb h)
noncomputable def F_X1_weigh_18 (Rc : Int32 → Int32 → S3 → R3) (v1 : Int32) (v2 : Int32) (s0 : Int32) (σ : S3) : R3 :=
  ck s0 8192 (if ((Int32.toUInt32 (σ 3 1 (ix s0)) >>> (Int32.toUInt32 (9 : Int32) &&& Int32.toUInt32 31)).toInt32) = (σ 3 2 0) then (ck s0 8192 (some ((σ 3 1 (ix s0)) &&& (511 : Int32), σ)))
  else (if v2 ≤ (0 : Int32) then (F_X1_weigh_59 Rc v1 v2 s0 (0 : Int32) σ)
  else (bd (F_X1_movesFrom v1 σ) (fun r131 s132 => F_X1_weigh_59 Rc v1 v2 s0 r131 s132))))
set_option maxHeartbeats 4000000 in
set_option maxRecDepth 100000 in
theorem B_X1_weigh_18 {κ : zT} {σ' : S3} {r : Int32} {d d0 : Nat} (X : zC κ zX RX1 cX1_weigh 10 (some .int) d (some (.int r)) σ') {Rc : Int32 → Int32 → S3 → R3} (hR : ∀ (a1 a2 : Int32) (s1 s2 : S3) (r1 : Int32), Rc a1 a2 s1 = some (r1, s2) → zMet κ.1 zX d0 yX1_weigh cX1_weigh 10 (some .int) [.ref (zo κ.1 3), .int a1, .int a2] s1 (some (.int r1)) s2) (hd : d0 + 1 ≤ d) (hb : 2 ≤ d) {v1 : Int32} {v2 : Int32} {s0 : Int32} {σ : S3} (h : F_X1_weigh_18 Rc v1 v2 s0 σ = some (r, σ')) : Z κ 10 (zX (ze κ.1) σ) [(0, .ref (zo κ.1 3)), (1, .int v1), (2, .int v2)] 18 [.int s0] := by
  unfold F_X1_weigh_18 at h
  refine z_istore_n (i := 3) (lv' := [(3, .int s0), (0, .ref (zo κ.1 3)), (1, .int v1), (2, .int v2)]) X.1 dX1_weigh_18 rfl (by decide) rfl ?_
  refine z_aload_n (i := 0) X.1 dX1_weigh_19 1 rfl rfl ?_
  refine g_X1_found X.1 tw148 dX1_weigh_20 ?_
  refine z_iload_n (i := 3) X.1 dX1_weigh_23 0 rfl rfl ?_
  refine al_X1_found X.1 dX1_weigh_24 h (fun h => ?_)
  refine z_bipush (v := (9 : Int32)) X.1 dX1_weigh_25 (by decide) ?_
  refine z_iushr X.1 dX1_weigh_27 ?_
  refine z_aload_n (i := 0) X.1 dX1_weigh_28 1 rfl rfl ?_
  refine g_X1_turn X.1 tw149 dX1_weigh_29 ?_
  refine z_icmp_ne (tgt := 46) X.1 dX1_weigh_32 (by decide) h (fun q75 h => ?_) (fun q75 h => ?_)
  · refine z_iload_n (i := 2) X.1 dX1_weigh_46 3 rfl rfl ?_
    refine z_if_le (tgt := 58) X.1 dX1_weigh_47 (by decide) h (fun q76 h => ?_) (fun q76 h => ?_)
    · refine z_iconst (v := (0 : Int32)) X.1 dX1_weigh_58 (by decide) ?_
      exact z_sub [1, 2, 3, 0] rfl (B_X1_weigh_59 X hR hd hb h)
    · refine z_aload_n (i := 0) X.1 dX1_weigh_50 1 rfl rfl ?_
      refine z_iload_n (i := 1) X.1 dX1_weigh_51 2 rfl rfl ?_
      obtain ⟨r131, s132, hc133, h⟩ := bd_inv h
      refine cl_X1_87 (d1 := 1) (b := zo κ.1 3) (As := [.int v1]) (rest := []) X.1 (Nat.le_trans (by decide) hb) (C_X1_movesFrom X.2.1 hc133) rcX1 rfl rfl (Nat.le_of_ble_eq_true rfl) dX1_weigh_52 ?_
      refine z_goto (tgt := 59) X.1 dX1_weigh_55 (by decide) ?_
      exact z_sub [1, 2, 3, 0] rfl (B_X1_weigh_59 X hR hd hb h)
  · refine z_aload_n (i := 0) X.1 dX1_weigh_35 1 rfl rfl ?_
    refine g_X1_found X.1 tw148 dX1_weigh_36 ?_
    refine z_iload_n (i := 3) X.1 dX1_weigh_39 0 rfl rfl ?_
    refine al_X1_found X.1 dX1_weigh_40 h (fun h => ?_)
    refine z_sipush (v := (511 : Int32)) X.1 dX1_weigh_41 (by decide) ?_
    refine z_iand X.1 dX1_weigh_44 ?_
    exact z_iret X dX1_weigh_45 h
noncomputable def F_X1_weigh_0 (Rc : Int32 → Int32 → S3 → R3) (v1 : Int32) (v2 : Int32) (σ : S3) : R3 :=
  bd (F_X1_overLines σ) (fun r60 s61 => if r60 = (0 : Int32) then (bd (F_X5_markerAndMet v1 s61) (fun r64 s65 => F_X1_weigh_18 Rc v1 v2 r64 s65))
  else (bd (F_X5_gone v1 s61) (fun r134 s135 => F_X1_weigh_18 Rc v1 v2 r134 s135)))
set_option maxHeartbeats 4000000 in
set_option maxRecDepth 100000 in
theorem B_X1_weigh_0 {κ : zT} {σ' : S3} {r : Int32} {d d0 : Nat} (X : zC κ zX RX1 cX1_weigh 10 (some .int) d (some (.int r)) σ') {Rc : Int32 → Int32 → S3 → R3} (hR : ∀ (a1 a2 : Int32) (s1 s2 : S3) (r1 : Int32), Rc a1 a2 s1 = some (r1, s2) → zMet κ.1 zX d0 yX1_weigh cX1_weigh 10 (some .int) [.ref (zo κ.1 3), .int a1, .int a2] s1 (some (.int r1)) s2) (hd : d0 + 1 ≤ d) (hb : 2 ≤ d) {v1 : Int32} {v2 : Int32} {σ : S3} (h : F_X1_weigh_0 Rc v1 v2 σ = some (r, σ')) : Z κ 10 (zX (ze κ.1) σ) [(0, .ref (zo κ.1 3)), (1, .int v1), (2, .int v2)] 0 [] := by
  unfold F_X1_weigh_0 at h
  refine z_aload_n (i := 0) X.1 dX1_weigh_0 0 rfl rfl ?_
  obtain ⟨r60, s61, hc62, h⟩ := bd_inv h
  refine cl_X1_47 (d1 := 0) (b := zo κ.1 3) (As := []) (rest := []) X.1 (Nat.le_trans (by decide) hb) (C_X1_overLines X.2.1 hc62) rcX1 rfl rfl (Nat.le_of_ble_eq_true rfl) dX1_weigh_1 ?_
  refine z_if_eq (tgt := 14) X.1 dX1_weigh_4 (by decide) h (fun q63 h => ?_) (fun q63 h => ?_)
  · refine z_iload_n (i := 1) X.1 dX1_weigh_14 1 rfl rfl ?_
    obtain ⟨r64, s65, hc66, h⟩ := bd_inv h
    refine cl_X1_92 (d1 := 1) (As := [.int v1]) (rest := []) X.1 (Nat.le_trans (by decide) hb) (C_X5_markerAndMet X.2.1 hc66) rfl rfl (Nat.le_of_ble_eq_true rfl) dX1_weigh_15 ?_
    exact z_sub [0, 1, 2] rfl (B_X1_weigh_18 X hR hd hb h)
  · refine z_iload_n (i := 1) X.1 dX1_weigh_7 1 rfl rfl ?_
    obtain ⟨r134, s135, hc136, h⟩ := bd_inv h
    refine cl_X1_51 (d1 := 0) (As := [.int v1]) (rest := []) X.1 (Nat.le_trans (by decide) hb) (C_X5_gone X.2.1 hc136) rfl rfl (Nat.le_of_ble_eq_true rfl) dX1_weigh_8 ?_
    refine z_goto (tgt := 18) X.1 dX1_weigh_11 (by decide) ?_
    exact z_sub [0, 1, 2] rfl (B_X1_weigh_18 X hR hd hb h)
noncomputable def F_X1_weigh (k : Nat) : Int32 → Int32 → S3 → R3 := zl2 (F_X1_weigh_0) k
theorem Ck_X1_weigh {ζ : zW} (hZ : zDis ζ zX) : ∀ (k : Nat) (v1 : Int32) (v2 : Int32) (σ σ' : S3) (r : Int32), F_X1_weigh k v1 v2 σ = some (r, σ') → zMet ζ zX (2 + k) yX1_weigh cX1_weigh 10 (some .int) [.ref (zo ζ 3), .int v1, .int v2] σ (some (.int r)) σ' := by
  intro k
  induction k with
  | zero =>
    intro v1 v2 σ σ' r h
    cases (show (none : R3) = some (r, σ') from h)
  | succ k ih =>
    intro v1 v2 σ σ' r h
    have h : F_X1_weigh_0 (F_X1_weigh k) v1 v2 σ = some (r, σ') := h
    exact zMet_of pn_X1 hZ (Nat.le_of_ble_eq_true rfl) (fun κ e X => by subst e; exact B_X1_weigh_0 X ih (Nat.le_refl _) (by omega) h)
theorem C_X1_weigh {ζ : zW} (hZ : zDis ζ zX) {v1 : Int32} {v2 : Int32} {σ σ' : S3} {r : Int32} (h : F_X1_weigh 20 v1 v2 σ = some (r, σ')) : zMet ζ zX 22 yX1_weigh cX1_weigh 10 (some .int) [.ref (zo ζ 3), .int v1, .int v2] σ (some (.int r)) σ' := Ck_X1_weigh hZ 20 _ _ _ _ _ h
noncomputable def F_X1_wins (v1 : Int32) (σ : S3) : R3 :=
  bd (F_X1_weigh 20 v1 (12 : Int32) σ) (fun r57 s58 => bd (F_X1_winsAs r57 s58) (fun r137 s138 => ckb r137 (some (r137, s138))))
set_option maxHeartbeats 4000000 in
set_option maxRecDepth 100000 in
theorem B_X1_wins_0 {κ : zT} {σ' : S3} {r : Int32} (X : zC κ zX RX1 cX1_wins 2 (some .boolean) 23 (some (.int r)) σ') {v1 : Int32} {σ : S3} (h : F_X1_wins v1 σ = some (r, σ')) : Z κ 2 (zX (ze κ.1) σ) [(0, .ref (zo κ.1 3)), (1, .int v1)] 0 [] := by
  unfold F_X1_wins at h
  refine z_aload_n (i := 0) X.1 dX1_wins_0 0 rfl rfl ?_
  refine z_iload_n (i := 1) X.1 dX1_wins_1 1 rfl rfl ?_
  refine z_bipush (v := (12 : Int32)) X.1 dX1_wins_2 (by decide) ?_
  obtain ⟨r57, s58, hc59, h⟩ := bd_inv h
  refine cl_X1_72 (d1 := 22) (b := zo κ.1 3) (As := [.int v1, .int (12 : Int32)]) (rest := []) X.1 (by decide) (C_X1_weigh X.2.1 hc59) rcX1 rfl rfl (Nat.le_of_ble_eq_true rfl) dX1_wins_4 ?_
  obtain ⟨r137, s138, hc139, h⟩ := bd_inv h
  refine cl_X1_75 (d1 := 0) (As := [.int r57]) (rest := []) X.1 (by decide) (C_X1_winsAs X.2.1 hc139) rfl rfl (Nat.le_of_ble_eq_true rfl) dX1_wins_7 ?_
  obtain ⟨hv, h⟩ := ckb_inv h
  exact z_zret X dX1_wins_10 hv h
theorem C_X1_wins {ζ : zW} (hZ : zDis ζ zX) {v1 : Int32} {σ σ' : S3} {r : Int32} (h : F_X1_wins v1 σ = some (r, σ')) : zMet ζ zX 23 yX1_wins cX1_wins 2 (some .boolean) [.ref (zo ζ 3), .int v1] σ (some (.int r)) σ' :=
  zMet_of pn_X1 hZ (Nat.le_of_ble_eq_true rfl) (fun κ e X => by subst e; exact B_X1_wins_0 X h)
noncomputable def F_X1_winner (v1 : Int32) (v2 : Int32) (σ : S3) : R3 :=
  bd (F_X1_wins v1 σ) (fun r140 s141 => if r140 = (0 : Int32) then (some ((1 : Int32) - v2, s141))
  else (some (v2, s141)))
set_option maxHeartbeats 4000000 in
set_option maxRecDepth 100000 in
theorem B_X1_winner_0 {κ : zT} {σ' : S3} {r : Int32} (X : zC κ zX RX1 cX1_winner 3 (some .int) 24 (some (.int r)) σ') {v1 : Int32} {v2 : Int32} {σ : S3} (h : F_X1_winner v1 v2 σ = some (r, σ')) : Z κ 3 (zX (ze κ.1) σ) [(0, .ref (zo κ.1 3)), (1, .int v1), (2, .int v2)] 0 [] := by
  unfold F_X1_winner at h
  refine z_aload_n (i := 0) X.1 dX1_winner_0 0 rfl rfl ?_
  refine z_iload_n (i := 1) X.1 dX1_winner_1 1 rfl rfl ?_
  obtain ⟨r140, s141, hc142, h⟩ := bd_inv h
  refine cl_X1_78 (d1 := 23) (b := zo κ.1 3) (As := [.int v1]) (rest := []) X.1 (by decide) (C_X1_wins X.2.1 hc142) rcX1 rfl rfl (Nat.le_of_ble_eq_true rfl) dX1_winner_2 ?_
  refine z_if_eq (tgt := 12) X.1 dX1_winner_5 (by decide) h (fun q143 h => ?_) (fun q143 h => ?_)
  · refine z_iconst (v := (1 : Int32)) X.1 dX1_winner_12 (by decide) ?_
    refine z_iload_n (i := 2) X.1 dX1_winner_13 2 rfl rfl ?_
    refine z_isub X.1 dX1_winner_14 ?_
    exact z_iret X dX1_winner_15 h
  · refine z_iload_n (i := 2) X.1 dX1_winner_8 2 rfl rfl ?_
    refine z_goto (tgt := 15) X.1 dX1_winner_9 (by decide) ?_
    exact z_iret X dX1_winner_15 h
theorem C_X1_winner {ζ : zW} (hZ : zDis ζ zX) {v1 : Int32} {v2 : Int32} {σ σ' : S3} {r : Int32} (h : F_X1_winner v1 v2 σ = some (r, σ')) : zMet ζ zX 24 yX1_winner cX1_winner 3 (some .int) [.ref (zo ζ 3), .int v1, .int v2] σ (some (.int r)) σ' :=
  zMet_of pn_X1 hZ (Nat.le_of_ble_eq_true rfl) (fun κ e X => by subst e; exact B_X1_winner_0 X h)
noncomputable def F_X1_lengthFrom (v1 : Int32) (σ : S3) : R3 :=
  bd (F_X1_weigh 20 v1 (12 : Int32) σ) (fun r144 s145 => bd (F_X1_lengthAs r144 s145) (fun r147 s148 => some (r147, s148)))
set_option maxHeartbeats 4000000 in
set_option maxRecDepth 100000 in
theorem B_X1_lengthFrom_0 {κ : zT} {σ' : S3} {r : Int32} (X : zC κ zX RX1 cX1_lengthFrom 2 (some .int) 23 (some (.int r)) σ') {v1 : Int32} {σ : S3} (h : F_X1_lengthFrom v1 σ = some (r, σ')) : Z κ 2 (zX (ze κ.1) σ) [(0, .ref (zo κ.1 3)), (1, .int v1)] 0 [] := by
  unfold F_X1_lengthFrom at h
  refine z_aload_n (i := 0) X.1 dX1_lengthFrom_0 0 rfl rfl ?_
  refine z_iload_n (i := 1) X.1 dX1_lengthFrom_1 1 rfl rfl ?_
  refine z_bipush (v := (12 : Int32)) X.1 dX1_lengthFrom_2 (by decide) ?_
  obtain ⟨r144, s145, hc146, h⟩ := bd_inv h
  refine cl_X1_72 (d1 := 22) (b := zo κ.1 3) (As := [.int v1, .int (12 : Int32)]) (rest := []) X.1 (by decide) (C_X1_weigh X.2.1 hc146) rcX1 rfl rfl (Nat.le_of_ble_eq_true rfl) dX1_lengthFrom_4 ?_
  obtain ⟨r147, s148, hc149, h⟩ := bd_inv h
  refine cl_X1_81 (d1 := 0) (As := [.int r144]) (rest := []) X.1 (by decide) (C_X1_lengthAs X.2.1 hc149) rfl rfl (Nat.le_of_ble_eq_true rfl) dX1_lengthFrom_7 ?_
  exact z_iret X dX1_lengthFrom_10 h
theorem C_X1_lengthFrom {ζ : zW} (hZ : zDis ζ zX) {v1 : Int32} {σ σ' : S3} {r : Int32} (h : F_X1_lengthFrom v1 σ = some (r, σ')) : zMet ζ zX 23 yX1_lengthFrom cX1_lengthFrom 2 (some .int) [.ref (zo ζ 3), .int v1] σ (some (.int r)) σ' :=
  zMet_of pn_X1 hZ (Nat.le_of_ble_eq_true rfl) (fun κ e X => by subst e; exact B_X1_lengthFrom_0 X h)
noncomputable def F_X1_nimFrom (v1 : Int32) (σ : S3) : R3 :=
  bd (F_X1_weigh 20 v1 (12 : Int32) σ) (fun r150 s151 => bd (F_X1_nimAs r150 s151) (fun r153 s154 => some (r153, s154)))
set_option maxHeartbeats 4000000 in
set_option maxRecDepth 100000 in
theorem B_X1_nimFrom_0 {κ : zT} {σ' : S3} {r : Int32} (X : zC κ zX RX1 cX1_nimFrom 2 (some .int) 23 (some (.int r)) σ') {v1 : Int32} {σ : S3} (h : F_X1_nimFrom v1 σ = some (r, σ')) : Z κ 2 (zX (ze κ.1) σ) [(0, .ref (zo κ.1 3)), (1, .int v1)] 0 [] := by
  unfold F_X1_nimFrom at h
  refine z_aload_n (i := 0) X.1 dX1_nimFrom_0 0 rfl rfl ?_
  refine z_iload_n (i := 1) X.1 dX1_nimFrom_1 1 rfl rfl ?_
  refine z_bipush (v := (12 : Int32)) X.1 dX1_nimFrom_2 (by decide) ?_
  obtain ⟨r150, s151, hc152, h⟩ := bd_inv h
  refine cl_X1_72 (d1 := 22) (b := zo κ.1 3) (As := [.int v1, .int (12 : Int32)]) (rest := []) X.1 (by decide) (C_X1_weigh X.2.1 hc152) rcX1 rfl rfl (Nat.le_of_ble_eq_true rfl) dX1_nimFrom_4 ?_
  obtain ⟨r153, s154, hc155, h⟩ := bd_inv h
  refine cl_X1_84 (d1 := 0) (As := [.int r150]) (rest := []) X.1 (by decide) (C_X1_nimAs X.2.1 hc155) rfl rfl (Nat.le_of_ble_eq_true rfl) dX1_nimFrom_7 ?_
  exact z_iret X dX1_nimFrom_10 h
theorem C_X1_nimFrom {ζ : zW} (hZ : zDis ζ zX) {v1 : Int32} {σ σ' : S3} {r : Int32} (h : F_X1_nimFrom v1 σ = some (r, σ')) : zMet ζ zX 23 yX1_nimFrom cX1_nimFrom 2 (some .int) [.ref (zo ζ 3), .int v1] σ (some (.int r)) σ' :=
  zMet_of pn_X1 hZ (Nat.le_of_ble_eq_true rfl) (fun κ e X => by subst e; exact B_X1_nimFrom_0 X h)
noncomputable def Fb_X1_winningFrom_11 (v1 : Int32) (v2 : Int32) (K11 : Int32 → Int32 → S3 → R3) (v3 : Int32) (v4 : Int32) (σ : S3) : R3 :=
  if (σ 1 1 0) ≤ v4 then (some (v3, σ))
  else (if ((v2 >>> (v4 &&& 31)) &&& (1 : Int32)) = (0 : Int32) then (nm (v4 + (1 : Int32)) (fun x161 => K11 v3 x161 σ))
  else (bd (F_X1_behind v1 v4 σ) (fun r162 s163 => bd (F_X1_weigh 20 r162 (12 : Int32) s163) (fun r165 s166 => bd (F_X1_winsAs r165 s166) (fun r168 s169 => if r168 = (0 : Int32) then (nm (v3 ||| ((1 : Int32) <<< (v4 &&& 31))) (fun x173 => nm (v4 + (1 : Int32)) (fun x174 => K11 x173 x174 s169)))
  else (nm (v4 + (1 : Int32)) (fun x172 => K11 v3 x172 s169)))))))
noncomputable def F_X1_winningFrom_11 (v1 : Int32) (v2 : Int32) (n : Nat) : Int32 → Int32 → S3 → R3 := zl2 (Fb_X1_winningFrom_11 v1 v2) n
set_option maxHeartbeats 4000000 in
set_option maxRecDepth 100000 in
theorem B_X1_winningFrom_11 {κ : zT} {σ' : S3} {r : Int32} (X : zC κ zX RX1 cX1_winningFrom 5 (some .int) 23 (some (.int r)) σ') {v1 : Int32} {v2 : Int32} : ∀ (n : Nat) (v3 : Int32) (v4 : Int32) (σ : S3), F_X1_winningFrom_11 v1 v2 n v3 v4 σ = some (r, σ') → Z κ 5 (zX (ze κ.1) σ) [(0, .ref (zo κ.1 3)), (1, .int v1), (2, .int v2), (3, .int v3), (4, .int v4)] 11 [] := by
  intro n
  induction n with
  | zero =>
    intro v3 v4 σ h
    cases (show (none : R3) = some (r, σ') from h)
  | succ n ih =>
    intro v3 v4 σ h
    have hK11 := ih
    have h : Fb_X1_winningFrom_11 v1 v2 (F_X1_winningFrom_11 v1 v2 n) v3 v4 σ = some (r, σ') := h
    unfold Fb_X1_winningFrom_11 at h
    refine z_iload X.1 dX1_winningFrom_11 4 rfl ?_
    refine z_aload_n (i := 0) X.1 dX1_winningFrom_13 0 rfl rfl ?_
    refine g_X1_net X.1 tw147 dX1_winningFrom_14 ?_
    refine g_X2_lines (Or.inl rfl) X.1 tw102 dX1_winningFrom_17 ?_
    refine z_icmp_ge (tgt := 64) X.1 dX1_winningFrom_20 (by decide) h (fun q159 h => ?_) (fun q159 h => ?_)
    · refine z_iload_n (i := 3) X.1 dX1_winningFrom_64 3 rfl rfl ?_
      exact z_iret X dX1_winningFrom_65 h
    · refine z_iload_n (i := 2) X.1 dX1_winningFrom_23 2 rfl rfl ?_
      refine z_iload X.1 dX1_winningFrom_24 4 rfl ?_
      refine z_ishr X.1 dX1_winningFrom_26 ?_
      refine z_iconst (v := (1 : Int32)) X.1 dX1_winningFrom_27 (by decide) ?_
      refine z_iand X.1 dX1_winningFrom_28 ?_
      refine z_if_eq (tgt := 58) X.1 dX1_winningFrom_29 (by decide) h (fun q160 h => ?_) (fun q160 h => ?_)
      · refine z_iinc_m (v := (1 : Int32)) (lv' := fun x161 => [(4, .int x161), (0, .ref (zo κ.1 3)), (1, .int v1), (2, .int v2), (3, .int v3)]) X.1 dX1_winningFrom_58 4 rfl (by decide) (by decide) (fun _ => rfl) h (fun x161 h => ?_)
        refine z_goto (tgt := 11) X.1 dX1_winningFrom_61 (by decide) ?_
        exact z_sub [1, 2, 3, 4, 0] rfl (hK11 _ _ _ h)
      · refine z_aload_n (i := 0) X.1 dX1_winningFrom_32 0 rfl rfl ?_
        refine z_aload_n (i := 0) X.1 dX1_winningFrom_33 0 rfl rfl ?_
        refine z_iload_n (i := 1) X.1 dX1_winningFrom_34 1 rfl rfl ?_
        refine z_iload X.1 dX1_winningFrom_35 4 rfl ?_
        obtain ⟨r162, s163, hc164, h⟩ := bd_inv h
        refine cl_X1_90 (d1 := 1) (b := zo κ.1 3) (As := [.int v1, .int v4]) (rest := [.ref (zo κ.1 3)]) X.1 (by decide) (C_X1_behind X.2.1 hc164) rcX1 rfl rfl (Nat.le_of_ble_eq_true rfl) dX1_winningFrom_37 ?_
        refine z_bipush (v := (12 : Int32)) X.1 dX1_winningFrom_40 (by decide) ?_
        obtain ⟨r165, s166, hc167, h⟩ := bd_inv h
        refine cl_X1_72 (d1 := 22) (b := zo κ.1 3) (As := [.int r162, .int (12 : Int32)]) (rest := []) X.1 (by decide) (C_X1_weigh X.2.1 hc167) rcX1 rfl rfl (Nat.le_of_ble_eq_true rfl) dX1_winningFrom_42 ?_
        obtain ⟨r168, s169, hc170, h⟩ := bd_inv h
        refine cl_X1_75 (d1 := 0) (As := [.int r165]) (rest := []) X.1 (by decide) (C_X1_winsAs X.2.1 hc170) rfl rfl (Nat.le_of_ble_eq_true rfl) dX1_winningFrom_45 ?_
        refine z_if_ne (tgt := 58) X.1 dX1_winningFrom_48 (by decide) h (fun q171 h => ?_) (fun q171 h => ?_)
        · refine z_iinc_m (v := (1 : Int32)) (lv' := fun x172 => [(4, .int x172), (0, .ref (zo κ.1 3)), (1, .int v1), (2, .int v2), (3, .int v3)]) X.1 dX1_winningFrom_58 4 rfl (by decide) (by decide) (fun _ => rfl) h (fun x172 h => ?_)
          refine z_goto (tgt := 11) X.1 dX1_winningFrom_61 (by decide) ?_
          exact z_sub [1, 2, 3, 4, 0] rfl (hK11 _ _ _ h)
        · refine z_iload_n (i := 3) X.1 dX1_winningFrom_51 3 rfl rfl ?_
          refine z_iconst (v := (1 : Int32)) X.1 dX1_winningFrom_52 (by decide) ?_
          refine z_iload X.1 dX1_winningFrom_53 4 rfl ?_
          refine z_ishl X.1 dX1_winningFrom_55 ?_
          refine z_ior X.1 dX1_winningFrom_56 ?_
          refine z_istore_nn (i := 3) (lv' := fun x173 => [(3, .int x173), (0, .ref (zo κ.1 3)), (1, .int v1), (2, .int v2), (4, .int v4)]) X.1 dX1_winningFrom_57 rfl (by decide) (fun _ => rfl) h (fun x173 h => ?_)
          refine z_iinc_m (v := (1 : Int32)) (lv' := fun x174 => [(4, .int x174), (3, .int x173), (0, .ref (zo κ.1 3)), (1, .int v1), (2, .int v2)]) X.1 dX1_winningFrom_58 4 rfl (by decide) (by decide) (fun _ => rfl) h (fun x174 h => ?_)
          refine z_goto (tgt := 11) X.1 dX1_winningFrom_61 (by decide) ?_
          exact z_sub [2, 3, 4, 1, 0] rfl (hK11 _ _ _ h)
noncomputable def F_X1_winningFrom (v1 : Int32) (σ : S3) : R3 :=
  bd (F_X1_movesFrom v1 σ) (fun r156 s157 => F_X1_winningFrom_11 v1 r156 zF (0 : Int32) (0 : Int32) s157)
set_option maxHeartbeats 4000000 in
set_option maxRecDepth 100000 in
theorem B_X1_winningFrom_0 {κ : zT} {σ' : S3} {r : Int32} (X : zC κ zX RX1 cX1_winningFrom 5 (some .int) 23 (some (.int r)) σ') {v1 : Int32} {σ : S3} (h : F_X1_winningFrom v1 σ = some (r, σ')) : Z κ 5 (zX (ze κ.1) σ) [(0, .ref (zo κ.1 3)), (1, .int v1)] 0 [] := by
  unfold F_X1_winningFrom at h
  refine z_aload_n (i := 0) X.1 dX1_winningFrom_0 0 rfl rfl ?_
  refine z_iload_n (i := 1) X.1 dX1_winningFrom_1 1 rfl rfl ?_
  obtain ⟨r156, s157, hc158, h⟩ := bd_inv h
  refine cl_X1_87 (d1 := 1) (b := zo κ.1 3) (As := [.int v1]) (rest := []) X.1 (by decide) (C_X1_movesFrom X.2.1 hc158) rcX1 rfl rfl (Nat.le_of_ble_eq_true rfl) dX1_winningFrom_2 ?_
  refine z_istore_n (i := 2) (lv' := [(2, .int r156), (0, .ref (zo κ.1 3)), (1, .int v1)]) X.1 dX1_winningFrom_5 rfl (by decide) rfl ?_
  refine z_iconst (v := (0 : Int32)) X.1 dX1_winningFrom_6 (by decide) ?_
  refine z_istore_n (i := 3) (lv' := [(3, .int (0 : Int32)), (2, .int r156), (0, .ref (zo κ.1 3)), (1, .int v1)]) X.1 dX1_winningFrom_7 rfl (by decide) rfl ?_
  refine z_iconst (v := (0 : Int32)) X.1 dX1_winningFrom_8 (by decide) ?_
  refine z_istore (i := 4) (lv' := [(4, .int (0 : Int32)), (3, .int (0 : Int32)), (2, .int r156), (0, .ref (zo κ.1 3)), (1, .int v1)]) X.1 dX1_winningFrom_9 (by decide) rfl ?_
  exact z_sub [3, 4, 2, 1, 0] rfl (B_X1_winningFrom_11 X zF _ _ _ h)
theorem C_X1_winningFrom {ζ : zW} (hZ : zDis ζ zX) {v1 : Int32} {σ σ' : S3} {r : Int32} (h : F_X1_winningFrom v1 σ = some (r, σ')) : zMet ζ zX 23 yX1_winningFrom cX1_winningFrom 5 (some .int) [.ref (zo ζ 3), .int v1] σ (some (.int r)) σ' :=
  zMet_of pn_X1 hZ (Nat.le_of_ble_eq_true rfl) (fun κ e X => by subst e; exact B_X1_winningFrom_0 X h)
noncomputable def F_X5_withMarker (v0 : Int32) (v1 : Int32) (σ : S3) : R3 :=
  some ((v0 &&& (-16 : Int32)) ||| v1, σ)
set_option maxHeartbeats 4000000 in
set_option maxRecDepth 100000 in
theorem B_X5_withMarker_0 {κ : zT} {σ' : S3} {r : Int32} (X : zC κ zX RX5 cX5_withMarker 2 (some .int) 0 (some (.int r)) σ') {v0 : Int32} {v1 : Int32} {σ : S3} (h : F_X5_withMarker v0 v1 σ = some (r, σ')) : Z κ 2 (zX (ze κ.1) σ) [(0, .int v0), (1, .int v1)] 0 [] := by
  unfold F_X5_withMarker at h
  refine z_iload_n (i := 0) X.1 dX5_withMarker_0 0 rfl rfl ?_
  refine z_bipush (v := (-16 : Int32)) X.1 dX5_withMarker_1 (by decide) ?_
  refine z_iand X.1 dX5_withMarker_3 ?_
  refine z_iload_n (i := 1) X.1 dX5_withMarker_4 1 rfl rfl ?_
  refine z_ior X.1 dX5_withMarker_5 ?_
  exact z_iret X dX5_withMarker_6 h
theorem C_X5_withMarker {ζ : zW} (hZ : zDis ζ zX) {v0 : Int32} {v1 : Int32} {σ σ' : S3} {r : Int32} (h : F_X5_withMarker v0 v1 σ = some (r, σ')) : zMet ζ zX 0 yX5_withMarker cX5_withMarker 2 (some .int) [.int v0, .int v1] σ (some (.int r)) σ' :=
  zMet_of pn_X5 hZ (Nat.le_of_ble_eq_true rfl) (fun κ e X => by subst e; exact B_X5_withMarker_0 X h)
noncomputable def Fb_X1_farEnds_5 (v1 : Int32) (v2 : Int32) (K5 : Int32 → Int32 → S3 → R3) (v3 : Int32) (v4 : Int32) (σ : S3) : R3 :=
  if (σ 1 1 0) ≤ v4 then (some (v3, σ))
  else (if ((v1 >>> (v4 &&& 31)) &&& (1 : Int32)) = (0 : Int32) then (nm (v4 + (1 : Int32)) (fun x207 => K5 v3 x207 σ))
  else (bd (F_X2_otherEnd 1 v4 v2 σ) (fun r208 s209 => nm (v3 ||| ((1 : Int32) <<< (r208 &&& 31))) (fun x211 => nm (v4 + (1 : Int32)) (fun x212 => K5 x211 x212 s209)))))
noncomputable def F_X1_farEnds_5 (v1 : Int32) (v2 : Int32) (n : Nat) : Int32 → Int32 → S3 → R3 := zl2 (Fb_X1_farEnds_5 v1 v2) n
set_option maxHeartbeats 4000000 in
set_option maxRecDepth 100000 in
theorem B_X1_farEnds_5 {κ : zT} {σ' : S3} {r : Int32} (X : zC κ zX RX1 cX1_farEnds 5 (some .int) 1 (some (.int r)) σ') {v1 : Int32} {v2 : Int32} : ∀ (n : Nat) (v3 : Int32) (v4 : Int32) (σ : S3), F_X1_farEnds_5 v1 v2 n v3 v4 σ = some (r, σ') → Z κ 5 (zX (ze κ.1) σ) [(0, .ref (zo κ.1 3)), (1, .int v1), (2, .int v2), (3, .int v3), (4, .int v4)] 5 [] := by
  intro n
  induction n with
  | zero =>
    intro v3 v4 σ h
    cases (show (none : R3) = some (r, σ') from h)
  | succ n ih =>
    intro v3 v4 σ h
    have hK5 := ih
    have h : Fb_X1_farEnds_5 v1 v2 (F_X1_farEnds_5 v1 v2 n) v3 v4 σ = some (r, σ') := h
    unfold Fb_X1_farEnds_5 at h
    refine z_iload X.1 dX1_farEnds_5 4 rfl ?_
    refine z_aload_n (i := 0) X.1 dX1_farEnds_7 0 rfl rfl ?_
    refine g_X1_net X.1 tw147 dX1_farEnds_8 ?_
    refine g_X2_lines (Or.inl rfl) X.1 tw102 dX1_farEnds_11 ?_
    refine z_icmp_ge (tgt := 47) X.1 dX1_farEnds_14 (by decide) h (fun q205 h => ?_) (fun q205 h => ?_)
    · refine z_iload_n (i := 3) X.1 dX1_farEnds_47 3 rfl rfl ?_
      exact z_iret X dX1_farEnds_48 h
    · refine z_iload_n (i := 1) X.1 dX1_farEnds_17 1 rfl rfl ?_
      refine z_iload X.1 dX1_farEnds_18 4 rfl ?_
      refine z_ishr X.1 dX1_farEnds_20 ?_
      refine z_iconst (v := (1 : Int32)) X.1 dX1_farEnds_21 (by decide) ?_
      refine z_iand X.1 dX1_farEnds_22 ?_
      refine z_if_eq (tgt := 41) X.1 dX1_farEnds_23 (by decide) h (fun q206 h => ?_) (fun q206 h => ?_)
      · refine z_iinc_m (v := (1 : Int32)) (lv' := fun x207 => [(4, .int x207), (0, .ref (zo κ.1 3)), (1, .int v1), (2, .int v2), (3, .int v3)]) X.1 dX1_farEnds_41 4 rfl (by decide) (by decide) (fun _ => rfl) h (fun x207 h => ?_)
        refine z_goto (tgt := 5) X.1 dX1_farEnds_44 (by decide) ?_
        exact z_sub [1, 2, 3, 4, 0] rfl (hK5 _ _ _ h)
      · refine z_iload_n (i := 3) X.1 dX1_farEnds_26 3 rfl rfl ?_
        refine z_iconst (v := (1 : Int32)) X.1 dX1_farEnds_27 (by decide) ?_
        refine z_aload_n (i := 0) X.1 dX1_farEnds_28 0 rfl rfl ?_
        refine g_X1_net X.1 tw147 dX1_farEnds_29 ?_
        refine z_iload X.1 dX1_farEnds_32 4 rfl ?_
        refine z_iload_n (i := 2) X.1 dX1_farEnds_34 2 rfl rfl ?_
        obtain ⟨r208, s209, hc210, h⟩ := bd_inv h
        refine cl_X1_60 (d1 := 0) (b := zo κ.1 1) (As := [.int v4, .int v2]) (rest := [.int (1 : Int32), .int v3]) X.1 (by decide) (C_X2_otherEnd X.2.1 (Or.inl rfl) hc210) (rcX2 (Or.inl rfl)) rfl rfl (Nat.le_of_ble_eq_true rfl) dX1_farEnds_35 ?_
        refine z_ishl X.1 dX1_farEnds_38 ?_
        refine z_ior X.1 dX1_farEnds_39 ?_
        refine z_istore_nn (i := 3) (lv' := fun x211 => [(3, .int x211), (0, .ref (zo κ.1 3)), (1, .int v1), (2, .int v2), (4, .int v4)]) X.1 dX1_farEnds_40 rfl (by decide) (fun _ => rfl) h (fun x211 h => ?_)
        refine z_iinc_m (v := (1 : Int32)) (lv' := fun x212 => [(4, .int x212), (3, .int x211), (0, .ref (zo κ.1 3)), (1, .int v1), (2, .int v2)]) X.1 dX1_farEnds_41 4 rfl (by decide) (by decide) (fun _ => rfl) h (fun x212 h => ?_)
        refine z_goto (tgt := 5) X.1 dX1_farEnds_44 (by decide) ?_
        exact z_sub [2, 3, 4, 1, 0] rfl (hK5 _ _ _ h)
noncomputable def F_X1_farEnds (v1 : Int32) (v2 : Int32) (σ : S3) : R3 :=
  F_X1_farEnds_5 v1 v2 zF (0 : Int32) (0 : Int32) σ
set_option maxHeartbeats 4000000 in
set_option maxRecDepth 100000 in
theorem B_X1_farEnds_0 {κ : zT} {σ' : S3} {r : Int32} (X : zC κ zX RX1 cX1_farEnds 5 (some .int) 1 (some (.int r)) σ') {v1 : Int32} {v2 : Int32} {σ : S3} (h : F_X1_farEnds v1 v2 σ = some (r, σ')) : Z κ 5 (zX (ze κ.1) σ) [(0, .ref (zo κ.1 3)), (1, .int v1), (2, .int v2)] 0 [] := by
  unfold F_X1_farEnds at h
  refine z_iconst (v := (0 : Int32)) X.1 dX1_farEnds_0 (by decide) ?_
  refine z_istore_n (i := 3) (lv' := [(3, .int (0 : Int32)), (0, .ref (zo κ.1 3)), (1, .int v1), (2, .int v2)]) X.1 dX1_farEnds_1 rfl (by decide) rfl ?_
  refine z_iconst (v := (0 : Int32)) X.1 dX1_farEnds_2 (by decide) ?_
  refine z_istore (i := 4) (lv' := [(4, .int (0 : Int32)), (3, .int (0 : Int32)), (0, .ref (zo κ.1 3)), (1, .int v1), (2, .int v2)]) X.1 dX1_farEnds_3 (by decide) rfl ?_
  exact z_sub [2, 3, 4, 1, 0] rfl (B_X1_farEnds_5 X zF _ _ _ h)
theorem C_X1_farEnds {ζ : zW} (hZ : zDis ζ zX) {v1 : Int32} {v2 : Int32} {σ σ' : S3} {r : Int32} (h : F_X1_farEnds v1 v2 σ = some (r, σ')) : zMet ζ zX 1 yX1_farEnds cX1_farEnds 5 (some .int) [.ref (zo ζ 3), .int v1, .int v2] σ (some (.int r)) σ' :=
  zMet_of pn_X1 hZ (Nat.le_of_ble_eq_true rfl) (fun κ e X => by subst e; exact B_X1_farEnds_0 X h)
noncomputable def Fb_X1_spread_23 (K9 : Int32 → Int32 → S3 → R3) (v1 : Int32) (v3 : Int32) (K23 : Int32 → Int32 → S3 → R3) (v2 : Int32) (v4 : Int32) (σ : S3) : R3 :=
  if (σ 1 0 0) ≤ v4 then (nm (v3 + (1 : Int32)) (fun x193 => K9 v2 x193 σ))
  else (if ((v2 >>> (v4 &&& 31)) &&& (1 : Int32)) = (0 : Int32) then (nm (v4 + (1 : Int32)) (fun x195 => K23 v2 x195 σ))
  else (bd (F_X5_withMarker v1 v4 σ) (fun r196 s197 => bd (F_X1_movesFrom r196 s197) (fun r199 s200 => bd (F_X1_farEnds r199 v4 s200) (fun r202 s203 => nm (v2 ||| r202) (fun x213 => nm (v4 + (1 : Int32)) (fun x214 => K23 x213 x214 s203)))))))
noncomputable def F_X1_spread_23 (K9 : Int32 → Int32 → S3 → R3) (v1 : Int32) (v3 : Int32) (n : Nat) : Int32 → Int32 → S3 → R3 := zl2 (Fb_X1_spread_23 K9 v1 v3) n
set_option maxHeartbeats 4000000 in
set_option maxRecDepth 100000 in
theorem B_X1_spread_23 {κ : zT} {σ' : S3} {r : Int32} (X : zC κ zX RX1 cX1_spread 5 (some .int) 2 (some (.int r)) σ') {K9 : Int32 → Int32 → S3 → R3} {v1 : Int32} {v3 : Int32} (hK9 : ∀ (w2 : Int32) (w3 : Int32) (s1 : S3), K9 w2 w3 s1 = some (r, σ') → Z κ 5 (zX (ze κ.1) s1) [(0, .ref (zo κ.1 3)), (1, .int v1), (2, .int w2), (3, .int w3)] 9 []) : ∀ (n : Nat) (v2 : Int32) (v4 : Int32) (σ : S3), F_X1_spread_23 K9 v1 v3 n v2 v4 σ = some (r, σ') → Z κ 5 (zX (ze κ.1) σ) [(0, .ref (zo κ.1 3)), (1, .int v1), (2, .int v2), (3, .int v3), (4, .int v4)] 23 [] := by
  intro n
  induction n with
  | zero =>
    intro v2 v4 σ h
    cases (show (none : R3) = some (r, σ') from h)
  | succ n ih =>
    intro v2 v4 σ h
    have hK23 := ih
    have h : Fb_X1_spread_23 K9 v1 v3 (F_X1_spread_23 K9 v1 v3 n) v2 v4 σ = some (r, σ') := h
    unfold Fb_X1_spread_23 at h
    refine z_iload X.1 dX1_spread_23 4 rfl ?_
    refine z_aload_n (i := 0) X.1 dX1_spread_25 0 rfl rfl ?_
    refine g_X1_net X.1 tw147 dX1_spread_26 ?_
    refine g_X2_size (Or.inl rfl) X.1 tw99 dX1_spread_29 ?_
    refine z_icmp_ge (tgt := 69) X.1 dX1_spread_32 (by decide) h (fun q192 h => ?_) (fun q192 h => ?_)
    · refine z_iinc_m (v := (1 : Int32)) (lv' := fun x193 => [(3, .int x193), (0, .ref (zo κ.1 3)), (1, .int v1), (2, .int v2), (4, .int v4)]) X.1 dX1_spread_69 3 rfl (by decide) (by decide) (fun _ => rfl) h (fun x193 h => ?_)
      refine z_goto (tgt := 9) X.1 dX1_spread_72 (by decide) ?_
      exact z_sub [1, 2, 3, 0] rfl (hK9 _ _ _ h)
    · refine z_iload_n (i := 2) X.1 dX1_spread_35 2 rfl rfl ?_
      refine z_iload X.1 dX1_spread_36 4 rfl ?_
      refine z_ishr X.1 dX1_spread_38 ?_
      refine z_iconst (v := (1 : Int32)) X.1 dX1_spread_39 (by decide) ?_
      refine z_iand X.1 dX1_spread_40 ?_
      refine z_if_eq (tgt := 63) X.1 dX1_spread_41 (by decide) h (fun q194 h => ?_) (fun q194 h => ?_)
      · refine z_iinc_m (v := (1 : Int32)) (lv' := fun x195 => [(4, .int x195), (0, .ref (zo κ.1 3)), (1, .int v1), (2, .int v2), (3, .int v3)]) X.1 dX1_spread_63 4 rfl (by decide) (by decide) (fun _ => rfl) h (fun x195 h => ?_)
        refine z_goto (tgt := 23) X.1 dX1_spread_66 (by decide) ?_
        exact z_sub [1, 2, 3, 4, 0] rfl (hK23 _ _ _ h)
      · refine z_iload_n (i := 2) X.1 dX1_spread_44 2 rfl rfl ?_
        refine z_aload_n (i := 0) X.1 dX1_spread_45 0 rfl rfl ?_
        refine z_aload_n (i := 0) X.1 dX1_spread_46 0 rfl rfl ?_
        refine z_iload_n (i := 1) X.1 dX1_spread_47 1 rfl rfl ?_
        refine z_iload X.1 dX1_spread_48 4 rfl ?_
        obtain ⟨r196, s197, hc198, h⟩ := bd_inv h
        refine cl_X1_117 (d1 := 0) (As := [.int v1, .int v4]) (rest := [.ref (zo κ.1 3), .ref (zo κ.1 3), .int v2]) X.1 (by decide) (C_X5_withMarker X.2.1 hc198) rfl rfl (Nat.le_of_ble_eq_true rfl) dX1_spread_50 ?_
        obtain ⟨r199, s200, hc201, h⟩ := bd_inv h
        refine cl_X1_87 (d1 := 1) (b := zo κ.1 3) (As := [.int r196]) (rest := [.ref (zo κ.1 3), .int v2]) X.1 (by decide) (C_X1_movesFrom X.2.1 hc201) rcX1 rfl rfl (Nat.le_of_ble_eq_true rfl) dX1_spread_53 ?_
        refine z_iload X.1 dX1_spread_56 4 rfl ?_
        obtain ⟨r202, s203, hc204, h⟩ := bd_inv h
        refine cl_X1_120 (d1 := 1) (b := zo κ.1 3) (As := [.int r199, .int v4]) (rest := [.int v2]) X.1 (by decide) (C_X1_farEnds X.2.1 hc204) rcX1 rfl rfl (Nat.le_of_ble_eq_true rfl) dX1_spread_58 ?_
        refine z_ior X.1 dX1_spread_61 ?_
        refine z_istore_nn (i := 2) (lv' := fun x213 => [(2, .int x213), (0, .ref (zo κ.1 3)), (1, .int v1), (3, .int v3), (4, .int v4)]) X.1 dX1_spread_62 rfl (by decide) (fun _ => rfl) h (fun x213 h => ?_)
        refine z_iinc_m (v := (1 : Int32)) (lv' := fun x214 => [(4, .int x214), (2, .int x213), (0, .ref (zo κ.1 3)), (1, .int v1), (3, .int v3)]) X.1 dX1_spread_63 4 rfl (by decide) (by decide) (fun _ => rfl) h (fun x214 h => ?_)
        refine z_goto (tgt := 23) X.1 dX1_spread_66 (by decide) ?_
        exact z_sub [2, 3, 1, 4, 0] rfl (hK23 _ _ _ h)
noncomputable def Fb_X1_spread_9 (v1 : Int32) (K9 : Int32 → Int32 → S3 → R3) (v2 : Int32) (v3 : Int32) (σ : S3) : R3 :=
  if (σ 1 0 0) ≤ v3 then (some (v2, σ))
  else (F_X1_spread_23 K9 v1 v3 zF v2 (0 : Int32) σ)
noncomputable def F_X1_spread_9 (v1 : Int32) (n : Nat) : Int32 → Int32 → S3 → R3 := zl2 (Fb_X1_spread_9 v1) n
set_option maxHeartbeats 4000000 in
set_option maxRecDepth 100000 in
theorem B_X1_spread_9 {κ : zT} {σ' : S3} {r : Int32} (X : zC κ zX RX1 cX1_spread 5 (some .int) 2 (some (.int r)) σ') {v1 : Int32} : ∀ (n : Nat) (v2 : Int32) (v3 : Int32) (σ : S3), F_X1_spread_9 v1 n v2 v3 σ = some (r, σ') → Z κ 5 (zX (ze κ.1) σ) [(0, .ref (zo κ.1 3)), (1, .int v1), (2, .int v2), (3, .int v3)] 9 [] := by
  intro n
  induction n with
  | zero =>
    intro v2 v3 σ h
    cases (show (none : R3) = some (r, σ') from h)
  | succ n ih =>
    intro v2 v3 σ h
    have hK9 := ih
    have h : Fb_X1_spread_9 v1 (F_X1_spread_9 v1 n) v2 v3 σ = some (r, σ') := h
    unfold Fb_X1_spread_9 at h
    refine z_iload_n (i := 3) X.1 dX1_spread_9 3 rfl rfl ?_
    refine z_aload_n (i := 0) X.1 dX1_spread_10 0 rfl rfl ?_
    refine g_X1_net X.1 tw147 dX1_spread_11 ?_
    refine g_X2_size (Or.inl rfl) X.1 tw99 dX1_spread_14 ?_
    refine z_icmp_ge (tgt := 75) X.1 dX1_spread_17 (by decide) h (fun q191 h => ?_) (fun q191 h => ?_)
    · refine z_iload_n (i := 2) X.1 dX1_spread_75 2 rfl rfl ?_
      exact z_iret X dX1_spread_76 h
    · refine z_iconst (v := (0 : Int32)) X.1 dX1_spread_20 (by decide) ?_
      refine z_istore (i := 4) (lv' := [(4, .int (0 : Int32)), (0, .ref (zo κ.1 3)), (1, .int v1), (2, .int v2), (3, .int v3)]) X.1 dX1_spread_21 (by decide) rfl ?_
      exact z_sub [1, 2, 3, 4, 0] rfl (B_X1_spread_23 X hK9 zF _ _ _ h)
noncomputable def F_X1_spread (v1 : Int32) (σ : S3) : R3 :=
  bd (F_X5_marker v1 σ) (fun r187 s188 => nm ((1 : Int32) <<< (r187 &&& 31)) (fun x190 => F_X1_spread_9 v1 zF x190 (1 : Int32) s188))
set_option maxHeartbeats 4000000 in
set_option maxRecDepth 100000 in
theorem B_X1_spread_0 {κ : zT} {σ' : S3} {r : Int32} (X : zC κ zX RX1 cX1_spread 5 (some .int) 2 (some (.int r)) σ') {v1 : Int32} {σ : S3} (h : F_X1_spread v1 σ = some (r, σ')) : Z κ 5 (zX (ze κ.1) σ) [(0, .ref (zo κ.1 3)), (1, .int v1)] 0 [] := by
  unfold F_X1_spread at h
  refine z_iconst (v := (1 : Int32)) X.1 dX1_spread_0 (by decide) ?_
  refine z_iload_n (i := 1) X.1 dX1_spread_1 1 rfl rfl ?_
  obtain ⟨r187, s188, hc189, h⟩ := bd_inv h
  refine cl_X1_35 (d1 := 0) (As := [.int v1]) (rest := [.int (1 : Int32)]) X.1 (by decide) (C_X5_marker X.2.1 hc189) rfl rfl (Nat.le_of_ble_eq_true rfl) dX1_spread_2 ?_
  refine z_ishl X.1 dX1_spread_5 ?_
  refine z_istore_nn (i := 2) (lv' := fun x190 => [(2, .int x190), (0, .ref (zo κ.1 3)), (1, .int v1)]) X.1 dX1_spread_6 rfl (by decide) (fun _ => rfl) h (fun x190 h => ?_)
  refine z_iconst (v := (1 : Int32)) X.1 dX1_spread_7 (by decide) ?_
  refine z_istore_n (i := 3) (lv' := [(3, .int (1 : Int32)), (2, .int x190), (0, .ref (zo κ.1 3)), (1, .int v1)]) X.1 dX1_spread_8 rfl (by decide) rfl ?_
  exact z_sub [2, 3, 1, 0] rfl (B_X1_spread_9 X zF _ _ _ h)
theorem C_X1_spread {ζ : zW} (hZ : zDis ζ zX) {v1 : Int32} {σ σ' : S3} {r : Int32} (h : F_X1_spread v1 σ = some (r, σ')) : zMet ζ zX 2 yX1_spread cX1_spread 5 (some .int) [.ref (zo ζ 3), .int v1] σ (some (.int r)) σ' :=
  zMet_of pn_X1 hZ (Nat.le_of_ble_eq_true rfl) (fun κ e X => by subst e; exact B_X1_spread_0 X h)
noncomputable def Fb_X1_reachFrom_11 (v1 : Int32) (v2 : Int32) (K11 : Int32 → Int32 → S3 → R3) (v3 : Int32) (v4 : Int32) (σ : S3) : R3 :=
  if (σ 1 1 0) ≤ v4 then (some (v3, σ))
  else (if ((v2 >>> (v4 &&& 31)) &&& (1 : Int32)) = (0 : Int32) then (nm (v4 + (1 : Int32)) (fun x180 => K11 v3 x180 σ))
  else (bd (F_X1_behind v1 v4 σ) (fun r181 s182 => bd (F_X1_spread r181 s182) (fun r184 s185 => nm (v3 ||| r184) (fun x215 => nm (v4 + (1 : Int32)) (fun x216 => K11 x215 x216 s185))))))
noncomputable def F_X1_reachFrom_11 (v1 : Int32) (v2 : Int32) (n : Nat) : Int32 → Int32 → S3 → R3 := zl2 (Fb_X1_reachFrom_11 v1 v2) n
set_option maxHeartbeats 4000000 in
set_option maxRecDepth 100000 in
theorem B_X1_reachFrom_11 {κ : zT} {σ' : S3} {r : Int32} (X : zC κ zX RX1 cX1_reachFrom 5 (some .int) 3 (some (.int r)) σ') {v1 : Int32} {v2 : Int32} : ∀ (n : Nat) (v3 : Int32) (v4 : Int32) (σ : S3), F_X1_reachFrom_11 v1 v2 n v3 v4 σ = some (r, σ') → Z κ 5 (zX (ze κ.1) σ) [(0, .ref (zo κ.1 3)), (1, .int v1), (2, .int v2), (3, .int v3), (4, .int v4)] 11 [] := by
  intro n
  induction n with
  | zero =>
    intro v3 v4 σ h
    cases (show (none : R3) = some (r, σ') from h)
  | succ n ih =>
    intro v3 v4 σ h
    have hK11 := ih
    have h : Fb_X1_reachFrom_11 v1 v2 (F_X1_reachFrom_11 v1 v2 n) v3 v4 σ = some (r, σ') := h
    unfold Fb_X1_reachFrom_11 at h
    refine z_iload X.1 dX1_reachFrom_11 4 rfl ?_
    refine z_aload_n (i := 0) X.1 dX1_reachFrom_13 0 rfl rfl ?_
    refine g_X1_net X.1 tw147 dX1_reachFrom_14 ?_
    refine g_X2_lines (Or.inl rfl) X.1 tw102 dX1_reachFrom_17 ?_
    refine z_icmp_ge (tgt := 52) X.1 dX1_reachFrom_20 (by decide) h (fun q178 h => ?_) (fun q178 h => ?_)
    · refine z_iload_n (i := 3) X.1 dX1_reachFrom_52 3 rfl rfl ?_
      exact z_iret X dX1_reachFrom_53 h
    · refine z_iload_n (i := 2) X.1 dX1_reachFrom_23 2 rfl rfl ?_
      refine z_iload X.1 dX1_reachFrom_24 4 rfl ?_
      refine z_ishr X.1 dX1_reachFrom_26 ?_
      refine z_iconst (v := (1 : Int32)) X.1 dX1_reachFrom_27 (by decide) ?_
      refine z_iand X.1 dX1_reachFrom_28 ?_
      refine z_if_eq (tgt := 46) X.1 dX1_reachFrom_29 (by decide) h (fun q179 h => ?_) (fun q179 h => ?_)
      · refine z_iinc_m (v := (1 : Int32)) (lv' := fun x180 => [(4, .int x180), (0, .ref (zo κ.1 3)), (1, .int v1), (2, .int v2), (3, .int v3)]) X.1 dX1_reachFrom_46 4 rfl (by decide) (by decide) (fun _ => rfl) h (fun x180 h => ?_)
        refine z_goto (tgt := 11) X.1 dX1_reachFrom_49 (by decide) ?_
        exact z_sub [1, 2, 3, 4, 0] rfl (hK11 _ _ _ h)
      · refine z_iload_n (i := 3) X.1 dX1_reachFrom_32 3 rfl rfl ?_
        refine z_aload_n (i := 0) X.1 dX1_reachFrom_33 0 rfl rfl ?_
        refine z_aload_n (i := 0) X.1 dX1_reachFrom_34 0 rfl rfl ?_
        refine z_iload_n (i := 1) X.1 dX1_reachFrom_35 1 rfl rfl ?_
        refine z_iload X.1 dX1_reachFrom_36 4 rfl ?_
        obtain ⟨r181, s182, hc183, h⟩ := bd_inv h
        refine cl_X1_90 (d1 := 1) (b := zo κ.1 3) (As := [.int v1, .int v4]) (rest := [.ref (zo κ.1 3), .int v3]) X.1 (by decide) (C_X1_behind X.2.1 hc183) rcX1 rfl rfl (Nat.le_of_ble_eq_true rfl) dX1_reachFrom_38 ?_
        obtain ⟨r184, s185, hc186, h⟩ := bd_inv h
        refine cl_X1_111 (d1 := 2) (b := zo κ.1 3) (As := [.int r181]) (rest := [.int v3]) X.1 (by decide) (C_X1_spread X.2.1 hc186) rcX1 rfl rfl (Nat.le_of_ble_eq_true rfl) dX1_reachFrom_41 ?_
        refine z_ior X.1 dX1_reachFrom_44 ?_
        refine z_istore_nn (i := 3) (lv' := fun x215 => [(3, .int x215), (0, .ref (zo κ.1 3)), (1, .int v1), (2, .int v2), (4, .int v4)]) X.1 dX1_reachFrom_45 rfl (by decide) (fun _ => rfl) h (fun x215 h => ?_)
        refine z_iinc_m (v := (1 : Int32)) (lv' := fun x216 => [(4, .int x216), (3, .int x215), (0, .ref (zo κ.1 3)), (1, .int v1), (2, .int v2)]) X.1 dX1_reachFrom_46 4 rfl (by decide) (by decide) (fun _ => rfl) h (fun x216 h => ?_)
        refine z_goto (tgt := 11) X.1 dX1_reachFrom_49 (by decide) ?_
        exact z_sub [2, 3, 4, 1, 0] rfl (hK11 _ _ _ h)
noncomputable def F_X1_reachFrom (v1 : Int32) (σ : S3) : R3 :=
  bd (F_X1_movesFrom v1 σ) (fun r175 s176 => F_X1_reachFrom_11 v1 r175 zF (0 : Int32) (0 : Int32) s176)
set_option maxHeartbeats 4000000 in
set_option maxRecDepth 100000 in
theorem B_X1_reachFrom_0 {κ : zT} {σ' : S3} {r : Int32} (X : zC κ zX RX1 cX1_reachFrom 5 (some .int) 3 (some (.int r)) σ') {v1 : Int32} {σ : S3} (h : F_X1_reachFrom v1 σ = some (r, σ')) : Z κ 5 (zX (ze κ.1) σ) [(0, .ref (zo κ.1 3)), (1, .int v1)] 0 [] := by
  unfold F_X1_reachFrom at h
  refine z_aload_n (i := 0) X.1 dX1_reachFrom_0 0 rfl rfl ?_
  refine z_iload_n (i := 1) X.1 dX1_reachFrom_1 1 rfl rfl ?_
  obtain ⟨r175, s176, hc177, h⟩ := bd_inv h
  refine cl_X1_87 (d1 := 1) (b := zo κ.1 3) (As := [.int v1]) (rest := []) X.1 (by decide) (C_X1_movesFrom X.2.1 hc177) rcX1 rfl rfl (Nat.le_of_ble_eq_true rfl) dX1_reachFrom_2 ?_
  refine z_istore_n (i := 2) (lv' := [(2, .int r175), (0, .ref (zo κ.1 3)), (1, .int v1)]) X.1 dX1_reachFrom_5 rfl (by decide) rfl ?_
  refine z_iconst (v := (0 : Int32)) X.1 dX1_reachFrom_6 (by decide) ?_
  refine z_istore_n (i := 3) (lv' := [(3, .int (0 : Int32)), (2, .int r175), (0, .ref (zo κ.1 3)), (1, .int v1)]) X.1 dX1_reachFrom_7 rfl (by decide) rfl ?_
  refine z_iconst (v := (0 : Int32)) X.1 dX1_reachFrom_8 (by decide) ?_
  refine z_istore (i := 4) (lv' := [(4, .int (0 : Int32)), (3, .int (0 : Int32)), (2, .int r175), (0, .ref (zo κ.1 3)), (1, .int v1)]) X.1 dX1_reachFrom_9 (by decide) rfl ?_
  exact z_sub [3, 4, 2, 1, 0] rfl (B_X1_reachFrom_11 X zF _ _ _ h)
theorem C_X1_reachFrom {ζ : zW} (hZ : zDis ζ zX) {v1 : Int32} {σ σ' : S3} {r : Int32} (h : F_X1_reachFrom v1 σ = some (r, σ')) : zMet ζ zX 3 yX1_reachFrom cX1_reachFrom 5 (some .int) [.ref (zo ζ 3), .int v1] σ (some (.int r)) σ' :=
  zMet_of pn_X1 hZ (Nat.le_of_ble_eq_true rfl) (fun κ e X => by subst e; exact B_X1_reachFrom_0 X h)
noncomputable def F_X2_hasPoint (c : Nat) (v1 : Int32) (σ : S3) : R3 :=
  if v1 < (0 : Int32) then (some ((0 : Int32), σ))
  else (if (σ c 0 0) ≤ v1 then (some ((0 : Int32), σ))
  else (some ((1 : Int32), σ)))
set_option maxHeartbeats 4000000 in
set_option maxRecDepth 100000 in
theorem B_X2_hasPoint_0 {κ : zT} {σ' : S3} {r : Int32} (X : zC κ zX RX2 cX2_hasPoint 2 (some .boolean) 0 (some (.int r)) σ') {c : Nat} (hc : zNet c) {v1 : Int32} {σ : S3} (h : F_X2_hasPoint c v1 σ = some (r, σ')) : Z κ 2 (zX (ze κ.1) σ) [(0, .ref (zo κ.1 c)), (1, .int v1)] 0 [] := by
  unfold F_X2_hasPoint at h
  refine z_iload_n (i := 1) X.1 dX2_hasPoint_0 1 rfl rfl ?_
  refine z_if_lt (tgt := 16) X.1 dX2_hasPoint_1 (by decide) h (fun q217 h => ?_) (fun q217 h => ?_)
  · refine z_iconst (v := (0 : Int32)) X.1 dX2_hasPoint_16 (by decide) ?_
    exact z_zret X dX2_hasPoint_17 (Or.inl rfl) h
  · refine z_iload_n (i := 1) X.1 dX2_hasPoint_4 1 rfl rfl ?_
    refine z_aload_n (i := 0) X.1 dX2_hasPoint_5 0 rfl rfl ?_
    refine g_X2_size hc X.1 tw97 dX2_hasPoint_6 ?_
    refine z_icmp_ge (tgt := 16) X.1 dX2_hasPoint_9 (by decide) h (fun q218 h => ?_) (fun q218 h => ?_)
    · refine z_iconst (v := (0 : Int32)) X.1 dX2_hasPoint_16 (by decide) ?_
      exact z_zret X dX2_hasPoint_17 (Or.inl rfl) h
    · refine z_iconst (v := (1 : Int32)) X.1 dX2_hasPoint_12 (by decide) ?_
      refine z_goto (tgt := 17) X.1 dX2_hasPoint_13 (by decide) ?_
      exact z_zret X dX2_hasPoint_17 (Or.inr rfl) h
theorem C_X2_hasPoint {ζ : zW} (hZ : zDis ζ zX) {c : Nat} (hc : zNet c) {v1 : Int32} {σ σ' : S3} {r : Int32} (h : F_X2_hasPoint c v1 σ = some (r, σ')) : zMet ζ zX 0 yX2_hasPoint cX2_hasPoint 2 (some .boolean) [.ref (zo ζ c), .int v1] σ (some (.int r)) σ' :=
  zMet_of pn_X2 hZ (Nat.le_of_ble_eq_true rfl) (fun κ e X => by subst e; exact B_X2_hasPoint_0 X hc h)
noncomputable def F_X2_everyPoint (c : Nat) (σ : S3) : R3 :=
  some (((1 : Int32) <<< ((σ c 0 0) &&& 31)) - (1 : Int32), σ)
set_option maxHeartbeats 4000000 in
set_option maxRecDepth 100000 in
theorem B_X2_everyPoint_0 {κ : zT} {σ' : S3} {r : Int32} (X : zC κ zX RX2 cX2_everyPoint 1 (some .int) 0 (some (.int r)) σ') {c : Nat} (hc : zNet c) {σ : S3} (h : F_X2_everyPoint c σ = some (r, σ')) : Z κ 1 (zX (ze κ.1) σ) [(0, .ref (zo κ.1 c))] 0 [] := by
  unfold F_X2_everyPoint at h
  refine z_iconst (v := (1 : Int32)) X.1 dX2_everyPoint_0 (by decide) ?_
  refine z_aload_n (i := 0) X.1 dX2_everyPoint_1 0 rfl rfl ?_
  refine g_X2_size hc X.1 tw97 dX2_everyPoint_2 ?_
  refine z_ishl X.1 dX2_everyPoint_5 ?_
  refine z_iconst (v := (1 : Int32)) X.1 dX2_everyPoint_6 (by decide) ?_
  refine z_isub X.1 dX2_everyPoint_7 ?_
  exact z_iret X dX2_everyPoint_8 h
theorem C_X2_everyPoint {ζ : zW} (hZ : zDis ζ zX) {c : Nat} (hc : zNet c) {σ σ' : S3} {r : Int32} (h : F_X2_everyPoint c  σ = some (r, σ')) : zMet ζ zX 0 yX2_everyPoint cX2_everyPoint 1 (some .int) [.ref (zo ζ c)] σ (some (.int r)) σ' :=
  zMet_of pn_X2 hZ (Nat.le_of_ble_eq_true rfl) (fun κ e X => by subst e; exact B_X2_everyPoint_0 X hc h)
noncomputable def F_X2_lead (c : Nat) (v1 : Int32) (v2 : Int32) (v3 : Int32) (σ : S3) : R3 :=
  ck v2 16 (ck v2 16 (nm (up σ c 6 (ix v2) ((σ c 6 (ix v2)) ||| ((1 : Int32) <<< (v1 &&& 31)))) (fun s240 => ck v3 16 (ck v3 16 (nm (up s240 c 7 (ix v3) ((s240 c 7 (ix v3)) ||| ((1 : Int32) <<< (v1 &&& 31)))) (fun s241 => ck v2 16 (ck v2 16 (nm (up s241 c 9 (ix v2) ((s241 c 9 (ix v2)) ||| ((1 : Int32) <<< (v3 &&& 31)))) (fun s242 => some ((0 : Int32), s242))))))))))
set_option maxHeartbeats 4000000 in
set_option maxRecDepth 100000 in
theorem B_X2_lead_0 {κ : zT} {σ' : S3} {r : Int32} (X : zC κ zX RX2 cX2_lead 4 none 0 none σ') {c : Nat} (hc : zNet c) {v1 : Int32} {v2 : Int32} {v3 : Int32} {σ : S3} (h : F_X2_lead c v1 v2 v3 σ = some (r, σ')) : Z κ 4 (zX (ze κ.1) σ) [(0, .ref (zo κ.1 c)), (1, .int v1), (2, .int v2), (3, .int v3)] 0 [] := by
  unfold F_X2_lead at h
  refine z_aload_n (i := 0) X.1 dX2_lead_0 0 rfl rfl ?_
  refine g_X2_leaving hc X.1 tw114 dX2_lead_1 ?_
  refine z_iload_n (i := 2) X.1 dX2_lead_4 2 rfl rfl ?_
  refine z_dup2 X.1 dX2_lead_5 rfl rfl ?_
  refine al_X2_leaving hc X.1 dX2_lead_6 h (fun h => ?_)
  refine z_iconst (v := (1 : Int32)) X.1 dX2_lead_7 (by decide) ?_
  refine z_iload_n (i := 1) X.1 dX2_lead_8 1 rfl rfl ?_
  refine z_ishl X.1 dX2_lead_9 ?_
  refine z_ior X.1 dX2_lead_10 ?_
  refine as_X2_leaving hc X.1 X.2.1 dX2_lead_11 h (fun s240 h => ?_)
  refine z_aload_n (i := 0) X.1 dX2_lead_12 0 rfl rfl ?_
  refine g_X2_coming hc X.1 tw116 dX2_lead_13 ?_
  refine z_iload_n (i := 3) X.1 dX2_lead_16 3 rfl rfl ?_
  refine z_dup2 X.1 dX2_lead_17 rfl rfl ?_
  refine al_X2_coming hc X.1 dX2_lead_18 h (fun h => ?_)
  refine z_iconst (v := (1 : Int32)) X.1 dX2_lead_19 (by decide) ?_
  refine z_iload_n (i := 1) X.1 dX2_lead_20 1 rfl rfl ?_
  refine z_ishl X.1 dX2_lead_21 ?_
  refine z_ior X.1 dX2_lead_22 ?_
  refine as_X2_coming hc X.1 X.2.1 dX2_lead_23 h (fun s241 h => ?_)
  refine z_aload_n (i := 0) X.1 dX2_lead_24 0 rfl rfl ?_
  refine g_X2_ahead hc X.1 tw118 dX2_lead_25 ?_
  refine z_iload_n (i := 2) X.1 dX2_lead_28 2 rfl rfl ?_
  refine z_dup2 X.1 dX2_lead_29 rfl rfl ?_
  refine al_X2_ahead hc X.1 dX2_lead_30 h (fun h => ?_)
  refine z_iconst (v := (1 : Int32)) X.1 dX2_lead_31 (by decide) ?_
  refine z_iload_n (i := 3) X.1 dX2_lead_32 3 rfl rfl ?_
  refine z_ishl X.1 dX2_lead_33 ?_
  refine z_ior X.1 dX2_lead_34 ?_
  refine as_X2_ahead hc X.1 X.2.1 dX2_lead_35 h (fun s242 h => ?_)
  exact z_vret X dX2_lead_36 h
theorem C_X2_lead {ζ : zW} (hZ : zDis ζ zX) {c : Nat} (hc : zNet c) {v1 : Int32} {v2 : Int32} {v3 : Int32} {σ σ' : S3} {r : Int32} (h : F_X2_lead c v1 v2 v3 σ = some (r, σ')) : zMet ζ zX 0 yX2_lead cX2_lead 4 none [.ref (zo ζ c), .int v1, .int v2, .int v3] σ none σ' :=
  zMet_of pn_X2 hZ (Nat.le_of_ble_eq_true rfl) (fun κ e X => by subst e; exact B_X2_lead_0 X hc h)
noncomputable def F_X2_gather_155 (c : Nat) (K42 : Int32 → S3 → R3) (v1 : Int32) (σ : S3) : R3 :=
  ck v1 12 (if (σ c 4 (ix v1)) = (1 : Int32) then (nm (v1 + (1 : Int32)) (fun x236 => K42 x236 σ))
  else (ck v1 12 (ck v1 12 (bd (F_X2_lead c v1 (σ c 3 (ix v1)) (σ c 2 (ix v1)) σ) (fun r237 s238 => nm (v1 + (1 : Int32)) (fun x243 => K42 x243 s238))))))
set_option maxHeartbeats 4000000 in
set_option maxRecDepth 100000 in
theorem B_X2_gather_155 {κ : zT} {σ' : S3} {r : Int32} (X : zC κ zX RX2 cX2_gather 2 none 1 none σ') {c : Nat} (hc : zNet c) {K42 : Int32 → S3 → R3} {v1 : Int32} {σ : S3} (hK42 : ∀ (w1 : Int32) (s1 : S3), K42 w1 s1 = some (r, σ') → Z κ 2 (zX (ze κ.1) s1) [(0, .ref (zo κ.1 c)), (1, .int w1)] 42 []) (h : F_X2_gather_155 c K42 v1 σ = some (r, σ')) : Z κ 2 (zX (ze κ.1) σ) [(0, .ref (zo κ.1 c)), (1, .int v1)] 155 [] := by
  unfold F_X2_gather_155 at h
  refine z_aload_n (i := 0) X.1 dX2_gather_155 0 rfl rfl ?_
  refine g_X2_ways hc X.1 tw109 dX2_gather_156 ?_
  refine z_iload_n (i := 1) X.1 dX2_gather_159 1 rfl rfl ?_
  refine al_X2_ways hc X.1 dX2_gather_160 h (fun h => ?_)
  refine z_iconst (v := (1 : Int32)) X.1 dX2_gather_161 (by decide) ?_
  refine z_icmp_eq (tgt := 182) X.1 dX2_gather_162 (by decide) h (fun q235 h => ?_) (fun q235 h => ?_)
  · refine z_iinc_m (v := (1 : Int32)) (lv' := fun x236 => [(1, .int x236), (0, .ref (zo κ.1 c))]) X.1 dX2_gather_182 1 rfl (by decide) (by decide) (fun _ => rfl) h (fun x236 h => ?_)
    refine z_goto (tgt := 42) X.1 dX2_gather_185 (by decide) ?_
    exact z_sub [1, 0] rfl (hK42 _ _ h)
  · refine z_aload_n (i := 0) X.1 dX2_gather_165 0 rfl rfl ?_
    refine z_iload_n (i := 1) X.1 dX2_gather_166 1 rfl rfl ?_
    refine z_aload_n (i := 0) X.1 dX2_gather_167 0 rfl rfl ?_
    refine g_X2_to hc X.1 tw107 dX2_gather_168 ?_
    refine z_iload_n (i := 1) X.1 dX2_gather_171 1 rfl rfl ?_
    refine al_X2_to hc X.1 dX2_gather_172 h (fun h => ?_)
    refine z_aload_n (i := 0) X.1 dX2_gather_173 0 rfl rfl ?_
    refine g_X2_from hc X.1 tw105 dX2_gather_174 ?_
    refine z_iload_n (i := 1) X.1 dX2_gather_177 1 rfl rfl ?_
    refine al_X2_from hc X.1 dX2_gather_178 h (fun h => ?_)
    obtain ⟨r237, s238, hc239, h⟩ := bd_inv h
    refine cl_X2_58 (d1 := 0) (b := zo κ.1 c) (r := 0) (As := [.int v1, .int (σ c 3 (ix v1)), .int (σ c 2 (ix v1))]) (rest := []) X.1 (by decide) (C_X2_lead X.2.1 hc hc239) (rcX2 hc) rfl rfl (Nat.le_of_ble_eq_true rfl) dX2_gather_179 ?_
    refine z_iinc_m (v := (1 : Int32)) (lv' := fun x243 => [(1, .int x243), (0, .ref (zo κ.1 c))]) X.1 dX2_gather_182 1 rfl (by decide) (by decide) (fun _ => rfl) h (fun x243 h => ?_)
    refine z_goto (tgt := 42) X.1 dX2_gather_185 (by decide) ?_
    exact z_sub [1, 0] rfl (hK42 _ _ h)
noncomputable def Fb_X2_gather_42 (c : Nat) (K42 : Int32 → S3 → R3) (v1 : Int32) (σ : S3) : R3 :=
  if (σ c 1 0) ≤ v1 then (some ((0 : Int32), σ))
  else (ck v1 12 (ck (σ c 2 (ix v1)) 16 (ck (σ c 2 (ix v1)) 16 (nm (up σ c 5 (ix (σ c 2 (ix v1))) ((σ c 5 (ix (σ c 2 (ix v1)))) ||| ((1 : Int32) <<< (v1 &&& 31)))) (fun s230 => ck v1 12 (ck (s230 c 3 (ix v1)) 16 (ck (s230 c 3 (ix v1)) 16 (nm (up s230 c 5 (ix (s230 c 3 (ix v1))) ((s230 c 5 (ix (s230 c 3 (ix v1)))) ||| ((1 : Int32) <<< (v1 &&& 31)))) (fun s231 => ck v1 12 (ck (s231 c 2 (ix v1)) 16 (ck v1 12 (ck (s231 c 2 (ix v1)) 16 (nm (up s231 c 8 (ix (s231 c 2 (ix v1))) ((s231 c 8 (ix (s231 c 2 (ix v1)))) ||| ((1 : Int32) <<< ((s231 c 3 (ix v1)) &&& 31)))) (fun s232 => ck v1 12 (ck (s232 c 3 (ix v1)) 16 (ck v1 12 (ck (s232 c 3 (ix v1)) 16 (nm (up s232 c 8 (ix (s232 c 3 (ix v1))) ((s232 c 8 (ix (s232 c 3 (ix v1)))) ||| ((1 : Int32) <<< ((s232 c 2 (ix v1)) &&& 31)))) (fun s233 => ck v1 12 (if (s233 c 4 (ix v1)) = (2 : Int32) then (F_X2_gather_155 c K42 v1 s233)
  else (ck v1 12 (ck v1 12 (bd (F_X2_lead c v1 (s233 c 2 (ix v1)) (s233 c 3 (ix v1)) s233) (fun r244 s245 => F_X2_gather_155 c K42 v1 s245))))))))))))))))))))))))
noncomputable def F_X2_gather_42 (c : Nat) (n : Nat) : Int32 → S3 → R3 := zl1 (Fb_X2_gather_42 c) n
set_option maxHeartbeats 4000000 in
set_option maxRecDepth 100000 in
theorem B_X2_gather_42 {κ : zT} {σ' : S3} {r : Int32} (X : zC κ zX RX2 cX2_gather 2 none 1 none σ') {c : Nat} (hc : zNet c) : ∀ (n : Nat) (v1 : Int32) (σ : S3), F_X2_gather_42 c n v1 σ = some (r, σ') → Z κ 2 (zX (ze κ.1) σ) [(0, .ref (zo κ.1 c)), (1, .int v1)] 42 [] := by
  intro n
  induction n with
  | zero =>
    intro v1 σ h
    cases (show (none : R3) = some (r, σ') from h)
  | succ n ih =>
    intro v1 σ h
    have hK42 := ih
    have h : Fb_X2_gather_42 c (F_X2_gather_42 c n) v1 σ = some (r, σ') := h
    unfold Fb_X2_gather_42 at h
    refine z_iload_n (i := 1) X.1 dX2_gather_42 1 rfl rfl ?_
    refine z_aload_n (i := 0) X.1 dX2_gather_43 0 rfl rfl ?_
    refine g_X2_lines hc X.1 tw100 dX2_gather_44 ?_
    refine z_icmp_ge (tgt := 188) X.1 dX2_gather_47 (by decide) h (fun q229 h => ?_) (fun q229 h => ?_)
    · exact z_vret X dX2_gather_188 h
    · refine z_aload_n (i := 0) X.1 dX2_gather_50 0 rfl rfl ?_
      refine g_X2_touching hc X.1 tw111 dX2_gather_51 ?_
      refine z_aload_n (i := 0) X.1 dX2_gather_54 0 rfl rfl ?_
      refine g_X2_from hc X.1 tw105 dX2_gather_55 ?_
      refine z_iload_n (i := 1) X.1 dX2_gather_58 1 rfl rfl ?_
      refine al_X2_from hc X.1 dX2_gather_59 h (fun h => ?_)
      refine z_dup2 X.1 dX2_gather_60 rfl rfl ?_
      refine al_X2_touching hc X.1 dX2_gather_61 h (fun h => ?_)
      refine z_iconst (v := (1 : Int32)) X.1 dX2_gather_62 (by decide) ?_
      refine z_iload_n (i := 1) X.1 dX2_gather_63 1 rfl rfl ?_
      refine z_ishl X.1 dX2_gather_64 ?_
      refine z_ior X.1 dX2_gather_65 ?_
      refine as_X2_touching hc X.1 X.2.1 dX2_gather_66 h (fun s230 h => ?_)
      refine z_aload_n (i := 0) X.1 dX2_gather_67 0 rfl rfl ?_
      refine g_X2_touching hc X.1 tw111 dX2_gather_68 ?_
      refine z_aload_n (i := 0) X.1 dX2_gather_71 0 rfl rfl ?_
      refine g_X2_to hc X.1 tw107 dX2_gather_72 ?_
      refine z_iload_n (i := 1) X.1 dX2_gather_75 1 rfl rfl ?_
      refine al_X2_to hc X.1 dX2_gather_76 h (fun h => ?_)
      refine z_dup2 X.1 dX2_gather_77 rfl rfl ?_
      refine al_X2_touching hc X.1 dX2_gather_78 h (fun h => ?_)
      refine z_iconst (v := (1 : Int32)) X.1 dX2_gather_79 (by decide) ?_
      refine z_iload_n (i := 1) X.1 dX2_gather_80 1 rfl rfl ?_
      refine z_ishl X.1 dX2_gather_81 ?_
      refine z_ior X.1 dX2_gather_82 ?_
      refine as_X2_touching hc X.1 X.2.1 dX2_gather_83 h (fun s231 h => ?_)
      refine z_aload_n (i := 0) X.1 dX2_gather_84 0 rfl rfl ?_
      refine g_X2_beside hc X.1 tw117 dX2_gather_85 ?_
      refine z_aload_n (i := 0) X.1 dX2_gather_88 0 rfl rfl ?_
      refine g_X2_from hc X.1 tw105 dX2_gather_89 ?_
      refine z_iload_n (i := 1) X.1 dX2_gather_92 1 rfl rfl ?_
      refine al_X2_from hc X.1 dX2_gather_93 h (fun h => ?_)
      refine z_dup2 X.1 dX2_gather_94 rfl rfl ?_
      refine al_X2_beside hc X.1 dX2_gather_95 h (fun h => ?_)
      refine z_iconst (v := (1 : Int32)) X.1 dX2_gather_96 (by decide) ?_
      refine z_aload_n (i := 0) X.1 dX2_gather_97 0 rfl rfl ?_
      refine g_X2_to hc X.1 tw107 dX2_gather_98 ?_
      refine z_iload_n (i := 1) X.1 dX2_gather_101 1 rfl rfl ?_
      refine al_X2_to hc X.1 dX2_gather_102 h (fun h => ?_)
      refine z_ishl X.1 dX2_gather_103 ?_
      refine z_ior X.1 dX2_gather_104 ?_
      refine as_X2_beside hc X.1 X.2.1 dX2_gather_105 h (fun s232 h => ?_)
      refine z_aload_n (i := 0) X.1 dX2_gather_106 0 rfl rfl ?_
      refine g_X2_beside hc X.1 tw117 dX2_gather_107 ?_
      refine z_aload_n (i := 0) X.1 dX2_gather_110 0 rfl rfl ?_
      refine g_X2_to hc X.1 tw107 dX2_gather_111 ?_
      refine z_iload_n (i := 1) X.1 dX2_gather_114 1 rfl rfl ?_
      refine al_X2_to hc X.1 dX2_gather_115 h (fun h => ?_)
      refine z_dup2 X.1 dX2_gather_116 rfl rfl ?_
      refine al_X2_beside hc X.1 dX2_gather_117 h (fun h => ?_)
      refine z_iconst (v := (1 : Int32)) X.1 dX2_gather_118 (by decide) ?_
      refine z_aload_n (i := 0) X.1 dX2_gather_119 0 rfl rfl ?_
      refine g_X2_from hc X.1 tw105 dX2_gather_120 ?_
      refine z_iload_n (i := 1) X.1 dX2_gather_123 1 rfl rfl ?_
      refine al_X2_from hc X.1 dX2_gather_124 h (fun h => ?_)
      refine z_ishl X.1 dX2_gather_125 ?_
      refine z_ior X.1 dX2_gather_126 ?_
      refine as_X2_beside hc X.1 X.2.1 dX2_gather_127 h (fun s233 h => ?_)
      refine z_aload_n (i := 0) X.1 dX2_gather_128 0 rfl rfl ?_
      refine g_X2_ways hc X.1 tw109 dX2_gather_129 ?_
      refine z_iload_n (i := 1) X.1 dX2_gather_132 1 rfl rfl ?_
      refine al_X2_ways hc X.1 dX2_gather_133 h (fun h => ?_)
      refine z_iconst (v := (2 : Int32)) X.1 dX2_gather_134 (by decide) ?_
      refine z_icmp_eq (tgt := 155) X.1 dX2_gather_135 (by decide) h (fun q234 h => ?_) (fun q234 h => ?_)
      · exact z_sub [0, 1] rfl (B_X2_gather_155 X hc hK42 h)
      · refine z_aload_n (i := 0) X.1 dX2_gather_138 0 rfl rfl ?_
        refine z_iload_n (i := 1) X.1 dX2_gather_139 1 rfl rfl ?_
        refine z_aload_n (i := 0) X.1 dX2_gather_140 0 rfl rfl ?_
        refine g_X2_from hc X.1 tw105 dX2_gather_141 ?_
        refine z_iload_n (i := 1) X.1 dX2_gather_144 1 rfl rfl ?_
        refine al_X2_from hc X.1 dX2_gather_145 h (fun h => ?_)
        refine z_aload_n (i := 0) X.1 dX2_gather_146 0 rfl rfl ?_
        refine g_X2_to hc X.1 tw107 dX2_gather_147 ?_
        refine z_iload_n (i := 1) X.1 dX2_gather_150 1 rfl rfl ?_
        refine al_X2_to hc X.1 dX2_gather_151 h (fun h => ?_)
        obtain ⟨r244, s245, hc246, h⟩ := bd_inv h
        refine cl_X2_58 (d1 := 0) (b := zo κ.1 c) (r := 0) (As := [.int v1, .int (s233 c 2 (ix v1)), .int (s233 c 3 (ix v1))]) (rest := []) X.1 (by decide) (C_X2_lead X.2.1 hc hc246) (rcX2 hc) rfl rfl (Nat.le_of_ble_eq_true rfl) dX2_gather_152 ?_
        exact z_sub [0, 1] rfl (B_X2_gather_155 X hc hK42 h)
noncomputable def F_X2_gather (c : Nat) (σ : S3) : R3 :=
  nm (fillA σ c 5 16 (0 : Int32)) (fun s224 => nm (fillA s224 c 6 16 (0 : Int32)) (fun s225 => nm (fillA s225 c 7 16 (0 : Int32)) (fun s226 => nm (fillA s226 c 8 16 (0 : Int32)) (fun s227 => nm (fillA s227 c 9 16 (0 : Int32)) (fun s228 => F_X2_gather_42 c zF (0 : Int32) s228)))))
set_option maxHeartbeats 4000000 in
set_option maxRecDepth 100000 in
theorem B_X2_gather_0 {κ : zT} {σ' : S3} {r : Int32} (X : zC κ zX RX2 cX2_gather 2 none 1 none σ') {c : Nat} (hc : zNet c) {σ : S3} (h : F_X2_gather c σ = some (r, σ')) : Z κ 2 (zX (ze κ.1) σ) [(0, .ref (zo κ.1 c))] 0 [] := by
  unfold F_X2_gather at h
  refine z_aload_n (i := 0) X.1 dX2_gather_0 0 rfl rfl ?_
  refine g_X2_touching hc X.1 tw111 dX2_gather_1 ?_
  refine z_iconst (v := (0 : Int32)) X.1 dX2_gather_4 (by decide) ?_
  refine fi_X2_touching hc X.1 (by decide) X.2.1 tw320 (Nat.le_of_ble_eq_true rfl) dX2_gather_5 h (fun s224 h => ?_)
  refine z_aload_n (i := 0) X.1 dX2_gather_8 0 rfl rfl ?_
  refine g_X2_leaving hc X.1 tw114 dX2_gather_9 ?_
  refine z_iconst (v := (0 : Int32)) X.1 dX2_gather_12 (by decide) ?_
  refine fi_X2_leaving hc X.1 (by decide) X.2.1 tw320 (Nat.le_of_ble_eq_true rfl) dX2_gather_13 h (fun s225 h => ?_)
  refine z_aload_n (i := 0) X.1 dX2_gather_16 0 rfl rfl ?_
  refine g_X2_coming hc X.1 tw116 dX2_gather_17 ?_
  refine z_iconst (v := (0 : Int32)) X.1 dX2_gather_20 (by decide) ?_
  refine fi_X2_coming hc X.1 (by decide) X.2.1 tw320 (Nat.le_of_ble_eq_true rfl) dX2_gather_21 h (fun s226 h => ?_)
  refine z_aload_n (i := 0) X.1 dX2_gather_24 0 rfl rfl ?_
  refine g_X2_beside hc X.1 tw117 dX2_gather_25 ?_
  refine z_iconst (v := (0 : Int32)) X.1 dX2_gather_28 (by decide) ?_
  refine fi_X2_beside hc X.1 (by decide) X.2.1 tw320 (Nat.le_of_ble_eq_true rfl) dX2_gather_29 h (fun s227 h => ?_)
  refine z_aload_n (i := 0) X.1 dX2_gather_32 0 rfl rfl ?_
  refine g_X2_ahead hc X.1 tw118 dX2_gather_33 ?_
  refine z_iconst (v := (0 : Int32)) X.1 dX2_gather_36 (by decide) ?_
  refine fi_X2_ahead hc X.1 (by decide) X.2.1 tw320 (Nat.le_of_ble_eq_true rfl) dX2_gather_37 h (fun s228 h => ?_)
  refine z_iconst (v := (0 : Int32)) X.1 dX2_gather_40 (by decide) ?_
  refine z_istore_n (i := 1) (lv' := [(1, .int (0 : Int32)), (0, .ref (zo κ.1 c))]) X.1 dX2_gather_41 rfl (by decide) rfl ?_
  exact z_sub [1, 0] rfl (B_X2_gather_42 X hc zF _ _ h)
theorem C_X2_gather {ζ : zW} (hZ : zDis ζ zX) {c : Nat} (hc : zNet c) {σ σ' : S3} {r : Int32} (h : F_X2_gather c  σ = some (r, σ')) : zMet ζ zX 1 yX2_gather cX2_gather 2 none [.ref (zo ζ c)] σ none σ' :=
  zMet_of pn_X2 hZ (Nat.le_of_ble_eq_true rfl) (fun κ e X => by subst e; exact B_X2_gather_0 X hc h)
