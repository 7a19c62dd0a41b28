noncomputable def F_X9_no (v1 : Int32) (σ : S3) : R3 :=
  ck v1 7 (ck v1 7 (nm (up σ 0 0 (ix v1) ((σ 0 0 (ix v1)) + (1 : Int32))) (fun s1463 => some ((-1100000000 : Int32) - v1, s1463))))
set_option maxHeartbeats 4000000 in
set_option maxRecDepth 100000 in
theorem B_X9_no_0 {κ : zT} {σ' : S3} {r : Int32} (X : zC κ zM RX9 cX9_no 2 (some .int) 0 (some (.int r)) σ') {v1 : Int32} {σ : S3} (h : F_X9_no v1 σ = some (r, σ')) : Z κ 2 (zM (ze κ.1) σ) [(0, .ref (zo κ.1 0)), (1, .int v1)] 0 [] := by
  unfold F_X9_no at h
  refine z_aload_n (i := 0) X.1 dX9_no_0 0 rfl rfl ?_
  refine g_X9_errors X.1 tw805 dX9_no_1 ?_
  refine z_iload_n (i := 1) X.1 dX9_no_4 1 rfl rfl ?_
  refine z_dup2 X.1 dX9_no_5 rfl rfl ?_
  refine al_X9_errors X.1 dX9_no_6 h (fun h => ?_)
  refine z_iconst (v := (1 : Int32)) X.1 dX9_no_7 (by decide) ?_
  refine z_iadd X.1 dX9_no_8 ?_
  refine as_X9_errors X.1 X.2.1 dX9_no_9 h (fun s1463 h => ?_)
  refine z_ldc (v := (-1100000000 : Int32)) X.1 dX9_no_10 tw917 ?_
  refine z_iload_n (i := 1) X.1 dX9_no_12 1 rfl rfl ?_
  refine z_isub X.1 dX9_no_13 ?_
  exact z_iret X dX9_no_14 h
theorem C_X9_no {ζ : zW} (hZ : zDis ζ zM) {v1 : Int32} {σ σ' : S3} {r : Int32} (h : F_X9_no v1 σ = some (r, σ')) : zMet ζ zM 0 yX9_no cX9_no 2 (some .int) [.ref (zo ζ 0), .int v1] σ (some (.int r)) σ' :=
  zMet_of pn_X9 hZ (Nat.le_of_ble_eq_true rfl) (fun κ e X => by subst e; exact B_X9_no_0 X h)
noncomputable def F_X9_in (v0 : Int32) (v1 : Int32) (v2 : Int32) (σ : S3) : R3 :=
  if v0 < v1 then (some ((0 : Int32), σ))
  else (if v2 < v0 then (some ((0 : Int32), σ))
  else (some ((1 : Int32), σ)))
set_option maxHeartbeats 4000000 in
set_option maxRecDepth 100000 in
theorem B_X9_in_0 {κ : zT} {σ' : S3} {r : Int32} (X : zC κ zM RX9 cX9_in 3 (some .boolean) 0 (some (.int r)) σ') {v0 : Int32} {v1 : Int32} {v2 : Int32} {σ : S3} (h : F_X9_in v0 v1 v2 σ = some (r, σ')) : Z κ 3 (zM (ze κ.1) σ) [(0, .int v0), (1, .int v1), (2, .int v2)] 0 [] := by
  unfold F_X9_in at h
  refine z_iload_n (i := 0) X.1 dX9_in_0 0 rfl rfl ?_
  refine z_iload_n (i := 1) X.1 dX9_in_1 1 rfl rfl ?_
  refine z_icmp_lt (tgt := 14) X.1 dX9_in_2 (by decide) h (fun q1464 h => ?_) (fun q1464 h => ?_)
  · refine z_iconst (v := (0 : Int32)) X.1 dX9_in_14 (by decide) ?_
    exact z_zret X dX9_in_15 (Or.inl rfl) h
  · refine z_iload_n (i := 0) X.1 dX9_in_5 0 rfl rfl ?_
    refine z_iload_n (i := 2) X.1 dX9_in_6 2 rfl rfl ?_
    refine z_icmp_gt (tgt := 14) X.1 dX9_in_7 (by decide) h (fun q1465 h => ?_) (fun q1465 h => ?_)
    · refine z_iconst (v := (0 : Int32)) X.1 dX9_in_14 (by decide) ?_
      exact z_zret X dX9_in_15 (Or.inl rfl) h
    · refine z_iconst (v := (1 : Int32)) X.1 dX9_in_10 (by decide) ?_
      refine z_goto (tgt := 15) X.1 dX9_in_11 (by decide) ?_
      exact z_zret X dX9_in_15 (Or.inr rfl) h
theorem C_X9_in {ζ : zW} (hZ : zDis ζ zM) {v0 : Int32} {v1 : Int32} {v2 : Int32} {σ σ' : S3} {r : Int32} (h : F_X9_in v0 v1 v2 σ = some (r, σ')) : zMet ζ zM 0 yX9_in cX9_in 3 (some .boolean) [.int v0, .int v1, .int v2] σ (some (.int r)) σ' :=
  zMet_of pn_X9 hZ (Nat.le_of_ble_eq_true rfl) (fun κ e X => by subst e; exact B_X9_in_0 X h)
noncomputable def F_X9_has (v0 : Int32) (v1 : Int32) (σ : S3) : R3 :=
  if ((v0 >>> (v1 &&& 31)) &&& (1 : Int32)) = (1 : Int32) then (some ((1 : Int32), σ))
  else (some ((0 : Int32), σ))
set_option maxHeartbeats 4000000 in
set_option maxRecDepth 100000 in
theorem B_X9_has_0 {κ : zT} {σ' : S3} {r : Int32} (X : zC κ zM RX9 cX9_has 2 (some .boolean) 0 (some (.int r)) σ') {v0 : Int32} {v1 : Int32} {σ : S3} (h : F_X9_has v0 v1 σ = some (r, σ')) : Z κ 2 (zM (ze κ.1) σ) [(0, .int v0), (1, .int v1)] 0 [] := by
  unfold F_X9_has at h
  refine z_iload_n (i := 0) X.1 dX9_has_0 0 rfl rfl ?_
  refine z_iload_n (i := 1) X.1 dX9_has_1 1 rfl rfl ?_
  refine z_ishr X.1 dX9_has_2 ?_
  refine z_iconst (v := (1 : Int32)) X.1 dX9_has_3 (by decide) ?_
  refine z_iand X.1 dX9_has_4 ?_
  refine z_iconst (v := (1 : Int32)) X.1 dX9_has_5 (by decide) ?_
  refine z_icmp_ne (tgt := 13) X.1 dX9_has_6 (by decide) h (fun q1466 h => ?_) (fun q1466 h => ?_)
  · refine z_iconst (v := (0 : Int32)) X.1 dX9_has_13 (by decide) ?_
    exact z_zret X dX9_has_14 (Or.inl rfl) h
  · refine z_iconst (v := (1 : Int32)) X.1 dX9_has_9 (by decide) ?_
    refine z_goto (tgt := 14) X.1 dX9_has_10 (by decide) ?_
    exact z_zret X dX9_has_14 (Or.inr rfl) h
theorem C_X9_has {ζ : zW} (hZ : zDis ζ zM) {v0 : Int32} {v1 : Int32} {σ σ' : S3} {r : Int32} (h : F_X9_has v0 v1 σ = some (r, σ')) : zMet ζ zM 0 yX9_has cX9_has 2 (some .boolean) [.int v0, .int v1] σ (some (.int r)) σ' :=
  zMet_of pn_X9 hZ (Nat.le_of_ble_eq_true rfl) (fun κ e X => by subst e; exact B_X9_has_0 X h)
noncomputable def Fb_X9_ones_4 (K4 : Int32 → Int32 → S3 → R3) (v1 : Int32) (v2 : Int32) (σ : S3) : R3 :=
  if v2 = (0 : Int32) then (some (v1, σ))
  else (nm (v1 + (1 : Int32)) (fun x1468 => nm (v2 &&& (v2 - (1 : Int32))) (fun x1469 => K4 x1468 x1469 σ)))
noncomputable def F_X9_ones_4 (n : Nat) : Int32 → Int32 → S3 → R3 := zl2 (Fb_X9_ones_4) n
set_option maxHeartbeats 4000000 in
set_option maxRecDepth 100000 in
theorem B_X9_ones_4 {κ : zT} {σ' : S3} {r : Int32} (X : zC κ zM RX9 cX9_ones 3 (some .int) 0 (some (.int r)) σ') : ∀ (n : Nat) (v1 : Int32) (v2 : Int32) (σ : S3), F_X9_ones_4 n v1 v2 σ = some (r, σ') → Z κ 3 (zM (ze κ.1) σ) [(1, .int v1), (2, .int v2)] 4 [] := by
  intro n
  induction n with
  | zero =>
    intro v1 v2 σ h
    cases (show (none : R3) = some (r, σ') from h)
  | succ n ih =>
    intro v1 v2 σ h
    have hK4 := ih
    have h : Fb_X9_ones_4 (F_X9_ones_4 n) v1 v2 σ = some (r, σ') := h
    unfold Fb_X9_ones_4 at h
    refine z_iload_n (i := 2) X.1 dX9_ones_4 1 rfl rfl ?_
    refine z_if_eq (tgt := 20) X.1 dX9_ones_5 (by decide) h (fun q1467 h => ?_) (fun q1467 h => ?_)
    · refine z_iload_n (i := 1) X.1 dX9_ones_20 0 rfl rfl ?_
      exact z_iret X dX9_ones_21 h
    · refine z_iinc_m (v := (1 : Int32)) (lv' := fun x1468 => [(1, .int x1468), (2, .int v2)]) X.1 dX9_ones_8 0 rfl (by decide) (by decide) (fun _ => rfl) h (fun x1468 h => ?_)
      refine z_iload_n (i := 2) X.1 dX9_ones_11 1 rfl rfl ?_
      refine z_iload_n (i := 2) X.1 dX9_ones_12 1 rfl rfl ?_
      refine z_iconst (v := (1 : Int32)) X.1 dX9_ones_13 (by decide) ?_
      refine z_isub X.1 dX9_ones_14 ?_
      refine z_iand X.1 dX9_ones_15 ?_
      refine z_istore_nn (i := 2) (lv' := fun x1469 => [(2, .int x1469), (1, .int x1468)]) X.1 dX9_ones_16 rfl (by decide) (fun _ => rfl) h (fun x1469 h => ?_)
      refine z_goto (tgt := 4) X.1 dX9_ones_17 (by decide) ?_
      exact z_sub [1, 0] rfl (hK4 _ _ _ h)
noncomputable def F_X9_ones (v0 : Int32) (σ : S3) : R3 :=
  F_X9_ones_4 zF (0 : Int32) v0 σ
set_option maxHeartbeats 4000000 in
set_option maxRecDepth 100000 in
theorem B_X9_ones_0 {κ : zT} {σ' : S3} {r : Int32} (X : zC κ zM RX9 cX9_ones 3 (some .int) 0 (some (.int r)) σ') {v0 : Int32} {σ : S3} (h : F_X9_ones v0 σ = some (r, σ')) : Z κ 3 (zM (ze κ.1) σ) [(0, .int v0)] 0 [] := by
  unfold F_X9_ones at h
  refine z_iconst (v := (0 : Int32)) X.1 dX9_ones_0 (by decide) ?_
  refine z_istore_n (i := 1) (lv' := [(1, .int (0 : Int32)), (0, .int v0)]) X.1 dX9_ones_1 rfl (by decide) rfl ?_
  refine z_iload_n (i := 0) X.1 dX9_ones_2 1 rfl rfl ?_
  refine z_istore_n (i := 2) (lv' := [(2, .int v0), (1, .int (0 : Int32)), (0, .int v0)]) X.1 dX9_ones_3 rfl (by decide) rfl ?_
  exact z_sub [1, 0] rfl (B_X9_ones_4 X zF _ _ _ h)
theorem C_X9_ones {ζ : zW} (hZ : zDis ζ zM) {v0 : Int32} {σ σ' : S3} {r : Int32} (h : F_X9_ones v0 σ = some (r, σ')) : zMet ζ zM 0 yX9_ones cX9_ones 3 (some .int) [.int v0] σ (some (.int r)) σ' :=
  zMet_of pn_X9 hZ (Nat.le_of_ble_eq_true rfl) (fun κ e X => by subst e; exact B_X9_ones_0 X h)
noncomputable def F_X9_isPoint (v1 : Int32) (σ : S3) : R3 :=
  bd (F_X9_in v1 (0 : Int32) ((σ 0 1 0) - (1 : Int32)) σ) (fun r1470 s1471 => ckb r1470 (some (r1470, s1471)))
set_option maxHeartbeats 4000000 in
set_option maxRecDepth 100000 in
theorem B_X9_isPoint_0 {κ : zT} {σ' : S3} {r : Int32} (X : zC κ zM RX9 cX9_isPoint 2 (some .boolean) 1 (some (.int r)) σ') {v1 : Int32} {σ : S3} (h : F_X9_isPoint v1 σ = some (r, σ')) : Z κ 2 (zM (ze κ.1) σ) [(0, .ref (zo κ.1 0)), (1, .int v1)] 0 [] := by
  unfold F_X9_isPoint at h
  refine z_iload_n (i := 1) X.1 dX9_isPoint_0 1 rfl rfl ?_
  refine z_iconst (v := (0 : Int32)) X.1 dX9_isPoint_1 (by decide) ?_
  refine z_aload_n (i := 0) X.1 dX9_isPoint_2 0 rfl rfl ?_
  refine g_X9_points X.1 tw806 dX9_isPoint_3 ?_
  refine z_iconst (v := (1 : Int32)) X.1 dX9_isPoint_6 (by decide) ?_
  refine z_isub X.1 dX9_isPoint_7 ?_
  obtain ⟨r1470, s1471, hc1472, h⟩ := bd_inv h
  refine cl_X9_68 (d1 := 0) (As := [.int v1, .int (0 : Int32), .int ((σ 0 1 0) - (1 : Int32))]) (rest := []) X.1 (by decide) (C_X9_in X.2.1 hc1472) rfl rfl (Nat.le_of_ble_eq_true rfl) dX9_isPoint_8 ?_
  obtain ⟨hv, h⟩ := ckb_inv h
  exact z_zret X dX9_isPoint_11 hv h
theorem C_X9_isPoint {ζ : zW} (hZ : zDis ζ zM) {v1 : Int32} {σ σ' : S3} {r : Int32} (h : F_X9_isPoint v1 σ = some (r, σ')) : zMet ζ zM 1 yX9_isPoint cX9_isPoint 2 (some .boolean) [.ref (zo ζ 0), .int v1] σ (some (.int r)) σ' :=
  zMet_of pn_X9 hZ (Nat.le_of_ble_eq_true rfl) (fun κ e X => by subst e; exact B_X9_isPoint_0 X h)
noncomputable def F_X9_isLine (v1 : Int32) (σ : S3) : R3 :=
  bd (F_X9_in v1 (0 : Int32) ((σ 0 2 0) - (1 : Int32)) σ) (fun r1473 s1474 => ckb r1473 (some (r1473, s1474)))
set_option maxHeartbeats 4000000 in
set_option maxRecDepth 100000 in
theorem B_X9_isLine_0 {κ : zT} {σ' : S3} {r : Int32} (X : zC κ zM RX9 cX9_isLine 2 (some .boolean) 1 (some (.int r)) σ') {v1 : Int32} {σ : S3} (h : F_X9_isLine v1 σ = some (r, σ')) : Z κ 2 (zM (ze κ.1) σ) [(0, .ref (zo κ.1 0)), (1, .int v1)] 0 [] := by
  unfold F_X9_isLine at h
  refine z_iload_n (i := 1) X.1 dX9_isLine_0 1 rfl rfl ?_
  refine z_iconst (v := (0 : Int32)) X.1 dX9_isLine_1 (by decide) ?_
  refine z_aload_n (i := 0) X.1 dX9_isLine_2 0 rfl rfl ?_
  refine g_X9_lines X.1 tw807 dX9_isLine_3 ?_
  refine z_iconst (v := (1 : Int32)) X.1 dX9_isLine_6 (by decide) ?_
  refine z_isub X.1 dX9_isLine_7 ?_
  obtain ⟨r1473, s1474, hc1475, h⟩ := bd_inv h
  refine cl_X9_68 (d1 := 0) (As := [.int v1, .int (0 : Int32), .int ((σ 0 2 0) - (1 : Int32))]) (rest := []) X.1 (by decide) (C_X9_in X.2.1 hc1475) rfl rfl (Nat.le_of_ble_eq_true rfl) dX9_isLine_8 ?_
  obtain ⟨hv, h⟩ := ckb_inv h
  exact z_zret X dX9_isLine_11 hv h
theorem C_X9_isLine {ζ : zW} (hZ : zDis ζ zM) {v1 : Int32} {σ σ' : S3} {r : Int32} (h : F_X9_isLine v1 σ = some (r, σ')) : zMet ζ zM 1 yX9_isLine cX9_isLine 2 (some .boolean) [.ref (zo ζ 0), .int v1] σ (some (.int r)) σ' :=
  zMet_of pn_X9 hZ (Nat.le_of_ble_eq_true rfl) (fun κ e X => by subst e; exact B_X9_isLine_0 X h)
noncomputable def F_X9_all (σ : S3) : R3 :=
  some (((1 : Int32) <<< ((σ 0 1 0) &&& 31)) - (1 : Int32), σ)
set_option maxHeartbeats 4000000 in
set_option maxRecDepth 100000 in
theorem B_X9_all_0 {κ : zT} {σ' : S3} {r : Int32} (X : zC κ zM RX9 cX9_all 1 (some .int) 0 (some (.int r)) σ') {σ : S3} (h : F_X9_all σ = some (r, σ')) : Z κ 1 (zM (ze κ.1) σ) [(0, .ref (zo κ.1 0))] 0 [] := by
  unfold F_X9_all at h
  refine z_iconst (v := (1 : Int32)) X.1 dX9_all_0 (by decide) ?_
  refine z_aload_n (i := 0) X.1 dX9_all_1 0 rfl rfl ?_
  refine g_X9_points X.1 tw806 dX9_all_2 ?_
  refine z_ishl X.1 dX9_all_5 ?_
  refine z_iconst (v := (1 : Int32)) X.1 dX9_all_6 (by decide) ?_
  refine z_isub X.1 dX9_all_7 ?_
  exact z_iret X dX9_all_8 h
theorem C_X9_all {ζ : zW} (hZ : zDis ζ zM) {σ σ' : S3} {r : Int32} (h : F_X9_all  σ = some (r, σ')) : zMet ζ zM 0 yX9_all cX9_all 1 (some .int) [.ref (zo ζ 0)] σ (some (.int r)) σ' :=
  zMet_of pn_X9 hZ (Nat.le_of_ble_eq_true rfl) (fun κ e X => by subst e; exact B_X9_all_0 X h)
noncomputable def F_X9_isNew (σ : S3) : R3 :=
  nm (up σ 0 11 0 (0 : Int32)) (fun s1476 => nm (up s1476 0 22 0 (-1 : Int32)) (fun s1477 => some ((0 : Int32), s1477)))
set_option maxHeartbeats 4000000 in
set_option maxRecDepth 100000 in
theorem B_X9_isNew_0 {κ : zT} {σ' : S3} {r : Int32} (X : zC κ zM RX9 cX9_isNew 1 none 0 none σ') {σ : S3} (h : F_X9_isNew σ = some (r, σ')) : Z κ 1 (zM (ze κ.1) σ) [(0, .ref (zo κ.1 0))] 0 [] := by
  unfold F_X9_isNew at h
  refine z_aload_n (i := 0) X.1 dX9_isNew_0 0 rfl rfl ?_
  refine z_iconst (v := (0 : Int32)) X.1 dX9_isNew_1 (by decide) ?_
  refine p_X9_hasGame X.1 X.2.1 tw816 (Or.inl rfl) dX9_isNew_2 h (fun s1476 h => ?_)
  refine z_aload_n (i := 0) X.1 dX9_isNew_5 0 rfl rfl ?_
  refine z_iconst (v := (-1 : Int32)) X.1 dX9_isNew_6 (by decide) ?_
  refine p_X9_tabled X.1 X.2.1 tw827 dX9_isNew_7 h (fun s1477 h => ?_)
  exact z_vret X dX9_isNew_10 h
theorem C_X9_isNew {ζ : zW} (hZ : zDis ζ zM) {σ σ' : S3} {r : Int32} (h : F_X9_isNew  σ = some (r, σ')) : zMet ζ zM 0 yX9_isNew cX9_isNew 1 none [.ref (zo ζ 0)] σ none σ' :=
  zMet_of pn_X9 hZ (Nat.le_of_ble_eq_true rfl) (fun κ e X => by subst e; exact B_X9_isNew_0 X h)
noncomputable def F_X9_points (v1 : Int32) (σ : S3) : R3 :=
  bd (F_X9_in v1 (1 : Int32) (10 : Int32) σ) (fun r1478 s1479 => if r1478 = (0 : Int32) then (bd (F_X9_no (1 : Int32) s1479) (fun r1488 s1489 => some (r1488, s1489)))
  else (nm (s1479 0 1 0) (fun x1482 => nm (up s1479 0 1 0 v1) (fun s1483 => nm (up s1483 0 2 0 (0 : Int32)) (fun s1484 => bd (F_X9_isNew s1484) (fun r1485 s1486 => some (x1482, s1486)))))))
set_option maxHeartbeats 4000000 in
set_option maxRecDepth 100000 in
theorem B_X9_points_0 {κ : zT} {σ' : S3} {r : Int32} (X : zC κ zM RX9 cX9_points 3 (some .int) 1 (some (.int r)) σ') {v1 : Int32} {σ : S3} (h : F_X9_points v1 σ = some (r, σ')) : Z κ 3 (zM (ze κ.1) σ) [(0, .ref (zo κ.1 0)), (1, .int v1)] 0 [] := by
  unfold F_X9_points at h
  refine z_iload_n (i := 1) X.1 dX9_points_0 1 rfl rfl ?_
  refine z_iconst (v := (1 : Int32)) X.1 dX9_points_1 (by decide) ?_
  refine z_bipush (v := (10 : Int32)) X.1 dX9_points_2 (by decide) ?_
  obtain ⟨r1478, s1479, hc1480, h⟩ := bd_inv h
  refine cl_X9_68 (d1 := 0) (As := [.int v1, .int (1 : Int32), .int (10 : Int32)]) (rest := []) X.1 (by decide) (C_X9_in X.2.1 hc1480) rfl rfl (Nat.le_of_ble_eq_true rfl) dX9_points_4 ?_
  refine z_if_ne (tgt := 16) X.1 dX9_points_7 (by decide) h (fun q1481 h => ?_) (fun q1481 h => ?_)
  · refine z_aload_n (i := 0) X.1 dX9_points_16 0 rfl rfl ?_
    refine g_X9_points X.1 tw806 dX9_points_17 ?_
    refine z_istore_nn (i := 2) (lv' := fun x1482 => [(2, .int x1482), (0, .ref (zo κ.1 0)), (1, .int v1)]) X.1 dX9_points_20 rfl (by decide) (fun _ => rfl) h (fun x1482 h => ?_)
    refine z_aload_n (i := 0) X.1 dX9_points_21 1 rfl rfl ?_
    refine z_iload_n (i := 1) X.1 dX9_points_22 2 rfl rfl ?_
    refine p_X9_points X.1 X.2.1 tw806 dX9_points_23 h (fun s1483 h => ?_)
    refine z_aload_n (i := 0) X.1 dX9_points_26 1 rfl rfl ?_
    refine z_iconst (v := (0 : Int32)) X.1 dX9_points_27 (by decide) ?_
    refine p_X9_lines X.1 X.2.1 tw807 dX9_points_28 h (fun s1484 h => ?_)
    refine z_aload_n (i := 0) X.1 dX9_points_31 1 rfl rfl ?_
    obtain ⟨r1485, s1486, hc1487, h⟩ := bd_inv h
    refine cl_X9_83 (d1 := 0) (b := zo κ.1 0) (r := 0) (As := []) (rest := []) X.1 (by decide) (C_X9_isNew X.2.1 hc1487) rcX9 rfl rfl (Nat.le_of_ble_eq_true rfl) dX9_points_32 ?_
    refine z_iload_n (i := 2) X.1 dX9_points_35 0 rfl rfl ?_
    exact z_iret X dX9_points_36 h
  · refine z_aload_n (i := 0) X.1 dX9_points_10 0 rfl rfl ?_
    refine z_iconst (v := (1 : Int32)) X.1 dX9_points_11 (by decide) ?_
    obtain ⟨r1488, s1489, hc1490, h⟩ := bd_inv h
    refine cl_X9_79 (d1 := 0) (b := zo κ.1 0) (As := [.int (1 : Int32)]) (rest := []) X.1 (by decide) (C_X9_no X.2.1 hc1490) rcX9 rfl rfl (Nat.le_of_ble_eq_true rfl) dX9_points_12 ?_
    exact z_iret X dX9_points_15 h
theorem C_X9_points {ζ : zW} (hZ : zDis ζ zM) {v1 : Int32} {σ σ' : S3} {r : Int32} (h : F_X9_points v1 σ = some (r, σ')) : zMet ζ zM 1 yX9_points cX9_points 3 (some .int) [.ref (zo ζ 0), .int v1] σ (some (.int r)) σ' :=
  zMet_of pn_X9 hZ (Nat.le_of_ble_eq_true rfl) (fun κ e X => by subst e; exact B_X9_points_0 X h)
noncomputable def F_X9_comes (v1 : Int32) (v2 : Int32) (v3 : Int32) (σ : S3) : R3 :=
  ck (σ 0 2 0) 12 (nm (up σ 0 3 (ix (σ 0 2 0)) v1) (fun s1491 => ck (s1491 0 2 0) 12 (nm (up s1491 0 4 (ix (s1491 0 2 0)) v2) (fun s1492 => ck (s1492 0 2 0) 12 (nm (up s1492 0 5 (ix (s1492 0 2 0)) v3) (fun s1493 => nm (up s1493 0 2 0 ((s1493 0 2 0) + (1 : Int32))) (fun s1494 => some ((0 : Int32), s1494))))))))
set_option maxHeartbeats 4000000 in
set_option maxRecDepth 100000 in
theorem B_X9_comes_0 {κ : zT} {σ' : S3} {r : Int32} (X : zC κ zM RX9 cX9_comes 4 none 0 none σ') {v1 : Int32} {v2 : Int32} {v3 : Int32} {σ : S3} (h : F_X9_comes v1 v2 v3 σ = some (r, σ')) : Z κ 4 (zM (ze κ.1) σ) [(0, .ref (zo κ.1 0)), (1, .int v1), (2, .int v2), (3, .int v3)] 0 [] := by
  unfold F_X9_comes at h
  refine z_aload_n (i := 0) X.1 dX9_comes_0 0 rfl rfl ?_
  refine g_X9_from X.1 tw808 dX9_comes_1 ?_
  refine z_aload_n (i := 0) X.1 dX9_comes_4 0 rfl rfl ?_
  refine g_X9_lines X.1 tw807 dX9_comes_5 ?_
  refine z_iload_n (i := 1) X.1 dX9_comes_8 1 rfl rfl ?_
  refine as_X9_from X.1 X.2.1 dX9_comes_9 h (fun s1491 h => ?_)
  refine z_aload_n (i := 0) X.1 dX9_comes_10 0 rfl rfl ?_
  refine g_X9_to X.1 tw809 dX9_comes_11 ?_
  refine z_aload_n (i := 0) X.1 dX9_comes_14 0 rfl rfl ?_
  refine g_X9_lines X.1 tw807 dX9_comes_15 ?_
  refine z_iload_n (i := 2) X.1 dX9_comes_18 2 rfl rfl ?_
  refine as_X9_to X.1 X.2.1 dX9_comes_19 h (fun s1492 h => ?_)
  refine z_aload_n (i := 0) X.1 dX9_comes_20 0 rfl rfl ?_
  refine g_X9_ways X.1 tw810 dX9_comes_21 ?_
  refine z_aload_n (i := 0) X.1 dX9_comes_24 0 rfl rfl ?_
  refine g_X9_lines X.1 tw807 dX9_comes_25 ?_
  refine z_iload_n (i := 3) X.1 dX9_comes_28 3 rfl rfl ?_
  refine as_X9_ways X.1 X.2.1 dX9_comes_29 h (fun s1493 h => ?_)
  refine z_aload_n (i := 0) X.1 dX9_comes_30 0 rfl rfl ?_
  refine z_dup X.1 dX9_comes_31 rfl ?_
  refine g_X9_lines X.1 tw807 dX9_comes_32 ?_
  refine z_iconst (v := (1 : Int32)) X.1 dX9_comes_35 (by decide) ?_
  refine z_iadd X.1 dX9_comes_36 ?_
  refine p_X9_lines X.1 X.2.1 tw807 dX9_comes_37 h (fun s1494 h => ?_)
  exact z_vret X dX9_comes_40 h
theorem C_X9_comes {ζ : zW} (hZ : zDis ζ zM) {v1 : Int32} {v2 : Int32} {v3 : Int32} {σ σ' : S3} {r : Int32} (h : F_X9_comes v1 v2 v3 σ = some (r, σ')) : zMet ζ zM 0 yX9_comes cX9_comes 4 none [.ref (zo ζ 0), .int v1, .int v2, .int v3] σ none σ' :=
  zMet_of pn_X9 hZ (Nat.le_of_ble_eq_true rfl) (fun κ e X => by subst e; exact B_X9_comes_0 X h)
noncomputable def F_X9_line (v1 : Int32) (v2 : Int32) (v3 : Int32) (σ : S3) : R3 :=
  bd (F_X9_isPoint v1 σ) (fun r1495 s1496 => if r1495 = (0 : Int32) then (bd (F_X9_no (1 : Int32) s1496) (fun r1499 s1500 => some (r1499, s1500)))
  else (bd (F_X9_isPoint v2 s1496) (fun r1502 s1503 => if r1502 = (0 : Int32) then (bd (F_X9_no (1 : Int32) s1503) (fun r1506 s1507 => some (r1506, s1507)))
  else (bd (F_X9_in v3 (0 : Int32) (2 : Int32) s1503) (fun r1509 s1510 => if r1509 = (0 : Int32) then (bd (F_X9_no (1 : Int32) s1510) (fun r1527 s1528 => some (r1527, s1528)))
  else (if v1 = v2 then (bd (F_X9_no (5 : Int32) s1510) (fun r1524 s1525 => some (r1524, s1525)))
  else (if (s1510 0 2 0) = (12 : Int32) then (bd (F_X9_no (4 : Int32) s1510) (fun r1521 s1522 => some (r1521, s1522)))
  else (bd (F_X9_comes v1 v2 v3 s1510) (fun r1515 s1516 => bd (F_X9_isNew s1516) (fun r1518 s1519 => some ((s1519 0 2 0) - (1 : Int32), s1519)))))))))))
set_option maxHeartbeats 4000000 in
set_option maxRecDepth 100000 in
theorem B_X9_line_0 {κ : zT} {σ' : S3} {r : Int32} (X : zC κ zM RX9 cX9_line 4 (some .int) 2 (some (.int r)) σ') {v1 : Int32} {v2 : Int32} {v3 : Int32} {σ : S3} (h : F_X9_line v1 v2 v3 σ = some (r, σ')) : Z κ 4 (zM (ze κ.1) σ) [(0, .ref (zo κ.1 0)), (1, .int v1), (2, .int v2), (3, .int v3)] 0 [] := by
  unfold F_X9_line at h
  refine z_aload_n (i := 0) X.1 dX9_line_0 0 rfl rfl ?_
  refine z_iload_n (i := 1) X.1 dX9_line_1 1 rfl rfl ?_
  obtain ⟨r1495, s1496, hc1497, h⟩ := bd_inv h
  refine cl_X9_86 (d1 := 1) (b := zo κ.1 0) (As := [.int v1]) (rest := []) X.1 (by decide) (C_X9_isPoint X.2.1 hc1497) rcX9 rfl rfl (Nat.le_of_ble_eq_true rfl) dX9_line_2 ?_
  refine z_if_eq (tgt := 25) X.1 dX9_line_5 (by decide) h (fun q1498 h => ?_) (fun q1498 h => ?_)
  · refine z_aload_n (i := 0) X.1 dX9_line_25 0 rfl rfl ?_
    refine z_iconst (v := (1 : Int32)) X.1 dX9_line_26 (by decide) ?_
    obtain ⟨r1499, s1500, hc1501, h⟩ := bd_inv h
    refine cl_X9_79 (d1 := 0) (b := zo κ.1 0) (As := [.int (1 : Int32)]) (rest := []) X.1 (by decide) (C_X9_no X.2.1 hc1501) rcX9 rfl rfl (Nat.le_of_ble_eq_true rfl) dX9_line_27 ?_
    exact z_iret X dX9_line_30 h
  · refine z_aload_n (i := 0) X.1 dX9_line_8 0 rfl rfl ?_
    refine z_iload_n (i := 2) X.1 dX9_line_9 2 rfl rfl ?_
    obtain ⟨r1502, s1503, hc1504, h⟩ := bd_inv h
    refine cl_X9_86 (d1 := 1) (b := zo κ.1 0) (As := [.int v2]) (rest := []) X.1 (by decide) (C_X9_isPoint X.2.1 hc1504) rcX9 rfl rfl (Nat.le_of_ble_eq_true rfl) dX9_line_10 ?_
    refine z_if_eq (tgt := 25) X.1 dX9_line_13 (by decide) h (fun q1505 h => ?_) (fun q1505 h => ?_)
    · refine z_aload_n (i := 0) X.1 dX9_line_25 0 rfl rfl ?_
      refine z_iconst (v := (1 : Int32)) X.1 dX9_line_26 (by decide) ?_
      obtain ⟨r1506, s1507, hc1508, h⟩ := bd_inv h
      refine cl_X9_79 (d1 := 0) (b := zo κ.1 0) (As := [.int (1 : Int32)]) (rest := []) X.1 (by decide) (C_X9_no X.2.1 hc1508) rcX9 rfl rfl (Nat.le_of_ble_eq_true rfl) dX9_line_27 ?_
      exact z_iret X dX9_line_30 h
    · refine z_iload_n (i := 3) X.1 dX9_line_16 3 rfl rfl ?_
      refine z_iconst (v := (0 : Int32)) X.1 dX9_line_17 (by decide) ?_
      refine z_iconst (v := (2 : Int32)) X.1 dX9_line_18 (by decide) ?_
      obtain ⟨r1509, s1510, hc1511, h⟩ := bd_inv h
      refine cl_X9_68 (d1 := 0) (As := [.int v3, .int (0 : Int32), .int (2 : Int32)]) (rest := []) X.1 (by decide) (C_X9_in X.2.1 hc1511) rfl rfl (Nat.le_of_ble_eq_true rfl) dX9_line_19 ?_
      refine z_if_ne (tgt := 31) X.1 dX9_line_22 (by decide) h (fun q1512 h => ?_) (fun q1512 h => ?_)
      · refine z_iload_n (i := 1) X.1 dX9_line_31 1 rfl rfl ?_
        refine z_iload_n (i := 2) X.1 dX9_line_32 2 rfl rfl ?_
        refine z_icmp_ne (tgt := 42) X.1 dX9_line_33 (by decide) h (fun q1513 h => ?_) (fun q1513 h => ?_)
        · refine z_aload_n (i := 0) X.1 dX9_line_42 0 rfl rfl ?_
          refine g_X9_lines X.1 tw807 dX9_line_43 ?_
          refine z_bipush (v := (12 : Int32)) X.1 dX9_line_46 (by decide) ?_
          refine z_icmp_ne (tgt := 57) X.1 dX9_line_48 (by decide) h (fun q1514 h => ?_) (fun q1514 h => ?_)
          · refine z_aload_n (i := 0) X.1 dX9_line_57 0 rfl rfl ?_
            refine z_iload_n (i := 1) X.1 dX9_line_58 1 rfl rfl ?_
            refine z_iload_n (i := 2) X.1 dX9_line_59 2 rfl rfl ?_
            refine z_iload_n (i := 3) X.1 dX9_line_60 3 rfl rfl ?_
            obtain ⟨r1515, s1516, hc1517, h⟩ := bd_inv h
            refine cl_X9_90 (d1 := 0) (b := zo κ.1 0) (r := 0) (As := [.int v1, .int v2, .int v3]) (rest := []) X.1 (by decide) (C_X9_comes X.2.1 hc1517) rcX9 rfl rfl (Nat.le_of_ble_eq_true rfl) dX9_line_61 ?_
            refine z_aload_n (i := 0) X.1 dX9_line_64 0 rfl rfl ?_
            obtain ⟨r1518, s1519, hc1520, h⟩ := bd_inv h
            refine cl_X9_83 (d1 := 0) (b := zo κ.1 0) (r := 0) (As := []) (rest := []) X.1 (by decide) (C_X9_isNew X.2.1 hc1520) rcX9 rfl rfl (Nat.le_of_ble_eq_true rfl) dX9_line_65 ?_
            refine z_aload_n (i := 0) X.1 dX9_line_68 0 rfl rfl ?_
            refine g_X9_lines X.1 tw807 dX9_line_69 ?_
            refine z_iconst (v := (1 : Int32)) X.1 dX9_line_72 (by decide) ?_
            refine z_isub X.1 dX9_line_73 ?_
            exact z_iret X dX9_line_74 h
          · refine z_aload_n (i := 0) X.1 dX9_line_51 0 rfl rfl ?_
            refine z_iconst (v := (4 : Int32)) X.1 dX9_line_52 (by decide) ?_
            obtain ⟨r1521, s1522, hc1523, h⟩ := bd_inv h
            refine cl_X9_79 (d1 := 0) (b := zo κ.1 0) (As := [.int (4 : Int32)]) (rest := []) X.1 (by decide) (C_X9_no X.2.1 hc1523) rcX9 rfl rfl (Nat.le_of_ble_eq_true rfl) dX9_line_53 ?_
            exact z_iret X dX9_line_56 h
        · refine z_aload_n (i := 0) X.1 dX9_line_36 0 rfl rfl ?_
          refine z_iconst (v := (5 : Int32)) X.1 dX9_line_37 (by decide) ?_
          obtain ⟨r1524, s1525, hc1526, h⟩ := bd_inv h
          refine cl_X9_79 (d1 := 0) (b := zo κ.1 0) (As := [.int (5 : Int32)]) (rest := []) X.1 (by decide) (C_X9_no X.2.1 hc1526) rcX9 rfl rfl (Nat.le_of_ble_eq_true rfl) dX9_line_38 ?_
          exact z_iret X dX9_line_41 h
      · refine z_aload_n (i := 0) X.1 dX9_line_25 0 rfl rfl ?_
        refine z_iconst (v := (1 : Int32)) X.1 dX9_line_26 (by decide) ?_
        obtain ⟨r1527, s1528, hc1529, h⟩ := bd_inv h
        refine cl_X9_79 (d1 := 0) (b := zo κ.1 0) (As := [.int (1 : Int32)]) (rest := []) X.1 (by decide) (C_X9_no X.2.1 hc1529) rcX9 rfl rfl (Nat.le_of_ble_eq_true rfl) dX9_line_27 ?_
        exact z_iret X dX9_line_30 h
theorem C_X9_line {ζ : zW} (hZ : zDis ζ zM) {v1 : Int32} {v2 : Int32} {v3 : Int32} {σ σ' : S3} {r : Int32} (h : F_X9_line v1 v2 v3 σ = some (r, σ')) : zMet ζ zM 2 yX9_line cX9_line 4 (some .int) [.ref (zo ζ 0), .int v1, .int v2, .int v3] σ (some (.int r)) σ' :=
  zMet_of pn_X9 hZ (Nat.le_of_ble_eq_true rfl) (fun κ e X => by subst e; exact B_X9_line_0 X h)
noncomputable def F_X9_way (v1 : Int32) (v2 : Int32) (σ : S3) : R3 :=
  bd (F_X9_isLine v1 σ) (fun r1530 s1531 => if r1530 = (0 : Int32) then (bd (F_X9_no (1 : Int32) s1531) (fun r1534 s1535 => some (r1534, s1535)))
  else (bd (F_X9_in v2 (0 : Int32) (2 : Int32) s1531) (fun r1537 s1538 => if r1537 = (0 : Int32) then (bd (F_X9_no (1 : Int32) s1538) (fun r1546 s1547 => some (r1546, s1547)))
  else (ck v1 12 (nm (s1538 0 5 (ix v1)) (fun x1541 => ck v1 12 (nm (up s1538 0 5 (ix v1) v2) (fun s1542 => bd (F_X9_isNew s1542) (fun r1543 s1544 => some (x1541, s1544))))))))))
set_option maxHeartbeats 4000000 in
set_option maxRecDepth 100000 in
theorem B_X9_way_0 {κ : zT} {σ' : S3} {r : Int32} (X : zC κ zM RX9 cX9_way 4 (some .int) 2 (some (.int r)) σ') {v1 : Int32} {v2 : Int32} {σ : S3} (h : F_X9_way v1 v2 σ = some (r, σ')) : Z κ 4 (zM (ze κ.1) σ) [(0, .ref (zo κ.1 0)), (1, .int v1), (2, .int v2)] 0 [] := by
  unfold F_X9_way at h
  refine z_aload_n (i := 0) X.1 dX9_way_0 0 rfl rfl ?_
  refine z_iload_n (i := 1) X.1 dX9_way_1 1 rfl rfl ?_
  obtain ⟨r1530, s1531, hc1532, h⟩ := bd_inv h
  refine cl_X9_94 (d1 := 1) (b := zo κ.1 0) (As := [.int v1]) (rest := []) X.1 (by decide) (C_X9_isLine X.2.1 hc1532) rcX9 rfl rfl (Nat.le_of_ble_eq_true rfl) dX9_way_2 ?_
  refine z_if_eq (tgt := 17) X.1 dX9_way_5 (by decide) h (fun q1533 h => ?_) (fun q1533 h => ?_)
  · refine z_aload_n (i := 0) X.1 dX9_way_17 0 rfl rfl ?_
    refine z_iconst (v := (1 : Int32)) X.1 dX9_way_18 (by decide) ?_
    obtain ⟨r1534, s1535, hc1536, h⟩ := bd_inv h
    refine cl_X9_79 (d1 := 0) (b := zo κ.1 0) (As := [.int (1 : Int32)]) (rest := []) X.1 (by decide) (C_X9_no X.2.1 hc1536) rcX9 rfl rfl (Nat.le_of_ble_eq_true rfl) dX9_way_19 ?_
    exact z_iret X dX9_way_22 h
  · refine z_iload_n (i := 2) X.1 dX9_way_8 2 rfl rfl ?_
    refine z_iconst (v := (0 : Int32)) X.1 dX9_way_9 (by decide) ?_
    refine z_iconst (v := (2 : Int32)) X.1 dX9_way_10 (by decide) ?_
    obtain ⟨r1537, s1538, hc1539, h⟩ := bd_inv h
    refine cl_X9_68 (d1 := 0) (As := [.int v2, .int (0 : Int32), .int (2 : Int32)]) (rest := []) X.1 (by decide) (C_X9_in X.2.1 hc1539) rfl rfl (Nat.le_of_ble_eq_true rfl) dX9_way_11 ?_
    refine z_if_ne (tgt := 23) X.1 dX9_way_14 (by decide) h (fun q1540 h => ?_) (fun q1540 h => ?_)
    · refine z_aload_n (i := 0) X.1 dX9_way_23 0 rfl rfl ?_
      refine g_X9_ways X.1 tw810 dX9_way_24 ?_
      refine z_iload_n (i := 1) X.1 dX9_way_27 1 rfl rfl ?_
      refine al_X9_ways X.1 dX9_way_28 h (fun h => ?_)
      refine z_istore_nn (i := 3) (lv' := fun x1541 => [(3, .int x1541), (0, .ref (zo κ.1 0)), (1, .int v1), (2, .int v2)]) X.1 dX9_way_29 rfl (by decide) (fun _ => rfl) h (fun x1541 h => ?_)
      refine z_aload_n (i := 0) X.1 dX9_way_30 1 rfl rfl ?_
      refine g_X9_ways X.1 tw810 dX9_way_31 ?_
      refine z_iload_n (i := 1) X.1 dX9_way_34 2 rfl rfl ?_
      refine z_iload_n (i := 2) X.1 dX9_way_35 3 rfl rfl ?_
      refine as_X9_ways X.1 X.2.1 dX9_way_36 h (fun s1542 h => ?_)
      refine z_aload_n (i := 0) X.1 dX9_way_37 1 rfl rfl ?_
      obtain ⟨r1543, s1544, hc1545, h⟩ := bd_inv h
      refine cl_X9_83 (d1 := 0) (b := zo κ.1 0) (r := 0) (As := []) (rest := []) X.1 (by decide) (C_X9_isNew X.2.1 hc1545) rcX9 rfl rfl (Nat.le_of_ble_eq_true rfl) dX9_way_38 ?_
      refine z_iload_n (i := 3) X.1 dX9_way_41 0 rfl rfl ?_
      exact z_iret X dX9_way_42 h
    · refine z_aload_n (i := 0) X.1 dX9_way_17 0 rfl rfl ?_
      refine z_iconst (v := (1 : Int32)) X.1 dX9_way_18 (by decide) ?_
      obtain ⟨r1546, s1547, hc1548, h⟩ := bd_inv h
      refine cl_X9_79 (d1 := 0) (b := zo κ.1 0) (As := [.int (1 : Int32)]) (rest := []) X.1 (by decide) (C_X9_no X.2.1 hc1548) rcX9 rfl rfl (Nat.le_of_ble_eq_true rfl) dX9_way_19 ?_
      exact z_iret X dX9_way_22 h
theorem C_X9_way {ζ : zW} (hZ : zDis ζ zM) {v1 : Int32} {v2 : Int32} {σ σ' : S3} {r : Int32} (h : F_X9_way v1 v2 σ = some (r, σ')) : zMet ζ zM 2 yX9_way cX9_way 4 (some .int) [.ref (zo ζ 0), .int v1, .int v2] σ (some (.int r)) σ' :=
  zMet_of pn_X9 hZ (Nat.le_of_ble_eq_true rfl) (fun κ e X => by subst e; exact B_X9_way_0 X h)
noncomputable def Fb_X9_cut_26 (K26 : Int32 → S3 → R3) (v2 : Int32) (σ : S3) : R3 :=
  if (σ 0 2 0) ≤ v2 then (bd (F_X9_isNew σ) (fun r1555 s1556 => some (s1556 0 2 0, s1556)))
  else (ck (v2 + (1 : Int32)) 12 (ck v2 12 (nm (up σ 0 3 (ix v2) (σ 0 3 (ix (v2 + (1 : Int32))))) (fun s1558 => ck (v2 + (1 : Int32)) 12 (ck v2 12 (nm (up s1558 0 4 (ix v2) (s1558 0 4 (ix (v2 + (1 : Int32))))) (fun s1559 => ck (v2 + (1 : Int32)) 12 (ck v2 12 (nm (up s1559 0 5 (ix v2) (s1559 0 5 (ix (v2 + (1 : Int32))))) (fun s1560 => nm (v2 + (1 : Int32)) (fun x1561 => K26 x1561 s1560)))))))))))
noncomputable def F_X9_cut_26 (n : Nat) : Int32 → S3 → R3 := zl1 (Fb_X9_cut_26) n
set_option maxHeartbeats 4000000 in
set_option maxRecDepth 100000 in
theorem B_X9_cut_26 {κ : zT} {σ' : S3} {r : Int32} (X : zC κ zM RX9 cX9_cut 3 (some .int) 2 (some (.int r)) σ') : ∀ (n : Nat) (v2 : Int32) (σ : S3), F_X9_cut_26 n v2 σ = some (r, σ') → Z κ 3 (zM (ze κ.1) σ) [(0, .ref (zo κ.1 0)), (2, .int v2)] 26 [] := by
  intro n
  induction n with
  | zero =>
    intro v2 σ h
    cases (show (none : R3) = some (r, σ') from h)
  | succ n ih =>
    intro v2 σ h
    have hK26 := ih
    have h : Fb_X9_cut_26 (F_X9_cut_26 n) v2 σ = some (r, σ') := h
    unfold Fb_X9_cut_26 at h
    refine z_iload_n (i := 2) X.1 dX9_cut_26 1 rfl rfl ?_
    refine z_aload_n (i := 0) X.1 dX9_cut_27 0 rfl rfl ?_
    refine g_X9_lines X.1 tw807 dX9_cut_28 ?_
    refine z_icmp_ge (tgt := 82) X.1 dX9_cut_31 (by decide) h (fun q1554 h => ?_) (fun q1554 h => ?_)
    · refine z_aload_n (i := 0) X.1 dX9_cut_82 0 rfl rfl ?_
      obtain ⟨r1555, s1556, hc1557, h⟩ := bd_inv h
      refine cl_X9_83 (d1 := 0) (b := zo κ.1 0) (r := 0) (As := []) (rest := []) X.1 (by decide) (C_X9_isNew X.2.1 hc1557) rcX9 rfl rfl (Nat.le_of_ble_eq_true rfl) dX9_cut_83 ?_
      refine z_aload_n (i := 0) X.1 dX9_cut_86 0 rfl rfl ?_
      refine g_X9_lines X.1 tw807 dX9_cut_87 ?_
      exact z_iret X dX9_cut_90 h
    · refine z_aload_n (i := 0) X.1 dX9_cut_34 0 rfl rfl ?_
      refine g_X9_from X.1 tw808 dX9_cut_35 ?_
      refine z_iload_n (i := 2) X.1 dX9_cut_38 1 rfl rfl ?_
      refine z_aload_n (i := 0) X.1 dX9_cut_39 0 rfl rfl ?_
      refine g_X9_from X.1 tw808 dX9_cut_40 ?_
      refine z_iload_n (i := 2) X.1 dX9_cut_43 1 rfl rfl ?_
      refine z_iconst (v := (1 : Int32)) X.1 dX9_cut_44 (by decide) ?_
      refine z_iadd X.1 dX9_cut_45 ?_
      refine al_X9_from X.1 dX9_cut_46 h (fun h => ?_)
      refine as_X9_from X.1 X.2.1 dX9_cut_47 h (fun s1558 h => ?_)
      refine z_aload_n (i := 0) X.1 dX9_cut_48 0 rfl rfl ?_
      refine g_X9_to X.1 tw809 dX9_cut_49 ?_
      refine z_iload_n (i := 2) X.1 dX9_cut_52 1 rfl rfl ?_
      refine z_aload_n (i := 0) X.1 dX9_cut_53 0 rfl rfl ?_
      refine g_X9_to X.1 tw809 dX9_cut_54 ?_
      refine z_iload_n (i := 2) X.1 dX9_cut_57 1 rfl rfl ?_
      refine z_iconst (v := (1 : Int32)) X.1 dX9_cut_58 (by decide) ?_
      refine z_iadd X.1 dX9_cut_59 ?_
      refine al_X9_to X.1 dX9_cut_60 h (fun h => ?_)
      refine as_X9_to X.1 X.2.1 dX9_cut_61 h (fun s1559 h => ?_)
      refine z_aload_n (i := 0) X.1 dX9_cut_62 0 rfl rfl ?_
      refine g_X9_ways X.1 tw810 dX9_cut_63 ?_
      refine z_iload_n (i := 2) X.1 dX9_cut_66 1 rfl rfl ?_
      refine z_aload_n (i := 0) X.1 dX9_cut_67 0 rfl rfl ?_
      refine g_X9_ways X.1 tw810 dX9_cut_68 ?_
      refine z_iload_n (i := 2) X.1 dX9_cut_71 1 rfl rfl ?_
      refine z_iconst (v := (1 : Int32)) X.1 dX9_cut_72 (by decide) ?_
      refine z_iadd X.1 dX9_cut_73 ?_
      refine al_X9_ways X.1 dX9_cut_74 h (fun h => ?_)
      refine as_X9_ways X.1 X.2.1 dX9_cut_75 h (fun s1560 h => ?_)
      refine z_iinc_m (v := (1 : Int32)) (lv' := fun x1561 => [(2, .int x1561), (0, .ref (zo κ.1 0))]) X.1 dX9_cut_76 1 rfl (by decide) (by decide) (fun _ => rfl) h (fun x1561 h => ?_)
      refine z_goto (tgt := 26) X.1 dX9_cut_79 (by decide) ?_
      exact z_sub [1, 0] rfl (hK26 _ _ h)
noncomputable def F_X9_cut (v1 : Int32) (σ : S3) : R3 :=
  bd (F_X9_isLine v1 σ) (fun r1549 s1550 => if r1549 = (0 : Int32) then (bd (F_X9_no (1 : Int32) s1550) (fun r1562 s1563 => some (r1562, s1563)))
  else (nm (up s1550 0 2 0 ((s1550 0 2 0) - (1 : Int32))) (fun s1553 => F_X9_cut_26 zF v1 s1553)))
set_option maxHeartbeats 4000000 in
set_option maxRecDepth 100000 in
theorem B_X9_cut_0 {κ : zT} {σ' : S3} {r : Int32} (X : zC κ zM RX9 cX9_cut 3 (some .int) 2 (some (.int r)) σ') {v1 : Int32} {σ : S3} (h : F_X9_cut v1 σ = some (r, σ')) : Z κ 3 (zM (ze κ.1) σ) [(0, .ref (zo κ.1 0)), (1, .int v1)] 0 [] := by
  unfold F_X9_cut at h
  refine z_aload_n (i := 0) X.1 dX9_cut_0 0 rfl rfl ?_
  refine z_iload_n (i := 1) X.1 dX9_cut_1 1 rfl rfl ?_
  obtain ⟨r1549, s1550, hc1551, h⟩ := bd_inv h
  refine cl_X9_94 (d1 := 1) (b := zo κ.1 0) (As := [.int v1]) (rest := []) X.1 (by decide) (C_X9_isLine X.2.1 hc1551) rcX9 rfl rfl (Nat.le_of_ble_eq_true rfl) dX9_cut_2 ?_
  refine z_if_ne (tgt := 14) X.1 dX9_cut_5 (by decide) h (fun q1552 h => ?_) (fun q1552 h => ?_)
  · refine z_aload_n (i := 0) X.1 dX9_cut_14 0 rfl rfl ?_
    refine z_dup X.1 dX9_cut_15 rfl ?_
    refine g_X9_lines X.1 tw807 dX9_cut_16 ?_
    refine z_iconst (v := (1 : Int32)) X.1 dX9_cut_19 (by decide) ?_
    refine z_isub X.1 dX9_cut_20 ?_
    refine p_X9_lines X.1 X.2.1 tw807 dX9_cut_21 h (fun s1553 h => ?_)
    refine z_iload_n (i := 1) X.1 dX9_cut_24 1 rfl rfl ?_
    refine z_istore_n (i := 2) (lv' := [(2, .int v1), (0, .ref (zo κ.1 0)), (1, .int v1)]) X.1 dX9_cut_25 rfl (by decide) rfl ?_
    exact z_sub [1, 0] rfl (B_X9_cut_26 X zF _ _ h)
  · refine z_aload_n (i := 0) X.1 dX9_cut_8 0 rfl rfl ?_
    refine z_iconst (v := (1 : Int32)) X.1 dX9_cut_9 (by decide) ?_
    obtain ⟨r1562, s1563, hc1564, h⟩ := bd_inv h
    refine cl_X9_79 (d1 := 0) (b := zo κ.1 0) (As := [.int (1 : Int32)]) (rest := []) X.1 (by decide) (C_X9_no X.2.1 hc1564) rcX9 rfl rfl (Nat.le_of_ble_eq_true rfl) dX9_cut_10 ?_
    exact z_iret X dX9_cut_13 h
theorem C_X9_cut {ζ : zW} (hZ : zDis ζ zM) {v1 : Int32} {σ σ' : S3} {r : Int32} (h : F_X9_cut v1 σ = some (r, σ')) : zMet ζ zM 2 yX9_cut cX9_cut 3 (some .int) [.ref (zo ζ 0), .int v1] σ (some (.int r)) σ' :=
  zMet_of pn_X9 hZ (Nat.le_of_ble_eq_true rfl) (fun κ e X => by subst e; exact B_X9_cut_0 X h)
noncomputable def F_X9_ends (v1 : Int32) (v2 : Int32) (σ : S3) : R3 :=
  bd (F_X9_isLine v1 σ) (fun r1565 s1566 => if r1565 = (0 : Int32) then (bd (F_X9_no (1 : Int32) s1566) (fun r1569 s1570 => some (r1569, s1570)))
  else (bd (F_X9_in v2 (0 : Int32) (2 : Int32) s1566) (fun r1572 s1573 => if r1572 = (0 : Int32) then (bd (F_X9_no (1 : Int32) s1573) (fun r1578 s1579 => some (r1578, s1579)))
  else (if v2 = (0 : Int32) then (ck v1 12 (some (s1573 0 3 (ix v1), s1573)))
  else (if v2 = (1 : Int32) then (ck v1 12 (some (s1573 0 4 (ix v1), s1573)))
  else (ck v1 12 (some (s1573 0 5 (ix v1), s1573))))))))
set_option maxHeartbeats 4000000 in
set_option maxRecDepth 100000 in
theorem B_X9_ends_0 {κ : zT} {σ' : S3} {r : Int32} (X : zC κ zM RX9 cX9_ends 3 (some .int) 2 (some (.int r)) σ') {v1 : Int32} {v2 : Int32} {σ : S3} (h : F_X9_ends v1 v2 σ = some (r, σ')) : Z κ 3 (zM (ze κ.1) σ) [(0, .ref (zo κ.1 0)), (1, .int v1), (2, .int v2)] 0 [] := by
  unfold F_X9_ends at h
  refine z_aload_n (i := 0) X.1 dX9_ends_0 0 rfl rfl ?_
  refine z_iload_n (i := 1) X.1 dX9_ends_1 1 rfl rfl ?_
  obtain ⟨r1565, s1566, hc1567, h⟩ := bd_inv h
  refine cl_X9_94 (d1 := 1) (b := zo κ.1 0) (As := [.int v1]) (rest := []) X.1 (by decide) (C_X9_isLine X.2.1 hc1567) rcX9 rfl rfl (Nat.le_of_ble_eq_true rfl) dX9_ends_2 ?_
  refine z_if_eq (tgt := 17) X.1 dX9_ends_5 (by decide) h (fun q1568 h => ?_) (fun q1568 h => ?_)
  · refine z_aload_n (i := 0) X.1 dX9_ends_17 0 rfl rfl ?_
    refine z_iconst (v := (1 : Int32)) X.1 dX9_ends_18 (by decide) ?_
    obtain ⟨r1569, s1570, hc1571, h⟩ := bd_inv h
    refine cl_X9_79 (d1 := 0) (b := zo κ.1 0) (As := [.int (1 : Int32)]) (rest := []) X.1 (by decide) (C_X9_no X.2.1 hc1571) rcX9 rfl rfl (Nat.le_of_ble_eq_true rfl) dX9_ends_19 ?_
    exact z_iret X dX9_ends_22 h
  · refine z_iload_n (i := 2) X.1 dX9_ends_8 2 rfl rfl ?_
    refine z_iconst (v := (0 : Int32)) X.1 dX9_ends_9 (by decide) ?_
    refine z_iconst (v := (2 : Int32)) X.1 dX9_ends_10 (by decide) ?_
    obtain ⟨r1572, s1573, hc1574, h⟩ := bd_inv h
    refine cl_X9_68 (d1 := 0) (As := [.int v2, .int (0 : Int32), .int (2 : Int32)]) (rest := []) X.1 (by decide) (C_X9_in X.2.1 hc1574) rfl rfl (Nat.le_of_ble_eq_true rfl) dX9_ends_11 ?_
    refine z_if_ne (tgt := 23) X.1 dX9_ends_14 (by decide) h (fun q1575 h => ?_) (fun q1575 h => ?_)
    · refine z_iload_n (i := 2) X.1 dX9_ends_23 2 rfl rfl ?_
      refine z_if_ne (tgt := 36) X.1 dX9_ends_24 (by decide) h (fun q1576 h => ?_) (fun q1576 h => ?_)
      · refine z_iload_n (i := 2) X.1 dX9_ends_36 2 rfl rfl ?_
        refine z_iconst (v := (1 : Int32)) X.1 dX9_ends_37 (by decide) ?_
        refine z_icmp_ne (tgt := 50) X.1 dX9_ends_38 (by decide) h (fun q1577 h => ?_) (fun q1577 h => ?_)
        · refine z_aload_n (i := 0) X.1 dX9_ends_50 0 rfl rfl ?_
          refine g_X9_ways X.1 tw810 dX9_ends_51 ?_
          refine z_iload_n (i := 1) X.1 dX9_ends_54 1 rfl rfl ?_
          refine al_X9_ways X.1 dX9_ends_55 h (fun h => ?_)
          exact z_iret X dX9_ends_56 h
        · refine z_aload_n (i := 0) X.1 dX9_ends_41 0 rfl rfl ?_
          refine g_X9_to X.1 tw809 dX9_ends_42 ?_
          refine z_iload_n (i := 1) X.1 dX9_ends_45 1 rfl rfl ?_
          refine al_X9_to X.1 dX9_ends_46 h (fun h => ?_)
          refine z_goto (tgt := 56) X.1 dX9_ends_47 (by decide) ?_
          exact z_iret X dX9_ends_56 h
      · refine z_aload_n (i := 0) X.1 dX9_ends_27 0 rfl rfl ?_
        refine g_X9_from X.1 tw808 dX9_ends_28 ?_
        refine z_iload_n (i := 1) X.1 dX9_ends_31 1 rfl rfl ?_
        refine al_X9_from X.1 dX9_ends_32 h (fun h => ?_)
        refine z_goto (tgt := 56) X.1 dX9_ends_33 (by decide) ?_
        exact z_iret X dX9_ends_56 h
    · refine z_aload_n (i := 0) X.1 dX9_ends_17 0 rfl rfl ?_
      refine z_iconst (v := (1 : Int32)) X.1 dX9_ends_18 (by decide) ?_
      obtain ⟨r1578, s1579, hc1580, h⟩ := bd_inv h
      refine cl_X9_79 (d1 := 0) (b := zo κ.1 0) (As := [.int (1 : Int32)]) (rest := []) X.1 (by decide) (C_X9_no X.2.1 hc1580) rcX9 rfl rfl (Nat.le_of_ble_eq_true rfl) dX9_ends_19 ?_
      exact z_iret X dX9_ends_22 h
theorem C_X9_ends {ζ : zW} (hZ : zDis ζ zM) {v1 : Int32} {v2 : Int32} {σ σ' : S3} {r : Int32} (h : F_X9_ends v1 v2 σ = some (r, σ')) : zMet ζ zM 2 yX9_ends cX9_ends 3 (some .int) [.ref (zo ζ 0), .int v1, .int v2] σ (some (.int r)) σ' :=
  zMet_of pn_X9 hZ (Nat.le_of_ble_eq_true rfl) (fun κ e X => by subst e; exact B_X9_ends_0 X h)
noncomputable def F_X9_isAt (v1 : Int32) (v2 : Int32) (σ : S3) : R3 :=
  ck v1 12 (if (σ 0 3 (ix v1)) = v2 then (some ((1 : Int32), σ))
  else (ck v1 12 (if (σ 0 4 (ix v1)) = v2 then (some ((1 : Int32), σ))
  else (some ((0 : Int32), σ)))))
set_option maxHeartbeats 4000000 in
set_option maxRecDepth 100000 in
theorem B_X9_isAt_0 {κ : zT} {σ' : S3} {r : Int32} (X : zC κ zM RX9 cX9_isAt 3 (some .boolean) 0 (some (.int r)) σ') {v1 : Int32} {v2 : Int32} {σ : S3} (h : F_X9_isAt v1 v2 σ = some (r, σ')) : Z κ 3 (zM (ze κ.1) σ) [(0, .ref (zo κ.1 0)), (1, .int v1), (2, .int v2)] 0 [] := by
  unfold F_X9_isAt at h
  refine z_aload_n (i := 0) X.1 dX9_isAt_0 0 rfl rfl ?_
  refine g_X9_from X.1 tw808 dX9_isAt_1 ?_
  refine z_iload_n (i := 1) X.1 dX9_isAt_4 1 rfl rfl ?_
  refine al_X9_from X.1 dX9_isAt_5 h (fun h => ?_)
  refine z_iload_n (i := 2) X.1 dX9_isAt_6 2 rfl rfl ?_
  refine z_icmp_eq (tgt := 20) X.1 dX9_isAt_7 (by decide) h (fun q1581 h => ?_) (fun q1581 h => ?_)
  · refine z_iconst (v := (1 : Int32)) X.1 dX9_isAt_20 (by decide) ?_
    refine z_goto (tgt := 25) X.1 dX9_isAt_21 (by decide) ?_
    exact z_zret X dX9_isAt_25 (Or.inr rfl) h
  · refine z_aload_n (i := 0) X.1 dX9_isAt_10 0 rfl rfl ?_
    refine g_X9_to X.1 tw809 dX9_isAt_11 ?_
    refine z_iload_n (i := 1) X.1 dX9_isAt_14 1 rfl rfl ?_
    refine al_X9_to X.1 dX9_isAt_15 h (fun h => ?_)
    refine z_iload_n (i := 2) X.1 dX9_isAt_16 2 rfl rfl ?_
    refine z_icmp_ne (tgt := 24) X.1 dX9_isAt_17 (by decide) h (fun q1582 h => ?_) (fun q1582 h => ?_)
    · refine z_iconst (v := (0 : Int32)) X.1 dX9_isAt_24 (by decide) ?_
      exact z_zret X dX9_isAt_25 (Or.inl rfl) h
    · refine z_iconst (v := (1 : Int32)) X.1 dX9_isAt_20 (by decide) ?_
      refine z_goto (tgt := 25) X.1 dX9_isAt_21 (by decide) ?_
      exact z_zret X dX9_isAt_25 (Or.inr rfl) h
theorem C_X9_isAt {ζ : zW} (hZ : zDis ζ zM) {v1 : Int32} {v2 : Int32} {σ σ' : S3} {r : Int32} (h : F_X9_isAt v1 v2 σ = some (r, σ')) : zMet ζ zM 0 yX9_isAt cX9_isAt 3 (some .boolean) [.ref (zo ζ 0), .int v1, .int v2] σ (some (.int r)) σ' :=
  zMet_of pn_X9 hZ (Nat.le_of_ble_eq_true rfl) (fun κ e X => by subst e; exact B_X9_isAt_0 X h)
noncomputable def F_X9_otherOf (v1 : Int32) (v2 : Int32) (σ : S3) : R3 :=
  ck v1 12 (ck v1 12 (some (((σ 0 3 (ix v1)) + (σ 0 4 (ix v1))) - v2, σ)))
set_option maxHeartbeats 4000000 in
set_option maxRecDepth 100000 in
theorem B_X9_otherOf_0 {κ : zT} {σ' : S3} {r : Int32} (X : zC κ zM RX9 cX9_otherOf 3 (some .int) 0 (some (.int r)) σ') {v1 : Int32} {v2 : Int32} {σ : S3} (h : F_X9_otherOf v1 v2 σ = some (r, σ')) : Z κ 3 (zM (ze κ.1) σ) [(0, .ref (zo κ.1 0)), (1, .int v1), (2, .int v2)] 0 [] := by
  unfold F_X9_otherOf at h
  refine z_aload_n (i := 0) X.1 dX9_otherOf_0 0 rfl rfl ?_
  refine g_X9_from X.1 tw808 dX9_otherOf_1 ?_
  refine z_iload_n (i := 1) X.1 dX9_otherOf_4 1 rfl rfl ?_
  refine al_X9_from X.1 dX9_otherOf_5 h (fun h => ?_)
  refine z_aload_n (i := 0) X.1 dX9_otherOf_6 0 rfl rfl ?_
  refine g_X9_to X.1 tw809 dX9_otherOf_7 ?_
  refine z_iload_n (i := 1) X.1 dX9_otherOf_10 1 rfl rfl ?_
  refine al_X9_to X.1 dX9_otherOf_11 h (fun h => ?_)
  refine z_iadd X.1 dX9_otherOf_12 ?_
  refine z_iload_n (i := 2) X.1 dX9_otherOf_13 2 rfl rfl ?_
  refine z_isub X.1 dX9_otherOf_14 ?_
  exact z_iret X dX9_otherOf_15 h
theorem C_X9_otherOf {ζ : zW} (hZ : zDis ζ zM) {v1 : Int32} {v2 : Int32} {σ σ' : S3} {r : Int32} (h : F_X9_otherOf v1 v2 σ = some (r, σ')) : zMet ζ zM 0 yX9_otherOf cX9_otherOf 3 (some .int) [.ref (zo ζ 0), .int v1, .int v2] σ (some (.int r)) σ' :=
  zMet_of pn_X9 hZ (Nat.le_of_ble_eq_true rfl) (fun κ e X => by subst e; exact B_X9_otherOf_0 X h)
noncomputable def F_X9_leads_29 (v1 : Int32) (v2 : Int32) (σ : S3) : R3 :=
  ck v1 12 (if (σ 0 5 (ix v1)) = (2 : Int32) then (ck v1 12 (if (σ 0 4 (ix v1)) = v2 then (some ((1 : Int32), σ))
  else (some ((0 : Int32), σ))))
  else (some ((0 : Int32), σ)))
set_option maxHeartbeats 4000000 in
set_option maxRecDepth 100000 in
theorem B_X9_leads_29 {κ : zT} {σ' : S3} {r : Int32} (X : zC κ zM RX9 cX9_leads 3 (some .boolean) 0 (some (.int r)) σ') {v1 : Int32} {v2 : Int32} {σ : S3} (h : F_X9_leads_29 v1 v2 σ = some (r, σ')) : Z κ 3 (zM (ze κ.1) σ) [(0, .ref (zo κ.1 0)), (1, .int v1), (2, .int v2)] 29 [] := by
  unfold F_X9_leads_29 at h
  refine z_aload_n (i := 0) X.1 dX9_leads_29 0 rfl rfl ?_
  refine g_X9_ways X.1 tw810 dX9_leads_30 ?_
  refine z_iload_n (i := 1) X.1 dX9_leads_33 1 rfl rfl ?_
  refine al_X9_ways X.1 dX9_leads_34 h (fun h => ?_)
  refine z_iconst (v := (2 : Int32)) X.1 dX9_leads_35 (by decide) ?_
  refine z_icmp_ne (tgt := 53) X.1 dX9_leads_36 (by decide) h (fun q1585 h => ?_) (fun q1585 h => ?_)
  · refine z_iconst (v := (0 : Int32)) X.1 dX9_leads_53 (by decide) ?_
    exact z_zret X dX9_leads_54 (Or.inl rfl) h
  · refine z_aload_n (i := 0) X.1 dX9_leads_39 0 rfl rfl ?_
    refine g_X9_to X.1 tw809 dX9_leads_40 ?_
    refine z_iload_n (i := 1) X.1 dX9_leads_43 1 rfl rfl ?_
    refine al_X9_to X.1 dX9_leads_44 h (fun h => ?_)
    refine z_iload_n (i := 2) X.1 dX9_leads_45 2 rfl rfl ?_
    refine z_icmp_ne (tgt := 53) X.1 dX9_leads_46 (by decide) h (fun q1586 h => ?_) (fun q1586 h => ?_)
    · refine z_iconst (v := (0 : Int32)) X.1 dX9_leads_53 (by decide) ?_
      exact z_zret X dX9_leads_54 (Or.inl rfl) h
    · refine z_iconst (v := (1 : Int32)) X.1 dX9_leads_49 (by decide) ?_
      refine z_goto (tgt := 54) X.1 dX9_leads_50 (by decide) ?_
      exact z_zret X dX9_leads_54 (Or.inr rfl) h
noncomputable def F_X9_leads (v1 : Int32) (v2 : Int32) (σ : S3) : R3 :=
  ck v1 12 (if (σ 0 5 (ix v1)) = (0 : Int32) then (some ((1 : Int32), σ))
  else (ck v1 12 (if (σ 0 5 (ix v1)) = (1 : Int32) then (ck v1 12 (if (σ 0 3 (ix v1)) = v2 then (some ((1 : Int32), σ))
  else (F_X9_leads_29 v1 v2 σ)))
  else (F_X9_leads_29 v1 v2 σ))))
set_option maxHeartbeats 4000000 in
set_option maxRecDepth 100000 in
theorem B_X9_leads_0 {κ : zT} {σ' : S3} {r : Int32} (X : zC κ zM RX9 cX9_leads 3 (some .boolean) 0 (some (.int r)) σ') {v1 : Int32} {v2 : Int32} {σ : S3} (h : F_X9_leads v1 v2 σ = some (r, σ')) : Z κ 3 (zM (ze κ.1) σ) [(0, .ref (zo κ.1 0)), (1, .int v1), (2, .int v2)] 0 [] := by
  unfold F_X9_leads at h
  refine z_aload_n (i := 0) X.1 dX9_leads_0 0 rfl rfl ?_
  refine g_X9_ways X.1 tw810 dX9_leads_1 ?_
  refine z_iload_n (i := 1) X.1 dX9_leads_4 1 rfl rfl ?_
  refine al_X9_ways X.1 dX9_leads_5 h (fun h => ?_)
  refine z_if_eq (tgt := 49) X.1 dX9_leads_6 (by decide) h (fun q1583 h => ?_) (fun q1583 h => ?_)
  · refine z_iconst (v := (1 : Int32)) X.1 dX9_leads_49 (by decide) ?_
    refine z_goto (tgt := 54) X.1 dX9_leads_50 (by decide) ?_
    exact z_zret X dX9_leads_54 (Or.inr rfl) h
  · refine z_aload_n (i := 0) X.1 dX9_leads_9 0 rfl rfl ?_
    refine g_X9_ways X.1 tw810 dX9_leads_10 ?_
    refine z_iload_n (i := 1) X.1 dX9_leads_13 1 rfl rfl ?_
    refine al_X9_ways X.1 dX9_leads_14 h (fun h => ?_)
    refine z_iconst (v := (1 : Int32)) X.1 dX9_leads_15 (by decide) ?_
    refine z_icmp_ne (tgt := 29) X.1 dX9_leads_16 (by decide) h (fun q1584 h => ?_) (fun q1584 h => ?_)
    · exact z_sub [0, 1, 2] rfl (B_X9_leads_29 X h)
    · refine z_aload_n (i := 0) X.1 dX9_leads_19 0 rfl rfl ?_
      refine g_X9_from X.1 tw808 dX9_leads_20 ?_
      refine z_iload_n (i := 1) X.1 dX9_leads_23 1 rfl rfl ?_
      refine al_X9_from X.1 dX9_leads_24 h (fun h => ?_)
      refine z_iload_n (i := 2) X.1 dX9_leads_25 2 rfl rfl ?_
      refine z_icmp_eq (tgt := 49) X.1 dX9_leads_26 (by decide) h (fun q1587 h => ?_) (fun q1587 h => ?_)
      · refine z_iconst (v := (1 : Int32)) X.1 dX9_leads_49 (by decide) ?_
        refine z_goto (tgt := 54) X.1 dX9_leads_50 (by decide) ?_
        exact z_zret X dX9_leads_54 (Or.inr rfl) h
      · exact z_sub [0, 1, 2] rfl (B_X9_leads_29 X h)
theorem C_X9_leads {ζ : zW} (hZ : zDis ζ zM) {v1 : Int32} {v2 : Int32} {σ σ' : S3} {r : Int32} (h : F_X9_leads v1 v2 σ = some (r, σ')) : zMet ζ zM 0 yX9_leads cX9_leads 3 (some .boolean) [.ref (zo ζ 0), .int v1, .int v2] σ (some (.int r)) σ' :=
  zMet_of pn_X9 hZ (Nat.le_of_ble_eq_true rfl) (fun κ e X => by subst e; exact B_X9_leads_0 X h)
noncomputable def F_X9_degree_58 (K5 : Int32 → Int32 → S3 → R3) (v1 : Int32) (v2 : Int32) (v3 : Int32) (v4 : Int32) (s0 : Int32) (σ : S3) : R3 :=
  if s0 = (0 : Int32) then (nm (v3 + (0 : Int32)) (fun x1594 => nm (v4 + (1 : Int32)) (fun x1595 => K5 x1594 x1595 σ)))
  else (nm (v3 + (1 : Int32)) (fun x1596 => nm (v4 + (1 : Int32)) (fun x1597 => K5 x1596 x1597 σ)))
set_option maxHeartbeats 4000000 in
set_option maxRecDepth 100000 in
theorem B_X9_degree_58 {κ : zT} {σ' : S3} {r : Int32} (X : zC κ zM RX9 cX9_degree 6 (some .int) 1 (some (.int r)) σ') {K5 : Int32 → Int32 → S3 → R3} {v1 : Int32} {v2 : Int32} {v3 : Int32} {v4 : Int32} {s0 : Int32} {σ : S3} (hK5 : ∀ (w3 : Int32) (w4 : Int32) (s1 : S3), K5 w3 w4 s1 = some (r, σ') → Z κ 6 (zM (ze κ.1) s1) [(0, .ref (zo κ.1 0)), (1, .int v1), (2, .int v2), (3, .int w3), (4, .int w4)] 5 []) (h : F_X9_degree_58 K5 v1 v2 v3 v4 s0 σ = some (r, σ')) : Z κ 6 (zM (ze κ.1) σ) [(0, .ref (zo κ.1 0)), (1, .int v1), (2, .int v2), (3, .int v3), (4, .int v4)] 58 [.int s0] := by
  unfold F_X9_degree_58 at h
  refine z_istore (i := 5) (lv' := [(5, .int s0), (0, .ref (zo κ.1 0)), (1, .int v1), (2, .int v2), (3, .int v3), (4, .int v4)]) X.1 dX9_degree_58 (by decide) rfl ?_
  refine z_iload_n (i := 3) X.1 dX9_degree_60 4 rfl rfl ?_
  refine z_iload X.1 dX9_degree_61 0 rfl ?_
  refine z_if_eq (tgt := 70) X.1 dX9_degree_63 (by decide) h (fun q1593 h => ?_) (fun q1593 h => ?_)
  · refine z_iconst (v := (0 : Int32)) X.1 dX9_degree_70 (by decide) ?_
    refine z_iadd X.1 dX9_degree_71 ?_
    refine z_istore_nn (i := 3) (lv' := fun x1594 => [(3, .int x1594), (5, .int s0), (0, .ref (zo κ.1 0)), (1, .int v1), (2, .int v2), (4, .int v4)]) X.1 dX9_degree_72 rfl (by decide) (fun _ => rfl) h (fun x1594 h => ?_)
    refine z_iinc_m (v := (1 : Int32)) (lv' := fun x1595 => [(4, .int x1595), (3, .int x1594), (5, .int s0), (0, .ref (zo κ.1 0)), (1, .int v1), (2, .int v2)]) X.1 dX9_degree_73 5 rfl (by decide) (by decide) (fun _ => rfl) h (fun x1595 h => ?_)
    refine z_goto (tgt := 5) X.1 dX9_degree_76 (by decide) ?_
    exact z_sub [3, 4, 5, 1, 0] rfl (hK5 _ _ _ h)
  · refine z_iconst (v := (1 : Int32)) X.1 dX9_degree_66 (by decide) ?_
    refine z_goto (tgt := 71) X.1 dX9_degree_67 (by decide) ?_
    refine z_iadd X.1 dX9_degree_71 ?_
    refine z_istore_nn (i := 3) (lv' := fun x1596 => [(3, .int x1596), (5, .int s0), (0, .ref (zo κ.1 0)), (1, .int v1), (2, .int v2), (4, .int v4)]) X.1 dX9_degree_72 rfl (by decide) (fun _ => rfl) h (fun x1596 h => ?_)
    refine z_iinc_m (v := (1 : Int32)) (lv' := fun x1597 => [(4, .int x1597), (3, .int x1596), (5, .int s0), (0, .ref (zo κ.1 0)), (1, .int v1), (2, .int v2)]) X.1 dX9_degree_73 5 rfl (by decide) (by decide) (fun _ => rfl) h (fun x1597 h => ?_)
    refine z_goto (tgt := 5) X.1 dX9_degree_76 (by decide) ?_
    exact z_sub [3, 4, 5, 1, 0] rfl (hK5 _ _ _ h)
noncomputable def F_X9_degree_53 (K5 : Int32 → Int32 → S3 → R3) (v1 : Int32) (v2 : Int32) (v3 : Int32) (v4 : Int32) (σ : S3) : R3 :=
  F_X9_degree_58 K5 v1 v2 v3 v4 (1 : Int32) σ
set_option maxHeartbeats 4000000 in
set_option maxRecDepth 100000 in
theorem B_X9_degree_53 {κ : zT} {σ' : S3} {r : Int32} (X : zC κ zM RX9 cX9_degree 6 (some .int) 1 (some (.int r)) σ') {K5 : Int32 → Int32 → S3 → R3} {v1 : Int32} {v2 : Int32} {v3 : Int32} {v4 : Int32} {σ : S3} (hK5 : ∀ (w3 : Int32) (w4 : Int32) (s1 : S3), K5 w3 w4 s1 = some (r, σ') → Z κ 6 (zM (ze κ.1) s1) [(0, .ref (zo κ.1 0)), (1, .int v1), (2, .int v2), (3, .int w3), (4, .int w4)] 5 []) (h : F_X9_degree_53 K5 v1 v2 v3 v4 σ = some (r, σ')) : Z κ 6 (zM (ze κ.1) σ) [(0, .ref (zo κ.1 0)), (1, .int v1), (2, .int v2), (3, .int v3), (4, .int v4)] 53 [] := by
  unfold F_X9_degree_53 at h
  refine z_iconst (v := (1 : Int32)) X.1 dX9_degree_53 (by decide) ?_
  refine z_goto (tgt := 58) X.1 dX9_degree_54 (by decide) ?_
  exact z_sub [0, 1, 2, 3, 4] rfl (B_X9_degree_58 X hK5 h)
noncomputable def F_X9_degree_47 (K5 : Int32 → Int32 → S3 → R3) (v1 : Int32) (v2 : Int32) (v3 : Int32) (v4 : Int32) (s0 : Int32) (s1 : Int32) (σ : S3) : R3 :=
  bd (F_X9_leads s1 s0 σ) (fun r1603 s1604 => if r1603 = (0 : Int32) then (F_X9_degree_58 K5 v1 v2 v3 v4 (0 : Int32) s1604)
  else (F_X9_degree_53 K5 v1 v2 v3 v4 s1604))
set_option maxHeartbeats 4000000 in
set_option maxRecDepth 100000 in
theorem B_X9_degree_47 {κ : zT} {σ' : S3} {r : Int32} (X : zC κ zM RX9 cX9_degree 6 (some .int) 1 (some (.int r)) σ') {K5 : Int32 → Int32 → S3 → R3} {v1 : Int32} {v2 : Int32} {v3 : Int32} {v4 : Int32} {s0 : Int32} {s1 : Int32} {σ : S3} (hK5 : ∀ (w3 : Int32) (w4 : Int32) (s1 : S3), K5 w3 w4 s1 = some (r, σ') → Z κ 6 (zM (ze κ.1) s1) [(0, .ref (zo κ.1 0)), (1, .int v1), (2, .int v2), (3, .int w3), (4, .int w4)] 5 []) (h : F_X9_degree_47 K5 v1 v2 v3 v4 s0 s1 σ = some (r, σ')) : Z κ 6 (zM (ze κ.1) σ) [(0, .ref (zo κ.1 0)), (1, .int v1), (2, .int v2), (3, .int v3), (4, .int v4)] 47 [.int s0, .int s1, .ref (zo κ.1 0)] := by
  unfold F_X9_degree_47 at h
  obtain ⟨r1603, s1604, hc1605, h⟩ := bd_inv h
  refine cl_X9_105 (d1 := 0) (b := zo κ.1 0) (As := [.int s1, .int s0]) (rest := []) X.1 (by decide) (C_X9_leads X.2.1 hc1605) rcX9 rfl rfl (Nat.le_of_ble_eq_true rfl) dX9_degree_47 ?_
  refine z_if_eq (tgt := 57) X.1 dX9_degree_50 (by decide) h (fun q1606 h => ?_) (fun q1606 h => ?_)
  · refine z_iconst (v := (0 : Int32)) X.1 dX9_degree_57 (by decide) ?_
    exact z_sub [0, 1, 2, 3, 4] rfl (B_X9_degree_58 X hK5 h)
  · exact z_sub [0, 1, 2, 3, 4] rfl (B_X9_degree_53 X hK5 h)
noncomputable def Fb_X9_degree_5 (v1 : Int32) (v2 : Int32) (K5 : Int32 → Int32 → S3 → R3) (v3 : Int32) (v4 : Int32) (σ : S3) : R3 :=
  if (σ 0 2 0) ≤ v4 then (some (v3, σ))
  else (bd (F_X9_isAt v4 v1 σ) (fun r1589 s1590 => if r1589 = (0 : Int32) then (F_X9_degree_58 K5 v1 v2 v3 v4 (0 : Int32) s1590)
  else (if v2 = (0 : Int32) then (F_X9_degree_53 K5 v1 v2 v3 v4 s1590)
  else (if v2 = (1 : Int32) then (F_X9_degree_47 K5 v1 v2 v3 v4 v1 v4 s1590)
  else (bd (F_X9_otherOf v4 v1 s1590) (fun r1600 s1601 => F_X9_degree_47 K5 v1 v2 v3 v4 r1600 v4 s1601))))))
noncomputable def F_X9_degree_5 (v1 : Int32) (v2 : Int32) (n : Nat) : Int32 → Int32 → S3 → R3 := zl2 (Fb_X9_degree_5 v1 v2) n
set_option maxHeartbeats 4000000 in
set_option maxRecDepth 100000 in
theorem B_X9_degree_5 {κ : zT} {σ' : S3} {r : Int32} (X : zC κ zM RX9 cX9_degree 6 (some .int) 1 (some (.int r)) σ') {v1 : Int32} {v2 : Int32} : ∀ (n : Nat) (v3 : Int32) (v4 : Int32) (σ : S3), F_X9_degree_5 v1 v2 n v3 v4 σ = some (r, σ') → Z κ 6 (zM (ze κ.1) σ) [(0, .ref (zo κ.1 0)), (1, .int v1), (2, .int v2), (3, .int v3), (4, .int v4)] 5 [] := by
  intro n
  induction n with
  | zero =>
    intro v3 v4 σ h
    cases (show (none : R3) = some (r, σ') from h)
  | succ n ih =>
    intro v3 v4 σ h
    have hK5 := ih
    have h : Fb_X9_degree_5 v1 v2 (F_X9_degree_5 v1 v2 n) v3 v4 σ = some (r, σ') := h
    unfold Fb_X9_degree_5 at h
    refine z_iload X.1 dX9_degree_5 4 rfl ?_
    refine z_aload_n (i := 0) X.1 dX9_degree_7 0 rfl rfl ?_
    refine g_X9_lines X.1 tw807 dX9_degree_8 ?_
    refine z_icmp_ge (tgt := 79) X.1 dX9_degree_11 (by decide) h (fun q1588 h => ?_) (fun q1588 h => ?_)
    · refine z_iload_n (i := 3) X.1 dX9_degree_79 3 rfl rfl ?_
      exact z_iret X dX9_degree_80 h
    · refine z_aload_n (i := 0) X.1 dX9_degree_14 0 rfl rfl ?_
      refine z_iload X.1 dX9_degree_15 4 rfl ?_
      refine z_iload_n (i := 1) X.1 dX9_degree_17 1 rfl rfl ?_
      obtain ⟨r1589, s1590, hc1591, h⟩ := bd_inv h
      refine cl_X9_97 (d1 := 0) (b := zo κ.1 0) (As := [.int v4, .int v1]) (rest := []) X.1 (by decide) (C_X9_isAt X.2.1 hc1591) rcX9 rfl rfl (Nat.le_of_ble_eq_true rfl) dX9_degree_18 ?_
      refine z_if_eq (tgt := 57) X.1 dX9_degree_21 (by decide) h (fun q1592 h => ?_) (fun q1592 h => ?_)
      · refine z_iconst (v := (0 : Int32)) X.1 dX9_degree_57 (by decide) ?_
        exact z_sub [0, 1, 2, 3, 4] rfl (B_X9_degree_58 X hK5 h)
      · refine z_iload_n (i := 2) X.1 dX9_degree_24 2 rfl rfl ?_
        refine z_if_eq (tgt := 53) X.1 dX9_degree_25 (by decide) h (fun q1598 h => ?_) (fun q1598 h => ?_)
        · exact z_sub [0, 1, 2, 3, 4] rfl (B_X9_degree_53 X hK5 h)
        · refine z_aload_n (i := 0) X.1 dX9_degree_28 0 rfl rfl ?_
          refine z_iload X.1 dX9_degree_29 4 rfl ?_
          refine z_iload_n (i := 2) X.1 dX9_degree_31 2 rfl rfl ?_
          refine z_iconst (v := (1 : Int32)) X.1 dX9_degree_32 (by decide) ?_
          refine z_icmp_ne (tgt := 40) X.1 dX9_degree_33 (by decide) h (fun q1599 h => ?_) (fun q1599 h => ?_)
          · refine z_aload_n (i := 0) X.1 dX9_degree_40 0 rfl rfl ?_
            refine z_iload X.1 dX9_degree_41 4 rfl ?_
            refine z_iload_n (i := 1) X.1 dX9_degree_43 1 rfl rfl ?_
            obtain ⟨r1600, s1601, hc1602, h⟩ := bd_inv h
            refine cl_X9_101 (d1 := 0) (b := zo κ.1 0) (As := [.int v4, .int v1]) (rest := [.int v4, .ref (zo κ.1 0)]) X.1 (by decide) (C_X9_otherOf X.2.1 hc1602) rcX9 rfl rfl (Nat.le_of_ble_eq_true rfl) dX9_degree_44 ?_
            exact z_sub [0, 1, 2, 3, 4] rfl (B_X9_degree_47 X hK5 h)
          · refine z_iload_n (i := 1) X.1 dX9_degree_36 1 rfl rfl ?_
            refine z_goto (tgt := 47) X.1 dX9_degree_37 (by decide) ?_
            exact z_sub [0, 1, 2, 3, 4] rfl (B_X9_degree_47 X hK5 h)
noncomputable def F_X9_degree (v1 : Int32) (v2 : Int32) (σ : S3) : R3 :=
  F_X9_degree_5 v1 v2 zF (0 : Int32) (0 : Int32) σ
set_option maxHeartbeats 4000000 in
set_option maxRecDepth 100000 in
theorem B_X9_degree_0 {κ : zT} {σ' : S3} {r : Int32} (X : zC κ zM RX9 cX9_degree 6 (some .int) 1 (some (.int r)) σ') {v1 : Int32} {v2 : Int32} {σ : S3} (h : F_X9_degree v1 v2 σ = some (r, σ')) : Z κ 6 (zM (ze κ.1) σ) [(0, .ref (zo κ.1 0)), (1, .int v1), (2, .int v2)] 0 [] := by
  unfold F_X9_degree at h
  refine z_iconst (v := (0 : Int32)) X.1 dX9_degree_0 (by decide) ?_
  refine z_istore_n (i := 3) (lv' := [(3, .int (0 : Int32)), (0, .ref (zo κ.1 0)), (1, .int v1), (2, .int v2)]) X.1 dX9_degree_1 rfl (by decide) rfl ?_
  refine z_iconst (v := (0 : Int32)) X.1 dX9_degree_2 (by decide) ?_
  refine z_istore (i := 4) (lv' := [(4, .int (0 : Int32)), (3, .int (0 : Int32)), (0, .ref (zo κ.1 0)), (1, .int v1), (2, .int v2)]) X.1 dX9_degree_3 (by decide) rfl ?_
  exact z_sub [2, 3, 4, 1, 0] rfl (B_X9_degree_5 X zF _ _ _ h)
theorem C_X9_degree {ζ : zW} (hZ : zDis ζ zM) {v1 : Int32} {v2 : Int32} {σ σ' : S3} {r : Int32} (h : F_X9_degree v1 v2 σ = some (r, σ')) : zMet ζ zM 1 yX9_degree cX9_degree 6 (some .int) [.ref (zo ζ 0), .int v1, .int v2] σ (some (.int r)) σ' :=
  zMet_of pn_X9 hZ (Nat.le_of_ble_eq_true rfl) (fun κ e X => by subst e; exact B_X9_degree_0 X h)
noncomputable def F_X9_at_26 (σ : S3) : R3 :=
  bd (F_X9_no (1 : Int32) σ) (fun r1611 s1612 => some (r1611, s1612))
set_option maxHeartbeats 4000000 in
set_option maxRecDepth 100000 in
theorem B_X9_at_26 {κ : zT} {σ' : S3} {r : Int32} (X : zC κ zM RX9 cX9_at 3 (some .int) 2 (some (.int r)) σ') {σ : S3} (h : F_X9_at_26 σ = some (r, σ')) : Z κ 3 (zM (ze κ.1) σ) [(0, .ref (zo κ.1 0))] 26 [] := by
  unfold F_X9_at_26 at h
  refine z_aload_n (i := 0) X.1 dX9_at_26 0 rfl rfl ?_
  refine z_iconst (v := (1 : Int32)) X.1 dX9_at_27 (by decide) ?_
  obtain ⟨r1611, s1612, hc1613, h⟩ := bd_inv h
  refine cl_X9_79 (d1 := 0) (b := zo κ.1 0) (As := [.int (1 : Int32)]) (rest := []) X.1 (by decide) (C_X9_no X.2.1 hc1613) rcX9 rfl rfl (Nat.le_of_ble_eq_true rfl) dX9_at_28 ?_
  exact z_iret X dX9_at_31 h
noncomputable def F_X9_at (v1 : Int32) (v2 : Int32) (σ : S3) : R3 :=
  bd (F_X9_isPoint v1 σ) (fun r1607 s1608 => if r1607 = (0 : Int32) then (F_X9_at_26 s1608)
  else (bd (F_X9_in v2 (0 : Int32) (2 : Int32) s1608) (fun r1614 s1615 => if r1614 = (0 : Int32) then (F_X9_at_26 s1615)
  else (bd (F_X9_degree v1 v2 s1615) (fun r1618 s1619 => some (r1618, s1619))))))
set_option maxHeartbeats 4000000 in
set_option maxRecDepth 100000 in
theorem B_X9_at_0 {κ : zT} {σ' : S3} {r : Int32} (X : zC κ zM RX9 cX9_at 3 (some .int) 2 (some (.int r)) σ') {v1 : Int32} {v2 : Int32} {σ : S3} (h : F_X9_at v1 v2 σ = some (r, σ')) : Z κ 3 (zM (ze κ.1) σ) [(0, .ref (zo κ.1 0)), (1, .int v1), (2, .int v2)] 0 [] := by
  unfold F_X9_at at h
  refine z_aload_n (i := 0) X.1 dX9_at_0 0 rfl rfl ?_
  refine z_iload_n (i := 1) X.1 dX9_at_1 1 rfl rfl ?_
  obtain ⟨r1607, s1608, hc1609, h⟩ := bd_inv h
  refine cl_X9_86 (d1 := 1) (b := zo κ.1 0) (As := [.int v1]) (rest := []) X.1 (by decide) (C_X9_isPoint X.2.1 hc1609) rcX9 rfl rfl (Nat.le_of_ble_eq_true rfl) dX9_at_2 ?_
  refine z_if_eq (tgt := 26) X.1 dX9_at_5 (by decide) h (fun q1610 h => ?_) (fun q1610 h => ?_)
  · exact z_sub [0] rfl (B_X9_at_26 X h)
  · refine z_iload_n (i := 2) X.1 dX9_at_8 2 rfl rfl ?_
    refine z_iconst (v := (0 : Int32)) X.1 dX9_at_9 (by decide) ?_
    refine z_iconst (v := (2 : Int32)) X.1 dX9_at_10 (by decide) ?_
    obtain ⟨r1614, s1615, hc1616, h⟩ := bd_inv h
    refine cl_X9_68 (d1 := 0) (As := [.int v2, .int (0 : Int32), .int (2 : Int32)]) (rest := []) X.1 (by decide) (C_X9_in X.2.1 hc1616) rfl rfl (Nat.le_of_ble_eq_true rfl) dX9_at_11 ?_
    refine z_if_eq (tgt := 26) X.1 dX9_at_14 (by decide) h (fun q1617 h => ?_) (fun q1617 h => ?_)
    · exact z_sub [0] rfl (B_X9_at_26 X h)
    · refine z_aload_n (i := 0) X.1 dX9_at_17 0 rfl rfl ?_
      refine z_iload_n (i := 1) X.1 dX9_at_18 1 rfl rfl ?_
      refine z_iload_n (i := 2) X.1 dX9_at_19 2 rfl rfl ?_
      obtain ⟨r1618, s1619, hc1620, h⟩ := bd_inv h
      refine cl_X9_108 (d1 := 1) (b := zo κ.1 0) (As := [.int v1, .int v2]) (rest := []) X.1 (by decide) (C_X9_degree X.2.1 hc1620) rcX9 rfl rfl (Nat.le_of_ble_eq_true rfl) dX9_at_20 ?_
      refine z_goto (tgt := 31) X.1 dX9_at_23 (by decide) ?_
      exact z_iret X dX9_at_31 h
theorem C_X9_at {ζ : zW} (hZ : zDis ζ zM) {v1 : Int32} {v2 : Int32} {σ σ' : S3} {r : Int32} (h : F_X9_at v1 v2 σ = some (r, σ')) : zMet ζ zM 2 yX9_at cX9_at 3 (some .int) [.ref (zo ζ 0), .int v1, .int v2] σ (some (.int r)) σ' :=
  zMet_of pn_X9 hZ (Nat.le_of_ble_eq_true rfl) (fun κ e X => by subst e; exact B_X9_at_0 X h)
noncomputable def Fb_X9_sidesFrom_38 (Rc : Int32 → Int32 → S3 → R3) (v1 : Int32) (v2 : Int32) (K38 : Int32 → Int32 → S3 → R3) (v3 : Int32) (v4 : Int32) (σ : S3) : R3 :=
  if (σ 0 2 0) ≤ v4 then (ckb v3 (some (v3, σ)))
  else (if v3 = (0 : Int32) then (ckb v3 (some (v3, σ)))
  else (bd (F_X9_isAt v4 v1 σ) (fun r1625 s1626 => if r1625 = (0 : Int32) then (nm (v4 + (1 : Int32)) (fun x1629 => K38 (1 : Int32) x1629 s1626))
  else (bd (F_X9_otherOf v4 v1 s1626) (fun r1630 s1631 => bd (Rc r1630 ((1 : Int32) - v2) s1631) (fun r1633 s1634 => if r1633 = (0 : Int32) then (nm (v4 + (1 : Int32)) (fun x1637 => K38 (0 : Int32) x1637 s1634))
  else (nm (v4 + (1 : Int32)) (fun x1638 => K38 (1 : Int32) x1638 s1634))))))))
noncomputable def F_X9_sidesFrom_38 (Rc : Int32 → Int32 → S3 → R3) (v1 : Int32) (v2 : Int32) (n : Nat) : Int32 → Int32 → S3 → R3 := zl2 (Fb_X9_sidesFrom_38 Rc v1 v2) n
set_option maxHeartbeats 4000000 in
set_option maxRecDepth 100000 in
theorem B_X9_sidesFrom_38 {κ : zT} {σ' : S3} {r : Int32} {d d0 : Nat} (X : zC κ zM RX9 cX9_sidesFrom 5 (some .boolean) d (some (.int r)) σ') {Rc : Int32 → Int32 → S3 → R3} (hR : ∀ (a1 a2 : Int32) (s1 s2 : S3) (r1 : Int32), Rc a1 a2 s1 = some (r1, s2) → zMet κ.1 zM d0 yX9_sidesFrom cX9_sidesFrom 5 (some .boolean) [.ref (zo κ.1 0), .int a1, .int a2] s1 (some (.int r1)) s2) (hd : d0 + 1 ≤ d) (hb : 1 ≤ d) {v1 : Int32} {v2 : Int32} : ∀ (n : Nat) (v3 : Int32) (v4 : Int32) (σ : S3), F_X9_sidesFrom_38 Rc v1 v2 n v3 v4 σ = some (r, σ') → Z κ 5 (zM (ze κ.1) σ) [(0, .ref (zo κ.1 0)), (1, .int v1), (2, .int v2), (3, .int v3), (4, .int v4)] 38 [] := by
  intro n
  induction n with
  | zero =>
    intro v3 v4 σ h
    cases (show (none : R3) = some (r, σ') from h)
  | succ n ih =>
    intro v3 v4 σ h
    have hK38 := ih
    have h : Fb_X9_sidesFrom_38 Rc v1 v2 (F_X9_sidesFrom_38 Rc v1 v2 n) v3 v4 σ = some (r, σ') := h
    unfold Fb_X9_sidesFrom_38 at h
    refine z_iload X.1 dX9_sidesFrom_38 4 rfl ?_
    refine z_aload_n (i := 0) X.1 dX9_sidesFrom_40 0 rfl rfl ?_
    refine g_X9_lines X.1 tw807 dX9_sidesFrom_41 ?_
    refine z_icmp_ge (tgt := 90) X.1 dX9_sidesFrom_44 (by decide) h (fun q1623 h => ?_) (fun q1623 h => ?_)
    · refine z_iload_n (i := 3) X.1 dX9_sidesFrom_90 3 rfl rfl ?_
      obtain ⟨hv, h⟩ := ckb_inv h
      exact z_zret X dX9_sidesFrom_91 hv h
    · refine z_iload_n (i := 3) X.1 dX9_sidesFrom_47 3 rfl rfl ?_
      refine z_if_eq (tgt := 90) X.1 dX9_sidesFrom_48 (by decide) h (fun q1624 h => ?_) (fun q1624 h => ?_)
      · refine z_iload_n (i := 3) X.1 dX9_sidesFrom_90 3 rfl rfl ?_
        obtain ⟨hv, h⟩ := ckb_inv h
        exact z_zret X dX9_sidesFrom_91 hv h
      · refine z_aload_n (i := 0) X.1 dX9_sidesFrom_51 0 rfl rfl ?_
        refine z_iload X.1 dX9_sidesFrom_52 4 rfl ?_
        refine z_iload_n (i := 1) X.1 dX9_sidesFrom_54 1 rfl rfl ?_
        obtain ⟨r1625, s1626, hc1627, h⟩ := bd_inv h
        refine cl_X9_97 (d1 := 0) (b := zo κ.1 0) (As := [.int v4, .int v1]) (rest := []) X.1 (Nat.le_trans (by decide) hb) (C_X9_isAt X.2.1 hc1627) rcX9 rfl rfl (Nat.le_of_ble_eq_true rfl) dX9_sidesFrom_55 ?_
        refine z_if_eq (tgt := 78) X.1 dX9_sidesFrom_58 (by decide) h (fun q1628 h => ?_) (fun q1628 h => ?_)
        · refine z_iconst (v := (1 : Int32)) X.1 dX9_sidesFrom_78 (by decide) ?_
          refine z_goto (tgt := 83) X.1 dX9_sidesFrom_79 (by decide) ?_
          refine z_istore_n (i := 3) (lv' := [(3, .int (1 : Int32)), (0, .ref (zo κ.1 0)), (1, .int v1), (2, .int v2), (4, .int v4)]) X.1 dX9_sidesFrom_83 rfl (by decide) rfl ?_
          refine z_iinc_m (v := (1 : Int32)) (lv' := fun x1629 => [(4, .int x1629), (3, .int (1 : Int32)), (0, .ref (zo κ.1 0)), (1, .int v1), (2, .int v2)]) X.1 dX9_sidesFrom_84 4 rfl (by decide) (by decide) (fun _ => rfl) h (fun x1629 h => ?_)
          refine z_goto (tgt := 38) X.1 dX9_sidesFrom_87 (by decide) ?_
          exact z_sub [2, 3, 4, 1, 0] rfl (hK38 _ _ _ h)
        · refine z_aload_n (i := 0) X.1 dX9_sidesFrom_61 0 rfl rfl ?_
          refine z_aload_n (i := 0) X.1 dX9_sidesFrom_62 0 rfl rfl ?_
          refine z_iload X.1 dX9_sidesFrom_63 4 rfl ?_
          refine z_iload_n (i := 1) X.1 dX9_sidesFrom_65 1 rfl rfl ?_
          obtain ⟨r1630, s1631, hc1632, h⟩ := bd_inv h
          refine cl_X9_101 (d1 := 0) (b := zo κ.1 0) (As := [.int v4, .int v1]) (rest := [.ref (zo κ.1 0)]) X.1 (Nat.le_trans (by decide) hb) (C_X9_otherOf X.2.1 hc1632) rcX9 rfl rfl (Nat.le_of_ble_eq_true rfl) dX9_sidesFrom_66 ?_
          refine z_iconst (v := (1 : Int32)) X.1 dX9_sidesFrom_69 (by decide) ?_
          refine z_iload_n (i := 2) X.1 dX9_sidesFrom_70 2 rfl rfl ?_
          refine z_isub X.1 dX9_sidesFrom_71 ?_
          obtain ⟨r1633, s1634, hc1635, h⟩ := bd_inv h
          refine cl_X9_111 (d1 := d0) (b := zo κ.1 0) (As := [.int r1630, .int ((1 : Int32) - v2)]) (rest := []) X.1 hd (hR _ _ _ _ _ hc1635) rcX9 rfl rfl (Nat.le_of_ble_eq_true rfl) dX9_sidesFrom_72 ?_
          refine z_if_eq (tgt := 82) X.1 dX9_sidesFrom_75 (by decide) h (fun q1636 h => ?_) (fun q1636 h => ?_)
          · refine z_iconst (v := (0 : Int32)) X.1 dX9_sidesFrom_82 (by decide) ?_
            refine z_istore_n (i := 3) (lv' := [(3, .int (0 : Int32)), (0, .ref (zo κ.1 0)), (1, .int v1), (2, .int v2), (4, .int v4)]) X.1 dX9_sidesFrom_83 rfl (by decide) rfl ?_
            refine z_iinc_m (v := (1 : Int32)) (lv' := fun x1637 => [(4, .int x1637), (3, .int (0 : Int32)), (0, .ref (zo κ.1 0)), (1, .int v1), (2, .int v2)]) X.1 dX9_sidesFrom_84 4 rfl (by decide) (by decide) (fun _ => rfl) h (fun x1637 h => ?_)
            refine z_goto (tgt := 38) X.1 dX9_sidesFrom_87 (by decide) ?_
            exact z_sub [2, 3, 4, 1, 0] rfl (hK38 _ _ _ h)
          · refine z_iconst (v := (1 : Int32)) X.1 dX9_sidesFrom_78 (by decide) ?_
            refine z_goto (tgt := 83) X.1 dX9_sidesFrom_79 (by decide) ?_
            refine z_istore_n (i := 3) (lv' := [(3, .int (1 : Int32)), (0, .ref (zo κ.1 0)), (1, .int v1), (2, .int v2), (4, .int v4)]) X.1 dX9_sidesFrom_83 rfl (by decide) rfl ?_
            refine z_iinc_m (v := (1 : Int32)) (lv' := fun x1638 => [(4, .int x1638), (3, .int (1 : Int32)), (0, .ref (zo κ.1 0)), (1, .int v1), (2, .int v2)]) X.1 dX9_sidesFrom_84 4 rfl (by decide) (by decide) (fun _ => rfl) h (fun x1638 h => ?_)
            refine z_goto (tgt := 38) X.1 dX9_sidesFrom_87 (by decide) ?_
            exact z_sub [2, 3, 4, 1, 0] rfl (hK38 _ _ _ h)
noncomputable def F_X9_sidesFrom_0 (Rc : Int32 → Int32 → S3 → R3) (v1 : Int32) (v2 : Int32) (σ : S3) : R3 :=
  ck v1 10 (if (σ 0 6 (ix v1)) = (-1 : Int32) then (ck v1 10 (nm (up σ 0 6 (ix v1) v2) (fun s1622 => F_X9_sidesFrom_38 Rc v1 v2 zF (1 : Int32) (0 : Int32) s1622)))
  else (ck v1 10 (if (σ 0 6 (ix v1)) = v2 then (some ((1 : Int32), σ))
  else (some ((0 : Int32), σ)))))
set_option maxHeartbeats 4000000 in
set_option maxRecDepth 100000 in
theorem B_X9_sidesFrom_0 {κ : zT} {σ' : S3} {r : Int32} {d d0 : Nat} (X : zC κ zM RX9 cX9_sidesFrom 5 (some .boolean) d (some (.int r)) σ') {Rc : Int32 → Int32 → S3 → R3} (hR : ∀ (a1 a2 : Int32) (s1 s2 : S3) (r1 : Int32), Rc a1 a2 s1 = some (r1, s2) → zMet κ.1 zM d0 yX9_sidesFrom cX9_sidesFrom 5 (some .boolean) [.ref (zo κ.1 0), .int a1, .int a2] s1 (some (.int r1)) s2) (hd : d0 + 1 ≤ d) (hb : 1 ≤ d) {v1 : Int32} {v2 : Int32} {σ : S3} (h : F_X9_sidesFrom_0 Rc v1 v2 σ = some (r, σ')) : Z κ 5 (zM (ze κ.1) σ) [(0, .ref (zo κ.1 0)), (1, .int v1), (2, .int v2)] 0 [] := by
  unfold F_X9_sidesFrom_0 at h
  refine z_aload_n (i := 0) X.1 dX9_sidesFrom_0 0 rfl rfl ?_
  refine g_X9_side X.1 tw811 dX9_sidesFrom_1 ?_
  refine z_iload_n (i := 1) X.1 dX9_sidesFrom_4 1 rfl rfl ?_
  refine al_X9_side X.1 dX9_sidesFrom_5 h (fun h => ?_)
  refine z_iconst (v := (-1 : Int32)) X.1 dX9_sidesFrom_6 (by decide) ?_
  refine z_icmp_eq (tgt := 26) X.1 dX9_sidesFrom_7 (by decide) h (fun q1621 h => ?_) (fun q1621 h => ?_)
  · refine z_aload_n (i := 0) X.1 dX9_sidesFrom_26 0 rfl rfl ?_
    refine g_X9_side X.1 tw811 dX9_sidesFrom_27 ?_
    refine z_iload_n (i := 1) X.1 dX9_sidesFrom_30 1 rfl rfl ?_
    refine z_iload_n (i := 2) X.1 dX9_sidesFrom_31 2 rfl rfl ?_
    refine as_X9_side X.1 X.2.1 dX9_sidesFrom_32 h (fun s1622 h => ?_)
    refine z_iconst (v := (1 : Int32)) X.1 dX9_sidesFrom_33 (by decide) ?_
    refine z_istore_n (i := 3) (lv' := [(3, .int (1 : Int32)), (0, .ref (zo κ.1 0)), (1, .int v1), (2, .int v2)]) X.1 dX9_sidesFrom_34 rfl (by decide) rfl ?_
    refine z_iconst (v := (0 : Int32)) X.1 dX9_sidesFrom_35 (by decide) ?_
    refine z_istore (i := 4) (lv' := [(4, .int (0 : Int32)), (3, .int (1 : Int32)), (0, .ref (zo κ.1 0)), (1, .int v1), (2, .int v2)]) X.1 dX9_sidesFrom_36 (by decide) rfl ?_
    exact z_sub [2, 3, 4, 1, 0] rfl (B_X9_sidesFrom_38 X hR hd hb zF _ _ _ h)
  · refine z_aload_n (i := 0) X.1 dX9_sidesFrom_10 0 rfl rfl ?_
    refine g_X9_side X.1 tw811 dX9_sidesFrom_11 ?_
    refine z_iload_n (i := 1) X.1 dX9_sidesFrom_14 1 rfl rfl ?_
    refine al_X9_side X.1 dX9_sidesFrom_15 h (fun h => ?_)
    refine z_iload_n (i := 2) X.1 dX9_sidesFrom_16 2 rfl rfl ?_
    refine z_icmp_ne (tgt := 24) X.1 dX9_sidesFrom_17 (by decide) h (fun q1639 h => ?_) (fun q1639 h => ?_)
    · refine z_iconst (v := (0 : Int32)) X.1 dX9_sidesFrom_24 (by decide) ?_
      exact z_zret X dX9_sidesFrom_25 (Or.inl rfl) h
    · refine z_iconst (v := (1 : Int32)) X.1 dX9_sidesFrom_20 (by decide) ?_
      refine z_goto (tgt := 25) X.1 dX9_sidesFrom_21 (by decide) ?_
      exact z_zret X dX9_sidesFrom_25 (Or.inr rfl) h
noncomputable def F_X9_sidesFrom (k : Nat) : Int32 → Int32 → S3 → R3 := zl2 (F_X9_sidesFrom_0) k
theorem Ck_X9_sidesFrom {ζ : zW} (hZ : zDis ζ zM) : ∀ (k : Nat) (v1 : Int32) (v2 : Int32) (σ σ' : S3) (r : Int32), F_X9_sidesFrom k v1 v2 σ = some (r, σ') → zMet ζ zM (1 + k) yX9_sidesFrom cX9_sidesFrom 5 (some .boolean) [.ref (zo ζ 0), .int v1, .int v2] σ (some (.int r)) σ' := by
  intro k
  induction k with
  | zero =>
    intro v1 v2 σ σ' r h
    cases (show (none : R3) = some (r, σ') from h)
  | succ k ih =>
    intro v1 v2 σ σ' r h
    have h : F_X9_sidesFrom_0 (F_X9_sidesFrom k) v1 v2 σ = some (r, σ') := h
    exact zMet_of pn_X9 hZ (Nat.le_of_ble_eq_true rfl) (fun κ e X => by subst e; exact B_X9_sidesFrom_0 X ih (Nat.le_refl _) (by omega) h)
theorem C_X9_sidesFrom {ζ : zW} (hZ : zDis ζ zM) {v1 : Int32} {v2 : Int32} {σ σ' : S3} {r : Int32} (h : F_X9_sidesFrom 20 v1 v2 σ = some (r, σ')) : zMet ζ zM 21 yX9_sidesFrom cX9_sidesFrom 5 (some .boolean) [.ref (zo ζ 0), .int v1, .int v2] σ (some (.int r)) σ' := Ck_X9_sidesFrom hZ 20 _ _ _ _ _ h
noncomputable def Fb_X9_sides_68 (K68 : Int32 → Int32 → S3 → R3) (v1 : Int32) (v2 : Int32) (σ : S3) : R3 :=
  if (σ 0 1 0) ≤ v2 then (some (v1, σ))
  else (ck v2 10 (if (σ 0 6 (ix v2)) = (0 : Int32) then (nm (v1 ||| ((1 : Int32) <<< (v2 &&& 31))) (fun x1646 => nm (v2 + (1 : Int32)) (fun x1647 => K68 x1646 x1647 σ)))
  else (nm (v1 ||| (0 : Int32)) (fun x1644 => nm (v2 + (1 : Int32)) (fun x1645 => K68 x1644 x1645 σ)))))
noncomputable def F_X9_sides_68 (n : Nat) : Int32 → Int32 → S3 → R3 := zl2 (Fb_X9_sides_68) n
set_option maxHeartbeats 4000000 in
set_option maxRecDepth 100000 in
theorem B_X9_sides_68 {κ : zT} {σ' : S3} {r : Int32} (X : zC κ zM RX9 cX9_sides 3 (some .int) 22 (some (.int r)) σ') : ∀ (n : Nat) (v1 : Int32) (v2 : Int32) (σ : S3), F_X9_sides_68 n v1 v2 σ = some (r, σ') → Z κ 3 (zM (ze κ.1) σ) [(0, .ref (zo κ.1 0)), (1, .int v1), (2, .int v2)] 68 [] := by
  intro n
  induction n with
  | zero =>
    intro v1 v2 σ h
    cases (show (none : R3) = some (r, σ') from h)
  | succ n ih =>
    intro v1 v2 σ h
    have hK68 := ih
    have h : Fb_X9_sides_68 (F_X9_sides_68 n) v1 v2 σ = some (r, σ') := h
    unfold Fb_X9_sides_68 at h
    refine z_iload_n (i := 2) X.1 dX9_sides_68 2 rfl rfl ?_
    refine z_aload_n (i := 0) X.1 dX9_sides_69 0 rfl rfl ?_
    refine g_X9_points X.1 tw806 dX9_sides_70 ?_
    refine z_icmp_ge (tgt := 101) X.1 dX9_sides_73 (by decide) h (fun q1642 h => ?_) (fun q1642 h => ?_)
    · refine z_iload_n (i := 1) X.1 dX9_sides_101 1 rfl rfl ?_
      exact z_iret X dX9_sides_102 h
    · refine z_iload_n (i := 1) X.1 dX9_sides_76 1 rfl rfl ?_
      refine z_aload_n (i := 0) X.1 dX9_sides_77 0 rfl rfl ?_
      refine g_X9_side X.1 tw811 dX9_sides_78 ?_
      refine z_iload_n (i := 2) X.1 dX9_sides_81 2 rfl rfl ?_
      refine al_X9_side X.1 dX9_sides_82 h (fun h => ?_)
      refine z_if_ne (tgt := 92) X.1 dX9_sides_83 (by decide) h (fun q1643 h => ?_) (fun q1643 h => ?_)
      · refine z_iconst (v := (0 : Int32)) X.1 dX9_sides_92 (by decide) ?_
        refine z_ior X.1 dX9_sides_93 ?_
        refine z_istore_nn (i := 1) (lv' := fun x1644 => [(1, .int x1644), (0, .ref (zo κ.1 0)), (2, .int v2)]) X.1 dX9_sides_94 rfl (by decide) (fun _ => rfl) h (fun x1644 h => ?_)
        refine z_iinc_m (v := (1 : Int32)) (lv' := fun x1645 => [(2, .int x1645), (1, .int x1644), (0, .ref (zo κ.1 0))]) X.1 dX9_sides_95 2 rfl (by decide) (by decide) (fun _ => rfl) h (fun x1645 h => ?_)
        refine z_goto (tgt := 68) X.1 dX9_sides_98 (by decide) ?_
        exact z_sub [2, 1, 0] rfl (hK68 _ _ _ h)
      · refine z_iconst (v := (1 : Int32)) X.1 dX9_sides_86 (by decide) ?_
        refine z_iload_n (i := 2) X.1 dX9_sides_87 2 rfl rfl ?_
        refine z_ishl X.1 dX9_sides_88 ?_
        refine z_goto (tgt := 93) X.1 dX9_sides_89 (by decide) ?_
        refine z_ior X.1 dX9_sides_93 ?_
        refine z_istore_nn (i := 1) (lv' := fun x1646 => [(1, .int x1646), (0, .ref (zo κ.1 0)), (2, .int v2)]) X.1 dX9_sides_94 rfl (by decide) (fun _ => rfl) h (fun x1646 h => ?_)
        refine z_iinc_m (v := (1 : Int32)) (lv' := fun x1647 => [(2, .int x1647), (1, .int x1646), (0, .ref (zo κ.1 0))]) X.1 dX9_sides_95 2 rfl (by decide) (by decide) (fun _ => rfl) h (fun x1647 h => ?_)
        refine z_goto (tgt := 68) X.1 dX9_sides_98 (by decide) ?_
        exact z_sub [2, 1, 0] rfl (hK68 _ _ _ h)
noncomputable def Fb_X9_sides_27 (v1 : Int32) (K27 : Int32 → S3 → R3) (v2 : Int32) (σ : S3) : R3 :=
  if (σ 0 1 0) ≤ v2 then (F_X9_sides_68 zF v1 (0 : Int32) σ)
  else (ck v2 10 (if (σ 0 6 (ix v2)) = (-1 : Int32) then (bd (F_X9_sidesFrom 20 v2 (0 : Int32) σ) (fun r1650 s1651 => if r1650 = (0 : Int32) then (bd (F_X9_no (2 : Int32) s1651) (fun r1655 s1656 => some (r1655, s1656)))
  else (nm (v2 + (1 : Int32)) (fun x1654 => K27 x1654 s1651))))
  else (nm (v2 + (1 : Int32)) (fun x1649 => K27 x1649 σ))))
noncomputable def F_X9_sides_27 (v1 : Int32) (n : Nat) : Int32 → S3 → R3 := zl1 (Fb_X9_sides_27 v1) n
set_option maxHeartbeats 4000000 in
set_option maxRecDepth 100000 in
theorem B_X9_sides_27 {κ : zT} {σ' : S3} {r : Int32} (X : zC κ zM RX9 cX9_sides 3 (some .int) 22 (some (.int r)) σ') {v1 : Int32} : ∀ (n : Nat) (v2 : Int32) (σ : S3), F_X9_sides_27 v1 n v2 σ = some (r, σ') → Z κ 3 (zM (ze κ.1) σ) [(0, .ref (zo κ.1 0)), (1, .int v1), (2, .int v2)] 27 [] := by
  intro n
  induction n with
  | zero =>
    intro v2 σ h
    cases (show (none : R3) = some (r, σ') from h)
  | succ n ih =>
    intro v2 σ h
    have hK27 := ih
    have h : Fb_X9_sides_27 v1 (F_X9_sides_27 v1 n) v2 σ = some (r, σ') := h
    unfold Fb_X9_sides_27 at h
    refine z_iload_n (i := 2) X.1 dX9_sides_27 2 rfl rfl ?_
    refine z_aload_n (i := 0) X.1 dX9_sides_28 0 rfl rfl ?_
    refine g_X9_points X.1 tw806 dX9_sides_29 ?_
    refine z_icmp_ge (tgt := 66) X.1 dX9_sides_32 (by decide) h (fun q1641 h => ?_) (fun q1641 h => ?_)
    · refine z_iconst (v := (0 : Int32)) X.1 dX9_sides_66 (by decide) ?_
      refine z_istore_n (i := 2) (lv' := [(2, .int (0 : Int32)), (0, .ref (zo κ.1 0)), (1, .int v1)]) X.1 dX9_sides_67 rfl (by decide) rfl ?_
      exact z_sub [1, 2, 0] rfl (B_X9_sides_68 X zF _ _ _ h)
    · refine z_aload_n (i := 0) X.1 dX9_sides_35 0 rfl rfl ?_
      refine g_X9_side X.1 tw811 dX9_sides_36 ?_
      refine z_iload_n (i := 2) X.1 dX9_sides_39 2 rfl rfl ?_
      refine al_X9_side X.1 dX9_sides_40 h (fun h => ?_)
      refine z_iconst (v := (-1 : Int32)) X.1 dX9_sides_41 (by decide) ?_
      refine z_icmp_ne (tgt := 60) X.1 dX9_sides_42 (by decide) h (fun q1648 h => ?_) (fun q1648 h => ?_)
      · refine z_iinc_m (v := (1 : Int32)) (lv' := fun x1649 => [(2, .int x1649), (0, .ref (zo κ.1 0)), (1, .int v1)]) X.1 dX9_sides_60 2 rfl (by decide) (by decide) (fun _ => rfl) h (fun x1649 h => ?_)
        refine z_goto (tgt := 27) X.1 dX9_sides_63 (by decide) ?_
        exact z_sub [1, 2, 0] rfl (hK27 _ _ h)
      · refine z_aload_n (i := 0) X.1 dX9_sides_45 0 rfl rfl ?_
        refine z_iload_n (i := 2) X.1 dX9_sides_46 2 rfl rfl ?_
        refine z_iconst (v := (0 : Int32)) X.1 dX9_sides_47 (by decide) ?_
        obtain ⟨r1650, s1651, hc1652, h⟩ := bd_inv h
        refine cl_X9_111 (d1 := 21) (b := zo κ.1 0) (As := [.int v2, .int (0 : Int32)]) (rest := []) X.1 (by decide) (C_X9_sidesFrom X.2.1 hc1652) rcX9 rfl rfl (Nat.le_of_ble_eq_true rfl) dX9_sides_48 ?_
        refine z_if_ne (tgt := 60) X.1 dX9_sides_51 (by decide) h (fun q1653 h => ?_) (fun q1653 h => ?_)
        · refine z_iinc_m (v := (1 : Int32)) (lv' := fun x1654 => [(2, .int x1654), (0, .ref (zo κ.1 0)), (1, .int v1)]) X.1 dX9_sides_60 2 rfl (by decide) (by decide) (fun _ => rfl) h (fun x1654 h => ?_)
          refine z_goto (tgt := 27) X.1 dX9_sides_63 (by decide) ?_
          exact z_sub [1, 2, 0] rfl (hK27 _ _ h)
        · refine z_aload_n (i := 0) X.1 dX9_sides_54 0 rfl rfl ?_
          refine z_iconst (v := (2 : Int32)) X.1 dX9_sides_55 (by decide) ?_
          obtain ⟨r1655, s1656, hc1657, h⟩ := bd_inv h
          refine cl_X9_79 (d1 := 0) (b := zo κ.1 0) (As := [.int (2 : Int32)]) (rest := []) X.1 (by decide) (C_X9_no X.2.1 hc1657) rcX9 rfl rfl (Nat.le_of_ble_eq_true rfl) dX9_sides_56 ?_
          exact z_iret X dX9_sides_59 h
noncomputable def Fb_X9_sides_2 (K2 : Int32 → S3 → R3) (v1 : Int32) (σ : S3) : R3 :=
  if (σ 0 1 0) ≤ v1 then (F_X9_sides_27 (0 : Int32) zF (0 : Int32) σ)
  else (ck v1 10 (nm (up σ 0 6 (ix v1) (-1 : Int32)) (fun s1658 => nm (v1 + (1 : Int32)) (fun x1659 => K2 x1659 s1658))))
noncomputable def F_X9_sides_2 (n : Nat) : Int32 → S3 → R3 := zl1 (Fb_X9_sides_2) n
set_option maxHeartbeats 4000000 in
set_option maxRecDepth 100000 in
theorem B_X9_sides_2 {κ : zT} {σ' : S3} {r : Int32} (X : zC κ zM RX9 cX9_sides 3 (some .int) 22 (some (.int r)) σ') : ∀ (n : Nat) (v1 : Int32) (σ : S3), F_X9_sides_2 n v1 σ = some (r, σ') → Z κ 3 (zM (ze κ.1) σ) [(0, .ref (zo κ.1 0)), (1, .int v1)] 2 [] := by
  intro n
  induction n with
  | zero =>
    intro v1 σ h
    cases (show (none : R3) = some (r, σ') from h)
  | succ n ih =>
    intro v1 σ h
    have hK2 := ih
    have h : Fb_X9_sides_2 (F_X9_sides_2 n) v1 σ = some (r, σ') := h
    unfold Fb_X9_sides_2 at h
    refine z_iload_n (i := 1) X.1 dX9_sides_2 1 rfl rfl ?_
    refine z_aload_n (i := 0) X.1 dX9_sides_3 0 rfl rfl ?_
    refine g_X9_points X.1 tw806 dX9_sides_4 ?_
    refine z_icmp_ge (tgt := 23) X.1 dX9_sides_7 (by decide) h (fun q1640 h => ?_) (fun q1640 h => ?_)
    · refine z_iconst (v := (0 : Int32)) X.1 dX9_sides_23 (by decide) ?_
      refine z_istore_n (i := 1) (lv' := [(1, .int (0 : Int32)), (0, .ref (zo κ.1 0))]) X.1 dX9_sides_24 rfl (by decide) rfl ?_
      refine z_iconst (v := (0 : Int32)) X.1 dX9_sides_25 (by decide) ?_
      refine z_istore_n (i := 2) (lv' := [(2, .int (0 : Int32)), (1, .int (0 : Int32)), (0, .ref (zo κ.1 0))]) X.1 dX9_sides_26 rfl (by decide) rfl ?_
      exact z_sub [2, 1, 0] rfl (B_X9_sides_27 X zF _ _ h)
    · refine z_aload_n (i := 0) X.1 dX9_sides_10 0 rfl rfl ?_
      refine g_X9_side X.1 tw811 dX9_sides_11 ?_
      refine z_iload_n (i := 1) X.1 dX9_sides_14 1 rfl rfl ?_
      refine z_iconst (v := (-1 : Int32)) X.1 dX9_sides_15 (by decide) ?_
      refine as_X9_side X.1 X.2.1 dX9_sides_16 h (fun s1658 h => ?_)
      refine z_iinc_m (v := (1 : Int32)) (lv' := fun x1659 => [(1, .int x1659), (0, .ref (zo κ.1 0))]) X.1 dX9_sides_17 1 rfl (by decide) (by decide) (fun _ => rfl) h (fun x1659 h => ?_)
      refine z_goto (tgt := 2) X.1 dX9_sides_20 (by decide) ?_
      exact z_sub [1, 0] rfl (hK2 _ _ h)
noncomputable def F_X9_sides (σ : S3) : R3 :=
  F_X9_sides_2 zF (0 : Int32) σ
set_option maxHeartbeats 4000000 in
set_option maxRecDepth 100000 in
theorem B_X9_sides_0 {κ : zT} {σ' : S3} {r : Int32} (X : zC κ zM RX9 cX9_sides 3 (some .int) 22 (some (.int r)) σ') {σ : S3} (h : F_X9_sides σ = some (r, σ')) : Z κ 3 (zM (ze κ.1) σ) [(0, .ref (zo κ.1 0))] 0 [] := by
  unfold F_X9_sides at h
  refine z_iconst (v := (0 : Int32)) X.1 dX9_sides_0 (by decide) ?_
  refine z_istore_n (i := 1) (lv' := [(1, .int (0 : Int32)), (0, .ref (zo κ.1 0))]) X.1 dX9_sides_1 rfl (by decide) rfl ?_
  exact z_sub [1, 0] rfl (B_X9_sides_2 X zF _ _ h)
theorem C_X9_sides {ζ : zW} (hZ : zDis ζ zM) {σ σ' : S3} {r : Int32} (h : F_X9_sides  σ = some (r, σ')) : zMet ζ zM 22 yX9_sides cX9_sides 3 (some .int) [.ref (zo ζ 0)] σ (some (.int r)) σ' :=
  zMet_of pn_X9 hZ (Nat.le_of_ble_eq_true rfl) (fun κ e X => by subst e; exact B_X9_sides_0 X h)
noncomputable def Fb_X9_metBy_5 (v1 : Int32) (v2 : Int32) (K5 : Int32 → Int32 → S3 → R3) (v3 : Int32) (v4 : Int32) (σ : S3) : R3 :=
  if (σ 0 2 0) ≤ v4 then (some (v3, σ))
  else (bd (F_X9_has v1 v4 σ) (fun r1661 s1662 => if r1661 = (0 : Int32) then (nm (v4 + (1 : Int32)) (fun x1665 => K5 v3 x1665 s1662))
  else (ck v4 12 (ck v4 12 (nm (((1 : Int32) <<< ((s1662 0 3 (ix v4)) &&& 31)) ||| ((1 : Int32) <<< ((s1662 0 4 (ix v4)) &&& 31))) (fun x1666 => if (v3 &&& x1666) = (0 : Int32) then (if (x1666 &&& (v2 ^^^ (-1 : Int32))) = (0 : Int32) then (nm (v3 ||| x1666) (fun x1669 => nm (v4 + (1 : Int32)) (fun x1670 => K5 x1669 x1670 s1662)))
  else (some ((-1 : Int32), s1662)))
  else (some ((-1 : Int32), s1662))))))))
noncomputable def F_X9_metBy_5 (v1 : Int32) (v2 : Int32) (n : Nat) : Int32 → Int32 → S3 → R3 := zl2 (Fb_X9_metBy_5 v1 v2) n
set_option maxHeartbeats 4000000 in
set_option maxRecDepth 100000 in
theorem B_X9_metBy_5 {κ : zT} {σ' : S3} {r : Int32} (X : zC κ zM RX9 cX9_metBy 6 (some .int) 1 (some (.int r)) σ') {v1 : Int32} {v2 : Int32} : ∀ (n : Nat) (v3 : Int32) (v4 : Int32) (σ : S3), F_X9_metBy_5 v1 v2 n v3 v4 σ = some (r, σ') → Z κ 6 (zM (ze κ.1) σ) [(0, .ref (zo κ.1 0)), (1, .int v1), (2, .int v2), (3, .int v3), (4, .int v4)] 5 [] := by
  intro n
  induction n with
  | zero =>
    intro v3 v4 σ h
    cases (show (none : R3) = some (r, σ') from h)
  | succ n ih =>
    intro v3 v4 σ h
    have hK5 := ih
    have h : Fb_X9_metBy_5 v1 v2 (F_X9_metBy_5 v1 v2 n) v3 v4 σ = some (r, σ') := h
    unfold Fb_X9_metBy_5 at h
    refine z_iload X.1 dX9_metBy_5 4 rfl ?_
    refine z_aload_n (i := 0) X.1 dX9_metBy_7 0 rfl rfl ?_
    refine g_X9_lines X.1 tw807 dX9_metBy_8 ?_
    refine z_icmp_ge (tgt := 73) X.1 dX9_metBy_11 (by decide) h (fun q1660 h => ?_) (fun q1660 h => ?_)
    · refine z_iload_n (i := 3) X.1 dX9_metBy_73 3 rfl rfl ?_
      exact z_iret X dX9_metBy_74 h
    · refine z_iload_n (i := 1) X.1 dX9_metBy_14 1 rfl rfl ?_
      refine z_iload X.1 dX9_metBy_15 4 rfl ?_
      obtain ⟨r1661, s1662, hc1663, h⟩ := bd_inv h
      refine cl_X9_114 (d1 := 0) (As := [.int v1, .int v4]) (rest := []) X.1 (by decide) (C_X9_has X.2.1 hc1663) rfl rfl (Nat.le_of_ble_eq_true rfl) dX9_metBy_17 ?_
      refine z_if_eq (tgt := 67) X.1 dX9_metBy_20 (by decide) h (fun q1664 h => ?_) (fun q1664 h => ?_)
      · refine z_iinc_m (v := (1 : Int32)) (lv' := fun x1665 => [(4, .int x1665), (0, .ref (zo κ.1 0)), (1, .int v1), (2, .int v2), (3, .int v3)]) X.1 dX9_metBy_67 4 rfl (by decide) (by decide) (fun _ => rfl) h (fun x1665 h => ?_)
        refine z_goto (tgt := 5) X.1 dX9_metBy_70 (by decide) ?_
        exact z_sub [1, 2, 3, 4, 0] rfl (hK5 _ _ _ h)
      · refine z_iconst (v := (1 : Int32)) X.1 dX9_metBy_23 (by decide) ?_
        refine z_aload_n (i := 0) X.1 dX9_metBy_24 0 rfl rfl ?_
        refine g_X9_from X.1 tw808 dX9_metBy_25 ?_
        refine z_iload X.1 dX9_metBy_28 4 rfl ?_
        refine al_X9_from X.1 dX9_metBy_30 h (fun h => ?_)
        refine z_ishl X.1 dX9_metBy_31 ?_
        refine z_iconst (v := (1 : Int32)) X.1 dX9_metBy_32 (by decide) ?_
        refine z_aload_n (i := 0) X.1 dX9_metBy_33 0 rfl rfl ?_
        refine g_X9_to X.1 tw809 dX9_metBy_34 ?_
        refine z_iload X.1 dX9_metBy_37 4 rfl ?_
        refine al_X9_to X.1 dX9_metBy_39 h (fun h => ?_)
        refine z_ishl X.1 dX9_metBy_40 ?_
        refine z_ior X.1 dX9_metBy_41 ?_
        refine z_istore_m (i := 5) (lv' := fun x1666 => [(5, .int x1666), (0, .ref (zo κ.1 0)), (1, .int v1), (2, .int v2), (3, .int v3), (4, .int v4)]) X.1 dX9_metBy_42 (by decide) (fun _ => rfl) h (fun x1666 h => ?_)
        refine z_iload_n (i := 3) X.1 dX9_metBy_44 4 rfl rfl ?_
        refine z_iload X.1 dX9_metBy_45 0 rfl ?_
        refine z_iand X.1 dX9_metBy_47 ?_
        refine z_if_ne (tgt := 60) X.1 dX9_metBy_48 (by decide) h (fun q1667 h => ?_) (fun q1667 h => ?_)
        · refine z_iconst (v := (-1 : Int32)) X.1 dX9_metBy_60 (by decide) ?_
          exact z_iret X dX9_metBy_61 h
        · refine z_iload X.1 dX9_metBy_51 0 rfl ?_
          refine z_iload_n (i := 2) X.1 dX9_metBy_53 3 rfl rfl ?_
          refine z_iconst (v := (-1 : Int32)) X.1 dX9_metBy_54 (by decide) ?_
          refine z_ixor X.1 dX9_metBy_55 ?_
          refine z_iand X.1 dX9_metBy_56 ?_
          refine z_if_eq (tgt := 62) X.1 dX9_metBy_57 (by decide) h (fun q1668 h => ?_) (fun q1668 h => ?_)
          · refine z_iload_n (i := 3) X.1 dX9_metBy_62 4 rfl rfl ?_
            refine z_iload X.1 dX9_metBy_63 0 rfl ?_
            refine z_ior X.1 dX9_metBy_65 ?_
            refine z_istore_nn (i := 3) (lv' := fun x1669 => [(3, .int x1669), (5, .int x1666), (0, .ref (zo κ.1 0)), (1, .int v1), (2, .int v2), (4, .int v4)]) X.1 dX9_metBy_66 rfl (by decide) (fun _ => rfl) h (fun x1669 h => ?_)
            refine z_iinc_m (v := (1 : Int32)) (lv' := fun x1670 => [(4, .int x1670), (3, .int x1669), (5, .int x1666), (0, .ref (zo κ.1 0)), (1, .int v1), (2, .int v2)]) X.1 dX9_metBy_67 5 rfl (by decide) (by decide) (fun _ => rfl) h (fun x1670 h => ?_)
            refine z_goto (tgt := 5) X.1 dX9_metBy_70 (by decide) ?_
            exact z_sub [3, 4, 5, 1, 0] rfl (hK5 _ _ _ h)
          · refine z_iconst (v := (-1 : Int32)) X.1 dX9_metBy_60 (by decide) ?_
            exact z_iret X dX9_metBy_61 h
noncomputable def F_X9_metBy (v1 : Int32) (v2 : Int32) (σ : S3) : R3 :=
  F_X9_metBy_5 v1 v2 zF (0 : Int32) (0 : Int32) σ
set_option maxHeartbeats 4000000 in
set_option maxRecDepth 100000 in
theorem B_X9_metBy_0 {κ : zT} {σ' : S3} {r : Int32} (X : zC κ zM RX9 cX9_metBy 6 (some .int) 1 (some (.int r)) σ') {v1 : Int32} {v2 : Int32} {σ : S3} (h : F_X9_metBy v1 v2 σ = some (r, σ')) : Z κ 6 (zM (ze κ.1) σ) [(0, .ref (zo κ.1 0)), (1, .int v1), (2, .int v2)] 0 [] := by
  unfold F_X9_metBy at h
  refine z_iconst (v := (0 : Int32)) X.1 dX9_metBy_0 (by decide) ?_
  refine z_istore_n (i := 3) (lv' := [(3, .int (0 : Int32)), (0, .ref (zo κ.1 0)), (1, .int v1), (2, .int v2)]) X.1 dX9_metBy_1 rfl (by decide) rfl ?_
  refine z_iconst (v := (0 : Int32)) X.1 dX9_metBy_2 (by decide) ?_
  refine z_istore (i := 4) (lv' := [(4, .int (0 : Int32)), (3, .int (0 : Int32)), (0, .ref (zo κ.1 0)), (1, .int v1), (2, .int v2)]) X.1 dX9_metBy_3 (by decide) rfl ?_
  exact z_sub [2, 3, 4, 1, 0] rfl (B_X9_metBy_5 X zF _ _ _ h)
theorem C_X9_metBy {ζ : zW} (hZ : zDis ζ zM) {v1 : Int32} {v2 : Int32} {σ σ' : S3} {r : Int32} (h : F_X9_metBy v1 v2 σ = some (r, σ')) : zMet ζ zM 1 yX9_metBy cX9_metBy 6 (some .int) [.ref (zo ζ 0), .int v1, .int v2] σ (some (.int r)) σ' :=
  zMet_of pn_X9 hZ (Nat.le_of_ble_eq_true rfl) (fun κ e X => by subst e; exact B_X9_metBy_0 X h)
noncomputable def F_X9_pairingOf_83 (K14 : Int32 → Int32 → S3 → R3) (v1 : Int32) (v2 : Int32) (v3 : Int32) (v4 : Int32) (σ : S3) : R3 :=
  nm (up σ 0 8 0 ((σ 0 8 0) &&& v4)) (fun s1686 => nm (v3 + (1 : Int32)) (fun x1687 => K14 v2 x1687 s1686))
set_option maxHeartbeats 4000000 in
set_option maxRecDepth 100000 in
theorem B_X9_pairingOf_83 {κ : zT} {σ' : S3} {r : Int32} (X : zC κ zM RX9 cX9_pairingOf 5 (some .int) 2 (some (.int r)) σ') {K14 : Int32 → Int32 → S3 → R3} {v1 : Int32} {v2 : Int32} {v3 : Int32} {v4 : Int32} {σ : S3} (hK14 : ∀ (w2 : Int32) (w3 : Int32) (s1 : S3), K14 w2 w3 s1 = some (r, σ') → Z κ 5 (zM (ze κ.1) s1) [(0, .ref (zo κ.1 0)), (1, .int v1), (2, .int w2), (3, .int w3)] 14 []) (h : F_X9_pairingOf_83 K14 v1 v2 v3 v4 σ = some (r, σ')) : Z κ 5 (zM (ze κ.1) σ) [(0, .ref (zo κ.1 0)), (1, .int v1), (2, .int v2), (3, .int v3), (4, .int v4)] 83 [] := by
  unfold F_X9_pairingOf_83 at h
  refine z_aload_n (i := 0) X.1 dX9_pairingOf_83 0 rfl rfl ?_
  refine z_dup X.1 dX9_pairingOf_84 rfl ?_
  refine g_X9_necessary X.1 tw813 dX9_pairingOf_85 ?_
  refine z_iload X.1 dX9_pairingOf_88 4 rfl ?_
  refine z_iand X.1 dX9_pairingOf_90 ?_
  refine p_X9_necessary X.1 X.2.1 tw813 dX9_pairingOf_91 h (fun s1686 h => ?_)
  refine z_iinc_m (v := (1 : Int32)) (lv' := fun x1687 => [(3, .int x1687), (0, .ref (zo κ.1 0)), (1, .int v1), (2, .int v2), (4, .int v4)]) X.1 dX9_pairingOf_94 3 rfl (by decide) (by decide) (fun _ => rfl) h (fun x1687 h => ?_)
  refine z_goto (tgt := 14) X.1 dX9_pairingOf_97 (by decide) ?_
  exact z_sub [1, 2, 3, 0] rfl (hK14 _ _ _ h)
noncomputable def F_X9_pairingOf_45 (K14 : Int32 → Int32 → S3 → R3) (v1 : Int32) (v2 : Int32) (v3 : Int32) (s0 : Int32) (σ : S3) : R3 :=
  if s0 = (-1 : Int32) then (nm (v3 + (1 : Int32)) (fun x1693 => K14 v2 x1693 σ))
  else (bd (F_X9_ones v3 σ) (fun r1682 s1683 => if r1682 ≤ (s1683 0 7 0) then (F_X9_pairingOf_83 K14 v1 v2 v3 s0 s1683)
  else (bd (F_X9_ones v3 s1683) (fun r1688 s1689 => nm (up s1689 0 7 0 r1688) (fun s1691 => nm (up s1691 0 8 0 s0) (fun s1692 => F_X9_pairingOf_83 K14 v1 v3 v3 s0 s1692))))))
set_option maxHeartbeats 4000000 in
set_option maxRecDepth 100000 in
theorem B_X9_pairingOf_45 {κ : zT} {σ' : S3} {r : Int32} (X : zC κ zM RX9 cX9_pairingOf 5 (some .int) 2 (some (.int r)) σ') {K14 : Int32 → Int32 → S3 → R3} {v1 : Int32} {v2 : Int32} {v3 : Int32} {s0 : Int32} {σ : S3} (hK14 : ∀ (w2 : Int32) (w3 : Int32) (s1 : S3), K14 w2 w3 s1 = some (r, σ') → Z κ 5 (zM (ze κ.1) s1) [(0, .ref (zo κ.1 0)), (1, .int v1), (2, .int w2), (3, .int w3)] 14 []) (h : F_X9_pairingOf_45 K14 v1 v2 v3 s0 σ = some (r, σ')) : Z κ 5 (zM (ze κ.1) σ) [(0, .ref (zo κ.1 0)), (1, .int v1), (2, .int v2), (3, .int v3)] 45 [.int s0] := by
  unfold F_X9_pairingOf_45 at h
  refine z_istore (i := 4) (lv' := [(4, .int s0), (0, .ref (zo κ.1 0)), (1, .int v1), (2, .int v2), (3, .int v3)]) X.1 dX9_pairingOf_45 (by decide) rfl ?_
  refine z_iload X.1 dX9_pairingOf_47 0 rfl ?_
  refine z_iconst (v := (-1 : Int32)) X.1 dX9_pairingOf_49 (by decide) ?_
  refine z_icmp_ne (tgt := 56) X.1 dX9_pairingOf_50 (by decide) h (fun q1681 h => ?_) (fun q1681 h => ?_)
  · refine z_iload_n (i := 3) X.1 dX9_pairingOf_56 4 rfl rfl ?_
    obtain ⟨r1682, s1683, hc1684, h⟩ := bd_inv h
    refine cl_X9_123 (d1 := 0) (As := [.int v3]) (rest := []) X.1 (by decide) (C_X9_ones X.2.1 hc1684) rfl rfl (Nat.le_of_ble_eq_true rfl) dX9_pairingOf_57 ?_
    refine z_aload_n (i := 0) X.1 dX9_pairingOf_60 1 rfl rfl ?_
    refine g_X9_most X.1 tw812 dX9_pairingOf_61 ?_
    refine z_icmp_le (tgt := 83) X.1 dX9_pairingOf_64 (by decide) h (fun q1685 h => ?_) (fun q1685 h => ?_)
    · exact z_sub [1, 2, 3, 4, 0] rfl (B_X9_pairingOf_83 X hK14 h)
    · refine z_aload_n (i := 0) X.1 dX9_pairingOf_67 1 rfl rfl ?_
      refine z_iload_n (i := 3) X.1 dX9_pairingOf_68 4 rfl rfl ?_
      obtain ⟨r1688, s1689, hc1690, h⟩ := bd_inv h
      refine cl_X9_123 (d1 := 0) (As := [.int v3]) (rest := [.ref (zo κ.1 0)]) X.1 (by decide) (C_X9_ones X.2.1 hc1690) rfl rfl (Nat.le_of_ble_eq_true rfl) dX9_pairingOf_69 ?_
      refine p_X9_most X.1 X.2.1 tw812 dX9_pairingOf_72 h (fun s1691 h => ?_)
      refine z_iload_n (i := 3) X.1 dX9_pairingOf_75 4 rfl rfl ?_
      refine z_istore_n (i := 2) (lv' := [(2, .int v3), (4, .int s0), (0, .ref (zo κ.1 0)), (1, .int v1), (3, .int v3)]) X.1 dX9_pairingOf_76 rfl (by decide) rfl ?_
      refine z_aload_n (i := 0) X.1 dX9_pairingOf_77 2 rfl rfl ?_
      refine z_iload X.1 dX9_pairingOf_78 1 rfl ?_
      refine p_X9_necessary X.1 X.2.1 tw813 dX9_pairingOf_80 h (fun s1692 h => ?_)
      exact z_sub [2, 3, 0, 4, 1] rfl (B_X9_pairingOf_83 X hK14 h)
  · refine z_goto (tgt := 94) X.1 dX9_pairingOf_53 (by decide) ?_
    refine z_iinc_m (v := (1 : Int32)) (lv' := fun x1693 => [(3, .int x1693), (4, .int s0), (0, .ref (zo κ.1 0)), (1, .int v1), (2, .int v2)]) X.1 dX9_pairingOf_94 4 rfl (by decide) (by decide) (fun _ => rfl) h (fun x1693 h => ?_)
    refine z_goto (tgt := 14) X.1 dX9_pairingOf_97 (by decide) ?_
    exact z_sub [2, 3, 4, 0] rfl (hK14 _ _ _ h)
noncomputable def Fb_X9_pairingOf_14 (v1 : Int32) (K14 : Int32 → Int32 → S3 → R3) (v2 : Int32) (v3 : Int32) (σ : S3) : R3 :=
  if ((1 : Int32) <<< ((σ 0 2 0) &&& 31)) ≤ v3 then (some (v2, σ))
  else (bd (F_X9_ones v3 σ) (fun r1674 s1675 => if (s1675 0 7 0) ≤ r1674 then (bd (F_X9_metBy v3 v1 s1675) (fun r1678 s1679 => F_X9_pairingOf_45 K14 v1 v2 v3 r1678 s1679))
  else (F_X9_pairingOf_45 K14 v1 v2 v3 (-1 : Int32) s1675)))
noncomputable def F_X9_pairingOf_14 (v1 : Int32) (n : Nat) : Int32 → Int32 → S3 → R3 := zl2 (Fb_X9_pairingOf_14 v1) n
set_option maxHeartbeats 4000000 in
set_option maxRecDepth 100000 in
theorem B_X9_pairingOf_14 {κ : zT} {σ' : S3} {r : Int32} (X : zC κ zM RX9 cX9_pairingOf 5 (some .int) 2 (some (.int r)) σ') {v1 : Int32} : ∀ (n : Nat) (v2 : Int32) (v3 : Int32) (σ : S3), F_X9_pairingOf_14 v1 n v2 v3 σ = some (r, σ') → Z κ 5 (zM (ze κ.1) σ) [(0, .ref (zo κ.1 0)), (1, .int v1), (2, .int v2), (3, .int v3)] 14 [] := by
  intro n
  induction n with
  | zero =>
    intro v2 v3 σ h
    cases (show (none : R3) = some (r, σ') from h)
  | succ n ih =>
    intro v2 v3 σ h
    have hK14 := ih
    have h : Fb_X9_pairingOf_14 v1 (F_X9_pairingOf_14 v1 n) v2 v3 σ = some (r, σ') := h
    unfold Fb_X9_pairingOf_14 at h
    refine z_iload_n (i := 3) X.1 dX9_pairingOf_14 3 rfl rfl ?_
    refine z_iconst (v := (1 : Int32)) X.1 dX9_pairingOf_15 (by decide) ?_
    refine z_aload_n (i := 0) X.1 dX9_pairingOf_16 0 rfl rfl ?_
    refine g_X9_lines X.1 tw807 dX9_pairingOf_17 ?_
    refine z_ishl X.1 dX9_pairingOf_20 ?_
    refine z_icmp_ge (tgt := 100) X.1 dX9_pairingOf_21 (by decide) h (fun q1673 h => ?_) (fun q1673 h => ?_)
    · refine z_iload_n (i := 2) X.1 dX9_pairingOf_100 2 rfl rfl ?_
      exact z_iret X dX9_pairingOf_101 h
    · refine z_iload_n (i := 3) X.1 dX9_pairingOf_24 3 rfl rfl ?_
      obtain ⟨r1674, s1675, hc1676, h⟩ := bd_inv h
      refine cl_X9_123 (d1 := 0) (As := [.int v3]) (rest := []) X.1 (by decide) (C_X9_ones X.2.1 hc1676) rfl rfl (Nat.le_of_ble_eq_true rfl) dX9_pairingOf_25 ?_
      refine z_aload_n (i := 0) X.1 dX9_pairingOf_28 0 rfl rfl ?_
      refine g_X9_most X.1 tw812 dX9_pairingOf_29 ?_
      refine z_icmp_ge (tgt := 39) X.1 dX9_pairingOf_32 (by decide) h (fun q1677 h => ?_) (fun q1677 h => ?_)
      · refine z_aload_n (i := 0) X.1 dX9_pairingOf_39 0 rfl rfl ?_
        refine z_iload_n (i := 3) X.1 dX9_pairingOf_40 3 rfl rfl ?_
        refine z_iload_n (i := 1) X.1 dX9_pairingOf_41 1 rfl rfl ?_
        obtain ⟨r1678, s1679, hc1680, h⟩ := bd_inv h
        refine cl_X9_126 (d1 := 1) (b := zo κ.1 0) (As := [.int v3, .int v1]) (rest := []) X.1 (by decide) (C_X9_metBy X.2.1 hc1680) rcX9 rfl rfl (Nat.le_of_ble_eq_true rfl) dX9_pairingOf_42 ?_
        exact z_sub [0, 1, 2, 3] rfl (B_X9_pairingOf_45 X hK14 h)
      · refine z_iconst (v := (-1 : Int32)) X.1 dX9_pairingOf_35 (by decide) ?_
        refine z_goto (tgt := 45) X.1 dX9_pairingOf_36 (by decide) ?_
        exact z_sub [0, 1, 2, 3] rfl (B_X9_pairingOf_45 X hK14 h)
noncomputable def F_X9_pairingOf (v1 : Int32) (σ : S3) : R3 :=
  nm (up σ 0 7 0 (0 : Int32)) (fun s1671 => nm (up s1671 0 8 0 (0 : Int32)) (fun s1672 => F_X9_pairingOf_14 v1 zF (0 : Int32) (0 : Int32) s1672))
set_option maxHeartbeats 4000000 in
set_option maxRecDepth 100000 in
theorem B_X9_pairingOf_0 {κ : zT} {σ' : S3} {r : Int32} (X : zC κ zM RX9 cX9_pairingOf 5 (some .int) 2 (some (.int r)) σ') {v1 : Int32} {σ : S3} (h : F_X9_pairingOf v1 σ = some (r, σ')) : Z κ 5 (zM (ze κ.1) σ) [(0, .ref (zo κ.1 0)), (1, .int v1)] 0 [] := by
  unfold F_X9_pairingOf at h
  refine z_iconst (v := (0 : Int32)) X.1 dX9_pairingOf_0 (by decide) ?_
  refine z_istore_n (i := 2) (lv' := [(2, .int (0 : Int32)), (0, .ref (zo κ.1 0)), (1, .int v1)]) X.1 dX9_pairingOf_1 rfl (by decide) rfl ?_
  refine z_aload_n (i := 0) X.1 dX9_pairingOf_2 1 rfl rfl ?_
  refine z_iconst (v := (0 : Int32)) X.1 dX9_pairingOf_3 (by decide) ?_
  refine p_X9_most X.1 X.2.1 tw812 dX9_pairingOf_4 h (fun s1671 h => ?_)
  refine z_aload_n (i := 0) X.1 dX9_pairingOf_7 1 rfl rfl ?_
  refine z_iconst (v := (0 : Int32)) X.1 dX9_pairingOf_8 (by decide) ?_
  refine p_X9_necessary X.1 X.2.1 tw813 dX9_pairingOf_9 h (fun s1672 h => ?_)
  refine z_iconst (v := (0 : Int32)) X.1 dX9_pairingOf_12 (by decide) ?_
  refine z_istore_n (i := 3) (lv' := [(3, .int (0 : Int32)), (2, .int (0 : Int32)), (0, .ref (zo κ.1 0)), (1, .int v1)]) X.1 dX9_pairingOf_13 rfl (by decide) rfl ?_
  exact z_sub [2, 3, 1, 0] rfl (B_X9_pairingOf_14 X zF _ _ _ h)
theorem C_X9_pairingOf {ζ : zW} (hZ : zDis ζ zM) {v1 : Int32} {σ σ' : S3} {r : Int32} (h : F_X9_pairingOf v1 σ = some (r, σ')) : zMet ζ zM 2 yX9_pairingOf cX9_pairingOf 5 (some .int) [.ref (zo ζ 0), .int v1] σ (some (.int r)) σ' :=
  zMet_of pn_X9 hZ (Nat.le_of_ble_eq_true rfl) (fun κ e X => by subst e; exact B_X9_pairingOf_0 X h)
noncomputable def F_X9_pairing (v1 : Int32) (v2 : Int32) (σ : S3) : R3 :=
  bd (F_X9_all σ) (fun r1694 s1695 => if (v1 &&& (r1694 ^^^ (-1 : Int32))) = (0 : Int32) then (bd (F_X9_in v2 (0 : Int32) (1 : Int32) s1695) (fun r1701 s1702 => if r1701 = (0 : Int32) then (bd (F_X9_no (1 : Int32) s1702) (fun r1709 s1710 => some (r1709, s1710)))
  else (bd (F_X9_pairingOf v1 s1702) (fun r1705 s1706 => if v2 = (0 : Int32) then (some (s1706 0 7 0, s1706))
  else (some (r1705, s1706))))))
  else (bd (F_X9_no (1 : Int32) s1695) (fun r1698 s1699 => some (r1698, s1699))))
set_option maxHeartbeats 4000000 in
set_option maxRecDepth 100000 in
theorem B_X9_pairing_0 {κ : zT} {σ' : S3} {r : Int32} (X : zC κ zM RX9 cX9_pairing 4 (some .int) 3 (some (.int r)) σ') {v1 : Int32} {v2 : Int32} {σ : S3} (h : F_X9_pairing v1 v2 σ = some (r, σ')) : Z κ 4 (zM (ze κ.1) σ) [(0, .ref (zo κ.1 0)), (1, .int v1), (2, .int v2)] 0 [] := by
  unfold F_X9_pairing at h
  refine z_iload_n (i := 1) X.1 dX9_pairing_0 1 rfl rfl ?_
  refine z_aload_n (i := 0) X.1 dX9_pairing_1 0 rfl rfl ?_
  obtain ⟨r1694, s1695, hc1696, h⟩ := bd_inv h
  refine cl_X9_129 (d1 := 0) (b := zo κ.1 0) (As := []) (rest := [.int v1]) X.1 (by decide) (C_X9_all X.2.1 hc1696) rcX9 rfl rfl (Nat.le_of_ble_eq_true rfl) dX9_pairing_2 ?_
  refine z_iconst (v := (-1 : Int32)) X.1 dX9_pairing_5 (by decide) ?_
  refine z_ixor X.1 dX9_pairing_6 ?_
  refine z_iand X.1 dX9_pairing_7 ?_
  refine z_if_ne (tgt := 20) X.1 dX9_pairing_8 (by decide) h (fun q1697 h => ?_) (fun q1697 h => ?_)
  · refine z_aload_n (i := 0) X.1 dX9_pairing_20 0 rfl rfl ?_
    refine z_iconst (v := (1 : Int32)) X.1 dX9_pairing_21 (by decide) ?_
    obtain ⟨r1698, s1699, hc1700, h⟩ := bd_inv h
    refine cl_X9_79 (d1 := 0) (b := zo κ.1 0) (As := [.int (1 : Int32)]) (rest := []) X.1 (by decide) (C_X9_no X.2.1 hc1700) rcX9 rfl rfl (Nat.le_of_ble_eq_true rfl) dX9_pairing_22 ?_
    exact z_iret X dX9_pairing_25 h
  · refine z_iload_n (i := 2) X.1 dX9_pairing_11 2 rfl rfl ?_
    refine z_iconst (v := (0 : Int32)) X.1 dX9_pairing_12 (by decide) ?_
    refine z_iconst (v := (1 : Int32)) X.1 dX9_pairing_13 (by decide) ?_
    obtain ⟨r1701, s1702, hc1703, h⟩ := bd_inv h
    refine cl_X9_68 (d1 := 0) (As := [.int v2, .int (0 : Int32), .int (1 : Int32)]) (rest := []) X.1 (by decide) (C_X9_in X.2.1 hc1703) rfl rfl (Nat.le_of_ble_eq_true rfl) dX9_pairing_14 ?_
    refine z_if_ne (tgt := 26) X.1 dX9_pairing_17 (by decide) h (fun q1704 h => ?_) (fun q1704 h => ?_)
    · refine z_aload_n (i := 0) X.1 dX9_pairing_26 0 rfl rfl ?_
      refine z_iload_n (i := 1) X.1 dX9_pairing_27 1 rfl rfl ?_
      obtain ⟨r1705, s1706, hc1707, h⟩ := bd_inv h
      refine cl_X9_133 (d1 := 2) (b := zo κ.1 0) (As := [.int v1]) (rest := []) X.1 (by decide) (C_X9_pairingOf X.2.1 hc1707) rcX9 rfl rfl (Nat.le_of_ble_eq_true rfl) dX9_pairing_28 ?_
      refine z_istore_n (i := 3) (lv' := [(3, .int r1705), (0, .ref (zo κ.1 0)), (1, .int v1), (2, .int v2)]) X.1 dX9_pairing_31 rfl (by decide) rfl ?_
      refine z_iload_n (i := 2) X.1 dX9_pairing_32 3 rfl rfl ?_
      refine z_if_ne (tgt := 43) X.1 dX9_pairing_33 (by decide) h (fun q1708 h => ?_) (fun q1708 h => ?_)
      · refine z_iload_n (i := 3) X.1 dX9_pairing_43 0 rfl rfl ?_
        exact z_iret X dX9_pairing_44 h
      · refine z_aload_n (i := 0) X.1 dX9_pairing_36 1 rfl rfl ?_
        refine g_X9_most X.1 tw812 dX9_pairing_37 ?_
        refine z_goto (tgt := 44) X.1 dX9_pairing_40 (by decide) ?_
        exact z_iret X dX9_pairing_44 h
    · refine z_aload_n (i := 0) X.1 dX9_pairing_20 0 rfl rfl ?_
      refine z_iconst (v := (1 : Int32)) X.1 dX9_pairing_21 (by decide) ?_
      obtain ⟨r1709, s1710, hc1711, h⟩ := bd_inv h
      refine cl_X9_79 (d1 := 0) (b := zo κ.1 0) (As := [.int (1 : Int32)]) (rest := []) X.1 (by decide) (C_X9_no X.2.1 hc1711) rcX9 rfl rfl (Nat.le_of_ble_eq_true rfl) dX9_pairing_22 ?_
      exact z_iret X dX9_pairing_25 h
theorem C_X9_pairing {ζ : zW} (hZ : zDis ζ zM) {v1 : Int32} {v2 : Int32} {σ σ' : S3} {r : Int32} (h : F_X9_pairing v1 v2 σ = some (r, σ')) : zMet ζ zM 3 yX9_pairing cX9_pairing 4 (some .int) [.ref (zo ζ 0), .int v1, .int v2] σ (some (.int r)) σ' :=
  zMet_of pn_X9 hZ (Nat.le_of_ble_eq_true rfl) (fun κ e X => by subst e; exact B_X9_pairing_0 X h)
noncomputable def F_X9_needed (σ : S3) : R3 :=
  bd (F_X9_all σ) (fun r1712 s1713 => bd (F_X9_pairingOf r1712 s1713) (fun r1715 s1716 => some (s1716 0 8 0, s1716)))
set_option maxHeartbeats 4000000 in
set_option maxRecDepth 100000 in
theorem B_X9_needed_0 {κ : zT} {σ' : S3} {r : Int32} (X : zC κ zM RX9 cX9_needed 2 (some .int) 3 (some (.int r)) σ') {σ : S3} (h : F_X9_needed σ = some (r, σ')) : Z κ 2 (zM (ze κ.1) σ) [(0, .ref (zo κ.1 0))] 0 [] := by
  unfold F_X9_needed at h
  refine z_aload_n (i := 0) X.1 dX9_needed_0 0 rfl rfl ?_
  refine z_aload_n (i := 0) X.1 dX9_needed_1 0 rfl rfl ?_
  obtain ⟨r1712, s1713, hc1714, h⟩ := bd_inv h
  refine cl_X9_129 (d1 := 0) (b := zo κ.1 0) (As := []) (rest := [.ref (zo κ.1 0)]) X.1 (by decide) (C_X9_all X.2.1 hc1714) rcX9 rfl rfl (Nat.le_of_ble_eq_true rfl) dX9_needed_2 ?_
  obtain ⟨r1715, s1716, hc1717, h⟩ := bd_inv h
  refine cl_X9_133 (d1 := 2) (b := zo κ.1 0) (As := [.int r1712]) (rest := []) X.1 (by decide) (C_X9_pairingOf X.2.1 hc1717) rcX9 rfl rfl (Nat.le_of_ble_eq_true rfl) dX9_needed_5 ?_
  refine z_istore_n (i := 1) (lv' := [(1, .int r1715), (0, .ref (zo κ.1 0))]) X.1 dX9_needed_8 rfl (by decide) rfl ?_
  refine z_aload_n (i := 0) X.1 dX9_needed_9 1 rfl rfl ?_
  refine g_X9_necessary X.1 tw813 dX9_needed_10 ?_
  exact z_iret X dX9_needed_13 h
theorem C_X9_needed {ζ : zW} (hZ : zDis ζ zM) {σ σ' : S3} {r : Int32} (h : F_X9_needed  σ = some (r, σ')) : zMet ζ zM 3 yX9_needed cX9_needed 2 (some .int) [.ref (zo ζ 0)] σ (some (.int r)) σ' :=
  zMet_of pn_X9 hZ (Nat.le_of_ble_eq_true rfl) (fun κ e X => by subst e; exact B_X9_needed_0 X h)
noncomputable def F_X9_isKernel_99 (K4 : Int32 → Int32 → S3 → R3) (v1 : Int32) (v3 : Int32) (v4 : Int32) (v5 : Int32) (v7 : Int32) (s0 : Int32) (s1 : Int32) (σ : S3) : R3 :=
  nm (s1 ||| s0) (fun x1736 => if v7 = (0 : Int32) then (nm (x1736 ||| (0 : Int32)) (fun x1738 => nm (v3 + (1 : Int32)) (fun x1739 => K4 x1738 x1739 σ)))
  else (bd (F_X9_has v1 v4 σ) (fun r1740 s1741 => if r1740 = (0 : Int32) then (nm (x1736 ||| (0 : Int32)) (fun x1744 => nm (v3 + (1 : Int32)) (fun x1745 => K4 x1744 x1745 s1741)))
  else (nm (x1736 ||| ((1 : Int32) <<< (v5 &&& 31))) (fun x1746 => nm (v3 + (1 : Int32)) (fun x1747 => K4 x1746 x1747 s1741))))))
set_option maxHeartbeats 4000000 in
set_option maxRecDepth 100000 in
theorem B_X9_isKernel_99 {κ : zT} {σ' : S3} {r : Int32} (X : zC κ zM RX9 cX9_isKernel 8 (some .boolean) 1 (some (.int r)) σ') {K4 : Int32 → Int32 → S3 → R3} {v1 : Int32} {v3 : Int32} {v4 : Int32} {v5 : Int32} {v7 : Int32} {s0 : Int32} {s1 : Int32} {σ : S3} (hK4 : ∀ (w2 : Int32) (w3 : Int32) (s1 : S3), K4 w2 w3 s1 = some (r, σ') → Z κ 8 (zM (ze κ.1) s1) [(0, .ref (zo κ.1 0)), (1, .int v1), (2, .int w2), (3, .int w3)] 4 []) (h : F_X9_isKernel_99 K4 v1 v3 v4 v5 v7 s0 s1 σ = some (r, σ')) : Z κ 8 (zM (ze κ.1) σ) [(0, .ref (zo κ.1 0)), (1, .int v1), (3, .int v3), (4, .int v4), (5, .int v5), (7, .int v7)] 99 [.int s0, .int s1] := by
  unfold F_X9_isKernel_99 at h
  refine z_ior X.1 dX9_isKernel_99 ?_
  refine z_istore_nn (i := 2) (lv' := fun x1736 => [(2, .int x1736), (0, .ref (zo κ.1 0)), (1, .int v1), (3, .int v3), (4, .int v4), (5, .int v5), (7, .int v7)]) X.1 dX9_isKernel_100 rfl (by decide) (fun _ => rfl) h (fun x1736 h => ?_)
  refine z_iload_n (i := 2) X.1 dX9_isKernel_101 0 rfl rfl ?_
  refine z_iload X.1 dX9_isKernel_102 6 rfl ?_
  refine z_if_eq (tgt := 123) X.1 dX9_isKernel_104 (by decide) h (fun q1737 h => ?_) (fun q1737 h => ?_)
  · refine z_iconst (v := (0 : Int32)) X.1 dX9_isKernel_123 (by decide) ?_
    refine z_ior X.1 dX9_isKernel_124 ?_
    refine z_istore_nn (i := 2) (lv' := fun x1738 => [(2, .int x1738), (0, .ref (zo κ.1 0)), (1, .int v1), (3, .int v3), (4, .int v4), (5, .int v5), (7, .int v7)]) X.1 dX9_isKernel_125 rfl (by decide) (fun _ => rfl) h (fun x1738 h => ?_)
    refine z_iinc_m (v := (1 : Int32)) (lv' := fun x1739 => [(3, .int x1739), (2, .int x1738), (0, .ref (zo κ.1 0)), (1, .int v1), (4, .int v4), (5, .int v5), (7, .int v7)]) X.1 dX9_isKernel_126 3 rfl (by decide) (by decide) (fun _ => rfl) h (fun x1739 h => ?_)
    refine z_goto (tgt := 4) X.1 dX9_isKernel_129 (by decide) ?_
    exact z_sub [2, 3, 1, 0] rfl (hK4 _ _ _ h)
  · refine z_iload_n (i := 1) X.1 dX9_isKernel_107 2 rfl rfl ?_
    refine z_iload X.1 dX9_isKernel_108 4 rfl ?_
    obtain ⟨r1740, s1741, hc1742, h⟩ := bd_inv h
    refine cl_X9_114 (d1 := 0) (As := [.int v1, .int v4]) (rest := [.int x1736]) X.1 (by decide) (C_X9_has X.2.1 hc1742) rfl rfl (Nat.le_of_ble_eq_true rfl) dX9_isKernel_110 ?_
    refine z_if_eq (tgt := 123) X.1 dX9_isKernel_113 (by decide) h (fun q1743 h => ?_) (fun q1743 h => ?_)
    · refine z_iconst (v := (0 : Int32)) X.1 dX9_isKernel_123 (by decide) ?_
      refine z_ior X.1 dX9_isKernel_124 ?_
      refine z_istore_nn (i := 2) (lv' := fun x1744 => [(2, .int x1744), (0, .ref (zo κ.1 0)), (1, .int v1), (3, .int v3), (4, .int v4), (5, .int v5), (7, .int v7)]) X.1 dX9_isKernel_125 rfl (by decide) (fun _ => rfl) h (fun x1744 h => ?_)
      refine z_iinc_m (v := (1 : Int32)) (lv' := fun x1745 => [(3, .int x1745), (2, .int x1744), (0, .ref (zo κ.1 0)), (1, .int v1), (4, .int v4), (5, .int v5), (7, .int v7)]) X.1 dX9_isKernel_126 3 rfl (by decide) (by decide) (fun _ => rfl) h (fun x1745 h => ?_)
      refine z_goto (tgt := 4) X.1 dX9_isKernel_129 (by decide) ?_
      exact z_sub [2, 3, 1, 0] rfl (hK4 _ _ _ h)
    · refine z_iconst (v := (1 : Int32)) X.1 dX9_isKernel_116 (by decide) ?_
      refine z_iload X.1 dX9_isKernel_117 5 rfl ?_
      refine z_ishl X.1 dX9_isKernel_119 ?_
      refine z_goto (tgt := 124) X.1 dX9_isKernel_120 (by decide) ?_
      refine z_ior X.1 dX9_isKernel_124 ?_
      refine z_istore_nn (i := 2) (lv' := fun x1746 => [(2, .int x1746), (0, .ref (zo κ.1 0)), (1, .int v1), (3, .int v3), (4, .int v4), (5, .int v5), (7, .int v7)]) X.1 dX9_isKernel_125 rfl (by decide) (fun _ => rfl) h (fun x1746 h => ?_)
      refine z_iinc_m (v := (1 : Int32)) (lv' := fun x1747 => [(3, .int x1747), (2, .int x1746), (0, .ref (zo κ.1 0)), (1, .int v1), (4, .int v4), (5, .int v5), (7, .int v7)]) X.1 dX9_isKernel_126 3 rfl (by decide) (by decide) (fun _ => rfl) h (fun x1747 h => ?_)
      refine z_goto (tgt := 4) X.1 dX9_isKernel_129 (by decide) ?_
      exact z_sub [2, 3, 1, 0] rfl (hK4 _ _ _ h)
noncomputable def F_X9_isKernel_76 (K4 : Int32 → Int32 → S3 → R3) (v1 : Int32) (v2 : Int32) (v3 : Int32) (v4 : Int32) (v5 : Int32) (v6 : Int32) (v7 : Int32) (σ : S3) : R3 :=
  if v6 = (0 : Int32) then (F_X9_isKernel_99 K4 v1 v3 v4 v5 v7 (0 : Int32) v2 σ)
  else (bd (F_X9_has v1 v5 σ) (fun r1748 s1749 => if r1748 = (0 : Int32) then (F_X9_isKernel_99 K4 v1 v3 v4 v5 v7 (0 : Int32) v2 s1749)
  else (F_X9_isKernel_99 K4 v1 v3 v4 v5 v7 ((1 : Int32) <<< (v4 &&& 31)) v2 s1749)))
set_option maxHeartbeats 4000000 in
set_option maxRecDepth 100000 in
theorem B_X9_isKernel_76 {κ : zT} {σ' : S3} {r : Int32} (X : zC κ zM RX9 cX9_isKernel 8 (some .boolean) 1 (some (.int r)) σ') {K4 : Int32 → Int32 → S3 → R3} {v1 : Int32} {v2 : Int32} {v3 : Int32} {v4 : Int32} {v5 : Int32} {v6 : Int32} {v7 : Int32} {σ : S3} (hK4 : ∀ (w2 : Int32) (w3 : Int32) (s1 : S3), K4 w2 w3 s1 = some (r, σ') → Z κ 8 (zM (ze κ.1) s1) [(0, .ref (zo κ.1 0)), (1, .int v1), (2, .int w2), (3, .int w3)] 4 []) (h : F_X9_isKernel_76 K4 v1 v2 v3 v4 v5 v6 v7 σ = some (r, σ')) : Z κ 8 (zM (ze κ.1) σ) [(0, .ref (zo κ.1 0)), (1, .int v1), (2, .int v2), (3, .int v3), (4, .int v4), (5, .int v5), (6, .int v6), (7, .int v7)] 76 [] := by
  unfold F_X9_isKernel_76 at h
  refine z_iload_n (i := 2) X.1 dX9_isKernel_76 2 rfl rfl ?_
  refine z_iload X.1 dX9_isKernel_77 6 rfl ?_
  refine z_if_eq (tgt := 98) X.1 dX9_isKernel_79 (by decide) h (fun q1735 h => ?_) (fun q1735 h => ?_)
  · refine z_iconst (v := (0 : Int32)) X.1 dX9_isKernel_98 (by decide) ?_
    exact z_sub [0, 1, 3, 4, 5, 7] rfl (B_X9_isKernel_99 X hK4 h)
  · refine z_iload_n (i := 1) X.1 dX9_isKernel_82 1 rfl rfl ?_
    refine z_iload X.1 dX9_isKernel_83 5 rfl ?_
    obtain ⟨r1748, s1749, hc1750, h⟩ := bd_inv h
    refine cl_X9_114 (d1 := 0) (As := [.int v1, .int v5]) (rest := [.int v2]) X.1 (by decide) (C_X9_has X.2.1 hc1750) rfl rfl (Nat.le_of_ble_eq_true rfl) dX9_isKernel_85 ?_
    refine z_if_eq (tgt := 98) X.1 dX9_isKernel_88 (by decide) h (fun q1751 h => ?_) (fun q1751 h => ?_)
    · refine z_iconst (v := (0 : Int32)) X.1 dX9_isKernel_98 (by decide) ?_
      exact z_sub [0, 1, 3, 4, 5, 7] rfl (B_X9_isKernel_99 X hK4 h)
    · refine z_iconst (v := (1 : Int32)) X.1 dX9_isKernel_91 (by decide) ?_
      refine z_iload X.1 dX9_isKernel_92 4 rfl ?_
      refine z_ishl X.1 dX9_isKernel_94 ?_
      refine z_goto (tgt := 99) X.1 dX9_isKernel_95 (by decide) ?_
      exact z_sub [0, 1, 3, 4, 5, 7] rfl (B_X9_isKernel_99 X hK4 h)
noncomputable def Fb_X9_isKernel_4 (v1 : Int32) (K4 : Int32 → Int32 → S3 → R3) (v2 : Int32) (v3 : Int32) (σ : S3) : R3 :=
  if (σ 0 2 0) ≤ v3 then (bd (F_X9_all σ) (fun r1719 s1720 => if (v2 ||| v1) = r1719 then (some ((1 : Int32), s1720))
  else (some ((0 : Int32), s1720))))
  else (ck v3 12 (nm (σ 0 3 (ix v3)) (fun x1723 => ck v3 12 (nm (σ 0 4 (ix v3)) (fun x1724 => bd (F_X9_leads v3 x1723 σ) (fun r1725 s1726 => bd (F_X9_leads v3 x1724 s1726) (fun r1728 s1729 => bd (F_X9_has v1 x1723 s1729) (fun r1731 s1732 => if r1731 = (0 : Int32) then (F_X9_isKernel_76 K4 v1 v2 v3 x1723 x1724 r1725 r1728 s1732)
  else (bd (F_X9_has v1 x1724 s1732) (fun r1752 s1753 => if r1752 = (0 : Int32) then (F_X9_isKernel_76 K4 v1 v2 v3 x1723 x1724 r1725 r1728 s1753)
  else (if r1725 = (0 : Int32) then (if r1728 = (0 : Int32) then (F_X9_isKernel_76 K4 v1 v2 v3 x1723 x1724 r1725 r1728 s1753)
  else (some ((0 : Int32), s1753)))
  else (some ((0 : Int32), s1753)))))))))))))
noncomputable def F_X9_isKernel_4 (v1 : Int32) (n : Nat) : Int32 → Int32 → S3 → R3 := zl2 (Fb_X9_isKernel_4 v1) n
set_option maxHeartbeats 4000000 in
set_option maxRecDepth 100000 in
theorem B_X9_isKernel_4 {κ : zT} {σ' : S3} {r : Int32} (X : zC κ zM RX9 cX9_isKernel 8 (some .boolean) 1 (some (.int r)) σ') {v1 : Int32} : ∀ (n : Nat) (v2 : Int32) (v3 : Int32) (σ : S3), F_X9_isKernel_4 v1 n v2 v3 σ = some (r, σ') → Z κ 8 (zM (ze κ.1) σ) [(0, .ref (zo κ.1 0)), (1, .int v1), (2, .int v2), (3, .int v3)] 4 [] := by
  intro n
  induction n with
  | zero =>
    intro v2 v3 σ h
    cases (show (none : R3) = some (r, σ') from h)
  | succ n ih =>
    intro v2 v3 σ h
    have hK4 := ih
    have h : Fb_X9_isKernel_4 v1 (F_X9_isKernel_4 v1 n) v2 v3 σ = some (r, σ') := h
    unfold Fb_X9_isKernel_4 at h
    refine z_iload_n (i := 3) X.1 dX9_isKernel_4 3 rfl rfl ?_
    refine z_aload_n (i := 0) X.1 dX9_isKernel_5 0 rfl rfl ?_
    refine g_X9_lines X.1 tw807 dX9_isKernel_6 ?_
    refine z_icmp_ge (tgt := 132) X.1 dX9_isKernel_9 (by decide) h (fun q1718 h => ?_) (fun q1718 h => ?_)
    · refine z_iload_n (i := 2) X.1 dX9_isKernel_132 2 rfl rfl ?_
      refine z_iload_n (i := 1) X.1 dX9_isKernel_133 1 rfl rfl ?_
      refine z_ior X.1 dX9_isKernel_134 ?_
      refine z_aload_n (i := 0) X.1 dX9_isKernel_135 0 rfl rfl ?_
      obtain ⟨r1719, s1720, hc1721, h⟩ := bd_inv h
      refine cl_X9_129 (d1 := 0) (b := zo κ.1 0) (As := []) (rest := [.int (v2 ||| v1)]) X.1 (by decide) (C_X9_all X.2.1 hc1721) rcX9 rfl rfl (Nat.le_of_ble_eq_true rfl) dX9_isKernel_136 ?_
      refine z_icmp_ne (tgt := 146) X.1 dX9_isKernel_139 (by decide) h (fun q1722 h => ?_) (fun q1722 h => ?_)
      · refine z_iconst (v := (0 : Int32)) X.1 dX9_isKernel_146 (by decide) ?_
        exact z_zret X dX9_isKernel_147 (Or.inl rfl) h
      · refine z_iconst (v := (1 : Int32)) X.1 dX9_isKernel_142 (by decide) ?_
        refine z_goto (tgt := 147) X.1 dX9_isKernel_143 (by decide) ?_
        exact z_zret X dX9_isKernel_147 (Or.inr rfl) h
    · refine z_aload_n (i := 0) X.1 dX9_isKernel_12 0 rfl rfl ?_
      refine g_X9_from X.1 tw808 dX9_isKernel_13 ?_
      refine z_iload_n (i := 3) X.1 dX9_isKernel_16 3 rfl rfl ?_
      refine al_X9_from X.1 dX9_isKernel_17 h (fun h => ?_)
      refine z_istore_m (i := 4) (lv' := fun x1723 => [(4, .int x1723), (0, .ref (zo κ.1 0)), (1, .int v1), (2, .int v2), (3, .int v3)]) X.1 dX9_isKernel_18 (by decide) (fun _ => rfl) h (fun x1723 h => ?_)
      refine z_aload_n (i := 0) X.1 dX9_isKernel_20 1 rfl rfl ?_
      refine g_X9_to X.1 tw809 dX9_isKernel_21 ?_
      refine z_iload_n (i := 3) X.1 dX9_isKernel_24 4 rfl rfl ?_
      refine al_X9_to X.1 dX9_isKernel_25 h (fun h => ?_)
      refine z_istore_m (i := 5) (lv' := fun x1724 => [(5, .int x1724), (4, .int x1723), (0, .ref (zo κ.1 0)), (1, .int v1), (2, .int v2), (3, .int v3)]) X.1 dX9_isKernel_26 (by decide) (fun _ => rfl) h (fun x1724 h => ?_)
      refine z_aload_n (i := 0) X.1 dX9_isKernel_28 2 rfl rfl ?_
      refine z_iload_n (i := 3) X.1 dX9_isKernel_29 5 rfl rfl ?_
      refine z_iload X.1 dX9_isKernel_30 1 rfl ?_
      obtain ⟨r1725, s1726, hc1727, h⟩ := bd_inv h
      refine cl_X9_105 (d1 := 0) (b := zo κ.1 0) (As := [.int v3, .int x1723]) (rest := []) X.1 (by decide) (C_X9_leads X.2.1 hc1727) rcX9 rfl rfl (Nat.le_of_ble_eq_true rfl) dX9_isKernel_32 ?_
      refine z_istore (i := 6) (lv' := [(6, .int r1725), (5, .int x1724), (4, .int x1723), (0, .ref (zo κ.1 0)), (1, .int v1), (2, .int v2), (3, .int v3)]) X.1 dX9_isKernel_35 (by decide) rfl ?_
      refine z_aload_n (i := 0) X.1 dX9_isKernel_37 3 rfl rfl ?_
      refine z_iload_n (i := 3) X.1 dX9_isKernel_38 6 rfl rfl ?_
      refine z_iload X.1 dX9_isKernel_39 1 rfl ?_
      obtain ⟨r1728, s1729, hc1730, h⟩ := bd_inv h
      refine cl_X9_105 (d1 := 0) (b := zo κ.1 0) (As := [.int v3, .int x1724]) (rest := []) X.1 (by decide) (C_X9_leads X.2.1 hc1730) rcX9 rfl rfl (Nat.le_of_ble_eq_true rfl) dX9_isKernel_41 ?_
      refine z_istore (i := 7) (lv' := [(7, .int r1728), (6, .int r1725), (5, .int x1724), (4, .int x1723), (0, .ref (zo κ.1 0)), (1, .int v1), (2, .int v2), (3, .int v3)]) X.1 dX9_isKernel_44 (by decide) rfl ?_
      refine z_iload_n (i := 1) X.1 dX9_isKernel_46 5 rfl rfl ?_
      refine z_iload X.1 dX9_isKernel_47 3 rfl ?_
      obtain ⟨r1731, s1732, hc1733, h⟩ := bd_inv h
      refine cl_X9_114 (d1 := 0) (As := [.int v1, .int x1723]) (rest := []) X.1 (by decide) (C_X9_has X.2.1 hc1733) rfl rfl (Nat.le_of_ble_eq_true rfl) dX9_isKernel_49 ?_
      refine z_if_eq (tgt := 76) X.1 dX9_isKernel_52 (by decide) h (fun q1734 h => ?_) (fun q1734 h => ?_)
      · exact z_sub [4, 5, 6, 7, 3, 2, 1, 0] rfl (B_X9_isKernel_76 X hK4 h)
      · refine z_iload_n (i := 1) X.1 dX9_isKernel_55 5 rfl rfl ?_
        refine z_iload X.1 dX9_isKernel_56 2 rfl ?_
        obtain ⟨r1752, s1753, hc1754, h⟩ := bd_inv h
        refine cl_X9_114 (d1 := 0) (As := [.int v1, .int x1724]) (rest := []) X.1 (by decide) (C_X9_has X.2.1 hc1754) rfl rfl (Nat.le_of_ble_eq_true rfl) dX9_isKernel_58 ?_
        refine z_if_eq (tgt := 76) X.1 dX9_isKernel_61 (by decide) h (fun q1755 h => ?_) (fun q1755 h => ?_)
        · exact z_sub [4, 5, 6, 7, 3, 2, 1, 0] rfl (B_X9_isKernel_76 X hK4 h)
        · refine z_iload X.1 dX9_isKernel_64 1 rfl ?_
          refine z_if_ne (tgt := 74) X.1 dX9_isKernel_66 (by decide) h (fun q1756 h => ?_) (fun q1756 h => ?_)
          · refine z_iconst (v := (0 : Int32)) X.1 dX9_isKernel_74 (by decide) ?_
            exact z_zret X dX9_isKernel_75 (Or.inl rfl) h
          · refine z_iload X.1 dX9_isKernel_69 0 rfl ?_
            refine z_if_eq (tgt := 76) X.1 dX9_isKernel_71 (by decide) h (fun q1757 h => ?_) (fun q1757 h => ?_)
            · exact z_sub [4, 5, 6, 7, 3, 2, 1, 0] rfl (B_X9_isKernel_76 X hK4 h)
            · refine z_iconst (v := (0 : Int32)) X.1 dX9_isKernel_74 (by decide) ?_
              exact z_zret X dX9_isKernel_75 (Or.inl rfl) h
noncomputable def F_X9_isKernel (v1 : Int32) (σ : S3) : R3 :=
  F_X9_isKernel_4 v1 zF (0 : Int32) (0 : Int32) σ
set_option maxHeartbeats 4000000 in
set_option maxRecDepth 100000 in
theorem B_X9_isKernel_0 {κ : zT} {σ' : S3} {r : Int32} (X : zC κ zM RX9 cX9_isKernel 8 (some .boolean) 1 (some (.int r)) σ') {v1 : Int32} {σ : S3} (h : F_X9_isKernel v1 σ = some (r, σ')) : Z κ 8 (zM (ze κ.1) σ) [(0, .ref (zo κ.1 0)), (1, .int v1)] 0 [] := by
  unfold F_X9_isKernel at h
  refine z_iconst (v := (0 : Int32)) X.1 dX9_isKernel_0 (by decide) ?_
  refine z_istore_n (i := 2) (lv' := [(2, .int (0 : Int32)), (0, .ref (zo κ.1 0)), (1, .int v1)]) X.1 dX9_isKernel_1 rfl (by decide) rfl ?_
  refine z_iconst (v := (0 : Int32)) X.1 dX9_isKernel_2 (by decide) ?_
  refine z_istore_n (i := 3) (lv' := [(3, .int (0 : Int32)), (2, .int (0 : Int32)), (0, .ref (zo κ.1 0)), (1, .int v1)]) X.1 dX9_isKernel_3 rfl (by decide) rfl ?_
  exact z_sub [2, 3, 1, 0] rfl (B_X9_isKernel_4 X zF _ _ _ h)
theorem C_X9_isKernel {ζ : zW} (hZ : zDis ζ zM) {v1 : Int32} {σ σ' : S3} {r : Int32} (h : F_X9_isKernel v1 σ = some (r, σ')) : zMet ζ zM 1 yX9_isKernel cX9_isKernel 8 (some .boolean) [.ref (zo ζ 0), .int v1] σ (some (.int r)) σ' :=
  zMet_of pn_X9 hZ (Nat.le_of_ble_eq_true rfl) (fun κ e X => by subst e; exact B_X9_isKernel_0 X h)
