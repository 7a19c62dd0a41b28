noncomputable def Fb_X3_advice_6 (v2 : Int32) (v3 : Int32) (K6 : Int32 → Int32 → S3 → R3) (v4 : Int32) (v5 : Int32) (σ : S3) : R3 :=
  if (4 : Int32) ≤ v5 then (some (v3, σ))
  else (if v4 ≤ (0 : Int32) then (some (v3, σ))
  else (bd (F_X3_simple (v4 - v4 / (10 : Int32) * (10 : Int32)) v2 σ) (fun r381 s382 => if r381 < (0 : Int32) then (nm (v4 / (10 : Int32)) (fun x494 => nm (v5 + (1 : Int32)) (fun x495 => K6 x494 x495 s382)))
  else (some (r381, s382)))))
noncomputable def F_X3_advice_6 (v2 : Int32) (v3 : Int32) (n : Nat) : Int32 → Int32 → S3 → R3 := zl2 (Fb_X3_advice_6 v2 v3) n
set_option maxHeartbeats 4000000 in
set_option maxRecDepth 100000 in
theorem B_X3_advice_6 {κ : zT} {σ' : S3} {r : Int32} (X : zC κ zX RX3 cX3_advice 7 (some .int) 26 (some (.int r)) σ') {v2 : Int32} {v3 : Int32} : ∀ (n : Nat) (v4 : Int32) (v5 : Int32) (σ : S3), F_X3_advice_6 v2 v3 n v4 v5 σ = some (r, σ') → Z κ 7 (zX (ze κ.1) σ) [(0, .ref (zo κ.1 4)), (2, .int v2), (3, .int v3), (4, .int v4), (5, .int v5)] 6 [] := by
  intro n
  induction n with
  | zero =>
    intro v4 v5 σ h
    cases (show (none : R3) = some (r, σ') from h)
  | succ n ih =>
    intro v4 v5 σ h
    have hK6 := ih
    have h : Fb_X3_advice_6 v2 v3 (F_X3_advice_6 v2 v3 n) v4 v5 σ = some (r, σ') := h
    unfold Fb_X3_advice_6 at h
    refine z_iload X.1 dX3_advice_6 4 rfl ?_
    refine z_iconst (v := (4 : Int32)) X.1 dX3_advice_8 (by decide) ?_
    refine z_icmp_ge (tgt := 50) X.1 dX3_advice_9 (by decide) h (fun q379 h => ?_) (fun q379 h => ?_)
    · refine z_iload_n (i := 3) X.1 dX3_advice_50 2 rfl rfl ?_
      exact z_iret X dX3_advice_51 h
    · refine z_iload X.1 dX3_advice_12 3 rfl ?_
      refine z_if_le (tgt := 50) X.1 dX3_advice_14 (by decide) h (fun q380 h => ?_) (fun q380 h => ?_)
      · refine z_iload_n (i := 3) X.1 dX3_advice_50 2 rfl rfl ?_
        exact z_iret X dX3_advice_51 h
      · refine z_aload_n (i := 0) X.1 dX3_advice_17 0 rfl rfl ?_
        refine z_iload X.1 dX3_advice_18 3 rfl ?_
        refine z_bipush (v := (10 : Int32)) X.1 dX3_advice_20 (by decide) ?_
        refine z_irem X.1 dX3_advice_22 (by decide) ?_
        refine z_iload_n (i := 2) X.1 dX3_advice_23 1 rfl rfl ?_
        obtain ⟨r381, s382, hc383, h⟩ := bd_inv h
        refine cl_X3_23 (d1 := 25) (b := zo κ.1 4) (As := [.int (v4 - v4 / (10 : Int32) * (10 : Int32)), .int v2]) (rest := []) X.1 (by decide) (C_X3_simple X.2.1 hc383) rcX3 rfl rfl (Nat.le_of_ble_eq_true rfl) dX3_advice_24 ?_
        refine z_istore (i := 6) (lv' := [(6, .int r381), (0, .ref (zo κ.1 4)), (2, .int v2), (3, .int v3), (4, .int v4), (5, .int v5)]) X.1 dX3_advice_27 (by decide) rfl ?_
        refine z_iload X.1 dX3_advice_29 0 rfl ?_
        refine z_if_lt (tgt := 37) X.1 dX3_advice_31 (by decide) h (fun q493 h => ?_) (fun q493 h => ?_)
        · refine z_iload X.1 dX3_advice_37 4 rfl ?_
          refine z_bipush (v := (10 : Int32)) X.1 dX3_advice_39 (by decide) ?_
          refine z_idiv X.1 dX3_advice_41 (by decide) ?_
          refine z_istore_m (i := 4) (lv' := fun x494 => [(4, .int x494), (6, .int r381), (0, .ref (zo κ.1 4)), (2, .int v2), (3, .int v3), (5, .int v5)]) X.1 dX3_advice_42 (by decide) (fun _ => rfl) h (fun x494 h => ?_)
          refine z_iinc_m (v := (1 : Int32)) (lv' := fun x495 => [(5, .int x495), (4, .int x494), (6, .int r381), (0, .ref (zo κ.1 4)), (2, .int v2), (3, .int v3)]) X.1 dX3_advice_44 5 rfl (by decide) (by decide) (fun _ => rfl) h (fun x495 h => ?_)
          refine z_goto (tgt := 6) X.1 dX3_advice_47 (by decide) ?_
          exact z_sub [3, 4, 5, 1, 0] rfl (hK6 _ _ _ h)
        · refine z_iload X.1 dX3_advice_34 0 rfl ?_
          exact z_iret X dX3_advice_36 h
noncomputable def F_X3_advice (v1 : Int32) (v2 : Int32) (v3 : Int32) (σ : S3) : R3 :=
  F_X3_advice_6 v2 v3 zF v1 (0 : Int32) σ
set_option maxHeartbeats 4000000 in
set_option maxRecDepth 100000 in
theorem B_X3_advice_0 {κ : zT} {σ' : S3} {r : Int32} (X : zC κ zX RX3 cX3_advice 7 (some .int) 26 (some (.int r)) σ') {v1 : Int32} {v2 : Int32} {v3 : Int32} {σ : S3} (h : F_X3_advice v1 v2 v3 σ = some (r, σ')) : Z κ 7 (zX (ze κ.1) σ) [(0, .ref (zo κ.1 4)), (1, .int v1), (2, .int v2), (3, .int v3)] 0 [] := by
  unfold F_X3_advice at h
  refine z_iload_n (i := 1) X.1 dX3_advice_0 1 rfl rfl ?_
  refine z_istore (i := 4) (lv' := [(4, .int v1), (0, .ref (zo κ.1 4)), (1, .int v1), (2, .int v2), (3, .int v3)]) X.1 dX3_advice_1 (by decide) rfl ?_
  refine z_iconst (v := (0 : Int32)) X.1 dX3_advice_3 (by decide) ?_
  refine z_istore (i := 5) (lv' := [(5, .int (0 : Int32)), (4, .int v1), (0, .ref (zo κ.1 4)), (1, .int v1), (2, .int v2), (3, .int v3)]) X.1 dX3_advice_4 (by decide) rfl ?_
  exact z_sub [2, 4, 5, 1, 0] rfl (B_X3_advice_6 X zF _ _ _ h)
theorem C_X3_advice {ζ : zW} (hZ : zDis ζ zX) {v1 : Int32} {v2 : Int32} {v3 : Int32} {σ σ' : S3} {r : Int32} (h : F_X3_advice v1 v2 v3 σ = some (r, σ')) : zMet ζ zX 26 yX3_advice cX3_advice 7 (some .int) [.ref (zo ζ 4), .int v1, .int v2, .int v3] σ (some (.int r)) σ' :=
  zMet_of pn_X3 hZ (Nat.le_of_ble_eq_true rfl) (fun κ e X => by subst e; exact B_X3_advice_0 X h)
noncomputable def F_X4_isMissing (c : Nat) (σ : S3) : R3 :=
  if (σ c 0 0) = (0 : Int32) then (some ((1 : Int32), σ))
  else (some ((0 : Int32), σ))
set_option maxHeartbeats 4000000 in
set_option maxRecDepth 100000 in
theorem B_X4_isMissing_0 {κ : zT} {σ' : S3} {r : Int32} (X : zC κ zX RX4 cX4_isMissing 1 (some .boolean) 0 (some (.int r)) σ') {c : Nat} (hc : zSh c) {σ : S3} (h : F_X4_isMissing c σ = some (r, σ')) : Z κ 1 (zX (ze κ.1) σ) [(0, .ref (zo κ.1 c))] 0 [] := by
  unfold F_X4_isMissing at h
  refine z_aload_n (i := 0) X.1 dX4_isMissing_0 0 rfl rfl ?_
  refine g_X4_bits hc X.1 tw256 dX4_isMissing_1 ?_
  refine z_if_ne (tgt := 11) X.1 dX4_isMissing_4 (by decide) h (fun q496 h => ?_) (fun q496 h => ?_)
  · refine z_iconst (v := (0 : Int32)) X.1 dX4_isMissing_11 (by decide) ?_
    exact z_zret X dX4_isMissing_12 (Or.inl rfl) h
  · refine z_iconst (v := (1 : Int32)) X.1 dX4_isMissing_7 (by decide) ?_
    refine z_goto (tgt := 12) X.1 dX4_isMissing_8 (by decide) ?_
    exact z_zret X dX4_isMissing_12 (Or.inr rfl) h
theorem C_X4_isMissing {ζ : zW} (hZ : zDis ζ zX) {c : Nat} (hc : zSh c) {σ σ' : S3} {r : Int32} (h : F_X4_isMissing c  σ = some (r, σ')) : zMet ζ zX 0 yX4_isMissing cX4_isMissing 1 (some .boolean) [.ref (zo ζ c)] σ (some (.int r)) σ' :=
  zMet_of pn_X4 hZ (Nat.le_of_ble_eq_true rfl) (fun κ e X => by subst e; exact B_X4_isMissing_0 X hc h)
noncomputable def F_X4_renew (c : Nat) (v1 : Int32) (v2 : Int32) (σ : S3) : R3 :=
  nm (up σ c 0 0 v1) (fun s497 => nm (up s497 c 1 0 v2) (fun s498 => nm (fillA s498 c 2 24 (0 : Int32)) (fun s499 => some ((0 : Int32), s499))))
set_option maxHeartbeats 4000000 in
set_option maxRecDepth 100000 in
theorem B_X4_renew_0 {κ : zT} {σ' : S3} {r : Int32} (X : zC κ zX RX4 cX4_renew 3 none 1 none σ') {c : Nat} (hc : zSh c) {v1 : Int32} {v2 : Int32} {σ : S3} (h : F_X4_renew c v1 v2 σ = some (r, σ')) : Z κ 3 (zX (ze κ.1) σ) [(0, .ref (zo κ.1 c)), (1, .int v1), (2, .int v2)] 0 [] := by
  unfold F_X4_renew at h
  refine z_aload_n (i := 0) X.1 dX4_renew_0 0 rfl rfl ?_
  refine z_iload_n (i := 1) X.1 dX4_renew_1 1 rfl rfl ?_
  refine p_X4_bits hc X.1 X.2.1 tw256 dX4_renew_2 h (fun s497 h => ?_)
  refine z_aload_n (i := 0) X.1 dX4_renew_5 0 rfl rfl ?_
  refine z_iload_n (i := 2) X.1 dX4_renew_6 2 rfl rfl ?_
  refine p_X4_size hc X.1 X.2.1 tw258 dX4_renew_7 h (fun s498 h => ?_)
  refine z_aload_n (i := 0) X.1 dX4_renew_10 0 rfl rfl ?_
  refine g_X4_row hc X.1 tw260 dX4_renew_11 ?_
  refine z_iconst (v := (0 : Int32)) X.1 dX4_renew_14 (by decide) ?_
  refine fi_X4_row hc X.1 (by decide) X.2.1 tw731 (Nat.le_of_ble_eq_true rfl) dX4_renew_15 h (fun s499 h => ?_)
  exact z_vret X dX4_renew_18 h
theorem C_X4_renew {ζ : zW} (hZ : zDis ζ zX) {c : Nat} (hc : zSh c) {v1 : Int32} {v2 : Int32} {σ σ' : S3} {r : Int32} (h : F_X4_renew c v1 v2 σ = some (r, σ')) : zMet ζ zX 1 yX4_renew cX4_renew 3 none [.ref (zo ζ c), .int v1, .int v2] σ none σ' :=
  zMet_of pn_X4 hZ (Nat.le_of_ble_eq_true rfl) (fun κ e X => by subst e; exact B_X4_renew_0 X hc h)
noncomputable def F_X4_write (c : Nat) (v1 : Int32) (v2 : Int32) (σ : S3) : R3 :=
  nm ((32 : Int32) - (σ c 0 0)) (fun x500 => ck v1 24 (nm (up σ c 2 (ix v1) ((v2 <<< (x500 &&& 31)) >>> (x500 &&& 31))) (fun s501 => some ((0 : Int32), s501))))
set_option maxHeartbeats 4000000 in
set_option maxRecDepth 100000 in
theorem B_X4_write_0 {κ : zT} {σ' : S3} {r : Int32} (X : zC κ zX RX4 cX4_write 4 none 0 none σ') {c : Nat} (hc : zSh c) {v1 : Int32} {v2 : Int32} {σ : S3} (h : F_X4_write c v1 v2 σ = some (r, σ')) : Z κ 4 (zX (ze κ.1) σ) [(0, .ref (zo κ.1 c)), (1, .int v1), (2, .int v2)] 0 [] := by
  unfold F_X4_write at h
  refine z_bipush (v := (32 : Int32)) X.1 dX4_write_0 (by decide) ?_
  refine z_aload_n (i := 0) X.1 dX4_write_2 0 rfl rfl ?_
  refine g_X4_bits hc X.1 tw256 dX4_write_3 ?_
  refine z_isub X.1 dX4_write_6 ?_
  refine z_istore_nn (i := 3) (lv' := fun x500 => [(3, .int x500), (0, .ref (zo κ.1 c)), (1, .int v1), (2, .int v2)]) X.1 dX4_write_7 rfl (by decide) (fun _ => rfl) h (fun x500 h => ?_)
  refine z_aload_n (i := 0) X.1 dX4_write_8 1 rfl rfl ?_
  refine g_X4_row hc X.1 tw260 dX4_write_9 ?_
  refine z_iload_n (i := 1) X.1 dX4_write_12 2 rfl rfl ?_
  refine z_iload_n (i := 2) X.1 dX4_write_13 3 rfl rfl ?_
  refine z_iload_n (i := 3) X.1 dX4_write_14 0 rfl rfl ?_
  refine z_ishl X.1 dX4_write_15 ?_
  refine z_iload_n (i := 3) X.1 dX4_write_16 0 rfl rfl ?_
  refine z_ishr X.1 dX4_write_17 ?_
  refine as_X4_row hc X.1 X.2.1 dX4_write_18 h (fun s501 h => ?_)
  exact z_vret X dX4_write_19 h
theorem C_X4_write {ζ : zW} (hZ : zDis ζ zX) {c : Nat} (hc : zSh c) {v1 : Int32} {v2 : Int32} {σ σ' : S3} {r : Int32} (h : F_X4_write c v1 v2 σ = some (r, σ')) : zMet ζ zX 0 yX4_write cX4_write 4 none [.ref (zo ζ c), .int v1, .int v2] σ none σ' :=
  zMet_of pn_X4 hZ (Nat.le_of_ble_eq_true rfl) (fun κ e X => by subst e; exact B_X4_write_0 X hc h)
noncomputable def F_X4_hasRun (c : Nat) (v1 : Int32) (v2 : Int32) (σ : S3) : R3 :=
  if v2 < (0 : Int32) then (some ((0 : Int32), σ))
  else (if v1 < (0 : Int32) then (some ((0 : Int32), σ))
  else (if (σ c 1 0) < v2 then (some ((0 : Int32), σ))
  else (if ((σ c 1 0) - v2) < v1 then (some ((0 : Int32), σ))
  else (some ((1 : Int32), σ)))))
set_option maxHeartbeats 4000000 in
set_option maxRecDepth 100000 in
theorem B_X4_hasRun_0 {κ : zT} {σ' : S3} {r : Int32} (X : zC κ zX RX4 cX4_hasRun 3 (some .boolean) 0 (some (.int r)) σ') {c : Nat} (hc : zSh c) {v1 : Int32} {v2 : Int32} {σ : S3} (h : F_X4_hasRun c v1 v2 σ = some (r, σ')) : Z κ 3 (zX (ze κ.1) σ) [(0, .ref (zo κ.1 c)), (1, .int v1), (2, .int v2)] 0 [] := by
  unfold F_X4_hasRun at h
  refine z_iload_n (i := 2) X.1 dX4_hasRun_0 2 rfl rfl ?_
  refine z_if_lt (tgt := 30) X.1 dX4_hasRun_1 (by decide) h (fun q502 h => ?_) (fun q502 h => ?_)
  · refine z_iconst (v := (0 : Int32)) X.1 dX4_hasRun_30 (by decide) ?_
    exact z_zret X dX4_hasRun_31 (Or.inl rfl) h
  · refine z_iload_n (i := 1) X.1 dX4_hasRun_4 1 rfl rfl ?_
    refine z_if_lt (tgt := 30) X.1 dX4_hasRun_5 (by decide) h (fun q503 h => ?_) (fun q503 h => ?_)
    · refine z_iconst (v := (0 : Int32)) X.1 dX4_hasRun_30 (by decide) ?_
      exact z_zret X dX4_hasRun_31 (Or.inl rfl) h
    · refine z_iload_n (i := 2) X.1 dX4_hasRun_8 2 rfl rfl ?_
      refine z_aload_n (i := 0) X.1 dX4_hasRun_9 0 rfl rfl ?_
      refine g_X4_size hc X.1 tw258 dX4_hasRun_10 ?_
      refine z_icmp_gt (tgt := 30) X.1 dX4_hasRun_13 (by decide) h (fun q504 h => ?_) (fun q504 h => ?_)
      · refine z_iconst (v := (0 : Int32)) X.1 dX4_hasRun_30 (by decide) ?_
        exact z_zret X dX4_hasRun_31 (Or.inl rfl) h
      · refine z_iload_n (i := 1) X.1 dX4_hasRun_16 1 rfl rfl ?_
        refine z_aload_n (i := 0) X.1 dX4_hasRun_17 0 rfl rfl ?_
        refine g_X4_size hc X.1 tw258 dX4_hasRun_18 ?_
        refine z_iload_n (i := 2) X.1 dX4_hasRun_21 2 rfl rfl ?_
        refine z_isub X.1 dX4_hasRun_22 ?_
        refine z_icmp_gt (tgt := 30) X.1 dX4_hasRun_23 (by decide) h (fun q505 h => ?_) (fun q505 h => ?_)
        · refine z_iconst (v := (0 : Int32)) X.1 dX4_hasRun_30 (by decide) ?_
          exact z_zret X dX4_hasRun_31 (Or.inl rfl) h
        · refine z_iconst (v := (1 : Int32)) X.1 dX4_hasRun_26 (by decide) ?_
          refine z_goto (tgt := 31) X.1 dX4_hasRun_27 (by decide) ?_
          exact z_zret X dX4_hasRun_31 (Or.inr rfl) h
theorem C_X4_hasRun {ζ : zW} (hZ : zDis ζ zX) {c : Nat} (hc : zSh c) {v1 : Int32} {v2 : Int32} {σ σ' : S3} {r : Int32} (h : F_X4_hasRun c v1 v2 σ = some (r, σ')) : zMet ζ zX 0 yX4_hasRun cX4_hasRun 3 (some .boolean) [.ref (zo ζ c), .int v1, .int v2] σ (some (.int r)) σ' :=
  zMet_of pn_X4 hZ (Nat.le_of_ble_eq_true rfl) (fun κ e X => by subst e; exact B_X4_hasRun_0 X hc h)
noncomputable def F_X5_atFirst (v0 : Int32) (σ : S3) : R3 :=
  some (v0 ||| ((1 : Int32) <<< ((v0 + (4 : Int32)) &&& 31)), σ)
set_option maxHeartbeats 4000000 in
set_option maxRecDepth 100000 in
theorem B_X5_atFirst_0 {κ : zT} {σ' : S3} {r : Int32} (X : zC κ zX RX5 cX5_atFirst 1 (some .int) 0 (some (.int r)) σ') {v0 : Int32} {σ : S3} (h : F_X5_atFirst v0 σ = some (r, σ')) : Z κ 1 (zX (ze κ.1) σ) [(0, .int v0)] 0 [] := by
  unfold F_X5_atFirst at h
  refine z_iload_n (i := 0) X.1 dX5_atFirst_0 0 rfl rfl ?_
  refine z_iconst (v := (1 : Int32)) X.1 dX5_atFirst_1 (by decide) ?_
  refine z_iload_n (i := 0) X.1 dX5_atFirst_2 0 rfl rfl ?_
  refine z_iconst (v := (4 : Int32)) X.1 dX5_atFirst_3 (by decide) ?_
  refine z_iadd X.1 dX5_atFirst_4 ?_
  refine z_ishl X.1 dX5_atFirst_5 ?_
  refine z_ior X.1 dX5_atFirst_6 ?_
  exact z_iret X dX5_atFirst_7 h
theorem C_X5_atFirst {ζ : zW} (hZ : zDis ζ zX) {v0 : Int32} {σ σ' : S3} {r : Int32} (h : F_X5_atFirst v0 σ = some (r, σ')) : zMet ζ zX 0 yX5_atFirst cX5_atFirst 1 (some .int) [.int v0] σ (some (.int r)) σ' :=
  zMet_of pn_X5 hZ (Nat.le_of_ble_eq_true rfl) (fun κ e X => by subst e; exact B_X5_atFirst_0 X h)
noncomputable def Fb_X6_add_3 (v1 : Int64) (v3 : Int32) (K3 : Int32 → S3 → R3) (v4 : Int32) (σ : S3) : R3 :=
  if v3 ≤ v4 then (some ((0 : Int32), σ))
  else (if (60 : Int32) ≤ (σ 7 0 0) then (some ((0 : Int32), σ))
  else (ck (σ 7 0 0) 60 (nm (up σ 7 1 (ix (σ 7 0 0)) ((Int64.toInt32 ((Int64.toUInt64 v1 >>> ((Int32.toInt64 ((8 : Int32) * v4)).toUInt64 &&& Int64.toUInt64 63)).toInt64)) &&& (255 : Int32))) (fun s508 => nm (up s508 7 0 0 ((s508 7 0 0) + (1 : Int32))) (fun s509 => nm (v4 + (1 : Int32)) (fun x510 => K3 x510 s509))))))
noncomputable def F_X6_add_3 (v1 : Int64) (v3 : Int32) (n : Nat) : Int32 → S3 → R3 := zl1 (Fb_X6_add_3 v1 v3) n
set_option maxHeartbeats 4000000 in
set_option maxRecDepth 100000 in
theorem B_X6_add_3 {κ : zT} {σ' : S3} {r : Int32} (X : zC κ zX RX6 cX6_add 5 none 0 none σ') {v1 : Int64} {v3 : Int32} : ∀ (n : Nat) (v4 : Int32) (σ : S3), F_X6_add_3 v1 v3 n v4 σ = some (r, σ') → Z κ 5 (zX (ze κ.1) σ) [(0, .ref (zo κ.1 7)), (1, .long v1), (3, .int v3), (4, .int v4)] 3 [] := by
  intro n
  induction n with
  | zero =>
    intro v4 σ h
    cases (show (none : R3) = some (r, σ') from h)
  | succ n ih =>
    intro v4 σ h
    have hK3 := ih
    have h : Fb_X6_add_3 v1 v3 (F_X6_add_3 v1 v3 n) v4 σ = some (r, σ') := h
    unfold Fb_X6_add_3 at h
    refine z_iload X.1 dX6_add_3 3 rfl ?_
    refine z_iload_n (i := 3) X.1 dX6_add_5 2 rfl rfl ?_
    refine z_icmp_ge (tgt := 55) X.1 dX6_add_6 (by decide) h (fun q506 h => ?_) (fun q506 h => ?_)
    · exact z_vret X dX6_add_55 h
    · refine z_aload_n (i := 0) X.1 dX6_add_9 0 rfl rfl ?_
      refine g_X6_length X.1 tw241 dX6_add_10 ?_
      refine z_bipush (v := (60 : Int32)) X.1 dX6_add_13 (by decide) ?_
      refine z_icmp_ge (tgt := 55) X.1 dX6_add_15 (by decide) h (fun q507 h => ?_) (fun q507 h => ?_)
      · exact z_vret X dX6_add_55 h
      · refine z_aload_n (i := 0) X.1 dX6_add_18 0 rfl rfl ?_
        refine g_X6_bytes X.1 tw243 dX6_add_19 ?_
        refine z_aload_n (i := 0) X.1 dX6_add_22 0 rfl rfl ?_
        refine g_X6_length X.1 tw241 dX6_add_23 ?_
        refine z_lload_n (i := 1) X.1 dX6_add_26 1 rfl rfl ?_
        refine z_bipush (v := (8 : Int32)) X.1 dX6_add_27 (by decide) ?_
        refine z_iload X.1 dX6_add_29 3 rfl ?_
        refine z_imul X.1 dX6_add_31 ?_
        refine z_lushr X.1 dX6_add_32 ?_
        refine z_l2i X.1 dX6_add_33 ?_
        refine z_sipush (v := (255 : Int32)) X.1 dX6_add_34 (by decide) ?_
        refine z_iand X.1 dX6_add_37 ?_
        refine as_X6_bytes X.1 X.2.1 dX6_add_38 h (fun s508 h => ?_)
        refine z_aload_n (i := 0) X.1 dX6_add_39 0 rfl rfl ?_
        refine z_dup X.1 dX6_add_40 rfl ?_
        refine g_X6_length X.1 tw241 dX6_add_41 ?_
        refine z_iconst (v := (1 : Int32)) X.1 dX6_add_44 (by decide) ?_
        refine z_iadd X.1 dX6_add_45 ?_
        refine p_X6_length X.1 X.2.1 tw241 dX6_add_46 h (fun s509 h => ?_)
        refine z_iinc_m (v := (1 : Int32)) (lv' := fun x510 => [(4, .int x510), (0, .ref (zo κ.1 7)), (1, .long v1), (3, .int v3)]) X.1 dX6_add_49 3 rfl (by decide) (by decide) (fun _ => rfl) h (fun x510 h => ?_)
        refine z_goto (tgt := 3) X.1 dX6_add_52 (by decide) ?_
        exact z_sub [1, 2, 3, 0] rfl (hK3 _ _ h)
noncomputable def F_X6_add (v1 : Int64) (v3 : Int32) (σ : S3) : R3 :=
  F_X6_add_3 v1 v3 zF (0 : Int32) σ
set_option maxHeartbeats 4000000 in
set_option maxRecDepth 100000 in
theorem B_X6_add_0 {κ : zT} {σ' : S3} {r : Int32} (X : zC κ zX RX6 cX6_add 5 none 0 none σ') {v1 : Int64} {v3 : Int32} {σ : S3} (h : F_X6_add v1 v3 σ = some (r, σ')) : Z κ 5 (zX (ze κ.1) σ) [(0, .ref (zo κ.1 7)), (1, .long v1), (3, .int v3)] 0 [] := by
  unfold F_X6_add at h
  refine z_iconst (v := (0 : Int32)) X.1 dX6_add_0 (by decide) ?_
  refine z_istore (i := 4) (lv' := [(4, .int (0 : Int32)), (0, .ref (zo κ.1 7)), (1, .long v1), (3, .int v3)]) X.1 dX6_add_1 (by decide) rfl ?_
  exact z_sub [1, 2, 3, 0] rfl (B_X6_add_3 X zF _ _ h)
theorem C_X6_add {ζ : zW} (hZ : zDis ζ zX) {v1 : Int64} {v3 : Int32} {σ σ' : S3} {r : Int32} (h : F_X6_add v1 v3 σ = some (r, σ')) : zMet ζ zX 0 yX6_add cX6_add 5 none [.ref (zo ζ 7), .long v1, .int v3] σ none σ' :=
  zMet_of pn_X6 hZ (Nat.le_of_ble_eq_true rfl) (fun κ e X => by subst e; exact B_X6_add_0 X h)
noncomputable def F_X6_isLetter (v0 : Int32) (σ : S3) : R3 :=
  if v0 < (97 : Int32) then (some ((0 : Int32), σ))
  else (if (106 : Int32) < v0 then (some ((0 : Int32), σ))
  else (some ((1 : Int32), σ)))
set_option maxHeartbeats 4000000 in
set_option maxRecDepth 100000 in
theorem B_X6_isLetter_0 {κ : zT} {σ' : S3} {r : Int32} (X : zC κ zX RX6 cX6_isLetter 1 (some .boolean) 0 (some (.int r)) σ') {v0 : Int32} {σ : S3} (h : F_X6_isLetter v0 σ = some (r, σ')) : Z κ 1 (zX (ze κ.1) σ) [(0, .int v0)] 0 [] := by
  unfold F_X6_isLetter at h
  refine z_iload_n (i := 0) X.1 dX6_isLetter_0 0 rfl rfl ?_
  refine z_bipush (v := (97 : Int32)) X.1 dX6_isLetter_1 (by decide) ?_
  refine z_icmp_lt (tgt := 16) X.1 dX6_isLetter_3 (by decide) h (fun q522 h => ?_) (fun q522 h => ?_)
  · refine z_iconst (v := (0 : Int32)) X.1 dX6_isLetter_16 (by decide) ?_
    exact z_zret X dX6_isLetter_17 (Or.inl rfl) h
  · refine z_iload_n (i := 0) X.1 dX6_isLetter_6 0 rfl rfl ?_
    refine z_bipush (v := (106 : Int32)) X.1 dX6_isLetter_7 (by decide) ?_
    refine z_icmp_gt (tgt := 16) X.1 dX6_isLetter_9 (by decide) h (fun q523 h => ?_) (fun q523 h => ?_)
    · refine z_iconst (v := (0 : Int32)) X.1 dX6_isLetter_16 (by decide) ?_
      exact z_zret X dX6_isLetter_17 (Or.inl rfl) h
    · refine z_iconst (v := (1 : Int32)) X.1 dX6_isLetter_12 (by decide) ?_
      refine z_goto (tgt := 17) X.1 dX6_isLetter_13 (by decide) ?_
      exact z_zret X dX6_isLetter_17 (Or.inr rfl) h
theorem C_X6_isLetter {ζ : zW} (hZ : zDis ζ zX) {v0 : Int32} {σ σ' : S3} {r : Int32} (h : F_X6_isLetter v0 σ = some (r, σ')) : zMet ζ zX 0 yX6_isLetter cX6_isLetter 1 (some .boolean) [.int v0] σ (some (.int r)) σ' :=
  zMet_of pn_X6 hZ (Nat.le_of_ble_eq_true rfl) (fun κ e X => by subst e; exact B_X6_isLetter_0 X h)
noncomputable def F_X6_fits (v1 : Int32) (σ : S3) : R3 :=
  ck v1 60 (nm (σ 7 1 (ix v1)) (fun x516 => nm (v1 - v1 / (4 : Int32) * (4 : Int32)) (fun x517 => (if x517 = (0 : Int32) then (bd (F_X6_isLetter x516 σ) (fun r519 s520 => if r519 = (0 : Int32) then (some ((0 : Int32), s520))
  else (if (12 : Int32) ≤ (v1 / (4 : Int32)) then (some ((0 : Int32), s520))
  else (some ((1 : Int32), s520)))))
  else (if x517 = (1 : Int32) then (if x516 = (45 : Int32) then (some ((1 : Int32), σ))
  else (if x516 = (62 : Int32) then (some ((1 : Int32), σ))
  else (if x516 = (60 : Int32) then (some ((1 : Int32), σ))
  else (some ((0 : Int32), σ)))))
  else (if x517 = (2 : Int32) then (bd (F_X6_isLetter x516 σ) (fun r531 s532 => if r531 = (0 : Int32) then (some ((0 : Int32), s532))
  else (ck (v1 - (2 : Int32)) 60 (if x516 = (s532 7 1 (ix (v1 - (2 : Int32)))) then (some ((0 : Int32), s532))
  else (some ((1 : Int32), s532))))))
  else (if x516 = (44 : Int32) then (some ((1 : Int32), σ))
  else (some ((0 : Int32), σ)))))))))
set_option maxHeartbeats 4000000 in
set_option maxRecDepth 100000 in
theorem B_X6_fits_0 {κ : zT} {σ' : S3} {r : Int32} (X : zC κ zX RX6 cX6_fits 3 (some .boolean) 1 (some (.int r)) σ') {v1 : Int32} {σ : S3} (h : F_X6_fits v1 σ = some (r, σ')) : Z κ 3 (zX (ze κ.1) σ) [(0, .ref (zo κ.1 7)), (1, .int v1)] 0 [] := by
  unfold F_X6_fits at h
  refine z_aload_n (i := 0) X.1 dX6_fits_0 0 rfl rfl ?_
  refine g_X6_bytes X.1 tw243 dX6_fits_1 ?_
  refine z_iload_n (i := 1) X.1 dX6_fits_4 1 rfl rfl ?_
  refine al_X6_bytes X.1 dX6_fits_5 h (fun h => ?_)
  refine z_istore_nn (i := 2) (lv' := fun x516 => [(2, .int x516), (0, .ref (zo κ.1 7)), (1, .int v1)]) X.1 dX6_fits_6 rfl (by decide) (fun _ => rfl) h (fun x516 h => ?_)
  refine z_iload_n (i := 1) X.1 dX6_fits_7 2 rfl rfl ?_
  refine z_iconst (v := (4 : Int32)) X.1 dX6_fits_8 (by decide) ?_
  refine z_irem X.1 dX6_fits_9 (by decide) ?_
  refine z_top h (fun x517 h => ?_)
  by_cases q0 : x517 = (0 : Int32)
  · rw [if_pos q0] at h
    refine z_tabIn (tgt := 36) X.1 dX6_fits_10 q0 (by decide) (by decide) rfl (by decide) ?_
    refine z_iload_n (i := 2) X.1 dX6_fits_36 0 rfl rfl ?_
    obtain ⟨r519, s520, hc521, h⟩ := bd_inv h
    refine cl_X6_23 (d1 := 0) (As := [.int x516]) (rest := []) X.1 (by decide) (C_X6_isLetter X.2.1 hc521) rfl rfl (Nat.le_of_ble_eq_true rfl) dX6_fits_37 ?_
    refine z_if_eq (tgt := 55) X.1 dX6_fits_40 (by decide) h (fun q524 h => ?_) (fun q524 h => ?_)
    · refine z_iconst (v := (0 : Int32)) X.1 dX6_fits_55 (by decide) ?_
      exact z_zret X dX6_fits_56 (Or.inl rfl) h
    · refine z_iload_n (i := 1) X.1 dX6_fits_43 2 rfl rfl ?_
      refine z_iconst (v := (4 : Int32)) X.1 dX6_fits_44 (by decide) ?_
      refine z_idiv X.1 dX6_fits_45 (by decide) ?_
      refine z_bipush (v := (12 : Int32)) X.1 dX6_fits_46 (by decide) ?_
      refine z_icmp_ge (tgt := 55) X.1 dX6_fits_48 (by decide) h (fun q525 h => ?_) (fun q525 h => ?_)
      · refine z_iconst (v := (0 : Int32)) X.1 dX6_fits_55 (by decide) ?_
        exact z_zret X dX6_fits_56 (Or.inl rfl) h
      · refine z_iconst (v := (1 : Int32)) X.1 dX6_fits_51 (by decide) ?_
        refine z_goto (tgt := 56) X.1 dX6_fits_52 (by decide) ?_
        exact z_zret X dX6_fits_56 (Or.inr rfl) h
  · rw [if_neg q0] at h
    by_cases q1 : x517 = (1 : Int32)
    · rw [if_pos q1] at h
      refine z_tabIn (tgt := 57) X.1 dX6_fits_10 q1 (by decide) (by decide) rfl (by decide) ?_
      refine z_iload_n (i := 2) X.1 dX6_fits_57 0 rfl rfl ?_
      refine z_bipush (v := (45 : Int32)) X.1 dX6_fits_58 (by decide) ?_
      refine z_icmp_eq (tgt := 75) X.1 dX6_fits_60 (by decide) h (fun q527 h => ?_) (fun q527 h => ?_)
      · refine z_iconst (v := (1 : Int32)) X.1 dX6_fits_75 (by decide) ?_
        refine z_goto (tgt := 80) X.1 dX6_fits_76 (by decide) ?_
        exact z_zret X dX6_fits_80 (Or.inr rfl) h
      · refine z_iload_n (i := 2) X.1 dX6_fits_63 0 rfl rfl ?_
        refine z_bipush (v := (62 : Int32)) X.1 dX6_fits_64 (by decide) ?_
        refine z_icmp_eq (tgt := 75) X.1 dX6_fits_66 (by decide) h (fun q528 h => ?_) (fun q528 h => ?_)
        · refine z_iconst (v := (1 : Int32)) X.1 dX6_fits_75 (by decide) ?_
          refine z_goto (tgt := 80) X.1 dX6_fits_76 (by decide) ?_
          exact z_zret X dX6_fits_80 (Or.inr rfl) h
        · refine z_iload_n (i := 2) X.1 dX6_fits_69 0 rfl rfl ?_
          refine z_bipush (v := (60 : Int32)) X.1 dX6_fits_70 (by decide) ?_
          refine z_icmp_ne (tgt := 79) X.1 dX6_fits_72 (by decide) h (fun q529 h => ?_) (fun q529 h => ?_)
          · refine z_iconst (v := (0 : Int32)) X.1 dX6_fits_79 (by decide) ?_
            exact z_zret X dX6_fits_80 (Or.inl rfl) h
          · refine z_iconst (v := (1 : Int32)) X.1 dX6_fits_75 (by decide) ?_
            refine z_goto (tgt := 80) X.1 dX6_fits_76 (by decide) ?_
            exact z_zret X dX6_fits_80 (Or.inr rfl) h
    · rw [if_neg q1] at h
      by_cases q2 : x517 = (2 : Int32)
      · rw [if_pos q2] at h
        refine z_tabIn (tgt := 81) X.1 dX6_fits_10 q2 (by decide) (by decide) rfl (by decide) ?_
        refine z_iload_n (i := 2) X.1 dX6_fits_81 0 rfl rfl ?_
        obtain ⟨r531, s532, hc533, h⟩ := bd_inv h
        refine cl_X6_23 (d1 := 0) (As := [.int x516]) (rest := []) X.1 (by decide) (C_X6_isLetter X.2.1 hc533) rfl rfl (Nat.le_of_ble_eq_true rfl) dX6_fits_82 ?_
        refine z_if_eq (tgt := 104) X.1 dX6_fits_85 (by decide) h (fun q534 h => ?_) (fun q534 h => ?_)
        · refine z_iconst (v := (0 : Int32)) X.1 dX6_fits_104 (by decide) ?_
          exact z_zret X dX6_fits_105 (Or.inl rfl) h
        · refine z_iload_n (i := 2) X.1 dX6_fits_88 0 rfl rfl ?_
          refine z_aload_n (i := 0) X.1 dX6_fits_89 1 rfl rfl ?_
          refine g_X6_bytes X.1 tw243 dX6_fits_90 ?_
          refine z_iload_n (i := 1) X.1 dX6_fits_93 2 rfl rfl ?_
          refine z_iconst (v := (2 : Int32)) X.1 dX6_fits_94 (by decide) ?_
          refine z_isub X.1 dX6_fits_95 ?_
          refine al_X6_bytes X.1 dX6_fits_96 h (fun h => ?_)
          refine z_icmp_eq (tgt := 104) X.1 dX6_fits_97 (by decide) h (fun q535 h => ?_) (fun q535 h => ?_)
          · refine z_iconst (v := (0 : Int32)) X.1 dX6_fits_104 (by decide) ?_
            exact z_zret X dX6_fits_105 (Or.inl rfl) h
          · refine z_iconst (v := (1 : Int32)) X.1 dX6_fits_100 (by decide) ?_
            refine z_goto (tgt := 105) X.1 dX6_fits_101 (by decide) ?_
            exact z_zret X dX6_fits_105 (Or.inr rfl) h
      · rw [if_neg q2] at h
        have t0 : x517.toInt ≠ 0 := tab_ne q0
        have t1 : x517.toInt ≠ 1 := tab_ne q1
        have t2 : x517.toInt ≠ 2 := tab_ne q2
        refine z_tabOut (tgt := 106) X.1 dX6_fits_10 (by omega) (by decide) ?_
        refine z_iload_n (i := 2) X.1 dX6_fits_106 0 rfl rfl ?_
        refine z_bipush (v := (44 : Int32)) X.1 dX6_fits_107 (by decide) ?_
        refine z_icmp_ne (tgt := 116) X.1 dX6_fits_109 (by decide) h (fun q536 h => ?_) (fun q536 h => ?_)
        · refine z_iconst (v := (0 : Int32)) X.1 dX6_fits_116 (by decide) ?_
          exact z_zret X dX6_fits_117 (Or.inl rfl) h
        · refine z_iconst (v := (1 : Int32)) X.1 dX6_fits_112 (by decide) ?_
          refine z_goto (tgt := 117) X.1 dX6_fits_113 (by decide) ?_
          exact z_zret X dX6_fits_117 (Or.inr rfl) h
theorem C_X6_fits {ζ : zW} (hZ : zDis ζ zX) {v1 : Int32} {σ σ' : S3} {r : Int32} (h : F_X6_fits v1 σ = some (r, σ')) : zMet ζ zX 1 yX6_fits cX6_fits 3 (some .boolean) [.ref (zo ζ 7), .int v1] σ (some (.int r)) σ' :=
  zMet_of pn_X6 hZ (Nat.le_of_ble_eq_true rfl) (fun κ e X => by subst e; exact B_X6_fits_0 X h)
noncomputable def Fb_X6_fault_2 (K2 : Int32 → S3 → R3) (v1 : Int32) (σ : S3) : R3 :=
  if (σ 7 0 0) ≤ v1 then (if ((σ 7 0 0) - (σ 7 0 0) / (4 : Int32) * (4 : Int32)) = (3 : Int32) then (some ((-1 : Int32), σ))
  else (some (σ 7 0 0, σ)))
  else (bd (F_X6_fits v1 σ) (fun r513 s514 => if r513 = (0 : Int32) then (some (v1, s514))
  else (nm (v1 + (1 : Int32)) (fun x538 => K2 x538 s514))))
noncomputable def F_X6_fault_2 (n : Nat) : Int32 → S3 → R3 := zl1 (Fb_X6_fault_2) n
set_option maxHeartbeats 4000000 in
set_option maxRecDepth 100000 in
theorem B_X6_fault_2 {κ : zT} {σ' : S3} {r : Int32} (X : zC κ zX RX6 cX6_fault 2 (some .int) 2 (some (.int r)) σ') : ∀ (n : Nat) (v1 : Int32) (σ : S3), F_X6_fault_2 n v1 σ = some (r, σ') → Z κ 2 (zX (ze κ.1) σ) [(0, .ref (zo κ.1 7)), (1, .int v1)] 2 [] := by
  intro n
  induction n with
  | zero =>
    intro v1 σ h
    cases (show (none : R3) = some (r, σ') from h)
  | succ n ih =>
    intro v1 σ h
    have hK2 := ih
    have h : Fb_X6_fault_2 (F_X6_fault_2 n) v1 σ = some (r, σ') := h
    unfold Fb_X6_fault_2 at h
    refine z_iload_n (i := 1) X.1 dX6_fault_2 1 rfl rfl ?_
    refine z_aload_n (i := 0) X.1 dX6_fault_3 0 rfl rfl ?_
    refine g_X6_length X.1 tw241 dX6_fault_4 ?_
    refine z_icmp_ge (tgt := 26) X.1 dX6_fault_7 (by decide) h (fun q511 h => ?_) (fun q511 h => ?_)
    · refine z_aload_n (i := 0) X.1 dX6_fault_26 0 rfl rfl ?_
      refine g_X6_length X.1 tw241 dX6_fault_27 ?_
      refine z_iconst (v := (4 : Int32)) X.1 dX6_fault_30 (by decide) ?_
      refine z_irem X.1 dX6_fault_31 (by decide) ?_
      refine z_iconst (v := (3 : Int32)) X.1 dX6_fault_32 (by decide) ?_
      refine z_icmp_ne (tgt := 40) X.1 dX6_fault_33 (by decide) h (fun q512 h => ?_) (fun q512 h => ?_)
      · refine z_aload_n (i := 0) X.1 dX6_fault_40 0 rfl rfl ?_
        refine g_X6_length X.1 tw241 dX6_fault_41 ?_
        exact z_iret X dX6_fault_44 h
      · refine z_iconst (v := (-1 : Int32)) X.1 dX6_fault_36 (by decide) ?_
        refine z_goto (tgt := 44) X.1 dX6_fault_37 (by decide) ?_
        exact z_iret X dX6_fault_44 h
    · refine z_aload_n (i := 0) X.1 dX6_fault_10 0 rfl rfl ?_
      refine z_iload_n (i := 1) X.1 dX6_fault_11 1 rfl rfl ?_
      obtain ⟨r513, s514, hc515, h⟩ := bd_inv h
      refine cl_X6_19 (d1 := 1) (b := zo κ.1 7) (As := [.int v1]) (rest := []) X.1 (by decide) (C_X6_fits X.2.1 hc515) rcX6 rfl rfl (Nat.le_of_ble_eq_true rfl) dX6_fault_12 ?_
      refine z_if_ne (tgt := 20) X.1 dX6_fault_15 (by decide) h (fun q537 h => ?_) (fun q537 h => ?_)
      · refine z_iinc_m (v := (1 : Int32)) (lv' := fun x538 => [(1, .int x538), (0, .ref (zo κ.1 7))]) X.1 dX6_fault_20 1 rfl (by decide) (by decide) (fun _ => rfl) h (fun x538 h => ?_)
        refine z_goto (tgt := 2) X.1 dX6_fault_23 (by decide) ?_
        exact z_sub [1, 0] rfl (hK2 _ _ h)
      · refine z_iload_n (i := 1) X.1 dX6_fault_18 1 rfl rfl ?_
        exact z_iret X dX6_fault_19 h
noncomputable def F_X6_fault (σ : S3) : R3 :=
  F_X6_fault_2 zF (0 : Int32) σ
set_option maxHeartbeats 4000000 in
set_option maxRecDepth 100000 in
theorem B_X6_fault_0 {κ : zT} {σ' : S3} {r : Int32} (X : zC κ zX RX6 cX6_fault 2 (some .int) 2 (some (.int r)) σ') {σ : S3} (h : F_X6_fault σ = some (r, σ')) : Z κ 2 (zX (ze κ.1) σ) [(0, .ref (zo κ.1 7))] 0 [] := by
  unfold F_X6_fault at h
  refine z_iconst (v := (0 : Int32)) X.1 dX6_fault_0 (by decide) ?_
  refine z_istore_n (i := 1) (lv' := [(1, .int (0 : Int32)), (0, .ref (zo κ.1 7))]) X.1 dX6_fault_1 rfl (by decide) rfl ?_
  exact z_sub [1, 0] rfl (B_X6_fault_2 X zF _ _ h)
theorem C_X6_fault {ζ : zW} (hZ : zDis ζ zX) {σ σ' : S3} {r : Int32} (h : F_X6_fault  σ = some (r, σ')) : zMet ζ zX 2 yX6_fault cX6_fault 2 (some .int) [.ref (zo ζ 7)] σ (some (.int r)) σ' :=
  zMet_of pn_X6 hZ (Nat.le_of_ble_eq_true rfl) (fun κ e X => by subst e; exact B_X6_fault_0 X h)
noncomputable def F_X6_wayOf (v0 : Int32) (σ : S3) : R3 :=
  if v0 = (62 : Int32) then (some ((1 : Int32), σ))
  else (if v0 = (60 : Int32) then (some ((2 : Int32), σ))
  else (some ((0 : Int32), σ)))
set_option maxHeartbeats 4000000 in
set_option maxRecDepth 100000 in
theorem B_X6_wayOf_0 {κ : zT} {σ' : S3} {r : Int32} (X : zC κ zX RX6 cX6_wayOf 1 (some .int) 0 (some (.int r)) σ') {v0 : Int32} {σ : S3} (h : F_X6_wayOf v0 σ = some (r, σ')) : Z κ 1 (zX (ze κ.1) σ) [(0, .int v0)] 0 [] := by
  unfold F_X6_wayOf at h
  refine z_iload_n (i := 0) X.1 dX6_wayOf_0 0 rfl rfl ?_
  refine z_bipush (v := (62 : Int32)) X.1 dX6_wayOf_1 (by decide) ?_
  refine z_icmp_ne (tgt := 8) X.1 dX6_wayOf_3 (by decide) h (fun q547 h => ?_) (fun q547 h => ?_)
  · refine z_iload_n (i := 0) X.1 dX6_wayOf_8 0 rfl rfl ?_
    refine z_bipush (v := (60 : Int32)) X.1 dX6_wayOf_9 (by decide) ?_
    refine z_icmp_ne (tgt := 18) X.1 dX6_wayOf_11 (by decide) h (fun q548 h => ?_) (fun q548 h => ?_)
    · refine z_iconst (v := (0 : Int32)) X.1 dX6_wayOf_18 (by decide) ?_
      exact z_iret X dX6_wayOf_19 h
    · refine z_iconst (v := (2 : Int32)) X.1 dX6_wayOf_14 (by decide) ?_
      refine z_goto (tgt := 19) X.1 dX6_wayOf_15 (by decide) ?_
      exact z_iret X dX6_wayOf_19 h
  · refine z_iconst (v := (1 : Int32)) X.1 dX6_wayOf_6 (by decide) ?_
    exact z_iret X dX6_wayOf_7 h
theorem C_X6_wayOf {ζ : zW} (hZ : zDis ζ zX) {v0 : Int32} {σ σ' : S3} {r : Int32} (h : F_X6_wayOf v0 σ = some (r, σ')) : zMet ζ zX 0 yX6_wayOf cX6_wayOf 1 (some .int) [.int v0] σ (some (.int r)) σ' :=
  zMet_of pn_X6 hZ (Nat.le_of_ble_eq_true rfl) (fun κ e X => by subst e; exact B_X6_wayOf_0 X h)
noncomputable def Fb_X6_tell_54 (K54 : Int32 → S3 → R3) (v3 : Int32) (σ : S3) : R3 :=
  if (σ 7 0 0) ≤ (v3 + (2 : Int32)) then (some ((0 : Int32), σ))
  else (ck v3 60 (ck (v3 + (2 : Int32)) 60 (ck (v3 + (1 : Int32)) 60 (bd (F_X6_wayOf (σ 7 1 (ix (v3 + (1 : Int32)))) σ) (fun r544 s545 => bd (F_X2_join 1 ((σ 7 1 (ix v3)) - (97 : Int32)) ((σ 7 1 (ix (v3 + (2 : Int32)))) - (97 : Int32)) r544 s545) (fun r549 s550 => nm (v3 + (4 : Int32)) (fun x552 => K54 x552 s550)))))))
noncomputable def F_X6_tell_54 (n : Nat) : Int32 → S3 → R3 := zl1 (Fb_X6_tell_54) n
set_option maxHeartbeats 4000000 in
set_option maxRecDepth 100000 in
theorem B_X6_tell_54 {κ : zT} {σ' : S3} {r : Int32} (X : zC κ zX RX6 cX6_tell 4 none 3 none σ') : ∀ (n : Nat) (v3 : Int32) (σ : S3), F_X6_tell_54 n v3 σ = some (r, σ') → Z κ 4 (zX (ze κ.1) σ) [(0, .ref (zo κ.1 7)), (1, .ref (zo κ.1 1)), (3, .int v3)] 54 [] := by
  intro n
  induction n with
  | zero =>
    intro v3 σ h
    cases (show (none : R3) = some (r, σ') from h)
  | succ n ih =>
    intro v3 σ h
    have hK54 := ih
    have h : Fb_X6_tell_54 (F_X6_tell_54 n) v3 σ = some (r, σ') := h
    unfold Fb_X6_tell_54 at h
    refine z_iload_n (i := 3) X.1 dX6_tell_54 2 rfl rfl ?_
    refine z_iconst (v := (2 : Int32)) X.1 dX6_tell_55 (by decide) ?_
    refine z_iadd X.1 dX6_tell_56 ?_
    refine z_aload_n (i := 0) X.1 dX6_tell_57 0 rfl rfl ?_
    refine g_X6_length X.1 tw241 dX6_tell_58 ?_
    refine z_icmp_ge (tgt := 105) X.1 dX6_tell_61 (by decide) h (fun q543 h => ?_) (fun q543 h => ?_)
    · exact z_vret X dX6_tell_105 h
    · refine z_aload_n (i := 1) X.1 dX6_tell_64 1 rfl rfl ?_
      refine z_aload_n (i := 0) X.1 dX6_tell_65 0 rfl rfl ?_
      refine g_X6_bytes X.1 tw243 dX6_tell_66 ?_
      refine z_iload_n (i := 3) X.1 dX6_tell_69 2 rfl rfl ?_
      refine al_X6_bytes X.1 dX6_tell_70 h (fun h => ?_)
      refine z_bipush (v := (97 : Int32)) X.1 dX6_tell_71 (by decide) ?_
      refine z_isub X.1 dX6_tell_73 ?_
      refine z_aload_n (i := 0) X.1 dX6_tell_74 0 rfl rfl ?_
      refine g_X6_bytes X.1 tw243 dX6_tell_75 ?_
      refine z_iload_n (i := 3) X.1 dX6_tell_78 2 rfl rfl ?_
      refine z_iconst (v := (2 : Int32)) X.1 dX6_tell_79 (by decide) ?_
      refine z_iadd X.1 dX6_tell_80 ?_
      refine al_X6_bytes X.1 dX6_tell_81 h (fun h => ?_)
      refine z_bipush (v := (97 : Int32)) X.1 dX6_tell_82 (by decide) ?_
      refine z_isub X.1 dX6_tell_84 ?_
      refine z_aload_n (i := 0) X.1 dX6_tell_85 0 rfl rfl ?_
      refine g_X6_bytes X.1 tw243 dX6_tell_86 ?_
      refine z_iload_n (i := 3) X.1 dX6_tell_89 2 rfl rfl ?_
      refine z_iconst (v := (1 : Int32)) X.1 dX6_tell_90 (by decide) ?_
      refine z_iadd X.1 dX6_tell_91 ?_
      refine al_X6_bytes X.1 dX6_tell_92 h (fun h => ?_)
      obtain ⟨r544, s545, hc546, h⟩ := bd_inv h
      refine cl_X6_38 (d1 := 0) (As := [.int (σ 7 1 (ix (v3 + (1 : Int32))))]) (rest := [.int ((σ 7 1 (ix (v3 + (2 : Int32)))) - (97 : Int32)), .int ((σ 7 1 (ix v3)) - (97 : Int32)), .ref (zo κ.1 1)]) X.1 (by decide) (C_X6_wayOf X.2.1 hc546) rfl rfl (Nat.le_of_ble_eq_true rfl) dX6_tell_93 ?_
      obtain ⟨r549, s550, hc551, h⟩ := bd_inv h
      refine cl_X6_42 (d1 := 2) (b := zo κ.1 1) (r := 0) (As := [.int ((σ 7 1 (ix v3)) - (97 : Int32)), .int ((σ 7 1 (ix (v3 + (2 : Int32)))) - (97 : Int32)), .int r544]) (rest := []) X.1 (by decide) (C_X2_join X.2.1 (Or.inl rfl) hc551) (rcX2 (Or.inl rfl)) rfl rfl (Nat.le_of_ble_eq_true rfl) dX6_tell_96 ?_
      refine z_iinc_m (v := (4 : Int32)) (lv' := fun x552 => [(3, .int x552), (0, .ref (zo κ.1 7)), (1, .ref (zo κ.1 1))]) X.1 dX6_tell_99 2 rfl (by decide) (by decide) (fun _ => rfl) h (fun x552 h => ?_)
      refine z_goto (tgt := 54) X.1 dX6_tell_102 (by decide) ?_
      exact z_sub [1, 2, 0] rfl (hK54 _ _ h)
noncomputable def Fb_X6_tell_5 (K5 : Int32 → Int32 → S3 → R3) (v2 : Int32) (v3 : Int32) (σ : S3) : R3 :=
  if (σ 7 0 0) ≤ v3 then (bd (F_X2_clear 1 ((v2 - (97 : Int32)) + (1 : Int32)) σ) (fun r540 s541 => F_X6_tell_54 zF (0 : Int32) s541))
  else (ck v3 60 (bd (F_X6_isLetter (σ 7 1 (ix v3)) σ) (fun r553 s554 => if r553 = (0 : Int32) then (nm (v3 + (2 : Int32)) (fun x557 => K5 v2 x557 s554))
  else (ck v3 60 (nm (if v2 < (s554 7 1 (ix v3)) then (s554 7 1 (ix v3)) else v2) (fun x558 => nm (v3 + (2 : Int32)) (fun x559 => K5 x558 x559 s554)))))))
noncomputable def F_X6_tell_5 (n : Nat) : Int32 → Int32 → S3 → R3 := zl2 (Fb_X6_tell_5) n
set_option maxHeartbeats 4000000 in
set_option maxRecDepth 100000 in
theorem B_X6_tell_5 {κ : zT} {σ' : S3} {r : Int32} (X : zC κ zX RX6 cX6_tell 4 none 3 none σ') : ∀ (n : Nat) (v2 : Int32) (v3 : Int32) (σ : S3), F_X6_tell_5 n v2 v3 σ = some (r, σ') → Z κ 4 (zX (ze κ.1) σ) [(0, .ref (zo κ.1 7)), (1, .ref (zo κ.1 1)), (2, .int v2), (3, .int v3)] 5 [] := by
  intro n
  induction n with
  | zero =>
    intro v2 v3 σ h
    cases (show (none : R3) = some (r, σ') from h)
  | succ n ih =>
    intro v2 v3 σ h
    have hK5 := ih
    have h : Fb_X6_tell_5 (F_X6_tell_5 n) v2 v3 σ = some (r, σ') := h
    unfold Fb_X6_tell_5 at h
    refine z_iload_n (i := 3) X.1 dX6_tell_5 3 rfl rfl ?_
    refine z_aload_n (i := 0) X.1 dX6_tell_6 0 rfl rfl ?_
    refine g_X6_length X.1 tw241 dX6_tell_7 ?_
    refine z_icmp_ge (tgt := 42) X.1 dX6_tell_10 (by decide) h (fun q539 h => ?_) (fun q539 h => ?_)
    · refine z_aload_n (i := 1) X.1 dX6_tell_42 1 rfl rfl ?_
      refine z_iload_n (i := 2) X.1 dX6_tell_43 2 rfl rfl ?_
      refine z_bipush (v := (97 : Int32)) X.1 dX6_tell_44 (by decide) ?_
      refine z_isub X.1 dX6_tell_46 ?_
      refine z_iconst (v := (1 : Int32)) X.1 dX6_tell_47 (by decide) ?_
      refine z_iadd X.1 dX6_tell_48 ?_
      obtain ⟨r540, s541, hc542, h⟩ := bd_inv h
      refine cl_X6_32 (d1 := 2) (b := zo κ.1 1) (r := 0) (As := [.int ((v2 - (97 : Int32)) + (1 : Int32))]) (rest := []) X.1 (by decide) (C_X2_clear X.2.1 (Or.inl rfl) hc542) (rcX2 (Or.inl rfl)) rfl rfl (Nat.le_of_ble_eq_true rfl) dX6_tell_49 ?_
      refine z_iconst (v := (0 : Int32)) X.1 dX6_tell_52 (by decide) ?_
      refine z_istore_n (i := 3) (lv' := [(3, .int (0 : Int32)), (0, .ref (zo κ.1 7)), (1, .ref (zo κ.1 1)), (2, .int v2)]) X.1 dX6_tell_53 rfl (by decide) rfl ?_
      exact z_sub [1, 2, 0] rfl (B_X6_tell_54 X zF _ _ h)
    · refine z_aload_n (i := 0) X.1 dX6_tell_13 0 rfl rfl ?_
      refine g_X6_bytes X.1 tw243 dX6_tell_14 ?_
      refine z_iload_n (i := 3) X.1 dX6_tell_17 3 rfl rfl ?_
      refine al_X6_bytes X.1 dX6_tell_18 h (fun h => ?_)
      obtain ⟨r553, s554, hc555, h⟩ := bd_inv h
      refine cl_X6_23 (d1 := 0) (As := [.int (σ 7 1 (ix v3))]) (rest := []) X.1 (by decide) (C_X6_isLetter X.2.1 hc555) rfl rfl (Nat.le_of_ble_eq_true rfl) dX6_tell_19 ?_
      refine z_if_eq (tgt := 36) X.1 dX6_tell_22 (by decide) h (fun q556 h => ?_) (fun q556 h => ?_)
      · refine z_iinc_m (v := (2 : Int32)) (lv' := fun x557 => [(3, .int x557), (0, .ref (zo κ.1 7)), (1, .ref (zo κ.1 1)), (2, .int v2)]) X.1 dX6_tell_36 3 rfl (by decide) (by decide) (fun _ => rfl) h (fun x557 h => ?_)
        refine z_goto (tgt := 5) X.1 dX6_tell_39 (by decide) ?_
        exact z_sub [1, 2, 3, 0] rfl (hK5 _ _ _ h)
      · refine z_iload_n (i := 2) X.1 dX6_tell_25 2 rfl rfl ?_
        refine z_aload_n (i := 0) X.1 dX6_tell_26 0 rfl rfl ?_
        refine g_X6_bytes X.1 tw243 dX6_tell_27 ?_
        refine z_iload_n (i := 3) X.1 dX6_tell_30 3 rfl rfl ?_
        refine al_X6_bytes X.1 dX6_tell_31 h (fun h => ?_)
        refine z_mmax X.1 (by decide) tw467 tw416 tw81 tw417 (Nat.le_of_ble_eq_true rfl) dX6_tell_32 ?_
        refine z_istore_nn (i := 2) (lv' := fun x558 => [(2, .int x558), (0, .ref (zo κ.1 7)), (1, .ref (zo κ.1 1)), (3, .int v3)]) X.1 dX6_tell_35 rfl (by decide) (fun _ => rfl) h (fun x558 h => ?_)
        refine z_iinc_m (v := (2 : Int32)) (lv' := fun x559 => [(3, .int x559), (2, .int x558), (0, .ref (zo κ.1 7)), (1, .ref (zo κ.1 1))]) X.1 dX6_tell_36 3 rfl (by decide) (by decide) (fun _ => rfl) h (fun x559 h => ?_)
        refine z_goto (tgt := 5) X.1 dX6_tell_39 (by decide) ?_
        exact z_sub [2, 3, 1, 0] rfl (hK5 _ _ _ h)
noncomputable def F_X6_tell (σ : S3) : R3 :=
  F_X6_tell_5 zF (97 : Int32) (0 : Int32) σ
set_option maxHeartbeats 4000000 in
set_option maxRecDepth 100000 in
theorem B_X6_tell_0 {κ : zT} {σ' : S3} {r : Int32} (X : zC κ zX RX6 cX6_tell 4 none 3 none σ') {σ : S3} (h : F_X6_tell σ = some (r, σ')) : Z κ 4 (zX (ze κ.1) σ) [(0, .ref (zo κ.1 7)), (1, .ref (zo κ.1 1))] 0 [] := by
  unfold F_X6_tell at h
  refine z_bipush (v := (97 : Int32)) X.1 dX6_tell_0 (by decide) ?_
  refine z_istore_n (i := 2) (lv' := [(2, .int (97 : Int32)), (0, .ref (zo κ.1 7)), (1, .ref (zo κ.1 1))]) X.1 dX6_tell_2 rfl (by decide) rfl ?_
  refine z_iconst (v := (0 : Int32)) X.1 dX6_tell_3 (by decide) ?_
  refine z_istore_n (i := 3) (lv' := [(3, .int (0 : Int32)), (2, .int (97 : Int32)), (0, .ref (zo κ.1 7)), (1, .ref (zo κ.1 1))]) X.1 dX6_tell_4 rfl (by decide) rfl ?_
  exact z_sub [2, 3, 1, 0] rfl (B_X6_tell_5 X zF _ _ _ h)
theorem C_X6_tell {ζ : zW} (hZ : zDis ζ zX) {σ σ' : S3} {r : Int32} (h : F_X6_tell  σ = some (r, σ')) : zMet ζ zX 3 yX6_tell cX6_tell 4 none [.ref (zo ζ 7), .ref (zo ζ 1)] σ none σ' :=
  zMet_of pn_X6 hZ (Nat.le_of_ble_eq_true rfl) (fun κ e X => by subst e; exact B_X6_tell_0 X h)
noncomputable def F_J6_lowestOneBit_0f7a4 (v0 : Int32) (σ : S3) : R3 :=
  some (v0 &&& (-v0), σ)
set_option maxHeartbeats 4000000 in
set_option maxRecDepth 100000 in
theorem B_J6_lowestOneBit_0f7a4_0 {κ : zT} {σ' : S3} {r : Int32} (X : zC κ zX RJ6 cJ6_lowestOneBit_0f7a4 1 (some .int) 0 (some (.int r)) σ') {v0 : Int32} {σ : S3} (h : F_J6_lowestOneBit_0f7a4 v0 σ = some (r, σ')) : Z κ 1 (zX (ze κ.1) σ) [(0, .int v0)] 0 [] := by
  unfold F_J6_lowestOneBit_0f7a4 at h
  refine z_iload_n (i := 0) X.1 dJ6_lowestOneBit_0f7a4_0 0 rfl rfl ?_
  refine z_iload_n (i := 0) X.1 dJ6_lowestOneBit_0f7a4_1 0 rfl rfl ?_
  refine z_ineg X.1 dJ6_lowestOneBit_0f7a4_2 ?_
  refine z_iand X.1 dJ6_lowestOneBit_0f7a4_3 ?_
  exact z_iret X dJ6_lowestOneBit_0f7a4_4 h
theorem C_J6_lowestOneBit_0f7a4 {ζ : zW} (hZ : zDis ζ zX) {v0 : Int32} {σ σ' : S3} {r : Int32} (h : F_J6_lowestOneBit_0f7a4 v0 σ = some (r, σ')) : zMet ζ zX 0 yJ6_lowestOneBit_0f7a4 cJ6_lowestOneBit_0f7a4 1 (some .int) [.int v0] σ (some (.int r)) σ' :=
  zMet_of pn_J6 hZ (Nat.le_of_ble_eq_true rfl) (fun κ e X => by subst e; exact B_J6_lowestOneBit_0f7a4_0 X h)
noncomputable def Fb_X7_grow_111 (Rc : Int32 → Int32 → Int32 → S3 → R3) (v1 : Int32) (v3 : Int32) (v5 : Int32) (K111 : Int32 → S3 → R3) (v6 : Int32) (σ : S3) : R3 :=
  if (σ 1 1 0) ≤ v6 then (some ((0 : Int32), σ))
  else (if (σ 5 6 0) = (0 : Int32) then (if ((v5 >>> (v6 &&& 31)) &&& (1 : Int32)) = (0 : Int32) then (nm (v6 + (1 : Int32)) (fun x584 => K111 x584 σ))
  else (bd (F_X1_behind v1 v6 σ) (fun r585 s586 => bd (Rc r585 v6 (v3 + (1 : Int32)) s586) (fun r588 s589 => nm (v6 + (1 : Int32)) (fun x591 => K111 x591 s589)))))
  else (some ((0 : Int32), σ)))
noncomputable def F_X7_grow_111 (Rc : Int32 → Int32 → Int32 → S3 → R3) (v1 : Int32) (v3 : Int32) (v5 : Int32) (n : Nat) : Int32 → S3 → R3 := zl1 (Fb_X7_grow_111 Rc v1 v3 v5) n
set_option maxHeartbeats 4000000 in
set_option maxRecDepth 100000 in
theorem B_X7_grow_111 {κ : zT} {σ' : S3} {r : Int32} {d d0 : Nat} (X : zC κ zX RX7 cX7_grow 7 none d none σ') {Rc : Int32 → Int32 → Int32 → S3 → R3} (hR : ∀ (a1 a2 a3 : Int32) (s1 s2 : S3) (r1 : Int32), Rc a1 a2 a3 s1 = some (r1, s2) → zMet κ.1 zX d0 yX7_grow cX7_grow 7 none [.ref (zo κ.1 5), .int a1, .int a2, .int a3] s1 none s2) (hd : d0 + 1 ≤ d) (hb : 24 ≤ d) {v1 : Int32} {v3 : Int32} {v5 : Int32} : ∀ (n : Nat) (v6 : Int32) (σ : S3), F_X7_grow_111 Rc v1 v3 v5 n v6 σ = some (r, σ') → Z κ 7 (zX (ze κ.1) σ) [(0, .ref (zo κ.1 5)), (1, .int v1), (3, .int v3), (5, .int v5), (6, .int v6)] 111 [] := by
  intro n
  induction n with
  | zero =>
    intro v6 σ h
    cases (show (none : R3) = some (r, σ') from h)
  | succ n ih =>
    intro v6 σ h
    have hK111 := ih
    have h : Fb_X7_grow_111 Rc v1 v3 v5 (F_X7_grow_111 Rc v1 v3 v5 n) v6 σ = some (r, σ') := h
    unfold Fb_X7_grow_111 at h
    refine z_iload X.1 dX7_grow_111 4 rfl ?_
    refine z_aload_n (i := 0) X.1 dX7_grow_113 0 rfl rfl ?_
    refine g_X7_net X.1 tw183 dX7_grow_114 ?_
    refine g_X2_lines (Or.inl rfl) X.1 tw103 dX7_grow_117 ?_
    refine z_icmp_ge (tgt := 165) X.1 dX7_grow_120 (by decide) h (fun q581 h => ?_) (fun q581 h => ?_)
    · exact z_vret X dX7_grow_165 h
    · refine z_aload_n (i := 0) X.1 dX7_grow_123 0 rfl rfl ?_
      refine g_X7_overfull X.1 tw193 dX7_grow_124 ?_
      refine z_if_ne (tgt := 165) X.1 dX7_grow_127 (by decide) h (fun q582 h => ?_) (fun q582 h => ?_)
      · exact z_vret X dX7_grow_165 h
      · refine z_iload X.1 dX7_grow_130 3 rfl ?_
        refine z_iload X.1 dX7_grow_132 4 rfl ?_
        refine z_ishr X.1 dX7_grow_134 ?_
        refine z_iconst (v := (1 : Int32)) X.1 dX7_grow_135 (by decide) ?_
        refine z_iand X.1 dX7_grow_136 ?_
        refine z_if_eq (tgt := 159) X.1 dX7_grow_137 (by decide) h (fun q583 h => ?_) (fun q583 h => ?_)
        · refine z_iinc_m (v := (1 : Int32)) (lv' := fun x584 => [(6, .int x584), (0, .ref (zo κ.1 5)), (1, .int v1), (3, .int v3), (5, .int v5)]) X.1 dX7_grow_159 4 rfl (by decide) (by decide) (fun _ => rfl) h (fun x584 h => ?_)
          refine z_goto (tgt := 111) X.1 dX7_grow_162 (by decide) ?_
          exact z_sub [1, 2, 3, 4, 0] rfl (hK111 _ _ h)
        · refine z_aload_n (i := 0) X.1 dX7_grow_140 0 rfl rfl ?_
          refine z_aload_n (i := 0) X.1 dX7_grow_141 0 rfl rfl ?_
          refine g_X7_judge X.1 tw184 dX7_grow_142 ?_
          refine z_iload_n (i := 1) X.1 dX7_grow_145 1 rfl rfl ?_
          refine z_iload X.1 dX7_grow_146 4 rfl ?_
          obtain ⟨r585, s586, hc587, h⟩ := bd_inv h
          refine cl_X7_70 (d1 := 1) (b := zo κ.1 3) (As := [.int v1, .int v6]) (rest := [.ref (zo κ.1 5)]) X.1 (Nat.le_trans (by decide) hb) (C_X1_behind X.2.1 hc587) rcX1 rfl rfl (Nat.le_of_ble_eq_true rfl) dX7_grow_148 ?_
          refine z_iload X.1 dX7_grow_151 4 rfl ?_
          refine z_iload_n (i := 3) X.1 dX7_grow_153 2 rfl rfl ?_
          refine z_iconst (v := (1 : Int32)) X.1 dX7_grow_154 (by decide) ?_
          refine z_iadd X.1 dX7_grow_155 ?_
          obtain ⟨r588, s589, hc590, h⟩ := bd_inv h
          refine cl_X7_37 (d1 := d0) (b := zo κ.1 5) (r := 0) (As := [.int r585, .int v6, .int (v3 + (1 : Int32))]) (rest := []) X.1 hd (hR _ _ _ _ _ _ hc590) rcX7 rfl rfl (Nat.le_of_ble_eq_true rfl) dX7_grow_156 ?_
          refine z_iinc_m (v := (1 : Int32)) (lv' := fun x591 => [(6, .int x591), (0, .ref (zo κ.1 5)), (1, .int v1), (3, .int v3), (5, .int v5)]) X.1 dX7_grow_159 4 rfl (by decide) (by decide) (fun _ => rfl) h (fun x591 h => ?_)
          refine z_goto (tgt := 111) X.1 dX7_grow_162 (by decide) ?_
          exact z_sub [1, 2, 3, 4, 0] rfl (hK111 _ _ h)
noncomputable def F_X7_grow_91 (Rc : Int32 → Int32 → Int32 → S3 → R3) (v1 : Int32) (v3 : Int32) (s0 : Int32) (σ : S3) : R3 :=
  if s0 = (0 : Int32) then (nm (up σ 5 4 0 ((σ 5 4 0) + (1 : Int32))) (fun s592 => F_X7_grow_111 Rc v1 v3 s0 zF (0 : Int32) s592))
  else (F_X7_grow_111 Rc v1 v3 s0 zF (0 : Int32) σ)
set_option maxHeartbeats 4000000 in
set_option maxRecDepth 100000 in
theorem B_X7_grow_91 {κ : zT} {σ' : S3} {r : Int32} {d d0 : Nat} (X : zC κ zX RX7 cX7_grow 7 none d none σ') {Rc : Int32 → Int32 → Int32 → S3 → R3} (hR : ∀ (a1 a2 a3 : Int32) (s1 s2 : S3) (r1 : Int32), Rc a1 a2 a3 s1 = some (r1, s2) → zMet κ.1 zX d0 yX7_grow cX7_grow 7 none [.ref (zo κ.1 5), .int a1, .int a2, .int a3] s1 none s2) (hd : d0 + 1 ≤ d) (hb : 24 ≤ d) {v1 : Int32} {v3 : Int32} {s0 : Int32} {σ : S3} (h : F_X7_grow_91 Rc v1 v3 s0 σ = some (r, σ')) : Z κ 7 (zX (ze κ.1) σ) [(0, .ref (zo κ.1 5)), (1, .int v1), (3, .int v3)] 91 [.int s0] := by
  unfold F_X7_grow_91 at h
  refine z_istore (i := 5) (lv' := [(5, .int s0), (0, .ref (zo κ.1 5)), (1, .int v1), (3, .int v3)]) X.1 dX7_grow_91 (by decide) rfl ?_
  refine z_iload X.1 dX7_grow_93 0 rfl ?_
  refine z_if_ne (tgt := 108) X.1 dX7_grow_95 (by decide) h (fun q580 h => ?_) (fun q580 h => ?_)
  · refine z_iconst (v := (0 : Int32)) X.1 dX7_grow_108 (by decide) ?_
    refine z_istore (i := 6) (lv' := [(6, .int (0 : Int32)), (5, .int s0), (0, .ref (zo κ.1 5)), (1, .int v1), (3, .int v3)]) X.1 dX7_grow_109 (by decide) rfl ?_
    exact z_sub [2, 3, 4, 1, 0] rfl (B_X7_grow_111 X hR hd hb zF _ _ h)
  · refine z_aload_n (i := 0) X.1 dX7_grow_98 1 rfl rfl ?_
    refine z_dup X.1 dX7_grow_99 rfl ?_
    refine g_X7_leaves X.1 tw189 dX7_grow_100 ?_
    refine z_iconst (v := (1 : Int32)) X.1 dX7_grow_103 (by decide) ?_
    refine z_iadd X.1 dX7_grow_104 ?_
    refine p_X7_leaves X.1 X.2.1 tw189 dX7_grow_105 h (fun s592 h => ?_)
    refine z_iconst (v := (0 : Int32)) X.1 dX7_grow_108 (by decide) ?_
    refine z_istore (i := 6) (lv' := [(6, .int (0 : Int32)), (5, .int s0), (0, .ref (zo κ.1 5)), (1, .int v1), (3, .int v3)]) X.1 dX7_grow_109 (by decide) rfl ?_
    exact z_sub [2, 3, 4, 1, 0] rfl (B_X7_grow_111 X hR hd hb zF _ _ h)
noncomputable def F_X7_grow_0 (Rc : Int32 → Int32 → Int32 → S3 → R3) (v1 : Int32) (v2 : Int32) (v3 : Int32) (σ : S3) : R3 :=
  if (300 : Int32) ≤ (σ 5 3 0) then (nm (up σ 5 6 0 (1 : Int32)) (fun s568 => some ((0 : Int32), s568)))
  else (if v3 ≤ (12 : Int32) then (ck (σ 5 3 0) 300 (nm (up σ 5 2 (ix (σ 5 3 0)) v2) (fun s570 => nm (up s570 5 3 0 ((s570 5 3 0) + (1 : Int32))) (fun s571 => nm (up s571 5 5 0 (if (s571 5 5 0) < v3 then v3 else (s571 5 5 0))) (fun s572 => bd (F_X1_wins v1 s572) (fun r573 s574 => if r573 = (0 : Int32) then (bd (F_X1_movesFrom v1 s574) (fun r577 s578 => F_X7_grow_91 Rc v1 v3 r577 s578))
  else (bd (F_X1_winningFrom v1 s574) (fun r593 s594 => bd (F_J6_lowestOneBit_0f7a4 r593 s594) (fun r596 s597 => F_X7_grow_91 Rc v1 v3 r596 s597)))))))))
  else (nm (up σ 5 6 0 (1 : Int32)) (fun s599 => some ((0 : Int32), s599))))
set_option maxHeartbeats 4000000 in
set_option maxRecDepth 100000 in
theorem B_X7_grow_0 {κ : zT} {σ' : S3} {r : Int32} {d d0 : Nat} (X : zC κ zX RX7 cX7_grow 7 none d none σ') {Rc : Int32 → Int32 → Int32 → S3 → R3} (hR : ∀ (a1 a2 a3 : Int32) (s1 s2 : S3) (r1 : Int32), Rc a1 a2 a3 s1 = some (r1, s2) → zMet κ.1 zX d0 yX7_grow cX7_grow 7 none [.ref (zo κ.1 5), .int a1, .int a2, .int a3] s1 none s2) (hd : d0 + 1 ≤ d) (hb : 24 ≤ d) {v1 : Int32} {v2 : Int32} {v3 : Int32} {σ : S3} (h : F_X7_grow_0 Rc v1 v2 v3 σ = some (r, σ')) : Z κ 7 (zX (ze κ.1) σ) [(0, .ref (zo κ.1 5)), (1, .int v1), (2, .int v2), (3, .int v3)] 0 [] := by
  unfold F_X7_grow_0 at h
  refine z_aload_n (i := 0) X.1 dX7_grow_0 0 rfl rfl ?_
  refine g_X7_nodes X.1 tw187 dX7_grow_1 ?_
  refine z_sipush (v := (300 : Int32)) X.1 dX7_grow_4 (by decide) ?_
  refine z_icmp_ge (tgt := 16) X.1 dX7_grow_7 (by decide) h (fun q567 h => ?_) (fun q567 h => ?_)
  · refine z_aload_n (i := 0) X.1 dX7_grow_16 0 rfl rfl ?_
    refine z_iconst (v := (1 : Int32)) X.1 dX7_grow_17 (by decide) ?_
    refine p_X7_overfull X.1 X.2.1 tw193 (Or.inr rfl) dX7_grow_18 h (fun s568 h => ?_)
    exact z_vret X dX7_grow_21 h
  · refine z_iload_n (i := 3) X.1 dX7_grow_10 3 rfl rfl ?_
    refine z_bipush (v := (12 : Int32)) X.1 dX7_grow_11 (by decide) ?_
    refine z_icmp_le (tgt := 22) X.1 dX7_grow_13 (by decide) h (fun q569 h => ?_) (fun q569 h => ?_)
    · refine z_aload_n (i := 0) X.1 dX7_grow_22 0 rfl rfl ?_
      refine g_X7_ways X.1 tw185 dX7_grow_23 ?_
      refine z_aload_n (i := 0) X.1 dX7_grow_26 0 rfl rfl ?_
      refine g_X7_nodes X.1 tw187 dX7_grow_27 ?_
      refine z_iload_n (i := 2) X.1 dX7_grow_30 2 rfl rfl ?_
      refine as_X7_ways X.1 X.2.1 dX7_grow_31 h (fun s570 h => ?_)
      refine z_aload_n (i := 0) X.1 dX7_grow_32 0 rfl rfl ?_
      refine z_dup X.1 dX7_grow_33 rfl ?_
      refine g_X7_nodes X.1 tw187 dX7_grow_34 ?_
      refine z_iconst (v := (1 : Int32)) X.1 dX7_grow_37 (by decide) ?_
      refine z_iadd X.1 dX7_grow_38 ?_
      refine p_X7_nodes X.1 X.2.1 tw187 dX7_grow_39 h (fun s571 h => ?_)
      refine z_aload_n (i := 0) X.1 dX7_grow_42 0 rfl rfl ?_
      refine z_aload_n (i := 0) X.1 dX7_grow_43 0 rfl rfl ?_
      refine g_X7_deepest X.1 tw191 dX7_grow_44 ?_
      refine z_iload_n (i := 3) X.1 dX7_grow_47 3 rfl rfl ?_
      refine z_mmax X.1 (Nat.le_trans (by decide) hb) tw708 tw416 tw81 tw417 (Nat.le_of_ble_eq_true rfl) dX7_grow_48 ?_
      refine p_X7_deepest X.1 X.2.1 tw191 dX7_grow_51 h (fun s572 h => ?_)
      refine z_aload_n (i := 0) X.1 dX7_grow_54 0 rfl rfl ?_
      refine g_X7_judge X.1 tw184 dX7_grow_55 ?_
      refine z_iload_n (i := 1) X.1 dX7_grow_58 1 rfl rfl ?_
      obtain ⟨r573, s574, hc575, h⟩ := bd_inv h
      refine cl_X7_47 (d1 := 23) (b := zo κ.1 3) (As := [.int v1]) (rest := []) X.1 (Nat.le_trans (by decide) hb) (C_X1_wins X.2.1 hc575) rcX1 rfl rfl (Nat.le_of_ble_eq_true rfl) dX7_grow_59 ?_
      refine z_istore (i := 4) (lv' := [(4, .int r573), (0, .ref (zo κ.1 5)), (1, .int v1), (2, .int v2), (3, .int v3)]) X.1 dX7_grow_62 (by decide) rfl ?_
      refine z_iload X.1 dX7_grow_64 0 rfl ?_
      refine z_if_eq (tgt := 83) X.1 dX7_grow_66 (by decide) h (fun q576 h => ?_) (fun q576 h => ?_)
      · refine z_aload_n (i := 0) X.1 dX7_grow_83 1 rfl rfl ?_
        refine g_X7_judge X.1 tw184 dX7_grow_84 ?_
        refine z_iload_n (i := 1) X.1 dX7_grow_87 2 rfl rfl ?_
        obtain ⟨r577, s578, hc579, h⟩ := bd_inv h
        refine cl_X7_62 (d1 := 1) (b := zo κ.1 3) (As := [.int v1]) (rest := []) X.1 (Nat.le_trans (by decide) hb) (C_X1_movesFrom X.2.1 hc579) rcX1 rfl rfl (Nat.le_of_ble_eq_true rfl) dX7_grow_88 ?_
        exact z_sub [1, 2, 4] rfl (B_X7_grow_91 X hR hd hb h)
      · refine z_aload_n (i := 0) X.1 dX7_grow_69 1 rfl rfl ?_
        refine g_X7_judge X.1 tw184 dX7_grow_70 ?_
        refine z_iload_n (i := 1) X.1 dX7_grow_73 2 rfl rfl ?_
        obtain ⟨r593, s594, hc595, h⟩ := bd_inv h
        refine cl_X7_53 (d1 := 23) (b := zo κ.1 3) (As := [.int v1]) (rest := []) X.1 (Nat.le_trans (by decide) hb) (C_X1_winningFrom X.2.1 hc595) rcX1 rfl rfl (Nat.le_of_ble_eq_true rfl) dX7_grow_74 ?_
        obtain ⟨r596, s597, hc598, h⟩ := bd_inv h
        refine cl_X7_57 (d1 := 0) (As := [.int r593]) (rest := []) X.1 (Nat.le_trans (by decide) hb) (C_J6_lowestOneBit_0f7a4 X.2.1 hc598) rfl rfl (Nat.le_of_ble_eq_true rfl) dX7_grow_77 ?_
        refine z_goto (tgt := 91) X.1 dX7_grow_80 (by decide) ?_
        exact z_sub [1, 2, 4] rfl (B_X7_grow_91 X hR hd hb h)
    · refine z_aload_n (i := 0) X.1 dX7_grow_16 0 rfl rfl ?_
      refine z_iconst (v := (1 : Int32)) X.1 dX7_grow_17 (by decide) ?_
      refine p_X7_overfull X.1 X.2.1 tw193 (Or.inr rfl) dX7_grow_18 h (fun s599 h => ?_)
      exact z_vret X dX7_grow_21 h
noncomputable def F_X7_grow (k : Nat) : Int32 → Int32 → Int32 → S3 → R3 := zl3 (F_X7_grow_0) k
theorem Ck_X7_grow {ζ : zW} (hZ : zDis ζ zX) : ∀ (k : Nat) (v1 : Int32) (v2 : Int32) (v3 : Int32) (σ σ' : S3) (r : Int32), F_X7_grow k v1 v2 v3 σ = some (r, σ') → zMet ζ zX (24 + k) yX7_grow cX7_grow 7 none [.ref (zo ζ 5), .int v1, .int v2, .int v3] σ none σ' := by
  intro k
  induction k with
  | zero =>
    intro v1 v2 v3 σ σ' r h
    cases (show (none : R3) = some (r, σ') from h)
  | succ k ih =>
    intro v1 v2 v3 σ σ' r h
    have h : F_X7_grow_0 (F_X7_grow k) v1 v2 v3 σ = some (r, σ') := h
    exact zMet_of pn_X7 hZ (Nat.le_of_ble_eq_true rfl) (fun κ e X => by subst e; exact B_X7_grow_0 X ih (Nat.le_refl _) (by omega) h)
theorem C_X7_grow {ζ : zW} (hZ : zDis ζ zX) {v1 : Int32} {v2 : Int32} {v3 : Int32} {σ σ' : S3} {r : Int32} (h : F_X7_grow 20 v1 v2 v3 σ = some (r, σ')) : zMet ζ zX 44 yX7_grow cX7_grow 7 none [.ref (zo ζ 5), .int v1, .int v2, .int v3] σ none σ' := Ck_X7_grow hZ 20 _ _ _ _ _ _ h
noncomputable def F_X7_build (v1 : Int32) (σ : S3) : R3 :=
  nm (up σ 5 3 0 (0 : Int32)) (fun s560 => nm (up s560 5 4 0 (0 : Int32)) (fun s561 => nm (up s561 5 5 0 (0 : Int32)) (fun s562 => nm (up s562 5 6 0 (0 : Int32)) (fun s563 => bd (F_X7_grow 20 v1 (-1 : Int32) (0 : Int32) s563) (fun r564 s565 => if (s565 5 6 0) = (0 : Int32) then (some ((1 : Int32), s565))
  else (some ((0 : Int32), s565)))))))
set_option maxHeartbeats 4000000 in
set_option maxRecDepth 100000 in
theorem B_X7_build_0 {κ : zT} {σ' : S3} {r : Int32} (X : zC κ zX RX7 cX7_build 2 (some .boolean) 45 (some (.int r)) σ') {v1 : Int32} {σ : S3} (h : F_X7_build v1 σ = some (r, σ')) : Z κ 2 (zX (ze κ.1) σ) [(0, .ref (zo κ.1 5)), (1, .int v1)] 0 [] := by
  unfold F_X7_build at h
  refine z_aload_n (i := 0) X.1 dX7_build_0 0 rfl rfl ?_
  refine z_iconst (v := (0 : Int32)) X.1 dX7_build_1 (by decide) ?_
  refine p_X7_nodes X.1 X.2.1 tw187 dX7_build_2 h (fun s560 h => ?_)
  refine z_aload_n (i := 0) X.1 dX7_build_5 0 rfl rfl ?_
  refine z_iconst (v := (0 : Int32)) X.1 dX7_build_6 (by decide) ?_
  refine p_X7_leaves X.1 X.2.1 tw189 dX7_build_7 h (fun s561 h => ?_)
  refine z_aload_n (i := 0) X.1 dX7_build_10 0 rfl rfl ?_
  refine z_iconst (v := (0 : Int32)) X.1 dX7_build_11 (by decide) ?_
  refine p_X7_deepest X.1 X.2.1 tw191 dX7_build_12 h (fun s562 h => ?_)
  refine z_aload_n (i := 0) X.1 dX7_build_15 0 rfl rfl ?_
  refine z_iconst (v := (0 : Int32)) X.1 dX7_build_16 (by decide) ?_
  refine p_X7_overfull X.1 X.2.1 tw193 (Or.inl rfl) dX7_build_17 h (fun s563 h => ?_)
  refine z_aload_n (i := 0) X.1 dX7_build_20 0 rfl rfl ?_
  refine z_iload_n (i := 1) X.1 dX7_build_21 1 rfl rfl ?_
  refine z_iconst (v := (-1 : Int32)) X.1 dX7_build_22 (by decide) ?_
  refine z_iconst (v := (0 : Int32)) X.1 dX7_build_23 (by decide) ?_
  obtain ⟨r564, s565, hc566, h⟩ := bd_inv h
  refine cl_X7_37 (d1 := 44) (b := zo κ.1 5) (r := 0) (As := [.int v1, .int (-1 : Int32), .int (0 : Int32)]) (rest := []) X.1 (by decide) (C_X7_grow X.2.1 hc566) rcX7 rfl rfl (Nat.le_of_ble_eq_true rfl) dX7_build_24 ?_
  refine z_aload_n (i := 0) X.1 dX7_build_27 0 rfl rfl ?_
  refine g_X7_overfull X.1 tw193 dX7_build_28 ?_
  refine z_if_ne (tgt := 38) X.1 dX7_build_31 (by decide) h (fun q600 h => ?_) (fun q600 h => ?_)
  · refine z_iconst (v := (0 : Int32)) X.1 dX7_build_38 (by decide) ?_
    exact z_zret X dX7_build_39 (Or.inl rfl) h
  · refine z_iconst (v := (1 : Int32)) X.1 dX7_build_34 (by decide) ?_
    refine z_goto (tgt := 39) X.1 dX7_build_35 (by decide) ?_
    exact z_zret X dX7_build_39 (Or.inr rfl) h
theorem C_X7_build {ζ : zW} (hZ : zDis ζ zX) {v1 : Int32} {σ σ' : S3} {r : Int32} (h : F_X7_build v1 σ = some (r, σ')) : zMet ζ zX 45 yX7_build cX7_build 2 (some .boolean) [.ref (zo ζ 5), .int v1] σ (some (.int r)) σ' :=
  zMet_of pn_X7 hZ (Nat.le_of_ble_eq_true rfl) (fun κ e X => by subst e; exact B_X7_build_0 X h)
noncomputable def F_X8_fail (v1 : Int32) (σ : S3) : R3 :=
  ck v1 7 (ck v1 7 (nm (up σ 0 8 (ix v1) ((σ 0 8 (ix v1)) + (1 : Int32))) (fun s605 => some ((-1100000000 : Int32) - v1, s605))))
set_option maxHeartbeats 4000000 in
set_option maxRecDepth 100000 in
theorem B_X8_fail_0 {κ : zT} {σ' : S3} {r : Int32} (X : zC κ zX RX8 cX8_fail 2 (some .int) 0 (some (.int r)) σ') {v1 : Int32} {σ : S3} (h : F_X8_fail v1 σ = some (r, σ')) : Z κ 2 (zX (ze κ.1) σ) [(0, .ref (zo κ.1 0)), (1, .int v1)] 0 [] := by
  unfold F_X8_fail at h
  refine z_aload_n (i := 0) X.1 dX8_fail_0 0 rfl rfl ?_
  refine g_X8_errors X.1 tw277 dX8_fail_1 ?_
  refine z_iload_n (i := 1) X.1 dX8_fail_4 1 rfl rfl ?_
  refine z_dup2 X.1 dX8_fail_5 rfl rfl ?_
  refine al_X8_errors X.1 dX8_fail_6 h (fun h => ?_)
  refine z_iconst (v := (1 : Int32)) X.1 dX8_fail_7 (by decide) ?_
  refine z_iadd X.1 dX8_fail_8 ?_
  refine as_X8_errors X.1 X.2.1 dX8_fail_9 h (fun s605 h => ?_)
  refine z_ldc_w (v := (-1100000000 : Int32)) X.1 dX8_fail_10 tw311 ?_
  refine z_iload_n (i := 1) X.1 dX8_fail_13 1 rfl rfl ?_
  refine z_isub X.1 dX8_fail_14 ?_
  exact z_iret X dX8_fail_15 h
theorem C_X8_fail {ζ : zW} (hZ : zDis ζ zX) {v1 : Int32} {σ σ' : S3} {r : Int32} (h : F_X8_fail v1 σ = some (r, σ')) : zMet ζ zX 0 yX8_fail cX8_fail 2 (some .int) [.ref (zo ζ 0), .int v1] σ (some (.int r)) σ' :=
  zMet_of pn_X8 hZ (Nat.le_of_ble_eq_true rfl) (fun κ e X => by subst e; exact B_X8_fail_0 X h)
noncomputable def F_X8_points (v1 : Int32) (σ : S3) : R3 :=
  if v1 < (1 : Int32) then (bd (F_X8_fail (1 : Int32) σ) (fun r602 s603 => some (r602, s603)))
  else (if v1 ≤ (10 : Int32) then (nm (σ 1 0 0) (fun x607 => bd (F_X2_clear 1 v1 σ) (fun r608 s609 => nm (up s609 6 0 0 (0 : Int32)) (fun s611 => some (x607, s611)))))
  else (bd (F_X8_fail (1 : Int32) σ) (fun r612 s613 => some (r612, s613))))
set_option maxHeartbeats 4000000 in
set_option maxRecDepth 100000 in
theorem B_X8_points_0 {κ : zT} {σ' : S3} {r : Int32} (X : zC κ zX RX8 cX8_points 3 (some .int) 3 (some (.int r)) σ') {v1 : Int32} {σ : S3} (h : F_X8_points v1 σ = some (r, σ')) : Z κ 3 (zX (ze κ.1) σ) [(0, .ref (zo κ.1 0)), (1, .int v1)] 0 [] := by
  unfold F_X8_points at h
  refine z_iload_n (i := 1) X.1 dX8_points_0 1 rfl rfl ?_
  refine z_iconst (v := (1 : Int32)) X.1 dX8_points_1 (by decide) ?_
  refine z_icmp_lt (tgt := 11) X.1 dX8_points_2 (by decide) h (fun q601 h => ?_) (fun q601 h => ?_)
  · refine z_aload_n (i := 0) X.1 dX8_points_11 0 rfl rfl ?_
    refine z_iconst (v := (1 : Int32)) X.1 dX8_points_12 (by decide) ?_
    obtain ⟨r602, s603, hc604, h⟩ := bd_inv h
    refine cl_X8_69 (d1 := 0) (b := zo κ.1 0) (As := [.int (1 : Int32)]) (rest := []) X.1 (by decide) (C_X8_fail X.2.1 hc604) rcX8 rfl rfl (Nat.le_of_ble_eq_true rfl) dX8_points_13 ?_
    exact z_iret X dX8_points_16 h
  · refine z_iload_n (i := 1) X.1 dX8_points_5 1 rfl rfl ?_
    refine z_bipush (v := (10 : Int32)) X.1 dX8_points_6 (by decide) ?_
    refine z_icmp_le (tgt := 17) X.1 dX8_points_8 (by decide) h (fun q606 h => ?_) (fun q606 h => ?_)
    · refine z_aload_n (i := 0) X.1 dX8_points_17 0 rfl rfl ?_
      refine g_X8_net X.1 tw269 dX8_points_18 ?_
      refine g_X2_size (Or.inl rfl) X.1 tw98 dX8_points_21 ?_
      refine z_istore_nn (i := 2) (lv' := fun x607 => [(2, .int x607), (0, .ref (zo κ.1 0)), (1, .int v1)]) X.1 dX8_points_24 rfl (by decide) (fun _ => rfl) h (fun x607 h => ?_)
      refine z_aload_n (i := 0) X.1 dX8_points_25 1 rfl rfl ?_
      refine g_X8_net X.1 tw269 dX8_points_26 ?_
      refine z_iload_n (i := 1) X.1 dX8_points_29 2 rfl rfl ?_
      obtain ⟨r608, s609, hc610, h⟩ := bd_inv h
      refine cl_X8_77 (d1 := 2) (b := zo κ.1 1) (r := 0) (As := [.int v1]) (rest := []) X.1 (by decide) (C_X2_clear X.2.1 (Or.inl rfl) hc610) (rcX2 (Or.inl rfl)) rfl rfl (Nat.le_of_ble_eq_true rfl) dX8_points_30 ?_
      refine z_aload_n (i := 0) X.1 dX8_points_33 1 rfl rfl ?_
      refine g_X8_current X.1 tw274 dX8_points_34 ?_
      refine z_iconst (v := (0 : Int32)) X.1 dX8_points_37 (by decide) ?_
      refine p_X0_on X.1 X.2.1 tw216 (Or.inl rfl) dX8_points_38 h (fun s611 h => ?_)
      refine z_iload_n (i := 2) X.1 dX8_points_41 0 rfl rfl ?_
      exact z_iret X dX8_points_42 h
    · refine z_aload_n (i := 0) X.1 dX8_points_11 0 rfl rfl ?_
      refine z_iconst (v := (1 : Int32)) X.1 dX8_points_12 (by decide) ?_
      obtain ⟨r612, s613, hc614, h⟩ := bd_inv h
      refine cl_X8_69 (d1 := 0) (b := zo κ.1 0) (As := [.int (1 : Int32)]) (rest := []) X.1 (by decide) (C_X8_fail X.2.1 hc614) rcX8 rfl rfl (Nat.le_of_ble_eq_true rfl) dX8_points_13 ?_
      exact z_iret X dX8_points_16 h
theorem C_X8_points {ζ : zW} (hZ : zDis ζ zX) {v1 : Int32} {σ σ' : S3} {r : Int32} (h : F_X8_points v1 σ = some (r, σ')) : zMet ζ zX 3 yX8_points cX8_points 3 (some .int) [.ref (zo ζ 0), .int v1] σ (some (.int r)) σ' :=
  zMet_of pn_X8 hZ (Nat.le_of_ble_eq_true rfl) (fun κ e X => by subst e; exact B_X8_points_0 X h)
noncomputable def F_X8_isWay (v0 : Int32) (σ : S3) : R3 :=
  if v0 < (0 : Int32) then (some ((0 : Int32), σ))
  else (if (2 : Int32) < v0 then (some ((0 : Int32), σ))
  else (some ((1 : Int32), σ)))
set_option maxHeartbeats 4000000 in
set_option maxRecDepth 100000 in
theorem B_X8_isWay_0 {κ : zT} {σ' : S3} {r : Int32} (X : zC κ zX RX8 cX8_isWay 1 (some .boolean) 0 (some (.int r)) σ') {v0 : Int32} {σ : S3} (h : F_X8_isWay v0 σ = some (r, σ')) : Z κ 1 (zX (ze κ.1) σ) [(0, .int v0)] 0 [] := by
  unfold F_X8_isWay at h
  refine z_iload_n (i := 0) X.1 dX8_isWay_0 0 rfl rfl ?_
  refine z_if_lt (tgt := 13) X.1 dX8_isWay_1 (by decide) h (fun q632 h => ?_) (fun q632 h => ?_)
  · refine z_iconst (v := (0 : Int32)) X.1 dX8_isWay_13 (by decide) ?_
    exact z_zret X dX8_isWay_14 (Or.inl rfl) h
  · refine z_iload_n (i := 0) X.1 dX8_isWay_4 0 rfl rfl ?_
    refine z_iconst (v := (2 : Int32)) X.1 dX8_isWay_5 (by decide) ?_
    refine z_icmp_gt (tgt := 13) X.1 dX8_isWay_6 (by decide) h (fun q633 h => ?_) (fun q633 h => ?_)
    · refine z_iconst (v := (0 : Int32)) X.1 dX8_isWay_13 (by decide) ?_
      exact z_zret X dX8_isWay_14 (Or.inl rfl) h
    · refine z_iconst (v := (1 : Int32)) X.1 dX8_isWay_9 (by decide) ?_
      refine z_goto (tgt := 14) X.1 dX8_isWay_10 (by decide) ?_
      exact z_zret X dX8_isWay_14 (Or.inr rfl) h
theorem C_X8_isWay {ζ : zW} (hZ : zDis ζ zX) {v0 : Int32} {σ σ' : S3} {r : Int32} (h : F_X8_isWay v0 σ = some (r, σ')) : zMet ζ zX 0 yX8_isWay cX8_isWay 1 (some .boolean) [.int v0] σ (some (.int r)) σ' :=
  zMet_of pn_X8 hZ (Nat.le_of_ble_eq_true rfl) (fun κ e X => by subst e; exact B_X8_isWay_0 X h)
noncomputable def F_X8_line (v1 : Int32) (v2 : Int32) (v3 : Int32) (σ : S3) : R3 :=
  bd (F_X2_hasPoint 1 v1 σ) (fun r615 s616 => if r615 = (0 : Int32) then (bd (F_X8_fail (1 : Int32) s616) (fun r619 s620 => some (r619, s620)))
  else (bd (F_X2_hasPoint 1 v2 s616) (fun r622 s623 => if r622 = (0 : Int32) then (bd (F_X8_fail (1 : Int32) s623) (fun r626 s627 => some (r626, s627)))
  else (bd (F_X8_isWay v3 s623) (fun r629 s630 => if r629 = (0 : Int32) then (bd (F_X8_fail (1 : Int32) s630) (fun r647 s648 => some (r647, s648)))
  else (if v1 = v2 then (bd (F_X8_fail (5 : Int32) s630) (fun r644 s645 => some (r644, s645)))
  else (if (s630 1 1 0) < (12 : Int32) then (bd (F_X2_join 1 v1 v2 v3 s630) (fun r637 s638 => nm (up s638 6 0 0 (0 : Int32)) (fun s640 => some ((s640 1 1 0) - (1 : Int32), s640))))
  else (bd (F_X8_fail (4 : Int32) s630) (fun r641 s642 => some (r641, s642))))))))))
set_option maxHeartbeats 4000000 in
set_option maxRecDepth 100000 in
theorem B_X8_line_0 {κ : zT} {σ' : S3} {r : Int32} (X : zC κ zX RX8 cX8_line 4 (some .int) 3 (some (.int r)) σ') {v1 : Int32} {v2 : Int32} {v3 : Int32} {σ : S3} (h : F_X8_line v1 v2 v3 σ = some (r, σ')) : Z κ 4 (zX (ze κ.1) σ) [(0, .ref (zo κ.1 0)), (1, .int v1), (2, .int v2), (3, .int v3)] 0 [] := by
  unfold F_X8_line at h
  refine z_aload_n (i := 0) X.1 dX8_line_0 0 rfl rfl ?_
  refine g_X8_net X.1 tw269 dX8_line_1 ?_
  refine z_iload_n (i := 1) X.1 dX8_line_4 1 rfl rfl ?_
  obtain ⟨r615, s616, hc617, h⟩ := bd_inv h
  refine cl_X8_85 (d1 := 0) (b := zo κ.1 1) (As := [.int v1]) (rest := []) X.1 (by decide) (C_X2_hasPoint X.2.1 (Or.inl rfl) hc617) (rcX2 (Or.inl rfl)) rfl rfl (Nat.le_of_ble_eq_true rfl) dX8_line_5 ?_
  refine z_if_eq (tgt := 29) X.1 dX8_line_8 (by decide) h (fun q618 h => ?_) (fun q618 h => ?_)
  · refine z_aload_n (i := 0) X.1 dX8_line_29 0 rfl rfl ?_
    refine z_iconst (v := (1 : Int32)) X.1 dX8_line_30 (by decide) ?_
    obtain ⟨r619, s620, hc621, h⟩ := bd_inv h
    refine cl_X8_69 (d1 := 0) (b := zo κ.1 0) (As := [.int (1 : Int32)]) (rest := []) X.1 (by decide) (C_X8_fail X.2.1 hc621) rcX8 rfl rfl (Nat.le_of_ble_eq_true rfl) dX8_line_31 ?_
    exact z_iret X dX8_line_34 h
  · refine z_aload_n (i := 0) X.1 dX8_line_11 0 rfl rfl ?_
    refine g_X8_net X.1 tw269 dX8_line_12 ?_
    refine z_iload_n (i := 2) X.1 dX8_line_15 2 rfl rfl ?_
    obtain ⟨r622, s623, hc624, h⟩ := bd_inv h
    refine cl_X8_85 (d1 := 0) (b := zo κ.1 1) (As := [.int v2]) (rest := []) X.1 (by decide) (C_X2_hasPoint X.2.1 (Or.inl rfl) hc624) (rcX2 (Or.inl rfl)) rfl rfl (Nat.le_of_ble_eq_true rfl) dX8_line_16 ?_
    refine z_if_eq (tgt := 29) X.1 dX8_line_19 (by decide) h (fun q625 h => ?_) (fun q625 h => ?_)
    · refine z_aload_n (i := 0) X.1 dX8_line_29 0 rfl rfl ?_
      refine z_iconst (v := (1 : Int32)) X.1 dX8_line_30 (by decide) ?_
      obtain ⟨r626, s627, hc628, h⟩ := bd_inv h
      refine cl_X8_69 (d1 := 0) (b := zo κ.1 0) (As := [.int (1 : Int32)]) (rest := []) X.1 (by decide) (C_X8_fail X.2.1 hc628) rcX8 rfl rfl (Nat.le_of_ble_eq_true rfl) dX8_line_31 ?_
      exact z_iret X dX8_line_34 h
    · refine z_iload_n (i := 3) X.1 dX8_line_22 3 rfl rfl ?_
      obtain ⟨r629, s630, hc631, h⟩ := bd_inv h
      refine cl_X8_89 (d1 := 0) (As := [.int v3]) (rest := []) X.1 (by decide) (C_X8_isWay X.2.1 hc631) rfl rfl (Nat.le_of_ble_eq_true rfl) dX8_line_23 ?_
      refine z_if_ne (tgt := 35) X.1 dX8_line_26 (by decide) h (fun q634 h => ?_) (fun q634 h => ?_)
      · refine z_iload_n (i := 1) X.1 dX8_line_35 1 rfl rfl ?_
        refine z_iload_n (i := 2) X.1 dX8_line_36 2 rfl rfl ?_
        refine z_icmp_ne (tgt := 46) X.1 dX8_line_37 (by decide) h (fun q635 h => ?_) (fun q635 h => ?_)
        · refine z_aload_n (i := 0) X.1 dX8_line_46 0 rfl rfl ?_
          refine g_X8_net X.1 tw269 dX8_line_47 ?_
          refine g_X2_lines (Or.inl rfl) X.1 tw101 dX8_line_50 ?_
          refine z_bipush (v := (12 : Int32)) X.1 dX8_line_53 (by decide) ?_
          refine z_icmp_lt (tgt := 64) X.1 dX8_line_55 (by decide) h (fun q636 h => ?_) (fun q636 h => ?_)
          · refine z_aload_n (i := 0) X.1 dX8_line_64 0 rfl rfl ?_
            refine g_X8_net X.1 tw269 dX8_line_65 ?_
            refine z_iload_n (i := 1) X.1 dX8_line_68 1 rfl rfl ?_
            refine z_iload_n (i := 2) X.1 dX8_line_69 2 rfl rfl ?_
            refine z_iload_n (i := 3) X.1 dX8_line_70 3 rfl rfl ?_
            obtain ⟨r637, s638, hc639, h⟩ := bd_inv h
            refine cl_X8_95 (d1 := 2) (b := zo κ.1 1) (r := 0) (As := [.int v1, .int v2, .int v3]) (rest := []) X.1 (by decide) (C_X2_join X.2.1 (Or.inl rfl) hc639) (rcX2 (Or.inl rfl)) rfl rfl (Nat.le_of_ble_eq_true rfl) dX8_line_71 ?_
            refine z_aload_n (i := 0) X.1 dX8_line_74 0 rfl rfl ?_
            refine g_X8_current X.1 tw274 dX8_line_75 ?_
            refine z_iconst (v := (0 : Int32)) X.1 dX8_line_78 (by decide) ?_
            refine p_X0_on X.1 X.2.1 tw216 (Or.inl rfl) dX8_line_79 h (fun s640 h => ?_)
            refine z_aload_n (i := 0) X.1 dX8_line_82 0 rfl rfl ?_
            refine g_X8_net X.1 tw269 dX8_line_83 ?_
            refine g_X2_lines (Or.inl rfl) X.1 tw101 dX8_line_86 ?_
            refine z_iconst (v := (1 : Int32)) X.1 dX8_line_89 (by decide) ?_
            refine z_isub X.1 dX8_line_90 ?_
            exact z_iret X dX8_line_91 h
          · refine z_aload_n (i := 0) X.1 dX8_line_58 0 rfl rfl ?_
            refine z_iconst (v := (4 : Int32)) X.1 dX8_line_59 (by decide) ?_
            obtain ⟨r641, s642, hc643, h⟩ := bd_inv h
            refine cl_X8_69 (d1 := 0) (b := zo κ.1 0) (As := [.int (4 : Int32)]) (rest := []) X.1 (by decide) (C_X8_fail X.2.1 hc643) rcX8 rfl rfl (Nat.le_of_ble_eq_true rfl) dX8_line_60 ?_
            exact z_iret X dX8_line_63 h
        · refine z_aload_n (i := 0) X.1 dX8_line_40 0 rfl rfl ?_
          refine z_iconst (v := (5 : Int32)) X.1 dX8_line_41 (by decide) ?_
          obtain ⟨r644, s645, hc646, h⟩ := bd_inv h
          refine cl_X8_69 (d1 := 0) (b := zo κ.1 0) (As := [.int (5 : Int32)]) (rest := []) X.1 (by decide) (C_X8_fail X.2.1 hc646) rcX8 rfl rfl (Nat.le_of_ble_eq_true rfl) dX8_line_42 ?_
          exact z_iret X dX8_line_45 h
      · refine z_aload_n (i := 0) X.1 dX8_line_29 0 rfl rfl ?_
        refine z_iconst (v := (1 : Int32)) X.1 dX8_line_30 (by decide) ?_
        obtain ⟨r647, s648, hc649, h⟩ := bd_inv h
        refine cl_X8_69 (d1 := 0) (b := zo κ.1 0) (As := [.int (1 : Int32)]) (rest := []) X.1 (by decide) (C_X8_fail X.2.1 hc649) rcX8 rfl rfl (Nat.le_of_ble_eq_true rfl) dX8_line_31 ?_
        exact z_iret X dX8_line_34 h
theorem C_X8_line {ζ : zW} (hZ : zDis ζ zX) {v1 : Int32} {v2 : Int32} {v3 : Int32} {σ σ' : S3} {r : Int32} (h : F_X8_line v1 v2 v3 σ = some (r, σ')) : zMet ζ zX 3 yX8_line cX8_line 4 (some .int) [.ref (zo ζ 0), .int v1, .int v2, .int v3] σ (some (.int r)) σ' :=
  zMet_of pn_X8 hZ (Nat.le_of_ble_eq_true rfl) (fun κ e X => by subst e; exact B_X8_line_0 X h)
noncomputable def F_X8_way (v1 : Int32) (v2 : Int32) (σ : S3) : R3 :=
  bd (F_X2_hasLine 1 v1 σ) (fun r650 s651 => if r650 = (0 : Int32) then (bd (F_X8_fail (1 : Int32) s651) (fun r654 s655 => some (r654, s655)))
  else (bd (F_X8_isWay v2 s651) (fun r657 s658 => if r657 = (0 : Int32) then (bd (F_X8_fail (1 : Int32) s658) (fun r666 s667 => some (r666, s667)))
  else (ck v1 12 (nm (s658 1 4 (ix v1)) (fun x661 => bd (F_X2_turn 1 v1 v2 s658) (fun r662 s663 => nm (up s663 6 0 0 (0 : Int32)) (fun s665 => some (x661, s665)))))))))
set_option maxHeartbeats 4000000 in
set_option maxRecDepth 100000 in
theorem B_X8_way_0 {κ : zT} {σ' : S3} {r : Int32} (X : zC κ zX RX8 cX8_way 4 (some .int) 3 (some (.int r)) σ') {v1 : Int32} {v2 : Int32} {σ : S3} (h : F_X8_way v1 v2 σ = some (r, σ')) : Z κ 4 (zX (ze κ.1) σ) [(0, .ref (zo κ.1 0)), (1, .int v1), (2, .int v2)] 0 [] := by
  unfold F_X8_way at h
  refine z_aload_n (i := 0) X.1 dX8_way_0 0 rfl rfl ?_
  refine g_X8_net X.1 tw269 dX8_way_1 ?_
  refine z_iload_n (i := 1) X.1 dX8_way_4 1 rfl rfl ?_
  obtain ⟨r650, s651, hc652, h⟩ := bd_inv h
  refine cl_X8_99 (d1 := 0) (b := zo κ.1 1) (As := [.int v1]) (rest := []) X.1 (by decide) (C_X2_hasLine X.2.1 (Or.inl rfl) hc652) (rcX2 (Or.inl rfl)) rfl rfl (Nat.le_of_ble_eq_true rfl) dX8_way_5 ?_
  refine z_if_eq (tgt := 18) X.1 dX8_way_8 (by decide) h (fun q653 h => ?_) (fun q653 h => ?_)
  · refine z_aload_n (i := 0) X.1 dX8_way_18 0 rfl rfl ?_
    refine z_iconst (v := (1 : Int32)) X.1 dX8_way_19 (by decide) ?_
    obtain ⟨r654, s655, hc656, h⟩ := bd_inv h
    refine cl_X8_69 (d1 := 0) (b := zo κ.1 0) (As := [.int (1 : Int32)]) (rest := []) X.1 (by decide) (C_X8_fail X.2.1 hc656) rcX8 rfl rfl (Nat.le_of_ble_eq_true rfl) dX8_way_20 ?_
    exact z_iret X dX8_way_23 h
  · refine z_iload_n (i := 2) X.1 dX8_way_11 2 rfl rfl ?_
    obtain ⟨r657, s658, hc659, h⟩ := bd_inv h
    refine cl_X8_89 (d1 := 0) (As := [.int v2]) (rest := []) X.1 (by decide) (C_X8_isWay X.2.1 hc659) rfl rfl (Nat.le_of_ble_eq_true rfl) dX8_way_12 ?_
    refine z_if_ne (tgt := 24) X.1 dX8_way_15 (by decide) h (fun q660 h => ?_) (fun q660 h => ?_)
    · refine z_aload_n (i := 0) X.1 dX8_way_24 0 rfl rfl ?_
      refine g_X8_net X.1 tw269 dX8_way_25 ?_
      refine g_X2_ways (Or.inl rfl) X.1 tw110 dX8_way_28 ?_
      refine z_iload_n (i := 1) X.1 dX8_way_31 1 rfl rfl ?_
      refine al_X2_ways (Or.inl rfl) X.1 dX8_way_32 h (fun h => ?_)
      refine z_istore_nn (i := 3) (lv' := fun x661 => [(3, .int x661), (0, .ref (zo κ.1 0)), (1, .int v1), (2, .int v2)]) X.1 dX8_way_33 rfl (by decide) (fun _ => rfl) h (fun x661 h => ?_)
      refine z_aload_n (i := 0) X.1 dX8_way_34 1 rfl rfl ?_
      refine g_X8_net X.1 tw269 dX8_way_35 ?_
      refine z_iload_n (i := 1) X.1 dX8_way_38 2 rfl rfl ?_
      refine z_iload_n (i := 2) X.1 dX8_way_39 3 rfl rfl ?_
      obtain ⟨r662, s663, hc664, h⟩ := bd_inv h
      refine cl_X8_105 (d1 := 2) (b := zo κ.1 1) (r := 0) (As := [.int v1, .int v2]) (rest := []) X.1 (by decide) (C_X2_turn X.2.1 (Or.inl rfl) hc664) (rcX2 (Or.inl rfl)) rfl rfl (Nat.le_of_ble_eq_true rfl) dX8_way_40 ?_
      refine z_aload_n (i := 0) X.1 dX8_way_43 1 rfl rfl ?_
      refine g_X8_current X.1 tw274 dX8_way_44 ?_
      refine z_iconst (v := (0 : Int32)) X.1 dX8_way_47 (by decide) ?_
      refine p_X0_on X.1 X.2.1 tw216 (Or.inl rfl) dX8_way_48 h (fun s665 h => ?_)
      refine z_iload_n (i := 3) X.1 dX8_way_51 0 rfl rfl ?_
      exact z_iret X dX8_way_52 h
    · refine z_aload_n (i := 0) X.1 dX8_way_18 0 rfl rfl ?_
      refine z_iconst (v := (1 : Int32)) X.1 dX8_way_19 (by decide) ?_
      obtain ⟨r666, s667, hc668, h⟩ := bd_inv h
      refine cl_X8_69 (d1 := 0) (b := zo κ.1 0) (As := [.int (1 : Int32)]) (rest := []) X.1 (by decide) (C_X8_fail X.2.1 hc668) rcX8 rfl rfl (Nat.le_of_ble_eq_true rfl) dX8_way_20 ?_
      exact z_iret X dX8_way_23 h
theorem C_X8_way {ζ : zW} (hZ : zDis ζ zX) {v1 : Int32} {v2 : Int32} {σ σ' : S3} {r : Int32} (h : F_X8_way v1 v2 σ = some (r, σ')) : zMet ζ zX 3 yX8_way cX8_way 4 (some .int) [.ref (zo ζ 0), .int v1, .int v2] σ (some (.int r)) σ' :=
  zMet_of pn_X8 hZ (Nat.le_of_ble_eq_true rfl) (fun κ e X => by subst e; exact B_X8_way_0 X h)
noncomputable def F_X8_cut (v1 : Int32) (σ : S3) : R3 :=
  bd (F_X2_hasLine 1 v1 σ) (fun r669 s670 => if r669 = (0 : Int32) then (bd (F_X8_fail (1 : Int32) s670) (fun r677 s678 => some (r677, s678)))
  else (bd (F_X2_remove 1 v1 s670) (fun r673 s674 => nm (up s674 6 0 0 (0 : Int32)) (fun s676 => some (s676 1 1 0, s676)))))
set_option maxHeartbeats 4000000 in
set_option maxRecDepth 100000 in
theorem B_X8_cut_0 {κ : zT} {σ' : S3} {r : Int32} (X : zC κ zX RX8 cX8_cut 2 (some .int) 3 (some (.int r)) σ') {v1 : Int32} {σ : S3} (h : F_X8_cut v1 σ = some (r, σ')) : Z κ 2 (zX (ze κ.1) σ) [(0, .ref (zo κ.1 0)), (1, .int v1)] 0 [] := by
  unfold F_X8_cut at h
  refine z_aload_n (i := 0) X.1 dX8_cut_0 0 rfl rfl ?_
  refine g_X8_net X.1 tw269 dX8_cut_1 ?_
  refine z_iload_n (i := 1) X.1 dX8_cut_4 1 rfl rfl ?_
  obtain ⟨r669, s670, hc671, h⟩ := bd_inv h
  refine cl_X8_99 (d1 := 0) (b := zo κ.1 1) (As := [.int v1]) (rest := []) X.1 (by decide) (C_X2_hasLine X.2.1 (Or.inl rfl) hc671) (rcX2 (Or.inl rfl)) rfl rfl (Nat.le_of_ble_eq_true rfl) dX8_cut_5 ?_
  refine z_if_ne (tgt := 17) X.1 dX8_cut_8 (by decide) h (fun q672 h => ?_) (fun q672 h => ?_)
  · refine z_aload_n (i := 0) X.1 dX8_cut_17 0 rfl rfl ?_
    refine g_X8_net X.1 tw269 dX8_cut_18 ?_
    refine z_iload_n (i := 1) X.1 dX8_cut_21 1 rfl rfl ?_
    obtain ⟨r673, s674, hc675, h⟩ := bd_inv h
    refine cl_X8_109 (d1 := 2) (b := zo κ.1 1) (r := 0) (As := [.int v1]) (rest := []) X.1 (by decide) (C_X2_remove X.2.1 (Or.inl rfl) hc675) (rcX2 (Or.inl rfl)) rfl rfl (Nat.le_of_ble_eq_true rfl) dX8_cut_22 ?_
    refine z_aload_n (i := 0) X.1 dX8_cut_25 0 rfl rfl ?_
    refine g_X8_current X.1 tw274 dX8_cut_26 ?_
    refine z_iconst (v := (0 : Int32)) X.1 dX8_cut_29 (by decide) ?_
    refine p_X0_on X.1 X.2.1 tw216 (Or.inl rfl) dX8_cut_30 h (fun s676 h => ?_)
    refine z_aload_n (i := 0) X.1 dX8_cut_33 0 rfl rfl ?_
    refine g_X8_net X.1 tw269 dX8_cut_34 ?_
    refine g_X2_lines (Or.inl rfl) X.1 tw101 dX8_cut_37 ?_
    exact z_iret X dX8_cut_40 h
  · refine z_aload_n (i := 0) X.1 dX8_cut_11 0 rfl rfl ?_
    refine z_iconst (v := (1 : Int32)) X.1 dX8_cut_12 (by decide) ?_
    obtain ⟨r677, s678, hc679, h⟩ := bd_inv h
    refine cl_X8_69 (d1 := 0) (b := zo κ.1 0) (As := [.int (1 : Int32)]) (rest := []) X.1 (by decide) (C_X8_fail X.2.1 hc679) rcX8 rfl rfl (Nat.le_of_ble_eq_true rfl) dX8_cut_13 ?_
    exact z_iret X dX8_cut_16 h
theorem C_X8_cut {ζ : zW} (hZ : zDis ζ zX) {v1 : Int32} {σ σ' : S3} {r : Int32} (h : F_X8_cut v1 σ = some (r, σ')) : zMet ζ zX 3 yX8_cut cX8_cut 2 (some .int) [.ref (zo ζ 0), .int v1] σ (some (.int r)) σ' :=
  zMet_of pn_X8 hZ (Nat.le_of_ble_eq_true rfl) (fun κ e X => by subst e; exact B_X8_cut_0 X h)
noncomputable def F_X8_ends (v1 : Int32) (v2 : Int32) (σ : S3) : R3 :=
  bd (F_X2_hasLine 1 v1 σ) (fun r680 s681 => if r680 = (0 : Int32) then (bd (F_X8_fail (1 : Int32) s681) (fun r684 s685 => some (r684, s685)))
  else (if v2 < (0 : Int32) then (bd (F_X8_fail (1 : Int32) s681) (fun r688 s689 => some (r688, s689)))
  else (if v2 ≤ (2 : Int32) then (if v2 = (0 : Int32) then (ck v1 12 (some (s681 1 2 (ix v1), s681)))
  else (if v2 = (1 : Int32) then (ck v1 12 (some (s681 1 3 (ix v1), s681)))
  else (ck v1 12 (some (s681 1 4 (ix v1), s681)))))
  else (bd (F_X8_fail (1 : Int32) s681) (fun r694 s695 => some (r694, s695))))))
set_option maxHeartbeats 4000000 in
set_option maxRecDepth 100000 in
theorem B_X8_ends_0 {κ : zT} {σ' : S3} {r : Int32} (X : zC κ zX RX8 cX8_ends 3 (some .int) 1 (some (.int r)) σ') {v1 : Int32} {v2 : Int32} {σ : S3} (h : F_X8_ends v1 v2 σ = some (r, σ')) : Z κ 3 (zX (ze κ.1) σ) [(0, .ref (zo κ.1 0)), (1, .int v1), (2, .int v2)] 0 [] := by
  unfold F_X8_ends at h
  refine z_aload_n (i := 0) X.1 dX8_ends_0 0 rfl rfl ?_
  refine g_X8_net X.1 tw269 dX8_ends_1 ?_
  refine z_iload_n (i := 1) X.1 dX8_ends_4 1 rfl rfl ?_
  obtain ⟨r680, s681, hc682, h⟩ := bd_inv h
  refine cl_X8_99 (d1 := 0) (b := zo κ.1 1) (As := [.int v1]) (rest := []) X.1 (by decide) (C_X2_hasLine X.2.1 (Or.inl rfl) hc682) (rcX2 (Or.inl rfl)) rfl rfl (Nat.le_of_ble_eq_true rfl) dX8_ends_5 ?_
  refine z_if_eq (tgt := 20) X.1 dX8_ends_8 (by decide) h (fun q683 h => ?_) (fun q683 h => ?_)
  · refine z_aload_n (i := 0) X.1 dX8_ends_20 0 rfl rfl ?_
    refine z_iconst (v := (1 : Int32)) X.1 dX8_ends_21 (by decide) ?_
    obtain ⟨r684, s685, hc686, h⟩ := bd_inv h
    refine cl_X8_69 (d1 := 0) (b := zo κ.1 0) (As := [.int (1 : Int32)]) (rest := []) X.1 (by decide) (C_X8_fail X.2.1 hc686) rcX8 rfl rfl (Nat.le_of_ble_eq_true rfl) dX8_ends_22 ?_
    exact z_iret X dX8_ends_25 h
  · refine z_iload_n (i := 2) X.1 dX8_ends_11 2 rfl rfl ?_
    refine z_if_lt (tgt := 20) X.1 dX8_ends_12 (by decide) h (fun q687 h => ?_) (fun q687 h => ?_)
    · refine z_aload_n (i := 0) X.1 dX8_ends_20 0 rfl rfl ?_
      refine z_iconst (v := (1 : Int32)) X.1 dX8_ends_21 (by decide) ?_
      obtain ⟨r688, s689, hc690, h⟩ := bd_inv h
      refine cl_X8_69 (d1 := 0) (b := zo κ.1 0) (As := [.int (1 : Int32)]) (rest := []) X.1 (by decide) (C_X8_fail X.2.1 hc690) rcX8 rfl rfl (Nat.le_of_ble_eq_true rfl) dX8_ends_22 ?_
      exact z_iret X dX8_ends_25 h
    · refine z_iload_n (i := 2) X.1 dX8_ends_15 2 rfl rfl ?_
      refine z_iconst (v := (2 : Int32)) X.1 dX8_ends_16 (by decide) ?_
      refine z_icmp_le (tgt := 26) X.1 dX8_ends_17 (by decide) h (fun q691 h => ?_) (fun q691 h => ?_)
      · refine z_iload_n (i := 2) X.1 dX8_ends_26 2 rfl rfl ?_
        refine z_if_ne (tgt := 40) X.1 dX8_ends_27 (by decide) h (fun q692 h => ?_) (fun q692 h => ?_)
        · refine z_iload_n (i := 2) X.1 dX8_ends_40 2 rfl rfl ?_
          refine z_iconst (v := (1 : Int32)) X.1 dX8_ends_41 (by decide) ?_
          refine z_icmp_ne (tgt := 57) X.1 dX8_ends_42 (by decide) h (fun q693 h => ?_) (fun q693 h => ?_)
          · refine z_aload_n (i := 0) X.1 dX8_ends_57 0 rfl rfl ?_
            refine g_X8_net X.1 tw269 dX8_ends_58 ?_
            refine g_X2_ways (Or.inl rfl) X.1 tw110 dX8_ends_61 ?_
            refine z_iload_n (i := 1) X.1 dX8_ends_64 1 rfl rfl ?_
            refine al_X2_ways (Or.inl rfl) X.1 dX8_ends_65 h (fun h => ?_)
            exact z_iret X dX8_ends_66 h
          · refine z_aload_n (i := 0) X.1 dX8_ends_45 0 rfl rfl ?_
            refine g_X8_net X.1 tw269 dX8_ends_46 ?_
            refine g_X2_to (Or.inl rfl) X.1 tw108 dX8_ends_49 ?_
            refine z_iload_n (i := 1) X.1 dX8_ends_52 1 rfl rfl ?_
            refine al_X2_to (Or.inl rfl) X.1 dX8_ends_53 h (fun h => ?_)
            refine z_goto (tgt := 66) X.1 dX8_ends_54 (by decide) ?_
            exact z_iret X dX8_ends_66 h
        · refine z_aload_n (i := 0) X.1 dX8_ends_30 0 rfl rfl ?_
          refine g_X8_net X.1 tw269 dX8_ends_31 ?_
          refine g_X2_from (Or.inl rfl) X.1 tw106 dX8_ends_34 ?_
          refine z_iload_n (i := 1) X.1 dX8_ends_37 1 rfl rfl ?_
          refine al_X2_from (Or.inl rfl) X.1 dX8_ends_38 h (fun h => ?_)
          exact z_iret X dX8_ends_39 h
      · refine z_aload_n (i := 0) X.1 dX8_ends_20 0 rfl rfl ?_
        refine z_iconst (v := (1 : Int32)) X.1 dX8_ends_21 (by decide) ?_
        obtain ⟨r694, s695, hc696, h⟩ := bd_inv h
        refine cl_X8_69 (d1 := 0) (b := zo κ.1 0) (As := [.int (1 : Int32)]) (rest := []) X.1 (by decide) (C_X8_fail X.2.1 hc696) rcX8 rfl rfl (Nat.le_of_ble_eq_true rfl) dX8_ends_22 ?_
        exact z_iret X dX8_ends_25 h
theorem C_X8_ends {ζ : zW} (hZ : zDis ζ zX) {v1 : Int32} {v2 : Int32} {σ σ' : S3} {r : Int32} (h : F_X8_ends v1 v2 σ = some (r, σ')) : zMet ζ zX 1 yX8_ends cX8_ends 3 (some .int) [.ref (zo ζ 0), .int v1, .int v2] σ (some (.int r)) σ' :=
  zMet_of pn_X8 hZ (Nat.le_of_ble_eq_true rfl) (fun κ e X => by subst e; exact B_X8_ends_0 X h)
noncomputable def F_X8_at (v1 : Int32) (v2 : Int32) (σ : S3) : R3 :=
  bd (F_X2_hasPoint 1 v1 σ) (fun r697 s698 => if r697 = (0 : Int32) then (bd (F_X8_fail (1 : Int32) s698) (fun r701 s702 => some (r701, s702)))
  else (if v2 < (0 : Int32) then (bd (F_X8_fail (1 : Int32) s698) (fun r705 s706 => some (r705, s706)))
  else (if v2 ≤ (2 : Int32) then (bd (F_X2_degree 1 v1 v2 s698) (fun r709 s710 => some (r709, s710)))
  else (bd (F_X8_fail (1 : Int32) s698) (fun r712 s713 => some (r712, s713))))))
set_option maxHeartbeats 4000000 in
set_option maxRecDepth 100000 in
theorem B_X8_at_0 {κ : zT} {σ' : S3} {r : Int32} (X : zC κ zX RX8 cX8_at 3 (some .int) 2 (some (.int r)) σ') {v1 : Int32} {v2 : Int32} {σ : S3} (h : F_X8_at v1 v2 σ = some (r, σ')) : Z κ 3 (zX (ze κ.1) σ) [(0, .ref (zo κ.1 0)), (1, .int v1), (2, .int v2)] 0 [] := by
  unfold F_X8_at at h
  refine z_aload_n (i := 0) X.1 dX8_at_0 0 rfl rfl ?_
  refine g_X8_net X.1 tw269 dX8_at_1 ?_
  refine z_iload_n (i := 1) X.1 dX8_at_4 1 rfl rfl ?_
  obtain ⟨r697, s698, hc699, h⟩ := bd_inv h
  refine cl_X8_85 (d1 := 0) (b := zo κ.1 1) (As := [.int v1]) (rest := []) X.1 (by decide) (C_X2_hasPoint X.2.1 (Or.inl rfl) hc699) (rcX2 (Or.inl rfl)) rfl rfl (Nat.le_of_ble_eq_true rfl) dX8_at_5 ?_
  refine z_if_eq (tgt := 20) X.1 dX8_at_8 (by decide) h (fun q700 h => ?_) (fun q700 h => ?_)
  · refine z_aload_n (i := 0) X.1 dX8_at_20 0 rfl rfl ?_
    refine z_iconst (v := (1 : Int32)) X.1 dX8_at_21 (by decide) ?_
    obtain ⟨r701, s702, hc703, h⟩ := bd_inv h
    refine cl_X8_69 (d1 := 0) (b := zo κ.1 0) (As := [.int (1 : Int32)]) (rest := []) X.1 (by decide) (C_X8_fail X.2.1 hc703) rcX8 rfl rfl (Nat.le_of_ble_eq_true rfl) dX8_at_22 ?_
    exact z_iret X dX8_at_25 h
  · refine z_iload_n (i := 2) X.1 dX8_at_11 2 rfl rfl ?_
    refine z_if_lt (tgt := 20) X.1 dX8_at_12 (by decide) h (fun q704 h => ?_) (fun q704 h => ?_)
    · refine z_aload_n (i := 0) X.1 dX8_at_20 0 rfl rfl ?_
      refine z_iconst (v := (1 : Int32)) X.1 dX8_at_21 (by decide) ?_
      obtain ⟨r705, s706, hc707, h⟩ := bd_inv h
      refine cl_X8_69 (d1 := 0) (b := zo κ.1 0) (As := [.int (1 : Int32)]) (rest := []) X.1 (by decide) (C_X8_fail X.2.1 hc707) rcX8 rfl rfl (Nat.le_of_ble_eq_true rfl) dX8_at_22 ?_
      exact z_iret X dX8_at_25 h
    · refine z_iload_n (i := 2) X.1 dX8_at_15 2 rfl rfl ?_
      refine z_iconst (v := (2 : Int32)) X.1 dX8_at_16 (by decide) ?_
      refine z_icmp_le (tgt := 26) X.1 dX8_at_17 (by decide) h (fun q708 h => ?_) (fun q708 h => ?_)
      · refine z_aload_n (i := 0) X.1 dX8_at_26 0 rfl rfl ?_
        refine g_X8_net X.1 tw269 dX8_at_27 ?_
        refine z_iload_n (i := 1) X.1 dX8_at_30 1 rfl rfl ?_
        refine z_iload_n (i := 2) X.1 dX8_at_31 2 rfl rfl ?_
        obtain ⟨r709, s710, hc711, h⟩ := bd_inv h
        refine cl_X8_118 (d1 := 1) (b := zo κ.1 1) (As := [.int v1, .int v2]) (rest := []) X.1 (by decide) (C_X2_degree X.2.1 (Or.inl rfl) hc711) (rcX2 (Or.inl rfl)) rfl rfl (Nat.le_of_ble_eq_true rfl) dX8_at_32 ?_
        exact z_iret X dX8_at_35 h
      · refine z_aload_n (i := 0) X.1 dX8_at_20 0 rfl rfl ?_
        refine z_iconst (v := (1 : Int32)) X.1 dX8_at_21 (by decide) ?_
        obtain ⟨r712, s713, hc714, h⟩ := bd_inv h
        refine cl_X8_69 (d1 := 0) (b := zo κ.1 0) (As := [.int (1 : Int32)]) (rest := []) X.1 (by decide) (C_X8_fail X.2.1 hc714) rcX8 rfl rfl (Nat.le_of_ble_eq_true rfl) dX8_at_22 ?_
        exact z_iret X dX8_at_25 h
theorem C_X8_at {ζ : zW} (hZ : zDis ζ zX) {v1 : Int32} {v2 : Int32} {σ σ' : S3} {r : Int32} (h : F_X8_at v1 v2 σ = some (r, σ')) : zMet ζ zX 2 yX8_at cX8_at 3 (some .int) [.ref (zo ζ 0), .int v1, .int v2] σ (some (.int r)) σ' :=
  zMet_of pn_X8 hZ (Nat.le_of_ble_eq_true rfl) (fun κ e X => by subst e; exact B_X8_at_0 X h)
noncomputable def F_X8_sides (σ : S3) : R3 :=
  bd (F_X2_sideZero 1 σ) (fun r715 s716 => if (0 : Int32) ≤ r715 then (some (r715, s716))
  else (bd (F_X8_fail (2 : Int32) s716) (fun r719 s720 => some (r719, s720))))
set_option maxHeartbeats 4000000 in
set_option maxRecDepth 100000 in
theorem B_X8_sides_0 {κ : zT} {σ' : S3} {r : Int32} (X : zC κ zX RX8 cX8_sides 2 (some .int) 2 (some (.int r)) σ') {σ : S3} (h : F_X8_sides σ = some (r, σ')) : Z κ 2 (zX (ze κ.1) σ) [(0, .ref (zo κ.1 0))] 0 [] := by
  unfold F_X8_sides at h
  refine z_aload_n (i := 0) X.1 dX8_sides_0 0 rfl rfl ?_
  refine g_X8_net X.1 tw269 dX8_sides_1 ?_
  obtain ⟨r715, s716, hc717, h⟩ := bd_inv h
  refine cl_X8_122 (d1 := 1) (b := zo κ.1 1) (As := []) (rest := []) X.1 (by decide) (C_X2_sideZero X.2.1 (Or.inl rfl) hc717) (rcX2 (Or.inl rfl)) rfl rfl (Nat.le_of_ble_eq_true rfl) dX8_sides_4 ?_
  refine z_istore_n (i := 1) (lv' := [(1, .int r715), (0, .ref (zo κ.1 0))]) X.1 dX8_sides_7 rfl (by decide) rfl ?_
  refine z_iload_n (i := 1) X.1 dX8_sides_8 0 rfl rfl ?_
  refine z_if_ge (tgt := 20) X.1 dX8_sides_9 (by decide) h (fun q718 h => ?_) (fun q718 h => ?_)
  · refine z_iload_n (i := 1) X.1 dX8_sides_20 0 rfl rfl ?_
    exact z_iret X dX8_sides_21 h
  · refine z_aload_n (i := 0) X.1 dX8_sides_12 1 rfl rfl ?_
    refine z_iconst (v := (2 : Int32)) X.1 dX8_sides_13 (by decide) ?_
    obtain ⟨r719, s720, hc721, h⟩ := bd_inv h
    refine cl_X8_69 (d1 := 0) (b := zo κ.1 0) (As := [.int (2 : Int32)]) (rest := []) X.1 (by decide) (C_X8_fail X.2.1 hc721) rcX8 rfl rfl (Nat.le_of_ble_eq_true rfl) dX8_sides_14 ?_
    refine z_goto (tgt := 21) X.1 dX8_sides_17 (by decide) ?_
    exact z_iret X dX8_sides_21 h
theorem C_X8_sides {ζ : zW} (hZ : zDis ζ zX) {σ σ' : S3} {r : Int32} (h : F_X8_sides  σ = some (r, σ')) : zMet ζ zX 2 yX8_sides cX8_sides 2 (some .int) [.ref (zo ζ 0)] σ (some (.int r)) σ' :=
  zMet_of pn_X8 hZ (Nat.le_of_ble_eq_true rfl) (fun κ e X => by subst e; exact B_X8_sides_0 X h)
noncomputable def F_X8_pairing (v1 : Int32) (v2 : Int32) (σ : S3) : R3 :=
  if v1 < (0 : Int32) then (bd (F_X8_fail (1 : Int32) σ) (fun r723 s724 => some (r723, s724)))
  else (bd (F_X2_everyPoint 1 σ) (fun r726 s727 => if r726 < v1 then (bd (F_X8_fail (1 : Int32) s727) (fun r730 s731 => some (r730, s731)))
  else (if v2 < (0 : Int32) then (bd (F_X8_fail (1 : Int32) s727) (fun r734 s735 => some (r734, s735)))
  else (if v2 ≤ (1 : Int32) then (if v2 = (0 : Int32) then (bd (F_X2_mostPairs 1 v1 s727) (fun r742 s743 => some (r742, s743)))
  else (bd (F_X2_leastPairing 1 v1 s727) (fun r739 s740 => some (r739, s740))))
  else (bd (F_X8_fail (1 : Int32) s727) (fun r745 s746 => some (r745, s746)))))))
set_option maxHeartbeats 4000000 in
set_option maxRecDepth 100000 in
theorem B_X8_pairing_0 {κ : zT} {σ' : S3} {r : Int32} (X : zC κ zX RX8 cX8_pairing 3 (some .int) 23 (some (.int r)) σ') {v1 : Int32} {v2 : Int32} {σ : S3} (h : F_X8_pairing v1 v2 σ = some (r, σ')) : Z κ 3 (zX (ze κ.1) σ) [(0, .ref (zo κ.1 0)), (1, .int v1), (2, .int v2)] 0 [] := by
  unfold F_X8_pairing at h
  refine z_iload_n (i := 1) X.1 dX8_pairing_0 1 rfl rfl ?_
  refine z_if_lt (tgt := 24) X.1 dX8_pairing_1 (by decide) h (fun q722 h => ?_) (fun q722 h => ?_)
  · refine z_aload_n (i := 0) X.1 dX8_pairing_24 0 rfl rfl ?_
    refine z_iconst (v := (1 : Int32)) X.1 dX8_pairing_25 (by decide) ?_
    obtain ⟨r723, s724, hc725, h⟩ := bd_inv h
    refine cl_X8_69 (d1 := 0) (b := zo κ.1 0) (As := [.int (1 : Int32)]) (rest := []) X.1 (by decide) (C_X8_fail X.2.1 hc725) rcX8 rfl rfl (Nat.le_of_ble_eq_true rfl) dX8_pairing_26 ?_
    exact z_iret X dX8_pairing_29 h
  · refine z_iload_n (i := 1) X.1 dX8_pairing_4 1 rfl rfl ?_
    refine z_aload_n (i := 0) X.1 dX8_pairing_5 0 rfl rfl ?_
    refine g_X8_net X.1 tw269 dX8_pairing_6 ?_
    obtain ⟨r726, s727, hc728, h⟩ := bd_inv h
    refine cl_X8_126 (d1 := 0) (b := zo κ.1 1) (As := []) (rest := [.int v1]) X.1 (by decide) (C_X2_everyPoint X.2.1 (Or.inl rfl) hc728) (rcX2 (Or.inl rfl)) rfl rfl (Nat.le_of_ble_eq_true rfl) dX8_pairing_9 ?_
    refine z_icmp_gt (tgt := 24) X.1 dX8_pairing_12 (by decide) h (fun q729 h => ?_) (fun q729 h => ?_)
    · refine z_aload_n (i := 0) X.1 dX8_pairing_24 0 rfl rfl ?_
      refine z_iconst (v := (1 : Int32)) X.1 dX8_pairing_25 (by decide) ?_
      obtain ⟨r730, s731, hc732, h⟩ := bd_inv h
      refine cl_X8_69 (d1 := 0) (b := zo κ.1 0) (As := [.int (1 : Int32)]) (rest := []) X.1 (by decide) (C_X8_fail X.2.1 hc732) rcX8 rfl rfl (Nat.le_of_ble_eq_true rfl) dX8_pairing_26 ?_
      exact z_iret X dX8_pairing_29 h
    · refine z_iload_n (i := 2) X.1 dX8_pairing_15 2 rfl rfl ?_
      refine z_if_lt (tgt := 24) X.1 dX8_pairing_16 (by decide) h (fun q733 h => ?_) (fun q733 h => ?_)
      · refine z_aload_n (i := 0) X.1 dX8_pairing_24 0 rfl rfl ?_
        refine z_iconst (v := (1 : Int32)) X.1 dX8_pairing_25 (by decide) ?_
        obtain ⟨r734, s735, hc736, h⟩ := bd_inv h
        refine cl_X8_69 (d1 := 0) (b := zo κ.1 0) (As := [.int (1 : Int32)]) (rest := []) X.1 (by decide) (C_X8_fail X.2.1 hc736) rcX8 rfl rfl (Nat.le_of_ble_eq_true rfl) dX8_pairing_26 ?_
        exact z_iret X dX8_pairing_29 h
      · refine z_iload_n (i := 2) X.1 dX8_pairing_19 2 rfl rfl ?_
        refine z_iconst (v := (1 : Int32)) X.1 dX8_pairing_20 (by decide) ?_
        refine z_icmp_le (tgt := 30) X.1 dX8_pairing_21 (by decide) h (fun q737 h => ?_) (fun q737 h => ?_)
        · refine z_iload_n (i := 2) X.1 dX8_pairing_30 2 rfl rfl ?_
          refine z_if_ne (tgt := 45) X.1 dX8_pairing_31 (by decide) h (fun q738 h => ?_) (fun q738 h => ?_)
          · refine z_aload_n (i := 0) X.1 dX8_pairing_45 0 rfl rfl ?_
            refine g_X8_net X.1 tw269 dX8_pairing_46 ?_
            refine z_iload_n (i := 1) X.1 dX8_pairing_49 1 rfl rfl ?_
            obtain ⟨r739, s740, hc741, h⟩ := bd_inv h
            refine cl_X8_132 (d1 := 22) (b := zo κ.1 1) (As := [.int v1]) (rest := []) X.1 (by decide) (C_X2_leastPairing X.2.1 (Or.inl rfl) hc741) (rcX2 (Or.inl rfl)) rfl rfl (Nat.le_of_ble_eq_true rfl) dX8_pairing_50 ?_
            exact z_iret X dX8_pairing_53 h
          · refine z_aload_n (i := 0) X.1 dX8_pairing_34 0 rfl rfl ?_
            refine g_X8_net X.1 tw269 dX8_pairing_35 ?_
            refine z_iload_n (i := 1) X.1 dX8_pairing_38 1 rfl rfl ?_
            obtain ⟨r742, s743, hc744, h⟩ := bd_inv h
            refine cl_X8_129 (d1 := 22) (b := zo κ.1 1) (As := [.int v1]) (rest := []) X.1 (by decide) (C_X2_mostPairs X.2.1 (Or.inl rfl) hc744) (rcX2 (Or.inl rfl)) rfl rfl (Nat.le_of_ble_eq_true rfl) dX8_pairing_39 ?_
            refine z_goto (tgt := 53) X.1 dX8_pairing_42 (by decide) ?_
            exact z_iret X dX8_pairing_53 h
        · refine z_aload_n (i := 0) X.1 dX8_pairing_24 0 rfl rfl ?_
          refine z_iconst (v := (1 : Int32)) X.1 dX8_pairing_25 (by decide) ?_
          obtain ⟨r745, s746, hc747, h⟩ := bd_inv h
          refine cl_X8_69 (d1 := 0) (b := zo κ.1 0) (As := [.int (1 : Int32)]) (rest := []) X.1 (by decide) (C_X8_fail X.2.1 hc747) rcX8 rfl rfl (Nat.le_of_ble_eq_true rfl) dX8_pairing_26 ?_
          exact z_iret X dX8_pairing_29 h
theorem C_X8_pairing {ζ : zW} (hZ : zDis ζ zX) {v1 : Int32} {v2 : Int32} {σ σ' : S3} {r : Int32} (h : F_X8_pairing v1 v2 σ = some (r, σ')) : zMet ζ zX 23 yX8_pairing cX8_pairing 3 (some .int) [.ref (zo ζ 0), .int v1, .int v2] σ (some (.int r)) σ' :=
  zMet_of pn_X8 hZ (Nat.le_of_ble_eq_true rfl) (fun κ e X => by subst e; exact B_X8_pairing_0 X h)
noncomputable def F_X8_needed (σ : S3) : R3 :=
  bd (F_X2_neededPoints 1 σ) (fun r748 s749 => some (r748, s749))
set_option maxHeartbeats 4000000 in
set_option maxRecDepth 100000 in
theorem B_X8_needed_0 {κ : zT} {σ' : S3} {r : Int32} (X : zC κ zX RX8 cX8_needed 1 (some .int) 24 (some (.int r)) σ') {σ : S3} (h : F_X8_needed σ = some (r, σ')) : Z κ 1 (zX (ze κ.1) σ) [(0, .ref (zo κ.1 0))] 0 [] := by
  unfold F_X8_needed at h
  refine z_aload_n (i := 0) X.1 dX8_needed_0 0 rfl rfl ?_
  refine g_X8_net X.1 tw269 dX8_needed_1 ?_
  obtain ⟨r748, s749, hc750, h⟩ := bd_inv h
  refine cl_X8_135 (d1 := 23) (b := zo κ.1 1) (As := []) (rest := []) X.1 (by decide) (C_X2_neededPoints X.2.1 (Or.inl rfl) hc750) (rcX2 (Or.inl rfl)) rfl rfl (Nat.le_of_ble_eq_true rfl) dX8_needed_4 ?_
  exact z_iret X dX8_needed_7 h
theorem C_X8_needed {ζ : zW} (hZ : zDis ζ zX) {σ σ' : S3} {r : Int32} (h : F_X8_needed  σ = some (r, σ')) : zMet ζ zX 24 yX8_needed cX8_needed 1 (some .int) [.ref (zo ζ 0)] σ (some (.int r)) σ' :=
  zMet_of pn_X8 hZ (Nat.le_of_ble_eq_true rfl) (fun κ e X => by subst e; exact B_X8_needed_0 X h)
noncomputable def Fb_X8_kernel_15 (v1 : Int32) (K15 : Int32 → Int32 → S3 → R3) (v2 : Int32) (v3 : Int32) (σ : S3) : R3 :=
  bd (F_X2_everyPoint 1 σ) (fun r752 s753 => if r752 < v3 then (if v1 = (-1 : Int32) then (some (v2, s753))
  else (bd (F_X8_fail (2 : Int32) s753) (fun r757 s758 => some (r757, s758))))
  else (bd (F_X2_isKernel 1 v3 s753) (fun r760 s761 => if r760 = (0 : Int32) then (nm (v3 + (1 : Int32)) (fun x764 => K15 v2 x764 s761))
  else (if v2 = v1 then (some (v3, s761))
  else (nm (v2 + (1 : Int32)) (fun x766 => nm (v3 + (1 : Int32)) (fun x767 => K15 x766 x767 s761)))))))
noncomputable def F_X8_kernel_15 (v1 : Int32) (n : Nat) : Int32 → Int32 → S3 → R3 := zl2 (Fb_X8_kernel_15 v1) n
set_option maxHeartbeats 4000000 in
set_option maxRecDepth 100000 in
theorem B_X8_kernel_15 {κ : zT} {σ' : S3} {r : Int32} (X : zC κ zX RX8 cX8_kernel 4 (some .int) 1 (some (.int r)) σ') {v1 : Int32} : ∀ (n : Nat) (v2 : Int32) (v3 : Int32) (σ : S3), F_X8_kernel_15 v1 n v2 v3 σ = some (r, σ') → Z κ 4 (zX (ze κ.1) σ) [(0, .ref (zo κ.1 0)), (1, .int v1), (2, .int v2), (3, .int v3)] 15 [] := by
  intro n
  induction n with
  | zero =>
    intro v2 v3 σ h
    cases (show (none : R3) = some (r, σ') from h)
  | succ n ih =>
    intro v2 v3 σ h
    have hK15 := ih
    have h : Fb_X8_kernel_15 v1 (F_X8_kernel_15 v1 n) v2 v3 σ = some (r, σ') := h
    unfold Fb_X8_kernel_15 at h
    refine z_iload_n (i := 3) X.1 dX8_kernel_15 3 rfl rfl ?_
    refine z_aload_n (i := 0) X.1 dX8_kernel_16 0 rfl rfl ?_
    refine g_X8_net X.1 tw269 dX8_kernel_17 ?_
    obtain ⟨r752, s753, hc754, h⟩ := bd_inv h
    refine cl_X8_126 (d1 := 0) (b := zo κ.1 1) (As := []) (rest := [.int v3]) X.1 (by decide) (C_X2_everyPoint X.2.1 (Or.inl rfl) hc754) (rcX2 (Or.inl rfl)) rfl rfl (Nat.le_of_ble_eq_true rfl) dX8_kernel_20 ?_
    refine z_icmp_gt (tgt := 53) X.1 dX8_kernel_23 (by decide) h (fun q755 h => ?_) (fun q755 h => ?_)
    · refine z_iload_n (i := 1) X.1 dX8_kernel_53 1 rfl rfl ?_
      refine z_iconst (v := (-1 : Int32)) X.1 dX8_kernel_54 (by decide) ?_
      refine z_icmp_ne (tgt := 62) X.1 dX8_kernel_55 (by decide) h (fun q756 h => ?_) (fun q756 h => ?_)
      · refine z_aload_n (i := 0) X.1 dX8_kernel_62 0 rfl rfl ?_
        refine z_iconst (v := (2 : Int32)) X.1 dX8_kernel_63 (by decide) ?_
        obtain ⟨r757, s758, hc759, h⟩ := bd_inv h
        refine cl_X8_69 (d1 := 0) (b := zo κ.1 0) (As := [.int (2 : Int32)]) (rest := []) X.1 (by decide) (C_X8_fail X.2.1 hc759) rcX8 rfl rfl (Nat.le_of_ble_eq_true rfl) dX8_kernel_64 ?_
        exact z_iret X dX8_kernel_67 h
      · refine z_iload_n (i := 2) X.1 dX8_kernel_58 2 rfl rfl ?_
        refine z_goto (tgt := 67) X.1 dX8_kernel_59 (by decide) ?_
        exact z_iret X dX8_kernel_67 h
    · refine z_aload_n (i := 0) X.1 dX8_kernel_26 0 rfl rfl ?_
      refine g_X8_net X.1 tw269 dX8_kernel_27 ?_
      refine z_iload_n (i := 3) X.1 dX8_kernel_30 3 rfl rfl ?_
      obtain ⟨r760, s761, hc762, h⟩ := bd_inv h
      refine cl_X8_138 (d1 := 0) (b := zo κ.1 1) (As := [.int v3]) (rest := []) X.1 (by decide) (C_X2_isKernel X.2.1 (Or.inl rfl) hc762) (rcX2 (Or.inl rfl)) rfl rfl (Nat.le_of_ble_eq_true rfl) dX8_kernel_31 ?_
      refine z_if_eq (tgt := 47) X.1 dX8_kernel_34 (by decide) h (fun q763 h => ?_) (fun q763 h => ?_)
      · refine z_iinc_m (v := (1 : Int32)) (lv' := fun x764 => [(3, .int x764), (0, .ref (zo κ.1 0)), (1, .int v1), (2, .int v2)]) X.1 dX8_kernel_47 3 rfl (by decide) (by decide) (fun _ => rfl) h (fun x764 h => ?_)
        refine z_goto (tgt := 15) X.1 dX8_kernel_50 (by decide) ?_
        exact z_sub [1, 2, 3, 0] rfl (hK15 _ _ _ h)
      · refine z_iload_n (i := 2) X.1 dX8_kernel_37 2 rfl rfl ?_
        refine z_iload_n (i := 1) X.1 dX8_kernel_38 1 rfl rfl ?_
        refine z_icmp_ne (tgt := 44) X.1 dX8_kernel_39 (by decide) h (fun q765 h => ?_) (fun q765 h => ?_)
        · refine z_iinc_m (v := (1 : Int32)) (lv' := fun x766 => [(2, .int x766), (0, .ref (zo κ.1 0)), (1, .int v1), (3, .int v3)]) X.1 dX8_kernel_44 2 rfl (by decide) (by decide) (fun _ => rfl) h (fun x766 h => ?_)
          refine z_iinc_m (v := (1 : Int32)) (lv' := fun x767 => [(3, .int x767), (2, .int x766), (0, .ref (zo κ.1 0)), (1, .int v1)]) X.1 dX8_kernel_47 3 rfl (by decide) (by decide) (fun _ => rfl) h (fun x767 h => ?_)
          refine z_goto (tgt := 15) X.1 dX8_kernel_50 (by decide) ?_
          exact z_sub [2, 3, 1, 0] rfl (hK15 _ _ _ h)
        · refine z_iload_n (i := 3) X.1 dX8_kernel_42 3 rfl rfl ?_
          exact z_iret X dX8_kernel_43 h
noncomputable def F_X8_kernel (v1 : Int32) (σ : S3) : R3 :=
  if (-1 : Int32) ≤ v1 then (F_X8_kernel_15 v1 zF (0 : Int32) (1 : Int32) σ)
  else (bd (F_X8_fail (1 : Int32) σ) (fun r768 s769 => some (r768, s769)))
set_option maxHeartbeats 4000000 in
set_option maxRecDepth 100000 in
theorem B_X8_kernel_0 {κ : zT} {σ' : S3} {r : Int32} (X : zC κ zX RX8 cX8_kernel 4 (some .int) 1 (some (.int r)) σ') {v1 : Int32} {σ : S3} (h : F_X8_kernel v1 σ = some (r, σ')) : Z κ 4 (zX (ze κ.1) σ) [(0, .ref (zo κ.1 0)), (1, .int v1)] 0 [] := by
  unfold F_X8_kernel at h
  refine z_iload_n (i := 1) X.1 dX8_kernel_0 1 rfl rfl ?_
  refine z_iconst (v := (-1 : Int32)) X.1 dX8_kernel_1 (by decide) ?_
  refine z_icmp_ge (tgt := 11) X.1 dX8_kernel_2 (by decide) h (fun q751 h => ?_) (fun q751 h => ?_)
  · refine z_iconst (v := (0 : Int32)) X.1 dX8_kernel_11 (by decide) ?_
    refine z_istore_n (i := 2) (lv' := [(2, .int (0 : Int32)), (0, .ref (zo κ.1 0)), (1, .int v1)]) X.1 dX8_kernel_12 rfl (by decide) rfl ?_
    refine z_iconst (v := (1 : Int32)) X.1 dX8_kernel_13 (by decide) ?_
    refine z_istore_n (i := 3) (lv' := [(3, .int (1 : Int32)), (2, .int (0 : Int32)), (0, .ref (zo κ.1 0)), (1, .int v1)]) X.1 dX8_kernel_14 rfl (by decide) rfl ?_
    exact z_sub [2, 3, 1, 0] rfl (B_X8_kernel_15 X zF _ _ _ h)
  · refine z_aload_n (i := 0) X.1 dX8_kernel_5 0 rfl rfl ?_
    refine z_iconst (v := (1 : Int32)) X.1 dX8_kernel_6 (by decide) ?_
    obtain ⟨r768, s769, hc770, h⟩ := bd_inv h
    refine cl_X8_69 (d1 := 0) (b := zo κ.1 0) (As := [.int (1 : Int32)]) (rest := []) X.1 (by decide) (C_X8_fail X.2.1 hc770) rcX8 rfl rfl (Nat.le_of_ble_eq_true rfl) dX8_kernel_7 ?_
    exact z_iret X dX8_kernel_10 h
theorem C_X8_kernel {ζ : zW} (hZ : zDis ζ zX) {v1 : Int32} {σ σ' : S3} {r : Int32} (h : F_X8_kernel v1 σ = some (r, σ')) : zMet ζ zX 1 yX8_kernel cX8_kernel 4 (some .int) [.ref (zo ζ 0), .int v1] σ (some (.int r)) σ' :=
  zMet_of pn_X8 hZ (Nat.le_of_ble_eq_true rfl) (fun κ e X => by subst e; exact B_X8_kernel_0 X h)
noncomputable def F_X8_feed (v1 : Int64) (v3 : Int32) (σ : S3) : R3 :=
  if v3 < (1 : Int32) then (bd (F_X8_fail (1 : Int32) σ) (fun r772 s773 => some (r772, s773)))
  else (if v3 ≤ (8 : Int32) then (if ((σ 7 0 0) + v3) ≤ (60 : Int32) then (bd (F_X6_add v1 v3 σ) (fun r777 s778 => some (s778 7 0 0, s778)))
  else (bd (F_X8_fail (4 : Int32) σ) (fun r780 s781 => some (r780, s781))))
  else (bd (F_X8_fail (1 : Int32) σ) (fun r783 s784 => some (r783, s784))))
set_option maxHeartbeats 4000000 in
set_option maxRecDepth 100000 in
theorem B_X8_feed_0 {κ : zT} {σ' : S3} {r : Int32} (X : zC κ zX RX8 cX8_feed 4 (some .int) 1 (some (.int r)) σ') {v1 : Int64} {v3 : Int32} {σ : S3} (h : F_X8_feed v1 v3 σ = some (r, σ')) : Z κ 4 (zX (ze κ.1) σ) [(0, .ref (zo κ.1 0)), (1, .long v1), (3, .int v3)] 0 [] := by
  unfold F_X8_feed at h
  refine z_iload_n (i := 3) X.1 dX8_feed_0 2 rfl rfl ?_
  refine z_iconst (v := (1 : Int32)) X.1 dX8_feed_1 (by decide) ?_
  refine z_icmp_lt (tgt := 11) X.1 dX8_feed_2 (by decide) h (fun q771 h => ?_) (fun q771 h => ?_)
  · refine z_aload_n (i := 0) X.1 dX8_feed_11 0 rfl rfl ?_
    refine z_iconst (v := (1 : Int32)) X.1 dX8_feed_12 (by decide) ?_
    obtain ⟨r772, s773, hc774, h⟩ := bd_inv h
    refine cl_X8_69 (d1 := 0) (b := zo κ.1 0) (As := [.int (1 : Int32)]) (rest := []) X.1 (by decide) (C_X8_fail X.2.1 hc774) rcX8 rfl rfl (Nat.le_of_ble_eq_true rfl) dX8_feed_13 ?_
    exact z_iret X dX8_feed_16 h
  · refine z_iload_n (i := 3) X.1 dX8_feed_5 2 rfl rfl ?_
    refine z_bipush (v := (8 : Int32)) X.1 dX8_feed_6 (by decide) ?_
    refine z_icmp_le (tgt := 17) X.1 dX8_feed_8 (by decide) h (fun q775 h => ?_) (fun q775 h => ?_)
    · refine z_aload_n (i := 0) X.1 dX8_feed_17 0 rfl rfl ?_
      refine g_X8_tape X.1 tw275 dX8_feed_18 ?_
      refine g_X6_length X.1 tw242 dX8_feed_21 ?_
      refine z_iload_n (i := 3) X.1 dX8_feed_24 2 rfl rfl ?_
      refine z_iadd X.1 dX8_feed_25 ?_
      refine z_bipush (v := (60 : Int32)) X.1 dX8_feed_26 (by decide) ?_
      refine z_icmp_le (tgt := 37) X.1 dX8_feed_28 (by decide) h (fun q776 h => ?_) (fun q776 h => ?_)
      · refine z_aload_n (i := 0) X.1 dX8_feed_37 0 rfl rfl ?_
        refine g_X8_tape X.1 tw275 dX8_feed_38 ?_
        refine z_lload_n (i := 1) X.1 dX8_feed_41 1 rfl rfl ?_
        refine z_iload_n (i := 3) X.1 dX8_feed_42 2 rfl rfl ?_
        obtain ⟨r777, s778, hc779, h⟩ := bd_inv h
        refine cl_X8_144 (d1 := 0) (b := zo κ.1 7) (r := 0) (As := [.long v1, .int v3]) (rest := []) X.1 (by decide) (C_X6_add X.2.1 hc779) rcX6 rfl rfl (Nat.le_of_ble_eq_true rfl) dX8_feed_43 ?_
        refine z_aload_n (i := 0) X.1 dX8_feed_46 0 rfl rfl ?_
        refine g_X8_tape X.1 tw275 dX8_feed_47 ?_
        refine g_X6_length X.1 tw242 dX8_feed_50 ?_
        exact z_iret X dX8_feed_53 h
      · refine z_aload_n (i := 0) X.1 dX8_feed_31 0 rfl rfl ?_
        refine z_iconst (v := (4 : Int32)) X.1 dX8_feed_32 (by decide) ?_
        obtain ⟨r780, s781, hc782, h⟩ := bd_inv h
        refine cl_X8_69 (d1 := 0) (b := zo κ.1 0) (As := [.int (4 : Int32)]) (rest := []) X.1 (by decide) (C_X8_fail X.2.1 hc782) rcX8 rfl rfl (Nat.le_of_ble_eq_true rfl) dX8_feed_33 ?_
        exact z_iret X dX8_feed_36 h
    · refine z_aload_n (i := 0) X.1 dX8_feed_11 0 rfl rfl ?_
      refine z_iconst (v := (1 : Int32)) X.1 dX8_feed_12 (by decide) ?_
      obtain ⟨r783, s784, hc785, h⟩ := bd_inv h
      refine cl_X8_69 (d1 := 0) (b := zo κ.1 0) (As := [.int (1 : Int32)]) (rest := []) X.1 (by decide) (C_X8_fail X.2.1 hc785) rcX8 rfl rfl (Nat.le_of_ble_eq_true rfl) dX8_feed_13 ?_
      exact z_iret X dX8_feed_16 h
theorem C_X8_feed {ζ : zW} (hZ : zDis ζ zX) {v1 : Int64} {v3 : Int32} {σ σ' : S3} {r : Int32} (h : F_X8_feed v1 v3 σ = some (r, σ')) : zMet ζ zX 1 yX8_feed cX8_feed 4 (some .int) [.ref (zo ζ 0), .long v1, .int v3] σ (some (.int r)) σ' :=
  zMet_of pn_X8 hZ (Nat.le_of_ble_eq_true rfl) (fun κ e X => by subst e; exact B_X8_feed_0 X h)
