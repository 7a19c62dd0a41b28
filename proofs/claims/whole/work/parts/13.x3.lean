noncomputable def F_X8_network_31 (v1 : Int32) (σ : S3) : R3 :=
  nm (up σ 7 0 0 (0 : Int32)) (fun s790 => if (0 : Int32) ≤ v1 then (some ((-10 : Int32) - v1, s790))
  else (some (s790 1 1 0, s790)))
set_option maxHeartbeats 4000000 in
set_option maxRecDepth 100000 in
theorem B_X8_network_31 {κ : zT} {σ' : S3} {r : Int32} (X : zC κ zX RX8 cX8_network 2 (some .int) 4 (some (.int r)) σ') {v1 : Int32} {σ : S3} (h : F_X8_network_31 v1 σ = some (r, σ')) : Z κ 2 (zX (ze κ.1) σ) [(0, .ref (zo κ.1 0)), (1, .int v1)] 31 [] := by
  unfold F_X8_network_31 at h
  refine z_aload_n (i := 0) X.1 dX8_network_31 0 rfl rfl ?_
  refine g_X8_tape X.1 tw275 dX8_network_32 ?_
  refine z_iconst (v := (0 : Int32)) X.1 dX8_network_35 (by decide) ?_
  refine p_X6_length X.1 X.2.1 tw242 dX8_network_36 h (fun s790 h => ?_)
  refine z_iload_n (i := 1) X.1 dX8_network_39 1 rfl rfl ?_
  refine z_if_ge (tgt := 53) X.1 dX8_network_40 (by decide) h (fun q791 h => ?_) (fun q791 h => ?_)
  · refine z_bipush (v := (-10 : Int32)) X.1 dX8_network_53 (by decide) ?_
    refine z_iload_n (i := 1) X.1 dX8_network_55 1 rfl rfl ?_
    refine z_isub X.1 dX8_network_56 ?_
    exact z_iret X dX8_network_57 h
  · refine z_aload_n (i := 0) X.1 dX8_network_43 0 rfl rfl ?_
    refine g_X8_net X.1 tw269 dX8_network_44 ?_
    refine g_X2_lines (Or.inl rfl) X.1 tw101 dX8_network_47 ?_
    refine z_goto (tgt := 57) X.1 dX8_network_50 (by decide) ?_
    exact z_iret X dX8_network_57 h
noncomputable def F_X8_network (σ : S3) : R3 :=
  bd (F_X6_fault σ) (fun r786 s787 => if (0 : Int32) ≤ r786 then (F_X8_network_31 r786 s787)
  else (bd (F_X6_tell s787) (fun r792 s793 => nm (up s793 6 0 0 (0 : Int32)) (fun s795 => F_X8_network_31 r786 s795))))
set_option maxHeartbeats 4000000 in
set_option maxRecDepth 100000 in
theorem B_X8_network_0 {κ : zT} {σ' : S3} {r : Int32} (X : zC κ zX RX8 cX8_network 2 (some .int) 4 (some (.int r)) σ') {σ : S3} (h : F_X8_network σ = some (r, σ')) : Z κ 2 (zX (ze κ.1) σ) [(0, .ref (zo κ.1 0))] 0 [] := by
  unfold F_X8_network at h
  refine z_aload_n (i := 0) X.1 dX8_network_0 0 rfl rfl ?_
  refine g_X8_tape X.1 tw275 dX8_network_1 ?_
  obtain ⟨r786, s787, hc788, h⟩ := bd_inv h
  refine cl_X8_148 (d1 := 2) (b := zo κ.1 7) (As := []) (rest := []) X.1 (by decide) (C_X6_fault X.2.1 hc788) rcX6 rfl rfl (Nat.le_of_ble_eq_true rfl) dX8_network_4 ?_
  refine z_istore_n (i := 1) (lv' := [(1, .int r786), (0, .ref (zo κ.1 0))]) X.1 dX8_network_7 rfl (by decide) rfl ?_
  refine z_iload_n (i := 1) X.1 dX8_network_8 0 rfl rfl ?_
  refine z_if_ge (tgt := 31) X.1 dX8_network_9 (by decide) h (fun q789 h => ?_) (fun q789 h => ?_)
  · exact z_sub [1, 0] rfl (B_X8_network_31 X h)
  · refine z_aload_n (i := 0) X.1 dX8_network_12 1 rfl rfl ?_
    refine g_X8_tape X.1 tw275 dX8_network_13 ?_
    refine z_aload_n (i := 0) X.1 dX8_network_16 1 rfl rfl ?_
    refine g_X8_net X.1 tw269 dX8_network_17 ?_
    obtain ⟨r792, s793, hc794, h⟩ := bd_inv h
    refine cl_X8_151 (d1 := 3) (b := zo κ.1 7) (r := 0) (As := [.ref (zo κ.1 1)]) (rest := []) X.1 (by decide) (C_X6_tell X.2.1 hc794) rcX6 rfl rfl (Nat.le_of_ble_eq_true rfl) dX8_network_20 ?_
    refine z_aload_n (i := 0) X.1 dX8_network_23 1 rfl rfl ?_
    refine g_X8_current X.1 tw274 dX8_network_24 ?_
    refine z_iconst (v := (0 : Int32)) X.1 dX8_network_27 (by decide) ?_
    refine p_X0_on X.1 X.2.1 tw216 (Or.inl rfl) dX8_network_28 h (fun s795 h => ?_)
    exact z_sub [1, 0] rfl (B_X8_network_31 X h)
theorem C_X8_network {ζ : zW} (hZ : zDis ζ zX) {σ σ' : S3} {r : Int32} (h : F_X8_network  σ = some (r, σ')) : zMet ζ zX 4 yX8_network cX8_network 2 (some .int) [.ref (zo ζ 0)] σ (some (.int r)) σ' :=
  zMet_of pn_X8 hZ (Nat.le_of_ble_eq_true rfl) (fun κ e X => by subst e; exact B_X8_network_0 X h)
noncomputable def F_X8_isRule (v0 : Int32) (σ : S3) : R3 :=
  if v0 < (0 : Int32) then (some ((0 : Int32), σ))
  else (if (5 : Int32) ≤ v0 then (some ((0 : Int32), σ))
  else (some ((1 : Int32), σ)))
set_option maxHeartbeats 4000000 in
set_option maxRecDepth 100000 in
theorem B_X8_isRule_0 {κ : zT} {σ' : S3} {r : Int32} (X : zC κ zX RX8 cX8_isRule 1 (some .boolean) 0 (some (.int r)) σ') {v0 : Int32} {σ : S3} (h : F_X8_isRule v0 σ = some (r, σ')) : Z κ 1 (zX (ze κ.1) σ) [(0, .int v0)] 0 [] := by
  unfold F_X8_isRule at h
  refine z_iload_n (i := 0) X.1 dX8_isRule_0 0 rfl rfl ?_
  refine z_if_lt (tgt := 13) X.1 dX8_isRule_1 (by decide) h (fun q799 h => ?_) (fun q799 h => ?_)
  · refine z_iconst (v := (0 : Int32)) X.1 dX8_isRule_13 (by decide) ?_
    exact z_zret X dX8_isRule_14 (Or.inl rfl) h
  · refine z_iload_n (i := 0) X.1 dX8_isRule_4 0 rfl rfl ?_
    refine z_iconst (v := (5 : Int32)) X.1 dX8_isRule_5 (by decide) ?_
    refine z_icmp_ge (tgt := 13) X.1 dX8_isRule_6 (by decide) h (fun q800 h => ?_) (fun q800 h => ?_)
    · refine z_iconst (v := (0 : Int32)) X.1 dX8_isRule_13 (by decide) ?_
      exact z_zret X dX8_isRule_14 (Or.inl rfl) h
    · refine z_iconst (v := (1 : Int32)) X.1 dX8_isRule_9 (by decide) ?_
      refine z_goto (tgt := 14) X.1 dX8_isRule_10 (by decide) ?_
      exact z_zret X dX8_isRule_14 (Or.inr rfl) h
theorem C_X8_isRule {ζ : zW} (hZ : zDis ζ zX) {v0 : Int32} {σ σ' : S3} {r : Int32} (h : F_X8_isRule v0 σ = some (r, σ')) : zMet ζ zX 0 yX8_isRule cX8_isRule 1 (some .boolean) [.int v0] σ (some (.int r)) σ' :=
  zMet_of pn_X8 hZ (Nat.le_of_ble_eq_true rfl) (fun κ e X => by subst e; exact B_X8_isRule_0 X h)
noncomputable def F_X8_begin (v1 : Int32) (v2 : Int32) (σ : S3) : R3 :=
  bd (F_X8_isRule v1 σ) (fun r796 s797 => if r796 = (0 : Int32) then (bd (F_X8_fail (1 : Int32) s797) (fun r802 s803 => some (r802, s803)))
  else (bd (F_X2_hasPoint 1 v2 s797) (fun r805 s806 => if r805 = (0 : Int32) then (bd (F_X8_fail (1 : Int32) s806) (fun r825 s826 => some (r825, s826)))
  else (bd (F_X1_turnTo v1 s806) (fun r809 s810 => bd (F_X5_atFirst v2 s810) (fun r812 s813 => bd (F_X0_start v1 r812 s813) (fun r815 s816 => bd (F_X0_stand s816) (fun r818 s819 => bd (F_X1_wins r818 s819) (fun r821 s822 => if r821 = (0 : Int32) then (some ((0 : Int32), s822))
  else (some ((1 : Int32), s822)))))))))))
set_option maxHeartbeats 4000000 in
set_option maxRecDepth 100000 in
theorem B_X8_begin_0 {κ : zT} {σ' : S3} {r : Int32} (X : zC κ zX RX8 cX8_begin 3 (some .int) 24 (some (.int r)) σ') {v1 : Int32} {v2 : Int32} {σ : S3} (h : F_X8_begin v1 v2 σ = some (r, σ')) : Z κ 3 (zX (ze κ.1) σ) [(0, .ref (zo κ.1 0)), (1, .int v1), (2, .int v2)] 0 [] := by
  unfold F_X8_begin at h
  refine z_iload_n (i := 1) X.1 dX8_begin_0 1 rfl rfl ?_
  obtain ⟨r796, s797, hc798, h⟩ := bd_inv h
  refine cl_X8_154 (d1 := 0) (As := [.int v1]) (rest := []) X.1 (by decide) (C_X8_isRule X.2.1 hc798) rfl rfl (Nat.le_of_ble_eq_true rfl) dX8_begin_1 ?_
  refine z_if_eq (tgt := 18) X.1 dX8_begin_4 (by decide) h (fun q801 h => ?_) (fun q801 h => ?_)
  · refine z_aload_n (i := 0) X.1 dX8_begin_18 0 rfl rfl ?_
    refine z_iconst (v := (1 : Int32)) X.1 dX8_begin_19 (by decide) ?_
    obtain ⟨r802, s803, hc804, h⟩ := bd_inv h
    refine cl_X8_69 (d1 := 0) (b := zo κ.1 0) (As := [.int (1 : Int32)]) (rest := []) X.1 (by decide) (C_X8_fail X.2.1 hc804) rcX8 rfl rfl (Nat.le_of_ble_eq_true rfl) dX8_begin_20 ?_
    exact z_iret X dX8_begin_23 h
  · refine z_aload_n (i := 0) X.1 dX8_begin_7 0 rfl rfl ?_
    refine g_X8_net X.1 tw269 dX8_begin_8 ?_
    refine z_iload_n (i := 2) X.1 dX8_begin_11 2 rfl rfl ?_
    obtain ⟨r805, s806, hc807, h⟩ := bd_inv h
    refine cl_X8_85 (d1 := 0) (b := zo κ.1 1) (As := [.int v2]) (rest := []) X.1 (by decide) (C_X2_hasPoint X.2.1 (Or.inl rfl) hc807) (rcX2 (Or.inl rfl)) rfl rfl (Nat.le_of_ble_eq_true rfl) dX8_begin_12 ?_
    refine z_if_ne (tgt := 24) X.1 dX8_begin_15 (by decide) h (fun q808 h => ?_) (fun q808 h => ?_)
    · refine z_aload_n (i := 0) X.1 dX8_begin_24 0 rfl rfl ?_
      refine g_X8_judge X.1 tw271 dX8_begin_25 ?_
      refine z_iload_n (i := 1) X.1 dX8_begin_28 1 rfl rfl ?_
      obtain ⟨r809, s810, hc811, h⟩ := bd_inv h
      refine cl_X8_157 (d1 := 1) (b := zo κ.1 3) (r := 0) (As := [.int v1]) (rest := []) X.1 (by decide) (C_X1_turnTo X.2.1 hc811) rcX1 rfl rfl (Nat.le_of_ble_eq_true rfl) dX8_begin_29 ?_
      refine z_aload_n (i := 0) X.1 dX8_begin_32 0 rfl rfl ?_
      refine g_X8_current X.1 tw274 dX8_begin_33 ?_
      refine z_iload_n (i := 1) X.1 dX8_begin_36 1 rfl rfl ?_
      refine z_iload_n (i := 2) X.1 dX8_begin_37 2 rfl rfl ?_
      obtain ⟨r812, s813, hc814, h⟩ := bd_inv h
      refine cl_X8_160 (d1 := 0) (As := [.int v2]) (rest := [.int v1, .ref (zo κ.1 6)]) X.1 (by decide) (C_X5_atFirst X.2.1 hc814) rfl rfl (Nat.le_of_ble_eq_true rfl) dX8_begin_38 ?_
      obtain ⟨r815, s816, hc817, h⟩ := bd_inv h
      refine cl_X8_165 (d1 := 0) (b := zo κ.1 6) (r := 0) (As := [.int v1, .int r812]) (rest := []) X.1 (by decide) (C_X0_start X.2.1 hc817) rcX0 rfl rfl (Nat.le_of_ble_eq_true rfl) dX8_begin_41 ?_
      refine z_aload_n (i := 0) X.1 dX8_begin_44 0 rfl rfl ?_
      refine g_X8_judge X.1 tw271 dX8_begin_45 ?_
      refine z_aload_n (i := 0) X.1 dX8_begin_48 0 rfl rfl ?_
      refine g_X8_current X.1 tw274 dX8_begin_49 ?_
      obtain ⟨r818, s819, hc820, h⟩ := bd_inv h
      refine cl_X8_168 (d1 := 0) (b := zo κ.1 6) (As := []) (rest := [.ref (zo κ.1 3)]) X.1 (by decide) (C_X0_stand X.2.1 hc820) rcX0 rfl rfl (Nat.le_of_ble_eq_true rfl) dX8_begin_52 ?_
      obtain ⟨r821, s822, hc823, h⟩ := bd_inv h
      refine cl_X8_171 (d1 := 23) (b := zo κ.1 3) (As := [.int r818]) (rest := []) X.1 (by decide) (C_X1_wins X.2.1 hc823) rcX1 rfl rfl (Nat.le_of_ble_eq_true rfl) dX8_begin_55 ?_
      refine z_if_eq (tgt := 65) X.1 dX8_begin_58 (by decide) h (fun q824 h => ?_) (fun q824 h => ?_)
      · refine z_iconst (v := (0 : Int32)) X.1 dX8_begin_65 (by decide) ?_
        exact z_iret X dX8_begin_66 h
      · refine z_iconst (v := (1 : Int32)) X.1 dX8_begin_61 (by decide) ?_
        refine z_goto (tgt := 66) X.1 dX8_begin_62 (by decide) ?_
        exact z_iret X dX8_begin_66 h
    · refine z_aload_n (i := 0) X.1 dX8_begin_18 0 rfl rfl ?_
      refine z_iconst (v := (1 : Int32)) X.1 dX8_begin_19 (by decide) ?_
      obtain ⟨r825, s826, hc827, h⟩ := bd_inv h
      refine cl_X8_69 (d1 := 0) (b := zo κ.1 0) (As := [.int (1 : Int32)]) (rest := []) X.1 (by decide) (C_X8_fail X.2.1 hc827) rcX8 rfl rfl (Nat.le_of_ble_eq_true rfl) dX8_begin_20 ?_
      exact z_iret X dX8_begin_23 h
theorem C_X8_begin {ζ : zW} (hZ : zDis ζ zX) {v1 : Int32} {v2 : Int32} {σ σ' : S3} {r : Int32} (h : F_X8_begin v1 v2 σ = some (r, σ')) : zMet ζ zX 24 yX8_begin cX8_begin 3 (some .int) [.ref (zo ζ 0), .int v1, .int v2] σ (some (.int r)) σ' :=
  zMet_of pn_X8 hZ (Nat.le_of_ble_eq_true rfl) (fun κ e X => by subst e; exact B_X8_begin_0 X h)
noncomputable def F_X8_isOver (σ : S3) : R3 :=
  bd (F_X0_stand σ) (fun r835 s836 => bd (F_X1_movesFrom r835 s836) (fun r838 s839 => if r838 = (0 : Int32) then (some ((1 : Int32), s839))
  else (some ((0 : Int32), s839))))
set_option maxHeartbeats 4000000 in
set_option maxRecDepth 100000 in
theorem B_X8_isOver_0 {κ : zT} {σ' : S3} {r : Int32} (X : zC κ zX RX8 cX8_isOver 1 (some .boolean) 2 (some (.int r)) σ') {σ : S3} (h : F_X8_isOver σ = some (r, σ')) : Z κ 1 (zX (ze κ.1) σ) [(0, .ref (zo κ.1 0))] 0 [] := by
  unfold F_X8_isOver at h
  refine z_aload_n (i := 0) X.1 dX8_isOver_0 0 rfl rfl ?_
  refine g_X8_judge X.1 tw271 dX8_isOver_1 ?_
  refine z_aload_n (i := 0) X.1 dX8_isOver_4 0 rfl rfl ?_
  refine g_X8_current X.1 tw274 dX8_isOver_5 ?_
  obtain ⟨r835, s836, hc837, h⟩ := bd_inv h
  refine cl_X8_168 (d1 := 0) (b := zo κ.1 6) (As := []) (rest := [.ref (zo κ.1 3)]) X.1 (by decide) (C_X0_stand X.2.1 hc837) rcX0 rfl rfl (Nat.le_of_ble_eq_true rfl) dX8_isOver_8 ?_
  obtain ⟨r838, s839, hc840, h⟩ := bd_inv h
  refine cl_X8_178 (d1 := 1) (b := zo κ.1 3) (As := [.int r835]) (rest := []) X.1 (by decide) (C_X1_movesFrom X.2.1 hc840) rcX1 rfl rfl (Nat.le_of_ble_eq_true rfl) dX8_isOver_11 ?_
  refine z_if_ne (tgt := 21) X.1 dX8_isOver_14 (by decide) h (fun q841 h => ?_) (fun q841 h => ?_)
  · refine z_iconst (v := (0 : Int32)) X.1 dX8_isOver_21 (by decide) ?_
    exact z_zret X dX8_isOver_22 (Or.inl rfl) h
  · refine z_iconst (v := (1 : Int32)) X.1 dX8_isOver_17 (by decide) ?_
    refine z_goto (tgt := 22) X.1 dX8_isOver_18 (by decide) ?_
    exact z_zret X dX8_isOver_22 (Or.inr rfl) h
theorem C_X8_isOver {ζ : zW} (hZ : zDis ζ zX) {σ σ' : S3} {r : Int32} (h : F_X8_isOver  σ = some (r, σ')) : zMet ζ zX 2 yX8_isOver cX8_isOver 1 (some .boolean) [.ref (zo ζ 0)] σ (some (.int r)) σ' :=
  zMet_of pn_X8 hZ (Nat.le_of_ble_eq_true rfl) (fun κ e X => by subst e; exact B_X8_isOver_0 X h)
noncomputable def F_X8_go (v1 : Int32) (σ : S3) : R3 :=
  if (σ 6 0 0) = (0 : Int32) then (bd (F_X8_fail (3 : Int32) σ) (fun r829 s830 => some (r829, s830)))
  else (bd (F_X8_isOver σ) (fun r832 s833 => if r832 = (0 : Int32) then (bd (F_X2_hasLine 1 v1 s833) (fun r843 s844 => if r843 = (0 : Int32) then (bd (F_X8_fail (1 : Int32) s844) (fun r870 s871 => some (r870, s871)))
  else (bd (F_X0_stand s844) (fun r847 s848 => bd (F_X1_movesFrom r847 s848) (fun r850 s851 => if ((r850 >>> (v1 &&& 31)) &&& (1 : Int32)) = (0 : Int32) then (bd (F_X8_fail (2 : Int32) s851) (fun r867 s868 => some (r867, s868)))
  else (bd (F_X0_stand s851) (fun r854 s855 => bd (F_X1_behind r854 v1 s855) (fun r857 s858 => bd (F_X0_advance v1 r857 s858) (fun r860 s861 => bd (F_X8_isOver s861) (fun r863 s864 => if r863 = (0 : Int32) then (some ((0 : Int32), s864))
  else (some ((1 : Int32), s864))))))))))))
  else (bd (F_X8_fail (3 : Int32) s833) (fun r873 s874 => some (r873, s874)))))
set_option maxHeartbeats 4000000 in
set_option maxRecDepth 100000 in
theorem B_X8_go_0 {κ : zT} {σ' : S3} {r : Int32} (X : zC κ zX RX8 cX8_go 2 (some .int) 3 (some (.int r)) σ') {v1 : Int32} {σ : S3} (h : F_X8_go v1 σ = some (r, σ')) : Z κ 2 (zX (ze κ.1) σ) [(0, .ref (zo κ.1 0)), (1, .int v1)] 0 [] := by
  unfold F_X8_go at h
  refine z_aload_n (i := 0) X.1 dX8_go_0 0 rfl rfl ?_
  refine g_X8_current X.1 tw274 dX8_go_1 ?_
  refine g_X0_on X.1 tw216 dX8_go_4 ?_
  refine z_if_eq (tgt := 17) X.1 dX8_go_7 (by decide) h (fun q828 h => ?_) (fun q828 h => ?_)
  · refine z_aload_n (i := 0) X.1 dX8_go_17 0 rfl rfl ?_
    refine z_iconst (v := (3 : Int32)) X.1 dX8_go_18 (by decide) ?_
    obtain ⟨r829, s830, hc831, h⟩ := bd_inv h
    refine cl_X8_69 (d1 := 0) (b := zo κ.1 0) (As := [.int (3 : Int32)]) (rest := []) X.1 (by decide) (C_X8_fail X.2.1 hc831) rcX8 rfl rfl (Nat.le_of_ble_eq_true rfl) dX8_go_19 ?_
    exact z_iret X dX8_go_22 h
  · refine z_aload_n (i := 0) X.1 dX8_go_10 0 rfl rfl ?_
    obtain ⟨r832, s833, hc834, h⟩ := bd_inv h
    refine cl_X8_174 (d1 := 2) (b := zo κ.1 0) (As := []) (rest := []) X.1 (by decide) (C_X8_isOver X.2.1 hc834) rcX8 rfl rfl (Nat.le_of_ble_eq_true rfl) dX8_go_11 ?_
    refine z_if_eq (tgt := 23) X.1 dX8_go_14 (by decide) h (fun q842 h => ?_) (fun q842 h => ?_)
    · refine z_aload_n (i := 0) X.1 dX8_go_23 0 rfl rfl ?_
      refine g_X8_net X.1 tw269 dX8_go_24 ?_
      refine z_iload_n (i := 1) X.1 dX8_go_27 1 rfl rfl ?_
      obtain ⟨r843, s844, hc845, h⟩ := bd_inv h
      refine cl_X8_99 (d1 := 0) (b := zo κ.1 1) (As := [.int v1]) (rest := []) X.1 (by decide) (C_X2_hasLine X.2.1 (Or.inl rfl) hc845) (rcX2 (Or.inl rfl)) rfl rfl (Nat.le_of_ble_eq_true rfl) dX8_go_28 ?_
      refine z_if_ne (tgt := 40) X.1 dX8_go_31 (by decide) h (fun q846 h => ?_) (fun q846 h => ?_)
      · refine z_aload_n (i := 0) X.1 dX8_go_40 0 rfl rfl ?_
        refine g_X8_judge X.1 tw271 dX8_go_41 ?_
        refine z_aload_n (i := 0) X.1 dX8_go_44 0 rfl rfl ?_
        refine g_X8_current X.1 tw274 dX8_go_45 ?_
        obtain ⟨r847, s848, hc849, h⟩ := bd_inv h
        refine cl_X8_168 (d1 := 0) (b := zo κ.1 6) (As := []) (rest := [.ref (zo κ.1 3)]) X.1 (by decide) (C_X0_stand X.2.1 hc849) rcX0 rfl rfl (Nat.le_of_ble_eq_true rfl) dX8_go_48 ?_
        obtain ⟨r850, s851, hc852, h⟩ := bd_inv h
        refine cl_X8_178 (d1 := 1) (b := zo κ.1 3) (As := [.int r847]) (rest := []) X.1 (by decide) (C_X1_movesFrom X.2.1 hc852) rcX1 rfl rfl (Nat.le_of_ble_eq_true rfl) dX8_go_51 ?_
        refine z_iload_n (i := 1) X.1 dX8_go_54 1 rfl rfl ?_
        refine z_ishr X.1 dX8_go_55 ?_
        refine z_iconst (v := (1 : Int32)) X.1 dX8_go_56 (by decide) ?_
        refine z_iand X.1 dX8_go_57 ?_
        refine z_if_ne (tgt := 67) X.1 dX8_go_58 (by decide) h (fun q853 h => ?_) (fun q853 h => ?_)
        · refine z_aload_n (i := 0) X.1 dX8_go_67 0 rfl rfl ?_
          refine g_X8_current X.1 tw274 dX8_go_68 ?_
          refine z_iload_n (i := 1) X.1 dX8_go_71 1 rfl rfl ?_
          refine z_aload_n (i := 0) X.1 dX8_go_72 0 rfl rfl ?_
          refine g_X8_judge X.1 tw271 dX8_go_73 ?_
          refine z_aload_n (i := 0) X.1 dX8_go_76 0 rfl rfl ?_
          refine g_X8_current X.1 tw274 dX8_go_77 ?_
          obtain ⟨r854, s855, hc856, h⟩ := bd_inv h
          refine cl_X8_168 (d1 := 0) (b := zo κ.1 6) (As := []) (rest := [.ref (zo κ.1 3), .int v1, .ref (zo κ.1 6)]) X.1 (by decide) (C_X0_stand X.2.1 hc856) rcX0 rfl rfl (Nat.le_of_ble_eq_true rfl) dX8_go_80 ?_
          refine z_iload_n (i := 1) X.1 dX8_go_83 1 rfl rfl ?_
          obtain ⟨r857, s858, hc859, h⟩ := bd_inv h
          refine cl_X8_181 (d1 := 1) (b := zo κ.1 3) (As := [.int r854, .int v1]) (rest := [.int v1, .ref (zo κ.1 6)]) X.1 (by decide) (C_X1_behind X.2.1 hc859) rcX1 rfl rfl (Nat.le_of_ble_eq_true rfl) dX8_go_84 ?_
          obtain ⟨r860, s861, hc862, h⟩ := bd_inv h
          refine cl_X8_184 (d1 := 0) (b := zo κ.1 6) (r := 0) (As := [.int v1, .int r857]) (rest := []) X.1 (by decide) (C_X0_advance X.2.1 hc862) rcX0 rfl rfl (Nat.le_of_ble_eq_true rfl) dX8_go_87 ?_
          refine z_aload_n (i := 0) X.1 dX8_go_90 0 rfl rfl ?_
          obtain ⟨r863, s864, hc865, h⟩ := bd_inv h
          refine cl_X8_174 (d1 := 2) (b := zo κ.1 0) (As := []) (rest := []) X.1 (by decide) (C_X8_isOver X.2.1 hc865) rcX8 rfl rfl (Nat.le_of_ble_eq_true rfl) dX8_go_91 ?_
          refine z_if_eq (tgt := 101) X.1 dX8_go_94 (by decide) h (fun q866 h => ?_) (fun q866 h => ?_)
          · refine z_iconst (v := (0 : Int32)) X.1 dX8_go_101 (by decide) ?_
            exact z_iret X dX8_go_102 h
          · refine z_iconst (v := (1 : Int32)) X.1 dX8_go_97 (by decide) ?_
            refine z_goto (tgt := 102) X.1 dX8_go_98 (by decide) ?_
            exact z_iret X dX8_go_102 h
        · refine z_aload_n (i := 0) X.1 dX8_go_61 0 rfl rfl ?_
          refine z_iconst (v := (2 : Int32)) X.1 dX8_go_62 (by decide) ?_
          obtain ⟨r867, s868, hc869, h⟩ := bd_inv h
          refine cl_X8_69 (d1 := 0) (b := zo κ.1 0) (As := [.int (2 : Int32)]) (rest := []) X.1 (by decide) (C_X8_fail X.2.1 hc869) rcX8 rfl rfl (Nat.le_of_ble_eq_true rfl) dX8_go_63 ?_
          exact z_iret X dX8_go_66 h
      · refine z_aload_n (i := 0) X.1 dX8_go_34 0 rfl rfl ?_
        refine z_iconst (v := (1 : Int32)) X.1 dX8_go_35 (by decide) ?_
        obtain ⟨r870, s871, hc872, h⟩ := bd_inv h
        refine cl_X8_69 (d1 := 0) (b := zo κ.1 0) (As := [.int (1 : Int32)]) (rest := []) X.1 (by decide) (C_X8_fail X.2.1 hc872) rcX8 rfl rfl (Nat.le_of_ble_eq_true rfl) dX8_go_36 ?_
        exact z_iret X dX8_go_39 h
    · refine z_aload_n (i := 0) X.1 dX8_go_17 0 rfl rfl ?_
      refine z_iconst (v := (3 : Int32)) X.1 dX8_go_18 (by decide) ?_
      obtain ⟨r873, s874, hc875, h⟩ := bd_inv h
      refine cl_X8_69 (d1 := 0) (b := zo κ.1 0) (As := [.int (3 : Int32)]) (rest := []) X.1 (by decide) (C_X8_fail X.2.1 hc875) rcX8 rfl rfl (Nat.le_of_ble_eq_true rfl) dX8_go_19 ?_
      exact z_iret X dX8_go_22 h
theorem C_X8_go {ζ : zW} (hZ : zDis ζ zX) {v1 : Int32} {σ σ' : S3} {r : Int32} (h : F_X8_go v1 σ = some (r, σ')) : zMet ζ zX 3 yX8_go cX8_go 2 (some .int) [.ref (zo ζ 0), .int v1] σ (some (.int r)) σ' :=
  zMet_of pn_X8 hZ (Nat.le_of_ble_eq_true rfl) (fun κ e X => by subst e; exact B_X8_go_0 X h)
noncomputable def F_X8_back (σ : S3) : R3 :=
  if (σ 6 0 0) = (0 : Int32) then (bd (F_X8_fail (3 : Int32) σ) (fun r882 s883 => some (r882, s883)))
  else (if (σ 6 2 0) = (0 : Int32) then (bd (F_X8_fail (2 : Int32) σ) (fun r879 s880 => some (r879, s880)))
  else (nm (up σ 6 2 0 ((σ 6 2 0) - (1 : Int32))) (fun s878 => some (s878 6 2 0, s878))))
set_option maxHeartbeats 4000000 in
set_option maxRecDepth 100000 in
theorem B_X8_back_0 {κ : zT} {σ' : S3} {r : Int32} (X : zC κ zX RX8 cX8_back 1 (some .int) 1 (some (.int r)) σ') {σ : S3} (h : F_X8_back σ = some (r, σ')) : Z κ 1 (zX (ze κ.1) σ) [(0, .ref (zo κ.1 0))] 0 [] := by
  unfold F_X8_back at h
  refine z_aload_n (i := 0) X.1 dX8_back_0 0 rfl rfl ?_
  refine g_X8_current X.1 tw274 dX8_back_1 ?_
  refine g_X0_on X.1 tw216 dX8_back_4 ?_
  refine z_if_ne (tgt := 16) X.1 dX8_back_7 (by decide) h (fun q876 h => ?_) (fun q876 h => ?_)
  · refine z_aload_n (i := 0) X.1 dX8_back_16 0 rfl rfl ?_
    refine g_X8_current X.1 tw274 dX8_back_17 ?_
    refine g_X0_made X.1 tw220 dX8_back_20 ?_
    refine z_if_ne (tgt := 32) X.1 dX8_back_23 (by decide) h (fun q877 h => ?_) (fun q877 h => ?_)
    · refine z_aload_n (i := 0) X.1 dX8_back_32 0 rfl rfl ?_
      refine g_X8_current X.1 tw274 dX8_back_33 ?_
      refine z_dup X.1 dX8_back_36 rfl ?_
      refine g_X0_made X.1 tw220 dX8_back_37 ?_
      refine z_iconst (v := (1 : Int32)) X.1 dX8_back_40 (by decide) ?_
      refine z_isub X.1 dX8_back_41 ?_
      refine p_X0_made X.1 X.2.1 tw220 dX8_back_42 h (fun s878 h => ?_)
      refine z_aload_n (i := 0) X.1 dX8_back_45 0 rfl rfl ?_
      refine g_X8_current X.1 tw274 dX8_back_46 ?_
      refine g_X0_made X.1 tw220 dX8_back_49 ?_
      exact z_iret X dX8_back_52 h
    · refine z_aload_n (i := 0) X.1 dX8_back_26 0 rfl rfl ?_
      refine z_iconst (v := (2 : Int32)) X.1 dX8_back_27 (by decide) ?_
      obtain ⟨r879, s880, hc881, h⟩ := bd_inv h
      refine cl_X8_69 (d1 := 0) (b := zo κ.1 0) (As := [.int (2 : Int32)]) (rest := []) X.1 (by decide) (C_X8_fail X.2.1 hc881) rcX8 rfl rfl (Nat.le_of_ble_eq_true rfl) dX8_back_28 ?_
      exact z_iret X dX8_back_31 h
  · refine z_aload_n (i := 0) X.1 dX8_back_10 0 rfl rfl ?_
    refine z_iconst (v := (3 : Int32)) X.1 dX8_back_11 (by decide) ?_
    obtain ⟨r882, s883, hc884, h⟩ := bd_inv h
    refine cl_X8_69 (d1 := 0) (b := zo κ.1 0) (As := [.int (3 : Int32)]) (rest := []) X.1 (by decide) (C_X8_fail X.2.1 hc884) rcX8 rfl rfl (Nat.le_of_ble_eq_true rfl) dX8_back_12 ?_
    exact z_iret X dX8_back_15 h
theorem C_X8_back {ζ : zW} (hZ : zDis ζ zX) {σ σ' : S3} {r : Int32} (h : F_X8_back  σ = some (r, σ')) : zMet ζ zX 1 yX8_back cX8_back 1 (some .int) [.ref (zo ζ 0)] σ (some (.int r)) σ' :=
  zMet_of pn_X8 hZ (Nat.le_of_ble_eq_true rfl) (fun κ e X => by subst e; exact B_X8_back_0 X h)
noncomputable def F_X8_game (v1 : Int32) (σ : S3) : R3 :=
  if v1 < (0 : Int32) then (bd (F_X8_fail (1 : Int32) σ) (fun r886 s887 => some (r886, s887)))
  else (if v1 ≤ (7 : Int32) then (if (σ 6 0 0) = (0 : Int32) then (bd (F_X8_fail (3 : Int32) σ) (fun r917 s918 => some (r917, s918)))
  else (bd (F_X0_stand σ) (fun r891 s892 => (if v1 = (0 : Int32) then (some (s892 6 1 0, s892))
  else (if v1 = (1 : Int32) then (bd (F_X5_marker r891 s892) (fun r896 s897 => some (r896, s897)))
  else (if v1 = (2 : Int32) then (bd (F_X5_met r891 s892) (fun r900 s901 => some (r900, s901)))
  else (if v1 = (3 : Int32) then (bd (F_X5_gone r891 s892) (fun r904 s905 => some (r904, s905)))
  else (if v1 = (4 : Int32) then (some (s892 6 2 0, s892))
  else (if v1 = (5 : Int32) then (some ((s892 6 2 0) &&& (1 : Int32), s892))
  else (if v1 = (6 : Int32) then (bd (F_X8_isOver s892) (fun r910 s911 => if r910 = (0 : Int32) then (some ((0 : Int32), s911))
  else (some ((1 : Int32), s911))))
  else (bd (F_X1_winner r891 ((s892 6 2 0) &&& (1 : Int32)) s892) (fun r914 s915 => some (r914, s915)))))))))))))
  else (bd (F_X8_fail (1 : Int32) σ) (fun r920 s921 => some (r920, s921))))
set_option maxHeartbeats 4000000 in
set_option maxRecDepth 100000 in
theorem B_X8_game_0 {κ : zT} {σ' : S3} {r : Int32} (X : zC κ zX RX8 cX8_game 3 (some .int) 25 (some (.int r)) σ') {v1 : Int32} {σ : S3} (h : F_X8_game v1 σ = some (r, σ')) : Z κ 3 (zX (ze κ.1) σ) [(0, .ref (zo κ.1 0)), (1, .int v1)] 0 [] := by
  unfold F_X8_game at h
  refine z_iload_n (i := 1) X.1 dX8_game_0 1 rfl rfl ?_
  refine z_if_lt (tgt := 10) X.1 dX8_game_1 (by decide) h (fun q885 h => ?_) (fun q885 h => ?_)
  · refine z_aload_n (i := 0) X.1 dX8_game_10 0 rfl rfl ?_
    refine z_iconst (v := (1 : Int32)) X.1 dX8_game_11 (by decide) ?_
    obtain ⟨r886, s887, hc888, h⟩ := bd_inv h
    refine cl_X8_69 (d1 := 0) (b := zo κ.1 0) (As := [.int (1 : Int32)]) (rest := []) X.1 (by decide) (C_X8_fail X.2.1 hc888) rcX8 rfl rfl (Nat.le_of_ble_eq_true rfl) dX8_game_12 ?_
    exact z_iret X dX8_game_15 h
  · refine z_iload_n (i := 1) X.1 dX8_game_4 1 rfl rfl ?_
    refine z_bipush (v := (7 : Int32)) X.1 dX8_game_5 (by decide) ?_
    refine z_icmp_le (tgt := 16) X.1 dX8_game_7 (by decide) h (fun q889 h => ?_) (fun q889 h => ?_)
    · refine z_aload_n (i := 0) X.1 dX8_game_16 0 rfl rfl ?_
      refine g_X8_current X.1 tw274 dX8_game_17 ?_
      refine g_X0_on X.1 tw216 dX8_game_20 ?_
      refine z_if_ne (tgt := 32) X.1 dX8_game_23 (by decide) h (fun q890 h => ?_) (fun q890 h => ?_)
      · refine z_aload_n (i := 0) X.1 dX8_game_32 0 rfl rfl ?_
        refine g_X8_current X.1 tw274 dX8_game_33 ?_
        obtain ⟨r891, s892, hc893, h⟩ := bd_inv h
        refine cl_X8_168 (d1 := 0) (b := zo κ.1 6) (As := []) (rest := []) X.1 (by decide) (C_X0_stand X.2.1 hc893) rcX0 rfl rfl (Nat.le_of_ble_eq_true rfl) dX8_game_36 ?_
        refine z_istore_n (i := 2) (lv' := [(2, .int r891), (0, .ref (zo κ.1 0)), (1, .int v1)]) X.1 dX8_game_39 rfl (by decide) rfl ?_
        refine z_iload_n (i := 1) X.1 dX8_game_40 2 rfl rfl ?_
        by_cases q0 : v1 = (0 : Int32)
        · rw [if_pos q0] at h
          refine z_tabIn (tgt := 84) X.1 dX8_game_41 q0 (by decide) (by decide) rfl (by decide) ?_
          refine z_aload_n (i := 0) X.1 dX8_game_84 1 rfl rfl ?_
          refine g_X8_current X.1 tw274 dX8_game_85 ?_
          refine g_X0_rule X.1 tw218 dX8_game_88 ?_
          exact z_iret X dX8_game_91 h
        · rw [if_neg q0] at h
          by_cases q1 : v1 = (1 : Int32)
          · rw [if_pos q1] at h
            refine z_tabIn (tgt := 92) X.1 dX8_game_41 q1 (by decide) (by decide) rfl (by decide) ?_
            refine z_iload_n (i := 2) X.1 dX8_game_92 0 rfl rfl ?_
            obtain ⟨r896, s897, hc898, h⟩ := bd_inv h
            refine cl_X8_193 (d1 := 0) (As := [.int r891]) (rest := []) X.1 (by decide) (C_X5_marker X.2.1 hc898) rfl rfl (Nat.le_of_ble_eq_true rfl) dX8_game_93 ?_
            exact z_iret X dX8_game_96 h
          · rw [if_neg q1] at h
            by_cases q2 : v1 = (2 : Int32)
            · rw [if_pos q2] at h
              refine z_tabIn (tgt := 97) X.1 dX8_game_41 q2 (by decide) (by decide) rfl (by decide) ?_
              refine z_iload_n (i := 2) X.1 dX8_game_97 0 rfl rfl ?_
              obtain ⟨r900, s901, hc902, h⟩ := bd_inv h
              refine cl_X8_196 (d1 := 0) (As := [.int r891]) (rest := []) X.1 (by decide) (C_X5_met X.2.1 hc902) rfl rfl (Nat.le_of_ble_eq_true rfl) dX8_game_98 ?_
              exact z_iret X dX8_game_101 h
            · rw [if_neg q2] at h
              by_cases q3 : v1 = (3 : Int32)
              · rw [if_pos q3] at h
                refine z_tabIn (tgt := 102) X.1 dX8_game_41 q3 (by decide) (by decide) rfl (by decide) ?_
                refine z_iload_n (i := 2) X.1 dX8_game_102 0 rfl rfl ?_
                obtain ⟨r904, s905, hc906, h⟩ := bd_inv h
                refine cl_X8_199 (d1 := 0) (As := [.int r891]) (rest := []) X.1 (by decide) (C_X5_gone X.2.1 hc906) rfl rfl (Nat.le_of_ble_eq_true rfl) dX8_game_103 ?_
                exact z_iret X dX8_game_106 h
              · rw [if_neg q3] at h
                by_cases q4 : v1 = (4 : Int32)
                · rw [if_pos q4] at h
                  refine z_tabIn (tgt := 107) X.1 dX8_game_41 q4 (by decide) (by decide) rfl (by decide) ?_
                  refine z_aload_n (i := 0) X.1 dX8_game_107 1 rfl rfl ?_
                  refine g_X8_current X.1 tw274 dX8_game_108 ?_
                  refine g_X0_made X.1 tw220 dX8_game_111 ?_
                  exact z_iret X dX8_game_114 h
                · rw [if_neg q4] at h
                  by_cases q5 : v1 = (5 : Int32)
                  · rw [if_pos q5] at h
                    refine z_tabIn (tgt := 115) X.1 dX8_game_41 q5 (by decide) (by decide) rfl (by decide) ?_
                    refine z_aload_n (i := 0) X.1 dX8_game_115 1 rfl rfl ?_
                    refine g_X8_current X.1 tw274 dX8_game_116 ?_
                    refine g_X0_made X.1 tw220 dX8_game_119 ?_
                    refine z_iconst (v := (1 : Int32)) X.1 dX8_game_122 (by decide) ?_
                    refine z_iand X.1 dX8_game_123 ?_
                    exact z_iret X dX8_game_124 h
                  · rw [if_neg q5] at h
                    by_cases q6 : v1 = (6 : Int32)
                    · rw [if_pos q6] at h
                      refine z_tabIn (tgt := 125) X.1 dX8_game_41 q6 (by decide) (by decide) rfl (by decide) ?_
                      refine z_aload_n (i := 0) X.1 dX8_game_125 1 rfl rfl ?_
                      obtain ⟨r910, s911, hc912, h⟩ := bd_inv h
                      refine cl_X8_174 (d1 := 2) (b := zo κ.1 0) (As := []) (rest := []) X.1 (by decide) (C_X8_isOver X.2.1 hc912) rcX8 rfl rfl (Nat.le_of_ble_eq_true rfl) dX8_game_126 ?_
                      refine z_if_eq (tgt := 136) X.1 dX8_game_129 (by decide) h (fun q913 h => ?_) (fun q913 h => ?_)
                      · refine z_iconst (v := (0 : Int32)) X.1 dX8_game_136 (by decide) ?_
                        exact z_iret X dX8_game_137 h
                      · refine z_iconst (v := (1 : Int32)) X.1 dX8_game_132 (by decide) ?_
                        refine z_goto (tgt := 137) X.1 dX8_game_133 (by decide) ?_
                        exact z_iret X dX8_game_137 h
                    · rw [if_neg q6] at h
                      have t0 : v1.toInt ≠ 0 := tab_ne q0
                      have t1 : v1.toInt ≠ 1 := tab_ne q1
                      have t2 : v1.toInt ≠ 2 := tab_ne q2
                      have t3 : v1.toInt ≠ 3 := tab_ne q3
                      have t4 : v1.toInt ≠ 4 := tab_ne q4
                      have t5 : v1.toInt ≠ 5 := tab_ne q5
                      have t6 : v1.toInt ≠ 6 := tab_ne q6
                      refine z_tabOut (tgt := 138) X.1 dX8_game_41 (by omega) (by decide) ?_
                      refine z_aload_n (i := 0) X.1 dX8_game_138 1 rfl rfl ?_
                      refine g_X8_judge X.1 tw271 dX8_game_139 ?_
                      refine z_iload_n (i := 2) X.1 dX8_game_142 0 rfl rfl ?_
                      refine z_aload_n (i := 0) X.1 dX8_game_143 1 rfl rfl ?_
                      refine g_X8_current X.1 tw274 dX8_game_144 ?_
                      refine g_X0_made X.1 tw220 dX8_game_147 ?_
                      refine z_iconst (v := (1 : Int32)) X.1 dX8_game_150 (by decide) ?_
                      refine z_iand X.1 dX8_game_151 ?_
                      obtain ⟨r914, s915, hc916, h⟩ := bd_inv h
                      refine cl_X8_202 (d1 := 24) (b := zo κ.1 3) (As := [.int r891, .int ((s892 6 2 0) &&& (1 : Int32))]) (rest := []) X.1 (by decide) (C_X1_winner X.2.1 hc916) rcX1 rfl rfl (Nat.le_of_ble_eq_true rfl) dX8_game_152 ?_
                      exact z_iret X dX8_game_155 h
      · refine z_aload_n (i := 0) X.1 dX8_game_26 0 rfl rfl ?_
        refine z_iconst (v := (3 : Int32)) X.1 dX8_game_27 (by decide) ?_
        obtain ⟨r917, s918, hc919, h⟩ := bd_inv h
        refine cl_X8_69 (d1 := 0) (b := zo κ.1 0) (As := [.int (3 : Int32)]) (rest := []) X.1 (by decide) (C_X8_fail X.2.1 hc919) rcX8 rfl rfl (Nat.le_of_ble_eq_true rfl) dX8_game_28 ?_
        exact z_iret X dX8_game_31 h
    · refine z_aload_n (i := 0) X.1 dX8_game_10 0 rfl rfl ?_
      refine z_iconst (v := (1 : Int32)) X.1 dX8_game_11 (by decide) ?_
      obtain ⟨r920, s921, hc922, h⟩ := bd_inv h
      refine cl_X8_69 (d1 := 0) (b := zo κ.1 0) (As := [.int (1 : Int32)]) (rest := []) X.1 (by decide) (C_X8_fail X.2.1 hc922) rcX8 rfl rfl (Nat.le_of_ble_eq_true rfl) dX8_game_12 ?_
      exact z_iret X dX8_game_15 h
theorem C_X8_game {ζ : zW} (hZ : zDis ζ zX) {v1 : Int32} {σ σ' : S3} {r : Int32} (h : F_X8_game v1 σ = some (r, σ')) : zMet ζ zX 25 yX8_game cX8_game 3 (some .int) [.ref (zo ζ 0), .int v1] σ (some (.int r)) σ' :=
  zMet_of pn_X8 hZ (Nat.le_of_ble_eq_true rfl) (fun κ e X => by subst e; exact B_X8_game_0 X h)
noncomputable def F_X8_moved (v1 : Int32) (σ : S3) : R3 :=
  if (σ 6 0 0) = (0 : Int32) then (bd (F_X8_fail (3 : Int32) σ) (fun r932 s933 => some (r932, s933)))
  else (if v1 < (0 : Int32) then (bd (F_X8_fail (2 : Int32) σ) (fun r925 s926 => some (r925, s926)))
  else (if v1 < (σ 6 2 0) then (ck v1 12 (some (σ 6 3 (ix v1), σ)))
  else (bd (F_X8_fail (2 : Int32) σ) (fun r929 s930 => some (r929, s930)))))
set_option maxHeartbeats 4000000 in
set_option maxRecDepth 100000 in
theorem B_X8_moved_0 {κ : zT} {σ' : S3} {r : Int32} (X : zC κ zX RX8 cX8_moved 2 (some .int) 1 (some (.int r)) σ') {v1 : Int32} {σ : S3} (h : F_X8_moved v1 σ = some (r, σ')) : Z κ 2 (zX (ze κ.1) σ) [(0, .ref (zo κ.1 0)), (1, .int v1)] 0 [] := by
  unfold F_X8_moved at h
  refine z_aload_n (i := 0) X.1 dX8_moved_0 0 rfl rfl ?_
  refine g_X8_current X.1 tw274 dX8_moved_1 ?_
  refine g_X0_on X.1 tw216 dX8_moved_4 ?_
  refine z_if_ne (tgt := 16) X.1 dX8_moved_7 (by decide) h (fun q923 h => ?_) (fun q923 h => ?_)
  · refine z_iload_n (i := 1) X.1 dX8_moved_16 1 rfl rfl ?_
    refine z_if_lt (tgt := 31) X.1 dX8_moved_17 (by decide) h (fun q924 h => ?_) (fun q924 h => ?_)
    · refine z_aload_n (i := 0) X.1 dX8_moved_31 0 rfl rfl ?_
      refine z_iconst (v := (2 : Int32)) X.1 dX8_moved_32 (by decide) ?_
      obtain ⟨r925, s926, hc927, h⟩ := bd_inv h
      refine cl_X8_69 (d1 := 0) (b := zo κ.1 0) (As := [.int (2 : Int32)]) (rest := []) X.1 (by decide) (C_X8_fail X.2.1 hc927) rcX8 rfl rfl (Nat.le_of_ble_eq_true rfl) dX8_moved_33 ?_
      exact z_iret X dX8_moved_36 h
    · refine z_iload_n (i := 1) X.1 dX8_moved_20 1 rfl rfl ?_
      refine z_aload_n (i := 0) X.1 dX8_moved_21 0 rfl rfl ?_
      refine g_X8_current X.1 tw274 dX8_moved_22 ?_
      refine g_X0_made X.1 tw220 dX8_moved_25 ?_
      refine z_icmp_lt (tgt := 37) X.1 dX8_moved_28 (by decide) h (fun q928 h => ?_) (fun q928 h => ?_)
      · refine z_aload_n (i := 0) X.1 dX8_moved_37 0 rfl rfl ?_
        refine g_X8_current X.1 tw274 dX8_moved_38 ?_
        refine g_X0_taken X.1 tw222 dX8_moved_41 ?_
        refine z_iload_n (i := 1) X.1 dX8_moved_44 1 rfl rfl ?_
        refine al_X0_taken X.1 dX8_moved_45 h (fun h => ?_)
        exact z_iret X dX8_moved_46 h
      · refine z_aload_n (i := 0) X.1 dX8_moved_31 0 rfl rfl ?_
        refine z_iconst (v := (2 : Int32)) X.1 dX8_moved_32 (by decide) ?_
        obtain ⟨r929, s930, hc931, h⟩ := bd_inv h
        refine cl_X8_69 (d1 := 0) (b := zo κ.1 0) (As := [.int (2 : Int32)]) (rest := []) X.1 (by decide) (C_X8_fail X.2.1 hc931) rcX8 rfl rfl (Nat.le_of_ble_eq_true rfl) dX8_moved_33 ?_
        exact z_iret X dX8_moved_36 h
  · refine z_aload_n (i := 0) X.1 dX8_moved_10 0 rfl rfl ?_
    refine z_iconst (v := (3 : Int32)) X.1 dX8_moved_11 (by decide) ?_
    obtain ⟨r932, s933, hc934, h⟩ := bd_inv h
    refine cl_X8_69 (d1 := 0) (b := zo κ.1 0) (As := [.int (3 : Int32)]) (rest := []) X.1 (by decide) (C_X8_fail X.2.1 hc934) rcX8 rfl rfl (Nat.le_of_ble_eq_true rfl) dX8_moved_12 ?_
    exact z_iret X dX8_moved_15 h
theorem C_X8_moved {ζ : zW} (hZ : zDis ζ zX) {v1 : Int32} {σ σ' : S3} {r : Int32} (h : F_X8_moved v1 σ = some (r, σ')) : zMet ζ zX 1 yX8_moved cX8_moved 2 (some .int) [.ref (zo ζ 0), .int v1] σ (some (.int r)) σ' :=
  zMet_of pn_X8 hZ (Nat.le_of_ble_eq_true rfl) (fun κ e X => by subst e; exact B_X8_moved_0 X h)
noncomputable def F_X8_moves (v1 : Int32) (σ : S3) : R3 :=
  if v1 < (0 : Int32) then (bd (F_X8_fail (1 : Int32) σ) (fun r936 s937 => some (r936, s937)))
  else (if v1 ≤ (1 : Int32) then (if (σ 6 0 0) = (0 : Int32) then (bd (F_X8_fail (3 : Int32) σ) (fun r954 s955 => some (r954, s955)))
  else (if v1 = (0 : Int32) then (bd (F_X0_stand σ) (fun r948 s949 => bd (F_X1_movesFrom r948 s949) (fun r951 s952 => some (r951, s952))))
  else (bd (F_X0_stand σ) (fun r942 s943 => bd (F_X1_winningFrom r942 s943) (fun r945 s946 => some (r945, s946))))))
  else (bd (F_X8_fail (1 : Int32) σ) (fun r957 s958 => some (r957, s958))))
set_option maxHeartbeats 4000000 in
set_option maxRecDepth 100000 in
theorem B_X8_moves_0 {κ : zT} {σ' : S3} {r : Int32} (X : zC κ zX RX8 cX8_moves 2 (some .int) 24 (some (.int r)) σ') {v1 : Int32} {σ : S3} (h : F_X8_moves v1 σ = some (r, σ')) : Z κ 2 (zX (ze κ.1) σ) [(0, .ref (zo κ.1 0)), (1, .int v1)] 0 [] := by
  unfold F_X8_moves at h
  refine z_iload_n (i := 1) X.1 dX8_moves_0 1 rfl rfl ?_
  refine z_if_lt (tgt := 9) X.1 dX8_moves_1 (by decide) h (fun q935 h => ?_) (fun q935 h => ?_)
  · refine z_aload_n (i := 0) X.1 dX8_moves_9 0 rfl rfl ?_
    refine z_iconst (v := (1 : Int32)) X.1 dX8_moves_10 (by decide) ?_
    obtain ⟨r936, s937, hc938, h⟩ := bd_inv h
    refine cl_X8_69 (d1 := 0) (b := zo κ.1 0) (As := [.int (1 : Int32)]) (rest := []) X.1 (by decide) (C_X8_fail X.2.1 hc938) rcX8 rfl rfl (Nat.le_of_ble_eq_true rfl) dX8_moves_11 ?_
    exact z_iret X dX8_moves_14 h
  · refine z_iload_n (i := 1) X.1 dX8_moves_4 1 rfl rfl ?_
    refine z_iconst (v := (1 : Int32)) X.1 dX8_moves_5 (by decide) ?_
    refine z_icmp_le (tgt := 15) X.1 dX8_moves_6 (by decide) h (fun q939 h => ?_) (fun q939 h => ?_)
    · refine z_aload_n (i := 0) X.1 dX8_moves_15 0 rfl rfl ?_
      refine g_X8_current X.1 tw274 dX8_moves_16 ?_
      refine g_X0_on X.1 tw216 dX8_moves_19 ?_
      refine z_if_ne (tgt := 31) X.1 dX8_moves_22 (by decide) h (fun q940 h => ?_) (fun q940 h => ?_)
      · refine z_iload_n (i := 1) X.1 dX8_moves_31 1 rfl rfl ?_
        refine z_if_ne (tgt := 52) X.1 dX8_moves_32 (by decide) h (fun q941 h => ?_) (fun q941 h => ?_)
        · refine z_aload_n (i := 0) X.1 dX8_moves_52 0 rfl rfl ?_
          refine g_X8_judge X.1 tw271 dX8_moves_53 ?_
          refine z_aload_n (i := 0) X.1 dX8_moves_56 0 rfl rfl ?_
          refine g_X8_current X.1 tw274 dX8_moves_57 ?_
          obtain ⟨r942, s943, hc944, h⟩ := bd_inv h
          refine cl_X8_168 (d1 := 0) (b := zo κ.1 6) (As := []) (rest := [.ref (zo κ.1 3)]) X.1 (by decide) (C_X0_stand X.2.1 hc944) rcX0 rfl rfl (Nat.le_of_ble_eq_true rfl) dX8_moves_60 ?_
          obtain ⟨r945, s946, hc947, h⟩ := bd_inv h
          refine cl_X8_208 (d1 := 23) (b := zo κ.1 3) (As := [.int r942]) (rest := []) X.1 (by decide) (C_X1_winningFrom X.2.1 hc947) rcX1 rfl rfl (Nat.le_of_ble_eq_true rfl) dX8_moves_63 ?_
          exact z_iret X dX8_moves_66 h
        · refine z_aload_n (i := 0) X.1 dX8_moves_35 0 rfl rfl ?_
          refine g_X8_judge X.1 tw271 dX8_moves_36 ?_
          refine z_aload_n (i := 0) X.1 dX8_moves_39 0 rfl rfl ?_
          refine g_X8_current X.1 tw274 dX8_moves_40 ?_
          obtain ⟨r948, s949, hc950, h⟩ := bd_inv h
          refine cl_X8_168 (d1 := 0) (b := zo κ.1 6) (As := []) (rest := [.ref (zo κ.1 3)]) X.1 (by decide) (C_X0_stand X.2.1 hc950) rcX0 rfl rfl (Nat.le_of_ble_eq_true rfl) dX8_moves_43 ?_
          obtain ⟨r951, s952, hc953, h⟩ := bd_inv h
          refine cl_X8_178 (d1 := 1) (b := zo κ.1 3) (As := [.int r948]) (rest := []) X.1 (by decide) (C_X1_movesFrom X.2.1 hc953) rcX1 rfl rfl (Nat.le_of_ble_eq_true rfl) dX8_moves_46 ?_
          refine z_goto (tgt := 66) X.1 dX8_moves_49 (by decide) ?_
          exact z_iret X dX8_moves_66 h
      · refine z_aload_n (i := 0) X.1 dX8_moves_25 0 rfl rfl ?_
        refine z_iconst (v := (3 : Int32)) X.1 dX8_moves_26 (by decide) ?_
        obtain ⟨r954, s955, hc956, h⟩ := bd_inv h
        refine cl_X8_69 (d1 := 0) (b := zo κ.1 0) (As := [.int (3 : Int32)]) (rest := []) X.1 (by decide) (C_X8_fail X.2.1 hc956) rcX8 rfl rfl (Nat.le_of_ble_eq_true rfl) dX8_moves_27 ?_
        exact z_iret X dX8_moves_30 h
    · refine z_aload_n (i := 0) X.1 dX8_moves_9 0 rfl rfl ?_
      refine z_iconst (v := (1 : Int32)) X.1 dX8_moves_10 (by decide) ?_
      obtain ⟨r957, s958, hc959, h⟩ := bd_inv h
      refine cl_X8_69 (d1 := 0) (b := zo κ.1 0) (As := [.int (1 : Int32)]) (rest := []) X.1 (by decide) (C_X8_fail X.2.1 hc959) rcX8 rfl rfl (Nat.le_of_ble_eq_true rfl) dX8_moves_11 ?_
      exact z_iret X dX8_moves_14 h
theorem C_X8_moves {ζ : zW} (hZ : zDis ζ zX) {v1 : Int32} {σ σ' : S3} {r : Int32} (h : F_X8_moves v1 σ = some (r, σ')) : zMet ζ zX 24 yX8_moves cX8_moves 2 (some .int) [.ref (zo ζ 0), .int v1] σ (some (.int r)) σ' :=
  zMet_of pn_X8 hZ (Nat.le_of_ble_eq_true rfl) (fun κ e X => by subst e; exact B_X8_moves_0 X h)
noncomputable def F_X8_worth_53 (v1 : Int32) (σ : S3) : R3 :=
  if v1 = (0 : Int32) then (bd (F_X0_stand σ) (fun r974 s975 => bd (F_X1_lengthFrom r974 s975) (fun r977 s978 => some (r977, s978))))
  else (bd (F_X0_stand σ) (fun r968 s969 => bd (F_X1_nimFrom r968 s969) (fun r971 s972 => some (r971, s972))))
set_option maxHeartbeats 4000000 in
set_option maxRecDepth 100000 in
theorem B_X8_worth_53 {κ : zT} {σ' : S3} {r : Int32} (X : zC κ zX RX8 cX8_worth 2 (some .int) 24 (some (.int r)) σ') {v1 : Int32} {σ : S3} (h : F_X8_worth_53 v1 σ = some (r, σ')) : Z κ 2 (zX (ze κ.1) σ) [(0, .ref (zo κ.1 0)), (1, .int v1)] 53 [] := by
  unfold F_X8_worth_53 at h
  refine z_iload_n (i := 1) X.1 dX8_worth_53 1 rfl rfl ?_
  refine z_if_ne (tgt := 74) X.1 dX8_worth_54 (by decide) h (fun q967 h => ?_) (fun q967 h => ?_)
  · refine z_aload_n (i := 0) X.1 dX8_worth_74 0 rfl rfl ?_
    refine g_X8_judge X.1 tw271 dX8_worth_75 ?_
    refine z_aload_n (i := 0) X.1 dX8_worth_78 0 rfl rfl ?_
    refine g_X8_current X.1 tw274 dX8_worth_79 ?_
    obtain ⟨r968, s969, hc970, h⟩ := bd_inv h
    refine cl_X8_168 (d1 := 0) (b := zo κ.1 6) (As := []) (rest := [.ref (zo κ.1 3)]) X.1 (by decide) (C_X0_stand X.2.1 hc970) rcX0 rfl rfl (Nat.le_of_ble_eq_true rfl) dX8_worth_82 ?_
    obtain ⟨r971, s972, hc973, h⟩ := bd_inv h
    refine cl_X8_214 (d1 := 23) (b := zo κ.1 3) (As := [.int r968]) (rest := []) X.1 (by decide) (C_X1_nimFrom X.2.1 hc973) rcX1 rfl rfl (Nat.le_of_ble_eq_true rfl) dX8_worth_85 ?_
    exact z_iret X dX8_worth_88 h
  · refine z_aload_n (i := 0) X.1 dX8_worth_57 0 rfl rfl ?_
    refine g_X8_judge X.1 tw271 dX8_worth_58 ?_
    refine z_aload_n (i := 0) X.1 dX8_worth_61 0 rfl rfl ?_
    refine g_X8_current X.1 tw274 dX8_worth_62 ?_
    obtain ⟨r974, s975, hc976, h⟩ := bd_inv h
    refine cl_X8_168 (d1 := 0) (b := zo κ.1 6) (As := []) (rest := [.ref (zo κ.1 3)]) X.1 (by decide) (C_X0_stand X.2.1 hc976) rcX0 rfl rfl (Nat.le_of_ble_eq_true rfl) dX8_worth_65 ?_
    obtain ⟨r977, s978, hc979, h⟩ := bd_inv h
    refine cl_X8_211 (d1 := 23) (b := zo κ.1 3) (As := [.int r974]) (rest := []) X.1 (by decide) (C_X1_lengthFrom X.2.1 hc979) rcX1 rfl rfl (Nat.le_of_ble_eq_true rfl) dX8_worth_68 ?_
    refine z_goto (tgt := 88) X.1 dX8_worth_71 (by decide) ?_
    exact z_iret X dX8_worth_88 h
noncomputable def F_X8_worth (v1 : Int32) (σ : S3) : R3 :=
  if v1 < (0 : Int32) then (bd (F_X8_fail (1 : Int32) σ) (fun r961 s962 => some (r961, s962)))
  else (if v1 ≤ (1 : Int32) then (if (σ 6 0 0) = (0 : Int32) then (bd (F_X8_fail (3 : Int32) σ) (fun r984 s985 => some (r984, s985)))
  else (if v1 = (1 : Int32) then (if (σ 6 1 0) = (4 : Int32) then (bd (F_X8_fail (5 : Int32) σ) (fun r981 s982 => some (r981, s982)))
  else (F_X8_worth_53 v1 σ))
  else (F_X8_worth_53 v1 σ)))
  else (bd (F_X8_fail (1 : Int32) σ) (fun r987 s988 => some (r987, s988))))
set_option maxHeartbeats 4000000 in
set_option maxRecDepth 100000 in
theorem B_X8_worth_0 {κ : zT} {σ' : S3} {r : Int32} (X : zC κ zX RX8 cX8_worth 2 (some .int) 24 (some (.int r)) σ') {v1 : Int32} {σ : S3} (h : F_X8_worth v1 σ = some (r, σ')) : Z κ 2 (zX (ze κ.1) σ) [(0, .ref (zo κ.1 0)), (1, .int v1)] 0 [] := by
  unfold F_X8_worth at h
  refine z_iload_n (i := 1) X.1 dX8_worth_0 1 rfl rfl ?_
  refine z_if_lt (tgt := 9) X.1 dX8_worth_1 (by decide) h (fun q960 h => ?_) (fun q960 h => ?_)
  · refine z_aload_n (i := 0) X.1 dX8_worth_9 0 rfl rfl ?_
    refine z_iconst (v := (1 : Int32)) X.1 dX8_worth_10 (by decide) ?_
    obtain ⟨r961, s962, hc963, h⟩ := bd_inv h
    refine cl_X8_69 (d1 := 0) (b := zo κ.1 0) (As := [.int (1 : Int32)]) (rest := []) X.1 (by decide) (C_X8_fail X.2.1 hc963) rcX8 rfl rfl (Nat.le_of_ble_eq_true rfl) dX8_worth_11 ?_
    exact z_iret X dX8_worth_14 h
  · refine z_iload_n (i := 1) X.1 dX8_worth_4 1 rfl rfl ?_
    refine z_iconst (v := (1 : Int32)) X.1 dX8_worth_5 (by decide) ?_
    refine z_icmp_le (tgt := 15) X.1 dX8_worth_6 (by decide) h (fun q964 h => ?_) (fun q964 h => ?_)
    · refine z_aload_n (i := 0) X.1 dX8_worth_15 0 rfl rfl ?_
      refine g_X8_current X.1 tw274 dX8_worth_16 ?_
      refine g_X0_on X.1 tw216 dX8_worth_19 ?_
      refine z_if_ne (tgt := 31) X.1 dX8_worth_22 (by decide) h (fun q965 h => ?_) (fun q965 h => ?_)
      · refine z_iload_n (i := 1) X.1 dX8_worth_31 1 rfl rfl ?_
        refine z_iconst (v := (1 : Int32)) X.1 dX8_worth_32 (by decide) ?_
        refine z_icmp_ne (tgt := 53) X.1 dX8_worth_33 (by decide) h (fun q966 h => ?_) (fun q966 h => ?_)
        · exact z_sub [0, 1] rfl (B_X8_worth_53 X h)
        · refine z_aload_n (i := 0) X.1 dX8_worth_36 0 rfl rfl ?_
          refine g_X8_current X.1 tw274 dX8_worth_37 ?_
          refine g_X0_rule X.1 tw218 dX8_worth_40 ?_
          refine z_iconst (v := (4 : Int32)) X.1 dX8_worth_43 (by decide) ?_
          refine z_icmp_ne (tgt := 53) X.1 dX8_worth_44 (by decide) h (fun q980 h => ?_) (fun q980 h => ?_)
          · exact z_sub [0, 1] rfl (B_X8_worth_53 X h)
          · refine z_aload_n (i := 0) X.1 dX8_worth_47 0 rfl rfl ?_
            refine z_iconst (v := (5 : Int32)) X.1 dX8_worth_48 (by decide) ?_
            obtain ⟨r981, s982, hc983, h⟩ := bd_inv h
            refine cl_X8_69 (d1 := 0) (b := zo κ.1 0) (As := [.int (5 : Int32)]) (rest := []) X.1 (by decide) (C_X8_fail X.2.1 hc983) rcX8 rfl rfl (Nat.le_of_ble_eq_true rfl) dX8_worth_49 ?_
            exact z_iret X dX8_worth_52 h
      · refine z_aload_n (i := 0) X.1 dX8_worth_25 0 rfl rfl ?_
        refine z_iconst (v := (3 : Int32)) X.1 dX8_worth_26 (by decide) ?_
        obtain ⟨r984, s985, hc986, h⟩ := bd_inv h
        refine cl_X8_69 (d1 := 0) (b := zo κ.1 0) (As := [.int (3 : Int32)]) (rest := []) X.1 (by decide) (C_X8_fail X.2.1 hc986) rcX8 rfl rfl (Nat.le_of_ble_eq_true rfl) dX8_worth_27 ?_
        exact z_iret X dX8_worth_30 h
    · refine z_aload_n (i := 0) X.1 dX8_worth_9 0 rfl rfl ?_
      refine z_iconst (v := (1 : Int32)) X.1 dX8_worth_10 (by decide) ?_
      obtain ⟨r987, s988, hc989, h⟩ := bd_inv h
      refine cl_X8_69 (d1 := 0) (b := zo κ.1 0) (As := [.int (1 : Int32)]) (rest := []) X.1 (by decide) (C_X8_fail X.2.1 hc989) rcX8 rfl rfl (Nat.le_of_ble_eq_true rfl) dX8_worth_11 ?_
      exact z_iret X dX8_worth_14 h
theorem C_X8_worth {ζ : zW} (hZ : zDis ζ zX) {v1 : Int32} {σ σ' : S3} {r : Int32} (h : F_X8_worth v1 σ = some (r, σ')) : zMet ζ zX 24 yX8_worth cX8_worth 2 (some .int) [.ref (zo ζ 0), .int v1] σ (some (.int r)) σ' :=
  zMet_of pn_X8 hZ (Nat.le_of_ble_eq_true rfl) (fun κ e X => by subst e; exact B_X8_worth_0 X h)
noncomputable def F_X8_reach (σ : S3) : R3 :=
  if (σ 6 0 0) = (0 : Int32) then (bd (F_X8_fail (3 : Int32) σ) (fun r991 s992 => some (r991, s992)))
  else (bd (F_X0_stand σ) (fun r994 s995 => bd (F_X1_reachFrom r994 s995) (fun r997 s998 => some (r997, s998))))
set_option maxHeartbeats 4000000 in
set_option maxRecDepth 100000 in
theorem B_X8_reach_0 {κ : zT} {σ' : S3} {r : Int32} (X : zC κ zX RX8 cX8_reach 1 (some .int) 4 (some (.int r)) σ') {σ : S3} (h : F_X8_reach σ = some (r, σ')) : Z κ 1 (zX (ze κ.1) σ) [(0, .ref (zo κ.1 0))] 0 [] := by
  unfold F_X8_reach at h
  refine z_aload_n (i := 0) X.1 dX8_reach_0 0 rfl rfl ?_
  refine g_X8_current X.1 tw274 dX8_reach_1 ?_
  refine g_X0_on X.1 tw216 dX8_reach_4 ?_
  refine z_if_eq (tgt := 27) X.1 dX8_reach_7 (by decide) h (fun q990 h => ?_) (fun q990 h => ?_)
  · refine z_aload_n (i := 0) X.1 dX8_reach_27 0 rfl rfl ?_
    refine z_iconst (v := (3 : Int32)) X.1 dX8_reach_28 (by decide) ?_
    obtain ⟨r991, s992, hc993, h⟩ := bd_inv h
    refine cl_X8_69 (d1 := 0) (b := zo κ.1 0) (As := [.int (3 : Int32)]) (rest := []) X.1 (by decide) (C_X8_fail X.2.1 hc993) rcX8 rfl rfl (Nat.le_of_ble_eq_true rfl) dX8_reach_29 ?_
    exact z_iret X dX8_reach_32 h
  · refine z_aload_n (i := 0) X.1 dX8_reach_10 0 rfl rfl ?_
    refine g_X8_judge X.1 tw271 dX8_reach_11 ?_
    refine z_aload_n (i := 0) X.1 dX8_reach_14 0 rfl rfl ?_
    refine g_X8_current X.1 tw274 dX8_reach_15 ?_
    obtain ⟨r994, s995, hc996, h⟩ := bd_inv h
    refine cl_X8_168 (d1 := 0) (b := zo κ.1 6) (As := []) (rest := [.ref (zo κ.1 3)]) X.1 (by decide) (C_X0_stand X.2.1 hc996) rcX0 rfl rfl (Nat.le_of_ble_eq_true rfl) dX8_reach_18 ?_
    obtain ⟨r997, s998, hc999, h⟩ := bd_inv h
    refine cl_X8_217 (d1 := 3) (b := zo κ.1 3) (As := [.int r994]) (rest := []) X.1 (by decide) (C_X1_reachFrom X.2.1 hc999) rcX1 rfl rfl (Nat.le_of_ble_eq_true rfl) dX8_reach_21 ?_
    refine z_goto (tgt := 32) X.1 dX8_reach_24 (by decide) ?_
    exact z_iret X dX8_reach_32 h
theorem C_X8_reach {ζ : zW} (hZ : zDis ζ zX) {σ σ' : S3} {r : Int32} (h : F_X8_reach  σ = some (r, σ')) : zMet ζ zX 4 yX8_reach cX8_reach 1 (some .int) [.ref (zo ζ 0)] σ (some (.int r)) σ' :=
  zMet_of pn_X8 hZ (Nat.le_of_ble_eq_true rfl) (fun κ e X => by subst e; exact B_X8_reach_0 X h)
noncomputable def Fb_X8_starts_17 (v1 : Int32) (K17 : Int32 → Int32 → S3 → R3) (v2 : Int32) (v3 : Int32) (σ : S3) : R3 :=
  if (σ 1 0 0) ≤ v3 then (bd (F_X1_turnTo (σ 6 1 0) σ) (fun r1005 s1006 => some (v2, s1006)))
  else (bd (F_X1_turnTo v1 σ) (fun r1008 s1009 => bd (F_X5_atFirst v3 s1009) (fun r1011 s1012 => bd (F_X1_wins r1011 s1012) (fun r1014 s1015 => if r1014 = (0 : Int32) then (nm (v3 + (1 : Int32)) (fun x1018 => K17 v2 x1018 s1015))
  else (nm (v2 ||| ((1 : Int32) <<< (v3 &&& 31))) (fun x1019 => nm (v3 + (1 : Int32)) (fun x1020 => K17 x1019 x1020 s1015)))))))
noncomputable def F_X8_starts_17 (v1 : Int32) (n : Nat) : Int32 → Int32 → S3 → R3 := zl2 (Fb_X8_starts_17 v1) n
set_option maxHeartbeats 4000000 in
set_option maxRecDepth 100000 in
theorem B_X8_starts_17 {κ : zT} {σ' : S3} {r : Int32} (X : zC κ zX RX8 cX8_starts 4 (some .int) 24 (some (.int r)) σ') {v1 : Int32} : ∀ (n : Nat) (v2 : Int32) (v3 : Int32) (σ : S3), F_X8_starts_17 v1 n v2 v3 σ = some (r, σ') → Z κ 4 (zX (ze κ.1) σ) [(0, .ref (zo κ.1 0)), (1, .int v1), (2, .int v2), (3, .int v3)] 17 [] := by
  intro n
  induction n with
  | zero =>
    intro v2 v3 σ h
    cases (show (none : R3) = some (r, σ') from h)
  | succ n ih =>
    intro v2 v3 σ h
    have hK17 := ih
    have h : Fb_X8_starts_17 v1 (F_X8_starts_17 v1 n) v2 v3 σ = some (r, σ') := h
    unfold Fb_X8_starts_17 at h
    refine z_iload_n (i := 3) X.1 dX8_starts_17 3 rfl rfl ?_
    refine z_aload_n (i := 0) X.1 dX8_starts_18 0 rfl rfl ?_
    refine g_X8_net X.1 tw269 dX8_starts_19 ?_
    refine g_X2_size (Or.inl rfl) X.1 tw98 dX8_starts_22 ?_
    refine z_icmp_ge (tgt := 62) X.1 dX8_starts_25 (by decide) h (fun q1004 h => ?_) (fun q1004 h => ?_)
    · refine z_aload_n (i := 0) X.1 dX8_starts_62 0 rfl rfl ?_
      refine g_X8_judge X.1 tw271 dX8_starts_63 ?_
      refine z_aload_n (i := 0) X.1 dX8_starts_66 0 rfl rfl ?_
      refine g_X8_current X.1 tw274 dX8_starts_67 ?_
      refine g_X0_rule X.1 tw218 dX8_starts_70 ?_
      obtain ⟨r1005, s1006, hc1007, h⟩ := bd_inv h
      refine cl_X8_157 (d1 := 1) (b := zo κ.1 3) (r := 0) (As := [.int (σ 6 1 0)]) (rest := []) X.1 (by decide) (C_X1_turnTo X.2.1 hc1007) rcX1 rfl rfl (Nat.le_of_ble_eq_true rfl) dX8_starts_73 ?_
      refine z_iload_n (i := 2) X.1 dX8_starts_76 2 rfl rfl ?_
      exact z_iret X dX8_starts_77 h
    · refine z_aload_n (i := 0) X.1 dX8_starts_28 0 rfl rfl ?_
      refine g_X8_judge X.1 tw271 dX8_starts_29 ?_
      refine z_iload_n (i := 1) X.1 dX8_starts_32 1 rfl rfl ?_
      obtain ⟨r1008, s1009, hc1010, h⟩ := bd_inv h
      refine cl_X8_157 (d1 := 1) (b := zo κ.1 3) (r := 0) (As := [.int v1]) (rest := []) X.1 (by decide) (C_X1_turnTo X.2.1 hc1010) rcX1 rfl rfl (Nat.le_of_ble_eq_true rfl) dX8_starts_33 ?_
      refine z_aload_n (i := 0) X.1 dX8_starts_36 0 rfl rfl ?_
      refine g_X8_judge X.1 tw271 dX8_starts_37 ?_
      refine z_iload_n (i := 3) X.1 dX8_starts_40 3 rfl rfl ?_
      obtain ⟨r1011, s1012, hc1013, h⟩ := bd_inv h
      refine cl_X8_160 (d1 := 0) (As := [.int v3]) (rest := [.ref (zo κ.1 3)]) X.1 (by decide) (C_X5_atFirst X.2.1 hc1013) rfl rfl (Nat.le_of_ble_eq_true rfl) dX8_starts_41 ?_
      obtain ⟨r1014, s1015, hc1016, h⟩ := bd_inv h
      refine cl_X8_171 (d1 := 23) (b := zo κ.1 3) (As := [.int r1011]) (rest := []) X.1 (by decide) (C_X1_wins X.2.1 hc1016) rcX1 rfl rfl (Nat.le_of_ble_eq_true rfl) dX8_starts_44 ?_
      refine z_if_eq (tgt := 56) X.1 dX8_starts_47 (by decide) h (fun q1017 h => ?_) (fun q1017 h => ?_)
      · refine z_iinc_m (v := (1 : Int32)) (lv' := fun x1018 => [(3, .int x1018), (0, .ref (zo κ.1 0)), (1, .int v1), (2, .int v2)]) X.1 dX8_starts_56 3 rfl (by decide) (by decide) (fun _ => rfl) h (fun x1018 h => ?_)
        refine z_goto (tgt := 17) X.1 dX8_starts_59 (by decide) ?_
        exact z_sub [1, 2, 3, 0] rfl (hK17 _ _ _ h)
      · refine z_iload_n (i := 2) X.1 dX8_starts_50 2 rfl rfl ?_
        refine z_iconst (v := (1 : Int32)) X.1 dX8_starts_51 (by decide) ?_
        refine z_iload_n (i := 3) X.1 dX8_starts_52 3 rfl rfl ?_
        refine z_ishl X.1 dX8_starts_53 ?_
        refine z_ior X.1 dX8_starts_54 ?_
        refine z_istore_nn (i := 2) (lv' := fun x1019 => [(2, .int x1019), (0, .ref (zo κ.1 0)), (1, .int v1), (3, .int v3)]) X.1 dX8_starts_55 rfl (by decide) (fun _ => rfl) h (fun x1019 h => ?_)
        refine z_iinc_m (v := (1 : Int32)) (lv' := fun x1020 => [(3, .int x1020), (2, .int x1019), (0, .ref (zo κ.1 0)), (1, .int v1)]) X.1 dX8_starts_56 3 rfl (by decide) (by decide) (fun _ => rfl) h (fun x1020 h => ?_)
        refine z_goto (tgt := 17) X.1 dX8_starts_59 (by decide) ?_
        exact z_sub [2, 3, 1, 0] rfl (hK17 _ _ _ h)
noncomputable def F_X8_starts (v1 : Int32) (σ : S3) : R3 :=
  bd (F_X8_isRule v1 σ) (fun r1000 s1001 => if r1000 = (0 : Int32) then (bd (F_X8_fail (1 : Int32) s1001) (fun r1021 s1022 => some (r1021, s1022)))
  else (F_X8_starts_17 v1 zF (0 : Int32) (0 : Int32) s1001))
set_option maxHeartbeats 4000000 in
set_option maxRecDepth 100000 in
theorem B_X8_starts_0 {κ : zT} {σ' : S3} {r : Int32} (X : zC κ zX RX8 cX8_starts 4 (some .int) 24 (some (.int r)) σ') {v1 : Int32} {σ : S3} (h : F_X8_starts v1 σ = some (r, σ')) : Z κ 4 (zX (ze κ.1) σ) [(0, .ref (zo κ.1 0)), (1, .int v1)] 0 [] := by
  unfold F_X8_starts at h
  refine z_iload_n (i := 1) X.1 dX8_starts_0 1 rfl rfl ?_
  obtain ⟨r1000, s1001, hc1002, h⟩ := bd_inv h
  refine cl_X8_154 (d1 := 0) (As := [.int v1]) (rest := []) X.1 (by decide) (C_X8_isRule X.2.1 hc1002) rfl rfl (Nat.le_of_ble_eq_true rfl) dX8_starts_1 ?_
  refine z_if_ne (tgt := 13) X.1 dX8_starts_4 (by decide) h (fun q1003 h => ?_) (fun q1003 h => ?_)
  · refine z_iconst (v := (0 : Int32)) X.1 dX8_starts_13 (by decide) ?_
    refine z_istore_n (i := 2) (lv' := [(2, .int (0 : Int32)), (0, .ref (zo κ.1 0)), (1, .int v1)]) X.1 dX8_starts_14 rfl (by decide) rfl ?_
    refine z_iconst (v := (0 : Int32)) X.1 dX8_starts_15 (by decide) ?_
    refine z_istore_n (i := 3) (lv' := [(3, .int (0 : Int32)), (2, .int (0 : Int32)), (0, .ref (zo κ.1 0)), (1, .int v1)]) X.1 dX8_starts_16 rfl (by decide) rfl ?_
    exact z_sub [2, 3, 1, 0] rfl (B_X8_starts_17 X zF _ _ _ h)
  · refine z_aload_n (i := 0) X.1 dX8_starts_7 0 rfl rfl ?_
    refine z_iconst (v := (1 : Int32)) X.1 dX8_starts_8 (by decide) ?_
    obtain ⟨r1021, s1022, hc1023, h⟩ := bd_inv h
    refine cl_X8_69 (d1 := 0) (b := zo κ.1 0) (As := [.int (1 : Int32)]) (rest := []) X.1 (by decide) (C_X8_fail X.2.1 hc1023) rcX8 rfl rfl (Nat.le_of_ble_eq_true rfl) dX8_starts_9 ?_
    exact z_iret X dX8_starts_12 h
theorem C_X8_starts {ζ : zW} (hZ : zDis ζ zX) {v1 : Int32} {σ σ' : S3} {r : Int32} (h : F_X8_starts v1 σ = some (r, σ')) : zMet ζ zX 24 yX8_starts cX8_starts 4 (some .int) [.ref (zo ζ 0), .int v1] σ (some (.int r)) σ' :=
  zMet_of pn_X8 hZ (Nat.le_of_ble_eq_true rfl) (fun κ e X => by subst e; exact B_X8_starts_0 X h)
noncomputable def Fb_X8_isCode_18 (K18 : Int32 → Int32 → S3 → R3) (v1 : Int32) (v2 : Int32) (σ : S3) : R3 :=
  if (4 : Int32) ≤ v2 then (some ((1 : Int32), σ))
  else (if v1 ≤ (0 : Int32) then (some ((1 : Int32), σ))
  else (nm (v1 - v1 / (10 : Int32) * (10 : Int32)) (fun x1031 => if x1031 < (1 : Int32) then (some ((0 : Int32), σ))
  else (if x1031 ≤ (7 : Int32) then (nm (v1 / (10 : Int32)) (fun x1034 => nm (v2 + (1 : Int32)) (fun x1035 => K18 x1034 x1035 σ)))
  else (some ((0 : Int32), σ))))))
noncomputable def F_X8_isCode_18 (n : Nat) : Int32 → Int32 → S3 → R3 := zl2 (Fb_X8_isCode_18) n
set_option maxHeartbeats 4000000 in
set_option maxRecDepth 100000 in
theorem B_X8_isCode_18 {κ : zT} {σ' : S3} {r : Int32} (X : zC κ zX RX8 cX8_isCode 4 (some .boolean) 0 (some (.int r)) σ') : ∀ (n : Nat) (v1 : Int32) (v2 : Int32) (σ : S3), F_X8_isCode_18 n v1 v2 σ = some (r, σ') → Z κ 4 (zX (ze κ.1) σ) [(1, .int v1), (2, .int v2)] 18 [] := by
  intro n
  induction n with
  | zero =>
    intro v1 v2 σ h
    cases (show (none : R3) = some (r, σ') from h)
  | succ n ih =>
    intro v1 v2 σ h
    have hK18 := ih
    have h : Fb_X8_isCode_18 (F_X8_isCode_18 n) v1 v2 σ = some (r, σ') := h
    unfold Fb_X8_isCode_18 at h
    refine z_iload_n (i := 2) X.1 dX8_isCode_18 1 rfl rfl ?_
    refine z_iconst (v := (4 : Int32)) X.1 dX8_isCode_19 (by decide) ?_
    refine z_icmp_ge (tgt := 56) X.1 dX8_isCode_20 (by decide) h (fun q1029 h => ?_) (fun q1029 h => ?_)
    · refine z_iconst (v := (1 : Int32)) X.1 dX8_isCode_56 (by decide) ?_
      exact z_zret X dX8_isCode_57 (Or.inr rfl) h
    · refine z_iload_n (i := 1) X.1 dX8_isCode_23 0 rfl rfl ?_
      refine z_if_le (tgt := 56) X.1 dX8_isCode_24 (by decide) h (fun q1030 h => ?_) (fun q1030 h => ?_)
      · refine z_iconst (v := (1 : Int32)) X.1 dX8_isCode_56 (by decide) ?_
        exact z_zret X dX8_isCode_57 (Or.inr rfl) h
      · refine z_iload_n (i := 1) X.1 dX8_isCode_27 0 rfl rfl ?_
        refine z_bipush (v := (10 : Int32)) X.1 dX8_isCode_28 (by decide) ?_
        refine z_irem X.1 dX8_isCode_30 (by decide) ?_
        refine z_istore_nn (i := 3) (lv' := fun x1031 => [(3, .int x1031), (1, .int v1), (2, .int v2)]) X.1 dX8_isCode_31 rfl (by decide) (fun _ => rfl) h (fun x1031 h => ?_)
        refine z_iload_n (i := 3) X.1 dX8_isCode_32 0 rfl rfl ?_
        refine z_iconst (v := (1 : Int32)) X.1 dX8_isCode_33 (by decide) ?_
        refine z_icmp_lt (tgt := 43) X.1 dX8_isCode_34 (by decide) h (fun q1032 h => ?_) (fun q1032 h => ?_)
        · refine z_iconst (v := (0 : Int32)) X.1 dX8_isCode_43 (by decide) ?_
          exact z_zret X dX8_isCode_44 (Or.inl rfl) h
        · refine z_iload_n (i := 3) X.1 dX8_isCode_37 0 rfl rfl ?_
          refine z_bipush (v := (7 : Int32)) X.1 dX8_isCode_38 (by decide) ?_
          refine z_icmp_le (tgt := 45) X.1 dX8_isCode_40 (by decide) h (fun q1033 h => ?_) (fun q1033 h => ?_)
          · refine z_iload_n (i := 1) X.1 dX8_isCode_45 1 rfl rfl ?_
            refine z_bipush (v := (10 : Int32)) X.1 dX8_isCode_46 (by decide) ?_
            refine z_idiv X.1 dX8_isCode_48 (by decide) ?_
            refine z_istore_nn (i := 1) (lv' := fun x1034 => [(1, .int x1034), (3, .int x1031), (2, .int v2)]) X.1 dX8_isCode_49 rfl (by decide) (fun _ => rfl) h (fun x1034 h => ?_)
            refine z_iinc_m (v := (1 : Int32)) (lv' := fun x1035 => [(2, .int x1035), (1, .int x1034), (3, .int x1031)]) X.1 dX8_isCode_50 2 rfl (by decide) (by decide) (fun _ => rfl) h (fun x1035 h => ?_)
            refine z_goto (tgt := 18) X.1 dX8_isCode_53 (by decide) ?_
            exact z_sub [1, 0] rfl (hK18 _ _ _ h)
          · refine z_iconst (v := (0 : Int32)) X.1 dX8_isCode_43 (by decide) ?_
            exact z_zret X dX8_isCode_44 (Or.inl rfl) h
noncomputable def F_X8_isCode (v0 : Int32) (σ : S3) : R3 :=
  if v0 < (1 : Int32) then (some ((0 : Int32), σ))
  else (if v0 ≤ (7777 : Int32) then (F_X8_isCode_18 zF v0 (0 : Int32) σ)
  else (some ((0 : Int32), σ)))
set_option maxHeartbeats 4000000 in
set_option maxRecDepth 100000 in
theorem B_X8_isCode_0 {κ : zT} {σ' : S3} {r : Int32} (X : zC κ zX RX8 cX8_isCode 4 (some .boolean) 0 (some (.int r)) σ') {v0 : Int32} {σ : S3} (h : F_X8_isCode v0 σ = some (r, σ')) : Z κ 4 (zX (ze κ.1) σ) [(0, .int v0)] 0 [] := by
  unfold F_X8_isCode at h
  refine z_iload_n (i := 0) X.1 dX8_isCode_0 0 rfl rfl ?_
  refine z_iconst (v := (1 : Int32)) X.1 dX8_isCode_1 (by decide) ?_
  refine z_icmp_lt (tgt := 12) X.1 dX8_isCode_2 (by decide) h (fun q1027 h => ?_) (fun q1027 h => ?_)
  · refine z_iconst (v := (0 : Int32)) X.1 dX8_isCode_12 (by decide) ?_
    exact z_zret X dX8_isCode_13 (Or.inl rfl) h
  · refine z_iload_n (i := 0) X.1 dX8_isCode_5 0 rfl rfl ?_
    refine z_sipush (v := (7777 : Int32)) X.1 dX8_isCode_6 (by decide) ?_
    refine z_icmp_le (tgt := 14) X.1 dX8_isCode_9 (by decide) h (fun q1028 h => ?_) (fun q1028 h => ?_)
    · refine z_iload_n (i := 0) X.1 dX8_isCode_14 0 rfl rfl ?_
      refine z_istore_n (i := 1) (lv' := [(1, .int v0), (0, .int v0)]) X.1 dX8_isCode_15 rfl (by decide) rfl ?_
      refine z_iconst (v := (0 : Int32)) X.1 dX8_isCode_16 (by decide) ?_
      refine z_istore_n (i := 2) (lv' := [(2, .int (0 : Int32)), (1, .int v0), (0, .int v0)]) X.1 dX8_isCode_17 rfl (by decide) rfl ?_
      exact z_sub [1, 0] rfl (B_X8_isCode_18 X zF _ _ _ h)
    · refine z_iconst (v := (0 : Int32)) X.1 dX8_isCode_12 (by decide) ?_
      exact z_zret X dX8_isCode_13 (Or.inl rfl) h
theorem C_X8_isCode {ζ : zW} (hZ : zDis ζ zX) {v0 : Int32} {σ σ' : S3} {r : Int32} (h : F_X8_isCode v0 σ = some (r, σ')) : zMet ζ zX 0 yX8_isCode cX8_isCode 4 (some .boolean) [.int v0] σ (some (.int r)) σ' :=
  zMet_of pn_X8 hZ (Nat.le_of_ble_eq_true rfl) (fun κ e X => by subst e; exact B_X8_isCode_0 X h)
noncomputable def F_X8_tells (v1 : Int32) (σ : S3) : R3 :=
  bd (F_X8_isCode v1 σ) (fun r1024 s1025 => if r1024 = (0 : Int32) then (bd (F_X8_fail (1 : Int32) s1025) (fun r1051 s1052 => some (r1051, s1052)))
  else (if (s1025 6 0 0) = (0 : Int32) then (bd (F_X8_fail (3 : Int32) s1025) (fun r1048 s1049 => some (r1048, s1049)))
  else (bd (F_X0_stand s1025) (fun r1038 s1039 => bd (F_X3_advice v1 r1038 (-1 : Int32) s1039) (fun r1041 s1042 => if (0 : Int32) ≤ r1041 then (some (r1041, s1042))
  else (bd (F_X8_fail (2 : Int32) s1042) (fun r1045 s1046 => some (r1045, s1046))))))))
set_option maxHeartbeats 4000000 in
set_option maxRecDepth 100000 in
theorem B_X8_tells_0 {κ : zT} {σ' : S3} {r : Int32} (X : zC κ zX RX8 cX8_tells 3 (some .int) 27 (some (.int r)) σ') {v1 : Int32} {σ : S3} (h : F_X8_tells v1 σ = some (r, σ')) : Z κ 3 (zX (ze κ.1) σ) [(0, .ref (zo κ.1 0)), (1, .int v1)] 0 [] := by
  unfold F_X8_tells at h
  refine z_iload_n (i := 1) X.1 dX8_tells_0 1 rfl rfl ?_
  obtain ⟨r1024, s1025, hc1026, h⟩ := bd_inv h
  refine cl_X8_220 (d1 := 0) (As := [.int v1]) (rest := []) X.1 (by decide) (C_X8_isCode X.2.1 hc1026) rfl rfl (Nat.le_of_ble_eq_true rfl) dX8_tells_1 ?_
  refine z_if_ne (tgt := 13) X.1 dX8_tells_4 (by decide) h (fun q1036 h => ?_) (fun q1036 h => ?_)
  · refine z_aload_n (i := 0) X.1 dX8_tells_13 0 rfl rfl ?_
    refine g_X8_current X.1 tw274 dX8_tells_14 ?_
    refine g_X0_on X.1 tw216 dX8_tells_17 ?_
    refine z_if_ne (tgt := 29) X.1 dX8_tells_20 (by decide) h (fun q1037 h => ?_) (fun q1037 h => ?_)
    · refine z_aload_n (i := 0) X.1 dX8_tells_29 0 rfl rfl ?_
      refine g_X8_planner X.1 tw272 dX8_tells_30 ?_
      refine z_iload_n (i := 1) X.1 dX8_tells_33 1 rfl rfl ?_
      refine z_aload_n (i := 0) X.1 dX8_tells_34 0 rfl rfl ?_
      refine g_X8_current X.1 tw274 dX8_tells_35 ?_
      obtain ⟨r1038, s1039, hc1040, h⟩ := bd_inv h
      refine cl_X8_168 (d1 := 0) (b := zo κ.1 6) (As := []) (rest := [.int v1, .ref (zo κ.1 4)]) X.1 (by decide) (C_X0_stand X.2.1 hc1040) rcX0 rfl rfl (Nat.le_of_ble_eq_true rfl) dX8_tells_38 ?_
      refine z_iconst (v := (-1 : Int32)) X.1 dX8_tells_41 (by decide) ?_
      obtain ⟨r1041, s1042, hc1043, h⟩ := bd_inv h
      refine cl_X8_223 (d1 := 26) (b := zo κ.1 4) (As := [.int v1, .int r1038, .int (-1 : Int32)]) (rest := []) X.1 (by decide) (C_X3_advice X.2.1 hc1043) rcX3 rfl rfl (Nat.le_of_ble_eq_true rfl) dX8_tells_42 ?_
      refine z_istore_n (i := 2) (lv' := [(2, .int r1041), (0, .ref (zo κ.1 0)), (1, .int v1)]) X.1 dX8_tells_45 rfl (by decide) rfl ?_
      refine z_iload_n (i := 2) X.1 dX8_tells_46 0 rfl rfl ?_
      refine z_if_ge (tgt := 58) X.1 dX8_tells_47 (by decide) h (fun q1044 h => ?_) (fun q1044 h => ?_)
      · refine z_iload_n (i := 2) X.1 dX8_tells_58 0 rfl rfl ?_
        exact z_iret X dX8_tells_59 h
      · refine z_aload_n (i := 0) X.1 dX8_tells_50 1 rfl rfl ?_
        refine z_iconst (v := (2 : Int32)) X.1 dX8_tells_51 (by decide) ?_
        obtain ⟨r1045, s1046, hc1047, h⟩ := bd_inv h
        refine cl_X8_69 (d1 := 0) (b := zo κ.1 0) (As := [.int (2 : Int32)]) (rest := []) X.1 (by decide) (C_X8_fail X.2.1 hc1047) rcX8 rfl rfl (Nat.le_of_ble_eq_true rfl) dX8_tells_52 ?_
        refine z_goto (tgt := 59) X.1 dX8_tells_55 (by decide) ?_
        exact z_iret X dX8_tells_59 h
    · refine z_aload_n (i := 0) X.1 dX8_tells_23 0 rfl rfl ?_
      refine z_iconst (v := (3 : Int32)) X.1 dX8_tells_24 (by decide) ?_
      obtain ⟨r1048, s1049, hc1050, h⟩ := bd_inv h
      refine cl_X8_69 (d1 := 0) (b := zo κ.1 0) (As := [.int (3 : Int32)]) (rest := []) X.1 (by decide) (C_X8_fail X.2.1 hc1050) rcX8 rfl rfl (Nat.le_of_ble_eq_true rfl) dX8_tells_25 ?_
      exact z_iret X dX8_tells_28 h
  · refine z_aload_n (i := 0) X.1 dX8_tells_7 0 rfl rfl ?_
    refine z_iconst (v := (1 : Int32)) X.1 dX8_tells_8 (by decide) ?_
    obtain ⟨r1051, s1052, hc1053, h⟩ := bd_inv h
    refine cl_X8_69 (d1 := 0) (b := zo κ.1 0) (As := [.int (1 : Int32)]) (rest := []) X.1 (by decide) (C_X8_fail X.2.1 hc1053) rcX8 rfl rfl (Nat.le_of_ble_eq_true rfl) dX8_tells_9 ?_
    exact z_iret X dX8_tells_12 h
theorem C_X8_tells {ζ : zW} (hZ : zDis ζ zX) {v1 : Int32} {σ σ' : S3} {r : Int32} (h : F_X8_tells v1 σ = some (r, σ')) : zMet ζ zX 27 yX8_tells cX8_tells 3 (some .int) [.ref (zo ζ 0), .int v1] σ (some (.int r)) σ' :=
  zMet_of pn_X8 hZ (Nat.le_of_ble_eq_true rfl) (fun κ e X => by subst e; exact B_X8_tells_0 X h)
noncomputable def F_X8_play_103 (K75 : Int32 → Int32 → S3 → R3) (v1 : Int32) (v2 : Int32) (v3 : Int32) (v4 : Int32) (v5 : Int32) (v6 : Int32) (s0 : Int32) (σ : S3) : R3 :=
  bd (F_X0_stand σ) (fun r1084 s1085 => bd (F_X3_least v5 s1085) (fun r1087 s1088 => bd (F_X3_advice s0 r1084 r1087 s1088) (fun r1090 s1091 => bd (F_X0_stand s1091) (fun r1093 s1094 => bd (F_X1_behind r1093 r1090 s1094) (fun r1096 s1097 => bd (F_X0_advance r1090 r1096 s1097) (fun r1099 s1100 => bd (F_X0_stand s1100) (fun r1102 s1103 => bd (F_X1_movesFrom r1102 s1103) (fun r1105 s1106 => nm (v6 + (1 : Int32)) (fun x1108 => K75 r1105 x1108 s1106)))))))))
set_option maxHeartbeats 4000000 in
set_option maxRecDepth 100000 in
theorem B_X8_play_103 {κ : zT} {σ' : S3} {r : Int32} (X : zC κ zX RX8 cX8_play 9 (some .int) 27 (some (.int r)) σ') {K75 : Int32 → Int32 → S3 → R3} {v1 : Int32} {v2 : Int32} {v3 : Int32} {v4 : Int32} {v5 : Int32} {v6 : Int32} {s0 : Int32} {σ : S3} (hK75 : ∀ (w5 : Int32) (w6 : Int32) (s1 : S3), K75 w5 w6 s1 = some (r, σ') → Z κ 9 (zX (ze κ.1) s1) [(0, .ref (zo κ.1 0)), (1, .int v1), (2, .int v2), (3, .int v3), (4, .int v4), (5, .int w5), (6, .int w6)] 75 []) (h : F_X8_play_103 K75 v1 v2 v3 v4 v5 v6 s0 σ = some (r, σ')) : Z κ 9 (zX (ze κ.1) σ) [(0, .ref (zo κ.1 0)), (1, .int v1), (2, .int v2), (3, .int v3), (4, .int v4), (5, .int v5), (6, .int v6)] 103 [.int s0] := by
  unfold F_X8_play_103 at h
  refine z_istore (i := 7) (lv' := [(7, .int s0), (0, .ref (zo κ.1 0)), (1, .int v1), (2, .int v2), (3, .int v3), (4, .int v4), (5, .int v5), (6, .int v6)]) X.1 dX8_play_103 (by decide) rfl ?_
  refine z_aload_n (i := 0) X.1 dX8_play_105 1 rfl rfl ?_
  refine g_X8_planner X.1 tw272 dX8_play_106 ?_
  refine z_iload X.1 dX8_play_109 0 rfl ?_
  refine z_aload_n (i := 0) X.1 dX8_play_111 1 rfl rfl ?_
  refine g_X8_current X.1 tw274 dX8_play_112 ?_
  obtain ⟨r1084, s1085, hc1086, h⟩ := bd_inv h
  refine cl_X8_168 (d1 := 0) (b := zo κ.1 6) (As := []) (rest := [.int s0, .ref (zo κ.1 4)]) X.1 (by decide) (C_X0_stand X.2.1 hc1086) rcX0 rfl rfl (Nat.le_of_ble_eq_true rfl) dX8_play_115 ?_
  refine z_iload X.1 dX8_play_118 6 rfl ?_
  obtain ⟨r1087, s1088, hc1089, h⟩ := bd_inv h
  refine cl_X8_227 (d1 := 1) (As := [.int v5]) (rest := [.int r1084, .int s0, .ref (zo κ.1 4)]) X.1 (by decide) (C_X3_least X.2.1 hc1089) rfl rfl (Nat.le_of_ble_eq_true rfl) dX8_play_120 ?_
  obtain ⟨r1090, s1091, hc1092, h⟩ := bd_inv h
  refine cl_X8_223 (d1 := 26) (b := zo κ.1 4) (As := [.int s0, .int r1084, .int r1087]) (rest := []) X.1 (by decide) (C_X3_advice X.2.1 hc1092) rcX3 rfl rfl (Nat.le_of_ble_eq_true rfl) dX8_play_123 ?_
  refine z_istore (i := 8) (lv' := [(8, .int r1090), (7, .int s0), (0, .ref (zo κ.1 0)), (1, .int v1), (2, .int v2), (3, .int v3), (4, .int v4), (5, .int v5), (6, .int v6)]) X.1 dX8_play_126 (by decide) rfl ?_
  refine z_aload_n (i := 0) X.1 dX8_play_128 2 rfl rfl ?_
  refine g_X8_current X.1 tw274 dX8_play_129 ?_
  refine z_iload X.1 dX8_play_132 0 rfl ?_
  refine z_aload_n (i := 0) X.1 dX8_play_134 2 rfl rfl ?_
  refine g_X8_judge X.1 tw271 dX8_play_135 ?_
  refine z_aload_n (i := 0) X.1 dX8_play_138 2 rfl rfl ?_
  refine g_X8_current X.1 tw274 dX8_play_139 ?_
  obtain ⟨r1093, s1094, hc1095, h⟩ := bd_inv h
  refine cl_X8_168 (d1 := 0) (b := zo κ.1 6) (As := []) (rest := [.ref (zo κ.1 3), .int r1090, .ref (zo κ.1 6)]) X.1 (by decide) (C_X0_stand X.2.1 hc1095) rcX0 rfl rfl (Nat.le_of_ble_eq_true rfl) dX8_play_142 ?_
  refine z_iload X.1 dX8_play_145 0 rfl ?_
  obtain ⟨r1096, s1097, hc1098, h⟩ := bd_inv h
  refine cl_X8_181 (d1 := 1) (b := zo κ.1 3) (As := [.int r1093, .int r1090]) (rest := [.int r1090, .ref (zo κ.1 6)]) X.1 (by decide) (C_X1_behind X.2.1 hc1098) rcX1 rfl rfl (Nat.le_of_ble_eq_true rfl) dX8_play_147 ?_
  obtain ⟨r1099, s1100, hc1101, h⟩ := bd_inv h
  refine cl_X8_184 (d1 := 0) (b := zo κ.1 6) (r := 0) (As := [.int r1090, .int r1096]) (rest := []) X.1 (by decide) (C_X0_advance X.2.1 hc1101) rcX0 rfl rfl (Nat.le_of_ble_eq_true rfl) dX8_play_150 ?_
  refine z_aload_n (i := 0) X.1 dX8_play_153 2 rfl rfl ?_
  refine g_X8_judge X.1 tw271 dX8_play_154 ?_
  refine z_aload_n (i := 0) X.1 dX8_play_157 2 rfl rfl ?_
  refine g_X8_current X.1 tw274 dX8_play_158 ?_
  obtain ⟨r1102, s1103, hc1104, h⟩ := bd_inv h
  refine cl_X8_168 (d1 := 0) (b := zo κ.1 6) (As := []) (rest := [.ref (zo κ.1 3)]) X.1 (by decide) (C_X0_stand X.2.1 hc1104) rcX0 rfl rfl (Nat.le_of_ble_eq_true rfl) dX8_play_161 ?_
  obtain ⟨r1105, s1106, hc1107, h⟩ := bd_inv h
  refine cl_X8_178 (d1 := 1) (b := zo κ.1 3) (As := [.int r1102]) (rest := []) X.1 (by decide) (C_X1_movesFrom X.2.1 hc1107) rcX1 rfl rfl (Nat.le_of_ble_eq_true rfl) dX8_play_164 ?_
  refine z_istore (i := 5) (lv' := [(5, .int r1105), (8, .int r1090), (7, .int s0), (0, .ref (zo κ.1 0)), (1, .int v1), (2, .int v2), (3, .int v3), (4, .int v4), (6, .int v6)]) X.1 dX8_play_167 (by decide) rfl ?_
  refine z_iinc_m (v := (1 : Int32)) (lv' := fun x1108 => [(6, .int x1108), (5, .int r1105), (8, .int r1090), (7, .int s0), (0, .ref (zo κ.1 0)), (1, .int v1), (2, .int v2), (3, .int v3), (4, .int v4)]) X.1 dX8_play_169 8 rfl (by decide) (by decide) (fun _ => rfl) h (fun x1108 h => ?_)
  refine z_goto (tgt := 75) X.1 dX8_play_172 (by decide) ?_
  exact z_sub [4, 5, 6, 7, 8, 1, 0] rfl (hK75 _ _ _ h)
noncomputable def Fb_X8_play_75 (v1 : Int32) (v2 : Int32) (v3 : Int32) (v4 : Int32) (K75 : Int32 → Int32 → S3 → R3) (v5 : Int32) (v6 : Int32) (σ : S3) : R3 :=
  if v3 ≤ v6 then (some ((σ 6 2 0) - v4, σ))
  else (if v5 = (0 : Int32) then (some ((σ 6 2 0) - v4, σ))
  else (if ((σ 6 2 0) &&& (1 : Int32)) = (0 : Int32) then (F_X8_play_103 K75 v1 v2 v3 v4 v5 v6 v1 σ)
  else (F_X8_play_103 K75 v1 v2 v3 v4 v5 v6 v2 σ)))
noncomputable def F_X8_play_75 (v1 : Int32) (v2 : Int32) (v3 : Int32) (v4 : Int32) (n : Nat) : Int32 → Int32 → S3 → R3 := zl2 (Fb_X8_play_75 v1 v2 v3 v4) n
set_option maxHeartbeats 4000000 in
set_option maxRecDepth 100000 in
theorem B_X8_play_75 {κ : zT} {σ' : S3} {r : Int32} (X : zC κ zX RX8 cX8_play 9 (some .int) 27 (some (.int r)) σ') {v1 : Int32} {v2 : Int32} {v3 : Int32} {v4 : Int32} : ∀ (n : Nat) (v5 : Int32) (v6 : Int32) (σ : S3), F_X8_play_75 v1 v2 v3 v4 n v5 v6 σ = some (r, σ') → Z κ 9 (zX (ze κ.1) σ) [(0, .ref (zo κ.1 0)), (1, .int v1), (2, .int v2), (3, .int v3), (4, .int v4), (5, .int v5), (6, .int v6)] 75 [] := by
  intro n
  induction n with
  | zero =>
    intro v5 v6 σ h
    cases (show (none : R3) = some (r, σ') from h)
  | succ n ih =>
    intro v5 v6 σ h
    have hK75 := ih
    have h : Fb_X8_play_75 v1 v2 v3 v4 (F_X8_play_75 v1 v2 v3 v4 n) v5 v6 σ = some (r, σ') := h
    unfold Fb_X8_play_75 at h
    refine z_iload X.1 dX8_play_75 6 rfl ?_
    refine z_iload_n (i := 3) X.1 dX8_play_77 3 rfl rfl ?_
    refine z_icmp_ge (tgt := 175) X.1 dX8_play_78 (by decide) h (fun q1081 h => ?_) (fun q1081 h => ?_)
    · refine z_aload_n (i := 0) X.1 dX8_play_175 0 rfl rfl ?_
      refine g_X8_current X.1 tw274 dX8_play_176 ?_
      refine g_X0_made X.1 tw220 dX8_play_179 ?_
      refine z_iload X.1 dX8_play_182 4 rfl ?_
      refine z_isub X.1 dX8_play_184 ?_
      exact z_iret X dX8_play_185 h
    · refine z_iload X.1 dX8_play_81 5 rfl ?_
      refine z_if_eq (tgt := 175) X.1 dX8_play_83 (by decide) h (fun q1082 h => ?_) (fun q1082 h => ?_)
      · refine z_aload_n (i := 0) X.1 dX8_play_175 0 rfl rfl ?_
        refine g_X8_current X.1 tw274 dX8_play_176 ?_
        refine g_X0_made X.1 tw220 dX8_play_179 ?_
        refine z_iload X.1 dX8_play_182 4 rfl ?_
        refine z_isub X.1 dX8_play_184 ?_
        exact z_iret X dX8_play_185 h
      · refine z_aload_n (i := 0) X.1 dX8_play_86 0 rfl rfl ?_
        refine g_X8_current X.1 tw274 dX8_play_87 ?_
        refine g_X0_made X.1 tw220 dX8_play_90 ?_
        refine z_iconst (v := (1 : Int32)) X.1 dX8_play_93 (by decide) ?_
        refine z_iand X.1 dX8_play_94 ?_
        refine z_if_ne (tgt := 102) X.1 dX8_play_95 (by decide) h (fun q1083 h => ?_) (fun q1083 h => ?_)
        · refine z_iload_n (i := 2) X.1 dX8_play_102 2 rfl rfl ?_
          exact z_sub [0, 1, 2, 3, 4, 5, 6] rfl (B_X8_play_103 X hK75 h)
        · refine z_iload_n (i := 1) X.1 dX8_play_98 1 rfl rfl ?_
          refine z_goto (tgt := 103) X.1 dX8_play_99 (by decide) ?_
          exact z_sub [0, 1, 2, 3, 4, 5, 6] rfl (B_X8_play_103 X hK75 h)
noncomputable def F_X8_play (v1 : Int32) (v2 : Int32) (v3 : Int32) (σ : S3) : R3 :=
  bd (F_X8_isCode v1 σ) (fun r1054 s1055 => if r1054 = (0 : Int32) then (bd (F_X8_fail (1 : Int32) s1055) (fun r1058 s1059 => some (r1058, s1059)))
  else (bd (F_X8_isCode v2 s1055) (fun r1061 s1062 => if r1061 = (0 : Int32) then (bd (F_X8_fail (1 : Int32) s1062) (fun r1065 s1066 => some (r1065, s1066)))
  else (if v3 < (1 : Int32) then (bd (F_X8_fail (1 : Int32) s1062) (fun r1069 s1070 => some (r1069, s1070)))
  else (if v3 ≤ (20 : Int32) then (if (s1062 6 0 0) = (0 : Int32) then (bd (F_X8_fail (3 : Int32) s1062) (fun r1109 s1110 => some (r1109, s1110)))
  else (nm (s1062 6 2 0) (fun x1074 => bd (F_X0_stand s1062) (fun r1075 s1076 => bd (F_X1_movesFrom r1075 s1076) (fun r1078 s1079 => F_X8_play_75 v1 v2 v3 x1074 zF r1078 (0 : Int32) s1079)))))
  else (bd (F_X8_fail (1 : Int32) s1062) (fun r1112 s1113 => some (r1112, s1113))))))))
set_option maxHeartbeats 4000000 in
set_option maxRecDepth 100000 in
theorem B_X8_play_0 {κ : zT} {σ' : S3} {r : Int32} (X : zC κ zX RX8 cX8_play 9 (some .int) 27 (some (.int r)) σ') {v1 : Int32} {v2 : Int32} {v3 : Int32} {σ : S3} (h : F_X8_play v1 v2 v3 σ = some (r, σ')) : Z κ 9 (zX (ze κ.1) σ) [(0, .ref (zo κ.1 0)), (1, .int v1), (2, .int v2), (3, .int v3)] 0 [] := by
  unfold F_X8_play at h
  refine z_iload_n (i := 1) X.1 dX8_play_0 1 rfl rfl ?_
  obtain ⟨r1054, s1055, hc1056, h⟩ := bd_inv h
  refine cl_X8_220 (d1 := 0) (As := [.int v1]) (rest := []) X.1 (by decide) (C_X8_isCode X.2.1 hc1056) rfl rfl (Nat.le_of_ble_eq_true rfl) dX8_play_1 ?_
  refine z_if_eq (tgt := 25) X.1 dX8_play_4 (by decide) h (fun q1057 h => ?_) (fun q1057 h => ?_)
  · refine z_aload_n (i := 0) X.1 dX8_play_25 0 rfl rfl ?_
    refine z_iconst (v := (1 : Int32)) X.1 dX8_play_26 (by decide) ?_
    obtain ⟨r1058, s1059, hc1060, h⟩ := bd_inv h
    refine cl_X8_69 (d1 := 0) (b := zo κ.1 0) (As := [.int (1 : Int32)]) (rest := []) X.1 (by decide) (C_X8_fail X.2.1 hc1060) rcX8 rfl rfl (Nat.le_of_ble_eq_true rfl) dX8_play_27 ?_
    exact z_iret X dX8_play_30 h
  · refine z_iload_n (i := 2) X.1 dX8_play_7 2 rfl rfl ?_
    obtain ⟨r1061, s1062, hc1063, h⟩ := bd_inv h
    refine cl_X8_220 (d1 := 0) (As := [.int v2]) (rest := []) X.1 (by decide) (C_X8_isCode X.2.1 hc1063) rfl rfl (Nat.le_of_ble_eq_true rfl) dX8_play_8 ?_
    refine z_if_eq (tgt := 25) X.1 dX8_play_11 (by decide) h (fun q1064 h => ?_) (fun q1064 h => ?_)
    · refine z_aload_n (i := 0) X.1 dX8_play_25 0 rfl rfl ?_
      refine z_iconst (v := (1 : Int32)) X.1 dX8_play_26 (by decide) ?_
      obtain ⟨r1065, s1066, hc1067, h⟩ := bd_inv h
      refine cl_X8_69 (d1 := 0) (b := zo κ.1 0) (As := [.int (1 : Int32)]) (rest := []) X.1 (by decide) (C_X8_fail X.2.1 hc1067) rcX8 rfl rfl (Nat.le_of_ble_eq_true rfl) dX8_play_27 ?_
      exact z_iret X dX8_play_30 h
    · refine z_iload_n (i := 3) X.1 dX8_play_14 3 rfl rfl ?_
      refine z_iconst (v := (1 : Int32)) X.1 dX8_play_15 (by decide) ?_
      refine z_icmp_lt (tgt := 25) X.1 dX8_play_16 (by decide) h (fun q1068 h => ?_) (fun q1068 h => ?_)
      · refine z_aload_n (i := 0) X.1 dX8_play_25 0 rfl rfl ?_
        refine z_iconst (v := (1 : Int32)) X.1 dX8_play_26 (by decide) ?_
        obtain ⟨r1069, s1070, hc1071, h⟩ := bd_inv h
        refine cl_X8_69 (d1 := 0) (b := zo κ.1 0) (As := [.int (1 : Int32)]) (rest := []) X.1 (by decide) (C_X8_fail X.2.1 hc1071) rcX8 rfl rfl (Nat.le_of_ble_eq_true rfl) dX8_play_27 ?_
        exact z_iret X dX8_play_30 h
      · refine z_iload_n (i := 3) X.1 dX8_play_19 3 rfl rfl ?_
        refine z_bipush (v := (20 : Int32)) X.1 dX8_play_20 (by decide) ?_
        refine z_icmp_le (tgt := 31) X.1 dX8_play_22 (by decide) h (fun q1072 h => ?_) (fun q1072 h => ?_)
        · refine z_aload_n (i := 0) X.1 dX8_play_31 0 rfl rfl ?_
          refine g_X8_current X.1 tw274 dX8_play_32 ?_
          refine g_X0_on X.1 tw216 dX8_play_35 ?_
          refine z_if_ne (tgt := 47) X.1 dX8_play_38 (by decide) h (fun q1073 h => ?_) (fun q1073 h => ?_)
          · refine z_aload_n (i := 0) X.1 dX8_play_47 0 rfl rfl ?_
            refine g_X8_current X.1 tw274 dX8_play_48 ?_
            refine g_X0_made X.1 tw220 dX8_play_51 ?_
            refine z_istore_m (i := 4) (lv' := fun x1074 => [(4, .int x1074), (0, .ref (zo κ.1 0)), (1, .int v1), (2, .int v2), (3, .int v3)]) X.1 dX8_play_54 (by decide) (fun _ => rfl) h (fun x1074 h => ?_)
            refine z_aload_n (i := 0) X.1 dX8_play_56 1 rfl rfl ?_
            refine g_X8_judge X.1 tw271 dX8_play_57 ?_
            refine z_aload_n (i := 0) X.1 dX8_play_60 1 rfl rfl ?_
            refine g_X8_current X.1 tw274 dX8_play_61 ?_
            obtain ⟨r1075, s1076, hc1077, h⟩ := bd_inv h
            refine cl_X8_168 (d1 := 0) (b := zo κ.1 6) (As := []) (rest := [.ref (zo κ.1 3)]) X.1 (by decide) (C_X0_stand X.2.1 hc1077) rcX0 rfl rfl (Nat.le_of_ble_eq_true rfl) dX8_play_64 ?_
            obtain ⟨r1078, s1079, hc1080, h⟩ := bd_inv h
            refine cl_X8_178 (d1 := 1) (b := zo κ.1 3) (As := [.int r1075]) (rest := []) X.1 (by decide) (C_X1_movesFrom X.2.1 hc1080) rcX1 rfl rfl (Nat.le_of_ble_eq_true rfl) dX8_play_67 ?_
            refine z_istore (i := 5) (lv' := [(5, .int r1078), (4, .int x1074), (0, .ref (zo κ.1 0)), (1, .int v1), (2, .int v2), (3, .int v3)]) X.1 dX8_play_70 (by decide) rfl ?_
            refine z_iconst (v := (0 : Int32)) X.1 dX8_play_72 (by decide) ?_
            refine z_istore (i := 6) (lv' := [(6, .int (0 : Int32)), (5, .int r1078), (4, .int x1074), (0, .ref (zo κ.1 0)), (1, .int v1), (2, .int v2), (3, .int v3)]) X.1 dX8_play_73 (by decide) rfl ?_
            exact z_sub [3, 4, 5, 6, 2, 1, 0] rfl (B_X8_play_75 X zF _ _ _ h)
          · refine z_aload_n (i := 0) X.1 dX8_play_41 0 rfl rfl ?_
            refine z_iconst (v := (3 : Int32)) X.1 dX8_play_42 (by decide) ?_
            obtain ⟨r1109, s1110, hc1111, h⟩ := bd_inv h
            refine cl_X8_69 (d1 := 0) (b := zo κ.1 0) (As := [.int (3 : Int32)]) (rest := []) X.1 (by decide) (C_X8_fail X.2.1 hc1111) rcX8 rfl rfl (Nat.le_of_ble_eq_true rfl) dX8_play_43 ?_
            exact z_iret X dX8_play_46 h
        · refine z_aload_n (i := 0) X.1 dX8_play_25 0 rfl rfl ?_
          refine z_iconst (v := (1 : Int32)) X.1 dX8_play_26 (by decide) ?_
          obtain ⟨r1112, s1113, hc1114, h⟩ := bd_inv h
          refine cl_X8_69 (d1 := 0) (b := zo κ.1 0) (As := [.int (1 : Int32)]) (rest := []) X.1 (by decide) (C_X8_fail X.2.1 hc1114) rcX8 rfl rfl (Nat.le_of_ble_eq_true rfl) dX8_play_27 ?_
          exact z_iret X dX8_play_30 h
theorem C_X8_play {ζ : zW} (hZ : zDis ζ zX) {v1 : Int32} {v2 : Int32} {v3 : Int32} {σ σ' : S3} {r : Int32} (h : F_X8_play v1 v2 v3 σ = some (r, σ')) : zMet ζ zX 27 yX8_play cX8_play 9 (some .int) [.ref (zo ζ 0), .int v1, .int v2, .int v3] σ (some (.int r)) σ' :=
  zMet_of pn_X8 hZ (Nat.le_of_ble_eq_true rfl) (fun κ e X => by subst e; exact B_X8_play_0 X h)
noncomputable def F_X8_fight_159 (v3 : Int32) (v4 : Int32) (v5 : Int32) (v6 : Int32) (σ : S3) : R3 :=
  nm (up σ 4 2 0 v4) (fun s1144 => if v3 = (0 : Int32) then (bd (F_X1_winner v5 (v6 &&& (1 : Int32)) s1144) (fun r1146 s1147 => some (r1146, s1147)))
  else (some (v6 - (s1144 6 2 0), s1144)))
set_option maxHeartbeats 4000000 in
set_option maxRecDepth 100000 in
theorem B_X8_fight_159 {κ : zT} {σ' : S3} {r : Int32} (X : zC κ zX RX8 cX8_fight 10 (some .int) 27 (some (.int r)) σ') {v3 : Int32} {v4 : Int32} {v5 : Int32} {v6 : Int32} {σ : S3} (h : F_X8_fight_159 v3 v4 v5 v6 σ = some (r, σ')) : Z κ 10 (zX (ze κ.1) σ) [(0, .ref (zo κ.1 0)), (3, .int v3), (4, .int v4), (5, .int v5), (6, .int v6)] 159 [] := by
  unfold F_X8_fight_159 at h
  refine z_aload_n (i := 0) X.1 dX8_fight_159 0 rfl rfl ?_
  refine g_X8_planner X.1 tw272 dX8_fight_160 ?_
  refine z_iload X.1 dX8_fight_163 2 rfl ?_
  refine p_X3_z X.1 X.2.1 tw169 dX8_fight_165 h (fun s1144 h => ?_)
  refine z_iload_n (i := 3) X.1 dX8_fight_168 1 rfl rfl ?_
  refine z_if_ne (tgt := 188) X.1 dX8_fight_169 (by decide) h (fun q1145 h => ?_) (fun q1145 h => ?_)
  · refine z_iload X.1 dX8_fight_188 4 rfl ?_
    refine z_aload_n (i := 0) X.1 dX8_fight_190 0 rfl rfl ?_
    refine g_X8_current X.1 tw274 dX8_fight_191 ?_
    refine g_X0_made X.1 tw220 dX8_fight_194 ?_
    refine z_isub X.1 dX8_fight_197 ?_
    exact z_iret X dX8_fight_198 h
  · refine z_aload_n (i := 0) X.1 dX8_fight_172 0 rfl rfl ?_
    refine g_X8_judge X.1 tw271 dX8_fight_173 ?_
    refine z_iload X.1 dX8_fight_176 3 rfl ?_
    refine z_iload X.1 dX8_fight_178 4 rfl ?_
    refine z_iconst (v := (1 : Int32)) X.1 dX8_fight_180 (by decide) ?_
    refine z_iand X.1 dX8_fight_181 ?_
    obtain ⟨r1146, s1147, hc1148, h⟩ := bd_inv h
    refine cl_X8_202 (d1 := 24) (b := zo κ.1 3) (As := [.int v5, .int (v6 &&& (1 : Int32))]) (rest := []) X.1 (by decide) (C_X1_winner X.2.1 hc1148) rcX1 rfl rfl (Nat.le_of_ble_eq_true rfl) dX8_fight_182 ?_
    refine z_goto (tgt := 198) X.1 dX8_fight_185 (by decide) ?_
    exact z_iret X dX8_fight_198 h
noncomputable def F_X8_fight_110 (K86 : Int32 → Int32 → Int32 → Int32 → S3 → R3) (v1 : Int32) (v2 : Int32) (v3 : Int32) (v4 : Int32) (v5 : Int32) (v6 : Int32) (v7 : Int32) (v8 : Int32) (s0 : Int32) (σ : S3) : R3 :=
  bd (F_X3_least v7 σ) (fun r1151 s1152 => bd (F_X3_advice s0 v5 r1151 s1152) (fun r1154 s1155 => bd (F_X1_behind v5 r1154 s1155) (fun r1157 s1158 => nm (v6 + (1 : Int32)) (fun x1160 => bd (F_X1_movesFrom r1157 s1158) (fun r1161 s1162 => nm (v8 + (1 : Int32)) (fun x1164 => K86 r1157 x1160 r1161 x1164 s1162))))))
set_option maxHeartbeats 4000000 in
set_option maxRecDepth 100000 in
theorem B_X8_fight_110 {κ : zT} {σ' : S3} {r : Int32} (X : zC κ zX RX8 cX8_fight 10 (some .int) 27 (some (.int r)) σ') {K86 : Int32 → Int32 → Int32 → Int32 → S3 → R3} {v1 : Int32} {v2 : Int32} {v3 : Int32} {v4 : Int32} {v5 : Int32} {v6 : Int32} {v7 : Int32} {v8 : Int32} {s0 : Int32} {σ : S3} (hK86 : ∀ (w5 : Int32) (w6 : Int32) (w7 : Int32) (w8 : Int32) (s1 : S3), K86 w5 w6 w7 w8 s1 = some (r, σ') → Z κ 10 (zX (ze κ.1) s1) [(0, .ref (zo κ.1 0)), (1, .int v1), (2, .int v2), (3, .int v3), (4, .int v4), (5, .int w5), (6, .int w6), (7, .int w7), (8, .int w8)] 86 []) (h : F_X8_fight_110 K86 v1 v2 v3 v4 v5 v6 v7 v8 s0 σ = some (r, σ')) : Z κ 10 (zX (ze κ.1) σ) [(0, .ref (zo κ.1 0)), (1, .int v1), (2, .int v2), (3, .int v3), (4, .int v4), (5, .int v5), (6, .int v6), (7, .int v7), (8, .int v8)] 110 [.int s0] := by
  unfold F_X8_fight_110 at h
  refine z_istore (i := 9) (lv' := [(9, .int s0), (0, .ref (zo κ.1 0)), (1, .int v1), (2, .int v2), (3, .int v3), (4, .int v4), (5, .int v5), (6, .int v6), (7, .int v7), (8, .int v8)]) X.1 dX8_fight_110 (by decide) rfl ?_
  refine z_aload_n (i := 0) X.1 dX8_fight_112 1 rfl rfl ?_
  refine g_X8_judge X.1 tw271 dX8_fight_113 ?_
  refine z_iload X.1 dX8_fight_116 6 rfl ?_
  refine z_aload_n (i := 0) X.1 dX8_fight_118 1 rfl rfl ?_
  refine g_X8_planner X.1 tw272 dX8_fight_119 ?_
  refine z_iload X.1 dX8_fight_122 0 rfl ?_
  refine z_iload X.1 dX8_fight_124 6 rfl ?_
  refine z_iload X.1 dX8_fight_126 8 rfl ?_
  obtain ⟨r1151, s1152, hc1153, h⟩ := bd_inv h
  refine cl_X8_227 (d1 := 1) (As := [.int v7]) (rest := [.int v5, .int s0, .ref (zo κ.1 4), .int v5, .ref (zo κ.1 3)]) X.1 (by decide) (C_X3_least X.2.1 hc1153) rfl rfl (Nat.le_of_ble_eq_true rfl) dX8_fight_128 ?_
  obtain ⟨r1154, s1155, hc1156, h⟩ := bd_inv h
  refine cl_X8_223 (d1 := 26) (b := zo κ.1 4) (As := [.int s0, .int v5, .int r1151]) (rest := [.int v5, .ref (zo κ.1 3)]) X.1 (by decide) (C_X3_advice X.2.1 hc1156) rcX3 rfl rfl (Nat.le_of_ble_eq_true rfl) dX8_fight_131 ?_
  obtain ⟨r1157, s1158, hc1159, h⟩ := bd_inv h
  refine cl_X8_181 (d1 := 1) (b := zo κ.1 3) (As := [.int v5, .int r1154]) (rest := []) X.1 (by decide) (C_X1_behind X.2.1 hc1159) rcX1 rfl rfl (Nat.le_of_ble_eq_true rfl) dX8_fight_134 ?_
  refine z_istore (i := 5) (lv' := [(5, .int r1157), (9, .int s0), (0, .ref (zo κ.1 0)), (1, .int v1), (2, .int v2), (3, .int v3), (4, .int v4), (6, .int v6), (7, .int v7), (8, .int v8)]) X.1 dX8_fight_137 (by decide) rfl ?_
  refine z_iinc_m (v := (1 : Int32)) (lv' := fun x1160 => [(6, .int x1160), (5, .int r1157), (9, .int s0), (0, .ref (zo κ.1 0)), (1, .int v1), (2, .int v2), (3, .int v3), (4, .int v4), (7, .int v7), (8, .int v8)]) X.1 dX8_fight_139 7 rfl (by decide) (by decide) (fun _ => rfl) h (fun x1160 h => ?_)
  refine z_aload_n (i := 0) X.1 dX8_fight_142 3 rfl rfl ?_
  refine g_X8_judge X.1 tw271 dX8_fight_143 ?_
  refine z_iload X.1 dX8_fight_146 1 rfl ?_
  obtain ⟨r1161, s1162, hc1163, h⟩ := bd_inv h
  refine cl_X8_178 (d1 := 1) (b := zo κ.1 3) (As := [.int r1157]) (rest := []) X.1 (by decide) (C_X1_movesFrom X.2.1 hc1163) rcX1 rfl rfl (Nat.le_of_ble_eq_true rfl) dX8_fight_148 ?_
  refine z_istore (i := 7) (lv' := [(7, .int r1161), (6, .int x1160), (5, .int r1157), (9, .int s0), (0, .ref (zo κ.1 0)), (1, .int v1), (2, .int v2), (3, .int v3), (4, .int v4), (8, .int v8)]) X.1 dX8_fight_151 (by decide) rfl ?_
  refine z_iinc_m (v := (1 : Int32)) (lv' := fun x1164 => [(8, .int x1164), (7, .int r1161), (6, .int x1160), (5, .int r1157), (9, .int s0), (0, .ref (zo κ.1 0)), (1, .int v1), (2, .int v2), (3, .int v3), (4, .int v4)]) X.1 dX8_fight_153 9 rfl (by decide) (by decide) (fun _ => rfl) h (fun x1164 h => ?_)
  refine z_goto (tgt := 86) X.1 dX8_fight_156 (by decide) ?_
  exact z_sub [5, 6, 7, 8, 9, 3, 2, 1, 0] rfl (hK86 _ _ _ _ _ h)
noncomputable def Fb_X8_fight_86 (v1 : Int32) (v2 : Int32) (v3 : Int32) (v4 : Int32) (K86 : Int32 → Int32 → Int32 → Int32 → S3 → R3) (v5 : Int32) (v6 : Int32) (v7 : Int32) (v8 : Int32) (σ : S3) : R3 :=
  if (12 : Int32) ≤ v8 then (F_X8_fight_159 v3 v4 v5 v6 σ)
  else (if v7 = (0 : Int32) then (F_X8_fight_159 v3 v4 v5 v6 σ)
  else (if (v6 &&& (1 : Int32)) = (0 : Int32) then (F_X8_fight_110 K86 v1 v2 v3 v4 v5 v6 v7 v8 v1 σ)
  else (F_X8_fight_110 K86 v1 v2 v3 v4 v5 v6 v7 v8 v2 σ)))
noncomputable def F_X8_fight_86 (v1 : Int32) (v2 : Int32) (v3 : Int32) (v4 : Int32) (n : Nat) : Int32 → Int32 → Int32 → Int32 → S3 → R3 := zl4 (Fb_X8_fight_86 v1 v2 v3 v4) n
set_option maxHeartbeats 4000000 in
set_option maxRecDepth 100000 in
theorem B_X8_fight_86 {κ : zT} {σ' : S3} {r : Int32} (X : zC κ zX RX8 cX8_fight 10 (some .int) 27 (some (.int r)) σ') {v1 : Int32} {v2 : Int32} {v3 : Int32} {v4 : Int32} : ∀ (n : Nat) (v5 : Int32) (v6 : Int32) (v7 : Int32) (v8 : Int32) (σ : S3), F_X8_fight_86 v1 v2 v3 v4 n v5 v6 v7 v8 σ = some (r, σ') → Z κ 10 (zX (ze κ.1) σ) [(0, .ref (zo κ.1 0)), (1, .int v1), (2, .int v2), (3, .int v3), (4, .int v4), (5, .int v5), (6, .int v6), (7, .int v7), (8, .int v8)] 86 [] := by
  intro n
  induction n with
  | zero =>
    intro v5 v6 v7 v8 σ h
    cases (show (none : R3) = some (r, σ') from h)
  | succ n ih =>
    intro v5 v6 v7 v8 σ h
    have hK86 := ih
    have h : Fb_X8_fight_86 v1 v2 v3 v4 (F_X8_fight_86 v1 v2 v3 v4 n) v5 v6 v7 v8 σ = some (r, σ') := h
    unfold Fb_X8_fight_86 at h
    refine z_iload X.1 dX8_fight_86 8 rfl ?_
    refine z_bipush (v := (12 : Int32)) X.1 dX8_fight_88 (by decide) ?_
    refine z_icmp_ge (tgt := 159) X.1 dX8_fight_90 (by decide) h (fun q1143 h => ?_) (fun q1143 h => ?_)
    · exact z_sub [0, 3, 4, 5, 6] rfl (B_X8_fight_159 X h)
    · refine z_iload X.1 dX8_fight_93 7 rfl ?_
      refine z_if_eq (tgt := 159) X.1 dX8_fight_95 (by decide) h (fun q1149 h => ?_) (fun q1149 h => ?_)
      · exact z_sub [0, 3, 4, 5, 6] rfl (B_X8_fight_159 X h)
      · refine z_iload X.1 dX8_fight_98 6 rfl ?_
        refine z_iconst (v := (1 : Int32)) X.1 dX8_fight_100 (by decide) ?_
        refine z_iand X.1 dX8_fight_101 ?_
        refine z_if_ne (tgt := 109) X.1 dX8_fight_102 (by decide) h (fun q1150 h => ?_) (fun q1150 h => ?_)
        · refine z_iload_n (i := 2) X.1 dX8_fight_109 2 rfl rfl ?_
          exact z_sub [0, 1, 2, 3, 4, 5, 6, 7, 8] rfl (B_X8_fight_110 X hK86 h)
        · refine z_iload_n (i := 1) X.1 dX8_fight_105 1 rfl rfl ?_
          refine z_goto (tgt := 110) X.1 dX8_fight_106 (by decide) ?_
          exact z_sub [0, 1, 2, 3, 4, 5, 6, 7, 8] rfl (B_X8_fight_110 X hK86 h)
noncomputable def F_X8_fight (v1 : Int32) (v2 : Int32) (v3 : Int32) (σ : S3) : R3 :=
  bd (F_X8_isCode v1 σ) (fun r1115 s1116 => if r1115 = (0 : Int32) then (bd (F_X8_fail (1 : Int32) s1116) (fun r1119 s1120 => some (r1119, s1120)))
  else (bd (F_X8_isCode v2 s1116) (fun r1122 s1123 => if r1122 = (0 : Int32) then (bd (F_X8_fail (1 : Int32) s1123) (fun r1126 s1127 => some (r1126, s1127)))
  else (if v3 < (0 : Int32) then (bd (F_X8_fail (1 : Int32) s1123) (fun r1130 s1131 => some (r1130, s1131)))
  else (if v3 ≤ (1 : Int32) then (if (s1123 6 0 0) = (0 : Int32) then (bd (F_X8_fail (3 : Int32) s1123) (fun r1165 s1166 => some (r1165, s1166)))
  else (nm (s1123 4 2 0) (fun x1135 => bd (F_X0_stand s1123) (fun r1136 s1137 => nm (s1137 6 2 0) (fun x1139 => bd (F_X1_movesFrom r1136 s1137) (fun r1140 s1141 => F_X8_fight_86 v1 v2 v3 x1135 zF r1136 x1139 r1140 (0 : Int32) s1141))))))
  else (bd (F_X8_fail (1 : Int32) s1123) (fun r1168 s1169 => some (r1168, s1169))))))))
set_option maxHeartbeats 4000000 in
set_option maxRecDepth 100000 in
theorem B_X8_fight_0 {κ : zT} {σ' : S3} {r : Int32} (X : zC κ zX RX8 cX8_fight 10 (some .int) 27 (some (.int r)) σ') {v1 : Int32} {v2 : Int32} {v3 : Int32} {σ : S3} (h : F_X8_fight v1 v2 v3 σ = some (r, σ')) : Z κ 10 (zX (ze κ.1) σ) [(0, .ref (zo κ.1 0)), (1, .int v1), (2, .int v2), (3, .int v3)] 0 [] := by
  unfold F_X8_fight at h
  refine z_iload_n (i := 1) X.1 dX8_fight_0 1 rfl rfl ?_
  obtain ⟨r1115, s1116, hc1117, h⟩ := bd_inv h
  refine cl_X8_220 (d1 := 0) (As := [.int v1]) (rest := []) X.1 (by decide) (C_X8_isCode X.2.1 hc1117) rfl rfl (Nat.le_of_ble_eq_true rfl) dX8_fight_1 ?_
  refine z_if_eq (tgt := 23) X.1 dX8_fight_4 (by decide) h (fun q1118 h => ?_) (fun q1118 h => ?_)
  · refine z_aload_n (i := 0) X.1 dX8_fight_23 0 rfl rfl ?_
    refine z_iconst (v := (1 : Int32)) X.1 dX8_fight_24 (by decide) ?_
    obtain ⟨r1119, s1120, hc1121, h⟩ := bd_inv h
    refine cl_X8_69 (d1 := 0) (b := zo κ.1 0) (As := [.int (1 : Int32)]) (rest := []) X.1 (by decide) (C_X8_fail X.2.1 hc1121) rcX8 rfl rfl (Nat.le_of_ble_eq_true rfl) dX8_fight_25 ?_
    exact z_iret X dX8_fight_28 h
  · refine z_iload_n (i := 2) X.1 dX8_fight_7 2 rfl rfl ?_
    obtain ⟨r1122, s1123, hc1124, h⟩ := bd_inv h
    refine cl_X8_220 (d1 := 0) (As := [.int v2]) (rest := []) X.1 (by decide) (C_X8_isCode X.2.1 hc1124) rfl rfl (Nat.le_of_ble_eq_true rfl) dX8_fight_8 ?_
    refine z_if_eq (tgt := 23) X.1 dX8_fight_11 (by decide) h (fun q1125 h => ?_) (fun q1125 h => ?_)
    · refine z_aload_n (i := 0) X.1 dX8_fight_23 0 rfl rfl ?_
      refine z_iconst (v := (1 : Int32)) X.1 dX8_fight_24 (by decide) ?_
      obtain ⟨r1126, s1127, hc1128, h⟩ := bd_inv h
      refine cl_X8_69 (d1 := 0) (b := zo κ.1 0) (As := [.int (1 : Int32)]) (rest := []) X.1 (by decide) (C_X8_fail X.2.1 hc1128) rcX8 rfl rfl (Nat.le_of_ble_eq_true rfl) dX8_fight_25 ?_
      exact z_iret X dX8_fight_28 h
    · refine z_iload_n (i := 3) X.1 dX8_fight_14 3 rfl rfl ?_
      refine z_if_lt (tgt := 23) X.1 dX8_fight_15 (by decide) h (fun q1129 h => ?_) (fun q1129 h => ?_)
      · refine z_aload_n (i := 0) X.1 dX8_fight_23 0 rfl rfl ?_
        refine z_iconst (v := (1 : Int32)) X.1 dX8_fight_24 (by decide) ?_
        obtain ⟨r1130, s1131, hc1132, h⟩ := bd_inv h
        refine cl_X8_69 (d1 := 0) (b := zo κ.1 0) (As := [.int (1 : Int32)]) (rest := []) X.1 (by decide) (C_X8_fail X.2.1 hc1132) rcX8 rfl rfl (Nat.le_of_ble_eq_true rfl) dX8_fight_25 ?_
        exact z_iret X dX8_fight_28 h
      · refine z_iload_n (i := 3) X.1 dX8_fight_18 3 rfl rfl ?_
        refine z_iconst (v := (1 : Int32)) X.1 dX8_fight_19 (by decide) ?_
        refine z_icmp_le (tgt := 29) X.1 dX8_fight_20 (by decide) h (fun q1133 h => ?_) (fun q1133 h => ?_)
        · refine z_aload_n (i := 0) X.1 dX8_fight_29 0 rfl rfl ?_
          refine g_X8_current X.1 tw274 dX8_fight_30 ?_
          refine g_X0_on X.1 tw216 dX8_fight_33 ?_
          refine z_if_ne (tgt := 45) X.1 dX8_fight_36 (by decide) h (fun q1134 h => ?_) (fun q1134 h => ?_)
          · refine z_aload_n (i := 0) X.1 dX8_fight_45 0 rfl rfl ?_
            refine g_X8_planner X.1 tw272 dX8_fight_46 ?_
            refine g_X3_z X.1 tw169 dX8_fight_49 ?_
            refine z_istore_m (i := 4) (lv' := fun x1135 => [(4, .int x1135), (0, .ref (zo κ.1 0)), (1, .int v1), (2, .int v2), (3, .int v3)]) X.1 dX8_fight_52 (by decide) (fun _ => rfl) h (fun x1135 h => ?_)
            refine z_aload_n (i := 0) X.1 dX8_fight_54 1 rfl rfl ?_
            refine g_X8_current X.1 tw274 dX8_fight_55 ?_
            obtain ⟨r1136, s1137, hc1138, h⟩ := bd_inv h
            refine cl_X8_168 (d1 := 0) (b := zo κ.1 6) (As := []) (rest := []) X.1 (by decide) (C_X0_stand X.2.1 hc1138) rcX0 rfl rfl (Nat.le_of_ble_eq_true rfl) dX8_fight_58 ?_
            refine z_istore (i := 5) (lv' := [(5, .int r1136), (4, .int x1135), (0, .ref (zo κ.1 0)), (1, .int v1), (2, .int v2), (3, .int v3)]) X.1 dX8_fight_61 (by decide) rfl ?_
            refine z_aload_n (i := 0) X.1 dX8_fight_63 2 rfl rfl ?_
            refine g_X8_current X.1 tw274 dX8_fight_64 ?_
            refine g_X0_made X.1 tw220 dX8_fight_67 ?_
            refine z_istore_m (i := 6) (lv' := fun x1139 => [(6, .int x1139), (5, .int r1136), (4, .int x1135), (0, .ref (zo κ.1 0)), (1, .int v1), (2, .int v2), (3, .int v3)]) X.1 dX8_fight_70 (by decide) (fun _ => rfl) h (fun x1139 h => ?_)
            refine z_aload_n (i := 0) X.1 dX8_fight_72 3 rfl rfl ?_
            refine g_X8_judge X.1 tw271 dX8_fight_73 ?_
            refine z_iload X.1 dX8_fight_76 1 rfl ?_
            obtain ⟨r1140, s1141, hc1142, h⟩ := bd_inv h
            refine cl_X8_178 (d1 := 1) (b := zo κ.1 3) (As := [.int r1136]) (rest := []) X.1 (by decide) (C_X1_movesFrom X.2.1 hc1142) rcX1 rfl rfl (Nat.le_of_ble_eq_true rfl) dX8_fight_78 ?_
            refine z_istore (i := 7) (lv' := [(7, .int r1140), (6, .int x1139), (5, .int r1136), (4, .int x1135), (0, .ref (zo κ.1 0)), (1, .int v1), (2, .int v2), (3, .int v3)]) X.1 dX8_fight_81 (by decide) rfl ?_
            refine z_iconst (v := (0 : Int32)) X.1 dX8_fight_83 (by decide) ?_
            refine z_istore (i := 8) (lv' := [(8, .int (0 : Int32)), (7, .int r1140), (6, .int x1139), (5, .int r1136), (4, .int x1135), (0, .ref (zo κ.1 0)), (1, .int v1), (2, .int v2), (3, .int v3)]) X.1 dX8_fight_84 (by decide) rfl ?_
            exact z_sub [5, 6, 7, 8, 4, 3, 2, 1, 0] rfl (B_X8_fight_86 X zF _ _ _ _ _ h)
          · refine z_aload_n (i := 0) X.1 dX8_fight_39 0 rfl rfl ?_
            refine z_iconst (v := (3 : Int32)) X.1 dX8_fight_40 (by decide) ?_
            obtain ⟨r1165, s1166, hc1167, h⟩ := bd_inv h
            refine cl_X8_69 (d1 := 0) (b := zo κ.1 0) (As := [.int (3 : Int32)]) (rest := []) X.1 (by decide) (C_X8_fail X.2.1 hc1167) rcX8 rfl rfl (Nat.le_of_ble_eq_true rfl) dX8_fight_41 ?_
            exact z_iret X dX8_fight_44 h
        · refine z_aload_n (i := 0) X.1 dX8_fight_23 0 rfl rfl ?_
          refine z_iconst (v := (1 : Int32)) X.1 dX8_fight_24 (by decide) ?_
          obtain ⟨r1168, s1169, hc1170, h⟩ := bd_inv h
          refine cl_X8_69 (d1 := 0) (b := zo κ.1 0) (As := [.int (1 : Int32)]) (rest := []) X.1 (by decide) (C_X8_fail X.2.1 hc1170) rcX8 rfl rfl (Nat.le_of_ble_eq_true rfl) dX8_fight_25 ?_
          exact z_iret X dX8_fight_28 h
theorem C_X8_fight {ζ : zW} (hZ : zDis ζ zX) {v1 : Int32} {v2 : Int32} {v3 : Int32} {σ σ' : S3} {r : Int32} (h : F_X8_fight v1 v2 v3 σ = some (r, σ')) : zMet ζ zX 27 yX8_fight cX8_fight 10 (some .int) [.ref (zo ζ 0), .int v1, .int v2, .int v3] σ (some (.int r)) σ' :=
  zMet_of pn_X8 hZ (Nat.le_of_ble_eq_true rfl) (fun κ e X => by subst e; exact B_X8_fight_0 X h)
noncomputable def F_X8_tree (v1 : Int32) (σ : S3) : R3 :=
  if v1 < (0 : Int32) then (bd (F_X8_fail (1 : Int32) σ) (fun r1172 s1173 => some (r1172, s1173)))
  else (if v1 ≤ (2 : Int32) then (if (σ 6 0 0) = (0 : Int32) then (bd (F_X8_fail (3 : Int32) σ) (fun r1189 s1190 => some (r1189, s1190)))
  else (bd (F_X0_stand σ) (fun r1177 s1178 => bd (F_X7_build r1177 s1178) (fun r1180 s1181 => if r1180 = (0 : Int32) then (bd (F_X8_fail (4 : Int32) s1181) (fun r1186 s1187 => some (r1186, s1187)))
  else (if v1 = (0 : Int32) then (some (s1181 5 3 0, s1181))
  else (if v1 = (1 : Int32) then (some (s1181 5 4 0, s1181))
  else (some (s1181 5 5 0, s1181))))))))
  else (bd (F_X8_fail (1 : Int32) σ) (fun r1192 s1193 => some (r1192, s1193))))
set_option maxHeartbeats 4000000 in
set_option maxRecDepth 100000 in
theorem B_X8_tree_0 {κ : zT} {σ' : S3} {r : Int32} (X : zC κ zX RX8 cX8_tree 2 (some .int) 46 (some (.int r)) σ') {v1 : Int32} {σ : S3} (h : F_X8_tree v1 σ = some (r, σ')) : Z κ 2 (zX (ze κ.1) σ) [(0, .ref (zo κ.1 0)), (1, .int v1)] 0 [] := by
  unfold F_X8_tree at h
  refine z_iload_n (i := 1) X.1 dX8_tree_0 1 rfl rfl ?_
  refine z_if_lt (tgt := 9) X.1 dX8_tree_1 (by decide) h (fun q1171 h => ?_) (fun q1171 h => ?_)
  · refine z_aload_n (i := 0) X.1 dX8_tree_9 0 rfl rfl ?_
    refine z_iconst (v := (1 : Int32)) X.1 dX8_tree_10 (by decide) ?_
    obtain ⟨r1172, s1173, hc1174, h⟩ := bd_inv h
    refine cl_X8_69 (d1 := 0) (b := zo κ.1 0) (As := [.int (1 : Int32)]) (rest := []) X.1 (by decide) (C_X8_fail X.2.1 hc1174) rcX8 rfl rfl (Nat.le_of_ble_eq_true rfl) dX8_tree_11 ?_
    exact z_iret X dX8_tree_14 h
  · refine z_iload_n (i := 1) X.1 dX8_tree_4 1 rfl rfl ?_
    refine z_iconst (v := (2 : Int32)) X.1 dX8_tree_5 (by decide) ?_
    refine z_icmp_le (tgt := 15) X.1 dX8_tree_6 (by decide) h (fun q1175 h => ?_) (fun q1175 h => ?_)
    · refine z_aload_n (i := 0) X.1 dX8_tree_15 0 rfl rfl ?_
      refine g_X8_current X.1 tw274 dX8_tree_16 ?_
      refine g_X0_on X.1 tw216 dX8_tree_19 ?_
      refine z_if_ne (tgt := 31) X.1 dX8_tree_22 (by decide) h (fun q1176 h => ?_) (fun q1176 h => ?_)
      · refine z_aload_n (i := 0) X.1 dX8_tree_31 0 rfl rfl ?_
        refine g_X8_winnersTree X.1 tw273 dX8_tree_32 ?_
        refine z_aload_n (i := 0) X.1 dX8_tree_35 0 rfl rfl ?_
        refine g_X8_current X.1 tw274 dX8_tree_36 ?_
        obtain ⟨r1177, s1178, hc1179, h⟩ := bd_inv h
        refine cl_X8_168 (d1 := 0) (b := zo κ.1 6) (As := []) (rest := [.ref (zo κ.1 5)]) X.1 (by decide) (C_X0_stand X.2.1 hc1179) rcX0 rfl rfl (Nat.le_of_ble_eq_true rfl) dX8_tree_39 ?_
        obtain ⟨r1180, s1181, hc1182, h⟩ := bd_inv h
        refine cl_X8_233 (d1 := 45) (b := zo κ.1 5) (As := [.int r1177]) (rest := []) X.1 (by decide) (C_X7_build X.2.1 hc1182) rcX7 rfl rfl (Nat.le_of_ble_eq_true rfl) dX8_tree_42 ?_
        refine z_if_ne (tgt := 54) X.1 dX8_tree_45 (by decide) h (fun q1183 h => ?_) (fun q1183 h => ?_)
        · refine z_iload_n (i := 1) X.1 dX8_tree_54 1 rfl rfl ?_
          refine z_if_ne (tgt := 66) X.1 dX8_tree_55 (by decide) h (fun q1184 h => ?_) (fun q1184 h => ?_)
          · refine z_iload_n (i := 1) X.1 dX8_tree_66 1 rfl rfl ?_
            refine z_iconst (v := (1 : Int32)) X.1 dX8_tree_67 (by decide) ?_
            refine z_icmp_ne (tgt := 81) X.1 dX8_tree_68 (by decide) h (fun q1185 h => ?_) (fun q1185 h => ?_)
            · refine z_aload_n (i := 0) X.1 dX8_tree_81 0 rfl rfl ?_
              refine g_X8_winnersTree X.1 tw273 dX8_tree_82 ?_
              refine g_X7_deepest X.1 tw192 dX8_tree_85 ?_
              exact z_iret X dX8_tree_88 h
            · refine z_aload_n (i := 0) X.1 dX8_tree_71 0 rfl rfl ?_
              refine g_X8_winnersTree X.1 tw273 dX8_tree_72 ?_
              refine g_X7_leaves X.1 tw190 dX8_tree_75 ?_
              refine z_goto (tgt := 88) X.1 dX8_tree_78 (by decide) ?_
              exact z_iret X dX8_tree_88 h
          · refine z_aload_n (i := 0) X.1 dX8_tree_58 0 rfl rfl ?_
            refine g_X8_winnersTree X.1 tw273 dX8_tree_59 ?_
            refine g_X7_nodes X.1 tw188 dX8_tree_62 ?_
            exact z_iret X dX8_tree_65 h
        · refine z_aload_n (i := 0) X.1 dX8_tree_48 0 rfl rfl ?_
          refine z_iconst (v := (4 : Int32)) X.1 dX8_tree_49 (by decide) ?_
          obtain ⟨r1186, s1187, hc1188, h⟩ := bd_inv h
          refine cl_X8_69 (d1 := 0) (b := zo κ.1 0) (As := [.int (4 : Int32)]) (rest := []) X.1 (by decide) (C_X8_fail X.2.1 hc1188) rcX8 rfl rfl (Nat.le_of_ble_eq_true rfl) dX8_tree_50 ?_
          exact z_iret X dX8_tree_53 h
      · refine z_aload_n (i := 0) X.1 dX8_tree_25 0 rfl rfl ?_
        refine z_iconst (v := (3 : Int32)) X.1 dX8_tree_26 (by decide) ?_
        obtain ⟨r1189, s1190, hc1191, h⟩ := bd_inv h
        refine cl_X8_69 (d1 := 0) (b := zo κ.1 0) (As := [.int (3 : Int32)]) (rest := []) X.1 (by decide) (C_X8_fail X.2.1 hc1191) rcX8 rfl rfl (Nat.le_of_ble_eq_true rfl) dX8_tree_27 ?_
        exact z_iret X dX8_tree_30 h
    · refine z_aload_n (i := 0) X.1 dX8_tree_9 0 rfl rfl ?_
      refine z_iconst (v := (1 : Int32)) X.1 dX8_tree_10 (by decide) ?_
      obtain ⟨r1192, s1193, hc1194, h⟩ := bd_inv h
      refine cl_X8_69 (d1 := 0) (b := zo κ.1 0) (As := [.int (1 : Int32)]) (rest := []) X.1 (by decide) (C_X8_fail X.2.1 hc1194) rcX8 rfl rfl (Nat.le_of_ble_eq_true rfl) dX8_tree_11 ?_
      exact z_iret X dX8_tree_14 h
theorem C_X8_tree {ζ : zW} (hZ : zDis ζ zX) {v1 : Int32} {σ σ' : S3} {r : Int32} (h : F_X8_tree v1 σ = some (r, σ')) : zMet ζ zX 46 yX8_tree cX8_tree 2 (some .int) [.ref (zo ζ 0), .int v1] σ (some (.int r)) σ' :=
  zMet_of pn_X8 hZ (Nat.le_of_ble_eq_true rfl) (fun κ e X => by subst e; exact B_X8_tree_0 X h)
noncomputable def F_X8_node (v1 : Int32) (σ : S3) : R3 :=
  if (σ 6 0 0) = (0 : Int32) then (bd (F_X8_fail (3 : Int32) σ) (fun r1214 s1215 => some (r1214, s1215)))
  else (bd (F_X0_stand σ) (fun r1196 s1197 => bd (F_X7_build r1196 s1197) (fun r1199 s1200 => if r1199 = (0 : Int32) then (bd (F_X8_fail (4 : Int32) s1200) (fun r1211 s1212 => some (r1211, s1212)))
  else (if v1 < (1 : Int32) then (bd (F_X8_fail (2 : Int32) s1200) (fun r1204 s1205 => some (r1204, s1205)))
  else (if v1 < (s1200 5 3 0) then (ck v1 300 (some (s1200 5 2 (ix v1), s1200)))
  else (bd (F_X8_fail (2 : Int32) s1200) (fun r1208 s1209 => some (r1208, s1209))))))))
set_option maxHeartbeats 4000000 in
set_option maxRecDepth 100000 in
theorem B_X8_node_0 {κ : zT} {σ' : S3} {r : Int32} (X : zC κ zX RX8 cX8_node 2 (some .int) 46 (some (.int r)) σ') {v1 : Int32} {σ : S3} (h : F_X8_node v1 σ = some (r, σ')) : Z κ 2 (zX (ze κ.1) σ) [(0, .ref (zo κ.1 0)), (1, .int v1)] 0 [] := by
  unfold F_X8_node at h
  refine z_aload_n (i := 0) X.1 dX8_node_0 0 rfl rfl ?_
  refine g_X8_current X.1 tw274 dX8_node_1 ?_
  refine g_X0_on X.1 tw216 dX8_node_4 ?_
  refine z_if_ne (tgt := 16) X.1 dX8_node_7 (by decide) h (fun q1195 h => ?_) (fun q1195 h => ?_)
  · refine z_aload_n (i := 0) X.1 dX8_node_16 0 rfl rfl ?_
    refine g_X8_winnersTree X.1 tw273 dX8_node_17 ?_
    refine z_aload_n (i := 0) X.1 dX8_node_20 0 rfl rfl ?_
    refine g_X8_current X.1 tw274 dX8_node_21 ?_
    obtain ⟨r1196, s1197, hc1198, h⟩ := bd_inv h
    refine cl_X8_168 (d1 := 0) (b := zo κ.1 6) (As := []) (rest := [.ref (zo κ.1 5)]) X.1 (by decide) (C_X0_stand X.2.1 hc1198) rcX0 rfl rfl (Nat.le_of_ble_eq_true rfl) dX8_node_24 ?_
    obtain ⟨r1199, s1200, hc1201, h⟩ := bd_inv h
    refine cl_X8_233 (d1 := 45) (b := zo κ.1 5) (As := [.int r1196]) (rest := []) X.1 (by decide) (C_X7_build X.2.1 hc1201) rcX7 rfl rfl (Nat.le_of_ble_eq_true rfl) dX8_node_27 ?_
    refine z_if_ne (tgt := 39) X.1 dX8_node_30 (by decide) h (fun q1202 h => ?_) (fun q1202 h => ?_)
    · refine z_iload_n (i := 1) X.1 dX8_node_39 1 rfl rfl ?_
      refine z_iconst (v := (1 : Int32)) X.1 dX8_node_40 (by decide) ?_
      refine z_icmp_lt (tgt := 55) X.1 dX8_node_41 (by decide) h (fun q1203 h => ?_) (fun q1203 h => ?_)
      · refine z_aload_n (i := 0) X.1 dX8_node_55 0 rfl rfl ?_
        refine z_iconst (v := (2 : Int32)) X.1 dX8_node_56 (by decide) ?_
        obtain ⟨r1204, s1205, hc1206, h⟩ := bd_inv h
        refine cl_X8_69 (d1 := 0) (b := zo κ.1 0) (As := [.int (2 : Int32)]) (rest := []) X.1 (by decide) (C_X8_fail X.2.1 hc1206) rcX8 rfl rfl (Nat.le_of_ble_eq_true rfl) dX8_node_57 ?_
        exact z_iret X dX8_node_60 h
      · refine z_iload_n (i := 1) X.1 dX8_node_44 1 rfl rfl ?_
        refine z_aload_n (i := 0) X.1 dX8_node_45 0 rfl rfl ?_
        refine g_X8_winnersTree X.1 tw273 dX8_node_46 ?_
        refine g_X7_nodes X.1 tw188 dX8_node_49 ?_
        refine z_icmp_lt (tgt := 61) X.1 dX8_node_52 (by decide) h (fun q1207 h => ?_) (fun q1207 h => ?_)
        · refine z_aload_n (i := 0) X.1 dX8_node_61 0 rfl rfl ?_
          refine g_X8_winnersTree X.1 tw273 dX8_node_62 ?_
          refine g_X7_ways X.1 tw186 dX8_node_65 ?_
          refine z_iload_n (i := 1) X.1 dX8_node_68 1 rfl rfl ?_
          refine al_X7_ways X.1 dX8_node_69 h (fun h => ?_)
          exact z_iret X dX8_node_70 h
        · refine z_aload_n (i := 0) X.1 dX8_node_55 0 rfl rfl ?_
          refine z_iconst (v := (2 : Int32)) X.1 dX8_node_56 (by decide) ?_
          obtain ⟨r1208, s1209, hc1210, h⟩ := bd_inv h
          refine cl_X8_69 (d1 := 0) (b := zo κ.1 0) (As := [.int (2 : Int32)]) (rest := []) X.1 (by decide) (C_X8_fail X.2.1 hc1210) rcX8 rfl rfl (Nat.le_of_ble_eq_true rfl) dX8_node_57 ?_
          exact z_iret X dX8_node_60 h
    · refine z_aload_n (i := 0) X.1 dX8_node_33 0 rfl rfl ?_
      refine z_iconst (v := (4 : Int32)) X.1 dX8_node_34 (by decide) ?_
      obtain ⟨r1211, s1212, hc1213, h⟩ := bd_inv h
      refine cl_X8_69 (d1 := 0) (b := zo κ.1 0) (As := [.int (4 : Int32)]) (rest := []) X.1 (by decide) (C_X8_fail X.2.1 hc1213) rcX8 rfl rfl (Nat.le_of_ble_eq_true rfl) dX8_node_35 ?_
      exact z_iret X dX8_node_38 h
  · refine z_aload_n (i := 0) X.1 dX8_node_10 0 rfl rfl ?_
    refine z_iconst (v := (3 : Int32)) X.1 dX8_node_11 (by decide) ?_
    obtain ⟨r1214, s1215, hc1216, h⟩ := bd_inv h
    refine cl_X8_69 (d1 := 0) (b := zo κ.1 0) (As := [.int (3 : Int32)]) (rest := []) X.1 (by decide) (C_X8_fail X.2.1 hc1216) rcX8 rfl rfl (Nat.le_of_ble_eq_true rfl) dX8_node_12 ?_
    exact z_iret X dX8_node_15 h
theorem C_X8_node {ζ : zW} (hZ : zDis ζ zX) {v1 : Int32} {σ σ' : S3} {r : Int32} (h : F_X8_node v1 σ = some (r, σ')) : zMet ζ zX 46 yX8_node cX8_node 2 (some .int) [.ref (zo ζ 0), .int v1] σ (some (.int r)) σ' :=
  zMet_of pn_X8 hZ (Nat.le_of_ble_eq_true rfl) (fun κ e X => by subst e; exact B_X8_node_0 X h)
