noncomputable def F_X2_clear (c : Nat) (v1 : Int32) (σ : S3) : R3 :=
  nm (up σ c 0 0 v1) (fun s219 => nm (up s219 c 1 0 (0 : Int32)) (fun s220 => bd (F_X2_gather c s220) (fun r221 s222 => some ((0 : Int32), s222))))
set_option maxHeartbeats 4000000 in
set_option maxRecDepth 100000 in
theorem B_X2_clear_0 {κ : zT} {σ' : S3} {r : Int32} (X : zC κ zX RX2 cX2_clear 2 none 2 none σ') {c : Nat} (hc : zNet c) {v1 : Int32} {σ : S3} (h : F_X2_clear c v1 σ = some (r, σ')) : Z κ 2 (zX (ze κ.1) σ) [(0, .ref (zo κ.1 c)), (1, .int v1)] 0 [] := by
  unfold F_X2_clear at h
  refine z_aload_n (i := 0) X.1 dX2_clear_0 0 rfl rfl ?_
  refine z_iload_n (i := 1) X.1 dX2_clear_1 1 rfl rfl ?_
  refine p_X2_size hc X.1 X.2.1 tw97 dX2_clear_2 h (fun s219 h => ?_)
  refine z_aload_n (i := 0) X.1 dX2_clear_5 0 rfl rfl ?_
  refine z_iconst (v := (0 : Int32)) X.1 dX2_clear_6 (by decide) ?_
  refine p_X2_lines hc X.1 X.2.1 tw100 dX2_clear_7 h (fun s220 h => ?_)
  refine z_aload_n (i := 0) X.1 dX2_clear_10 0 rfl rfl ?_
  obtain ⟨r221, s222, hc223, h⟩ := bd_inv h
  refine cl_X2_43 (d1 := 1) (b := zo κ.1 c) (r := 0) (As := []) (rest := []) X.1 (by decide) (C_X2_gather X.2.1 hc hc223) (rcX2 hc) rfl rfl (Nat.le_of_ble_eq_true rfl) dX2_clear_11 ?_
  exact z_vret X dX2_clear_14 h
theorem C_X2_clear {ζ : zW} (hZ : zDis ζ zX) {c : Nat} (hc : zNet c) {v1 : Int32} {σ σ' : S3} {r : Int32} (h : F_X2_clear c v1 σ = some (r, σ')) : zMet ζ zX 2 yX2_clear cX2_clear 2 none [.ref (zo ζ c), .int v1] σ none σ' :=
  zMet_of pn_X2 hZ (Nat.le_of_ble_eq_true rfl) (fun κ e X => by subst e; exact B_X2_clear_0 X hc h)
noncomputable def F_X2_join (c : Nat) (v1 : Int32) (v2 : Int32) (v3 : Int32) (σ : S3) : R3 :=
  if (12 : Int32) ≤ (σ c 1 0) then (some ((0 : Int32), σ))
  else (ck (σ c 1 0) 12 (nm (up σ c 2 (ix (σ c 1 0)) v1) (fun s248 => ck (s248 c 1 0) 12 (nm (up s248 c 3 (ix (s248 c 1 0)) v2) (fun s249 => ck (s249 c 1 0) 12 (nm (up s249 c 4 (ix (s249 c 1 0)) v3) (fun s250 => nm (up s250 c 1 0 ((s250 c 1 0) + (1 : Int32))) (fun s251 => bd (F_X2_gather c s251) (fun r252 s253 => some ((0 : Int32), s253))))))))))
set_option maxHeartbeats 4000000 in
set_option maxRecDepth 100000 in
theorem B_X2_join_0 {κ : zT} {σ' : S3} {r : Int32} (X : zC κ zX RX2 cX2_join 4 none 2 none σ') {c : Nat} (hc : zNet c) {v1 : Int32} {v2 : Int32} {v3 : Int32} {σ : S3} (h : F_X2_join c v1 v2 v3 σ = some (r, σ')) : Z κ 4 (zX (ze κ.1) σ) [(0, .ref (zo κ.1 c)), (1, .int v1), (2, .int v2), (3, .int v3)] 0 [] := by
  unfold F_X2_join at h
  refine z_aload_n (i := 0) X.1 dX2_join_0 0 rfl rfl ?_
  refine g_X2_lines hc X.1 tw100 dX2_join_1 ?_
  refine z_bipush (v := (12 : Int32)) X.1 dX2_join_4 (by decide) ?_
  refine z_icmp_ge (tgt := 53) X.1 dX2_join_6 (by decide) h (fun q247 h => ?_) (fun q247 h => ?_)
  · exact z_vret X dX2_join_53 h
  · refine z_aload_n (i := 0) X.1 dX2_join_9 0 rfl rfl ?_
    refine g_X2_from hc X.1 tw105 dX2_join_10 ?_
    refine z_aload_n (i := 0) X.1 dX2_join_13 0 rfl rfl ?_
    refine g_X2_lines hc X.1 tw100 dX2_join_14 ?_
    refine z_iload_n (i := 1) X.1 dX2_join_17 1 rfl rfl ?_
    refine as_X2_from hc X.1 X.2.1 dX2_join_18 h (fun s248 h => ?_)
    refine z_aload_n (i := 0) X.1 dX2_join_19 0 rfl rfl ?_
    refine g_X2_to hc X.1 tw107 dX2_join_20 ?_
    refine z_aload_n (i := 0) X.1 dX2_join_23 0 rfl rfl ?_
    refine g_X2_lines hc X.1 tw100 dX2_join_24 ?_
    refine z_iload_n (i := 2) X.1 dX2_join_27 2 rfl rfl ?_
    refine as_X2_to hc X.1 X.2.1 dX2_join_28 h (fun s249 h => ?_)
    refine z_aload_n (i := 0) X.1 dX2_join_29 0 rfl rfl ?_
    refine g_X2_ways hc X.1 tw109 dX2_join_30 ?_
    refine z_aload_n (i := 0) X.1 dX2_join_33 0 rfl rfl ?_
    refine g_X2_lines hc X.1 tw100 dX2_join_34 ?_
    refine z_iload_n (i := 3) X.1 dX2_join_37 3 rfl rfl ?_
    refine as_X2_ways hc X.1 X.2.1 dX2_join_38 h (fun s250 h => ?_)
    refine z_aload_n (i := 0) X.1 dX2_join_39 0 rfl rfl ?_
    refine z_dup X.1 dX2_join_40 rfl ?_
    refine g_X2_lines hc X.1 tw100 dX2_join_41 ?_
    refine z_iconst (v := (1 : Int32)) X.1 dX2_join_44 (by decide) ?_
    refine z_iadd X.1 dX2_join_45 ?_
    refine p_X2_lines hc X.1 X.2.1 tw100 dX2_join_46 h (fun s251 h => ?_)
    refine z_aload_n (i := 0) X.1 dX2_join_49 0 rfl rfl ?_
    obtain ⟨r252, s253, hc254, h⟩ := bd_inv h
    refine cl_X2_43 (d1 := 1) (b := zo κ.1 c) (r := 0) (As := []) (rest := []) X.1 (by decide) (C_X2_gather X.2.1 hc hc254) (rcX2 hc) rfl rfl (Nat.le_of_ble_eq_true rfl) dX2_join_50 ?_
    exact z_vret X dX2_join_53 h
theorem C_X2_join {ζ : zW} (hZ : zDis ζ zX) {c : Nat} (hc : zNet c) {v1 : Int32} {v2 : Int32} {v3 : Int32} {σ σ' : S3} {r : Int32} (h : F_X2_join c v1 v2 v3 σ = some (r, σ')) : zMet ζ zX 2 yX2_join cX2_join 4 none [.ref (zo ζ c), .int v1, .int v2, .int v3] σ none σ' :=
  zMet_of pn_X2 hZ (Nat.le_of_ble_eq_true rfl) (fun κ e X => by subst e; exact B_X2_join_0 X hc h)
noncomputable def F_X2_turn (c : Nat) (v1 : Int32) (v2 : Int32) (σ : S3) : R3 :=
  ck v1 12 (nm (up σ c 4 (ix v1) v2) (fun s255 => bd (F_X2_gather c s255) (fun r256 s257 => some ((0 : Int32), s257))))
set_option maxHeartbeats 4000000 in
set_option maxRecDepth 100000 in
theorem B_X2_turn_0 {κ : zT} {σ' : S3} {r : Int32} (X : zC κ zX RX2 cX2_turn 3 none 2 none σ') {c : Nat} (hc : zNet c) {v1 : Int32} {v2 : Int32} {σ : S3} (h : F_X2_turn c v1 v2 σ = some (r, σ')) : Z κ 3 (zX (ze κ.1) σ) [(0, .ref (zo κ.1 c)), (1, .int v1), (2, .int v2)] 0 [] := by
  unfold F_X2_turn at h
  refine z_aload_n (i := 0) X.1 dX2_turn_0 0 rfl rfl ?_
  refine g_X2_ways hc X.1 tw109 dX2_turn_1 ?_
  refine z_iload_n (i := 1) X.1 dX2_turn_4 1 rfl rfl ?_
  refine z_iload_n (i := 2) X.1 dX2_turn_5 2 rfl rfl ?_
  refine as_X2_ways hc X.1 X.2.1 dX2_turn_6 h (fun s255 h => ?_)
  refine z_aload_n (i := 0) X.1 dX2_turn_7 0 rfl rfl ?_
  obtain ⟨r256, s257, hc258, h⟩ := bd_inv h
  refine cl_X2_43 (d1 := 1) (b := zo κ.1 c) (r := 0) (As := []) (rest := []) X.1 (by decide) (C_X2_gather X.2.1 hc hc258) (rcX2 hc) rfl rfl (Nat.le_of_ble_eq_true rfl) dX2_turn_8 ?_
  exact z_vret X dX2_turn_11 h
theorem C_X2_turn {ζ : zW} (hZ : zDis ζ zX) {c : Nat} (hc : zNet c) {v1 : Int32} {v2 : Int32} {σ σ' : S3} {r : Int32} (h : F_X2_turn c v1 v2 σ = some (r, σ')) : zMet ζ zX 2 yX2_turn cX2_turn 3 none [.ref (zo ζ c), .int v1, .int v2] σ none σ' :=
  zMet_of pn_X2 hZ (Nat.le_of_ble_eq_true rfl) (fun κ e X => by subst e; exact B_X2_turn_0 X hc h)
noncomputable def F_X2_remove (c : Nat) (v1 : Int32) (σ : S3) : R3 :=
  nm (((σ c 1 0) - v1) - (1 : Int32)) (fun x259 => ckc (v1 + (1 : Int32)) v1 x259 12 12 (nm (cpyA σ c 2 c 2 (v1 + (1 : Int32)) v1 x259) (fun s260 => ckc (v1 + (1 : Int32)) v1 x259 12 12 (nm (cpyA s260 c 3 c 3 (v1 + (1 : Int32)) v1 x259) (fun s261 => ckc (v1 + (1 : Int32)) v1 x259 12 12 (nm (cpyA s261 c 4 c 4 (v1 + (1 : Int32)) v1 x259) (fun s262 => nm (up s262 c 1 0 ((s262 c 1 0) - (1 : Int32))) (fun s263 => bd (F_X2_gather c s263) (fun r264 s265 => some ((0 : Int32), s265))))))))))
set_option maxHeartbeats 4000000 in
set_option maxRecDepth 100000 in
theorem B_X2_remove_0 {κ : zT} {σ' : S3} {r : Int32} (X : zC κ zX RX2 cX2_remove 3 none 2 none σ') {c : Nat} (hc : zNet c) {v1 : Int32} {σ : S3} (h : F_X2_remove c v1 σ = some (r, σ')) : Z κ 3 (zX (ze κ.1) σ) [(0, .ref (zo κ.1 c)), (1, .int v1)] 0 [] := by
  unfold F_X2_remove at h
  refine z_aload_n (i := 0) X.1 dX2_remove_0 0 rfl rfl ?_
  refine g_X2_lines hc X.1 tw100 dX2_remove_1 ?_
  refine z_iload_n (i := 1) X.1 dX2_remove_4 1 rfl rfl ?_
  refine z_isub X.1 dX2_remove_5 ?_
  refine z_iconst (v := (1 : Int32)) X.1 dX2_remove_6 (by decide) ?_
  refine z_isub X.1 dX2_remove_7 ?_
  refine z_istore_nn (i := 2) (lv' := fun x259 => [(2, .int x259), (0, .ref (zo κ.1 c)), (1, .int v1)]) X.1 dX2_remove_8 rfl (by decide) (fun _ => rfl) h (fun x259 h => ?_)
  refine z_aload_n (i := 0) X.1 dX2_remove_9 1 rfl rfl ?_
  refine g_X2_from hc X.1 tw105 dX2_remove_10 ?_
  refine z_iload_n (i := 1) X.1 dX2_remove_13 2 rfl rfl ?_
  refine z_iconst (v := (1 : Int32)) X.1 dX2_remove_14 (by decide) ?_
  refine z_iadd X.1 dX2_remove_15 ?_
  refine z_aload_n (i := 0) X.1 dX2_remove_16 1 rfl rfl ?_
  refine g_X2_from hc X.1 tw105 dX2_remove_17 ?_
  refine z_iload_n (i := 1) X.1 dX2_remove_20 2 rfl rfl ?_
  refine z_iload_n (i := 2) X.1 dX2_remove_21 0 rfl rfl ?_
  refine cp_X2_from hc hc X.1 (by decide) X.2.1 tw362 (Nat.le_of_ble_eq_true rfl) dX2_remove_22 h (fun s260 h => ?_)
  refine z_aload_n (i := 0) X.1 dX2_remove_25 1 rfl rfl ?_
  refine g_X2_to hc X.1 tw107 dX2_remove_26 ?_
  refine z_iload_n (i := 1) X.1 dX2_remove_29 2 rfl rfl ?_
  refine z_iconst (v := (1 : Int32)) X.1 dX2_remove_30 (by decide) ?_
  refine z_iadd X.1 dX2_remove_31 ?_
  refine z_aload_n (i := 0) X.1 dX2_remove_32 1 rfl rfl ?_
  refine g_X2_to hc X.1 tw107 dX2_remove_33 ?_
  refine z_iload_n (i := 1) X.1 dX2_remove_36 2 rfl rfl ?_
  refine z_iload_n (i := 2) X.1 dX2_remove_37 0 rfl rfl ?_
  refine cp_X2_to hc hc X.1 (by decide) X.2.1 tw362 (Nat.le_of_ble_eq_true rfl) dX2_remove_38 h (fun s261 h => ?_)
  refine z_aload_n (i := 0) X.1 dX2_remove_41 1 rfl rfl ?_
  refine g_X2_ways hc X.1 tw109 dX2_remove_42 ?_
  refine z_iload_n (i := 1) X.1 dX2_remove_45 2 rfl rfl ?_
  refine z_iconst (v := (1 : Int32)) X.1 dX2_remove_46 (by decide) ?_
  refine z_iadd X.1 dX2_remove_47 ?_
  refine z_aload_n (i := 0) X.1 dX2_remove_48 1 rfl rfl ?_
  refine g_X2_ways hc X.1 tw109 dX2_remove_49 ?_
  refine z_iload_n (i := 1) X.1 dX2_remove_52 2 rfl rfl ?_
  refine z_iload_n (i := 2) X.1 dX2_remove_53 0 rfl rfl ?_
  refine cp_X2_ways hc hc X.1 (by decide) X.2.1 tw362 (Nat.le_of_ble_eq_true rfl) dX2_remove_54 h (fun s262 h => ?_)
  refine z_aload_n (i := 0) X.1 dX2_remove_57 1 rfl rfl ?_
  refine z_dup X.1 dX2_remove_58 rfl ?_
  refine g_X2_lines hc X.1 tw100 dX2_remove_59 ?_
  refine z_iconst (v := (1 : Int32)) X.1 dX2_remove_62 (by decide) ?_
  refine z_isub X.1 dX2_remove_63 ?_
  refine p_X2_lines hc X.1 X.2.1 tw100 dX2_remove_64 h (fun s263 h => ?_)
  refine z_aload_n (i := 0) X.1 dX2_remove_67 1 rfl rfl ?_
  obtain ⟨r264, s265, hc266, h⟩ := bd_inv h
  refine cl_X2_43 (d1 := 1) (b := zo κ.1 c) (r := 0) (As := []) (rest := []) X.1 (by decide) (C_X2_gather X.2.1 hc hc266) (rcX2 hc) rfl rfl (Nat.le_of_ble_eq_true rfl) dX2_remove_68 ?_
  exact z_vret X dX2_remove_71 h
theorem C_X2_remove {ζ : zW} (hZ : zDis ζ zX) {c : Nat} (hc : zNet c) {v1 : Int32} {σ σ' : S3} {r : Int32} (h : F_X2_remove c v1 σ = some (r, σ')) : zMet ζ zX 2 yX2_remove cX2_remove 3 none [.ref (zo ζ c), .int v1] σ none σ' :=
  zMet_of pn_X2 hZ (Nat.le_of_ble_eq_true rfl) (fun κ e X => by subst e; exact B_X2_remove_0 X hc h)
noncomputable def F_X2_become (c : Nat) (c2 : Nat) (σ : S3) : R3 :=
  nm (up σ c 0 0 (σ c2 0 0)) (fun s267 => nm (up s267 c 1 0 (s267 c2 1 0)) (fun s268 => ckc (0 : Int32) (0 : Int32) (12 : Int32) 12 12 (nm (cpyA s268 c2 2 c 2 (0 : Int32) (0 : Int32) (12 : Int32)) (fun s269 => ckc (0 : Int32) (0 : Int32) (12 : Int32) 12 12 (nm (cpyA s269 c2 3 c 3 (0 : Int32) (0 : Int32) (12 : Int32)) (fun s270 => ckc (0 : Int32) (0 : Int32) (12 : Int32) 12 12 (nm (cpyA s270 c2 4 c 4 (0 : Int32) (0 : Int32) (12 : Int32)) (fun s271 => bd (F_X2_gather c s271) (fun r272 s273 => some ((0 : Int32), s273))))))))))
set_option maxHeartbeats 4000000 in
set_option maxRecDepth 100000 in
theorem B_X2_become_0 {κ : zT} {σ' : S3} {r : Int32} (X : zC κ zX RX2 cX2_become 2 none 2 none σ') {c : Nat} (hc : zNet c) {c2 : Nat} (hc2 : zNet c2) {σ : S3} (h : F_X2_become c c2 σ = some (r, σ')) : Z κ 2 (zX (ze κ.1) σ) [(0, .ref (zo κ.1 c)), (1, .ref (zo κ.1 c2))] 0 [] := by
  unfold F_X2_become at h
  refine z_aload_n (i := 0) X.1 dX2_become_0 0 rfl rfl ?_
  refine z_aload_n (i := 1) X.1 dX2_become_1 1 rfl rfl ?_
  refine g_X2_size hc2 X.1 tw97 dX2_become_2 ?_
  refine p_X2_size hc X.1 X.2.1 tw97 dX2_become_5 h (fun s267 h => ?_)
  refine z_aload_n (i := 0) X.1 dX2_become_8 0 rfl rfl ?_
  refine z_aload_n (i := 1) X.1 dX2_become_9 1 rfl rfl ?_
  refine g_X2_lines hc2 X.1 tw100 dX2_become_10 ?_
  refine p_X2_lines hc X.1 X.2.1 tw100 dX2_become_13 h (fun s268 h => ?_)
  refine z_aload_n (i := 1) X.1 dX2_become_16 1 rfl rfl ?_
  refine g_X2_from hc2 X.1 tw105 dX2_become_17 ?_
  refine z_iconst (v := (0 : Int32)) X.1 dX2_become_20 (by decide) ?_
  refine z_aload_n (i := 0) X.1 dX2_become_21 0 rfl rfl ?_
  refine g_X2_from hc X.1 tw105 dX2_become_22 ?_
  refine z_iconst (v := (0 : Int32)) X.1 dX2_become_25 (by decide) ?_
  refine z_bipush (v := (12 : Int32)) X.1 dX2_become_26 (by decide) ?_
  refine cp_X2_from hc hc2 X.1 (by decide) X.2.1 tw362 (Nat.le_of_ble_eq_true rfl) dX2_become_28 h (fun s269 h => ?_)
  refine z_aload_n (i := 1) X.1 dX2_become_31 1 rfl rfl ?_
  refine g_X2_to hc2 X.1 tw107 dX2_become_32 ?_
  refine z_iconst (v := (0 : Int32)) X.1 dX2_become_35 (by decide) ?_
  refine z_aload_n (i := 0) X.1 dX2_become_36 0 rfl rfl ?_
  refine g_X2_to hc X.1 tw107 dX2_become_37 ?_
  refine z_iconst (v := (0 : Int32)) X.1 dX2_become_40 (by decide) ?_
  refine z_bipush (v := (12 : Int32)) X.1 dX2_become_41 (by decide) ?_
  refine cp_X2_to hc hc2 X.1 (by decide) X.2.1 tw362 (Nat.le_of_ble_eq_true rfl) dX2_become_43 h (fun s270 h => ?_)
  refine z_aload_n (i := 1) X.1 dX2_become_46 1 rfl rfl ?_
  refine g_X2_ways hc2 X.1 tw109 dX2_become_47 ?_
  refine z_iconst (v := (0 : Int32)) X.1 dX2_become_50 (by decide) ?_
  refine z_aload_n (i := 0) X.1 dX2_become_51 0 rfl rfl ?_
  refine g_X2_ways hc X.1 tw109 dX2_become_52 ?_
  refine z_iconst (v := (0 : Int32)) X.1 dX2_become_55 (by decide) ?_
  refine z_bipush (v := (12 : Int32)) X.1 dX2_become_56 (by decide) ?_
  refine cp_X2_ways hc hc2 X.1 (by decide) X.2.1 tw362 (Nat.le_of_ble_eq_true rfl) dX2_become_58 h (fun s271 h => ?_)
  refine z_aload_n (i := 0) X.1 dX2_become_61 0 rfl rfl ?_
  obtain ⟨r272, s273, hc274, h⟩ := bd_inv h
  refine cl_X2_43 (d1 := 1) (b := zo κ.1 c) (r := 0) (As := []) (rest := []) X.1 (by decide) (C_X2_gather X.2.1 hc hc274) (rcX2 hc) rfl rfl (Nat.le_of_ble_eq_true rfl) dX2_become_62 ?_
  exact z_vret X dX2_become_65 h
theorem C_X2_become {ζ : zW} (hZ : zDis ζ zX) {c : Nat} (hc : zNet c) {c2 : Nat} (hc2 : zNet c2) {σ σ' : S3} {r : Int32} (h : F_X2_become c c2  σ = some (r, σ')) : zMet ζ zX 2 yX2_become cX2_become 2 none [.ref (zo ζ c), .ref (zo ζ c2)] σ none σ' :=
  zMet_of pn_X2 hZ (Nat.le_of_ble_eq_true rfl) (fun κ e X => by subst e; exact B_X2_become_0 X hc hc2 h)
noncomputable def F_J6_bitCount_0f7a4_48 (v0 : Int32) (σ : S3) : R3 :=
  some (v0 &&& (63 : Int32), σ)
set_option maxHeartbeats 4000000 in
set_option maxRecDepth 100000 in
theorem B_J6_bitCount_0f7a4_48 {κ : zT} {σ' : S3} {r : Int32} (X : zC κ zX RJ6 cJ6_bitCount_0f7a4 1 (some .int) 0 (some (.int r)) σ') {v0 : Int32} {σ : S3} (h : F_J6_bitCount_0f7a4_48 v0 σ = some (r, σ')) : Z κ 1 (zX (ze κ.1) σ) [(0, .int v0)] 48 [] := by
  unfold F_J6_bitCount_0f7a4_48 at h
  refine z_iload_n (i := 0) X.1 dJ6_bitCount_0f7a4_48 0 rfl rfl ?_
  refine z_bipush (v := (63 : Int32)) X.1 dJ6_bitCount_0f7a4_49 (by decide) ?_
  refine z_iand X.1 dJ6_bitCount_0f7a4_51 ?_
  exact z_iret X dJ6_bitCount_0f7a4_52 h
noncomputable def F_J6_bitCount_0f7a4_41 (v0 : Int32) (σ : S3) : R3 :=
  nm (v0 + ((Int32.toUInt32 v0 >>> (Int32.toUInt32 (16 : Int32) &&& Int32.toUInt32 31)).toInt32)) (fun x284 => F_J6_bitCount_0f7a4_48 x284 σ)
set_option maxHeartbeats 4000000 in
set_option maxRecDepth 100000 in
theorem B_J6_bitCount_0f7a4_41 {κ : zT} {σ' : S3} {r : Int32} (X : zC κ zX RJ6 cJ6_bitCount_0f7a4 1 (some .int) 0 (some (.int r)) σ') {v0 : Int32} {σ : S3} (h : F_J6_bitCount_0f7a4_41 v0 σ = some (r, σ')) : Z κ 1 (zX (ze κ.1) σ) [(0, .int v0)] 41 [] := by
  unfold F_J6_bitCount_0f7a4_41 at h
  refine z_iload_n (i := 0) X.1 dJ6_bitCount_0f7a4_41 0 rfl rfl ?_
  refine z_iload_n (i := 0) X.1 dJ6_bitCount_0f7a4_42 0 rfl rfl ?_
  refine z_bipush (v := (16 : Int32)) X.1 dJ6_bitCount_0f7a4_43 (by decide) ?_
  refine z_iushr X.1 dJ6_bitCount_0f7a4_45 ?_
  refine z_iadd X.1 dJ6_bitCount_0f7a4_46 ?_
  refine z_istore_nn (i := 0) (lv' := fun x284 => [(0, .int x284)]) X.1 dJ6_bitCount_0f7a4_47 rfl (by decide) (fun _ => rfl) h (fun x284 h => ?_)
  exact z_sub [0] rfl (B_J6_bitCount_0f7a4_48 X h)
noncomputable def F_J6_bitCount_0f7a4_34 (v0 : Int32) (σ : S3) : R3 :=
  nm (v0 + ((Int32.toUInt32 v0 >>> (Int32.toUInt32 (8 : Int32) &&& Int32.toUInt32 31)).toInt32)) (fun x283 => F_J6_bitCount_0f7a4_41 x283 σ)
set_option maxHeartbeats 4000000 in
set_option maxRecDepth 100000 in
theorem B_J6_bitCount_0f7a4_34 {κ : zT} {σ' : S3} {r : Int32} (X : zC κ zX RJ6 cJ6_bitCount_0f7a4 1 (some .int) 0 (some (.int r)) σ') {v0 : Int32} {σ : S3} (h : F_J6_bitCount_0f7a4_34 v0 σ = some (r, σ')) : Z κ 1 (zX (ze κ.1) σ) [(0, .int v0)] 34 [] := by
  unfold F_J6_bitCount_0f7a4_34 at h
  refine z_iload_n (i := 0) X.1 dJ6_bitCount_0f7a4_34 0 rfl rfl ?_
  refine z_iload_n (i := 0) X.1 dJ6_bitCount_0f7a4_35 0 rfl rfl ?_
  refine z_bipush (v := (8 : Int32)) X.1 dJ6_bitCount_0f7a4_36 (by decide) ?_
  refine z_iushr X.1 dJ6_bitCount_0f7a4_38 ?_
  refine z_iadd X.1 dJ6_bitCount_0f7a4_39 ?_
  refine z_istore_nn (i := 0) (lv' := fun x283 => [(0, .int x283)]) X.1 dJ6_bitCount_0f7a4_40 rfl (by decide) (fun _ => rfl) h (fun x283 h => ?_)
  exact z_sub [0] rfl (B_J6_bitCount_0f7a4_41 X h)
noncomputable def F_J6_bitCount_0f7a4_24 (v0 : Int32) (σ : S3) : R3 :=
  nm ((v0 + ((Int32.toUInt32 v0 >>> (Int32.toUInt32 (4 : Int32) &&& Int32.toUInt32 31)).toInt32)) &&& (252645135 : Int32)) (fun x282 => F_J6_bitCount_0f7a4_34 x282 σ)
set_option maxHeartbeats 4000000 in
set_option maxRecDepth 100000 in
theorem B_J6_bitCount_0f7a4_24 {κ : zT} {σ' : S3} {r : Int32} (X : zC κ zX RJ6 cJ6_bitCount_0f7a4 1 (some .int) 0 (some (.int r)) σ') {v0 : Int32} {σ : S3} (h : F_J6_bitCount_0f7a4_24 v0 σ = some (r, σ')) : Z κ 1 (zX (ze κ.1) σ) [(0, .int v0)] 24 [] := by
  unfold F_J6_bitCount_0f7a4_24 at h
  refine z_iload_n (i := 0) X.1 dJ6_bitCount_0f7a4_24 0 rfl rfl ?_
  refine z_iload_n (i := 0) X.1 dJ6_bitCount_0f7a4_25 0 rfl rfl ?_
  refine z_iconst (v := (4 : Int32)) X.1 dJ6_bitCount_0f7a4_26 (by decide) ?_
  refine z_iushr X.1 dJ6_bitCount_0f7a4_27 ?_
  refine z_iadd X.1 dJ6_bitCount_0f7a4_28 ?_
  refine z_ldc_w (v := (252645135 : Int32)) X.1 dJ6_bitCount_0f7a4_29 tw382 ?_
  refine z_iand X.1 dJ6_bitCount_0f7a4_32 ?_
  refine z_istore_nn (i := 0) (lv' := fun x282 => [(0, .int x282)]) X.1 dJ6_bitCount_0f7a4_33 rfl (by decide) (fun _ => rfl) h (fun x282 h => ?_)
  exact z_sub [0] rfl (B_J6_bitCount_0f7a4_34 X h)
noncomputable def F_J6_bitCount_0f7a4_10 (v0 : Int32) (σ : S3) : R3 :=
  nm ((v0 &&& (858993459 : Int32)) + (((Int32.toUInt32 v0 >>> (Int32.toUInt32 (2 : Int32) &&& Int32.toUInt32 31)).toInt32) &&& (858993459 : Int32))) (fun x281 => F_J6_bitCount_0f7a4_24 x281 σ)
set_option maxHeartbeats 4000000 in
set_option maxRecDepth 100000 in
theorem B_J6_bitCount_0f7a4_10 {κ : zT} {σ' : S3} {r : Int32} (X : zC κ zX RJ6 cJ6_bitCount_0f7a4 1 (some .int) 0 (some (.int r)) σ') {v0 : Int32} {σ : S3} (h : F_J6_bitCount_0f7a4_10 v0 σ = some (r, σ')) : Z κ 1 (zX (ze κ.1) σ) [(0, .int v0)] 10 [] := by
  unfold F_J6_bitCount_0f7a4_10 at h
  refine z_iload_n (i := 0) X.1 dJ6_bitCount_0f7a4_10 0 rfl rfl ?_
  refine z_ldc_w (v := (858993459 : Int32)) X.1 dJ6_bitCount_0f7a4_11 tw381 ?_
  refine z_iand X.1 dJ6_bitCount_0f7a4_14 ?_
  refine z_iload_n (i := 0) X.1 dJ6_bitCount_0f7a4_15 0 rfl rfl ?_
  refine z_iconst (v := (2 : Int32)) X.1 dJ6_bitCount_0f7a4_16 (by decide) ?_
  refine z_iushr X.1 dJ6_bitCount_0f7a4_17 ?_
  refine z_ldc_w (v := (858993459 : Int32)) X.1 dJ6_bitCount_0f7a4_18 tw381 ?_
  refine z_iand X.1 dJ6_bitCount_0f7a4_21 ?_
  refine z_iadd X.1 dJ6_bitCount_0f7a4_22 ?_
  refine z_istore_nn (i := 0) (lv' := fun x281 => [(0, .int x281)]) X.1 dJ6_bitCount_0f7a4_23 rfl (by decide) (fun _ => rfl) h (fun x281 h => ?_)
  exact z_sub [0] rfl (B_J6_bitCount_0f7a4_24 X h)
noncomputable def F_J6_bitCount_0f7a4 (v0 : Int32) (σ : S3) : R3 :=
  nm (v0 - (((Int32.toUInt32 v0 >>> (Int32.toUInt32 (1 : Int32) &&& Int32.toUInt32 31)).toInt32) &&& (1431655765 : Int32))) (fun x280 => F_J6_bitCount_0f7a4_10 x280 σ)
set_option maxHeartbeats 4000000 in
set_option maxRecDepth 100000 in
theorem B_J6_bitCount_0f7a4_0 {κ : zT} {σ' : S3} {r : Int32} (X : zC κ zX RJ6 cJ6_bitCount_0f7a4 1 (some .int) 0 (some (.int r)) σ') {v0 : Int32} {σ : S3} (h : F_J6_bitCount_0f7a4 v0 σ = some (r, σ')) : Z κ 1 (zX (ze κ.1) σ) [(0, .int v0)] 0 [] := by
  unfold F_J6_bitCount_0f7a4 at h
  refine z_iload_n (i := 0) X.1 dJ6_bitCount_0f7a4_0 0 rfl rfl ?_
  refine z_iload_n (i := 0) X.1 dJ6_bitCount_0f7a4_1 0 rfl rfl ?_
  refine z_iconst (v := (1 : Int32)) X.1 dJ6_bitCount_0f7a4_2 (by decide) ?_
  refine z_iushr X.1 dJ6_bitCount_0f7a4_3 ?_
  refine z_ldc_w (v := (1431655765 : Int32)) X.1 dJ6_bitCount_0f7a4_4 tw380 ?_
  refine z_iand X.1 dJ6_bitCount_0f7a4_7 ?_
  refine z_isub X.1 dJ6_bitCount_0f7a4_8 ?_
  refine z_istore_nn (i := 0) (lv' := fun x280 => [(0, .int x280)]) X.1 dJ6_bitCount_0f7a4_9 rfl (by decide) (fun _ => rfl) h (fun x280 h => ?_)
  exact z_sub [0] rfl (B_J6_bitCount_0f7a4_10 X h)
theorem C_J6_bitCount_0f7a4 {ζ : zW} (hZ : zDis ζ zX) {v0 : Int32} {σ σ' : S3} {r : Int32} (h : F_J6_bitCount_0f7a4 v0 σ = some (r, σ')) : zMet ζ zX 0 yJ6_bitCount_0f7a4 cJ6_bitCount_0f7a4 1 (some .int) [.int v0] σ (some (.int r)) σ' :=
  zMet_of pn_J6 hZ (Nat.le_of_ble_eq_true rfl) (fun κ e X => by subst e; exact B_J6_bitCount_0f7a4_0 X h)
noncomputable def F_X2_degree (c : Nat) (v1 : Int32) (v2 : Int32) (σ : S3) : R3 :=
  if v2 = (0 : Int32) then (ck v1 16 (bd (F_J6_bitCount_0f7a4 (σ c 5 (ix v1)) σ) (fun r288 s289 => some (r288, s289))))
  else (if v2 = (1 : Int32) then (ck v1 16 (bd (F_J6_bitCount_0f7a4 (σ c 6 (ix v1)) σ) (fun r285 s286 => some (r285, s286))))
  else (ck v1 16 (bd (F_J6_bitCount_0f7a4 (σ c 7 (ix v1)) σ) (fun r277 s278 => some (r277, s278)))))
set_option maxHeartbeats 4000000 in
set_option maxRecDepth 100000 in
theorem B_X2_degree_0 {κ : zT} {σ' : S3} {r : Int32} (X : zC κ zX RX2 cX2_degree 3 (some .int) 1 (some (.int r)) σ') {c : Nat} (hc : zNet c) {v1 : Int32} {v2 : Int32} {σ : S3} (h : F_X2_degree c v1 v2 σ = some (r, σ')) : Z κ 3 (zX (ze κ.1) σ) [(0, .ref (zo κ.1 c)), (1, .int v1), (2, .int v2)] 0 [] := by
  unfold F_X2_degree at h
  refine z_iload_n (i := 2) X.1 dX2_degree_0 2 rfl rfl ?_
  refine z_if_ne (tgt := 14) X.1 dX2_degree_1 (by decide) h (fun q275 h => ?_) (fun q275 h => ?_)
  · refine z_iload_n (i := 2) X.1 dX2_degree_14 2 rfl rfl ?_
    refine z_iconst (v := (1 : Int32)) X.1 dX2_degree_15 (by decide) ?_
    refine z_icmp_ne (tgt := 28) X.1 dX2_degree_16 (by decide) h (fun q276 h => ?_) (fun q276 h => ?_)
    · refine z_aload_n (i := 0) X.1 dX2_degree_28 0 rfl rfl ?_
      refine g_X2_coming hc X.1 tw116 dX2_degree_29 ?_
      refine z_iload_n (i := 1) X.1 dX2_degree_32 1 rfl rfl ?_
      refine al_X2_coming hc X.1 dX2_degree_33 h (fun h => ?_)
      obtain ⟨r277, s278, hc279, h⟩ := bd_inv h
      refine cl_X2_62 (d1 := 0) (As := [.int (σ c 7 (ix v1))]) (rest := []) X.1 (by decide) (C_J6_bitCount_0f7a4 X.2.1 hc279) rfl rfl (Nat.le_of_ble_eq_true rfl) dX2_degree_34 ?_
      exact z_iret X dX2_degree_37 h
    · refine z_aload_n (i := 0) X.1 dX2_degree_19 0 rfl rfl ?_
      refine g_X2_leaving hc X.1 tw114 dX2_degree_20 ?_
      refine z_iload_n (i := 1) X.1 dX2_degree_23 1 rfl rfl ?_
      refine al_X2_leaving hc X.1 dX2_degree_24 h (fun h => ?_)
      refine z_goto (tgt := 34) X.1 dX2_degree_25 (by decide) ?_
      obtain ⟨r285, s286, hc287, h⟩ := bd_inv h
      refine cl_X2_62 (d1 := 0) (As := [.int (σ c 6 (ix v1))]) (rest := []) X.1 (by decide) (C_J6_bitCount_0f7a4 X.2.1 hc287) rfl rfl (Nat.le_of_ble_eq_true rfl) dX2_degree_34 ?_
      exact z_iret X dX2_degree_37 h
  · refine z_aload_n (i := 0) X.1 dX2_degree_4 0 rfl rfl ?_
    refine g_X2_touching hc X.1 tw111 dX2_degree_5 ?_
    refine z_iload_n (i := 1) X.1 dX2_degree_8 1 rfl rfl ?_
    refine al_X2_touching hc X.1 dX2_degree_9 h (fun h => ?_)
    obtain ⟨r288, s289, hc290, h⟩ := bd_inv h
    refine cl_X2_62 (d1 := 0) (As := [.int (σ c 5 (ix v1))]) (rest := []) X.1 (by decide) (C_J6_bitCount_0f7a4 X.2.1 hc290) rfl rfl (Nat.le_of_ble_eq_true rfl) dX2_degree_10 ?_
    exact z_iret X dX2_degree_13 h
theorem C_X2_degree {ζ : zW} (hZ : zDis ζ zX) {c : Nat} (hc : zNet c) {v1 : Int32} {v2 : Int32} {σ σ' : S3} {r : Int32} (h : F_X2_degree c v1 v2 σ = some (r, σ')) : zMet ζ zX 1 yX2_degree cX2_degree 3 (some .int) [.ref (zo ζ c), .int v1, .int v2] σ (some (.int r)) σ' :=
  zMet_of pn_X2 hZ (Nat.le_of_ble_eq_true rfl) (fun κ e X => by subst e; exact B_X2_degree_0 X hc h)
noncomputable def F_X2_endsAsSet (c : Nat) (v1 : Int32) (σ : S3) : R3 :=
  ck v1 12 (ck v1 12 (some (((1 : Int32) <<< ((σ c 2 (ix v1)) &&& 31)) ||| ((1 : Int32) <<< ((σ c 3 (ix v1)) &&& 31)), σ)))
set_option maxHeartbeats 4000000 in
set_option maxRecDepth 100000 in
theorem B_X2_endsAsSet_0 {κ : zT} {σ' : S3} {r : Int32} (X : zC κ zX RX2 cX2_endsAsSet 2 (some .int) 0 (some (.int r)) σ') {c : Nat} (hc : zNet c) {v1 : Int32} {σ : S3} (h : F_X2_endsAsSet c v1 σ = some (r, σ')) : Z κ 2 (zX (ze κ.1) σ) [(0, .ref (zo κ.1 c)), (1, .int v1)] 0 [] := by
  unfold F_X2_endsAsSet at h
  refine z_iconst (v := (1 : Int32)) X.1 dX2_endsAsSet_0 (by decide) ?_
  refine z_aload_n (i := 0) X.1 dX2_endsAsSet_1 0 rfl rfl ?_
  refine g_X2_from hc X.1 tw105 dX2_endsAsSet_2 ?_
  refine z_iload_n (i := 1) X.1 dX2_endsAsSet_5 1 rfl rfl ?_
  refine al_X2_from hc X.1 dX2_endsAsSet_6 h (fun h => ?_)
  refine z_ishl X.1 dX2_endsAsSet_7 ?_
  refine z_iconst (v := (1 : Int32)) X.1 dX2_endsAsSet_8 (by decide) ?_
  refine z_aload_n (i := 0) X.1 dX2_endsAsSet_9 0 rfl rfl ?_
  refine g_X2_to hc X.1 tw107 dX2_endsAsSet_10 ?_
  refine z_iload_n (i := 1) X.1 dX2_endsAsSet_13 1 rfl rfl ?_
  refine al_X2_to hc X.1 dX2_endsAsSet_14 h (fun h => ?_)
  refine z_ishl X.1 dX2_endsAsSet_15 ?_
  refine z_ior X.1 dX2_endsAsSet_16 ?_
  exact z_iret X dX2_endsAsSet_17 h
theorem C_X2_endsAsSet {ζ : zW} (hZ : zDis ζ zX) {c : Nat} (hc : zNet c) {v1 : Int32} {σ σ' : S3} {r : Int32} (h : F_X2_endsAsSet c v1 σ = some (r, σ')) : zMet ζ zX 0 yX2_endsAsSet cX2_endsAsSet 2 (some .int) [.ref (zo ζ c), .int v1] σ (some (.int r)) σ' :=
  zMet_of pn_X2 hZ (Nat.le_of_ble_eq_true rfl) (fun κ e X => by subst e; exact B_X2_endsAsSet_0 X hc h)
noncomputable def Fb_X2_neighbours_4 (c : Nat) (v1 : Int32) (K4 : Int32 → Int32 → S3 → R3) (v2 : Int32) (v3 : Int32) (σ : S3) : R3 :=
  if (σ c 0 0) ≤ v3 then (some (v2, σ))
  else (if ((v1 >>> (v3 &&& 31)) &&& (1 : Int32)) = (0 : Int32) then (nm (v3 + (1 : Int32)) (fun x301 => K4 v2 x301 σ))
  else (ck v3 16 (nm (v2 ||| (σ c 8 (ix v3))) (fun x302 => nm (v3 + (1 : Int32)) (fun x303 => K4 x302 x303 σ)))))
noncomputable def F_X2_neighbours_4 (c : Nat) (v1 : Int32) (n : Nat) : Int32 → Int32 → S3 → R3 := zl2 (Fb_X2_neighbours_4 c v1) n
set_option maxHeartbeats 4000000 in
set_option maxRecDepth 100000 in
theorem B_X2_neighbours_4 {κ : zT} {σ' : S3} {r : Int32} (X : zC κ zX RX2 cX2_neighbours 4 (some .int) 0 (some (.int r)) σ') {c : Nat} (hc : zNet c) {v1 : Int32} : ∀ (n : Nat) (v2 : Int32) (v3 : Int32) (σ : S3), F_X2_neighbours_4 c v1 n v2 v3 σ = some (r, σ') → Z κ 4 (zX (ze κ.1) σ) [(0, .ref (zo κ.1 c)), (1, .int v1), (2, .int v2), (3, .int v3)] 4 [] := by
  intro n
  induction n with
  | zero =>
    intro v2 v3 σ h
    cases (show (none : R3) = some (r, σ') from h)
  | succ n ih =>
    intro v2 v3 σ h
    have hK4 := ih
    have h : Fb_X2_neighbours_4 c v1 (F_X2_neighbours_4 c v1 n) v2 v3 σ = some (r, σ') := h
    unfold Fb_X2_neighbours_4 at h
    refine z_iload_n (i := 3) X.1 dX2_neighbours_4 3 rfl rfl ?_
    refine z_aload_n (i := 0) X.1 dX2_neighbours_5 0 rfl rfl ?_
    refine g_X2_size hc X.1 tw97 dX2_neighbours_6 ?_
    refine z_icmp_ge (tgt := 35) X.1 dX2_neighbours_9 (by decide) h (fun q299 h => ?_) (fun q299 h => ?_)
    · refine z_iload_n (i := 2) X.1 dX2_neighbours_35 2 rfl rfl ?_
      exact z_iret X dX2_neighbours_36 h
    · refine z_iload_n (i := 1) X.1 dX2_neighbours_12 1 rfl rfl ?_
      refine z_iload_n (i := 3) X.1 dX2_neighbours_13 3 rfl rfl ?_
      refine z_ishr X.1 dX2_neighbours_14 ?_
      refine z_iconst (v := (1 : Int32)) X.1 dX2_neighbours_15 (by decide) ?_
      refine z_iand X.1 dX2_neighbours_16 ?_
      refine z_if_eq (tgt := 29) X.1 dX2_neighbours_17 (by decide) h (fun q300 h => ?_) (fun q300 h => ?_)
      · refine z_iinc_m (v := (1 : Int32)) (lv' := fun x301 => [(3, .int x301), (0, .ref (zo κ.1 c)), (1, .int v1), (2, .int v2)]) X.1 dX2_neighbours_29 3 rfl (by decide) (by decide) (fun _ => rfl) h (fun x301 h => ?_)
        refine z_goto (tgt := 4) X.1 dX2_neighbours_32 (by decide) ?_
        exact z_sub [1, 2, 3, 0] rfl (hK4 _ _ _ h)
      · refine z_iload_n (i := 2) X.1 dX2_neighbours_20 2 rfl rfl ?_
        refine z_aload_n (i := 0) X.1 dX2_neighbours_21 0 rfl rfl ?_
        refine g_X2_beside hc X.1 tw117 dX2_neighbours_22 ?_
        refine z_iload_n (i := 3) X.1 dX2_neighbours_25 3 rfl rfl ?_
        refine al_X2_beside hc X.1 dX2_neighbours_26 h (fun h => ?_)
        refine z_ior X.1 dX2_neighbours_27 ?_
        refine z_istore_nn (i := 2) (lv' := fun x302 => [(2, .int x302), (0, .ref (zo κ.1 c)), (1, .int v1), (3, .int v3)]) X.1 dX2_neighbours_28 rfl (by decide) (fun _ => rfl) h (fun x302 h => ?_)
        refine z_iinc_m (v := (1 : Int32)) (lv' := fun x303 => [(3, .int x303), (2, .int x302), (0, .ref (zo κ.1 c)), (1, .int v1)]) X.1 dX2_neighbours_29 3 rfl (by decide) (by decide) (fun _ => rfl) h (fun x303 h => ?_)
        refine z_goto (tgt := 4) X.1 dX2_neighbours_32 (by decide) ?_
        exact z_sub [2, 3, 1, 0] rfl (hK4 _ _ _ h)
noncomputable def F_X2_neighbours (c : Nat) (v1 : Int32) (σ : S3) : R3 :=
  F_X2_neighbours_4 c v1 zF (0 : Int32) (0 : Int32) σ
set_option maxHeartbeats 4000000 in
set_option maxRecDepth 100000 in
theorem B_X2_neighbours_0 {κ : zT} {σ' : S3} {r : Int32} (X : zC κ zX RX2 cX2_neighbours 4 (some .int) 0 (some (.int r)) σ') {c : Nat} (hc : zNet c) {v1 : Int32} {σ : S3} (h : F_X2_neighbours c v1 σ = some (r, σ')) : Z κ 4 (zX (ze κ.1) σ) [(0, .ref (zo κ.1 c)), (1, .int v1)] 0 [] := by
  unfold F_X2_neighbours at h
  refine z_iconst (v := (0 : Int32)) X.1 dX2_neighbours_0 (by decide) ?_
  refine z_istore_n (i := 2) (lv' := [(2, .int (0 : Int32)), (0, .ref (zo κ.1 c)), (1, .int v1)]) X.1 dX2_neighbours_1 rfl (by decide) rfl ?_
  refine z_iconst (v := (0 : Int32)) X.1 dX2_neighbours_2 (by decide) ?_
  refine z_istore_n (i := 3) (lv' := [(3, .int (0 : Int32)), (2, .int (0 : Int32)), (0, .ref (zo κ.1 c)), (1, .int v1)]) X.1 dX2_neighbours_3 rfl (by decide) rfl ?_
  exact z_sub [2, 3, 1, 0] rfl (B_X2_neighbours_4 X hc zF _ _ _ h)
theorem C_X2_neighbours {ζ : zW} (hZ : zDis ζ zX) {c : Nat} (hc : zNet c) {v1 : Int32} {σ σ' : S3} {r : Int32} (h : F_X2_neighbours c v1 σ = some (r, σ')) : zMet ζ zX 0 yX2_neighbours cX2_neighbours 4 (some .int) [.ref (zo ζ c), .int v1] σ (some (.int r)) σ' :=
  zMet_of pn_X2 hZ (Nat.le_of_ble_eq_true rfl) (fun κ e X => by subst e; exact B_X2_neighbours_0 X hc h)
noncomputable def Fb_X2_sideZero_33 (c : Nat) (K6 : Int32 → Int32 → Int32 → S3 → R3) (v3 : Int32) (K33 : Int32 → Int32 → Int32 → S3 → R3) (v1 : Int32) (v2 : Int32) (v4 : Int32) (σ : S3) : R3 :=
  if (σ c 0 0) ≤ v4 then (nm (v3 + (1 : Int32)) (fun x295 => K6 v1 v2 x295 σ))
  else (bd (F_X2_neighbours c v1 σ) (fun r296 s297 => nm (v2 ||| r296) (fun x304 => bd (F_X2_neighbours c x304 s297) (fun r305 s306 => nm (v1 ||| r305) (fun x308 => nm (v4 + (1 : Int32)) (fun x309 => K33 x308 x304 x309 s306))))))
noncomputable def F_X2_sideZero_33 (c : Nat) (K6 : Int32 → Int32 → Int32 → S3 → R3) (v3 : Int32) (n : Nat) : Int32 → Int32 → Int32 → S3 → R3 := zl3 (Fb_X2_sideZero_33 c K6 v3) n
set_option maxHeartbeats 4000000 in
set_option maxRecDepth 100000 in
theorem B_X2_sideZero_33 {κ : zT} {σ' : S3} {r : Int32} (X : zC κ zX RX2 cX2_sideZero 5 (some .int) 1 (some (.int r)) σ') {c : Nat} (hc : zNet c) {K6 : Int32 → Int32 → Int32 → S3 → R3} {v3 : Int32} (hK6 : ∀ (w1 : Int32) (w2 : Int32) (w3 : Int32) (s1 : S3), K6 w1 w2 w3 s1 = some (r, σ') → Z κ 5 (zX (ze κ.1) s1) [(0, .ref (zo κ.1 c)), (1, .int w1), (2, .int w2), (3, .int w3)] 6 []) : ∀ (n : Nat) (v1 : Int32) (v2 : Int32) (v4 : Int32) (σ : S3), F_X2_sideZero_33 c K6 v3 n v1 v2 v4 σ = some (r, σ') → Z κ 5 (zX (ze κ.1) σ) [(0, .ref (zo κ.1 c)), (1, .int v1), (2, .int v2), (3, .int v3), (4, .int v4)] 33 [] := by
  intro n
  induction n with
  | zero =>
    intro v1 v2 v4 σ h
    cases (show (none : R3) = some (r, σ') from h)
  | succ n ih =>
    intro v1 v2 v4 σ h
    have hK33 := ih
    have h : Fb_X2_sideZero_33 c K6 v3 (F_X2_sideZero_33 c K6 v3 n) v1 v2 v4 σ = some (r, σ') := h
    unfold Fb_X2_sideZero_33 at h
    refine z_iload X.1 dX2_sideZero_33 4 rfl ?_
    refine z_aload_n (i := 0) X.1 dX2_sideZero_35 0 rfl rfl ?_
    refine g_X2_size hc X.1 tw97 dX2_sideZero_36 ?_
    refine z_icmp_ge (tgt := 64) X.1 dX2_sideZero_39 (by decide) h (fun q294 h => ?_) (fun q294 h => ?_)
    · refine z_iinc_m (v := (1 : Int32)) (lv' := fun x295 => [(3, .int x295), (0, .ref (zo κ.1 c)), (1, .int v1), (2, .int v2), (4, .int v4)]) X.1 dX2_sideZero_64 3 rfl (by decide) (by decide) (fun _ => rfl) h (fun x295 h => ?_)
      refine z_goto (tgt := 6) X.1 dX2_sideZero_67 (by decide) ?_
      exact z_sub [1, 2, 3, 0] rfl (hK6 _ _ _ _ h)
    · refine z_iload_n (i := 2) X.1 dX2_sideZero_42 2 rfl rfl ?_
      refine z_aload_n (i := 0) X.1 dX2_sideZero_43 0 rfl rfl ?_
      refine z_iload_n (i := 1) X.1 dX2_sideZero_44 1 rfl rfl ?_
      obtain ⟨r296, s297, hc298, h⟩ := bd_inv h
      refine cl_X2_68 (d1 := 0) (b := zo κ.1 c) (As := [.int v1]) (rest := [.int v2]) X.1 (by decide) (C_X2_neighbours X.2.1 hc hc298) (rcX2 hc) rfl rfl (Nat.le_of_ble_eq_true rfl) dX2_sideZero_45 ?_
      refine z_ior X.1 dX2_sideZero_48 ?_
      refine z_istore_nn (i := 2) (lv' := fun x304 => [(2, .int x304), (0, .ref (zo κ.1 c)), (1, .int v1), (3, .int v3), (4, .int v4)]) X.1 dX2_sideZero_49 rfl (by decide) (fun _ => rfl) h (fun x304 h => ?_)
      refine z_iload_n (i := 1) X.1 dX2_sideZero_50 2 rfl rfl ?_
      refine z_aload_n (i := 0) X.1 dX2_sideZero_51 1 rfl rfl ?_
      refine z_iload_n (i := 2) X.1 dX2_sideZero_52 0 rfl rfl ?_
      obtain ⟨r305, s306, hc307, h⟩ := bd_inv h
      refine cl_X2_68 (d1 := 0) (b := zo κ.1 c) (As := [.int x304]) (rest := [.int v1]) X.1 (by decide) (C_X2_neighbours X.2.1 hc hc307) (rcX2 hc) rfl rfl (Nat.le_of_ble_eq_true rfl) dX2_sideZero_53 ?_
      refine z_ior X.1 dX2_sideZero_56 ?_
      refine z_istore_nn (i := 1) (lv' := fun x308 => [(1, .int x308), (2, .int x304), (0, .ref (zo κ.1 c)), (3, .int v3), (4, .int v4)]) X.1 dX2_sideZero_57 rfl (by decide) (fun _ => rfl) h (fun x308 h => ?_)
      refine z_iinc_m (v := (1 : Int32)) (lv' := fun x309 => [(4, .int x309), (1, .int x308), (2, .int x304), (0, .ref (zo κ.1 c)), (3, .int v3)]) X.1 dX2_sideZero_58 4 rfl (by decide) (by decide) (fun _ => rfl) h (fun x309 h => ?_)
      refine z_goto (tgt := 33) X.1 dX2_sideZero_61 (by decide) ?_
      exact z_sub [3, 1, 2, 4, 0] rfl (hK33 _ _ _ _ h)
noncomputable def Fb_X2_sideZero_6 (c : Nat) (K6 : Int32 → Int32 → Int32 → S3 → R3) (v1 : Int32) (v2 : Int32) (v3 : Int32) (σ : S3) : R3 :=
  if (σ c 0 0) ≤ v3 then (if (v1 &&& v2) = (0 : Int32) then (some (v1, σ))
  else (some ((-1 : Int32), σ)))
  else (if (((v1 ||| v2) >>> (v3 &&& 31)) &&& (1 : Int32)) = (0 : Int32) then (nm (v1 ||| ((1 : Int32) <<< (v3 &&& 31))) (fun x310 => F_X2_sideZero_33 c K6 v3 zF x310 v2 (0 : Int32) σ))
  else (F_X2_sideZero_33 c K6 v3 zF v1 v2 (0 : Int32) σ))
noncomputable def F_X2_sideZero_6 (c : Nat) (n : Nat) : Int32 → Int32 → Int32 → S3 → R3 := zl3 (Fb_X2_sideZero_6 c) n
set_option maxHeartbeats 4000000 in
set_option maxRecDepth 100000 in
theorem B_X2_sideZero_6 {κ : zT} {σ' : S3} {r : Int32} (X : zC κ zX RX2 cX2_sideZero 5 (some .int) 1 (some (.int r)) σ') {c : Nat} (hc : zNet c) : ∀ (n : Nat) (v1 : Int32) (v2 : Int32) (v3 : Int32) (σ : S3), F_X2_sideZero_6 c n v1 v2 v3 σ = some (r, σ') → Z κ 5 (zX (ze κ.1) σ) [(0, .ref (zo κ.1 c)), (1, .int v1), (2, .int v2), (3, .int v3)] 6 [] := by
  intro n
  induction n with
  | zero =>
    intro v1 v2 v3 σ h
    cases (show (none : R3) = some (r, σ') from h)
  | succ n ih =>
    intro v1 v2 v3 σ h
    have hK6 := ih
    have h : Fb_X2_sideZero_6 c (F_X2_sideZero_6 c n) v1 v2 v3 σ = some (r, σ') := h
    unfold Fb_X2_sideZero_6 at h
    refine z_iload_n (i := 3) X.1 dX2_sideZero_6 3 rfl rfl ?_
    refine z_aload_n (i := 0) X.1 dX2_sideZero_7 0 rfl rfl ?_
    refine g_X2_size hc X.1 tw97 dX2_sideZero_8 ?_
    refine z_icmp_ge (tgt := 70) X.1 dX2_sideZero_11 (by decide) h (fun q291 h => ?_) (fun q291 h => ?_)
    · refine z_iload_n (i := 1) X.1 dX2_sideZero_70 1 rfl rfl ?_
      refine z_iload_n (i := 2) X.1 dX2_sideZero_71 2 rfl rfl ?_
      refine z_iand X.1 dX2_sideZero_72 ?_
      refine z_if_ne (tgt := 80) X.1 dX2_sideZero_73 (by decide) h (fun q292 h => ?_) (fun q292 h => ?_)
      · refine z_iconst (v := (-1 : Int32)) X.1 dX2_sideZero_80 (by decide) ?_
        exact z_iret X dX2_sideZero_81 h
      · refine z_iload_n (i := 1) X.1 dX2_sideZero_76 1 rfl rfl ?_
        refine z_goto (tgt := 81) X.1 dX2_sideZero_77 (by decide) ?_
        exact z_iret X dX2_sideZero_81 h
    · refine z_iload_n (i := 1) X.1 dX2_sideZero_14 1 rfl rfl ?_
      refine z_iload_n (i := 2) X.1 dX2_sideZero_15 2 rfl rfl ?_
      refine z_ior X.1 dX2_sideZero_16 ?_
      refine z_iload_n (i := 3) X.1 dX2_sideZero_17 3 rfl rfl ?_
      refine z_ishr X.1 dX2_sideZero_18 ?_
      refine z_iconst (v := (1 : Int32)) X.1 dX2_sideZero_19 (by decide) ?_
      refine z_iand X.1 dX2_sideZero_20 ?_
      refine z_if_ne (tgt := 30) X.1 dX2_sideZero_21 (by decide) h (fun q293 h => ?_) (fun q293 h => ?_)
      · refine z_iconst (v := (0 : Int32)) X.1 dX2_sideZero_30 (by decide) ?_
        refine z_istore (i := 4) (lv' := [(4, .int (0 : Int32)), (0, .ref (zo κ.1 c)), (1, .int v1), (2, .int v2), (3, .int v3)]) X.1 dX2_sideZero_31 (by decide) rfl ?_
        exact z_sub [1, 2, 3, 4, 0] rfl (B_X2_sideZero_33 X hc hK6 zF _ _ _ _ h)
      · refine z_iload_n (i := 1) X.1 dX2_sideZero_24 1 rfl rfl ?_
        refine z_iconst (v := (1 : Int32)) X.1 dX2_sideZero_25 (by decide) ?_
        refine z_iload_n (i := 3) X.1 dX2_sideZero_26 3 rfl rfl ?_
        refine z_ishl X.1 dX2_sideZero_27 ?_
        refine z_ior X.1 dX2_sideZero_28 ?_
        refine z_istore_nn (i := 1) (lv' := fun x310 => [(1, .int x310), (0, .ref (zo κ.1 c)), (2, .int v2), (3, .int v3)]) X.1 dX2_sideZero_29 rfl (by decide) (fun _ => rfl) h (fun x310 h => ?_)
        refine z_iconst (v := (0 : Int32)) X.1 dX2_sideZero_30 (by decide) ?_
        refine z_istore (i := 4) (lv' := [(4, .int (0 : Int32)), (1, .int x310), (0, .ref (zo κ.1 c)), (2, .int v2), (3, .int v3)]) X.1 dX2_sideZero_31 (by decide) rfl ?_
        exact z_sub [2, 1, 3, 4, 0] rfl (B_X2_sideZero_33 X hc hK6 zF _ _ _ _ h)
noncomputable def F_X2_sideZero (c : Nat) (σ : S3) : R3 :=
  F_X2_sideZero_6 c zF (0 : Int32) (0 : Int32) (0 : Int32) σ
set_option maxHeartbeats 4000000 in
set_option maxRecDepth 100000 in
theorem B_X2_sideZero_0 {κ : zT} {σ' : S3} {r : Int32} (X : zC κ zX RX2 cX2_sideZero 5 (some .int) 1 (some (.int r)) σ') {c : Nat} (hc : zNet c) {σ : S3} (h : F_X2_sideZero c σ = some (r, σ')) : Z κ 5 (zX (ze κ.1) σ) [(0, .ref (zo κ.1 c))] 0 [] := by
  unfold F_X2_sideZero at h
  refine z_iconst (v := (0 : Int32)) X.1 dX2_sideZero_0 (by decide) ?_
  refine z_istore_n (i := 1) (lv' := [(1, .int (0 : Int32)), (0, .ref (zo κ.1 c))]) X.1 dX2_sideZero_1 rfl (by decide) rfl ?_
  refine z_iconst (v := (0 : Int32)) X.1 dX2_sideZero_2 (by decide) ?_
  refine z_istore_n (i := 2) (lv' := [(2, .int (0 : Int32)), (1, .int (0 : Int32)), (0, .ref (zo κ.1 c))]) X.1 dX2_sideZero_3 rfl (by decide) rfl ?_
  refine z_iconst (v := (0 : Int32)) X.1 dX2_sideZero_4 (by decide) ?_
  refine z_istore_n (i := 3) (lv' := [(3, .int (0 : Int32)), (2, .int (0 : Int32)), (1, .int (0 : Int32)), (0, .ref (zo κ.1 c))]) X.1 dX2_sideZero_5 rfl (by decide) rfl ?_
  exact z_sub [3, 2, 1, 0] rfl (B_X2_sideZero_6 X hc zF _ _ _ _ h)
theorem C_X2_sideZero {ζ : zW} (hZ : zDis ζ zX) {c : Nat} (hc : zNet c) {σ σ' : S3} {r : Int32} (h : F_X2_sideZero c  σ = some (r, σ')) : zMet ζ zX 1 yX2_sideZero cX2_sideZero 5 (some .int) [.ref (zo ζ c)] σ (some (.int r)) σ' :=
  zMet_of pn_X2 hZ (Nat.le_of_ble_eq_true rfl) (fun κ e X => by subst e; exact B_X2_sideZero_0 X hc h)
noncomputable def F_X2_isKernel_40 (c : Nat) (K2 : Int32 → S3 → R3) (v1 : Int32) (v2 : Int32) (v3 : Int32) (s0 : Int32) (σ : S3) : R3 :=
  if v3 = s0 then (some ((0 : Int32), σ))
  else (nm (v2 + (1 : Int32)) (fun x315 => K2 x315 σ))
set_option maxHeartbeats 4000000 in
set_option maxRecDepth 100000 in
theorem B_X2_isKernel_40 {κ : zT} {σ' : S3} {r : Int32} (X : zC κ zX RX2 cX2_isKernel 5 (some .boolean) 0 (some (.int r)) σ') {c : Nat} (hc : zNet c) {K2 : Int32 → S3 → R3} {v1 : Int32} {v2 : Int32} {v3 : Int32} {s0 : Int32} {σ : S3} (hK2 : ∀ (w2 : Int32) (s1 : S3), K2 w2 s1 = some (r, σ') → Z κ 5 (zX (ze κ.1) s1) [(0, .ref (zo κ.1 c)), (1, .int v1), (2, .int w2)] 2 []) (h : F_X2_isKernel_40 c K2 v1 v2 v3 s0 σ = some (r, σ')) : Z κ 5 (zX (ze κ.1) σ) [(0, .ref (zo κ.1 c)), (1, .int v1), (2, .int v2), (3, .int v3)] 40 [.int s0] := by
  unfold F_X2_isKernel_40 at h
  refine z_istore (i := 4) (lv' := [(4, .int s0), (0, .ref (zo κ.1 c)), (1, .int v1), (2, .int v2), (3, .int v3)]) X.1 dX2_isKernel_40 (by decide) rfl ?_
  refine z_iload_n (i := 3) X.1 dX2_isKernel_42 4 rfl rfl ?_
  refine z_iload X.1 dX2_isKernel_43 0 rfl ?_
  refine z_icmp_ne (tgt := 50) X.1 dX2_isKernel_45 (by decide) h (fun q314 h => ?_) (fun q314 h => ?_)
  · refine z_iinc_m (v := (1 : Int32)) (lv' := fun x315 => [(2, .int x315), (4, .int s0), (0, .ref (zo κ.1 c)), (1, .int v1), (3, .int v3)]) X.1 dX2_isKernel_50 3 rfl (by decide) (by decide) (fun _ => rfl) h (fun x315 h => ?_)
    refine z_goto (tgt := 2) X.1 dX2_isKernel_53 (by decide) ?_
    exact z_sub [2, 3, 0] rfl (hK2 _ _ h)
  · refine z_iconst (v := (0 : Int32)) X.1 dX2_isKernel_48 (by decide) ?_
    exact z_zret X dX2_isKernel_49 (Or.inl rfl) h
noncomputable def F_X2_isKernel_23 (c : Nat) (K2 : Int32 → S3 → R3) (v1 : Int32) (v2 : Int32) (s0 : Int32) (σ : S3) : R3 :=
  ck v2 16 (if ((σ c 9 (ix v2)) &&& v1) = (0 : Int32) then (F_X2_isKernel_40 c K2 v1 v2 s0 (0 : Int32) σ)
  else (F_X2_isKernel_40 c K2 v1 v2 s0 (1 : Int32) σ))
set_option maxHeartbeats 4000000 in
set_option maxRecDepth 100000 in
theorem B_X2_isKernel_23 {κ : zT} {σ' : S3} {r : Int32} (X : zC κ zX RX2 cX2_isKernel 5 (some .boolean) 0 (some (.int r)) σ') {c : Nat} (hc : zNet c) {K2 : Int32 → S3 → R3} {v1 : Int32} {v2 : Int32} {s0 : Int32} {σ : S3} (hK2 : ∀ (w2 : Int32) (s1 : S3), K2 w2 s1 = some (r, σ') → Z κ 5 (zX (ze κ.1) s1) [(0, .ref (zo κ.1 c)), (1, .int v1), (2, .int w2)] 2 []) (h : F_X2_isKernel_23 c K2 v1 v2 s0 σ = some (r, σ')) : Z κ 5 (zX (ze κ.1) σ) [(0, .ref (zo κ.1 c)), (1, .int v1), (2, .int v2)] 23 [.int s0] := by
  unfold F_X2_isKernel_23 at h
  refine z_istore_n (i := 3) (lv' := [(3, .int s0), (0, .ref (zo κ.1 c)), (1, .int v1), (2, .int v2)]) X.1 dX2_isKernel_23 rfl (by decide) rfl ?_
  refine z_aload_n (i := 0) X.1 dX2_isKernel_24 1 rfl rfl ?_
  refine g_X2_ahead hc X.1 tw118 dX2_isKernel_25 ?_
  refine z_iload_n (i := 2) X.1 dX2_isKernel_28 3 rfl rfl ?_
  refine al_X2_ahead hc X.1 dX2_isKernel_29 h (fun h => ?_)
  refine z_iload_n (i := 1) X.1 dX2_isKernel_30 2 rfl rfl ?_
  refine z_iand X.1 dX2_isKernel_31 ?_
  refine z_if_eq (tgt := 39) X.1 dX2_isKernel_32 (by decide) h (fun q313 h => ?_) (fun q313 h => ?_)
  · refine z_iconst (v := (0 : Int32)) X.1 dX2_isKernel_39 (by decide) ?_
    exact z_sub [1, 2, 3, 0] rfl (B_X2_isKernel_40 X hc hK2 h)
  · refine z_iconst (v := (1 : Int32)) X.1 dX2_isKernel_35 (by decide) ?_
    refine z_goto (tgt := 40) X.1 dX2_isKernel_36 (by decide) ?_
    exact z_sub [1, 2, 3, 0] rfl (B_X2_isKernel_40 X hc hK2 h)
noncomputable def Fb_X2_isKernel_2 (c : Nat) (v1 : Int32) (K2 : Int32 → S3 → R3) (v2 : Int32) (σ : S3) : R3 :=
  if (σ c 0 0) ≤ v2 then (some ((1 : Int32), σ))
  else (if ((v1 >>> (v2 &&& 31)) &&& (1 : Int32)) = (0 : Int32) then (F_X2_isKernel_23 c K2 v1 v2 (0 : Int32) σ)
  else (F_X2_isKernel_23 c K2 v1 v2 (1 : Int32) σ))
noncomputable def F_X2_isKernel_2 (c : Nat) (v1 : Int32) (n : Nat) : Int32 → S3 → R3 := zl1 (Fb_X2_isKernel_2 c v1) n
set_option maxHeartbeats 4000000 in
set_option maxRecDepth 100000 in
theorem B_X2_isKernel_2 {κ : zT} {σ' : S3} {r : Int32} (X : zC κ zX RX2 cX2_isKernel 5 (some .boolean) 0 (some (.int r)) σ') {c : Nat} (hc : zNet c) {v1 : Int32} : ∀ (n : Nat) (v2 : Int32) (σ : S3), F_X2_isKernel_2 c v1 n v2 σ = some (r, σ') → Z κ 5 (zX (ze κ.1) σ) [(0, .ref (zo κ.1 c)), (1, .int v1), (2, .int v2)] 2 [] := by
  intro n
  induction n with
  | zero =>
    intro v2 σ h
    cases (show (none : R3) = some (r, σ') from h)
  | succ n ih =>
    intro v2 σ h
    have hK2 := ih
    have h : Fb_X2_isKernel_2 c v1 (F_X2_isKernel_2 c v1 n) v2 σ = some (r, σ') := h
    unfold Fb_X2_isKernel_2 at h
    refine z_iload_n (i := 2) X.1 dX2_isKernel_2 2 rfl rfl ?_
    refine z_aload_n (i := 0) X.1 dX2_isKernel_3 0 rfl rfl ?_
    refine g_X2_size hc X.1 tw97 dX2_isKernel_4 ?_
    refine z_icmp_ge (tgt := 56) X.1 dX2_isKernel_7 (by decide) h (fun q311 h => ?_) (fun q311 h => ?_)
    · refine z_iconst (v := (1 : Int32)) X.1 dX2_isKernel_56 (by decide) ?_
      exact z_zret X dX2_isKernel_57 (Or.inr rfl) h
    · refine z_iload_n (i := 1) X.1 dX2_isKernel_10 1 rfl rfl ?_
      refine z_iload_n (i := 2) X.1 dX2_isKernel_11 2 rfl rfl ?_
      refine z_ishr X.1 dX2_isKernel_12 ?_
      refine z_iconst (v := (1 : Int32)) X.1 dX2_isKernel_13 (by decide) ?_
      refine z_iand X.1 dX2_isKernel_14 ?_
      refine z_if_eq (tgt := 22) X.1 dX2_isKernel_15 (by decide) h (fun q312 h => ?_) (fun q312 h => ?_)
      · refine z_iconst (v := (0 : Int32)) X.1 dX2_isKernel_22 (by decide) ?_
        exact z_sub [0, 1, 2] rfl (B_X2_isKernel_23 X hc hK2 h)
      · refine z_iconst (v := (1 : Int32)) X.1 dX2_isKernel_18 (by decide) ?_
        refine z_goto (tgt := 23) X.1 dX2_isKernel_19 (by decide) ?_
        exact z_sub [0, 1, 2] rfl (B_X2_isKernel_23 X hc hK2 h)
noncomputable def F_X2_isKernel (c : Nat) (v1 : Int32) (σ : S3) : R3 :=
  F_X2_isKernel_2 c v1 zF (0 : Int32) σ
set_option maxHeartbeats 4000000 in
set_option maxRecDepth 100000 in
theorem B_X2_isKernel_0 {κ : zT} {σ' : S3} {r : Int32} (X : zC κ zX RX2 cX2_isKernel 5 (some .boolean) 0 (some (.int r)) σ') {c : Nat} (hc : zNet c) {v1 : Int32} {σ : S3} (h : F_X2_isKernel c v1 σ = some (r, σ')) : Z κ 5 (zX (ze κ.1) σ) [(0, .ref (zo κ.1 c)), (1, .int v1)] 0 [] := by
  unfold F_X2_isKernel at h
  refine z_iconst (v := (0 : Int32)) X.1 dX2_isKernel_0 (by decide) ?_
  refine z_istore_n (i := 2) (lv' := [(2, .int (0 : Int32)), (0, .ref (zo κ.1 c)), (1, .int v1)]) X.1 dX2_isKernel_1 rfl (by decide) rfl ?_
  exact z_sub [1, 2, 0] rfl (B_X2_isKernel_2 X hc zF _ _ h)
theorem C_X2_isKernel {ζ : zW} (hZ : zDis ζ zX) {c : Nat} (hc : zNet c) {v1 : Int32} {σ σ' : S3} {r : Int32} (h : F_X2_isKernel c v1 σ = some (r, σ')) : zMet ζ zX 0 yX2_isKernel cX2_isKernel 5 (some .boolean) [.ref (zo ζ c), .int v1] σ (some (.int r)) σ' :=
  zMet_of pn_X2 hZ (Nat.le_of_ble_eq_true rfl) (fun κ e X => by subst e; exact B_X2_isKernel_0 X hc h)
noncomputable def F_X2_pairsAmong_79 (c : Nat) (Rc : Int32 → Int32 → S3 → R3) (v1 : Int32) (v2 : Int32) (v4 : Int32) (s0 : Int32) (σ : S3) : R3 :=
  if s0 = (0 : Int32) then (bd (Rc (v1 - (1 : Int32)) v2 σ) (fun r338 s339 => some (if v4 < r338 then r338 else v4, s339)))
  else (some (v4, σ))
set_option maxHeartbeats 4000000 in
set_option maxRecDepth 100000 in
theorem B_X2_pairsAmong_79 {κ : zT} {σ' : S3} {r : Int32} {d d0 : Nat} (X : zC κ zX RX2 cX2_pairsAmong 6 (some .int) d (some (.int r)) σ') {c : Nat} (hc : zNet c) {Rc : Int32 → Int32 → S3 → R3} (hR : ∀ (a1 a2 : Int32) (s1 s2 : S3) (r1 : Int32), Rc a1 a2 s1 = some (r1, s2) → zMet κ.1 zX d0 yX2_pairsAmong cX2_pairsAmong 6 (some .int) [.ref (zo κ.1 c), .int a1, .int a2] s1 (some (.int r1)) s2) (hd : d0 + 1 ≤ d) (hb : 1 ≤ d) {v1 : Int32} {v2 : Int32} {v4 : Int32} {s0 : Int32} {σ : S3} (h : F_X2_pairsAmong_79 c Rc v1 v2 v4 s0 σ = some (r, σ')) : Z κ 6 (zX (ze κ.1) σ) [(0, .ref (zo κ.1 c)), (1, .int v1), (2, .int v2), (4, .int v4)] 79 [.int s0] := by
  unfold F_X2_pairsAmong_79 at h
  refine z_istore (i := 5) (lv' := [(5, .int s0), (0, .ref (zo κ.1 c)), (1, .int v1), (2, .int v2), (4, .int v4)]) X.1 dX2_pairsAmong_79 (by decide) rfl ?_
  refine z_iload X.1 dX2_pairsAmong_81 0 rfl ?_
  refine z_if_eq (tgt := 91) X.1 dX2_pairsAmong_83 (by decide) h (fun q337 h => ?_) (fun q337 h => ?_)
  · refine z_iload X.1 dX2_pairsAmong_91 4 rfl ?_
    refine z_aload_n (i := 0) X.1 dX2_pairsAmong_93 1 rfl rfl ?_
    refine z_iload_n (i := 1) X.1 dX2_pairsAmong_94 2 rfl rfl ?_
    refine z_iconst (v := (1 : Int32)) X.1 dX2_pairsAmong_95 (by decide) ?_
    refine z_isub X.1 dX2_pairsAmong_96 ?_
    refine z_iload_n (i := 2) X.1 dX2_pairsAmong_97 3 rfl rfl ?_
    obtain ⟨r338, s339, hc340, h⟩ := bd_inv h
    refine cl_X2_71 (d1 := d0) (b := zo κ.1 c) (As := [.int (v1 - (1 : Int32)), .int v2]) (rest := [.int v4]) X.1 hd (hR _ _ _ _ _ hc340) (rcX2 hc) rfl rfl (Nat.le_of_ble_eq_true rfl) dX2_pairsAmong_98 ?_
    refine z_mmax X.1 (Nat.le_trans (by decide) hb) tw415 tw416 tw81 tw417 (Nat.le_of_ble_eq_true rfl) dX2_pairsAmong_101 ?_
    exact z_iret X dX2_pairsAmong_104 h
  · refine z_iload X.1 dX2_pairsAmong_86 4 rfl ?_
    refine z_goto (tgt := 104) X.1 dX2_pairsAmong_88 (by decide) ?_
    exact z_iret X dX2_pairsAmong_104 h
noncomputable def F_X2_pairsAmong_0 (c : Nat) (Rc : Int32 → Int32 → S3 → R3) (v1 : Int32) (v2 : Int32) (σ : S3) : R3 :=
  if v1 < (1 : Int32) then (some ((0 : Int32), σ))
  else (if (σ c 1 0) < v1 then (some ((0 : Int32), σ))
  else (bd (F_J6_bitCount_0f7a4 v2 σ) (fun r321 s322 => if (2 : Int32) ≤ r321 then (bd (F_X2_endsAsSet c (v1 - (1 : Int32)) s322) (fun r325 s326 => if (v2 &&& r325) = r325 then (bd (Rc (v1 - (1 : Int32)) (v2 &&& (r325 ^^^ (-1 : Int32))) s326) (fun r329 s330 => nm ((1 : Int32) + r329) (fun x332 => bd (F_J6_bitCount_0f7a4 v2 s330) (fun r333 s334 => if x332 = (r333 / (2 : Int32)) then (F_X2_pairsAmong_79 c Rc v1 v2 x332 (1 : Int32) s334)
  else (F_X2_pairsAmong_79 c Rc v1 v2 x332 (0 : Int32) s334)))))
  else (bd (Rc (v1 - (1 : Int32)) v2 s326) (fun r341 s342 => some (r341, s342)))))
  else (some ((0 : Int32), s322)))))
set_option maxHeartbeats 4000000 in
set_option maxRecDepth 100000 in
theorem B_X2_pairsAmong_0 {κ : zT} {σ' : S3} {r : Int32} {d d0 : Nat} (X : zC κ zX RX2 cX2_pairsAmong 6 (some .int) d (some (.int r)) σ') {c : Nat} (hc : zNet c) {Rc : Int32 → Int32 → S3 → R3} (hR : ∀ (a1 a2 : Int32) (s1 s2 : S3) (r1 : Int32), Rc a1 a2 s1 = some (r1, s2) → zMet κ.1 zX d0 yX2_pairsAmong cX2_pairsAmong 6 (some .int) [.ref (zo κ.1 c), .int a1, .int a2] s1 (some (.int r1)) s2) (hd : d0 + 1 ≤ d) (hb : 1 ≤ d) {v1 : Int32} {v2 : Int32} {σ : S3} (h : F_X2_pairsAmong_0 c Rc v1 v2 σ = some (r, σ')) : Z κ 6 (zX (ze κ.1) σ) [(0, .ref (zo κ.1 c)), (1, .int v1), (2, .int v2)] 0 [] := by
  unfold F_X2_pairsAmong_0 at h
  refine z_iload_n (i := 1) X.1 dX2_pairsAmong_0 1 rfl rfl ?_
  refine z_iconst (v := (1 : Int32)) X.1 dX2_pairsAmong_1 (by decide) ?_
  refine z_icmp_lt (tgt := 21) X.1 dX2_pairsAmong_2 (by decide) h (fun q319 h => ?_) (fun q319 h => ?_)
  · refine z_iconst (v := (0 : Int32)) X.1 dX2_pairsAmong_21 (by decide) ?_
    exact z_iret X dX2_pairsAmong_22 h
  · refine z_iload_n (i := 1) X.1 dX2_pairsAmong_5 1 rfl rfl ?_
    refine z_aload_n (i := 0) X.1 dX2_pairsAmong_6 0 rfl rfl ?_
    refine g_X2_lines hc X.1 tw100 dX2_pairsAmong_7 ?_
    refine z_icmp_gt (tgt := 21) X.1 dX2_pairsAmong_10 (by decide) h (fun q320 h => ?_) (fun q320 h => ?_)
    · refine z_iconst (v := (0 : Int32)) X.1 dX2_pairsAmong_21 (by decide) ?_
      exact z_iret X dX2_pairsAmong_22 h
    · refine z_iload_n (i := 2) X.1 dX2_pairsAmong_13 2 rfl rfl ?_
      obtain ⟨r321, s322, hc323, h⟩ := bd_inv h
      refine cl_X2_62 (d1 := 0) (As := [.int v2]) (rest := []) X.1 (Nat.le_trans (by decide) hb) (C_J6_bitCount_0f7a4 X.2.1 hc323) rfl rfl (Nat.le_of_ble_eq_true rfl) dX2_pairsAmong_14 ?_
      refine z_iconst (v := (2 : Int32)) X.1 dX2_pairsAmong_17 (by decide) ?_
      refine z_icmp_ge (tgt := 23) X.1 dX2_pairsAmong_18 (by decide) h (fun q324 h => ?_) (fun q324 h => ?_)
      · refine z_aload_n (i := 0) X.1 dX2_pairsAmong_23 0 rfl rfl ?_
        refine z_iload_n (i := 1) X.1 dX2_pairsAmong_24 1 rfl rfl ?_
        refine z_iconst (v := (1 : Int32)) X.1 dX2_pairsAmong_25 (by decide) ?_
        refine z_isub X.1 dX2_pairsAmong_26 ?_
        obtain ⟨r325, s326, hc327, h⟩ := bd_inv h
        refine cl_X2_75 (d1 := 0) (b := zo κ.1 c) (As := [.int (v1 - (1 : Int32))]) (rest := []) X.1 (Nat.le_trans (by decide) hb) (C_X2_endsAsSet X.2.1 hc hc327) (rcX2 hc) rfl rfl (Nat.le_of_ble_eq_true rfl) dX2_pairsAmong_27 ?_
        refine z_istore_n (i := 3) (lv' := [(3, .int r325), (0, .ref (zo κ.1 c)), (1, .int v1), (2, .int v2)]) X.1 dX2_pairsAmong_30 rfl (by decide) rfl ?_
        refine z_iload_n (i := 2) X.1 dX2_pairsAmong_31 3 rfl rfl ?_
        refine z_iload_n (i := 3) X.1 dX2_pairsAmong_32 0 rfl rfl ?_
        refine z_iand X.1 dX2_pairsAmong_33 ?_
        refine z_iload_n (i := 3) X.1 dX2_pairsAmong_34 0 rfl rfl ?_
        refine z_icmp_eq (tgt := 47) X.1 dX2_pairsAmong_35 (by decide) h (fun q328 h => ?_) (fun q328 h => ?_)
        · refine z_iconst (v := (1 : Int32)) X.1 dX2_pairsAmong_47 (by decide) ?_
          refine z_aload_n (i := 0) X.1 dX2_pairsAmong_48 1 rfl rfl ?_
          refine z_iload_n (i := 1) X.1 dX2_pairsAmong_49 2 rfl rfl ?_
          refine z_iconst (v := (1 : Int32)) X.1 dX2_pairsAmong_50 (by decide) ?_
          refine z_isub X.1 dX2_pairsAmong_51 ?_
          refine z_iload_n (i := 2) X.1 dX2_pairsAmong_52 3 rfl rfl ?_
          refine z_iload_n (i := 3) X.1 dX2_pairsAmong_53 0 rfl rfl ?_
          refine z_iconst (v := (-1 : Int32)) X.1 dX2_pairsAmong_54 (by decide) ?_
          refine z_ixor X.1 dX2_pairsAmong_55 ?_
          refine z_iand X.1 dX2_pairsAmong_56 ?_
          obtain ⟨r329, s330, hc331, h⟩ := bd_inv h
          refine cl_X2_71 (d1 := d0) (b := zo κ.1 c) (As := [.int (v1 - (1 : Int32)), .int (v2 &&& (r325 ^^^ (-1 : Int32)))]) (rest := [.int (1 : Int32)]) X.1 hd (hR _ _ _ _ _ hc331) (rcX2 hc) rfl rfl (Nat.le_of_ble_eq_true rfl) dX2_pairsAmong_57 ?_
          refine z_iadd X.1 dX2_pairsAmong_60 ?_
          refine z_istore_m (i := 4) (lv' := fun x332 => [(4, .int x332), (3, .int r325), (0, .ref (zo κ.1 c)), (1, .int v1), (2, .int v2)]) X.1 dX2_pairsAmong_61 (by decide) (fun _ => rfl) h (fun x332 h => ?_)
          refine z_iload X.1 dX2_pairsAmong_63 0 rfl ?_
          refine z_iload_n (i := 2) X.1 dX2_pairsAmong_65 4 rfl rfl ?_
          obtain ⟨r333, s334, hc335, h⟩ := bd_inv h
          refine cl_X2_62 (d1 := 0) (As := [.int v2]) (rest := [.int x332]) X.1 (Nat.le_trans (by decide) hb) (C_J6_bitCount_0f7a4 X.2.1 hc335) rfl rfl (Nat.le_of_ble_eq_true rfl) dX2_pairsAmong_66 ?_
          refine z_iconst (v := (2 : Int32)) X.1 dX2_pairsAmong_69 (by decide) ?_
          refine z_idiv X.1 dX2_pairsAmong_70 (by decide) ?_
          refine z_icmp_ne (tgt := 78) X.1 dX2_pairsAmong_71 (by decide) h (fun q336 h => ?_) (fun q336 h => ?_)
          · refine z_iconst (v := (0 : Int32)) X.1 dX2_pairsAmong_78 (by decide) ?_
            exact z_sub [2, 3, 4, 0] rfl (B_X2_pairsAmong_79 X hc hR hd hb h)
          · refine z_iconst (v := (1 : Int32)) X.1 dX2_pairsAmong_74 (by decide) ?_
            refine z_goto (tgt := 79) X.1 dX2_pairsAmong_75 (by decide) ?_
            exact z_sub [2, 3, 4, 0] rfl (B_X2_pairsAmong_79 X hc hR hd hb h)
        · refine z_aload_n (i := 0) X.1 dX2_pairsAmong_38 1 rfl rfl ?_
          refine z_iload_n (i := 1) X.1 dX2_pairsAmong_39 2 rfl rfl ?_
          refine z_iconst (v := (1 : Int32)) X.1 dX2_pairsAmong_40 (by decide) ?_
          refine z_isub X.1 dX2_pairsAmong_41 ?_
          refine z_iload_n (i := 2) X.1 dX2_pairsAmong_42 3 rfl rfl ?_
          obtain ⟨r341, s342, hc343, h⟩ := bd_inv h
          refine cl_X2_71 (d1 := d0) (b := zo κ.1 c) (As := [.int (v1 - (1 : Int32)), .int v2]) (rest := []) X.1 hd (hR _ _ _ _ _ hc343) (rcX2 hc) rfl rfl (Nat.le_of_ble_eq_true rfl) dX2_pairsAmong_43 ?_
          exact z_iret X dX2_pairsAmong_46 h
      · refine z_iconst (v := (0 : Int32)) X.1 dX2_pairsAmong_21 (by decide) ?_
        exact z_iret X dX2_pairsAmong_22 h
noncomputable def F_X2_pairsAmong (k : Nat) (c : Nat) : Int32 → Int32 → S3 → R3 := zl2 (F_X2_pairsAmong_0 c) k
theorem Ck_X2_pairsAmong {ζ : zW} (hZ : zDis ζ zX) {c : Nat} (hc : zNet c) : ∀ (k : Nat) (v1 : Int32) (v2 : Int32) (σ σ' : S3) (r : Int32), F_X2_pairsAmong k c v1 v2 σ = some (r, σ') → zMet ζ zX (1 + k) yX2_pairsAmong cX2_pairsAmong 6 (some .int) [.ref (zo ζ c), .int v1, .int v2] σ (some (.int r)) σ' := by
  intro k
  induction k with
  | zero =>
    intro v1 v2 σ σ' r h
    cases (show (none : R3) = some (r, σ') from h)
  | succ k ih =>
    intro v1 v2 σ σ' r h
    have h : F_X2_pairsAmong_0 c (F_X2_pairsAmong k c) v1 v2 σ = some (r, σ') := h
    exact zMet_of pn_X2 hZ (Nat.le_of_ble_eq_true rfl) (fun κ e X => by subst e; exact B_X2_pairsAmong_0 X hc ih (Nat.le_refl _) (by omega) h)
theorem C_X2_pairsAmong {ζ : zW} (hZ : zDis ζ zX) {c : Nat} (hc : zNet c) {v1 : Int32} {v2 : Int32} {σ σ' : S3} {r : Int32} (h : F_X2_pairsAmong 20 c v1 v2 σ = some (r, σ')) : zMet ζ zX 21 yX2_pairsAmong cX2_pairsAmong 6 (some .int) [.ref (zo ζ c), .int v1, .int v2] σ (some (.int r)) σ' := Ck_X2_pairsAmong hZ hc 20 _ _ _ _ _ h
noncomputable def F_X2_mostPairs (c : Nat) (v1 : Int32) (σ : S3) : R3 :=
  bd (F_X2_pairsAmong 20 c (σ c 1 0) v1 σ) (fun r316 s317 => some (r316, s317))
set_option maxHeartbeats 4000000 in
set_option maxRecDepth 100000 in
theorem B_X2_mostPairs_0 {κ : zT} {σ' : S3} {r : Int32} (X : zC κ zX RX2 cX2_mostPairs 2 (some .int) 22 (some (.int r)) σ') {c : Nat} (hc : zNet c) {v1 : Int32} {σ : S3} (h : F_X2_mostPairs c v1 σ = some (r, σ')) : Z κ 2 (zX (ze κ.1) σ) [(0, .ref (zo κ.1 c)), (1, .int v1)] 0 [] := by
  unfold F_X2_mostPairs at h
  refine z_aload_n (i := 0) X.1 dX2_mostPairs_0 0 rfl rfl ?_
  refine z_aload_n (i := 0) X.1 dX2_mostPairs_1 0 rfl rfl ?_
  refine g_X2_lines hc X.1 tw100 dX2_mostPairs_2 ?_
  refine z_iload_n (i := 1) X.1 dX2_mostPairs_5 1 rfl rfl ?_
  obtain ⟨r316, s317, hc318, h⟩ := bd_inv h
  refine cl_X2_71 (d1 := 21) (b := zo κ.1 c) (As := [.int (σ c 1 0), .int v1]) (rest := []) X.1 (by decide) (C_X2_pairsAmong X.2.1 hc hc318) (rcX2 hc) rfl rfl (Nat.le_of_ble_eq_true rfl) dX2_mostPairs_6 ?_
  exact z_iret X dX2_mostPairs_9 h
theorem C_X2_mostPairs {ζ : zW} (hZ : zDis ζ zX) {c : Nat} (hc : zNet c) {v1 : Int32} {σ σ' : S3} {r : Int32} (h : F_X2_mostPairs c v1 σ = some (r, σ')) : zMet ζ zX 22 yX2_mostPairs cX2_mostPairs 2 (some .int) [.ref (zo ζ c), .int v1] σ (some (.int r)) σ' :=
  zMet_of pn_X2 hZ (Nat.le_of_ble_eq_true rfl) (fun κ e X => by subst e; exact B_X2_mostPairs_0 X hc h)
noncomputable def Fb_X2_leastPairing_23 (c : Nat) (K23 : Int32 → Int32 → Int32 → Int32 → S3 → R3) (v2 : Int32) (v3 : Int32) (v4 : Int32) (v5 : Int32) (σ : S3) : R3 :=
  if v5 < (0 : Int32) then (some (v2, σ))
  else (if v4 ≤ (0 : Int32) then (some (v2, σ))
  else (bd (F_X2_pairsAmong 20 c v5 v3 σ) (fun r350 s351 => if v4 ≤ r350 then (nm (v5 + (-1 : Int32)) (fun x354 => K23 v2 v3 v4 x354 s351))
  else (nm (v2 ||| ((1 : Int32) <<< (v5 &&& 31))) (fun x355 => bd (F_X2_endsAsSet c v5 s351) (fun r356 s357 => nm (v3 &&& (r356 ^^^ (-1 : Int32))) (fun x359 => nm (v4 + (-1 : Int32)) (fun x360 => nm (v5 + (-1 : Int32)) (fun x361 => K23 x355 x359 x360 x361 s357)))))))))
noncomputable def F_X2_leastPairing_23 (c : Nat) (n : Nat) : Int32 → Int32 → Int32 → Int32 → S3 → R3 := zl4 (Fb_X2_leastPairing_23 c) n
set_option maxHeartbeats 4000000 in
set_option maxRecDepth 100000 in
theorem B_X2_leastPairing_23 {κ : zT} {σ' : S3} {r : Int32} (X : zC κ zX RX2 cX2_leastPairing 6 (some .int) 22 (some (.int r)) σ') {c : Nat} (hc : zNet c) : ∀ (n : Nat) (v2 : Int32) (v3 : Int32) (v4 : Int32) (v5 : Int32) (σ : S3), F_X2_leastPairing_23 c n v2 v3 v4 v5 σ = some (r, σ') → Z κ 6 (zX (ze κ.1) σ) [(0, .ref (zo κ.1 c)), (2, .int v2), (3, .int v3), (4, .int v4), (5, .int v5)] 23 [] := by
  intro n
  induction n with
  | zero =>
    intro v2 v3 v4 v5 σ h
    cases (show (none : R3) = some (r, σ') from h)
  | succ n ih =>
    intro v2 v3 v4 v5 σ h
    have hK23 := ih
    have h : Fb_X2_leastPairing_23 c (F_X2_leastPairing_23 c n) v2 v3 v4 v5 σ = some (r, σ') := h
    unfold Fb_X2_leastPairing_23 at h
    refine z_iload X.1 dX2_leastPairing_23 4 rfl ?_
    refine z_if_lt (tgt := 72) X.1 dX2_leastPairing_25 (by decide) h (fun q348 h => ?_) (fun q348 h => ?_)
    · refine z_iload_n (i := 2) X.1 dX2_leastPairing_72 1 rfl rfl ?_
      exact z_iret X dX2_leastPairing_73 h
    · refine z_iload X.1 dX2_leastPairing_28 3 rfl ?_
      refine z_if_le (tgt := 72) X.1 dX2_leastPairing_30 (by decide) h (fun q349 h => ?_) (fun q349 h => ?_)
      · refine z_iload_n (i := 2) X.1 dX2_leastPairing_72 1 rfl rfl ?_
        exact z_iret X dX2_leastPairing_73 h
      · refine z_aload_n (i := 0) X.1 dX2_leastPairing_33 0 rfl rfl ?_
        refine z_iload X.1 dX2_leastPairing_34 4 rfl ?_
        refine z_iload_n (i := 3) X.1 dX2_leastPairing_36 2 rfl rfl ?_
        obtain ⟨r350, s351, hc352, h⟩ := bd_inv h
        refine cl_X2_71 (d1 := 21) (b := zo κ.1 c) (As := [.int v5, .int v3]) (rest := []) X.1 (by decide) (C_X2_pairsAmong X.2.1 hc hc352) (rcX2 hc) rfl rfl (Nat.le_of_ble_eq_true rfl) dX2_leastPairing_37 ?_
        refine z_iload X.1 dX2_leastPairing_40 3 rfl ?_
        refine z_icmp_ge (tgt := 66) X.1 dX2_leastPairing_42 (by decide) h (fun q353 h => ?_) (fun q353 h => ?_)
        · refine z_iinc_m (v := (-1 : Int32)) (lv' := fun x354 => [(5, .int x354), (0, .ref (zo κ.1 c)), (2, .int v2), (3, .int v3), (4, .int v4)]) X.1 dX2_leastPairing_66 4 rfl (by decide) (by decide) (fun _ => rfl) h (fun x354 h => ?_)
          refine z_goto (tgt := 23) X.1 dX2_leastPairing_69 (by decide) ?_
          exact z_sub [1, 2, 3, 4, 0] rfl (hK23 _ _ _ _ _ h)
        · refine z_iload_n (i := 2) X.1 dX2_leastPairing_45 1 rfl rfl ?_
          refine z_iconst (v := (1 : Int32)) X.1 dX2_leastPairing_46 (by decide) ?_
          refine z_iload X.1 dX2_leastPairing_47 4 rfl ?_
          refine z_ishl X.1 dX2_leastPairing_49 ?_
          refine z_ior X.1 dX2_leastPairing_50 ?_
          refine z_istore_nn (i := 2) (lv' := fun x355 => [(2, .int x355), (0, .ref (zo κ.1 c)), (3, .int v3), (4, .int v4), (5, .int v5)]) X.1 dX2_leastPairing_51 rfl (by decide) (fun _ => rfl) h (fun x355 h => ?_)
          refine z_iload_n (i := 3) X.1 dX2_leastPairing_52 2 rfl rfl ?_
          refine z_aload_n (i := 0) X.1 dX2_leastPairing_53 1 rfl rfl ?_
          refine z_iload X.1 dX2_leastPairing_54 4 rfl ?_
          obtain ⟨r356, s357, hc358, h⟩ := bd_inv h
          refine cl_X2_75 (d1 := 0) (b := zo κ.1 c) (As := [.int v5]) (rest := [.int v3]) X.1 (by decide) (C_X2_endsAsSet X.2.1 hc hc358) (rcX2 hc) rfl rfl (Nat.le_of_ble_eq_true rfl) dX2_leastPairing_56 ?_
          refine z_iconst (v := (-1 : Int32)) X.1 dX2_leastPairing_59 (by decide) ?_
          refine z_ixor X.1 dX2_leastPairing_60 ?_
          refine z_iand X.1 dX2_leastPairing_61 ?_
          refine z_istore_nn (i := 3) (lv' := fun x359 => [(3, .int x359), (2, .int x355), (0, .ref (zo κ.1 c)), (4, .int v4), (5, .int v5)]) X.1 dX2_leastPairing_62 rfl (by decide) (fun _ => rfl) h (fun x359 h => ?_)
          refine z_iinc_m (v := (-1 : Int32)) (lv' := fun x360 => [(4, .int x360), (3, .int x359), (2, .int x355), (0, .ref (zo κ.1 c)), (5, .int v5)]) X.1 dX2_leastPairing_63 3 rfl (by decide) (by decide) (fun _ => rfl) h (fun x360 h => ?_)
          refine z_iinc_m (v := (-1 : Int32)) (lv' := fun x361 => [(5, .int x361), (4, .int x360), (3, .int x359), (2, .int x355), (0, .ref (zo κ.1 c))]) X.1 dX2_leastPairing_66 4 rfl (by decide) (by decide) (fun _ => rfl) h (fun x361 h => ?_)
          refine z_goto (tgt := 23) X.1 dX2_leastPairing_69 (by decide) ?_
          exact z_sub [4, 3, 2, 1, 0] rfl (hK23 _ _ _ _ _ h)
noncomputable def F_X2_leastPairing (c : Nat) (v1 : Int32) (σ : S3) : R3 :=
  bd (F_X2_pairsAmong 20 c (σ c 1 0) v1 σ) (fun r344 s345 => nm ((s345 c 1 0) - (1 : Int32)) (fun x347 => F_X2_leastPairing_23 c zF (0 : Int32) v1 r344 x347 s345))
set_option maxHeartbeats 4000000 in
set_option maxRecDepth 100000 in
theorem B_X2_leastPairing_0 {κ : zT} {σ' : S3} {r : Int32} (X : zC κ zX RX2 cX2_leastPairing 6 (some .int) 22 (some (.int r)) σ') {c : Nat} (hc : zNet c) {v1 : Int32} {σ : S3} (h : F_X2_leastPairing c v1 σ = some (r, σ')) : Z κ 6 (zX (ze κ.1) σ) [(0, .ref (zo κ.1 c)), (1, .int v1)] 0 [] := by
  unfold F_X2_leastPairing at h
  refine z_iconst (v := (0 : Int32)) X.1 dX2_leastPairing_0 (by decide) ?_
  refine z_istore_n (i := 2) (lv' := [(2, .int (0 : Int32)), (0, .ref (zo κ.1 c)), (1, .int v1)]) X.1 dX2_leastPairing_1 rfl (by decide) rfl ?_
  refine z_iload_n (i := 1) X.1 dX2_leastPairing_2 2 rfl rfl ?_
  refine z_istore_n (i := 3) (lv' := [(3, .int v1), (2, .int (0 : Int32)), (0, .ref (zo κ.1 c)), (1, .int v1)]) X.1 dX2_leastPairing_3 rfl (by decide) rfl ?_
  refine z_aload_n (i := 0) X.1 dX2_leastPairing_4 2 rfl rfl ?_
  refine z_aload_n (i := 0) X.1 dX2_leastPairing_5 2 rfl rfl ?_
  refine g_X2_lines hc X.1 tw100 dX2_leastPairing_6 ?_
  refine z_iload_n (i := 3) X.1 dX2_leastPairing_9 0 rfl rfl ?_
  obtain ⟨r344, s345, hc346, h⟩ := bd_inv h
  refine cl_X2_71 (d1 := 21) (b := zo κ.1 c) (As := [.int (σ c 1 0), .int v1]) (rest := []) X.1 (by decide) (C_X2_pairsAmong X.2.1 hc hc346) (rcX2 hc) rfl rfl (Nat.le_of_ble_eq_true rfl) dX2_leastPairing_10 ?_
  refine z_istore (i := 4) (lv' := [(4, .int r344), (3, .int v1), (2, .int (0 : Int32)), (0, .ref (zo κ.1 c)), (1, .int v1)]) X.1 dX2_leastPairing_13 (by decide) rfl ?_
  refine z_aload_n (i := 0) X.1 dX2_leastPairing_15 3 rfl rfl ?_
  refine g_X2_lines hc X.1 tw100 dX2_leastPairing_16 ?_
  refine z_iconst (v := (1 : Int32)) X.1 dX2_leastPairing_19 (by decide) ?_
  refine z_isub X.1 dX2_leastPairing_20 ?_
  refine z_istore_m (i := 5) (lv' := fun x347 => [(5, .int x347), (4, .int r344), (3, .int v1), (2, .int (0 : Int32)), (0, .ref (zo κ.1 c)), (1, .int v1)]) X.1 dX2_leastPairing_21 (by decide) (fun _ => rfl) h (fun x347 h => ?_)
  exact z_sub [4, 3, 2, 1, 0] rfl (B_X2_leastPairing_23 X hc zF _ _ _ _ _ h)
theorem C_X2_leastPairing {ζ : zW} (hZ : zDis ζ zX) {c : Nat} (hc : zNet c) {v1 : Int32} {σ σ' : S3} {r : Int32} (h : F_X2_leastPairing c v1 σ = some (r, σ')) : zMet ζ zX 22 yX2_leastPairing cX2_leastPairing 6 (some .int) [.ref (zo ζ c), .int v1] σ (some (.int r)) σ' :=
  zMet_of pn_X2 hZ (Nat.le_of_ble_eq_true rfl) (fun κ e X => by subst e; exact B_X2_leastPairing_0 X hc h)
noncomputable def Fb_X2_neededPoints_13 (c : Nat) (v1 : Int32) (K13 : Int32 → Int32 → S3 → R3) (v2 : Int32) (v3 : Int32) (σ : S3) : R3 :=
  if (σ c 0 0) ≤ v3 then (some (v2, σ))
  else (bd (F_X2_everyPoint c σ) (fun r369 s370 => bd (F_X2_mostPairs c (r369 &&& (((1 : Int32) <<< (v3 &&& 31)) ^^^ (-1 : Int32))) s370) (fun r372 s373 => if v1 ≤ r372 then (nm (v3 + (1 : Int32)) (fun x376 => K13 v2 x376 s373))
  else (nm (v2 ||| ((1 : Int32) <<< (v3 &&& 31))) (fun x377 => nm (v3 + (1 : Int32)) (fun x378 => K13 x377 x378 s373))))))
noncomputable def F_X2_neededPoints_13 (c : Nat) (v1 : Int32) (n : Nat) : Int32 → Int32 → S3 → R3 := zl2 (Fb_X2_neededPoints_13 c v1) n
set_option maxHeartbeats 4000000 in
set_option maxRecDepth 100000 in
theorem B_X2_neededPoints_13 {κ : zT} {σ' : S3} {r : Int32} (X : zC κ zX RX2 cX2_neededPoints 4 (some .int) 23 (some (.int r)) σ') {c : Nat} (hc : zNet c) {v1 : Int32} : ∀ (n : Nat) (v2 : Int32) (v3 : Int32) (σ : S3), F_X2_neededPoints_13 c v1 n v2 v3 σ = some (r, σ') → Z κ 4 (zX (ze κ.1) σ) [(0, .ref (zo κ.1 c)), (1, .int v1), (2, .int v2), (3, .int v3)] 13 [] := by
  intro n
  induction n with
  | zero =>
    intro v2 v3 σ h
    cases (show (none : R3) = some (r, σ') from h)
  | succ n ih =>
    intro v2 v3 σ h
    have hK13 := ih
    have h : Fb_X2_neededPoints_13 c v1 (F_X2_neededPoints_13 c v1 n) v2 v3 σ = some (r, σ') := h
    unfold Fb_X2_neededPoints_13 at h
    refine z_iload_n (i := 3) X.1 dX2_neededPoints_13 3 rfl rfl ?_
    refine z_aload_n (i := 0) X.1 dX2_neededPoints_14 0 rfl rfl ?_
    refine g_X2_size hc X.1 tw97 dX2_neededPoints_15 ?_
    refine z_icmp_ge (tgt := 51) X.1 dX2_neededPoints_18 (by decide) h (fun q368 h => ?_) (fun q368 h => ?_)
    · refine z_iload_n (i := 2) X.1 dX2_neededPoints_51 2 rfl rfl ?_
      exact z_iret X dX2_neededPoints_52 h
    · refine z_aload_n (i := 0) X.1 dX2_neededPoints_21 0 rfl rfl ?_
      refine z_aload_n (i := 0) X.1 dX2_neededPoints_22 0 rfl rfl ?_
      obtain ⟨r369, s370, hc371, h⟩ := bd_inv h
      refine cl_X2_83 (d1 := 0) (b := zo κ.1 c) (As := []) (rest := [.ref (zo κ.1 c)]) X.1 (by decide) (C_X2_everyPoint X.2.1 hc hc371) (rcX2 hc) rfl rfl (Nat.le_of_ble_eq_true rfl) dX2_neededPoints_23 ?_
      refine z_iconst (v := (1 : Int32)) X.1 dX2_neededPoints_26 (by decide) ?_
      refine z_iload_n (i := 3) X.1 dX2_neededPoints_27 3 rfl rfl ?_
      refine z_ishl X.1 dX2_neededPoints_28 ?_
      refine z_iconst (v := (-1 : Int32)) X.1 dX2_neededPoints_29 (by decide) ?_
      refine z_ixor X.1 dX2_neededPoints_30 ?_
      refine z_iand X.1 dX2_neededPoints_31 ?_
      obtain ⟨r372, s373, hc374, h⟩ := bd_inv h
      refine cl_X2_87 (d1 := 22) (b := zo κ.1 c) (As := [.int (r369 &&& (((1 : Int32) <<< (v3 &&& 31)) ^^^ (-1 : Int32)))]) (rest := []) X.1 (by decide) (C_X2_mostPairs X.2.1 hc hc374) (rcX2 hc) rfl rfl (Nat.le_of_ble_eq_true rfl) dX2_neededPoints_32 ?_
      refine z_iload_n (i := 1) X.1 dX2_neededPoints_35 1 rfl rfl ?_
      refine z_icmp_ge (tgt := 45) X.1 dX2_neededPoints_36 (by decide) h (fun q375 h => ?_) (fun q375 h => ?_)
      · refine z_iinc_m (v := (1 : Int32)) (lv' := fun x376 => [(3, .int x376), (0, .ref (zo κ.1 c)), (1, .int v1), (2, .int v2)]) X.1 dX2_neededPoints_45 3 rfl (by decide) (by decide) (fun _ => rfl) h (fun x376 h => ?_)
        refine z_goto (tgt := 13) X.1 dX2_neededPoints_48 (by decide) ?_
        exact z_sub [1, 2, 3, 0] rfl (hK13 _ _ _ h)
      · refine z_iload_n (i := 2) X.1 dX2_neededPoints_39 2 rfl rfl ?_
        refine z_iconst (v := (1 : Int32)) X.1 dX2_neededPoints_40 (by decide) ?_
        refine z_iload_n (i := 3) X.1 dX2_neededPoints_41 3 rfl rfl ?_
        refine z_ishl X.1 dX2_neededPoints_42 ?_
        refine z_ior X.1 dX2_neededPoints_43 ?_
        refine z_istore_nn (i := 2) (lv' := fun x377 => [(2, .int x377), (0, .ref (zo κ.1 c)), (1, .int v1), (3, .int v3)]) X.1 dX2_neededPoints_44 rfl (by decide) (fun _ => rfl) h (fun x377 h => ?_)
        refine z_iinc_m (v := (1 : Int32)) (lv' := fun x378 => [(3, .int x378), (2, .int x377), (0, .ref (zo κ.1 c)), (1, .int v1)]) X.1 dX2_neededPoints_45 3 rfl (by decide) (by decide) (fun _ => rfl) h (fun x378 h => ?_)
        refine z_goto (tgt := 13) X.1 dX2_neededPoints_48 (by decide) ?_
        exact z_sub [2, 3, 1, 0] rfl (hK13 _ _ _ h)
noncomputable def F_X2_neededPoints (c : Nat) (σ : S3) : R3 :=
  bd (F_X2_everyPoint c σ) (fun r362 s363 => bd (F_X2_mostPairs c r362 s363) (fun r365 s366 => F_X2_neededPoints_13 c r365 zF (0 : Int32) (0 : Int32) s366))
set_option maxHeartbeats 4000000 in
set_option maxRecDepth 100000 in
theorem B_X2_neededPoints_0 {κ : zT} {σ' : S3} {r : Int32} (X : zC κ zX RX2 cX2_neededPoints 4 (some .int) 23 (some (.int r)) σ') {c : Nat} (hc : zNet c) {σ : S3} (h : F_X2_neededPoints c σ = some (r, σ')) : Z κ 4 (zX (ze κ.1) σ) [(0, .ref (zo κ.1 c))] 0 [] := by
  unfold F_X2_neededPoints at h
  refine z_aload_n (i := 0) X.1 dX2_neededPoints_0 0 rfl rfl ?_
  refine z_aload_n (i := 0) X.1 dX2_neededPoints_1 0 rfl rfl ?_
  obtain ⟨r362, s363, hc364, h⟩ := bd_inv h
  refine cl_X2_83 (d1 := 0) (b := zo κ.1 c) (As := []) (rest := [.ref (zo κ.1 c)]) X.1 (by decide) (C_X2_everyPoint X.2.1 hc hc364) (rcX2 hc) rfl rfl (Nat.le_of_ble_eq_true rfl) dX2_neededPoints_2 ?_
  obtain ⟨r365, s366, hc367, h⟩ := bd_inv h
  refine cl_X2_87 (d1 := 22) (b := zo κ.1 c) (As := [.int r362]) (rest := []) X.1 (by decide) (C_X2_mostPairs X.2.1 hc hc367) (rcX2 hc) rfl rfl (Nat.le_of_ble_eq_true rfl) dX2_neededPoints_5 ?_
  refine z_istore_n (i := 1) (lv' := [(1, .int r365), (0, .ref (zo κ.1 c))]) X.1 dX2_neededPoints_8 rfl (by decide) rfl ?_
  refine z_iconst (v := (0 : Int32)) X.1 dX2_neededPoints_9 (by decide) ?_
  refine z_istore_n (i := 2) (lv' := [(2, .int (0 : Int32)), (1, .int r365), (0, .ref (zo κ.1 c))]) X.1 dX2_neededPoints_10 rfl (by decide) rfl ?_
  refine z_iconst (v := (0 : Int32)) X.1 dX2_neededPoints_11 (by decide) ?_
  refine z_istore_n (i := 3) (lv' := [(3, .int (0 : Int32)), (2, .int (0 : Int32)), (1, .int r365), (0, .ref (zo κ.1 c))]) X.1 dX2_neededPoints_12 rfl (by decide) rfl ?_
  exact z_sub [3, 2, 1, 0] rfl (B_X2_neededPoints_13 X hc zF _ _ _ h)
theorem C_X2_neededPoints {ζ : zW} (hZ : zDis ζ zX) {c : Nat} (hc : zNet c) {σ σ' : S3} {r : Int32} (h : F_X2_neededPoints c  σ = some (r, σ')) : zMet ζ zX 23 yX2_neededPoints cX2_neededPoints 4 (some .int) [.ref (zo ζ c)] σ (some (.int r)) σ' :=
  zMet_of pn_X2 hZ (Nat.le_of_ble_eq_true rfl) (fun κ e X => by subst e; exact B_X2_neededPoints_0 X hc h)
noncomputable def F_J6_numberOfLeadingZeros_0f7a4_61 (v0 : Int32) (v1 : Int32) (σ : S3) : R3 :=
  if v0 < (4 : Int32) then (some (v1 - ((Int32.toUInt32 v0 >>> (Int32.toUInt32 (1 : Int32) &&& Int32.toUInt32 31)).toInt32), σ))
  else (nm (v1 + (-2 : Int32)) (fun x399 => nm ((Int32.toUInt32 v0 >>> (Int32.toUInt32 (2 : Int32) &&& Int32.toUInt32 31)).toInt32) (fun x400 => some (x399 - ((Int32.toUInt32 x400 >>> (Int32.toUInt32 (1 : Int32) &&& Int32.toUInt32 31)).toInt32), σ))))
set_option maxHeartbeats 4000000 in
set_option maxRecDepth 100000 in
theorem B_J6_numberOfLeadingZeros_0f7a4_61 {κ : zT} {σ' : S3} {r : Int32} (X : zC κ zX RJ6 cJ6_numberOfLeadingZeros_0f7a4 2 (some .int) 0 (some (.int r)) σ') {v0 : Int32} {v1 : Int32} {σ : S3} (h : F_J6_numberOfLeadingZeros_0f7a4_61 v0 v1 σ = some (r, σ')) : Z κ 2 (zX (ze κ.1) σ) [(0, .int v0), (1, .int v1)] 61 [] := by
  unfold F_J6_numberOfLeadingZeros_0f7a4_61 at h
  refine z_iload_n (i := 0) X.1 dJ6_numberOfLeadingZeros_0f7a4_61 0 rfl rfl ?_
  refine z_iconst (v := (4 : Int32)) X.1 dJ6_numberOfLeadingZeros_0f7a4_62 (by decide) ?_
  refine z_icmp_lt (tgt := 73) X.1 dJ6_numberOfLeadingZeros_0f7a4_63 (by decide) h (fun q398 h => ?_) (fun q398 h => ?_)
  · refine z_iload_n (i := 1) X.1 dJ6_numberOfLeadingZeros_0f7a4_73 1 rfl rfl ?_
    refine z_iload_n (i := 0) X.1 dJ6_numberOfLeadingZeros_0f7a4_74 0 rfl rfl ?_
    refine z_iconst (v := (1 : Int32)) X.1 dJ6_numberOfLeadingZeros_0f7a4_75 (by decide) ?_
    refine z_iushr X.1 dJ6_numberOfLeadingZeros_0f7a4_76 ?_
    refine z_isub X.1 dJ6_numberOfLeadingZeros_0f7a4_77 ?_
    exact z_iret X dJ6_numberOfLeadingZeros_0f7a4_78 h
  · refine z_iinc_m (v := (-2 : Int32)) (lv' := fun x399 => [(1, .int x399), (0, .int v0)]) X.1 dJ6_numberOfLeadingZeros_0f7a4_66 1 rfl (by decide) (by decide) (fun _ => rfl) h (fun x399 h => ?_)
    refine z_iload_n (i := 0) X.1 dJ6_numberOfLeadingZeros_0f7a4_69 1 rfl rfl ?_
    refine z_iconst (v := (2 : Int32)) X.1 dJ6_numberOfLeadingZeros_0f7a4_70 (by decide) ?_
    refine z_iushr X.1 dJ6_numberOfLeadingZeros_0f7a4_71 ?_
    refine z_istore_nn (i := 0) (lv' := fun x400 => [(0, .int x400), (1, .int x399)]) X.1 dJ6_numberOfLeadingZeros_0f7a4_72 rfl (by decide) (fun _ => rfl) h (fun x400 h => ?_)
    refine z_iload_n (i := 1) X.1 dJ6_numberOfLeadingZeros_0f7a4_73 1 rfl rfl ?_
    refine z_iload_n (i := 0) X.1 dJ6_numberOfLeadingZeros_0f7a4_74 0 rfl rfl ?_
    refine z_iconst (v := (1 : Int32)) X.1 dJ6_numberOfLeadingZeros_0f7a4_75 (by decide) ?_
    refine z_iushr X.1 dJ6_numberOfLeadingZeros_0f7a4_76 ?_
    refine z_isub X.1 dJ6_numberOfLeadingZeros_0f7a4_77 ?_
    exact z_iret X dJ6_numberOfLeadingZeros_0f7a4_78 h
noncomputable def F_J6_numberOfLeadingZeros_0f7a4_48 (v0 : Int32) (v1 : Int32) (σ : S3) : R3 :=
  if v0 < (16 : Int32) then (F_J6_numberOfLeadingZeros_0f7a4_61 v0 v1 σ)
  else (nm (v1 + (-4 : Int32)) (fun x401 => nm ((Int32.toUInt32 v0 >>> (Int32.toUInt32 (4 : Int32) &&& Int32.toUInt32 31)).toInt32) (fun x402 => F_J6_numberOfLeadingZeros_0f7a4_61 x402 x401 σ)))
set_option maxHeartbeats 4000000 in
set_option maxRecDepth 100000 in
theorem B_J6_numberOfLeadingZeros_0f7a4_48 {κ : zT} {σ' : S3} {r : Int32} (X : zC κ zX RJ6 cJ6_numberOfLeadingZeros_0f7a4 2 (some .int) 0 (some (.int r)) σ') {v0 : Int32} {v1 : Int32} {σ : S3} (h : F_J6_numberOfLeadingZeros_0f7a4_48 v0 v1 σ = some (r, σ')) : Z κ 2 (zX (ze κ.1) σ) [(0, .int v0), (1, .int v1)] 48 [] := by
  unfold F_J6_numberOfLeadingZeros_0f7a4_48 at h
  refine z_iload_n (i := 0) X.1 dJ6_numberOfLeadingZeros_0f7a4_48 0 rfl rfl ?_
  refine z_bipush (v := (16 : Int32)) X.1 dJ6_numberOfLeadingZeros_0f7a4_49 (by decide) ?_
  refine z_icmp_lt (tgt := 61) X.1 dJ6_numberOfLeadingZeros_0f7a4_51 (by decide) h (fun q397 h => ?_) (fun q397 h => ?_)
  · exact z_sub [0, 1] rfl (B_J6_numberOfLeadingZeros_0f7a4_61 X h)
  · refine z_iinc_m (v := (-4 : Int32)) (lv' := fun x401 => [(1, .int x401), (0, .int v0)]) X.1 dJ6_numberOfLeadingZeros_0f7a4_54 1 rfl (by decide) (by decide) (fun _ => rfl) h (fun x401 h => ?_)
    refine z_iload_n (i := 0) X.1 dJ6_numberOfLeadingZeros_0f7a4_57 1 rfl rfl ?_
    refine z_iconst (v := (4 : Int32)) X.1 dJ6_numberOfLeadingZeros_0f7a4_58 (by decide) ?_
    refine z_iushr X.1 dJ6_numberOfLeadingZeros_0f7a4_59 ?_
    refine z_istore_nn (i := 0) (lv' := fun x402 => [(0, .int x402), (1, .int x401)]) X.1 dJ6_numberOfLeadingZeros_0f7a4_60 rfl (by decide) (fun _ => rfl) h (fun x402 h => ?_)
    exact z_sub [0, 1] rfl (B_J6_numberOfLeadingZeros_0f7a4_61 X h)
noncomputable def F_J6_numberOfLeadingZeros_0f7a4_33 (v0 : Int32) (v1 : Int32) (σ : S3) : R3 :=
  if v0 < (256 : Int32) then (F_J6_numberOfLeadingZeros_0f7a4_48 v0 v1 σ)
  else (nm (v1 + (-8 : Int32)) (fun x403 => nm ((Int32.toUInt32 v0 >>> (Int32.toUInt32 (8 : Int32) &&& Int32.toUInt32 31)).toInt32) (fun x404 => F_J6_numberOfLeadingZeros_0f7a4_48 x404 x403 σ)))
set_option maxHeartbeats 4000000 in
set_option maxRecDepth 100000 in
theorem B_J6_numberOfLeadingZeros_0f7a4_33 {κ : zT} {σ' : S3} {r : Int32} (X : zC κ zX RJ6 cJ6_numberOfLeadingZeros_0f7a4 2 (some .int) 0 (some (.int r)) σ') {v0 : Int32} {v1 : Int32} {σ : S3} (h : F_J6_numberOfLeadingZeros_0f7a4_33 v0 v1 σ = some (r, σ')) : Z κ 2 (zX (ze κ.1) σ) [(0, .int v0), (1, .int v1)] 33 [] := by
  unfold F_J6_numberOfLeadingZeros_0f7a4_33 at h
  refine z_iload_n (i := 0) X.1 dJ6_numberOfLeadingZeros_0f7a4_33 0 rfl rfl ?_
  refine z_sipush (v := (256 : Int32)) X.1 dJ6_numberOfLeadingZeros_0f7a4_34 (by decide) ?_
  refine z_icmp_lt (tgt := 48) X.1 dJ6_numberOfLeadingZeros_0f7a4_37 (by decide) h (fun q396 h => ?_) (fun q396 h => ?_)
  · exact z_sub [0, 1] rfl (B_J6_numberOfLeadingZeros_0f7a4_48 X h)
  · refine z_iinc_m (v := (-8 : Int32)) (lv' := fun x403 => [(1, .int x403), (0, .int v0)]) X.1 dJ6_numberOfLeadingZeros_0f7a4_40 1 rfl (by decide) (by decide) (fun _ => rfl) h (fun x403 h => ?_)
    refine z_iload_n (i := 0) X.1 dJ6_numberOfLeadingZeros_0f7a4_43 1 rfl rfl ?_
    refine z_bipush (v := (8 : Int32)) X.1 dJ6_numberOfLeadingZeros_0f7a4_44 (by decide) ?_
    refine z_iushr X.1 dJ6_numberOfLeadingZeros_0f7a4_46 ?_
    refine z_istore_nn (i := 0) (lv' := fun x404 => [(0, .int x404), (1, .int x403)]) X.1 dJ6_numberOfLeadingZeros_0f7a4_47 rfl (by decide) (fun _ => rfl) h (fun x404 h => ?_)
    exact z_sub [0, 1] rfl (B_J6_numberOfLeadingZeros_0f7a4_48 X h)
noncomputable def F_J6_numberOfLeadingZeros_0f7a4 (v0 : Int32) (σ : S3) : R3 :=
  if (0 : Int32) < v0 then (if v0 < (65536 : Int32) then (F_J6_numberOfLeadingZeros_0f7a4_33 v0 (31 : Int32) σ)
  else (nm ((31 : Int32) + (-16 : Int32)) (fun x405 => nm ((Int32.toUInt32 v0 >>> (Int32.toUInt32 (16 : Int32) &&& Int32.toUInt32 31)).toInt32) (fun x406 => F_J6_numberOfLeadingZeros_0f7a4_33 x406 x405 σ))))
  else (if v0 = (0 : Int32) then (some ((32 : Int32), σ))
  else (some ((0 : Int32), σ)))
set_option maxHeartbeats 4000000 in
set_option maxRecDepth 100000 in
theorem B_J6_numberOfLeadingZeros_0f7a4_0 {κ : zT} {σ' : S3} {r : Int32} (X : zC κ zX RJ6 cJ6_numberOfLeadingZeros_0f7a4 2 (some .int) 0 (some (.int r)) σ') {v0 : Int32} {σ : S3} (h : F_J6_numberOfLeadingZeros_0f7a4 v0 σ = some (r, σ')) : Z κ 2 (zX (ze κ.1) σ) [(0, .int v0)] 0 [] := by
  unfold F_J6_numberOfLeadingZeros_0f7a4 at h
  refine z_iload_n (i := 0) X.1 dJ6_numberOfLeadingZeros_0f7a4_0 0 rfl rfl ?_
  refine z_if_gt (tgt := 15) X.1 dJ6_numberOfLeadingZeros_0f7a4_1 (by decide) h (fun q394 h => ?_) (fun q394 h => ?_)
  · refine z_bipush (v := (31 : Int32)) X.1 dJ6_numberOfLeadingZeros_0f7a4_15 (by decide) ?_
    refine z_istore_n (i := 1) (lv' := [(1, .int (31 : Int32)), (0, .int v0)]) X.1 dJ6_numberOfLeadingZeros_0f7a4_17 rfl (by decide) rfl ?_
    refine z_iload_n (i := 0) X.1 dJ6_numberOfLeadingZeros_0f7a4_18 1 rfl rfl ?_
    refine z_ldc_w (v := (65536 : Int32)) X.1 dJ6_numberOfLeadingZeros_0f7a4_19 tw555 ?_
    refine z_icmp_lt (tgt := 33) X.1 dJ6_numberOfLeadingZeros_0f7a4_22 (by decide) h (fun q395 h => ?_) (fun q395 h => ?_)
    · exact z_sub [1, 0] rfl (B_J6_numberOfLeadingZeros_0f7a4_33 X h)
    · refine z_iinc_m (v := (-16 : Int32)) (lv' := fun x405 => [(1, .int x405), (0, .int v0)]) X.1 dJ6_numberOfLeadingZeros_0f7a4_25 0 rfl (by decide) (by decide) (fun _ => rfl) h (fun x405 h => ?_)
      refine z_iload_n (i := 0) X.1 dJ6_numberOfLeadingZeros_0f7a4_28 1 rfl rfl ?_
      refine z_bipush (v := (16 : Int32)) X.1 dJ6_numberOfLeadingZeros_0f7a4_29 (by decide) ?_
      refine z_iushr X.1 dJ6_numberOfLeadingZeros_0f7a4_31 ?_
      refine z_istore_nn (i := 0) (lv' := fun x406 => [(0, .int x406), (1, .int x405)]) X.1 dJ6_numberOfLeadingZeros_0f7a4_32 rfl (by decide) (fun _ => rfl) h (fun x406 h => ?_)
      exact z_sub [0, 1] rfl (B_J6_numberOfLeadingZeros_0f7a4_33 X h)
  · refine z_iload_n (i := 0) X.1 dJ6_numberOfLeadingZeros_0f7a4_4 0 rfl rfl ?_
    refine z_if_ne (tgt := 13) X.1 dJ6_numberOfLeadingZeros_0f7a4_5 (by decide) h (fun q407 h => ?_) (fun q407 h => ?_)
    · refine z_iconst (v := (0 : Int32)) X.1 dJ6_numberOfLeadingZeros_0f7a4_13 (by decide) ?_
      exact z_iret X dJ6_numberOfLeadingZeros_0f7a4_14 h
    · refine z_bipush (v := (32 : Int32)) X.1 dJ6_numberOfLeadingZeros_0f7a4_8 (by decide) ?_
      refine z_goto (tgt := 14) X.1 dJ6_numberOfLeadingZeros_0f7a4_10 (by decide) ?_
      exact z_iret X dJ6_numberOfLeadingZeros_0f7a4_14 h
theorem C_J6_numberOfLeadingZeros_0f7a4 {ζ : zW} (hZ : zDis ζ zX) {v0 : Int32} {σ σ' : S3} {r : Int32} (h : F_J6_numberOfLeadingZeros_0f7a4 v0 σ = some (r, σ')) : zMet ζ zX 0 yJ6_numberOfLeadingZeros_0f7a4 cJ6_numberOfLeadingZeros_0f7a4 2 (some .int) [.int v0] σ (some (.int r)) σ' :=
  zMet_of pn_J6 hZ (Nat.le_of_ble_eq_true rfl) (fun κ e X => by subst e; exact B_J6_numberOfLeadingZeros_0f7a4_0 X h)
noncomputable def F_X3_greatest (v0 : Int32) (σ : S3) : R3 :=
  bd (F_J6_numberOfLeadingZeros_0f7a4 v0 σ) (fun r391 s392 => some ((31 : Int32) - r391, s392))
set_option maxHeartbeats 4000000 in
set_option maxRecDepth 100000 in
theorem B_X3_greatest_0 {κ : zT} {σ' : S3} {r : Int32} (X : zC κ zX RX3 cX3_greatest 1 (some .int) 1 (some (.int r)) σ') {v0 : Int32} {σ : S3} (h : F_X3_greatest v0 σ = some (r, σ')) : Z κ 1 (zX (ze κ.1) σ) [(0, .int v0)] 0 [] := by
  unfold F_X3_greatest at h
  refine z_bipush (v := (31 : Int32)) X.1 dX3_greatest_0 (by decide) ?_
  refine z_iload_n (i := 0) X.1 dX3_greatest_2 0 rfl rfl ?_
  obtain ⟨r391, s392, hc393, h⟩ := bd_inv h
  refine cl_X3_59 (d1 := 0) (As := [.int v0]) (rest := [.int (31 : Int32)]) X.1 (by decide) (C_J6_numberOfLeadingZeros_0f7a4 X.2.1 hc393) rfl rfl (Nat.le_of_ble_eq_true rfl) dX3_greatest_3 ?_
  refine z_isub X.1 dX3_greatest_6 ?_
  exact z_iret X dX3_greatest_7 h
theorem C_X3_greatest {ζ : zW} (hZ : zDis ζ zX) {v0 : Int32} {σ σ' : S3} {r : Int32} (h : F_X3_greatest v0 σ = some (r, σ')) : zMet ζ zX 1 yX3_greatest cX3_greatest 1 (some .int) [.int v0] σ (some (.int r)) σ' :=
  zMet_of pn_X3 hZ (Nat.le_of_ble_eq_true rfl) (fun κ e X => by subst e; exact B_X3_greatest_0 X h)
noncomputable def F_X3_least (v0 : Int32) (σ : S3) : R3 :=
  if v0 = (0 : Int32) then (some ((-1 : Int32), σ))
  else (bd (F_J6_numberOfTrailingZeros_0f7a4 v0 σ) (fun r416 s417 => some (r416, s417)))
set_option maxHeartbeats 4000000 in
set_option maxRecDepth 100000 in
theorem B_X3_least_0 {κ : zT} {σ' : S3} {r : Int32} (X : zC κ zX RX3 cX3_least 1 (some .int) 1 (some (.int r)) σ') {v0 : Int32} {σ : S3} (h : F_X3_least v0 σ = some (r, σ')) : Z κ 1 (zX (ze κ.1) σ) [(0, .int v0)] 0 [] := by
  unfold F_X3_least at h
  refine z_iload_n (i := 0) X.1 dX3_least_0 0 rfl rfl ?_
  refine z_if_ne (tgt := 8) X.1 dX3_least_1 (by decide) h (fun q415 h => ?_) (fun q415 h => ?_)
  · refine z_iload_n (i := 0) X.1 dX3_least_8 0 rfl rfl ?_
    obtain ⟨r416, s417, hc418, h⟩ := bd_inv h
    refine cl_X3_54 (d1 := 0) (As := [.int v0]) (rest := []) X.1 (by decide) (C_J6_numberOfTrailingZeros_0f7a4 X.2.1 hc418) rfl rfl (Nat.le_of_ble_eq_true rfl) dX3_least_9 ?_
    exact z_iret X dX3_least_12 h
  · refine z_iconst (v := (-1 : Int32)) X.1 dX3_least_4 (by decide) ?_
    refine z_goto (tgt := 12) X.1 dX3_least_5 (by decide) ?_
    exact z_iret X dX3_least_12 h
theorem C_X3_least {ζ : zW} (hZ : zDis ζ zX) {v0 : Int32} {σ σ' : S3} {r : Int32} (h : F_X3_least v0 σ = some (r, σ')) : zMet ζ zX 1 yX3_least cX3_least 1 (some .int) [.int v0] σ (some (.int r)) σ' :=
  zMet_of pn_X3 hZ (Nat.le_of_ble_eq_true rfl) (fun κ e X => by subst e; exact B_X3_least_0 X h)
noncomputable def F_X3_pairAtMarker (v1 : Int32) (σ : S3) : R3 :=
  bd (F_X5_marker v1 σ) (fun r423 s424 => bd (F_X2_everyPoint 1 s424) (fun r426 s427 => bd (F_X5_met v1 s427) (fun r429 s430 => nm ((r426 &&& (r429 ^^^ (-1 : Int32))) ||| ((1 : Int32) <<< (r423 &&& 31))) (fun x432 => bd (F_X2_leastPairing 1 x432 s430) (fun r433 s434 => ck r423 16 (some (r433 &&& (s434 1 5 (ix r423)), s434)))))))
set_option maxHeartbeats 4000000 in
set_option maxRecDepth 100000 in
theorem B_X3_pairAtMarker_0 {κ : zT} {σ' : S3} {r : Int32} (X : zC κ zX RX3 cX3_pairAtMarker 4 (some .int) 23 (some (.int r)) σ') {v1 : Int32} {σ : S3} (h : F_X3_pairAtMarker v1 σ = some (r, σ')) : Z κ 4 (zX (ze κ.1) σ) [(0, .ref (zo κ.1 4)), (1, .int v1)] 0 [] := by
  unfold F_X3_pairAtMarker at h
  refine z_iload_n (i := 1) X.1 dX3_pairAtMarker_0 1 rfl rfl ?_
  obtain ⟨r423, s424, hc425, h⟩ := bd_inv h
  refine cl_X3_62 (d1 := 0) (As := [.int v1]) (rest := []) X.1 (by decide) (C_X5_marker X.2.1 hc425) rfl rfl (Nat.le_of_ble_eq_true rfl) dX3_pairAtMarker_1 ?_
  refine z_istore_n (i := 2) (lv' := [(2, .int r423), (0, .ref (zo κ.1 4)), (1, .int v1)]) X.1 dX3_pairAtMarker_4 rfl (by decide) rfl ?_
  refine z_aload_n (i := 0) X.1 dX3_pairAtMarker_5 1 rfl rfl ?_
  refine g_X3_net X.1 tw166 dX3_pairAtMarker_6 ?_
  obtain ⟨r426, s427, hc428, h⟩ := bd_inv h
  refine cl_X3_67 (d1 := 0) (b := zo κ.1 1) (As := []) (rest := []) X.1 (by decide) (C_X2_everyPoint X.2.1 (Or.inl rfl) hc428) (rcX2 (Or.inl rfl)) rfl rfl (Nat.le_of_ble_eq_true rfl) dX3_pairAtMarker_9 ?_
  refine z_iload_n (i := 1) X.1 dX3_pairAtMarker_12 2 rfl rfl ?_
  obtain ⟨r429, s430, hc431, h⟩ := bd_inv h
  refine cl_X3_73 (d1 := 0) (As := [.int v1]) (rest := [.int r426]) X.1 (by decide) (C_X5_met X.2.1 hc431) rfl rfl (Nat.le_of_ble_eq_true rfl) dX3_pairAtMarker_13 ?_
  refine z_iconst (v := (-1 : Int32)) X.1 dX3_pairAtMarker_16 (by decide) ?_
  refine z_ixor X.1 dX3_pairAtMarker_17 ?_
  refine z_iand X.1 dX3_pairAtMarker_18 ?_
  refine z_iconst (v := (1 : Int32)) X.1 dX3_pairAtMarker_19 (by decide) ?_
  refine z_iload_n (i := 2) X.1 dX3_pairAtMarker_20 0 rfl rfl ?_
  refine z_ishl X.1 dX3_pairAtMarker_21 ?_
  refine z_ior X.1 dX3_pairAtMarker_22 ?_
  refine z_istore_nn (i := 3) (lv' := fun x432 => [(3, .int x432), (2, .int r423), (0, .ref (zo κ.1 4)), (1, .int v1)]) X.1 dX3_pairAtMarker_23 rfl (by decide) (fun _ => rfl) h (fun x432 h => ?_)
  refine z_aload_n (i := 0) X.1 dX3_pairAtMarker_24 2 rfl rfl ?_
  refine g_X3_net X.1 tw166 dX3_pairAtMarker_25 ?_
  refine z_iload_n (i := 3) X.1 dX3_pairAtMarker_28 0 rfl rfl ?_
  obtain ⟨r433, s434, hc435, h⟩ := bd_inv h
  refine cl_X3_76 (d1 := 22) (b := zo κ.1 1) (As := [.int x432]) (rest := []) X.1 (by decide) (C_X2_leastPairing X.2.1 (Or.inl rfl) hc435) (rcX2 (Or.inl rfl)) rfl rfl (Nat.le_of_ble_eq_true rfl) dX3_pairAtMarker_29 ?_
  refine z_aload_n (i := 0) X.1 dX3_pairAtMarker_32 2 rfl rfl ?_
  refine g_X3_net X.1 tw166 dX3_pairAtMarker_33 ?_
  refine g_X2_touching (Or.inl rfl) X.1 tw113 dX3_pairAtMarker_36 ?_
  refine z_iload_n (i := 2) X.1 dX3_pairAtMarker_39 1 rfl rfl ?_
  refine al_X2_touching (Or.inl rfl) X.1 dX3_pairAtMarker_40 h (fun h => ?_)
  refine z_iand X.1 dX3_pairAtMarker_41 ?_
  exact z_iret X dX3_pairAtMarker_42 h
theorem C_X3_pairAtMarker {ζ : zW} (hZ : zDis ζ zX) {v1 : Int32} {σ σ' : S3} {r : Int32} (h : F_X3_pairAtMarker v1 σ = some (r, σ')) : zMet ζ zX 23 yX3_pairAtMarker cX3_pairAtMarker 4 (some .int) [.ref (zo ζ 4), .int v1] σ (some (.int r)) σ' :=
  zMet_of pn_X3 hZ (Nat.le_of_ble_eq_true rfl) (fun κ e X => by subst e; exact B_X3_pairAtMarker_0 X h)
noncomputable def Fb_X3_drawn_39 (K39 : Int32 → Int32 → S3 → R3) (v3 : Int32) (v4 : Int32) (σ : S3) : R3 :=
  if v4 ≤ (0 : Int32) then (bd (F_X3_least v3 σ) (fun r450 s451 => some (r450, s451)))
  else (nm (v3 &&& (v3 - (1 : Int32))) (fun x453 => nm (v4 + (-1 : Int32)) (fun x454 => K39 x453 x454 σ)))
noncomputable def F_X3_drawn_39 (n : Nat) : Int32 → Int32 → S3 → R3 := zl2 (Fb_X3_drawn_39) n
set_option maxHeartbeats 4000000 in
set_option maxRecDepth 100000 in
theorem B_X3_drawn_39 {κ : zT} {σ' : S3} {r : Int32} (X : zC κ zX RX3 cX3_drawn 5 (some .int) 2 (some (.int r)) σ') : ∀ (n : Nat) (v3 : Int32) (v4 : Int32) (σ : S3), F_X3_drawn_39 n v3 v4 σ = some (r, σ') → Z κ 5 (zX (ze κ.1) σ) [(3, .int v3), (4, .int v4)] 39 [] := by
  intro n
  induction n with
  | zero =>
    intro v3 v4 σ h
    cases (show (none : R3) = some (r, σ') from h)
  | succ n ih =>
    intro v3 v4 σ h
    have hK39 := ih
    have h : Fb_X3_drawn_39 (F_X3_drawn_39 n) v3 v4 σ = some (r, σ') := h
    unfold Fb_X3_drawn_39 at h
    refine z_iload X.1 dX3_drawn_39 1 rfl ?_
    refine z_if_le (tgt := 56) X.1 dX3_drawn_41 (by decide) h (fun q449 h => ?_) (fun q449 h => ?_)
    · refine z_iload_n (i := 3) X.1 dX3_drawn_56 0 rfl rfl ?_
      obtain ⟨r450, s451, hc452, h⟩ := bd_inv h
      refine cl_X3_39 (d1 := 1) (As := [.int v3]) (rest := []) X.1 (by decide) (C_X3_least X.2.1 hc452) rfl rfl (Nat.le_of_ble_eq_true rfl) dX3_drawn_57 ?_
      exact z_iret X dX3_drawn_60 h
    · refine z_iload_n (i := 3) X.1 dX3_drawn_44 0 rfl rfl ?_
      refine z_iload_n (i := 3) X.1 dX3_drawn_45 0 rfl rfl ?_
      refine z_iconst (v := (1 : Int32)) X.1 dX3_drawn_46 (by decide) ?_
      refine z_isub X.1 dX3_drawn_47 ?_
      refine z_iand X.1 dX3_drawn_48 ?_
      refine z_istore_nn (i := 3) (lv' := fun x453 => [(3, .int x453), (4, .int v4)]) X.1 dX3_drawn_49 rfl (by decide) (fun _ => rfl) h (fun x453 h => ?_)
      refine z_iinc_m (v := (-1 : Int32)) (lv' := fun x454 => [(4, .int x454), (3, .int x453)]) X.1 dX3_drawn_50 1 rfl (by decide) (by decide) (fun _ => rfl) h (fun x454 h => ?_)
      refine z_goto (tgt := 39) X.1 dX3_drawn_53 (by decide) ?_
      exact z_sub [1, 0] rfl (hK39 _ _ _ h)
noncomputable def F_X3_drawn (v1 : Int32) (σ : S3) : R3 :=
  bd (F_J6_bitCount_0f7a4 v1 σ) (fun r443 s444 => if r443 = (0 : Int32) then (some ((-1 : Int32), s444))
  else (nm (up s444 4 2 0 (((s444 4 2 0) * (1103515245 : Int32)) + (12345 : Int32))) (fun s447 => ckz r443 (nm (((Int32.toUInt32 (s447 4 2 0) >>> (Int32.toUInt32 (8 : Int32) &&& Int32.toUInt32 31)).toInt32) - ((Int32.toUInt32 (s447 4 2 0) >>> (Int32.toUInt32 (8 : Int32) &&& Int32.toUInt32 31)).toInt32) / r443 * r443) (fun x448 => F_X3_drawn_39 zF v1 x448 s447)))))
set_option maxHeartbeats 4000000 in
set_option maxRecDepth 100000 in
theorem B_X3_drawn_0 {κ : zT} {σ' : S3} {r : Int32} (X : zC κ zX RX3 cX3_drawn 5 (some .int) 2 (some (.int r)) σ') {v1 : Int32} {σ : S3} (h : F_X3_drawn v1 σ = some (r, σ')) : Z κ 5 (zX (ze κ.1) σ) [(0, .ref (zo κ.1 4)), (1, .int v1)] 0 [] := by
  unfold F_X3_drawn at h
  refine z_iload_n (i := 1) X.1 dX3_drawn_0 1 rfl rfl ?_
  obtain ⟨r443, s444, hc445, h⟩ := bd_inv h
  refine cl_X3_83 (d1 := 0) (As := [.int v1]) (rest := []) X.1 (by decide) (C_J6_bitCount_0f7a4 X.2.1 hc445) rfl rfl (Nat.le_of_ble_eq_true rfl) dX3_drawn_1 ?_
  refine z_istore_n (i := 2) (lv' := [(2, .int r443), (0, .ref (zo κ.1 4)), (1, .int v1)]) X.1 dX3_drawn_4 rfl (by decide) rfl ?_
  refine z_iload_n (i := 2) X.1 dX3_drawn_5 0 rfl rfl ?_
  refine z_if_ne (tgt := 11) X.1 dX3_drawn_6 (by decide) h (fun q446 h => ?_) (fun q446 h => ?_)
  · refine z_aload_n (i := 0) X.1 dX3_drawn_11 1 rfl rfl ?_
    refine z_aload_n (i := 0) X.1 dX3_drawn_12 1 rfl rfl ?_
    refine g_X3_z X.1 tw168 dX3_drawn_13 ?_
    refine z_ldc (v := (1103515245 : Int32)) X.1 dX3_drawn_16 tw676 ?_
    refine z_imul X.1 dX3_drawn_18 ?_
    refine z_sipush (v := (12345 : Int32)) X.1 dX3_drawn_19 (by decide) ?_
    refine z_iadd X.1 dX3_drawn_22 ?_
    refine p_X3_z X.1 X.2.1 tw168 dX3_drawn_23 h (fun s447 h => ?_)
    refine z_iload_n (i := 1) X.1 dX3_drawn_26 2 rfl rfl ?_
    refine z_istore_n (i := 3) (lv' := [(3, .int v1), (2, .int r443), (0, .ref (zo κ.1 4)), (1, .int v1)]) X.1 dX3_drawn_27 rfl (by decide) rfl ?_
    refine z_aload_n (i := 0) X.1 dX3_drawn_28 2 rfl rfl ?_
    refine g_X3_z X.1 tw168 dX3_drawn_29 ?_
    refine z_bipush (v := (8 : Int32)) X.1 dX3_drawn_32 (by decide) ?_
    refine z_iushr X.1 dX3_drawn_34 ?_
    refine z_iload_n (i := 2) X.1 dX3_drawn_35 1 rfl rfl ?_
    obtain ⟨hz, h⟩ := ckz_inv h
    refine z_irem X.1 dX3_drawn_36 hz ?_
    refine z_istore_m (i := 4) (lv' := fun x448 => [(4, .int x448), (3, .int v1), (2, .int r443), (0, .ref (zo κ.1 4)), (1, .int v1)]) X.1 dX3_drawn_37 (by decide) (fun _ => rfl) h (fun x448 h => ?_)
    exact z_sub [1, 0] rfl (B_X3_drawn_39 X zF _ _ _ h)
  · refine z_iconst (v := (-1 : Int32)) X.1 dX3_drawn_9 (by decide) ?_
    exact z_iret X dX3_drawn_10 h
theorem C_X3_drawn {ζ : zW} (hZ : zDis ζ zX) {v1 : Int32} {σ σ' : S3} {r : Int32} (h : F_X3_drawn v1 σ = some (r, σ')) : zMet ζ zX 2 yX3_drawn cX3_drawn 5 (some .int) [.ref (zo ζ 4), .int v1] σ (some (.int r)) σ' :=
  zMet_of pn_X3 hZ (Nat.le_of_ble_eq_true rfl) (fun κ e X => by subst e; exact B_X3_drawn_0 X h)
noncomputable def Fb_X3_narrowest_9 (v1 : Int32) (v2 : Int32) (K9 : Int32 → Int32 → Int32 → S3 → R3) (v3 : Int32) (v4 : Int32) (v5 : Int32) (σ : S3) : R3 :=
  if (σ 1 1 0) ≤ v5 then (some (v3, σ))
  else (if ((v1 >>> (v5 &&& 31)) &&& (1 : Int32)) = (0 : Int32) then (nm (v5 + (1 : Int32)) (fun x461 => K9 v3 v4 x461 σ))
  else (bd (F_X1_behind v2 v5 σ) (fun r462 s463 => bd (F_X1_movesFrom r462 s463) (fun r465 s466 => bd (F_J6_bitCount_0f7a4 r465 s466) (fun r468 s469 => if v4 ≤ r468 then (nm (v5 + (1 : Int32)) (fun x472 => K9 v3 v4 x472 s469))
  else (nm (v5 + (1 : Int32)) (fun x473 => K9 v5 r468 x473 s469)))))))
noncomputable def F_X3_narrowest_9 (v1 : Int32) (v2 : Int32) (n : Nat) : Int32 → Int32 → Int32 → S3 → R3 := zl3 (Fb_X3_narrowest_9 v1 v2) n
set_option maxHeartbeats 4000000 in
set_option maxRecDepth 100000 in
theorem B_X3_narrowest_9 {κ : zT} {σ' : S3} {r : Int32} (X : zC κ zX RX3 cX3_narrowest 7 (some .int) 2 (some (.int r)) σ') {v1 : Int32} {v2 : Int32} : ∀ (n : Nat) (v3 : Int32) (v4 : Int32) (v5 : Int32) (σ : S3), F_X3_narrowest_9 v1 v2 n v3 v4 v5 σ = some (r, σ') → Z κ 7 (zX (ze κ.1) σ) [(0, .ref (zo κ.1 4)), (1, .int v1), (2, .int v2), (3, .int v3), (4, .int v4), (5, .int v5)] 9 [] := by
  intro n
  induction n with
  | zero =>
    intro v3 v4 v5 σ h
    cases (show (none : R3) = some (r, σ') from h)
  | succ n ih =>
    intro v3 v4 v5 σ h
    have hK9 := ih
    have h : Fb_X3_narrowest_9 v1 v2 (F_X3_narrowest_9 v1 v2 n) v3 v4 v5 σ = some (r, σ') := h
    unfold Fb_X3_narrowest_9 at h
    refine z_iload X.1 dX3_narrowest_9 5 rfl ?_
    refine z_aload_n (i := 0) X.1 dX3_narrowest_11 0 rfl rfl ?_
    refine g_X3_net X.1 tw166 dX3_narrowest_12 ?_
    refine g_X2_lines (Or.inl rfl) X.1 tw104 dX3_narrowest_15 ?_
    refine z_icmp_ge (tgt := 72) X.1 dX3_narrowest_18 (by decide) h (fun q459 h => ?_) (fun q459 h => ?_)
    · refine z_iload_n (i := 3) X.1 dX3_narrowest_72 3 rfl rfl ?_
      exact z_iret X dX3_narrowest_73 h
    · refine z_iload_n (i := 1) X.1 dX3_narrowest_21 1 rfl rfl ?_
      refine z_iload X.1 dX3_narrowest_22 5 rfl ?_
      refine z_ishr X.1 dX3_narrowest_24 ?_
      refine z_iconst (v := (1 : Int32)) X.1 dX3_narrowest_25 (by decide) ?_
      refine z_iand X.1 dX3_narrowest_26 ?_
      refine z_if_eq (tgt := 66) X.1 dX3_narrowest_27 (by decide) h (fun q460 h => ?_) (fun q460 h => ?_)
      · refine z_iinc_m (v := (1 : Int32)) (lv' := fun x461 => [(5, .int x461), (0, .ref (zo κ.1 4)), (1, .int v1), (2, .int v2), (3, .int v3), (4, .int v4)]) X.1 dX3_narrowest_66 5 rfl (by decide) (by decide) (fun _ => rfl) h (fun x461 h => ?_)
        refine z_goto (tgt := 9) X.1 dX3_narrowest_69 (by decide) ?_
        exact z_sub [1, 2, 3, 4, 5, 0] rfl (hK9 _ _ _ _ h)
      · refine z_aload_n (i := 0) X.1 dX3_narrowest_30 0 rfl rfl ?_
        refine g_X3_judge X.1 tw167 dX3_narrowest_31 ?_
        refine z_aload_n (i := 0) X.1 dX3_narrowest_34 0 rfl rfl ?_
        refine g_X3_judge X.1 tw167 dX3_narrowest_35 ?_
        refine z_iload_n (i := 2) X.1 dX3_narrowest_38 2 rfl rfl ?_
        refine z_iload X.1 dX3_narrowest_39 5 rfl ?_
        obtain ⟨r462, s463, hc464, h⟩ := bd_inv h
        refine cl_X3_90 (d1 := 1) (b := zo κ.1 3) (As := [.int v2, .int v5]) (rest := [.ref (zo κ.1 3)]) X.1 (by decide) (C_X1_behind X.2.1 hc464) rcX1 rfl rfl (Nat.le_of_ble_eq_true rfl) dX3_narrowest_41 ?_
        obtain ⟨r465, s466, hc467, h⟩ := bd_inv h
        refine cl_X3_27 (d1 := 1) (b := zo κ.1 3) (As := [.int r462]) (rest := []) X.1 (by decide) (C_X1_movesFrom X.2.1 hc467) rcX1 rfl rfl (Nat.le_of_ble_eq_true rfl) dX3_narrowest_44 ?_
        obtain ⟨r468, s469, hc470, h⟩ := bd_inv h
        refine cl_X3_83 (d1 := 0) (As := [.int r465]) (rest := []) X.1 (by decide) (C_J6_bitCount_0f7a4 X.2.1 hc470) rfl rfl (Nat.le_of_ble_eq_true rfl) dX3_narrowest_47 ?_
        refine z_istore (i := 6) (lv' := [(6, .int r468), (0, .ref (zo κ.1 4)), (1, .int v1), (2, .int v2), (3, .int v3), (4, .int v4), (5, .int v5)]) X.1 dX3_narrowest_50 (by decide) rfl ?_
        refine z_iload X.1 dX3_narrowest_52 0 rfl ?_
        refine z_iload X.1 dX3_narrowest_54 5 rfl ?_
        refine z_icmp_ge (tgt := 66) X.1 dX3_narrowest_56 (by decide) h (fun q471 h => ?_) (fun q471 h => ?_)
        · refine z_iinc_m (v := (1 : Int32)) (lv' := fun x472 => [(5, .int x472), (6, .int r468), (0, .ref (zo κ.1 4)), (1, .int v1), (2, .int v2), (3, .int v3), (4, .int v4)]) X.1 dX3_narrowest_66 6 rfl (by decide) (by decide) (fun _ => rfl) h (fun x472 h => ?_)
          refine z_goto (tgt := 9) X.1 dX3_narrowest_69 (by decide) ?_
          exact z_sub [2, 3, 4, 5, 6, 0] rfl (hK9 _ _ _ _ h)
        · refine z_iload X.1 dX3_narrowest_59 0 rfl ?_
          refine z_istore (i := 4) (lv' := [(4, .int r468), (6, .int r468), (0, .ref (zo κ.1 4)), (1, .int v1), (2, .int v2), (3, .int v3), (5, .int v5)]) X.1 dX3_narrowest_61 (by decide) rfl ?_
          refine z_iload X.1 dX3_narrowest_63 6 rfl ?_
          refine z_istore_n (i := 3) (lv' := [(3, .int v5), (4, .int r468), (6, .int r468), (0, .ref (zo κ.1 4)), (1, .int v1), (2, .int v2), (5, .int v5)]) X.1 dX3_narrowest_65 rfl (by decide) rfl ?_
          refine z_iinc_m (v := (1 : Int32)) (lv' := fun x473 => [(5, .int x473), (3, .int v5), (4, .int r468), (6, .int r468), (0, .ref (zo κ.1 4)), (1, .int v1), (2, .int v2)]) X.1 dX3_narrowest_66 6 rfl (by decide) (by decide) (fun _ => rfl) h (fun x473 h => ?_)
          refine z_goto (tgt := 9) X.1 dX3_narrowest_69 (by decide) ?_
          exact z_sub [4, 5, 6, 1, 2, 0] rfl (hK9 _ _ _ _ h)
noncomputable def F_X3_narrowest (v1 : Int32) (v2 : Int32) (σ : S3) : R3 :=
  F_X3_narrowest_9 v1 v2 zF (-1 : Int32) (13 : Int32) (0 : Int32) σ
set_option maxHeartbeats 4000000 in
set_option maxRecDepth 100000 in
theorem B_X3_narrowest_0 {κ : zT} {σ' : S3} {r : Int32} (X : zC κ zX RX3 cX3_narrowest 7 (some .int) 2 (some (.int r)) σ') {v1 : Int32} {v2 : Int32} {σ : S3} (h : F_X3_narrowest v1 v2 σ = some (r, σ')) : Z κ 7 (zX (ze κ.1) σ) [(0, .ref (zo κ.1 4)), (1, .int v1), (2, .int v2)] 0 [] := by
  unfold F_X3_narrowest at h
  refine z_iconst (v := (-1 : Int32)) X.1 dX3_narrowest_0 (by decide) ?_
  refine z_istore_n (i := 3) (lv' := [(3, .int (-1 : Int32)), (0, .ref (zo κ.1 4)), (1, .int v1), (2, .int v2)]) X.1 dX3_narrowest_1 rfl (by decide) rfl ?_
  refine z_bipush (v := (13 : Int32)) X.1 dX3_narrowest_2 (by decide) ?_
  refine z_istore (i := 4) (lv' := [(4, .int (13 : Int32)), (3, .int (-1 : Int32)), (0, .ref (zo κ.1 4)), (1, .int v1), (2, .int v2)]) X.1 dX3_narrowest_4 (by decide) rfl ?_
  refine z_iconst (v := (0 : Int32)) X.1 dX3_narrowest_6 (by decide) ?_
  refine z_istore (i := 5) (lv' := [(5, .int (0 : Int32)), (4, .int (13 : Int32)), (3, .int (-1 : Int32)), (0, .ref (zo κ.1 4)), (1, .int v1), (2, .int v2)]) X.1 dX3_narrowest_7 (by decide) rfl ?_
  exact z_sub [3, 4, 5, 2, 1, 0] rfl (B_X3_narrowest_9 X zF _ _ _ _ h)
theorem C_X3_narrowest {ζ : zW} (hZ : zDis ζ zX) {v1 : Int32} {v2 : Int32} {σ σ' : S3} {r : Int32} (h : F_X3_narrowest v1 v2 σ = some (r, σ')) : zMet ζ zX 2 yX3_narrowest cX3_narrowest 7 (some .int) [.ref (zo ζ 4), .int v1, .int v2] σ (some (.int r)) σ' :=
  zMet_of pn_X3 hZ (Nat.le_of_ble_eq_true rfl) (fun κ e X => by subst e; exact B_X3_narrowest_0 X h)
noncomputable def Fb_X3_slowest_8 (v1 : Int32) (v2 : Int32) (K8 : Int32 → Int32 → Int32 → S3 → R3) (v3 : Int32) (v4 : Int32) (v5 : Int32) (σ : S3) : R3 :=
  if (σ 1 1 0) ≤ v5 then (some (v3, σ))
  else (if ((v1 >>> (v5 &&& 31)) &&& (1 : Int32)) = (0 : Int32) then (nm (v5 + (1 : Int32)) (fun x480 => K8 v3 v4 x480 σ))
  else (bd (F_X1_behind v2 v5 σ) (fun r481 s482 => bd (F_X1_lengthFrom r481 s482) (fun r484 s485 => if r484 ≤ v4 then (nm (v5 + (1 : Int32)) (fun x488 => K8 v3 v4 x488 s485))
  else (nm (v5 + (1 : Int32)) (fun x489 => K8 v5 r484 x489 s485))))))
noncomputable def F_X3_slowest_8 (v1 : Int32) (v2 : Int32) (n : Nat) : Int32 → Int32 → Int32 → S3 → R3 := zl3 (Fb_X3_slowest_8 v1 v2) n
set_option maxHeartbeats 4000000 in
set_option maxRecDepth 100000 in
theorem B_X3_slowest_8 {κ : zT} {σ' : S3} {r : Int32} (X : zC κ zX RX3 cX3_slowest 7 (some .int) 24 (some (.int r)) σ') {v1 : Int32} {v2 : Int32} : ∀ (n : Nat) (v3 : Int32) (v4 : Int32) (v5 : Int32) (σ : S3), F_X3_slowest_8 v1 v2 n v3 v4 v5 σ = some (r, σ') → Z κ 7 (zX (ze κ.1) σ) [(0, .ref (zo κ.1 4)), (1, .int v1), (2, .int v2), (3, .int v3), (4, .int v4), (5, .int v5)] 8 [] := by
  intro n
  induction n with
  | zero =>
    intro v3 v4 v5 σ h
    cases (show (none : R3) = some (r, σ') from h)
  | succ n ih =>
    intro v3 v4 v5 σ h
    have hK8 := ih
    have h : Fb_X3_slowest_8 v1 v2 (F_X3_slowest_8 v1 v2 n) v3 v4 v5 σ = some (r, σ') := h
    unfold Fb_X3_slowest_8 at h
    refine z_iload X.1 dX3_slowest_8 5 rfl ?_
    refine z_aload_n (i := 0) X.1 dX3_slowest_10 0 rfl rfl ?_
    refine g_X3_net X.1 tw166 dX3_slowest_11 ?_
    refine g_X2_lines (Or.inl rfl) X.1 tw104 dX3_slowest_14 ?_
    refine z_icmp_ge (tgt := 68) X.1 dX3_slowest_17 (by decide) h (fun q478 h => ?_) (fun q478 h => ?_)
    · refine z_iload_n (i := 3) X.1 dX3_slowest_68 3 rfl rfl ?_
      exact z_iret X dX3_slowest_69 h
    · refine z_iload_n (i := 1) X.1 dX3_slowest_20 1 rfl rfl ?_
      refine z_iload X.1 dX3_slowest_21 5 rfl ?_
      refine z_ishr X.1 dX3_slowest_23 ?_
      refine z_iconst (v := (1 : Int32)) X.1 dX3_slowest_24 (by decide) ?_
      refine z_iand X.1 dX3_slowest_25 ?_
      refine z_if_eq (tgt := 62) X.1 dX3_slowest_26 (by decide) h (fun q479 h => ?_) (fun q479 h => ?_)
      · refine z_iinc_m (v := (1 : Int32)) (lv' := fun x480 => [(5, .int x480), (0, .ref (zo κ.1 4)), (1, .int v1), (2, .int v2), (3, .int v3), (4, .int v4)]) X.1 dX3_slowest_62 5 rfl (by decide) (by decide) (fun _ => rfl) h (fun x480 h => ?_)
        refine z_goto (tgt := 8) X.1 dX3_slowest_65 (by decide) ?_
        exact z_sub [1, 2, 3, 4, 5, 0] rfl (hK8 _ _ _ _ h)
      · refine z_aload_n (i := 0) X.1 dX3_slowest_29 0 rfl rfl ?_
        refine g_X3_judge X.1 tw167 dX3_slowest_30 ?_
        refine z_aload_n (i := 0) X.1 dX3_slowest_33 0 rfl rfl ?_
        refine g_X3_judge X.1 tw167 dX3_slowest_34 ?_
        refine z_iload_n (i := 2) X.1 dX3_slowest_37 2 rfl rfl ?_
        refine z_iload X.1 dX3_slowest_38 5 rfl ?_
        obtain ⟨r481, s482, hc483, h⟩ := bd_inv h
        refine cl_X3_90 (d1 := 1) (b := zo κ.1 3) (As := [.int v2, .int v5]) (rest := [.ref (zo κ.1 3)]) X.1 (by decide) (C_X1_behind X.2.1 hc483) rcX1 rfl rfl (Nat.le_of_ble_eq_true rfl) dX3_slowest_40 ?_
        obtain ⟨r484, s485, hc486, h⟩ := bd_inv h
        refine cl_X3_93 (d1 := 23) (b := zo κ.1 3) (As := [.int r481]) (rest := []) X.1 (by decide) (C_X1_lengthFrom X.2.1 hc486) rcX1 rfl rfl (Nat.le_of_ble_eq_true rfl) dX3_slowest_43 ?_
        refine z_istore (i := 6) (lv' := [(6, .int r484), (0, .ref (zo κ.1 4)), (1, .int v1), (2, .int v2), (3, .int v3), (4, .int v4), (5, .int v5)]) X.1 dX3_slowest_46 (by decide) rfl ?_
        refine z_iload X.1 dX3_slowest_48 0 rfl ?_
        refine z_iload X.1 dX3_slowest_50 5 rfl ?_
        refine z_icmp_le (tgt := 62) X.1 dX3_slowest_52 (by decide) h (fun q487 h => ?_) (fun q487 h => ?_)
        · refine z_iinc_m (v := (1 : Int32)) (lv' := fun x488 => [(5, .int x488), (6, .int r484), (0, .ref (zo κ.1 4)), (1, .int v1), (2, .int v2), (3, .int v3), (4, .int v4)]) X.1 dX3_slowest_62 6 rfl (by decide) (by decide) (fun _ => rfl) h (fun x488 h => ?_)
          refine z_goto (tgt := 8) X.1 dX3_slowest_65 (by decide) ?_
          exact z_sub [2, 3, 4, 5, 6, 0] rfl (hK8 _ _ _ _ h)
        · refine z_iload X.1 dX3_slowest_55 0 rfl ?_
          refine z_istore (i := 4) (lv' := [(4, .int r484), (6, .int r484), (0, .ref (zo κ.1 4)), (1, .int v1), (2, .int v2), (3, .int v3), (5, .int v5)]) X.1 dX3_slowest_57 (by decide) rfl ?_
          refine z_iload X.1 dX3_slowest_59 6 rfl ?_
          refine z_istore_n (i := 3) (lv' := [(3, .int v5), (4, .int r484), (6, .int r484), (0, .ref (zo κ.1 4)), (1, .int v1), (2, .int v2), (5, .int v5)]) X.1 dX3_slowest_61 rfl (by decide) rfl ?_
          refine z_iinc_m (v := (1 : Int32)) (lv' := fun x489 => [(5, .int x489), (3, .int v5), (4, .int r484), (6, .int r484), (0, .ref (zo κ.1 4)), (1, .int v1), (2, .int v2)]) X.1 dX3_slowest_62 6 rfl (by decide) (by decide) (fun _ => rfl) h (fun x489 h => ?_)
          refine z_goto (tgt := 8) X.1 dX3_slowest_65 (by decide) ?_
          exact z_sub [4, 5, 6, 1, 2, 0] rfl (hK8 _ _ _ _ h)
noncomputable def F_X3_slowest (v1 : Int32) (v2 : Int32) (σ : S3) : R3 :=
  F_X3_slowest_8 v1 v2 zF (-1 : Int32) (-1 : Int32) (0 : Int32) σ
set_option maxHeartbeats 4000000 in
set_option maxRecDepth 100000 in
theorem B_X3_slowest_0 {κ : zT} {σ' : S3} {r : Int32} (X : zC κ zX RX3 cX3_slowest 7 (some .int) 24 (some (.int r)) σ') {v1 : Int32} {v2 : Int32} {σ : S3} (h : F_X3_slowest v1 v2 σ = some (r, σ')) : Z κ 7 (zX (ze κ.1) σ) [(0, .ref (zo κ.1 4)), (1, .int v1), (2, .int v2)] 0 [] := by
  unfold F_X3_slowest at h
  refine z_iconst (v := (-1 : Int32)) X.1 dX3_slowest_0 (by decide) ?_
  refine z_istore_n (i := 3) (lv' := [(3, .int (-1 : Int32)), (0, .ref (zo κ.1 4)), (1, .int v1), (2, .int v2)]) X.1 dX3_slowest_1 rfl (by decide) rfl ?_
  refine z_iconst (v := (-1 : Int32)) X.1 dX3_slowest_2 (by decide) ?_
  refine z_istore (i := 4) (lv' := [(4, .int (-1 : Int32)), (3, .int (-1 : Int32)), (0, .ref (zo κ.1 4)), (1, .int v1), (2, .int v2)]) X.1 dX3_slowest_3 (by decide) rfl ?_
  refine z_iconst (v := (0 : Int32)) X.1 dX3_slowest_5 (by decide) ?_
  refine z_istore (i := 5) (lv' := [(5, .int (0 : Int32)), (4, .int (-1 : Int32)), (3, .int (-1 : Int32)), (0, .ref (zo κ.1 4)), (1, .int v1), (2, .int v2)]) X.1 dX3_slowest_6 (by decide) rfl ?_
  exact z_sub [3, 4, 5, 2, 1, 0] rfl (B_X3_slowest_8 X zF _ _ _ _ h)
theorem C_X3_slowest {ζ : zW} (hZ : zDis ζ zX) {v1 : Int32} {v2 : Int32} {σ σ' : S3} {r : Int32} (h : F_X3_slowest v1 v2 σ = some (r, σ')) : zMet ζ zX 24 yX3_slowest cX3_slowest 7 (some .int) [.ref (zo ζ 4), .int v1, .int v2] σ (some (.int r)) σ' :=
  zMet_of pn_X3 hZ (Nat.le_of_ble_eq_true rfl) (fun κ e X => by subst e; exact B_X3_slowest_0 X h)
noncomputable def F_X3_simple (v1 : Int32) (v2 : Int32) (σ : S3) : R3 :=
  bd (F_X1_movesFrom v2 σ) (fun r384 s385 => (if v1 = (2 : Int32) then (bd (F_X3_greatest r384 s385) (fun r388 s389 => some (r388, s389)))
  else (if v1 = (3 : Int32) then (bd (F_X1_winningFrom v2 s385) (fun r409 s410 => bd (F_X3_least r409 s410) (fun r412 s413 => some (r412, s413))))
  else (if v1 = (4 : Int32) then (bd (F_X3_pairAtMarker v2 s385) (fun r420 s421 => bd (F_X3_least (r384 &&& r420) s421) (fun r436 s437 => some (r436, s437))))
  else (if v1 = (5 : Int32) then (bd (F_X3_drawn r384 s385) (fun r440 s441 => some (r440, s441)))
  else (if v1 = (6 : Int32) then (bd (F_X3_narrowest r384 v2 s385) (fun r456 s457 => some (r456, s457)))
  else (if v1 = (7 : Int32) then (bd (F_X3_slowest r384 v2 s385) (fun r475 s476 => some (r475, s476)))
  else (bd (F_X3_least r384 s385) (fun r490 s491 => some (r490, s491))))))))))
set_option maxHeartbeats 4000000 in
set_option maxRecDepth 100000 in
theorem B_X3_simple_0 {κ : zT} {σ' : S3} {r : Int32} (X : zC κ zX RX3 cX3_simple 4 (some .int) 25 (some (.int r)) σ') {v1 : Int32} {v2 : Int32} {σ : S3} (h : F_X3_simple v1 v2 σ = some (r, σ')) : Z κ 4 (zX (ze κ.1) σ) [(0, .ref (zo κ.1 4)), (1, .int v1), (2, .int v2)] 0 [] := by
  unfold F_X3_simple at h
  refine z_aload_n (i := 0) X.1 dX3_simple_0 0 rfl rfl ?_
  refine g_X3_judge X.1 tw167 dX3_simple_1 ?_
  refine z_iload_n (i := 2) X.1 dX3_simple_4 2 rfl rfl ?_
  obtain ⟨r384, s385, hc386, h⟩ := bd_inv h
  refine cl_X3_27 (d1 := 1) (b := zo κ.1 3) (As := [.int v2]) (rest := []) X.1 (by decide) (C_X1_movesFrom X.2.1 hc386) rcX1 rfl rfl (Nat.le_of_ble_eq_true rfl) dX3_simple_5 ?_
  refine z_istore_n (i := 3) (lv' := [(3, .int r384), (0, .ref (zo κ.1 4)), (1, .int v1), (2, .int v2)]) X.1 dX3_simple_8 rfl (by decide) rfl ?_
  refine z_iload_n (i := 1) X.1 dX3_simple_9 2 rfl rfl ?_
  by_cases q2 : v1 = (2 : Int32)
  · rw [if_pos q2] at h
    refine z_tabIn (tgt := 48) X.1 dX3_simple_10 q2 (by decide) (by decide) rfl (by decide) ?_
    refine z_iload_n (i := 3) X.1 dX3_simple_48 0 rfl rfl ?_
    obtain ⟨r388, s389, hc390, h⟩ := bd_inv h
    refine cl_X3_33 (d1 := 1) (As := [.int r384]) (rest := []) X.1 (by decide) (C_X3_greatest X.2.1 hc390) rfl rfl (Nat.le_of_ble_eq_true rfl) dX3_simple_49 ?_
    exact z_iret X dX3_simple_52 h
  · rw [if_neg q2] at h
    by_cases q3 : v1 = (3 : Int32)
    · rw [if_pos q3] at h
      refine z_tabIn (tgt := 53) X.1 dX3_simple_10 q3 (by decide) (by decide) rfl (by decide) ?_
      refine z_aload_n (i := 0) X.1 dX3_simple_53 1 rfl rfl ?_
      refine g_X3_judge X.1 tw167 dX3_simple_54 ?_
      refine z_iload_n (i := 2) X.1 dX3_simple_57 3 rfl rfl ?_
      obtain ⟨r409, s410, hc411, h⟩ := bd_inv h
      refine cl_X3_36 (d1 := 23) (b := zo κ.1 3) (As := [.int v2]) (rest := []) X.1 (by decide) (C_X1_winningFrom X.2.1 hc411) rcX1 rfl rfl (Nat.le_of_ble_eq_true rfl) dX3_simple_58 ?_
      obtain ⟨r412, s413, hc414, h⟩ := bd_inv h
      refine cl_X3_39 (d1 := 1) (As := [.int r409]) (rest := []) X.1 (by decide) (C_X3_least X.2.1 hc414) rfl rfl (Nat.le_of_ble_eq_true rfl) dX3_simple_61 ?_
      exact z_iret X dX3_simple_64 h
    · rw [if_neg q3] at h
      by_cases q4 : v1 = (4 : Int32)
      · rw [if_pos q4] at h
        refine z_tabIn (tgt := 65) X.1 dX3_simple_10 q4 (by decide) (by decide) rfl (by decide) ?_
        refine z_iload_n (i := 3) X.1 dX3_simple_65 0 rfl rfl ?_
        refine z_aload_n (i := 0) X.1 dX3_simple_66 1 rfl rfl ?_
        refine z_iload_n (i := 2) X.1 dX3_simple_67 3 rfl rfl ?_
        obtain ⟨r420, s421, hc422, h⟩ := bd_inv h
        refine cl_X3_42 (d1 := 23) (b := zo κ.1 4) (As := [.int v2]) (rest := [.int r384]) X.1 (by decide) (C_X3_pairAtMarker X.2.1 hc422) rcX3 rfl rfl (Nat.le_of_ble_eq_true rfl) dX3_simple_68 ?_
        refine z_iand X.1 dX3_simple_71 ?_
        obtain ⟨r436, s437, hc438, h⟩ := bd_inv h
        refine cl_X3_39 (d1 := 1) (As := [.int (r384 &&& r420)]) (rest := []) X.1 (by decide) (C_X3_least X.2.1 hc438) rfl rfl (Nat.le_of_ble_eq_true rfl) dX3_simple_72 ?_
        exact z_iret X dX3_simple_75 h
      · rw [if_neg q4] at h
        by_cases q5 : v1 = (5 : Int32)
        · rw [if_pos q5] at h
          refine z_tabIn (tgt := 76) X.1 dX3_simple_10 q5 (by decide) (by decide) rfl (by decide) ?_
          refine z_aload_n (i := 0) X.1 dX3_simple_76 1 rfl rfl ?_
          refine z_iload_n (i := 3) X.1 dX3_simple_77 0 rfl rfl ?_
          obtain ⟨r440, s441, hc442, h⟩ := bd_inv h
          refine cl_X3_45 (d1 := 2) (b := zo κ.1 4) (As := [.int r384]) (rest := []) X.1 (by decide) (C_X3_drawn X.2.1 hc442) rcX3 rfl rfl (Nat.le_of_ble_eq_true rfl) dX3_simple_78 ?_
          exact z_iret X dX3_simple_81 h
        · rw [if_neg q5] at h
          by_cases q6 : v1 = (6 : Int32)
          · rw [if_pos q6] at h
            refine z_tabIn (tgt := 82) X.1 dX3_simple_10 q6 (by decide) (by decide) rfl (by decide) ?_
            refine z_aload_n (i := 0) X.1 dX3_simple_82 1 rfl rfl ?_
            refine z_iload_n (i := 3) X.1 dX3_simple_83 0 rfl rfl ?_
            refine z_iload_n (i := 2) X.1 dX3_simple_84 3 rfl rfl ?_
            obtain ⟨r456, s457, hc458, h⟩ := bd_inv h
            refine cl_X3_48 (d1 := 2) (b := zo κ.1 4) (As := [.int r384, .int v2]) (rest := []) X.1 (by decide) (C_X3_narrowest X.2.1 hc458) rcX3 rfl rfl (Nat.le_of_ble_eq_true rfl) dX3_simple_85 ?_
            exact z_iret X dX3_simple_88 h
          · rw [if_neg q6] at h
            by_cases q7 : v1 = (7 : Int32)
            · rw [if_pos q7] at h
              refine z_tabIn (tgt := 89) X.1 dX3_simple_10 q7 (by decide) (by decide) rfl (by decide) ?_
              refine z_aload_n (i := 0) X.1 dX3_simple_89 1 rfl rfl ?_
              refine z_iload_n (i := 3) X.1 dX3_simple_90 0 rfl rfl ?_
              refine z_iload_n (i := 2) X.1 dX3_simple_91 3 rfl rfl ?_
              obtain ⟨r475, s476, hc477, h⟩ := bd_inv h
              refine cl_X3_51 (d1 := 24) (b := zo κ.1 4) (As := [.int r384, .int v2]) (rest := []) X.1 (by decide) (C_X3_slowest X.2.1 hc477) rcX3 rfl rfl (Nat.le_of_ble_eq_true rfl) dX3_simple_92 ?_
              exact z_iret X dX3_simple_95 h
            · rw [if_neg q7] at h
              have t2 : v1.toInt ≠ 2 := tab_ne q2
              have t3 : v1.toInt ≠ 3 := tab_ne q3
              have t4 : v1.toInt ≠ 4 := tab_ne q4
              have t5 : v1.toInt ≠ 5 := tab_ne q5
              have t6 : v1.toInt ≠ 6 := tab_ne q6
              have t7 : v1.toInt ≠ 7 := tab_ne q7
              refine z_tabOut (tgt := 96) X.1 dX3_simple_10 (by omega) (by decide) ?_
              refine z_iload_n (i := 3) X.1 dX3_simple_96 0 rfl rfl ?_
              obtain ⟨r490, s491, hc492, h⟩ := bd_inv h
              refine cl_X3_39 (d1 := 1) (As := [.int r384]) (rest := []) X.1 (by decide) (C_X3_least X.2.1 hc492) rfl rfl (Nat.le_of_ble_eq_true rfl) dX3_simple_97 ?_
              exact z_iret X dX3_simple_100 h
theorem C_X3_simple {ζ : zW} (hZ : zDis ζ zX) {v1 : Int32} {v2 : Int32} {σ σ' : S3} {r : Int32} (h : F_X3_simple v1 v2 σ = some (r, σ')) : zMet ζ zX 25 yX3_simple cX3_simple 4 (some .int) [.ref (zo ζ 4), .int v1, .int v2] σ (some (.int r)) σ' :=
  zMet_of pn_X3 hZ (Nat.le_of_ble_eq_true rfl) (fun κ e X => by subst e; exact B_X3_simple_0 X h)
