noncomputable def F_X9_goes (v1 : Int32) (σ : S3) : R3 :=
  bd (F_X9_otherOf v1 (σ 0 14 0) σ) (fun r2039 s2040 => nm (up s2040 0 14 0 r2039) (fun s2042 => nm (up s2042 0 15 0 ((s2042 0 15 0) ||| ((1 : Int32) <<< ((s2042 0 14 0) &&& 31)))) (fun s2043 => nm (up s2043 0 16 0 ((s2043 0 16 0) ||| ((1 : Int32) <<< (v1 &&& 31)))) (fun s2044 => ck (s2044 0 19 0) 12 (nm (up s2044 0 18 (ix (s2044 0 19 0)) v1) (fun s2045 => nm (up s2045 0 19 0 ((s2045 0 19 0) + (1 : Int32))) (fun s2046 => some ((0 : Int32), s2046))))))))
set_option maxHeartbeats 4000000 in
set_option maxRecDepth 100000 in
theorem B_X9_goes_0 {κ : zT} {σ' : S3} {r : Int32} (X : zC κ zM RX9 cX9_goes 2 none 1 none σ') {v1 : Int32} {σ : S3} (h : F_X9_goes v1 σ = some (r, σ')) : Z κ 2 (zM (ze κ.1) σ) [(0, .ref (zo κ.1 0)), (1, .int v1)] 0 [] := by
  unfold F_X9_goes at h
  refine z_aload_n (i := 0) X.1 dX9_goes_0 0 rfl rfl ?_
  refine z_aload_n (i := 0) X.1 dX9_goes_1 0 rfl rfl ?_
  refine z_iload_n (i := 1) X.1 dX9_goes_2 1 rfl rfl ?_
  refine z_aload_n (i := 0) X.1 dX9_goes_3 0 rfl rfl ?_
  refine g_X9_marker X.1 tw819 dX9_goes_4 ?_
  obtain ⟨r2039, s2040, hc2041, h⟩ := bd_inv h
  refine cl_X9_101 (d1 := 0) (b := zo κ.1 0) (As := [.int v1, .int (σ 0 14 0)]) (rest := [.ref (zo κ.1 0)]) X.1 (by decide) (C_X9_otherOf X.2.1 hc2041) rcX9 rfl rfl (Nat.le_of_ble_eq_true rfl) dX9_goes_7 ?_
  refine p_X9_marker X.1 X.2.1 tw819 dX9_goes_10 h (fun s2042 h => ?_)
  refine z_aload_n (i := 0) X.1 dX9_goes_13 0 rfl rfl ?_
  refine z_dup X.1 dX9_goes_14 rfl ?_
  refine g_X9_met X.1 tw820 dX9_goes_15 ?_
  refine z_iconst (v := (1 : Int32)) X.1 dX9_goes_18 (by decide) ?_
  refine z_aload_n (i := 0) X.1 dX9_goes_19 0 rfl rfl ?_
  refine g_X9_marker X.1 tw819 dX9_goes_20 ?_
  refine z_ishl X.1 dX9_goes_23 ?_
  refine z_ior X.1 dX9_goes_24 ?_
  refine p_X9_met X.1 X.2.1 tw820 dX9_goes_25 h (fun s2043 h => ?_)
  refine z_aload_n (i := 0) X.1 dX9_goes_28 0 rfl rfl ?_
  refine z_dup X.1 dX9_goes_29 rfl ?_
  refine g_X9_gone X.1 tw821 dX9_goes_30 ?_
  refine z_iconst (v := (1 : Int32)) X.1 dX9_goes_33 (by decide) ?_
  refine z_iload_n (i := 1) X.1 dX9_goes_34 1 rfl rfl ?_
  refine z_ishl X.1 dX9_goes_35 ?_
  refine z_ior X.1 dX9_goes_36 ?_
  refine p_X9_gone X.1 X.2.1 tw821 dX9_goes_37 h (fun s2044 h => ?_)
  refine z_aload_n (i := 0) X.1 dX9_goes_40 0 rfl rfl ?_
  refine g_X9_made X.1 tw823 dX9_goes_41 ?_
  refine z_aload_n (i := 0) X.1 dX9_goes_44 0 rfl rfl ?_
  refine g_X9_many X.1 tw824 dX9_goes_45 ?_
  refine z_iload_n (i := 1) X.1 dX9_goes_48 1 rfl rfl ?_
  refine as_X9_made X.1 X.2.1 dX9_goes_49 h (fun s2045 h => ?_)
  refine z_aload_n (i := 0) X.1 dX9_goes_50 0 rfl rfl ?_
  refine z_dup X.1 dX9_goes_51 rfl ?_
  refine g_X9_many X.1 tw824 dX9_goes_52 ?_
  refine z_iconst (v := (1 : Int32)) X.1 dX9_goes_55 (by decide) ?_
  refine z_iadd X.1 dX9_goes_56 ?_
  refine p_X9_many X.1 X.2.1 tw824 dX9_goes_57 h (fun s2046 h => ?_)
  exact z_vret X dX9_goes_60 h
theorem C_X9_goes {ζ : zW} (hZ : zDis ζ zM) {v1 : Int32} {σ σ' : S3} {r : Int32} (h : F_X9_goes v1 σ = some (r, σ')) : zMet ζ zM 1 yX9_goes cX9_goes 2 none [.ref (zo ζ 0), .int v1] σ none σ' :=
  zMet_of pn_X9 hZ (Nat.le_of_ble_eq_true rfl) (fun κ e X => by subst e; exact B_X9_goes_0 X h)
noncomputable def F_X9_go (v1 : Int32) (σ : S3) : R3 :=
  if (σ 0 11 0) = (0 : Int32) then (bd (F_X9_no (3 : Int32) σ) (fun r2048 s2049 => some (r2048, s2049)))
  else (bd (F_X9_isOver σ) (fun r2051 s2052 => if r2051 = (0 : Int32) then (bd (F_X9_isLine v1 s2052) (fun r2055 s2056 => if r2055 = (0 : Int32) then (bd (F_X9_no (1 : Int32) s2056) (fun r2076 s2077 => some (r2076, s2077)))
  else (bd (F_X9_movesNow s2056) (fun r2059 s2060 => bd (F_X9_has r2059 v1 s2060) (fun r2062 s2063 => if r2062 = (0 : Int32) then (bd (F_X9_no (2 : Int32) s2063) (fun r2073 s2074 => some (r2073, s2074)))
  else (bd (F_X9_goes v1 s2063) (fun r2066 s2067 => bd (F_X9_isOver s2067) (fun r2069 s2070 => if r2069 = (0 : Int32) then (some ((0 : Int32), s2070))
  else (some ((1 : Int32), s2070))))))))))
  else (bd (F_X9_no (3 : Int32) s2052) (fun r2079 s2080 => some (r2079, s2080)))))
set_option maxHeartbeats 4000000 in
set_option maxRecDepth 100000 in
theorem B_X9_go_0 {κ : zT} {σ' : S3} {r : Int32} (X : zC κ zM RX9 cX9_go 2 (some .int) 5 (some (.int r)) σ') {v1 : Int32} {σ : S3} (h : F_X9_go v1 σ = some (r, σ')) : Z κ 2 (zM (ze κ.1) σ) [(0, .ref (zo κ.1 0)), (1, .int v1)] 0 [] := by
  unfold F_X9_go at h
  refine z_aload_n (i := 0) X.1 dX9_go_0 0 rfl rfl ?_
  refine g_X9_hasGame X.1 tw816 dX9_go_1 ?_
  refine z_if_eq (tgt := 14) X.1 dX9_go_4 (by decide) h (fun q2047 h => ?_) (fun q2047 h => ?_)
  · refine z_aload_n (i := 0) X.1 dX9_go_14 0 rfl rfl ?_
    refine z_iconst (v := (3 : Int32)) X.1 dX9_go_15 (by decide) ?_
    obtain ⟨r2048, s2049, hc2050, h⟩ := bd_inv h
    refine cl_X9_79 (d1 := 0) (b := zo κ.1 0) (As := [.int (3 : Int32)]) (rest := []) X.1 (by decide) (C_X9_no X.2.1 hc2050) rcX9 rfl rfl (Nat.le_of_ble_eq_true rfl) dX9_go_16 ?_
    exact z_iret X dX9_go_19 h
  · refine z_aload_n (i := 0) X.1 dX9_go_7 0 rfl rfl ?_
    obtain ⟨r2051, s2052, hc2053, h⟩ := bd_inv h
    refine cl_X9_207 (d1 := 4) (b := zo κ.1 0) (As := []) (rest := []) X.1 (by decide) (C_X9_isOver X.2.1 hc2053) rcX9 rfl rfl (Nat.le_of_ble_eq_true rfl) dX9_go_8 ?_
    refine z_if_eq (tgt := 20) X.1 dX9_go_11 (by decide) h (fun q2054 h => ?_) (fun q2054 h => ?_)
    · refine z_aload_n (i := 0) X.1 dX9_go_20 0 rfl rfl ?_
      refine z_iload_n (i := 1) X.1 dX9_go_21 1 rfl rfl ?_
      obtain ⟨r2055, s2056, hc2057, h⟩ := bd_inv h
      refine cl_X9_94 (d1 := 1) (b := zo κ.1 0) (As := [.int v1]) (rest := []) X.1 (by decide) (C_X9_isLine X.2.1 hc2057) rcX9 rfl rfl (Nat.le_of_ble_eq_true rfl) dX9_go_22 ?_
      refine z_if_ne (tgt := 34) X.1 dX9_go_25 (by decide) h (fun q2058 h => ?_) (fun q2058 h => ?_)
      · refine z_aload_n (i := 0) X.1 dX9_go_34 0 rfl rfl ?_
        obtain ⟨r2059, s2060, hc2061, h⟩ := bd_inv h
        refine cl_X9_191 (d1 := 3) (b := zo κ.1 0) (As := []) (rest := []) X.1 (by decide) (C_X9_movesNow X.2.1 hc2061) rcX9 rfl rfl (Nat.le_of_ble_eq_true rfl) dX9_go_35 ?_
        refine z_iload_n (i := 1) X.1 dX9_go_38 1 rfl rfl ?_
        obtain ⟨r2062, s2063, hc2064, h⟩ := bd_inv h
        refine cl_X9_114 (d1 := 0) (As := [.int r2059, .int v1]) (rest := []) X.1 (by decide) (C_X9_has X.2.1 hc2064) rfl rfl (Nat.le_of_ble_eq_true rfl) dX9_go_39 ?_
        refine z_if_ne (tgt := 51) X.1 dX9_go_42 (by decide) h (fun q2065 h => ?_) (fun q2065 h => ?_)
        · refine z_aload_n (i := 0) X.1 dX9_go_51 0 rfl rfl ?_
          refine z_iload_n (i := 1) X.1 dX9_go_52 1 rfl rfl ?_
          obtain ⟨r2066, s2067, hc2068, h⟩ := bd_inv h
          refine cl_X9_210 (d1 := 1) (b := zo κ.1 0) (r := 0) (As := [.int v1]) (rest := []) X.1 (by decide) (C_X9_goes X.2.1 hc2068) rcX9 rfl rfl (Nat.le_of_ble_eq_true rfl) dX9_go_53 ?_
          refine z_aload_n (i := 0) X.1 dX9_go_56 0 rfl rfl ?_
          obtain ⟨r2069, s2070, hc2071, h⟩ := bd_inv h
          refine cl_X9_207 (d1 := 4) (b := zo κ.1 0) (As := []) (rest := []) X.1 (by decide) (C_X9_isOver X.2.1 hc2071) rcX9 rfl rfl (Nat.le_of_ble_eq_true rfl) dX9_go_57 ?_
          refine z_if_eq (tgt := 67) X.1 dX9_go_60 (by decide) h (fun q2072 h => ?_) (fun q2072 h => ?_)
          · refine z_iconst (v := (0 : Int32)) X.1 dX9_go_67 (by decide) ?_
            exact z_iret X dX9_go_68 h
          · refine z_iconst (v := (1 : Int32)) X.1 dX9_go_63 (by decide) ?_
            refine z_goto (tgt := 68) X.1 dX9_go_64 (by decide) ?_
            exact z_iret X dX9_go_68 h
        · refine z_aload_n (i := 0) X.1 dX9_go_45 0 rfl rfl ?_
          refine z_iconst (v := (2 : Int32)) X.1 dX9_go_46 (by decide) ?_
          obtain ⟨r2073, s2074, hc2075, h⟩ := bd_inv h
          refine cl_X9_79 (d1 := 0) (b := zo κ.1 0) (As := [.int (2 : Int32)]) (rest := []) X.1 (by decide) (C_X9_no X.2.1 hc2075) rcX9 rfl rfl (Nat.le_of_ble_eq_true rfl) dX9_go_47 ?_
          exact z_iret X dX9_go_50 h
      · refine z_aload_n (i := 0) X.1 dX9_go_28 0 rfl rfl ?_
        refine z_iconst (v := (1 : Int32)) X.1 dX9_go_29 (by decide) ?_
        obtain ⟨r2076, s2077, hc2078, h⟩ := bd_inv h
        refine cl_X9_79 (d1 := 0) (b := zo κ.1 0) (As := [.int (1 : Int32)]) (rest := []) X.1 (by decide) (C_X9_no X.2.1 hc2078) rcX9 rfl rfl (Nat.le_of_ble_eq_true rfl) dX9_go_30 ?_
        exact z_iret X dX9_go_33 h
    · refine z_aload_n (i := 0) X.1 dX9_go_14 0 rfl rfl ?_
      refine z_iconst (v := (3 : Int32)) X.1 dX9_go_15 (by decide) ?_
      obtain ⟨r2079, s2080, hc2081, h⟩ := bd_inv h
      refine cl_X9_79 (d1 := 0) (b := zo κ.1 0) (As := [.int (3 : Int32)]) (rest := []) X.1 (by decide) (C_X9_no X.2.1 hc2081) rcX9 rfl rfl (Nat.le_of_ble_eq_true rfl) dX9_go_16 ?_
      exact z_iret X dX9_go_19 h
theorem C_X9_go {ζ : zW} (hZ : zDis ζ zM) {v1 : Int32} {σ σ' : S3} {r : Int32} (h : F_X9_go v1 σ = some (r, σ')) : zMet ζ zM 5 yX9_go cX9_go 2 (some .int) [.ref (zo ζ 0), .int v1] σ (some (.int r)) σ' :=
  zMet_of pn_X9 hZ (Nat.le_of_ble_eq_true rfl) (fun κ e X => by subst e; exact B_X9_go_0 X h)
noncomputable def Fb_X9_goesBack_21 (v1 : Int32) (K21 : Int32 → S3 → R3) (v2 : Int32) (σ : S3) : R3 :=
  if v1 ≤ v2 then (some ((0 : Int32), σ))
  else (ck v2 12 (bd (F_X9_goes (σ 0 18 (ix v2)) σ) (fun r2087 s2088 => nm (v2 + (1 : Int32)) (fun x2090 => K21 x2090 s2088))))
noncomputable def F_X9_goesBack_21 (v1 : Int32) (n : Nat) : Int32 → S3 → R3 := zl1 (Fb_X9_goesBack_21 v1) n
set_option maxHeartbeats 4000000 in
set_option maxRecDepth 100000 in
theorem B_X9_goesBack_21 {κ : zT} {σ' : S3} {r : Int32} (X : zC κ zM RX9 cX9_goesBack 3 none 2 none σ') {v1 : Int32} : ∀ (n : Nat) (v2 : Int32) (σ : S3), F_X9_goesBack_21 v1 n v2 σ = some (r, σ') → Z κ 3 (zM (ze κ.1) σ) [(0, .ref (zo κ.1 0)), (1, .int v1), (2, .int v2)] 21 [] := by
  intro n
  induction n with
  | zero =>
    intro v2 σ h
    cases (show (none : R3) = some (r, σ') from h)
  | succ n ih =>
    intro v2 σ h
    have hK21 := ih
    have h : Fb_X9_goesBack_21 v1 (F_X9_goesBack_21 v1 n) v2 σ = some (r, σ') := h
    unfold Fb_X9_goesBack_21 at h
    refine z_iload_n (i := 2) X.1 dX9_goesBack_21 2 rfl rfl ?_
    refine z_iload_n (i := 1) X.1 dX9_goesBack_22 1 rfl rfl ?_
    refine z_icmp_ge (tgt := 42) X.1 dX9_goesBack_23 (by decide) h (fun q2086 h => ?_) (fun q2086 h => ?_)
    · exact z_vret X dX9_goesBack_42 h
    · refine z_aload_n (i := 0) X.1 dX9_goesBack_26 0 rfl rfl ?_
      refine z_aload_n (i := 0) X.1 dX9_goesBack_27 0 rfl rfl ?_
      refine g_X9_made X.1 tw823 dX9_goesBack_28 ?_
      refine z_iload_n (i := 2) X.1 dX9_goesBack_31 2 rfl rfl ?_
      refine al_X9_made X.1 dX9_goesBack_32 h (fun h => ?_)
      obtain ⟨r2087, s2088, hc2089, h⟩ := bd_inv h
      refine cl_X9_210 (d1 := 1) (b := zo κ.1 0) (r := 0) (As := [.int (σ 0 18 (ix v2))]) (rest := []) X.1 (by decide) (C_X9_goes X.2.1 hc2089) rcX9 rfl rfl (Nat.le_of_ble_eq_true rfl) dX9_goesBack_33 ?_
      refine z_iinc_m (v := (1 : Int32)) (lv' := fun x2090 => [(2, .int x2090), (0, .ref (zo κ.1 0)), (1, .int v1)]) X.1 dX9_goesBack_36 2 rfl (by decide) (by decide) (fun _ => rfl) h (fun x2090 h => ?_)
      refine z_goto (tgt := 21) X.1 dX9_goesBack_39 (by decide) ?_
      exact z_sub [1, 2, 0] rfl (hK21 _ _ h)
noncomputable def F_X9_goesBack (σ : S3) : R3 :=
  nm ((σ 0 19 0) - (1 : Int32)) (fun x2082 => bd (F_X9_beginsAt (σ 0 12 0) (σ 0 13 0) σ) (fun r2083 s2084 => F_X9_goesBack_21 x2082 zF (0 : Int32) s2084))
set_option maxHeartbeats 4000000 in
set_option maxRecDepth 100000 in
theorem B_X9_goesBack_0 {κ : zT} {σ' : S3} {r : Int32} (X : zC κ zM RX9 cX9_goesBack 3 none 2 none σ') {σ : S3} (h : F_X9_goesBack σ = some (r, σ')) : Z κ 3 (zM (ze κ.1) σ) [(0, .ref (zo κ.1 0))] 0 [] := by
  unfold F_X9_goesBack at h
  refine z_aload_n (i := 0) X.1 dX9_goesBack_0 0 rfl rfl ?_
  refine g_X9_many X.1 tw824 dX9_goesBack_1 ?_
  refine z_iconst (v := (1 : Int32)) X.1 dX9_goesBack_4 (by decide) ?_
  refine z_isub X.1 dX9_goesBack_5 ?_
  refine z_istore_nn (i := 1) (lv' := fun x2082 => [(1, .int x2082), (0, .ref (zo κ.1 0))]) X.1 dX9_goesBack_6 rfl (by decide) (fun _ => rfl) h (fun x2082 h => ?_)
  refine z_aload_n (i := 0) X.1 dX9_goesBack_7 1 rfl rfl ?_
  refine z_aload_n (i := 0) X.1 dX9_goesBack_8 1 rfl rfl ?_
  refine g_X9_rule X.1 tw817 dX9_goesBack_9 ?_
  refine z_aload_n (i := 0) X.1 dX9_goesBack_12 1 rfl rfl ?_
  refine g_X9_first X.1 tw818 dX9_goesBack_13 ?_
  obtain ⟨r2083, s2084, hc2085, h⟩ := bd_inv h
  refine cl_X9_203 (d1 := 0) (b := zo κ.1 0) (r := 0) (As := [.int (σ 0 12 0), .int (σ 0 13 0)]) (rest := []) X.1 (by decide) (C_X9_beginsAt X.2.1 hc2085) rcX9 rfl rfl (Nat.le_of_ble_eq_true rfl) dX9_goesBack_16 ?_
  refine z_iconst (v := (0 : Int32)) X.1 dX9_goesBack_19 (by decide) ?_
  refine z_istore_n (i := 2) (lv' := [(2, .int (0 : Int32)), (1, .int x2082), (0, .ref (zo κ.1 0))]) X.1 dX9_goesBack_20 rfl (by decide) rfl ?_
  exact z_sub [2, 1, 0] rfl (B_X9_goesBack_21 X zF _ _ h)
theorem C_X9_goesBack {ζ : zW} (hZ : zDis ζ zM) {σ σ' : S3} {r : Int32} (h : F_X9_goesBack  σ = some (r, σ')) : zMet ζ zM 2 yX9_goesBack cX9_goesBack 3 none [.ref (zo ζ 0)] σ none σ' :=
  zMet_of pn_X9 hZ (Nat.le_of_ble_eq_true rfl) (fun κ e X => by subst e; exact B_X9_goesBack_0 X h)
noncomputable def F_X9_back (σ : S3) : R3 :=
  if (σ 0 11 0) = (0 : Int32) then (bd (F_X9_no (3 : Int32) σ) (fun r2099 s2100 => some (r2099, s2100)))
  else (if (σ 0 19 0) = (0 : Int32) then (bd (F_X9_no (2 : Int32) σ) (fun r2096 s2097 => some (r2096, s2097)))
  else (bd (F_X9_goesBack σ) (fun r2093 s2094 => some (s2094 0 19 0, s2094))))
set_option maxHeartbeats 4000000 in
set_option maxRecDepth 100000 in
theorem B_X9_back_0 {κ : zT} {σ' : S3} {r : Int32} (X : zC κ zM RX9 cX9_back 1 (some .int) 3 (some (.int r)) σ') {σ : S3} (h : F_X9_back σ = some (r, σ')) : Z κ 1 (zM (ze κ.1) σ) [(0, .ref (zo κ.1 0))] 0 [] := by
  unfold F_X9_back at h
  refine z_aload_n (i := 0) X.1 dX9_back_0 0 rfl rfl ?_
  refine g_X9_hasGame X.1 tw816 dX9_back_1 ?_
  refine z_if_ne (tgt := 13) X.1 dX9_back_4 (by decide) h (fun q2091 h => ?_) (fun q2091 h => ?_)
  · refine z_aload_n (i := 0) X.1 dX9_back_13 0 rfl rfl ?_
    refine g_X9_many X.1 tw824 dX9_back_14 ?_
    refine z_if_ne (tgt := 26) X.1 dX9_back_17 (by decide) h (fun q2092 h => ?_) (fun q2092 h => ?_)
    · refine z_aload_n (i := 0) X.1 dX9_back_26 0 rfl rfl ?_
      obtain ⟨r2093, s2094, hc2095, h⟩ := bd_inv h
      refine cl_X9_214 (d1 := 2) (b := zo κ.1 0) (r := 0) (As := []) (rest := []) X.1 (by decide) (C_X9_goesBack X.2.1 hc2095) rcX9 rfl rfl (Nat.le_of_ble_eq_true rfl) dX9_back_27 ?_
      refine z_aload_n (i := 0) X.1 dX9_back_30 0 rfl rfl ?_
      refine g_X9_many X.1 tw824 dX9_back_31 ?_
      exact z_iret X dX9_back_34 h
    · refine z_aload_n (i := 0) X.1 dX9_back_20 0 rfl rfl ?_
      refine z_iconst (v := (2 : Int32)) X.1 dX9_back_21 (by decide) ?_
      obtain ⟨r2096, s2097, hc2098, h⟩ := bd_inv h
      refine cl_X9_79 (d1 := 0) (b := zo κ.1 0) (As := [.int (2 : Int32)]) (rest := []) X.1 (by decide) (C_X9_no X.2.1 hc2098) rcX9 rfl rfl (Nat.le_of_ble_eq_true rfl) dX9_back_22 ?_
      exact z_iret X dX9_back_25 h
  · refine z_aload_n (i := 0) X.1 dX9_back_7 0 rfl rfl ?_
    refine z_iconst (v := (3 : Int32)) X.1 dX9_back_8 (by decide) ?_
    obtain ⟨r2099, s2100, hc2101, h⟩ := bd_inv h
    refine cl_X9_79 (d1 := 0) (b := zo κ.1 0) (As := [.int (3 : Int32)]) (rest := []) X.1 (by decide) (C_X9_no X.2.1 hc2101) rcX9 rfl rfl (Nat.le_of_ble_eq_true rfl) dX9_back_9 ?_
    exact z_iret X dX9_back_12 h
theorem C_X9_back {ζ : zW} (hZ : zDis ζ zM) {σ σ' : S3} {r : Int32} (h : F_X9_back  σ = some (r, σ')) : zMet ζ zM 3 yX9_back cX9_back 1 (some .int) [.ref (zo ζ 0)] σ (some (.int r)) σ' :=
  zMet_of pn_X9 hZ (Nat.le_of_ble_eq_true rfl) (fun κ e X => by subst e; exact B_X9_back_0 X h)
noncomputable def F_X9_mover (σ : S3) : R3 :=
  some ((σ 0 19 0) - (σ 0 19 0) / (2 : Int32) * (2 : Int32), σ)
set_option maxHeartbeats 4000000 in
set_option maxRecDepth 100000 in
theorem B_X9_mover_0 {κ : zT} {σ' : S3} {r : Int32} (X : zC κ zM RX9 cX9_mover 1 (some .int) 0 (some (.int r)) σ') {σ : S3} (h : F_X9_mover σ = some (r, σ')) : Z κ 1 (zM (ze κ.1) σ) [(0, .ref (zo κ.1 0))] 0 [] := by
  unfold F_X9_mover at h
  refine z_aload_n (i := 0) X.1 dX9_mover_0 0 rfl rfl ?_
  refine g_X9_many X.1 tw824 dX9_mover_1 ?_
  refine z_iconst (v := (2 : Int32)) X.1 dX9_mover_4 (by decide) ?_
  refine z_irem X.1 dX9_mover_5 (by decide) ?_
  exact z_iret X dX9_mover_6 h
theorem C_X9_mover {ζ : zW} (hZ : zDis ζ zM) {σ σ' : S3} {r : Int32} (h : F_X9_mover  σ = some (r, σ')) : zMet ζ zM 0 yX9_mover cX9_mover 1 (some .int) [.ref (zo ζ 0)] σ (some (.int r)) σ' :=
  zMet_of pn_X9 hZ (Nat.le_of_ble_eq_true rfl) (fun κ e X => by subst e; exact B_X9_mover_0 X h)
noncomputable def F_X9_winner (σ : S3) : R3 :=
  bd (F_X9_setNow σ) (fun r2102 s2103 => bd (F_X9_winsAt (σ 0 14 0) r2102 s2103) (fun r2105 s2106 => if r2105 = (0 : Int32) then (bd (F_X9_mover s2106) (fun r2109 s2110 => some ((1 : Int32) - r2109, s2110)))
  else (bd (F_X9_mover s2106) (fun r2112 s2113 => some (r2112, s2113)))))
set_option maxHeartbeats 4000000 in
set_option maxRecDepth 100000 in
theorem B_X9_winner_0 {κ : zT} {σ' : S3} {r : Int32} (X : zC κ zM RX9 cX9_winner 1 (some .int) 24 (some (.int r)) σ') {σ : S3} (h : F_X9_winner σ = some (r, σ')) : Z κ 1 (zM (ze κ.1) σ) [(0, .ref (zo κ.1 0))] 0 [] := by
  unfold F_X9_winner at h
  refine z_aload_n (i := 0) X.1 dX9_winner_0 0 rfl rfl ?_
  refine z_aload_n (i := 0) X.1 dX9_winner_1 0 rfl rfl ?_
  refine g_X9_marker X.1 tw819 dX9_winner_2 ?_
  refine z_aload_n (i := 0) X.1 dX9_winner_5 0 rfl rfl ?_
  obtain ⟨r2102, s2103, hc2104, h⟩ := bd_inv h
  refine cl_X9_185 (d1 := 1) (b := zo κ.1 0) (As := []) (rest := [.int (σ 0 14 0), .ref (zo κ.1 0)]) X.1 (by decide) (C_X9_setNow X.2.1 hc2104) rcX9 rfl rfl (Nat.le_of_ble_eq_true rfl) dX9_winner_6 ?_
  obtain ⟨r2105, s2106, hc2107, h⟩ := bd_inv h
  refine cl_X9_194 (d1 := 23) (b := zo κ.1 0) (As := [.int (σ 0 14 0), .int r2102]) (rest := []) X.1 (by decide) (C_X9_winsAt X.2.1 hc2107) rcX9 rfl rfl (Nat.le_of_ble_eq_true rfl) dX9_winner_9 ?_
  refine z_if_eq (tgt := 22) X.1 dX9_winner_12 (by decide) h (fun q2108 h => ?_) (fun q2108 h => ?_)
  · refine z_iconst (v := (1 : Int32)) X.1 dX9_winner_22 (by decide) ?_
    refine z_aload_n (i := 0) X.1 dX9_winner_23 0 rfl rfl ?_
    obtain ⟨r2109, s2110, hc2111, h⟩ := bd_inv h
    refine cl_X9_217 (d1 := 0) (b := zo κ.1 0) (As := []) (rest := [.int (1 : Int32)]) X.1 (by decide) (C_X9_mover X.2.1 hc2111) rcX9 rfl rfl (Nat.le_of_ble_eq_true rfl) dX9_winner_24 ?_
    refine z_isub X.1 dX9_winner_27 ?_
    exact z_iret X dX9_winner_28 h
  · refine z_aload_n (i := 0) X.1 dX9_winner_15 0 rfl rfl ?_
    obtain ⟨r2112, s2113, hc2114, h⟩ := bd_inv h
    refine cl_X9_217 (d1 := 0) (b := zo κ.1 0) (As := []) (rest := []) X.1 (by decide) (C_X9_mover X.2.1 hc2114) rcX9 rfl rfl (Nat.le_of_ble_eq_true rfl) dX9_winner_16 ?_
    refine z_goto (tgt := 28) X.1 dX9_winner_19 (by decide) ?_
    exact z_iret X dX9_winner_28 h
theorem C_X9_winner {ζ : zW} (hZ : zDis ζ zM) {σ σ' : S3} {r : Int32} (h : F_X9_winner  σ = some (r, σ')) : zMet ζ zM 24 yX9_winner cX9_winner 1 (some .int) [.ref (zo ζ 0)] σ (some (.int r)) σ' :=
  zMet_of pn_X9 hZ (Nat.le_of_ble_eq_true rfl) (fun κ e X => by subst e; exact B_X9_winner_0 X h)
noncomputable def F_X9_game (v1 : Int32) (σ : S3) : R3 :=
  bd (F_X9_in v1 (0 : Int32) (7 : Int32) σ) (fun r2115 s2116 => if r2115 = (0 : Int32) then (bd (F_X9_no (1 : Int32) s2116) (fun r2140 s2141 => some (r2140, s2141)))
  else (if (s2116 0 11 0) = (0 : Int32) then (bd (F_X9_no (3 : Int32) s2116) (fun r2137 s2138 => some (r2137, s2138)))
  else ((if v1 = (0 : Int32) then (some (s2116 0 12 0, s2116))
  else (if v1 = (1 : Int32) then (some (s2116 0 14 0, s2116))
  else (if v1 = (2 : Int32) then (some (s2116 0 15 0, s2116))
  else (if v1 = (3 : Int32) then (some (s2116 0 16 0, s2116))
  else (if v1 = (4 : Int32) then (some (s2116 0 19 0, s2116))
  else (if v1 = (5 : Int32) then (bd (F_X9_mover s2116) (fun r2126 s2127 => some (r2126, s2127)))
  else (if v1 = (6 : Int32) then (bd (F_X9_isOver s2116) (fun r2130 s2131 => if r2130 = (0 : Int32) then (some ((0 : Int32), s2131))
  else (some ((1 : Int32), s2131))))
  else (bd (F_X9_winner s2116) (fun r2134 s2135 => some (r2134, s2135)))))))))))))
set_option maxHeartbeats 4000000 in
set_option maxRecDepth 100000 in
theorem B_X9_game_0 {κ : zT} {σ' : S3} {r : Int32} (X : zC κ zM RX9 cX9_game 2 (some .int) 25 (some (.int r)) σ') {v1 : Int32} {σ : S3} (h : F_X9_game v1 σ = some (r, σ')) : Z κ 2 (zM (ze κ.1) σ) [(0, .ref (zo κ.1 0)), (1, .int v1)] 0 [] := by
  unfold F_X9_game at h
  refine z_iload_n (i := 1) X.1 dX9_game_0 1 rfl rfl ?_
  refine z_iconst (v := (0 : Int32)) X.1 dX9_game_1 (by decide) ?_
  refine z_bipush (v := (7 : Int32)) X.1 dX9_game_2 (by decide) ?_
  obtain ⟨r2115, s2116, hc2117, h⟩ := bd_inv h
  refine cl_X9_68 (d1 := 0) (As := [.int v1, .int (0 : Int32), .int (7 : Int32)]) (rest := []) X.1 (by decide) (C_X9_in X.2.1 hc2117) rfl rfl (Nat.le_of_ble_eq_true rfl) dX9_game_4 ?_
  refine z_if_ne (tgt := 16) X.1 dX9_game_7 (by decide) h (fun q2118 h => ?_) (fun q2118 h => ?_)
  · refine z_aload_n (i := 0) X.1 dX9_game_16 0 rfl rfl ?_
    refine g_X9_hasGame X.1 tw816 dX9_game_17 ?_
    refine z_if_ne (tgt := 29) X.1 dX9_game_20 (by decide) h (fun q2119 h => ?_) (fun q2119 h => ?_)
    · refine z_iload_n (i := 1) X.1 dX9_game_29 1 rfl rfl ?_
      by_cases q0 : v1 = (0 : Int32)
      · rw [if_pos q0] at h
        refine z_tabIn (tgt := 72) X.1 dX9_game_30 q0 (by decide) (by decide) rfl (by decide) ?_
        refine z_aload_n (i := 0) X.1 dX9_game_72 0 rfl rfl ?_
        refine g_X9_rule X.1 tw817 dX9_game_73 ?_
        exact z_iret X dX9_game_76 h
      · rw [if_neg q0] at h
        by_cases q1 : v1 = (1 : Int32)
        · rw [if_pos q1] at h
          refine z_tabIn (tgt := 77) X.1 dX9_game_30 q1 (by decide) (by decide) rfl (by decide) ?_
          refine z_aload_n (i := 0) X.1 dX9_game_77 0 rfl rfl ?_
          refine g_X9_marker X.1 tw819 dX9_game_78 ?_
          exact z_iret X dX9_game_81 h
        · rw [if_neg q1] at h
          by_cases q2 : v1 = (2 : Int32)
          · rw [if_pos q2] at h
            refine z_tabIn (tgt := 82) X.1 dX9_game_30 q2 (by decide) (by decide) rfl (by decide) ?_
            refine z_aload_n (i := 0) X.1 dX9_game_82 0 rfl rfl ?_
            refine g_X9_met X.1 tw820 dX9_game_83 ?_
            exact z_iret X dX9_game_86 h
          · rw [if_neg q2] at h
            by_cases q3 : v1 = (3 : Int32)
            · rw [if_pos q3] at h
              refine z_tabIn (tgt := 87) X.1 dX9_game_30 q3 (by decide) (by decide) rfl (by decide) ?_
              refine z_aload_n (i := 0) X.1 dX9_game_87 0 rfl rfl ?_
              refine g_X9_gone X.1 tw821 dX9_game_88 ?_
              exact z_iret X dX9_game_91 h
            · rw [if_neg q3] at h
              by_cases q4 : v1 = (4 : Int32)
              · rw [if_pos q4] at h
                refine z_tabIn (tgt := 92) X.1 dX9_game_30 q4 (by decide) (by decide) rfl (by decide) ?_
                refine z_aload_n (i := 0) X.1 dX9_game_92 0 rfl rfl ?_
                refine g_X9_many X.1 tw824 dX9_game_93 ?_
                exact z_iret X dX9_game_96 h
              · rw [if_neg q4] at h
                by_cases q5 : v1 = (5 : Int32)
                · rw [if_pos q5] at h
                  refine z_tabIn (tgt := 97) X.1 dX9_game_30 q5 (by decide) (by decide) rfl (by decide) ?_
                  refine z_aload_n (i := 0) X.1 dX9_game_97 0 rfl rfl ?_
                  obtain ⟨r2126, s2127, hc2128, h⟩ := bd_inv h
                  refine cl_X9_217 (d1 := 0) (b := zo κ.1 0) (As := []) (rest := []) X.1 (by decide) (C_X9_mover X.2.1 hc2128) rcX9 rfl rfl (Nat.le_of_ble_eq_true rfl) dX9_game_98 ?_
                  exact z_iret X dX9_game_101 h
                · rw [if_neg q5] at h
                  by_cases q6 : v1 = (6 : Int32)
                  · rw [if_pos q6] at h
                    refine z_tabIn (tgt := 102) X.1 dX9_game_30 q6 (by decide) (by decide) rfl (by decide) ?_
                    refine z_aload_n (i := 0) X.1 dX9_game_102 0 rfl rfl ?_
                    obtain ⟨r2130, s2131, hc2132, h⟩ := bd_inv h
                    refine cl_X9_207 (d1 := 4) (b := zo κ.1 0) (As := []) (rest := []) X.1 (by decide) (C_X9_isOver X.2.1 hc2132) rcX9 rfl rfl (Nat.le_of_ble_eq_true rfl) dX9_game_103 ?_
                    refine z_if_eq (tgt := 113) X.1 dX9_game_106 (by decide) h (fun q2133 h => ?_) (fun q2133 h => ?_)
                    · refine z_iconst (v := (0 : Int32)) X.1 dX9_game_113 (by decide) ?_
                      exact z_iret X dX9_game_114 h
                    · refine z_iconst (v := (1 : Int32)) X.1 dX9_game_109 (by decide) ?_
                      refine z_goto (tgt := 114) X.1 dX9_game_110 (by decide) ?_
                      exact z_iret X dX9_game_114 h
                  · rw [if_neg q6] at h
                    have t0 : v1.toInt ≠ 0 := tab_ne q0
                    have t1 : v1.toInt ≠ 1 := tab_ne q1
                    have t2 : v1.toInt ≠ 2 := tab_ne q2
                    have t3 : v1.toInt ≠ 3 := tab_ne q3
                    have t4 : v1.toInt ≠ 4 := tab_ne q4
                    have t5 : v1.toInt ≠ 5 := tab_ne q5
                    have t6 : v1.toInt ≠ 6 := tab_ne q6
                    refine z_tabOut (tgt := 115) X.1 dX9_game_30 (by omega) (by decide) ?_
                    refine z_aload_n (i := 0) X.1 dX9_game_115 0 rfl rfl ?_
                    obtain ⟨r2134, s2135, hc2136, h⟩ := bd_inv h
                    refine cl_X9_220 (d1 := 24) (b := zo κ.1 0) (As := []) (rest := []) X.1 (by decide) (C_X9_winner X.2.1 hc2136) rcX9 rfl rfl (Nat.le_of_ble_eq_true rfl) dX9_game_116 ?_
                    exact z_iret X dX9_game_119 h
    · refine z_aload_n (i := 0) X.1 dX9_game_23 0 rfl rfl ?_
      refine z_iconst (v := (3 : Int32)) X.1 dX9_game_24 (by decide) ?_
      obtain ⟨r2137, s2138, hc2139, h⟩ := bd_inv h
      refine cl_X9_79 (d1 := 0) (b := zo κ.1 0) (As := [.int (3 : Int32)]) (rest := []) X.1 (by decide) (C_X9_no X.2.1 hc2139) rcX9 rfl rfl (Nat.le_of_ble_eq_true rfl) dX9_game_25 ?_
      exact z_iret X dX9_game_28 h
  · refine z_aload_n (i := 0) X.1 dX9_game_10 0 rfl rfl ?_
    refine z_iconst (v := (1 : Int32)) X.1 dX9_game_11 (by decide) ?_
    obtain ⟨r2140, s2141, hc2142, h⟩ := bd_inv h
    refine cl_X9_79 (d1 := 0) (b := zo κ.1 0) (As := [.int (1 : Int32)]) (rest := []) X.1 (by decide) (C_X9_no X.2.1 hc2142) rcX9 rfl rfl (Nat.le_of_ble_eq_true rfl) dX9_game_12 ?_
    exact z_iret X dX9_game_15 h
theorem C_X9_game {ζ : zW} (hZ : zDis ζ zM) {v1 : Int32} {σ σ' : S3} {r : Int32} (h : F_X9_game v1 σ = some (r, σ')) : zMet ζ zM 25 yX9_game cX9_game 2 (some .int) [.ref (zo ζ 0), .int v1] σ (some (.int r)) σ' :=
  zMet_of pn_X9 hZ (Nat.le_of_ble_eq_true rfl) (fun κ e X => by subst e; exact B_X9_game_0 X h)
noncomputable def F_X9_moved (v1 : Int32) (σ : S3) : R3 :=
  if (σ 0 11 0) = (0 : Int32) then (bd (F_X9_no (3 : Int32) σ) (fun r2151 s2152 => some (r2151, s2152)))
  else (bd (F_X9_in v1 (0 : Int32) ((σ 0 19 0) - (1 : Int32)) σ) (fun r2144 s2145 => if r2144 = (0 : Int32) then (bd (F_X9_no (2 : Int32) s2145) (fun r2148 s2149 => some (r2148, s2149)))
  else (ck v1 12 (some (s2145 0 18 (ix v1), s2145)))))
set_option maxHeartbeats 4000000 in
set_option maxRecDepth 100000 in
theorem B_X9_moved_0 {κ : zT} {σ' : S3} {r : Int32} (X : zC κ zM RX9 cX9_moved 2 (some .int) 1 (some (.int r)) σ') {v1 : Int32} {σ : S3} (h : F_X9_moved v1 σ = some (r, σ')) : Z κ 2 (zM (ze κ.1) σ) [(0, .ref (zo κ.1 0)), (1, .int v1)] 0 [] := by
  unfold F_X9_moved at h
  refine z_aload_n (i := 0) X.1 dX9_moved_0 0 rfl rfl ?_
  refine g_X9_hasGame X.1 tw816 dX9_moved_1 ?_
  refine z_if_ne (tgt := 13) X.1 dX9_moved_4 (by decide) h (fun q2143 h => ?_) (fun q2143 h => ?_)
  · refine z_iload_n (i := 1) X.1 dX9_moved_13 1 rfl rfl ?_
    refine z_iconst (v := (0 : Int32)) X.1 dX9_moved_14 (by decide) ?_
    refine z_aload_n (i := 0) X.1 dX9_moved_15 0 rfl rfl ?_
    refine g_X9_many X.1 tw824 dX9_moved_16 ?_
    refine z_iconst (v := (1 : Int32)) X.1 dX9_moved_19 (by decide) ?_
    refine z_isub X.1 dX9_moved_20 ?_
    obtain ⟨r2144, s2145, hc2146, h⟩ := bd_inv h
    refine cl_X9_68 (d1 := 0) (As := [.int v1, .int (0 : Int32), .int ((σ 0 19 0) - (1 : Int32))]) (rest := []) X.1 (by decide) (C_X9_in X.2.1 hc2146) rfl rfl (Nat.le_of_ble_eq_true rfl) dX9_moved_21 ?_
    refine z_if_eq (tgt := 36) X.1 dX9_moved_24 (by decide) h (fun q2147 h => ?_) (fun q2147 h => ?_)
    · refine z_aload_n (i := 0) X.1 dX9_moved_36 0 rfl rfl ?_
      refine z_iconst (v := (2 : Int32)) X.1 dX9_moved_37 (by decide) ?_
      obtain ⟨r2148, s2149, hc2150, h⟩ := bd_inv h
      refine cl_X9_79 (d1 := 0) (b := zo κ.1 0) (As := [.int (2 : Int32)]) (rest := []) X.1 (by decide) (C_X9_no X.2.1 hc2150) rcX9 rfl rfl (Nat.le_of_ble_eq_true rfl) dX9_moved_38 ?_
      exact z_iret X dX9_moved_41 h
    · refine z_aload_n (i := 0) X.1 dX9_moved_27 0 rfl rfl ?_
      refine g_X9_made X.1 tw823 dX9_moved_28 ?_
      refine z_iload_n (i := 1) X.1 dX9_moved_31 1 rfl rfl ?_
      refine al_X9_made X.1 dX9_moved_32 h (fun h => ?_)
      refine z_goto (tgt := 41) X.1 dX9_moved_33 (by decide) ?_
      exact z_iret X dX9_moved_41 h
  · refine z_aload_n (i := 0) X.1 dX9_moved_7 0 rfl rfl ?_
    refine z_iconst (v := (3 : Int32)) X.1 dX9_moved_8 (by decide) ?_
    obtain ⟨r2151, s2152, hc2153, h⟩ := bd_inv h
    refine cl_X9_79 (d1 := 0) (b := zo κ.1 0) (As := [.int (3 : Int32)]) (rest := []) X.1 (by decide) (C_X9_no X.2.1 hc2153) rcX9 rfl rfl (Nat.le_of_ble_eq_true rfl) dX9_moved_9 ?_
    exact z_iret X dX9_moved_12 h
theorem C_X9_moved {ζ : zW} (hZ : zDis ζ zM) {v1 : Int32} {σ σ' : S3} {r : Int32} (h : F_X9_moved v1 σ = some (r, σ')) : zMet ζ zM 1 yX9_moved cX9_moved 2 (some .int) [.ref (zo ζ 0), .int v1] σ (some (.int r)) σ' :=
  zMet_of pn_X9 hZ (Nat.le_of_ble_eq_true rfl) (fun κ e X => by subst e; exact B_X9_moved_0 X h)
noncomputable def Fb_X9_winning_9 (v1 : Int32) (K9 : Int32 → Int32 → S3 → R3) (v2 : Int32) (v3 : Int32) (σ : S3) : R3 :=
  if (σ 0 2 0) ≤ v3 then (some (v2, σ))
  else (bd (F_X9_has v1 v3 σ) (fun r2158 s2159 => if r2158 = (0 : Int32) then (nm (v2 ||| (0 : Int32)) (fun x2162 => nm (v3 + (1 : Int32)) (fun x2163 => K9 x2162 x2163 s2159)))
  else (bd (F_X9_winsBehind v3 s2159) (fun r2164 s2165 => if r2164 = (0 : Int32) then (nm (v2 ||| (0 : Int32)) (fun x2168 => nm (v3 + (1 : Int32)) (fun x2169 => K9 x2168 x2169 s2165)))
  else (nm (v2 ||| ((1 : Int32) <<< (v3 &&& 31))) (fun x2170 => nm (v3 + (1 : Int32)) (fun x2171 => K9 x2170 x2171 s2165)))))))
noncomputable def F_X9_winning_9 (v1 : Int32) (n : Nat) : Int32 → Int32 → S3 → R3 := zl2 (Fb_X9_winning_9 v1) n
set_option maxHeartbeats 4000000 in
set_option maxRecDepth 100000 in
theorem B_X9_winning_9 {κ : zT} {σ' : S3} {r : Int32} (X : zC κ zM RX9 cX9_winning 4 (some .int) 25 (some (.int r)) σ') {v1 : Int32} : ∀ (n : Nat) (v2 : Int32) (v3 : Int32) (σ : S3), F_X9_winning_9 v1 n v2 v3 σ = some (r, σ') → Z κ 4 (zM (ze κ.1) σ) [(0, .ref (zo κ.1 0)), (1, .int v1), (2, .int v2), (3, .int v3)] 9 [] := by
  intro n
  induction n with
  | zero =>
    intro v2 v3 σ h
    cases (show (none : R3) = some (r, σ') from h)
  | succ n ih =>
    intro v2 v3 σ h
    have hK9 := ih
    have h : Fb_X9_winning_9 v1 (F_X9_winning_9 v1 n) v2 v3 σ = some (r, σ') := h
    unfold Fb_X9_winning_9 at h
    refine z_iload_n (i := 3) X.1 dX9_winning_9 3 rfl rfl ?_
    refine z_aload_n (i := 0) X.1 dX9_winning_10 0 rfl rfl ?_
    refine g_X9_lines X.1 tw807 dX9_winning_11 ?_
    refine z_icmp_ge (tgt := 49) X.1 dX9_winning_14 (by decide) h (fun q2157 h => ?_) (fun q2157 h => ?_)
    · refine z_iload_n (i := 2) X.1 dX9_winning_49 2 rfl rfl ?_
      exact z_iret X dX9_winning_50 h
    · refine z_iload_n (i := 2) X.1 dX9_winning_17 2 rfl rfl ?_
      refine z_iload_n (i := 1) X.1 dX9_winning_18 1 rfl rfl ?_
      refine z_iload_n (i := 3) X.1 dX9_winning_19 3 rfl rfl ?_
      obtain ⟨r2158, s2159, hc2160, h⟩ := bd_inv h
      refine cl_X9_114 (d1 := 0) (As := [.int v1, .int v3]) (rest := [.int v2]) X.1 (by decide) (C_X9_has X.2.1 hc2160) rfl rfl (Nat.le_of_ble_eq_true rfl) dX9_winning_20 ?_
      refine z_if_eq (tgt := 40) X.1 dX9_winning_23 (by decide) h (fun q2161 h => ?_) (fun q2161 h => ?_)
      · refine z_iconst (v := (0 : Int32)) X.1 dX9_winning_40 (by decide) ?_
        refine z_ior X.1 dX9_winning_41 ?_
        refine z_istore_nn (i := 2) (lv' := fun x2162 => [(2, .int x2162), (0, .ref (zo κ.1 0)), (1, .int v1), (3, .int v3)]) X.1 dX9_winning_42 rfl (by decide) (fun _ => rfl) h (fun x2162 h => ?_)
        refine z_iinc_m (v := (1 : Int32)) (lv' := fun x2163 => [(3, .int x2163), (2, .int x2162), (0, .ref (zo κ.1 0)), (1, .int v1)]) X.1 dX9_winning_43 3 rfl (by decide) (by decide) (fun _ => rfl) h (fun x2163 h => ?_)
        refine z_goto (tgt := 9) X.1 dX9_winning_46 (by decide) ?_
        exact z_sub [2, 3, 1, 0] rfl (hK9 _ _ _ h)
      · refine z_aload_n (i := 0) X.1 dX9_winning_26 0 rfl rfl ?_
        refine z_iload_n (i := 3) X.1 dX9_winning_27 3 rfl rfl ?_
        obtain ⟨r2164, s2165, hc2166, h⟩ := bd_inv h
        refine cl_X9_223 (d1 := 24) (b := zo κ.1 0) (As := [.int v3]) (rest := [.int v2]) X.1 (by decide) (C_X9_winsBehind X.2.1 hc2166) rcX9 rfl rfl (Nat.le_of_ble_eq_true rfl) dX9_winning_28 ?_
        refine z_if_eq (tgt := 40) X.1 dX9_winning_31 (by decide) h (fun q2167 h => ?_) (fun q2167 h => ?_)
        · refine z_iconst (v := (0 : Int32)) X.1 dX9_winning_40 (by decide) ?_
          refine z_ior X.1 dX9_winning_41 ?_
          refine z_istore_nn (i := 2) (lv' := fun x2168 => [(2, .int x2168), (0, .ref (zo κ.1 0)), (1, .int v1), (3, .int v3)]) X.1 dX9_winning_42 rfl (by decide) (fun _ => rfl) h (fun x2168 h => ?_)
          refine z_iinc_m (v := (1 : Int32)) (lv' := fun x2169 => [(3, .int x2169), (2, .int x2168), (0, .ref (zo κ.1 0)), (1, .int v1)]) X.1 dX9_winning_43 3 rfl (by decide) (by decide) (fun _ => rfl) h (fun x2169 h => ?_)
          refine z_goto (tgt := 9) X.1 dX9_winning_46 (by decide) ?_
          exact z_sub [2, 3, 1, 0] rfl (hK9 _ _ _ h)
        · refine z_iconst (v := (1 : Int32)) X.1 dX9_winning_34 (by decide) ?_
          refine z_iload_n (i := 3) X.1 dX9_winning_35 3 rfl rfl ?_
          refine z_ishl X.1 dX9_winning_36 ?_
          refine z_goto (tgt := 41) X.1 dX9_winning_37 (by decide) ?_
          refine z_ior X.1 dX9_winning_41 ?_
          refine z_istore_nn (i := 2) (lv' := fun x2170 => [(2, .int x2170), (0, .ref (zo κ.1 0)), (1, .int v1), (3, .int v3)]) X.1 dX9_winning_42 rfl (by decide) (fun _ => rfl) h (fun x2170 h => ?_)
          refine z_iinc_m (v := (1 : Int32)) (lv' := fun x2171 => [(3, .int x2171), (2, .int x2170), (0, .ref (zo κ.1 0)), (1, .int v1)]) X.1 dX9_winning_43 3 rfl (by decide) (by decide) (fun _ => rfl) h (fun x2171 h => ?_)
          refine z_goto (tgt := 9) X.1 dX9_winning_46 (by decide) ?_
          exact z_sub [2, 3, 1, 0] rfl (hK9 _ _ _ h)
noncomputable def F_X9_winning (σ : S3) : R3 :=
  bd (F_X9_movesNow σ) (fun r2154 s2155 => F_X9_winning_9 r2154 zF (0 : Int32) (0 : Int32) s2155)
set_option maxHeartbeats 4000000 in
set_option maxRecDepth 100000 in
theorem B_X9_winning_0 {κ : zT} {σ' : S3} {r : Int32} (X : zC κ zM RX9 cX9_winning 4 (some .int) 25 (some (.int r)) σ') {σ : S3} (h : F_X9_winning σ = some (r, σ')) : Z κ 4 (zM (ze κ.1) σ) [(0, .ref (zo κ.1 0))] 0 [] := by
  unfold F_X9_winning at h
  refine z_aload_n (i := 0) X.1 dX9_winning_0 0 rfl rfl ?_
  obtain ⟨r2154, s2155, hc2156, h⟩ := bd_inv h
  refine cl_X9_191 (d1 := 3) (b := zo κ.1 0) (As := []) (rest := []) X.1 (by decide) (C_X9_movesNow X.2.1 hc2156) rcX9 rfl rfl (Nat.le_of_ble_eq_true rfl) dX9_winning_1 ?_
  refine z_istore_n (i := 1) (lv' := [(1, .int r2154), (0, .ref (zo κ.1 0))]) X.1 dX9_winning_4 rfl (by decide) rfl ?_
  refine z_iconst (v := (0 : Int32)) X.1 dX9_winning_5 (by decide) ?_
  refine z_istore_n (i := 2) (lv' := [(2, .int (0 : Int32)), (1, .int r2154), (0, .ref (zo κ.1 0))]) X.1 dX9_winning_6 rfl (by decide) rfl ?_
  refine z_iconst (v := (0 : Int32)) X.1 dX9_winning_7 (by decide) ?_
  refine z_istore_n (i := 3) (lv' := [(3, .int (0 : Int32)), (2, .int (0 : Int32)), (1, .int r2154), (0, .ref (zo κ.1 0))]) X.1 dX9_winning_8 rfl (by decide) rfl ?_
  exact z_sub [3, 2, 1, 0] rfl (B_X9_winning_9 X zF _ _ _ h)
theorem C_X9_winning {ζ : zW} (hZ : zDis ζ zM) {σ σ' : S3} {r : Int32} (h : F_X9_winning  σ = some (r, σ')) : zMet ζ zM 25 yX9_winning cX9_winning 4 (some .int) [.ref (zo ζ 0)] σ (some (.int r)) σ' :=
  zMet_of pn_X9 hZ (Nat.le_of_ble_eq_true rfl) (fun κ e X => by subst e; exact B_X9_winning_0 X h)
noncomputable def F_X9_moves (v1 : Int32) (σ : S3) : R3 :=
  bd (F_X9_in v1 (0 : Int32) (1 : Int32) σ) (fun r2172 s2173 => if r2172 = (0 : Int32) then (bd (F_X9_no (1 : Int32) s2173) (fun r2187 s2188 => some (r2187, s2188)))
  else (if (s2173 0 11 0) = (0 : Int32) then (bd (F_X9_no (3 : Int32) s2173) (fun r2184 s2185 => some (r2184, s2185)))
  else (if v1 = (0 : Int32) then (bd (F_X9_movesNow s2173) (fun r2181 s2182 => some (r2181, s2182)))
  else (bd (F_X9_winning s2173) (fun r2178 s2179 => some (r2178, s2179))))))
set_option maxHeartbeats 4000000 in
set_option maxRecDepth 100000 in
theorem B_X9_moves_0 {κ : zT} {σ' : S3} {r : Int32} (X : zC κ zM RX9 cX9_moves 2 (some .int) 26 (some (.int r)) σ') {v1 : Int32} {σ : S3} (h : F_X9_moves v1 σ = some (r, σ')) : Z κ 2 (zM (ze κ.1) σ) [(0, .ref (zo κ.1 0)), (1, .int v1)] 0 [] := by
  unfold F_X9_moves at h
  refine z_iload_n (i := 1) X.1 dX9_moves_0 1 rfl rfl ?_
  refine z_iconst (v := (0 : Int32)) X.1 dX9_moves_1 (by decide) ?_
  refine z_iconst (v := (1 : Int32)) X.1 dX9_moves_2 (by decide) ?_
  obtain ⟨r2172, s2173, hc2174, h⟩ := bd_inv h
  refine cl_X9_68 (d1 := 0) (As := [.int v1, .int (0 : Int32), .int (1 : Int32)]) (rest := []) X.1 (by decide) (C_X9_in X.2.1 hc2174) rfl rfl (Nat.le_of_ble_eq_true rfl) dX9_moves_3 ?_
  refine z_if_ne (tgt := 15) X.1 dX9_moves_6 (by decide) h (fun q2175 h => ?_) (fun q2175 h => ?_)
  · refine z_aload_n (i := 0) X.1 dX9_moves_15 0 rfl rfl ?_
    refine g_X9_hasGame X.1 tw816 dX9_moves_16 ?_
    refine z_if_ne (tgt := 28) X.1 dX9_moves_19 (by decide) h (fun q2176 h => ?_) (fun q2176 h => ?_)
    · refine z_iload_n (i := 1) X.1 dX9_moves_28 1 rfl rfl ?_
      refine z_if_ne (tgt := 39) X.1 dX9_moves_29 (by decide) h (fun q2177 h => ?_) (fun q2177 h => ?_)
      · refine z_aload_n (i := 0) X.1 dX9_moves_39 0 rfl rfl ?_
        obtain ⟨r2178, s2179, hc2180, h⟩ := bd_inv h
        refine cl_X9_226 (d1 := 25) (b := zo κ.1 0) (As := []) (rest := []) X.1 (by decide) (C_X9_winning X.2.1 hc2180) rcX9 rfl rfl (Nat.le_of_ble_eq_true rfl) dX9_moves_40 ?_
        exact z_iret X dX9_moves_43 h
      · refine z_aload_n (i := 0) X.1 dX9_moves_32 0 rfl rfl ?_
        obtain ⟨r2181, s2182, hc2183, h⟩ := bd_inv h
        refine cl_X9_191 (d1 := 3) (b := zo κ.1 0) (As := []) (rest := []) X.1 (by decide) (C_X9_movesNow X.2.1 hc2183) rcX9 rfl rfl (Nat.le_of_ble_eq_true rfl) dX9_moves_33 ?_
        refine z_goto (tgt := 43) X.1 dX9_moves_36 (by decide) ?_
        exact z_iret X dX9_moves_43 h
    · refine z_aload_n (i := 0) X.1 dX9_moves_22 0 rfl rfl ?_
      refine z_iconst (v := (3 : Int32)) X.1 dX9_moves_23 (by decide) ?_
      obtain ⟨r2184, s2185, hc2186, h⟩ := bd_inv h
      refine cl_X9_79 (d1 := 0) (b := zo κ.1 0) (As := [.int (3 : Int32)]) (rest := []) X.1 (by decide) (C_X9_no X.2.1 hc2186) rcX9 rfl rfl (Nat.le_of_ble_eq_true rfl) dX9_moves_24 ?_
      exact z_iret X dX9_moves_27 h
  · refine z_aload_n (i := 0) X.1 dX9_moves_9 0 rfl rfl ?_
    refine z_iconst (v := (1 : Int32)) X.1 dX9_moves_10 (by decide) ?_
    obtain ⟨r2187, s2188, hc2189, h⟩ := bd_inv h
    refine cl_X9_79 (d1 := 0) (b := zo κ.1 0) (As := [.int (1 : Int32)]) (rest := []) X.1 (by decide) (C_X9_no X.2.1 hc2189) rcX9 rfl rfl (Nat.le_of_ble_eq_true rfl) dX9_moves_11 ?_
    exact z_iret X dX9_moves_14 h
theorem C_X9_moves {ζ : zW} (hZ : zDis ζ zM) {v1 : Int32} {σ σ' : S3} {r : Int32} (h : F_X9_moves v1 σ = some (r, σ')) : zMet ζ zM 26 yX9_moves cX9_moves 2 (some .int) [.ref (zo ζ 0), .int v1] σ (some (.int r)) σ' :=
  zMet_of pn_X9 hZ (Nat.le_of_ble_eq_true rfl) (fun κ e X => by subst e; exact B_X9_moves_0 X h)
noncomputable def F_X9_worth_47 (v1 : Int32) (σ : S3) : R3 :=
  bd (F_X9_tables σ) (fun r2196 s2197 => if v1 = (0 : Int32) then (bd (F_X9_setNow s2197) (fun r2206 s2207 => bd (F_X9_longAt (s2197 0 14 0) r2206 s2207) (fun r2209 s2210 => some (r2209, s2210))))
  else (bd (F_X9_setNow s2197) (fun r2200 s2201 => bd (F_X9_nimAt 20 (s2197 0 14 0) r2200 s2201) (fun r2203 s2204 => some (r2203, s2204)))))
set_option maxHeartbeats 4000000 in
set_option maxRecDepth 100000 in
theorem B_X9_worth_47 {κ : zT} {σ' : S3} {r : Int32} (X : zC κ zM RX9 cX9_worth 2 (some .int) 24 (some (.int r)) σ') {v1 : Int32} {σ : S3} (h : F_X9_worth_47 v1 σ = some (r, σ')) : Z κ 2 (zM (ze κ.1) σ) [(0, .ref (zo κ.1 0)), (1, .int v1)] 47 [] := by
  unfold F_X9_worth_47 at h
  refine z_aload_n (i := 0) X.1 dX9_worth_47 0 rfl rfl ?_
  obtain ⟨r2196, s2197, hc2198, h⟩ := bd_inv h
  refine cl_X9_170 (d1 := 0) (b := zo κ.1 0) (r := 0) (As := []) (rest := []) X.1 (by decide) (C_X9_tables X.2.1 hc2198) rcX9 rfl rfl (Nat.le_of_ble_eq_true rfl) dX9_worth_48 ?_
  refine z_iload_n (i := 1) X.1 dX9_worth_51 1 rfl rfl ?_
  refine z_if_ne (tgt := 70) X.1 dX9_worth_52 (by decide) h (fun q2199 h => ?_) (fun q2199 h => ?_)
  · refine z_aload_n (i := 0) X.1 dX9_worth_70 0 rfl rfl ?_
    refine z_aload_n (i := 0) X.1 dX9_worth_71 0 rfl rfl ?_
    refine g_X9_marker X.1 tw819 dX9_worth_72 ?_
    refine z_aload_n (i := 0) X.1 dX9_worth_75 0 rfl rfl ?_
    obtain ⟨r2200, s2201, hc2202, h⟩ := bd_inv h
    refine cl_X9_185 (d1 := 1) (b := zo κ.1 0) (As := []) (rest := [.int (s2197 0 14 0), .ref (zo κ.1 0)]) X.1 (by decide) (C_X9_setNow X.2.1 hc2202) rcX9 rfl rfl (Nat.le_of_ble_eq_true rfl) dX9_worth_76 ?_
    obtain ⟨r2203, s2204, hc2205, h⟩ := bd_inv h
    refine cl_X9_173 (d1 := 22) (b := zo κ.1 0) (As := [.int (s2197 0 14 0), .int r2200]) (rest := []) X.1 (by decide) (C_X9_nimAt X.2.1 hc2205) rcX9 rfl rfl (Nat.le_of_ble_eq_true rfl) dX9_worth_79 ?_
    exact z_iret X dX9_worth_82 h
  · refine z_aload_n (i := 0) X.1 dX9_worth_55 0 rfl rfl ?_
    refine z_aload_n (i := 0) X.1 dX9_worth_56 0 rfl rfl ?_
    refine g_X9_marker X.1 tw819 dX9_worth_57 ?_
    refine z_aload_n (i := 0) X.1 dX9_worth_60 0 rfl rfl ?_
    obtain ⟨r2206, s2207, hc2208, h⟩ := bd_inv h
    refine cl_X9_185 (d1 := 1) (b := zo κ.1 0) (As := []) (rest := [.int (s2197 0 14 0), .ref (zo κ.1 0)]) X.1 (by decide) (C_X9_setNow X.2.1 hc2208) rcX9 rfl rfl (Nat.le_of_ble_eq_true rfl) dX9_worth_61 ?_
    obtain ⟨r2209, s2210, hc2211, h⟩ := bd_inv h
    refine cl_X9_229 (d1 := 23) (b := zo κ.1 0) (As := [.int (s2197 0 14 0), .int r2206]) (rest := []) X.1 (by decide) (C_X9_longAt X.2.1 hc2211) rcX9 rfl rfl (Nat.le_of_ble_eq_true rfl) dX9_worth_64 ?_
    refine z_goto (tgt := 82) X.1 dX9_worth_67 (by decide) ?_
    exact z_iret X dX9_worth_82 h
noncomputable def F_X9_worth (v1 : Int32) (σ : S3) : R3 :=
  bd (F_X9_in v1 (0 : Int32) (1 : Int32) σ) (fun r2190 s2191 => if r2190 = (0 : Int32) then (bd (F_X9_no (1 : Int32) s2191) (fun r2219 s2220 => some (r2219, s2220)))
  else (if (s2191 0 11 0) = (0 : Int32) then (bd (F_X9_no (3 : Int32) s2191) (fun r2216 s2217 => some (r2216, s2217)))
  else (if v1 = (1 : Int32) then (if (s2191 0 12 0) = (4 : Int32) then (bd (F_X9_no (5 : Int32) s2191) (fun r2213 s2214 => some (r2213, s2214)))
  else (F_X9_worth_47 v1 s2191))
  else (F_X9_worth_47 v1 s2191))))
set_option maxHeartbeats 4000000 in
set_option maxRecDepth 100000 in
theorem B_X9_worth_0 {κ : zT} {σ' : S3} {r : Int32} (X : zC κ zM RX9 cX9_worth 2 (some .int) 24 (some (.int r)) σ') {v1 : Int32} {σ : S3} (h : F_X9_worth v1 σ = some (r, σ')) : Z κ 2 (zM (ze κ.1) σ) [(0, .ref (zo κ.1 0)), (1, .int v1)] 0 [] := by
  unfold F_X9_worth at h
  refine z_iload_n (i := 1) X.1 dX9_worth_0 1 rfl rfl ?_
  refine z_iconst (v := (0 : Int32)) X.1 dX9_worth_1 (by decide) ?_
  refine z_iconst (v := (1 : Int32)) X.1 dX9_worth_2 (by decide) ?_
  obtain ⟨r2190, s2191, hc2192, h⟩ := bd_inv h
  refine cl_X9_68 (d1 := 0) (As := [.int v1, .int (0 : Int32), .int (1 : Int32)]) (rest := []) X.1 (by decide) (C_X9_in X.2.1 hc2192) rfl rfl (Nat.le_of_ble_eq_true rfl) dX9_worth_3 ?_
  refine z_if_ne (tgt := 15) X.1 dX9_worth_6 (by decide) h (fun q2193 h => ?_) (fun q2193 h => ?_)
  · refine z_aload_n (i := 0) X.1 dX9_worth_15 0 rfl rfl ?_
    refine g_X9_hasGame X.1 tw816 dX9_worth_16 ?_
    refine z_if_ne (tgt := 28) X.1 dX9_worth_19 (by decide) h (fun q2194 h => ?_) (fun q2194 h => ?_)
    · refine z_iload_n (i := 1) X.1 dX9_worth_28 1 rfl rfl ?_
      refine z_iconst (v := (1 : Int32)) X.1 dX9_worth_29 (by decide) ?_
      refine z_icmp_ne (tgt := 47) X.1 dX9_worth_30 (by decide) h (fun q2195 h => ?_) (fun q2195 h => ?_)
      · exact z_sub [0, 1] rfl (B_X9_worth_47 X h)
      · refine z_aload_n (i := 0) X.1 dX9_worth_33 0 rfl rfl ?_
        refine g_X9_rule X.1 tw817 dX9_worth_34 ?_
        refine z_iconst (v := (4 : Int32)) X.1 dX9_worth_37 (by decide) ?_
        refine z_icmp_ne (tgt := 47) X.1 dX9_worth_38 (by decide) h (fun q2212 h => ?_) (fun q2212 h => ?_)
        · exact z_sub [0, 1] rfl (B_X9_worth_47 X h)
        · refine z_aload_n (i := 0) X.1 dX9_worth_41 0 rfl rfl ?_
          refine z_iconst (v := (5 : Int32)) X.1 dX9_worth_42 (by decide) ?_
          obtain ⟨r2213, s2214, hc2215, h⟩ := bd_inv h
          refine cl_X9_79 (d1 := 0) (b := zo κ.1 0) (As := [.int (5 : Int32)]) (rest := []) X.1 (by decide) (C_X9_no X.2.1 hc2215) rcX9 rfl rfl (Nat.le_of_ble_eq_true rfl) dX9_worth_43 ?_
          exact z_iret X dX9_worth_46 h
    · refine z_aload_n (i := 0) X.1 dX9_worth_22 0 rfl rfl ?_
      refine z_iconst (v := (3 : Int32)) X.1 dX9_worth_23 (by decide) ?_
      obtain ⟨r2216, s2217, hc2218, h⟩ := bd_inv h
      refine cl_X9_79 (d1 := 0) (b := zo κ.1 0) (As := [.int (3 : Int32)]) (rest := []) X.1 (by decide) (C_X9_no X.2.1 hc2218) rcX9 rfl rfl (Nat.le_of_ble_eq_true rfl) dX9_worth_24 ?_
      exact z_iret X dX9_worth_27 h
  · refine z_aload_n (i := 0) X.1 dX9_worth_9 0 rfl rfl ?_
    refine z_iconst (v := (1 : Int32)) X.1 dX9_worth_10 (by decide) ?_
    obtain ⟨r2219, s2220, hc2221, h⟩ := bd_inv h
    refine cl_X9_79 (d1 := 0) (b := zo κ.1 0) (As := [.int (1 : Int32)]) (rest := []) X.1 (by decide) (C_X9_no X.2.1 hc2221) rcX9 rfl rfl (Nat.le_of_ble_eq_true rfl) dX9_worth_11 ?_
    exact z_iret X dX9_worth_14 h
theorem C_X9_worth {ζ : zW} (hZ : zDis ζ zM) {v1 : Int32} {σ σ' : S3} {r : Int32} (h : F_X9_worth v1 σ = some (r, σ')) : zMet ζ zM 24 yX9_worth cX9_worth 2 (some .int) [.ref (zo ζ 0), .int v1] σ (some (.int r)) σ' :=
  zMet_of pn_X9 hZ (Nat.le_of_ble_eq_true rfl) (fun κ e X => by subst e; exact B_X9_worth_0 X h)
noncomputable def Fb_X9_reaches_32 (Rc : Int32 → Int32 → S3 → R3) (v1 : Int32) (v2 : Int32) (K32 : Int32 → Int32 → S3 → R3) (v4 : Int32) (v5 : Int32) (σ : S3) : R3 :=
  if (σ 0 2 0) ≤ v5 then (some (v4, σ))
  else (bd (F_X9_isMove v5 v1 v2 σ) (fun r2226 s2227 => if r2226 = (0 : Int32) then (nm (v5 + (1 : Int32)) (fun x2230 => K32 v4 x2230 s2227))
  else (bd (F_X9_otherOf v5 v1 s2227) (fun r2231 s2232 => bd (F_X9_setBehind v5 v1 v2 s2232) (fun r2234 s2235 => bd (Rc r2231 r2234 s2235) (fun r2237 s2238 => nm (v4 ||| (((1 : Int32) <<< (r2231 &&& 31)) ||| r2237)) (fun x2240 => nm (v5 + (1 : Int32)) (fun x2241 => K32 x2240 x2241 s2238))))))))
noncomputable def F_X9_reaches_32 (Rc : Int32 → Int32 → S3 → R3) (v1 : Int32) (v2 : Int32) (n : Nat) : Int32 → Int32 → S3 → R3 := zl2 (Fb_X9_reaches_32 Rc v1 v2) n
set_option maxHeartbeats 4000000 in
set_option maxRecDepth 100000 in
theorem B_X9_reaches_32 {κ : zT} {σ' : S3} {r : Int32} {d d0 : Nat} (X : zC κ zM RX9 cX9_reaches 7 (some .int) d (some (.int r)) σ') {Rc : Int32 → Int32 → S3 → R3} (hR : ∀ (a1 a2 : Int32) (s1 s2 : S3) (r1 : Int32), Rc a1 a2 s1 = some (r1, s2) → zMet κ.1 zM d0 yX9_reaches cX9_reaches 7 (some .int) [.ref (zo κ.1 0), .int a1, .int a2] s1 (some (.int r1)) s2) (hd : d0 + 1 ≤ d) (hb : 2 ≤ d) {v1 : Int32} {v2 : Int32} : ∀ (n : Nat) (v4 : Int32) (v5 : Int32) (σ : S3), F_X9_reaches_32 Rc v1 v2 n v4 v5 σ = some (r, σ') → Z κ 7 (zM (ze κ.1) σ) [(0, .ref (zo κ.1 0)), (1, .int v1), (2, .int v2), (4, .int v4), (5, .int v5)] 32 [] := by
  intro n
  induction n with
  | zero =>
    intro v4 v5 σ h
    cases (show (none : R3) = some (r, σ') from h)
  | succ n ih =>
    intro v4 v5 σ h
    have hK32 := ih
    have h : Fb_X9_reaches_32 Rc v1 v2 (F_X9_reaches_32 Rc v1 v2 n) v4 v5 σ = some (r, σ') := h
    unfold Fb_X9_reaches_32 at h
    refine z_iload X.1 dX9_reaches_32 4 rfl ?_
    refine z_aload_n (i := 0) X.1 dX9_reaches_34 0 rfl rfl ?_
    refine g_X9_lines X.1 tw807 dX9_reaches_35 ?_
    refine z_icmp_ge (tgt := 91) X.1 dX9_reaches_38 (by decide) h (fun q2225 h => ?_) (fun q2225 h => ?_)
    · refine z_iload X.1 dX9_reaches_91 3 rfl ?_
      exact z_iret X dX9_reaches_93 h
    · refine z_aload_n (i := 0) X.1 dX9_reaches_41 0 rfl rfl ?_
      refine z_iload X.1 dX9_reaches_42 4 rfl ?_
      refine z_iload_n (i := 1) X.1 dX9_reaches_44 1 rfl rfl ?_
      refine z_iload_n (i := 2) X.1 dX9_reaches_45 2 rfl rfl ?_
      obtain ⟨r2226, s2227, hc2228, h⟩ := bd_inv h
      refine cl_X9_160 (d1 := 1) (b := zo κ.1 0) (As := [.int v5, .int v1, .int v2]) (rest := []) X.1 (Nat.le_trans (by decide) hb) (C_X9_isMove X.2.1 hc2228) rcX9 rfl rfl (Nat.le_of_ble_eq_true rfl) dX9_reaches_46 ?_
      refine z_if_eq (tgt := 85) X.1 dX9_reaches_49 (by decide) h (fun q2229 h => ?_) (fun q2229 h => ?_)
      · refine z_iinc_m (v := (1 : Int32)) (lv' := fun x2230 => [(5, .int x2230), (0, .ref (zo κ.1 0)), (1, .int v1), (2, .int v2), (4, .int v4)]) X.1 dX9_reaches_85 4 rfl (by decide) (by decide) (fun _ => rfl) h (fun x2230 h => ?_)
        refine z_goto (tgt := 32) X.1 dX9_reaches_88 (by decide) ?_
        exact z_sub [1, 2, 3, 4, 0] rfl (hK32 _ _ _ h)
      · refine z_aload_n (i := 0) X.1 dX9_reaches_52 0 rfl rfl ?_
        refine z_iload X.1 dX9_reaches_53 4 rfl ?_
        refine z_iload_n (i := 1) X.1 dX9_reaches_55 1 rfl rfl ?_
        obtain ⟨r2231, s2232, hc2233, h⟩ := bd_inv h
        refine cl_X9_101 (d1 := 0) (b := zo κ.1 0) (As := [.int v5, .int v1]) (rest := []) X.1 (Nat.le_trans (by decide) hb) (C_X9_otherOf X.2.1 hc2233) rcX9 rfl rfl (Nat.le_of_ble_eq_true rfl) dX9_reaches_56 ?_
        refine z_istore (i := 6) (lv' := [(6, .int r2231), (0, .ref (zo κ.1 0)), (1, .int v1), (2, .int v2), (4, .int v4), (5, .int v5)]) X.1 dX9_reaches_59 (by decide) rfl ?_
        refine z_iload X.1 dX9_reaches_61 4 rfl ?_
        refine z_iconst (v := (1 : Int32)) X.1 dX9_reaches_63 (by decide) ?_
        refine z_iload X.1 dX9_reaches_64 0 rfl ?_
        refine z_ishl X.1 dX9_reaches_66 ?_
        refine z_aload_n (i := 0) X.1 dX9_reaches_67 1 rfl rfl ?_
        refine z_iload X.1 dX9_reaches_68 0 rfl ?_
        refine z_aload_n (i := 0) X.1 dX9_reaches_70 1 rfl rfl ?_
        refine z_iload X.1 dX9_reaches_71 5 rfl ?_
        refine z_iload_n (i := 1) X.1 dX9_reaches_73 2 rfl rfl ?_
        refine z_iload_n (i := 2) X.1 dX9_reaches_74 3 rfl rfl ?_
        obtain ⟨r2234, s2235, hc2236, h⟩ := bd_inv h
        refine cl_X9_163 (d1 := 1) (b := zo κ.1 0) (As := [.int v5, .int v1, .int v2]) (rest := [.int r2231, .ref (zo κ.1 0), .int ((1 : Int32) <<< (r2231 &&& 31)), .int v4]) X.1 (Nat.le_trans (by decide) hb) (C_X9_setBehind X.2.1 hc2236) rcX9 rfl rfl (Nat.le_of_ble_eq_true rfl) dX9_reaches_75 ?_
        obtain ⟨r2237, s2238, hc2239, h⟩ := bd_inv h
        refine cl_X9_232 (d1 := d0) (b := zo κ.1 0) (As := [.int r2231, .int r2234]) (rest := [.int ((1 : Int32) <<< (r2231 &&& 31)), .int v4]) X.1 hd (hR _ _ _ _ _ hc2239) rcX9 rfl rfl (Nat.le_of_ble_eq_true rfl) dX9_reaches_78 ?_
        refine z_ior X.1 dX9_reaches_81 ?_
        refine z_ior X.1 dX9_reaches_82 ?_
        refine z_istore_m (i := 4) (lv' := fun x2240 => [(4, .int x2240), (6, .int r2231), (0, .ref (zo κ.1 0)), (1, .int v1), (2, .int v2), (5, .int v5)]) X.1 dX9_reaches_83 (by decide) (fun _ => rfl) h (fun x2240 h => ?_)
        refine z_iinc_m (v := (1 : Int32)) (lv' := fun x2241 => [(5, .int x2241), (4, .int x2240), (6, .int r2231), (0, .ref (zo κ.1 0)), (1, .int v1), (2, .int v2)]) X.1 dX9_reaches_85 5 rfl (by decide) (by decide) (fun _ => rfl) h (fun x2241 h => ?_)
        refine z_goto (tgt := 32) X.1 dX9_reaches_88 (by decide) ?_
        exact z_sub [3, 4, 5, 1, 0] rfl (hK32 _ _ _ h)
noncomputable def F_X9_reaches_0 (Rc : Int32 → Int32 → S3 → R3) (v1 : Int32) (v2 : Int32) (σ : S3) : R3 :=
  nm (((4096 : Int32) * v1) + v2) (fun x2222 => ck x2222 40960 (if (σ 0 23 (ix x2222)) = (0 : Int32) then (ck x2222 40960 (nm (up σ 0 23 (ix x2222) (1 : Int32)) (fun s2224 => F_X9_reaches_32 Rc v1 v2 zF (0 : Int32) (0 : Int32) s2224)))
  else (some ((0 : Int32), σ))))
set_option maxHeartbeats 4000000 in
set_option maxRecDepth 100000 in
theorem B_X9_reaches_0 {κ : zT} {σ' : S3} {r : Int32} {d d0 : Nat} (X : zC κ zM RX9 cX9_reaches 7 (some .int) d (some (.int r)) σ') {Rc : Int32 → Int32 → S3 → R3} (hR : ∀ (a1 a2 : Int32) (s1 s2 : S3) (r1 : Int32), Rc a1 a2 s1 = some (r1, s2) → zMet κ.1 zM d0 yX9_reaches cX9_reaches 7 (some .int) [.ref (zo κ.1 0), .int a1, .int a2] s1 (some (.int r1)) s2) (hd : d0 + 1 ≤ d) (hb : 2 ≤ d) {v1 : Int32} {v2 : Int32} {σ : S3} (h : F_X9_reaches_0 Rc v1 v2 σ = some (r, σ')) : Z κ 7 (zM (ze κ.1) σ) [(0, .ref (zo κ.1 0)), (1, .int v1), (2, .int v2)] 0 [] := by
  unfold F_X9_reaches_0 at h
  refine z_sipush (v := (4096 : Int32)) X.1 dX9_reaches_0 (by decide) ?_
  refine z_iload_n (i := 1) X.1 dX9_reaches_3 1 rfl rfl ?_
  refine z_imul X.1 dX9_reaches_4 ?_
  refine z_iload_n (i := 2) X.1 dX9_reaches_5 2 rfl rfl ?_
  refine z_iadd X.1 dX9_reaches_6 ?_
  refine z_istore_nn (i := 3) (lv' := fun x2222 => [(3, .int x2222), (0, .ref (zo κ.1 0)), (1, .int v1), (2, .int v2)]) X.1 dX9_reaches_7 rfl (by decide) (fun _ => rfl) h (fun x2222 h => ?_)
  refine z_aload_n (i := 0) X.1 dX9_reaches_8 1 rfl rfl ?_
  refine g_X9_been X.1 tw828 dX9_reaches_9 ?_
  refine z_iload_n (i := 3) X.1 dX9_reaches_12 0 rfl rfl ?_
  refine al_X9_been X.1 dX9_reaches_13 h (fun h => ?_)
  refine z_if_eq (tgt := 19) X.1 dX9_reaches_14 (by decide) h (fun q2223 h => ?_) (fun q2223 h => ?_)
  · refine z_aload_n (i := 0) X.1 dX9_reaches_19 1 rfl rfl ?_
    refine g_X9_been X.1 tw828 dX9_reaches_20 ?_
    refine z_iload_n (i := 3) X.1 dX9_reaches_23 0 rfl rfl ?_
    refine z_iconst (v := (1 : Int32)) X.1 dX9_reaches_24 (by decide) ?_
    refine as_X9_been X.1 X.2.1 (Or.inr rfl) dX9_reaches_25 h (fun s2224 h => ?_)
    refine z_iconst (v := (0 : Int32)) X.1 dX9_reaches_26 (by decide) ?_
    refine z_istore (i := 4) (lv' := [(4, .int (0 : Int32)), (3, .int x2222), (0, .ref (zo κ.1 0)), (1, .int v1), (2, .int v2)]) X.1 dX9_reaches_27 (by decide) rfl ?_
    refine z_iconst (v := (0 : Int32)) X.1 dX9_reaches_29 (by decide) ?_
    refine z_istore (i := 5) (lv' := [(5, .int (0 : Int32)), (4, .int (0 : Int32)), (3, .int x2222), (0, .ref (zo κ.1 0)), (1, .int v1), (2, .int v2)]) X.1 dX9_reaches_30 (by decide) rfl ?_
    exact z_sub [3, 4, 5, 1, 0] rfl (B_X9_reaches_32 X hR hd hb zF _ _ _ h)
  · refine z_iconst (v := (0 : Int32)) X.1 dX9_reaches_17 (by decide) ?_
    exact z_iret X dX9_reaches_18 h
noncomputable def F_X9_reaches (k : Nat) : Int32 → Int32 → S3 → R3 := zl2 (F_X9_reaches_0) k
theorem Ck_X9_reaches {ζ : zW} (hZ : zDis ζ zM) : ∀ (k : Nat) (v1 : Int32) (v2 : Int32) (σ σ' : S3) (r : Int32), F_X9_reaches k v1 v2 σ = some (r, σ') → zMet ζ zM (2 + k) yX9_reaches cX9_reaches 7 (some .int) [.ref (zo ζ 0), .int v1, .int v2] σ (some (.int r)) σ' := by
  intro k
  induction k with
  | zero =>
    intro v1 v2 σ σ' r h
    cases (show (none : R3) = some (r, σ') from h)
  | succ k ih =>
    intro v1 v2 σ σ' r h
    have h : F_X9_reaches_0 (F_X9_reaches k) v1 v2 σ = some (r, σ') := h
    exact zMet_of pn_X9 hZ (Nat.le_of_ble_eq_true rfl) (fun κ e X => by subst e; exact B_X9_reaches_0 X ih (Nat.le_refl _) (by omega) h)
theorem C_X9_reaches {ζ : zW} (hZ : zDis ζ zM) {v1 : Int32} {v2 : Int32} {σ σ' : S3} {r : Int32} (h : F_X9_reaches 20 v1 v2 σ = some (r, σ')) : zMet ζ zM 22 yX9_reaches cX9_reaches 7 (some .int) [.ref (zo ζ 0), .int v1, .int v2] σ (some (.int r)) σ' := Ck_X9_reaches hZ 20 _ _ _ _ _ h
noncomputable def Fb_X9_reach_15 (K15 : Int32 → S3 → R3) (v1 : Int32) (σ : S3) : R3 :=
  if (40960 : Int32) ≤ v1 then (bd (F_X9_setNow σ) (fun r2244 s2245 => bd (F_X9_reaches 20 (σ 0 14 0) r2244 s2245) (fun r2247 s2248 => some (r2247, s2248))))
  else (ck v1 40960 (nm (up σ 0 23 (ix v1) (0 : Int32)) (fun s2250 => nm (v1 + (1 : Int32)) (fun x2251 => K15 x2251 s2250))))
noncomputable def F_X9_reach_15 (n : Nat) : Int32 → S3 → R3 := zl1 (Fb_X9_reach_15) n
set_option maxHeartbeats 4000000 in
set_option maxRecDepth 100000 in
theorem B_X9_reach_15 {κ : zT} {σ' : S3} {r : Int32} (X : zC κ zM RX9 cX9_reach 2 (some .int) 23 (some (.int r)) σ') : ∀ (n : Nat) (v1 : Int32) (σ : S3), F_X9_reach_15 n v1 σ = some (r, σ') → Z κ 2 (zM (ze κ.1) σ) [(0, .ref (zo κ.1 0)), (1, .int v1)] 15 [] := by
  intro n
  induction n with
  | zero =>
    intro v1 σ h
    cases (show (none : R3) = some (r, σ') from h)
  | succ n ih =>
    intro v1 σ h
    have hK15 := ih
    have h : Fb_X9_reach_15 (F_X9_reach_15 n) v1 σ = some (r, σ') := h
    unfold Fb_X9_reach_15 at h
    refine z_iload_n (i := 1) X.1 dX9_reach_15 1 rfl rfl ?_
    refine z_ldc (v := (40960 : Int32)) X.1 dX9_reach_16 tw804 ?_
    refine z_icmp_ge (tgt := 34) X.1 dX9_reach_18 (by decide) h (fun q2243 h => ?_) (fun q2243 h => ?_)
    · refine z_aload_n (i := 0) X.1 dX9_reach_34 0 rfl rfl ?_
      refine z_aload_n (i := 0) X.1 dX9_reach_35 0 rfl rfl ?_
      refine g_X9_marker X.1 tw819 dX9_reach_36 ?_
      refine z_aload_n (i := 0) X.1 dX9_reach_39 0 rfl rfl ?_
      obtain ⟨r2244, s2245, hc2246, h⟩ := bd_inv h
      refine cl_X9_185 (d1 := 1) (b := zo κ.1 0) (As := []) (rest := [.int (σ 0 14 0), .ref (zo κ.1 0)]) X.1 (by decide) (C_X9_setNow X.2.1 hc2246) rcX9 rfl rfl (Nat.le_of_ble_eq_true rfl) dX9_reach_40 ?_
      obtain ⟨r2247, s2248, hc2249, h⟩ := bd_inv h
      refine cl_X9_232 (d1 := 22) (b := zo κ.1 0) (As := [.int (σ 0 14 0), .int r2244]) (rest := []) X.1 (by decide) (C_X9_reaches X.2.1 hc2249) rcX9 rfl rfl (Nat.le_of_ble_eq_true rfl) dX9_reach_43 ?_
      exact z_iret X dX9_reach_46 h
    · refine z_aload_n (i := 0) X.1 dX9_reach_21 0 rfl rfl ?_
      refine g_X9_been X.1 tw828 dX9_reach_22 ?_
      refine z_iload_n (i := 1) X.1 dX9_reach_25 1 rfl rfl ?_
      refine z_iconst (v := (0 : Int32)) X.1 dX9_reach_26 (by decide) ?_
      refine as_X9_been X.1 X.2.1 (Or.inl rfl) dX9_reach_27 h (fun s2250 h => ?_)
      refine z_iinc_m (v := (1 : Int32)) (lv' := fun x2251 => [(1, .int x2251), (0, .ref (zo κ.1 0))]) X.1 dX9_reach_28 1 rfl (by decide) (by decide) (fun _ => rfl) h (fun x2251 h => ?_)
      refine z_goto (tgt := 15) X.1 dX9_reach_31 (by decide) ?_
      exact z_sub [1, 0] rfl (hK15 _ _ h)
noncomputable def F_X9_reach (σ : S3) : R3 :=
  if (σ 0 11 0) = (0 : Int32) then (bd (F_X9_no (3 : Int32) σ) (fun r2252 s2253 => some (r2252, s2253)))
  else (F_X9_reach_15 zF (0 : Int32) σ)
set_option maxHeartbeats 4000000 in
set_option maxRecDepth 100000 in
theorem B_X9_reach_0 {κ : zT} {σ' : S3} {r : Int32} (X : zC κ zM RX9 cX9_reach 2 (some .int) 23 (some (.int r)) σ') {σ : S3} (h : F_X9_reach σ = some (r, σ')) : Z κ 2 (zM (ze κ.1) σ) [(0, .ref (zo κ.1 0))] 0 [] := by
  unfold F_X9_reach at h
  refine z_aload_n (i := 0) X.1 dX9_reach_0 0 rfl rfl ?_
  refine g_X9_hasGame X.1 tw816 dX9_reach_1 ?_
  refine z_if_ne (tgt := 13) X.1 dX9_reach_4 (by decide) h (fun q2242 h => ?_) (fun q2242 h => ?_)
  · refine z_iconst (v := (0 : Int32)) X.1 dX9_reach_13 (by decide) ?_
    refine z_istore_n (i := 1) (lv' := [(1, .int (0 : Int32)), (0, .ref (zo κ.1 0))]) X.1 dX9_reach_14 rfl (by decide) rfl ?_
    exact z_sub [1, 0] rfl (B_X9_reach_15 X zF _ _ h)
  · refine z_aload_n (i := 0) X.1 dX9_reach_7 0 rfl rfl ?_
    refine z_iconst (v := (3 : Int32)) X.1 dX9_reach_8 (by decide) ?_
    obtain ⟨r2252, s2253, hc2254, h⟩ := bd_inv h
    refine cl_X9_79 (d1 := 0) (b := zo κ.1 0) (As := [.int (3 : Int32)]) (rest := []) X.1 (by decide) (C_X9_no X.2.1 hc2254) rcX9 rfl rfl (Nat.le_of_ble_eq_true rfl) dX9_reach_9 ?_
    exact z_iret X dX9_reach_12 h
theorem C_X9_reach {ζ : zW} (hZ : zDis ζ zM) {σ σ' : S3} {r : Int32} (h : F_X9_reach  σ = some (r, σ')) : zMet ζ zM 23 yX9_reach cX9_reach 2 (some .int) [.ref (zo ζ 0)] σ (some (.int r)) σ' :=
  zMet_of pn_X9 hZ (Nat.le_of_ble_eq_true rfl) (fun κ e X => by subst e; exact B_X9_reach_0 X h)
noncomputable def F_X9_starts_58 (K30 : Int32 → Int32 → S3 → R3) (v2 : Int32) (v4 : Int32) (s0 : Int32) (s1 : Int32) (s3 : Int32) (σ : S3) : R3 :=
  bd (F_X9_winsAt s1 s0 σ) (fun r2267 s2268 => if r2267 = (0 : Int32) then (nm (s3 ||| (0 : Int32)) (fun x2271 => nm (v4 + (1 : Int32)) (fun x2272 => K30 x2271 x2272 s2268)))
  else (nm (s3 ||| ((1 : Int32) <<< (v4 &&& 31))) (fun x2273 => nm (v4 + (1 : Int32)) (fun x2274 => K30 x2273 x2274 s2268))))
set_option maxHeartbeats 4000000 in
set_option maxRecDepth 100000 in
theorem B_X9_starts_58 {κ : zT} {σ' : S3} {r : Int32} (X : zC κ zM RX9 cX9_starts 5 (some .int) 24 (some (.int r)) σ') {K30 : Int32 → Int32 → S3 → R3} {v2 : Int32} {v4 : Int32} {s0 : Int32} {s1 : Int32} {s3 : Int32} {σ : S3} (hK30 : ∀ (w3 : Int32) (w4 : Int32) (s1 : S3), K30 w3 w4 s1 = some (r, σ') → Z κ 5 (zM (ze κ.1) s1) [(0, .ref (zo κ.1 0)), (2, .int v2), (3, .int w3), (4, .int w4)] 30 []) (h : F_X9_starts_58 K30 v2 v4 s0 s1 s3 σ = some (r, σ')) : Z κ 5 (zM (ze κ.1) σ) [(0, .ref (zo κ.1 0)), (2, .int v2), (4, .int v4)] 58 [.int s0, .int s1, .ref (zo κ.1 0), .int s3] := by
  unfold F_X9_starts_58 at h
  obtain ⟨r2267, s2268, hc2269, h⟩ := bd_inv h
  refine cl_X9_194 (d1 := 23) (b := zo κ.1 0) (As := [.int s1, .int s0]) (rest := [.int s3]) X.1 (by decide) (C_X9_winsAt X.2.1 hc2269) rcX9 rfl rfl (Nat.le_of_ble_eq_true rfl) dX9_starts_58 ?_
  refine z_if_eq (tgt := 71) X.1 dX9_starts_61 (by decide) h (fun q2270 h => ?_) (fun q2270 h => ?_)
  · refine z_iconst (v := (0 : Int32)) X.1 dX9_starts_71 (by decide) ?_
    refine z_ior X.1 dX9_starts_72 ?_
    refine z_istore_nn (i := 3) (lv' := fun x2271 => [(3, .int x2271), (0, .ref (zo κ.1 0)), (2, .int v2), (4, .int v4)]) X.1 dX9_starts_73 rfl (by decide) (fun _ => rfl) h (fun x2271 h => ?_)
    refine z_iinc_m (v := (1 : Int32)) (lv' := fun x2272 => [(4, .int x2272), (3, .int x2271), (0, .ref (zo κ.1 0)), (2, .int v2)]) X.1 dX9_starts_74 3 rfl (by decide) (by decide) (fun _ => rfl) h (fun x2272 h => ?_)
    refine z_goto (tgt := 30) X.1 dX9_starts_77 (by decide) ?_
    exact z_sub [2, 3, 1, 0] rfl (hK30 _ _ _ h)
  · refine z_iconst (v := (1 : Int32)) X.1 dX9_starts_64 (by decide) ?_
    refine z_iload X.1 dX9_starts_65 2 rfl ?_
    refine z_ishl X.1 dX9_starts_67 ?_
    refine z_goto (tgt := 72) X.1 dX9_starts_68 (by decide) ?_
    refine z_ior X.1 dX9_starts_72 ?_
    refine z_istore_nn (i := 3) (lv' := fun x2273 => [(3, .int x2273), (0, .ref (zo κ.1 0)), (2, .int v2), (4, .int v4)]) X.1 dX9_starts_73 rfl (by decide) (fun _ => rfl) h (fun x2273 h => ?_)
    refine z_iinc_m (v := (1 : Int32)) (lv' := fun x2274 => [(4, .int x2274), (3, .int x2273), (0, .ref (zo κ.1 0)), (2, .int v2)]) X.1 dX9_starts_74 3 rfl (by decide) (by decide) (fun _ => rfl) h (fun x2274 h => ?_)
    refine z_goto (tgt := 30) X.1 dX9_starts_77 (by decide) ?_
    exact z_sub [2, 3, 1, 0] rfl (hK30 _ _ _ h)
noncomputable def Fb_X9_starts_30 (v2 : Int32) (K30 : Int32 → Int32 → S3 → R3) (v3 : Int32) (v4 : Int32) (σ : S3) : R3 :=
  if (σ 0 1 0) ≤ v4 then (nm (up σ 0 12 0 v2) (fun s2262 => some (v3, s2262)))
  else (bd (F_X9_isByLines σ) (fun r2263 s2264 => if r2263 = (0 : Int32) then (F_X9_starts_58 K30 v2 v4 ((1 : Int32) <<< (v4 &&& 31)) v4 v3 s2264)
  else (F_X9_starts_58 K30 v2 v4 (0 : Int32) v4 v3 s2264)))
noncomputable def F_X9_starts_30 (v2 : Int32) (n : Nat) : Int32 → Int32 → S3 → R3 := zl2 (Fb_X9_starts_30 v2) n
set_option maxHeartbeats 4000000 in
set_option maxRecDepth 100000 in
theorem B_X9_starts_30 {κ : zT} {σ' : S3} {r : Int32} (X : zC κ zM RX9 cX9_starts 5 (some .int) 24 (some (.int r)) σ') {v2 : Int32} : ∀ (n : Nat) (v3 : Int32) (v4 : Int32) (σ : S3), F_X9_starts_30 v2 n v3 v4 σ = some (r, σ') → Z κ 5 (zM (ze κ.1) σ) [(0, .ref (zo κ.1 0)), (2, .int v2), (3, .int v3), (4, .int v4)] 30 [] := by
  intro n
  induction n with
  | zero =>
    intro v3 v4 σ h
    cases (show (none : R3) = some (r, σ') from h)
  | succ n ih =>
    intro v3 v4 σ h
    have hK30 := ih
    have h : Fb_X9_starts_30 v2 (F_X9_starts_30 v2 n) v3 v4 σ = some (r, σ') := h
    unfold Fb_X9_starts_30 at h
    refine z_iload X.1 dX9_starts_30 3 rfl ?_
    refine z_aload_n (i := 0) X.1 dX9_starts_32 0 rfl rfl ?_
    refine g_X9_points X.1 tw806 dX9_starts_33 ?_
    refine z_icmp_ge (tgt := 80) X.1 dX9_starts_36 (by decide) h (fun q2261 h => ?_) (fun q2261 h => ?_)
    · refine z_aload_n (i := 0) X.1 dX9_starts_80 0 rfl rfl ?_
      refine z_iload_n (i := 2) X.1 dX9_starts_81 1 rfl rfl ?_
      refine p_X9_rule X.1 X.2.1 tw817 dX9_starts_82 h (fun s2262 h => ?_)
      refine z_iload_n (i := 3) X.1 dX9_starts_85 2 rfl rfl ?_
      exact z_iret X dX9_starts_86 h
    · refine z_iload_n (i := 3) X.1 dX9_starts_39 2 rfl rfl ?_
      refine z_aload_n (i := 0) X.1 dX9_starts_40 0 rfl rfl ?_
      refine z_iload X.1 dX9_starts_41 3 rfl ?_
      refine z_aload_n (i := 0) X.1 dX9_starts_43 0 rfl rfl ?_
      obtain ⟨r2263, s2264, hc2265, h⟩ := bd_inv h
      refine cl_X9_157 (d1 := 0) (b := zo κ.1 0) (As := []) (rest := [.int v4, .ref (zo κ.1 0), .int v3]) X.1 (by decide) (C_X9_isByLines X.2.1 hc2265) rcX9 rfl rfl (Nat.le_of_ble_eq_true rfl) dX9_starts_44 ?_
      refine z_if_eq (tgt := 54) X.1 dX9_starts_47 (by decide) h (fun q2266 h => ?_) (fun q2266 h => ?_)
      · refine z_iconst (v := (1 : Int32)) X.1 dX9_starts_54 (by decide) ?_
        refine z_iload X.1 dX9_starts_55 3 rfl ?_
        refine z_ishl X.1 dX9_starts_57 ?_
        exact z_sub [0, 1, 3] rfl (B_X9_starts_58 X hK30 h)
      · refine z_iconst (v := (0 : Int32)) X.1 dX9_starts_50 (by decide) ?_
        refine z_goto (tgt := 58) X.1 dX9_starts_51 (by decide) ?_
        exact z_sub [0, 1, 3] rfl (B_X9_starts_58 X hK30 h)
noncomputable def F_X9_starts (v1 : Int32) (σ : S3) : R3 :=
  bd (F_X9_in v1 (0 : Int32) (4 : Int32) σ) (fun r2255 s2256 => if r2255 = (0 : Int32) then (bd (F_X9_no (1 : Int32) s2256) (fun r2275 s2276 => some (r2275, s2276)))
  else (nm (s2256 0 12 0) (fun x2259 => nm (up s2256 0 12 0 v1) (fun s2260 => F_X9_starts_30 x2259 zF (0 : Int32) (0 : Int32) s2260))))
set_option maxHeartbeats 4000000 in
set_option maxRecDepth 100000 in
theorem B_X9_starts_0 {κ : zT} {σ' : S3} {r : Int32} (X : zC κ zM RX9 cX9_starts 5 (some .int) 24 (some (.int r)) σ') {v1 : Int32} {σ : S3} (h : F_X9_starts v1 σ = some (r, σ')) : Z κ 5 (zM (ze κ.1) σ) [(0, .ref (zo κ.1 0)), (1, .int v1)] 0 [] := by
  unfold F_X9_starts at h
  refine z_iload_n (i := 1) X.1 dX9_starts_0 1 rfl rfl ?_
  refine z_iconst (v := (0 : Int32)) X.1 dX9_starts_1 (by decide) ?_
  refine z_iconst (v := (4 : Int32)) X.1 dX9_starts_2 (by decide) ?_
  obtain ⟨r2255, s2256, hc2257, h⟩ := bd_inv h
  refine cl_X9_68 (d1 := 0) (As := [.int v1, .int (0 : Int32), .int (4 : Int32)]) (rest := []) X.1 (by decide) (C_X9_in X.2.1 hc2257) rfl rfl (Nat.le_of_ble_eq_true rfl) dX9_starts_3 ?_
  refine z_if_ne (tgt := 15) X.1 dX9_starts_6 (by decide) h (fun q2258 h => ?_) (fun q2258 h => ?_)
  · refine z_aload_n (i := 0) X.1 dX9_starts_15 0 rfl rfl ?_
    refine g_X9_rule X.1 tw817 dX9_starts_16 ?_
    refine z_istore_nn (i := 2) (lv' := fun x2259 => [(2, .int x2259), (0, .ref (zo κ.1 0)), (1, .int v1)]) X.1 dX9_starts_19 rfl (by decide) (fun _ => rfl) h (fun x2259 h => ?_)
    refine z_aload_n (i := 0) X.1 dX9_starts_20 1 rfl rfl ?_
    refine z_iload_n (i := 1) X.1 dX9_starts_21 2 rfl rfl ?_
    refine p_X9_rule X.1 X.2.1 tw817 dX9_starts_22 h (fun s2260 h => ?_)
    refine z_iconst (v := (0 : Int32)) X.1 dX9_starts_25 (by decide) ?_
    refine z_istore_n (i := 3) (lv' := [(3, .int (0 : Int32)), (2, .int x2259), (0, .ref (zo κ.1 0)), (1, .int v1)]) X.1 dX9_starts_26 rfl (by decide) rfl ?_
    refine z_iconst (v := (0 : Int32)) X.1 dX9_starts_27 (by decide) ?_
    refine z_istore (i := 4) (lv' := [(4, .int (0 : Int32)), (3, .int (0 : Int32)), (2, .int x2259), (0, .ref (zo κ.1 0)), (1, .int v1)]) X.1 dX9_starts_28 (by decide) rfl ?_
    exact z_sub [3, 2, 1, 0] rfl (B_X9_starts_30 X zF _ _ _ h)
  · refine z_aload_n (i := 0) X.1 dX9_starts_9 0 rfl rfl ?_
    refine z_iconst (v := (1 : Int32)) X.1 dX9_starts_10 (by decide) ?_
    obtain ⟨r2275, s2276, hc2277, h⟩ := bd_inv h
    refine cl_X9_79 (d1 := 0) (b := zo κ.1 0) (As := [.int (1 : Int32)]) (rest := []) X.1 (by decide) (C_X9_no X.2.1 hc2277) rcX9 rfl rfl (Nat.le_of_ble_eq_true rfl) dX9_starts_11 ?_
    exact z_iret X dX9_starts_14 h
theorem C_X9_starts {ζ : zW} (hZ : zDis ζ zM) {v1 : Int32} {σ σ' : S3} {r : Int32} (h : F_X9_starts v1 σ = some (r, σ')) : zMet ζ zM 24 yX9_starts cX9_starts 5 (some .int) [.ref (zo ζ 0), .int v1] σ (some (.int r)) σ' :=
  zMet_of pn_X9 hZ (Nat.le_of_ble_eq_true rfl) (fun κ e X => by subst e; exact B_X9_starts_0 X h)
noncomputable def Fb_X9_isCode_11 (K11 : Int32 → Int32 → S3 → R3) (v1 : Int32) (v2 : Int32) (σ : S3) : R3 :=
  if v2 ≤ (0 : Int32) then (ckb v1 (some (v1, σ)))
  else (if v1 = (0 : Int32) then (ckb v1 (some (v1, σ)))
  else (bd (F_X9_in (v2 - v2 / (10 : Int32) * (10 : Int32)) (1 : Int32) (7 : Int32) σ) (fun r2283 s2284 => nm (v2 / (10 : Int32)) (fun x2286 => K11 r2283 x2286 s2284))))
noncomputable def F_X9_isCode_11 (n : Nat) : Int32 → Int32 → S3 → R3 := zl2 (Fb_X9_isCode_11) n
set_option maxHeartbeats 4000000 in
set_option maxRecDepth 100000 in
theorem B_X9_isCode_11 {κ : zT} {σ' : S3} {r : Int32} (X : zC κ zM RX9 cX9_isCode 3 (some .boolean) 1 (some (.int r)) σ') : ∀ (n : Nat) (v1 : Int32) (v2 : Int32) (σ : S3), F_X9_isCode_11 n v1 v2 σ = some (r, σ') → Z κ 3 (zM (ze κ.1) σ) [(1, .int v1), (2, .int v2)] 11 [] := by
  intro n
  induction n with
  | zero =>
    intro v1 v2 σ h
    cases (show (none : R3) = some (r, σ') from h)
  | succ n ih =>
    intro v1 v2 σ h
    have hK11 := ih
    have h : Fb_X9_isCode_11 (F_X9_isCode_11 n) v1 v2 σ = some (r, σ') := h
    unfold Fb_X9_isCode_11 at h
    refine z_iload_n (i := 2) X.1 dX9_isCode_11 1 rfl rfl ?_
    refine z_if_le (tgt := 38) X.1 dX9_isCode_12 (by decide) h (fun q2281 h => ?_) (fun q2281 h => ?_)
    · refine z_iload_n (i := 1) X.1 dX9_isCode_38 0 rfl rfl ?_
      obtain ⟨hv, h⟩ := ckb_inv h
      exact z_zret X dX9_isCode_39 hv h
    · refine z_iload_n (i := 1) X.1 dX9_isCode_15 0 rfl rfl ?_
      refine z_if_eq (tgt := 38) X.1 dX9_isCode_16 (by decide) h (fun q2282 h => ?_) (fun q2282 h => ?_)
      · refine z_iload_n (i := 1) X.1 dX9_isCode_38 0 rfl rfl ?_
        obtain ⟨hv, h⟩ := ckb_inv h
        exact z_zret X dX9_isCode_39 hv h
      · refine z_iload_n (i := 2) X.1 dX9_isCode_19 1 rfl rfl ?_
        refine z_bipush (v := (10 : Int32)) X.1 dX9_isCode_20 (by decide) ?_
        refine z_irem X.1 dX9_isCode_22 (by decide) ?_
        refine z_iconst (v := (1 : Int32)) X.1 dX9_isCode_23 (by decide) ?_
        refine z_bipush (v := (7 : Int32)) X.1 dX9_isCode_24 (by decide) ?_
        obtain ⟨r2283, s2284, hc2285, h⟩ := bd_inv h
        refine cl_X9_68 (d1 := 0) (As := [.int (v2 - v2 / (10 : Int32) * (10 : Int32)), .int (1 : Int32), .int (7 : Int32)]) (rest := []) X.1 (by decide) (C_X9_in X.2.1 hc2285) rfl rfl (Nat.le_of_ble_eq_true rfl) dX9_isCode_26 ?_
        refine z_istore_n (i := 1) (lv' := [(1, .int r2283), (2, .int v2)]) X.1 dX9_isCode_29 rfl (by decide) rfl ?_
        refine z_iload_n (i := 2) X.1 dX9_isCode_30 1 rfl rfl ?_
        refine z_bipush (v := (10 : Int32)) X.1 dX9_isCode_31 (by decide) ?_
        refine z_idiv X.1 dX9_isCode_33 (by decide) ?_
        refine z_istore_nn (i := 2) (lv' := fun x2286 => [(2, .int x2286), (1, .int r2283)]) X.1 dX9_isCode_34 rfl (by decide) (fun _ => rfl) h (fun x2286 h => ?_)
        refine z_goto (tgt := 11) X.1 dX9_isCode_35 (by decide) ?_
        exact z_sub [1, 0] rfl (hK11 _ _ _ h)
noncomputable def F_X9_isCode (v0 : Int32) (σ : S3) : R3 :=
  bd (F_X9_in v0 (1 : Int32) (9999 : Int32) σ) (fun r2278 s2279 => F_X9_isCode_11 zF r2278 v0 s2279)
set_option maxHeartbeats 4000000 in
set_option maxRecDepth 100000 in
theorem B_X9_isCode_0 {κ : zT} {σ' : S3} {r : Int32} (X : zC κ zM RX9 cX9_isCode 3 (some .boolean) 1 (some (.int r)) σ') {v0 : Int32} {σ : S3} (h : F_X9_isCode v0 σ = some (r, σ')) : Z κ 3 (zM (ze κ.1) σ) [(0, .int v0)] 0 [] := by
  unfold F_X9_isCode at h
  refine z_iload_n (i := 0) X.1 dX9_isCode_0 0 rfl rfl ?_
  refine z_iconst (v := (1 : Int32)) X.1 dX9_isCode_1 (by decide) ?_
  refine z_sipush (v := (9999 : Int32)) X.1 dX9_isCode_2 (by decide) ?_
  obtain ⟨r2278, s2279, hc2280, h⟩ := bd_inv h
  refine cl_X9_68 (d1 := 0) (As := [.int v0, .int (1 : Int32), .int (9999 : Int32)]) (rest := []) X.1 (by decide) (C_X9_in X.2.1 hc2280) rfl rfl (Nat.le_of_ble_eq_true rfl) dX9_isCode_5 ?_
  refine z_istore_n (i := 1) (lv' := [(1, .int r2278), (0, .int v0)]) X.1 dX9_isCode_8 rfl (by decide) rfl ?_
  refine z_iload_n (i := 0) X.1 dX9_isCode_9 1 rfl rfl ?_
  refine z_istore_n (i := 2) (lv' := [(2, .int v0), (1, .int r2278), (0, .int v0)]) X.1 dX9_isCode_10 rfl (by decide) rfl ?_
  exact z_sub [1, 0] rfl (B_X9_isCode_11 X zF _ _ _ h)
theorem C_X9_isCode {ζ : zW} (hZ : zDis ζ zM) {v0 : Int32} {σ σ' : S3} {r : Int32} (h : F_X9_isCode v0 σ = some (r, σ')) : zMet ζ zM 1 yX9_isCode cX9_isCode 3 (some .boolean) [.int v0] σ (some (.int r)) σ' :=
  zMet_of pn_X9 hZ (Nat.le_of_ble_eq_true rfl) (fun κ e X => by subst e; exact B_X9_isCode_0 X h)
noncomputable def F_X9_least_22 (v1 : Int32) (σ : S3) : R3 :=
  if (12 : Int32) ≤ v1 then (some ((-1 : Int32), σ))
  else (some (v1, σ))
set_option maxHeartbeats 4000000 in
set_option maxRecDepth 100000 in
theorem B_X9_least_22 {κ : zT} {σ' : S3} {r : Int32} (X : zC κ zM RX9 cX9_least 2 (some .int) 1 (some (.int r)) σ') {v1 : Int32} {σ : S3} (h : F_X9_least_22 v1 σ = some (r, σ')) : Z κ 2 (zM (ze κ.1) σ) [(1, .int v1)] 22 [] := by
  unfold F_X9_least_22 at h
  refine z_iload_n (i := 1) X.1 dX9_least_22 0 rfl rfl ?_
  refine z_bipush (v := (12 : Int32)) X.1 dX9_least_23 (by decide) ?_
  refine z_icmp_ge (tgt := 32) X.1 dX9_least_25 (by decide) h (fun q2288 h => ?_) (fun q2288 h => ?_)
  · refine z_iconst (v := (-1 : Int32)) X.1 dX9_least_32 (by decide) ?_
    exact z_iret X dX9_least_33 h
  · refine z_iload_n (i := 1) X.1 dX9_least_28 0 rfl rfl ?_
    refine z_goto (tgt := 33) X.1 dX9_least_29 (by decide) ?_
    exact z_iret X dX9_least_33 h
noncomputable def Fb_X9_least_2 (v0 : Int32) (K2 : Int32 → S3 → R3) (v1 : Int32) (σ : S3) : R3 :=
  if (12 : Int32) ≤ v1 then (F_X9_least_22 v1 σ)
  else (bd (F_X9_has v0 v1 σ) (fun r2289 s2290 => if r2289 = (0 : Int32) then (nm (v1 + (1 : Int32)) (fun x2293 => K2 x2293 s2290))
  else (F_X9_least_22 v1 s2290)))
noncomputable def F_X9_least_2 (v0 : Int32) (n : Nat) : Int32 → S3 → R3 := zl1 (Fb_X9_least_2 v0) n
set_option maxHeartbeats 4000000 in
set_option maxRecDepth 100000 in
theorem B_X9_least_2 {κ : zT} {σ' : S3} {r : Int32} (X : zC κ zM RX9 cX9_least 2 (some .int) 1 (some (.int r)) σ') {v0 : Int32} : ∀ (n : Nat) (v1 : Int32) (σ : S3), F_X9_least_2 v0 n v1 σ = some (r, σ') → Z κ 2 (zM (ze κ.1) σ) [(0, .int v0), (1, .int v1)] 2 [] := by
  intro n
  induction n with
  | zero =>
    intro v1 σ h
    cases (show (none : R3) = some (r, σ') from h)
  | succ n ih =>
    intro v1 σ h
    have hK2 := ih
    have h : Fb_X9_least_2 v0 (F_X9_least_2 v0 n) v1 σ = some (r, σ') := h
    unfold Fb_X9_least_2 at h
    refine z_iload_n (i := 1) X.1 dX9_least_2 1 rfl rfl ?_
    refine z_bipush (v := (12 : Int32)) X.1 dX9_least_3 (by decide) ?_
    refine z_icmp_ge (tgt := 22) X.1 dX9_least_5 (by decide) h (fun q2287 h => ?_) (fun q2287 h => ?_)
    · exact z_sub [1] rfl (B_X9_least_22 X h)
    · refine z_iload_n (i := 0) X.1 dX9_least_8 0 rfl rfl ?_
      refine z_iload_n (i := 1) X.1 dX9_least_9 1 rfl rfl ?_
      obtain ⟨r2289, s2290, hc2291, h⟩ := bd_inv h
      refine cl_X9_114 (d1 := 0) (As := [.int v0, .int v1]) (rest := []) X.1 (by decide) (C_X9_has X.2.1 hc2291) rfl rfl (Nat.le_of_ble_eq_true rfl) dX9_least_10 ?_
      refine z_if_ne (tgt := 22) X.1 dX9_least_13 (by decide) h (fun q2292 h => ?_) (fun q2292 h => ?_)
      · exact z_sub [1] rfl (B_X9_least_22 X h)
      · refine z_iinc_m (v := (1 : Int32)) (lv' := fun x2293 => [(1, .int x2293), (0, .int v0)]) X.1 dX9_least_16 1 rfl (by decide) (by decide) (fun _ => rfl) h (fun x2293 h => ?_)
        refine z_goto (tgt := 2) X.1 dX9_least_19 (by decide) ?_
        exact z_sub [1, 0] rfl (hK2 _ _ h)
noncomputable def F_X9_least (v0 : Int32) (σ : S3) : R3 :=
  F_X9_least_2 v0 zF (0 : Int32) σ
set_option maxHeartbeats 4000000 in
set_option maxRecDepth 100000 in
theorem B_X9_least_0 {κ : zT} {σ' : S3} {r : Int32} (X : zC κ zM RX9 cX9_least 2 (some .int) 1 (some (.int r)) σ') {v0 : Int32} {σ : S3} (h : F_X9_least v0 σ = some (r, σ')) : Z κ 2 (zM (ze κ.1) σ) [(0, .int v0)] 0 [] := by
  unfold F_X9_least at h
  refine z_iconst (v := (0 : Int32)) X.1 dX9_least_0 (by decide) ?_
  refine z_istore_n (i := 1) (lv' := [(1, .int (0 : Int32)), (0, .int v0)]) X.1 dX9_least_1 rfl (by decide) rfl ?_
  exact z_sub [1, 0] rfl (B_X9_least_2 X zF _ _ h)
theorem C_X9_least {ζ : zW} (hZ : zDis ζ zM) {v0 : Int32} {σ σ' : S3} {r : Int32} (h : F_X9_least v0 σ = some (r, σ')) : zMet ζ zM 1 yX9_least cX9_least 2 (some .int) [.int v0] σ (some (.int r)) σ' :=
  zMet_of pn_X9 hZ (Nat.le_of_ble_eq_true rfl) (fun κ e X => by subst e; exact B_X9_least_0 X h)
noncomputable def Fb_X9_greatest_3 (v0 : Int32) (K3 : Int32 → S3 → R3) (v1 : Int32) (σ : S3) : R3 :=
  if v1 < (0 : Int32) then (some (v1, σ))
  else (bd (F_X9_has v0 v1 σ) (fun r2295 s2296 => if r2295 = (0 : Int32) then (nm (v1 + (-1 : Int32)) (fun x2299 => K3 x2299 s2296))
  else (some (v1, s2296))))
noncomputable def F_X9_greatest_3 (v0 : Int32) (n : Nat) : Int32 → S3 → R3 := zl1 (Fb_X9_greatest_3 v0) n
set_option maxHeartbeats 4000000 in
set_option maxRecDepth 100000 in
theorem B_X9_greatest_3 {κ : zT} {σ' : S3} {r : Int32} (X : zC κ zM RX9 cX9_greatest 2 (some .int) 1 (some (.int r)) σ') {v0 : Int32} : ∀ (n : Nat) (v1 : Int32) (σ : S3), F_X9_greatest_3 v0 n v1 σ = some (r, σ') → Z κ 2 (zM (ze κ.1) σ) [(0, .int v0), (1, .int v1)] 3 [] := by
  intro n
  induction n with
  | zero =>
    intro v1 σ h
    cases (show (none : R3) = some (r, σ') from h)
  | succ n ih =>
    intro v1 σ h
    have hK3 := ih
    have h : Fb_X9_greatest_3 v0 (F_X9_greatest_3 v0 n) v1 σ = some (r, σ') := h
    unfold Fb_X9_greatest_3 at h
    refine z_iload_n (i := 1) X.1 dX9_greatest_3 1 rfl rfl ?_
    refine z_if_lt (tgt := 21) X.1 dX9_greatest_4 (by decide) h (fun q2294 h => ?_) (fun q2294 h => ?_)
    · refine z_iload_n (i := 1) X.1 dX9_greatest_21 1 rfl rfl ?_
      exact z_iret X dX9_greatest_22 h
    · refine z_iload_n (i := 0) X.1 dX9_greatest_7 0 rfl rfl ?_
      refine z_iload_n (i := 1) X.1 dX9_greatest_8 1 rfl rfl ?_
      obtain ⟨r2295, s2296, hc2297, h⟩ := bd_inv h
      refine cl_X9_114 (d1 := 0) (As := [.int v0, .int v1]) (rest := []) X.1 (by decide) (C_X9_has X.2.1 hc2297) rfl rfl (Nat.le_of_ble_eq_true rfl) dX9_greatest_9 ?_
      refine z_if_ne (tgt := 21) X.1 dX9_greatest_12 (by decide) h (fun q2298 h => ?_) (fun q2298 h => ?_)
      · refine z_iload_n (i := 1) X.1 dX9_greatest_21 1 rfl rfl ?_
        exact z_iret X dX9_greatest_22 h
      · refine z_iinc_m (v := (-1 : Int32)) (lv' := fun x2299 => [(1, .int x2299), (0, .int v0)]) X.1 dX9_greatest_15 1 rfl (by decide) (by decide) (fun _ => rfl) h (fun x2299 h => ?_)
        refine z_goto (tgt := 3) X.1 dX9_greatest_18 (by decide) ?_
        exact z_sub [1, 0] rfl (hK3 _ _ h)
noncomputable def F_X9_greatest (v0 : Int32) (σ : S3) : R3 :=
  F_X9_greatest_3 v0 zF (11 : Int32) σ
set_option maxHeartbeats 4000000 in
set_option maxRecDepth 100000 in
theorem B_X9_greatest_0 {κ : zT} {σ' : S3} {r : Int32} (X : zC κ zM RX9 cX9_greatest 2 (some .int) 1 (some (.int r)) σ') {v0 : Int32} {σ : S3} (h : F_X9_greatest v0 σ = some (r, σ')) : Z κ 2 (zM (ze κ.1) σ) [(0, .int v0)] 0 [] := by
  unfold F_X9_greatest at h
  refine z_bipush (v := (11 : Int32)) X.1 dX9_greatest_0 (by decide) ?_
  refine z_istore_n (i := 1) (lv' := [(1, .int (11 : Int32)), (0, .int v0)]) X.1 dX9_greatest_2 rfl (by decide) rfl ?_
  exact z_sub [1, 0] rfl (B_X9_greatest_3 X zF _ _ h)
theorem C_X9_greatest {ζ : zW} (hZ : zDis ζ zM) {v0 : Int32} {σ σ' : S3} {r : Int32} (h : F_X9_greatest v0 σ = some (r, σ')) : zMet ζ zM 1 yX9_greatest cX9_greatest 2 (some .int) [.int v0] σ (some (.int r)) σ' :=
  zMet_of pn_X9 hZ (Nat.le_of_ble_eq_true rfl) (fun κ e X => by subst e; exact B_X9_greatest_0 X h)
noncomputable def Fb_X9_drawn_45 (v2 : Int32) (K45 : Int32 → Int32 → Int32 → S3 → R3) (v3 : Int32) (v4 : Int32) (v5 : Int32) (σ : S3) : R3 :=
  if v2 ≤ v5 then (some (v3, σ))
  else (nm (v4 &&& (v4 - (1 : Int32))) (fun x2310 => bd (F_X9_least x2310 σ) (fun r2311 s2312 => nm (v5 + (1 : Int32)) (fun x2314 => K45 r2311 x2310 x2314 s2312))))
noncomputable def F_X9_drawn_45 (v2 : Int32) (n : Nat) : Int32 → Int32 → Int32 → S3 → R3 := zl3 (Fb_X9_drawn_45 v2) n
set_option maxHeartbeats 4000000 in
set_option maxRecDepth 100000 in
theorem B_X9_drawn_45 {κ : zT} {σ' : S3} {r : Int32} (X : zC κ zM RX9 cX9_drawn 6 (some .int) 2 (some (.int r)) σ') {v2 : Int32} : ∀ (n : Nat) (v3 : Int32) (v4 : Int32) (v5 : Int32) (σ : S3), F_X9_drawn_45 v2 n v3 v4 v5 σ = some (r, σ') → Z κ 6 (zM (ze κ.1) σ) [(2, .int v2), (3, .int v3), (4, .int v4), (5, .int v5)] 45 [] := by
  intro n
  induction n with
  | zero =>
    intro v3 v4 v5 σ h
    cases (show (none : R3) = some (r, σ') from h)
  | succ n ih =>
    intro v3 v4 v5 σ h
    have hK45 := ih
    have h : Fb_X9_drawn_45 v2 (F_X9_drawn_45 v2 n) v3 v4 v5 σ = some (r, σ') := h
    unfold Fb_X9_drawn_45 at h
    refine z_iload X.1 dX9_drawn_45 3 rfl ?_
    refine z_iload_n (i := 2) X.1 dX9_drawn_47 0 rfl rfl ?_
    refine z_icmp_ge (tgt := 72) X.1 dX9_drawn_48 (by decide) h (fun q2309 h => ?_) (fun q2309 h => ?_)
    · refine z_iload_n (i := 3) X.1 dX9_drawn_72 1 rfl rfl ?_
      exact z_iret X dX9_drawn_73 h
    · refine z_iload X.1 dX9_drawn_51 2 rfl ?_
      refine z_iload X.1 dX9_drawn_53 2 rfl ?_
      refine z_iconst (v := (1 : Int32)) X.1 dX9_drawn_55 (by decide) ?_
      refine z_isub X.1 dX9_drawn_56 ?_
      refine z_iand X.1 dX9_drawn_57 ?_
      refine z_istore_m (i := 4) (lv' := fun x2310 => [(4, .int x2310), (2, .int v2), (3, .int v3), (5, .int v5)]) X.1 dX9_drawn_58 (by decide) (fun _ => rfl) h (fun x2310 h => ?_)
      refine z_iload X.1 dX9_drawn_60 0 rfl ?_
      obtain ⟨r2311, s2312, hc2313, h⟩ := bd_inv h
      refine cl_X9_236 (d1 := 1) (As := [.int x2310]) (rest := []) X.1 (by decide) (C_X9_least X.2.1 hc2313) rfl rfl (Nat.le_of_ble_eq_true rfl) dX9_drawn_62 ?_
      refine z_istore_n (i := 3) (lv' := [(3, .int r2311), (4, .int x2310), (2, .int v2), (5, .int v5)]) X.1 dX9_drawn_65 rfl (by decide) rfl ?_
      refine z_iinc_m (v := (1 : Int32)) (lv' := fun x2314 => [(5, .int x2314), (3, .int r2311), (4, .int x2310), (2, .int v2)]) X.1 dX9_drawn_66 3 rfl (by decide) (by decide) (fun _ => rfl) h (fun x2314 h => ?_)
      refine z_goto (tgt := 45) X.1 dX9_drawn_69 (by decide) ?_
      exact z_sub [3, 1, 2, 0] rfl (hK45 _ _ _ _ h)
noncomputable def F_X9_drawn (v1 : Int32) (σ : S3) : R3 :=
  if v1 = (0 : Int32) then (some ((-1 : Int32), σ))
  else (nm (up σ 0 17 0 (((σ 0 17 0) * (1103515245 : Int32)) + (12345 : Int32))) (fun s2301 => bd (F_X9_ones v1 s2301) (fun r2302 s2303 => ckz r2302 (nm (((Int32.toUInt32 (s2301 0 17 0) >>> (Int32.toUInt32 (8 : Int32) &&& Int32.toUInt32 31)).toInt32) - ((Int32.toUInt32 (s2301 0 17 0) >>> (Int32.toUInt32 (8 : Int32) &&& Int32.toUInt32 31)).toInt32) / r2302 * r2302) (fun x2305 => bd (F_X9_least v1 s2303) (fun r2306 s2307 => F_X9_drawn_45 x2305 zF r2306 v1 (0 : Int32) s2307))))))
set_option maxHeartbeats 4000000 in
set_option maxRecDepth 100000 in
theorem B_X9_drawn_0 {κ : zT} {σ' : S3} {r : Int32} (X : zC κ zM RX9 cX9_drawn 6 (some .int) 2 (some (.int r)) σ') {v1 : Int32} {σ : S3} (h : F_X9_drawn v1 σ = some (r, σ')) : Z κ 6 (zM (ze κ.1) σ) [(0, .ref (zo κ.1 0)), (1, .int v1)] 0 [] := by
  unfold F_X9_drawn at h
  refine z_iload_n (i := 1) X.1 dX9_drawn_0 1 rfl rfl ?_
  refine z_if_ne (tgt := 6) X.1 dX9_drawn_1 (by decide) h (fun q2300 h => ?_) (fun q2300 h => ?_)
  · refine z_aload_n (i := 0) X.1 dX9_drawn_6 0 rfl rfl ?_
    refine z_aload_n (i := 0) X.1 dX9_drawn_7 0 rfl rfl ?_
    refine g_X9_z X.1 tw822 dX9_drawn_8 ?_
    refine z_ldc (v := (1103515245 : Int32)) X.1 dX9_drawn_11 tw1178 ?_
    refine z_imul X.1 dX9_drawn_13 ?_
    refine z_sipush (v := (12345 : Int32)) X.1 dX9_drawn_14 (by decide) ?_
    refine z_iadd X.1 dX9_drawn_17 ?_
    refine p_X9_z X.1 X.2.1 tw822 dX9_drawn_18 h (fun s2301 h => ?_)
    refine z_aload_n (i := 0) X.1 dX9_drawn_21 0 rfl rfl ?_
    refine g_X9_z X.1 tw822 dX9_drawn_22 ?_
    refine z_bipush (v := (8 : Int32)) X.1 dX9_drawn_25 (by decide) ?_
    refine z_iushr X.1 dX9_drawn_27 ?_
    refine z_iload_n (i := 1) X.1 dX9_drawn_28 1 rfl rfl ?_
    obtain ⟨r2302, s2303, hc2304, h⟩ := bd_inv h
    refine cl_X9_123 (d1 := 0) (As := [.int v1]) (rest := [.int ((Int32.toUInt32 (s2301 0 17 0) >>> (Int32.toUInt32 (8 : Int32) &&& Int32.toUInt32 31)).toInt32)]) X.1 (by decide) (C_X9_ones X.2.1 hc2304) rfl rfl (Nat.le_of_ble_eq_true rfl) dX9_drawn_29 ?_
    obtain ⟨hz, h⟩ := ckz_inv h
    refine z_irem X.1 dX9_drawn_32 hz ?_
    refine z_istore_nn (i := 2) (lv' := fun x2305 => [(2, .int x2305), (0, .ref (zo κ.1 0)), (1, .int v1)]) X.1 dX9_drawn_33 rfl (by decide) (fun _ => rfl) h (fun x2305 h => ?_)
    refine z_iload_n (i := 1) X.1 dX9_drawn_34 2 rfl rfl ?_
    obtain ⟨r2306, s2307, hc2308, h⟩ := bd_inv h
    refine cl_X9_236 (d1 := 1) (As := [.int v1]) (rest := []) X.1 (by decide) (C_X9_least X.2.1 hc2308) rfl rfl (Nat.le_of_ble_eq_true rfl) dX9_drawn_35 ?_
    refine z_istore_n (i := 3) (lv' := [(3, .int r2306), (2, .int x2305), (0, .ref (zo κ.1 0)), (1, .int v1)]) X.1 dX9_drawn_38 rfl (by decide) rfl ?_
    refine z_iload_n (i := 1) X.1 dX9_drawn_39 3 rfl rfl ?_
    refine z_istore (i := 4) (lv' := [(4, .int v1), (3, .int r2306), (2, .int x2305), (0, .ref (zo κ.1 0)), (1, .int v1)]) X.1 dX9_drawn_40 (by decide) rfl ?_
    refine z_iconst (v := (0 : Int32)) X.1 dX9_drawn_42 (by decide) ?_
    refine z_istore (i := 5) (lv' := [(5, .int (0 : Int32)), (4, .int v1), (3, .int r2306), (2, .int x2305), (0, .ref (zo κ.1 0)), (1, .int v1)]) X.1 dX9_drawn_43 (by decide) rfl ?_
    exact z_sub [3, 2, 1, 0] rfl (B_X9_drawn_45 X zF _ _ _ _ h)
  · refine z_iconst (v := (-1 : Int32)) X.1 dX9_drawn_4 (by decide) ?_
    exact z_iret X dX9_drawn_5 h
theorem C_X9_drawn {ζ : zW} (hZ : zDis ζ zM) {v1 : Int32} {σ σ' : S3} {r : Int32} (h : F_X9_drawn v1 σ = some (r, σ')) : zMet ζ zM 2 yX9_drawn cX9_drawn 6 (some .int) [.ref (zo ζ 0), .int v1] σ (some (.int r)) σ' :=
  zMet_of pn_X9 hZ (Nat.le_of_ble_eq_true rfl) (fun κ e X => by subst e; exact B_X9_drawn_0 X h)
noncomputable def F_X9_bestBy_98 (K8 : Int32 → Int32 → Int32 → S3 → R3) (v1 : Int32) (v2 : Int32) (v5 : Int32) (v8 : Int32) (σ : S3) : R3 :=
  nm (v5 + (1 : Int32)) (fun x2334 => K8 v5 v8 x2334 σ)
set_option maxHeartbeats 4000000 in
set_option maxRecDepth 100000 in
theorem B_X9_bestBy_98 {κ : zT} {σ' : S3} {r : Int32} (X : zC κ zM RX9 cX9_bestBy 9 (some .int) 24 (some (.int r)) σ') {K8 : Int32 → Int32 → Int32 → S3 → R3} {v1 : Int32} {v2 : Int32} {v5 : Int32} {v8 : Int32} {σ : S3} (hK8 : ∀ (w3 : Int32) (w4 : Int32) (w5 : Int32) (s1 : S3), K8 w3 w4 w5 s1 = some (r, σ') → Z κ 9 (zM (ze κ.1) s1) [(0, .ref (zo κ.1 0)), (1, .int v1), (2, .int v2), (3, .int w3), (4, .int w4), (5, .int w5)] 8 []) (h : F_X9_bestBy_98 K8 v1 v2 v5 v8 σ = some (r, σ')) : Z κ 9 (zM (ze κ.1) σ) [(0, .ref (zo κ.1 0)), (1, .int v1), (2, .int v2), (5, .int v5), (8, .int v8)] 98 [] := by
  unfold F_X9_bestBy_98 at h
  refine z_iload X.1 dX9_bestBy_98 3 rfl ?_
  refine z_istore_n (i := 3) (lv' := [(3, .int v5), (0, .ref (zo κ.1 0)), (1, .int v1), (2, .int v2), (5, .int v5), (8, .int v8)]) X.1 dX9_bestBy_100 rfl (by decide) rfl ?_
  refine z_iload X.1 dX9_bestBy_101 5 rfl ?_
  refine z_istore (i := 4) (lv' := [(4, .int v8), (3, .int v5), (0, .ref (zo κ.1 0)), (1, .int v1), (2, .int v2), (5, .int v5), (8, .int v8)]) X.1 dX9_bestBy_103 (by decide) rfl ?_
  refine z_iinc_m (v := (1 : Int32)) (lv' := fun x2334 => [(5, .int x2334), (4, .int v8), (3, .int v5), (0, .ref (zo κ.1 0)), (1, .int v1), (2, .int v2), (8, .int v8)]) X.1 dX9_bestBy_105 5 rfl (by decide) (by decide) (fun _ => rfl) h (fun x2334 h => ?_)
  refine z_goto (tgt := 8) X.1 dX9_bestBy_108 (by decide) ?_
  exact z_sub [3, 4, 5, 2, 1, 0] rfl (hK8 _ _ _ _ h)
noncomputable def F_X9_bestBy_84 (K8 : Int32 → Int32 → Int32 → S3 → R3) (v1 : Int32) (v2 : Int32) (v3 : Int32) (v4 : Int32) (v5 : Int32) (s0 : Int32) (σ : S3) : R3 :=
  if v3 = (-1 : Int32) then (F_X9_bestBy_98 K8 v1 v2 v5 s0 σ)
  else (if s0 ≤ v4 then (nm (v5 + (1 : Int32)) (fun x2336 => K8 v3 v4 x2336 σ))
  else (F_X9_bestBy_98 K8 v1 v2 v5 s0 σ))
set_option maxHeartbeats 4000000 in
set_option maxRecDepth 100000 in
theorem B_X9_bestBy_84 {κ : zT} {σ' : S3} {r : Int32} (X : zC κ zM RX9 cX9_bestBy 9 (some .int) 24 (some (.int r)) σ') {K8 : Int32 → Int32 → Int32 → S3 → R3} {v1 : Int32} {v2 : Int32} {v3 : Int32} {v4 : Int32} {v5 : Int32} {s0 : Int32} {σ : S3} (hK8 : ∀ (w3 : Int32) (w4 : Int32) (w5 : Int32) (s1 : S3), K8 w3 w4 w5 s1 = some (r, σ') → Z κ 9 (zM (ze κ.1) s1) [(0, .ref (zo κ.1 0)), (1, .int v1), (2, .int v2), (3, .int w3), (4, .int w4), (5, .int w5)] 8 []) (h : F_X9_bestBy_84 K8 v1 v2 v3 v4 v5 s0 σ = some (r, σ')) : Z κ 9 (zM (ze κ.1) σ) [(0, .ref (zo κ.1 0)), (1, .int v1), (2, .int v2), (3, .int v3), (4, .int v4), (5, .int v5)] 84 [.int s0] := by
  unfold F_X9_bestBy_84 at h
  refine z_istore (i := 8) (lv' := [(8, .int s0), (0, .ref (zo κ.1 0)), (1, .int v1), (2, .int v2), (3, .int v3), (4, .int v4), (5, .int v5)]) X.1 dX9_bestBy_84 (by decide) rfl ?_
  refine z_iload_n (i := 3) X.1 dX9_bestBy_86 4 rfl rfl ?_
  refine z_iconst (v := (-1 : Int32)) X.1 dX9_bestBy_87 (by decide) ?_
  refine z_icmp_eq (tgt := 98) X.1 dX9_bestBy_88 (by decide) h (fun q2333 h => ?_) (fun q2333 h => ?_)
  · exact z_sub [1, 2, 3, 6, 0] rfl (B_X9_bestBy_98 X hK8 h)
  · refine z_iload X.1 dX9_bestBy_91 0 rfl ?_
    refine z_iload X.1 dX9_bestBy_93 5 rfl ?_
    refine z_icmp_le (tgt := 105) X.1 dX9_bestBy_95 (by decide) h (fun q2335 h => ?_) (fun q2335 h => ?_)
    · refine z_iinc_m (v := (1 : Int32)) (lv' := fun x2336 => [(5, .int x2336), (8, .int s0), (0, .ref (zo κ.1 0)), (1, .int v1), (2, .int v2), (3, .int v3), (4, .int v4)]) X.1 dX9_bestBy_105 6 rfl (by decide) (by decide) (fun _ => rfl) h (fun x2336 h => ?_)
      refine z_goto (tgt := 8) X.1 dX9_bestBy_108 (by decide) ?_
      exact z_sub [2, 3, 4, 5, 6, 0] rfl (hK8 _ _ _ _ h)
    · exact z_sub [1, 2, 3, 6, 0] rfl (B_X9_bestBy_98 X hK8 h)
noncomputable def Fb_X9_bestBy_8 (v1 : Int32) (v2 : Int32) (K8 : Int32 → Int32 → Int32 → S3 → R3) (v3 : Int32) (v4 : Int32) (v5 : Int32) (σ : S3) : R3 :=
  if (σ 0 2 0) ≤ v5 then (some (v3, σ))
  else (bd (F_X9_has v1 v5 σ) (fun r2316 s2317 => if r2316 = (0 : Int32) then (nm (v5 + (1 : Int32)) (fun x2343 => K8 v3 v4 x2343 s2317))
  else (bd (F_X9_otherOf v5 (s2317 0 14 0) s2317) (fun r2320 s2321 => bd (F_X9_setNow s2321) (fun r2323 s2324 => bd (F_X9_setBehind v5 (s2321 0 14 0) r2323 s2324) (fun r2326 s2327 => if v2 = (0 : Int32) then (bd (F_X9_longAt r2320 r2326 s2327) (fun r2330 s2331 => F_X9_bestBy_84 K8 v1 v2 v3 v4 v5 r2330 s2331))
  else (bd (F_X9_movesAt r2320 r2326 s2327) (fun r2337 s2338 => bd (F_X9_ones r2337 s2338) (fun r2340 s2341 => F_X9_bestBy_84 K8 v1 v2 v3 v4 v5 (-r2340) s2341)))))))))
noncomputable def F_X9_bestBy_8 (v1 : Int32) (v2 : Int32) (n : Nat) : Int32 → Int32 → Int32 → S3 → R3 := zl3 (Fb_X9_bestBy_8 v1 v2) n
set_option maxHeartbeats 4000000 in
set_option maxRecDepth 100000 in
theorem B_X9_bestBy_8 {κ : zT} {σ' : S3} {r : Int32} (X : zC κ zM RX9 cX9_bestBy 9 (some .int) 24 (some (.int r)) σ') {v1 : Int32} {v2 : Int32} : ∀ (n : Nat) (v3 : Int32) (v4 : Int32) (v5 : Int32) (σ : S3), F_X9_bestBy_8 v1 v2 n v3 v4 v5 σ = some (r, σ') → Z κ 9 (zM (ze κ.1) σ) [(0, .ref (zo κ.1 0)), (1, .int v1), (2, .int v2), (3, .int v3), (4, .int v4), (5, .int v5)] 8 [] := by
  intro n
  induction n with
  | zero =>
    intro v3 v4 v5 σ h
    cases (show (none : R3) = some (r, σ') from h)
  | succ n ih =>
    intro v3 v4 v5 σ h
    have hK8 := ih
    have h : Fb_X9_bestBy_8 v1 v2 (F_X9_bestBy_8 v1 v2 n) v3 v4 v5 σ = some (r, σ') := h
    unfold Fb_X9_bestBy_8 at h
    refine z_iload X.1 dX9_bestBy_8 5 rfl ?_
    refine z_aload_n (i := 0) X.1 dX9_bestBy_10 0 rfl rfl ?_
    refine g_X9_lines X.1 tw807 dX9_bestBy_11 ?_
    refine z_icmp_ge (tgt := 111) X.1 dX9_bestBy_14 (by decide) h (fun q2315 h => ?_) (fun q2315 h => ?_)
    · refine z_iload_n (i := 3) X.1 dX9_bestBy_111 3 rfl rfl ?_
      exact z_iret X dX9_bestBy_112 h
    · refine z_iload_n (i := 1) X.1 dX9_bestBy_17 1 rfl rfl ?_
      refine z_iload X.1 dX9_bestBy_18 5 rfl ?_
      obtain ⟨r2316, s2317, hc2318, h⟩ := bd_inv h
      refine cl_X9_114 (d1 := 0) (As := [.int v1, .int v5]) (rest := []) X.1 (by decide) (C_X9_has X.2.1 hc2318) rfl rfl (Nat.le_of_ble_eq_true rfl) dX9_bestBy_20 ?_
      refine z_if_ne (tgt := 29) X.1 dX9_bestBy_23 (by decide) h (fun q2319 h => ?_) (fun q2319 h => ?_)
      · refine z_aload_n (i := 0) X.1 dX9_bestBy_29 0 rfl rfl ?_
        refine z_iload X.1 dX9_bestBy_30 5 rfl ?_
        refine z_aload_n (i := 0) X.1 dX9_bestBy_32 0 rfl rfl ?_
        refine g_X9_marker X.1 tw819 dX9_bestBy_33 ?_
        obtain ⟨r2320, s2321, hc2322, h⟩ := bd_inv h
        refine cl_X9_101 (d1 := 0) (b := zo κ.1 0) (As := [.int v5, .int (s2317 0 14 0)]) (rest := []) X.1 (by decide) (C_X9_otherOf X.2.1 hc2322) rcX9 rfl rfl (Nat.le_of_ble_eq_true rfl) dX9_bestBy_36 ?_
        refine z_istore (i := 6) (lv' := [(6, .int r2320), (0, .ref (zo κ.1 0)), (1, .int v1), (2, .int v2), (3, .int v3), (4, .int v4), (5, .int v5)]) X.1 dX9_bestBy_39 (by decide) rfl ?_
        refine z_aload_n (i := 0) X.1 dX9_bestBy_41 1 rfl rfl ?_
        refine z_iload X.1 dX9_bestBy_42 6 rfl ?_
        refine z_aload_n (i := 0) X.1 dX9_bestBy_44 1 rfl rfl ?_
        refine g_X9_marker X.1 tw819 dX9_bestBy_45 ?_
        refine z_aload_n (i := 0) X.1 dX9_bestBy_48 1 rfl rfl ?_
        obtain ⟨r2323, s2324, hc2325, h⟩ := bd_inv h
        refine cl_X9_185 (d1 := 1) (b := zo κ.1 0) (As := []) (rest := [.int (s2321 0 14 0), .int v5, .ref (zo κ.1 0)]) X.1 (by decide) (C_X9_setNow X.2.1 hc2325) rcX9 rfl rfl (Nat.le_of_ble_eq_true rfl) dX9_bestBy_49 ?_
        obtain ⟨r2326, s2327, hc2328, h⟩ := bd_inv h
        refine cl_X9_163 (d1 := 1) (b := zo κ.1 0) (As := [.int v5, .int (s2321 0 14 0), .int r2323]) (rest := []) X.1 (by decide) (C_X9_setBehind X.2.1 hc2328) rcX9 rfl rfl (Nat.le_of_ble_eq_true rfl) dX9_bestBy_52 ?_
        refine z_istore (i := 7) (lv' := [(7, .int r2326), (6, .int r2320), (0, .ref (zo κ.1 0)), (1, .int v1), (2, .int v2), (3, .int v3), (4, .int v4), (5, .int v5)]) X.1 dX9_bestBy_55 (by decide) rfl ?_
        refine z_iload_n (i := 2) X.1 dX9_bestBy_57 4 rfl rfl ?_
        refine z_if_eq (tgt := 76) X.1 dX9_bestBy_58 (by decide) h (fun q2329 h => ?_) (fun q2329 h => ?_)
        · refine z_aload_n (i := 0) X.1 dX9_bestBy_76 2 rfl rfl ?_
          refine z_iload X.1 dX9_bestBy_77 1 rfl ?_
          refine z_iload X.1 dX9_bestBy_79 0 rfl ?_
          obtain ⟨r2330, s2331, hc2332, h⟩ := bd_inv h
          refine cl_X9_229 (d1 := 23) (b := zo κ.1 0) (As := [.int r2320, .int r2326]) (rest := []) X.1 (by decide) (C_X9_longAt X.2.1 hc2332) rcX9 rfl rfl (Nat.le_of_ble_eq_true rfl) dX9_bestBy_81 ?_
          exact z_sub [2, 3, 4, 5, 6, 7] rfl (B_X9_bestBy_84 X hK8 h)
        · refine z_aload_n (i := 0) X.1 dX9_bestBy_61 2 rfl rfl ?_
          refine z_iload X.1 dX9_bestBy_62 1 rfl ?_
          refine z_iload X.1 dX9_bestBy_64 0 rfl ?_
          obtain ⟨r2337, s2338, hc2339, h⟩ := bd_inv h
          refine cl_X9_188 (d1 := 2) (b := zo κ.1 0) (As := [.int r2320, .int r2326]) (rest := []) X.1 (by decide) (C_X9_movesAt X.2.1 hc2339) rcX9 rfl rfl (Nat.le_of_ble_eq_true rfl) dX9_bestBy_66 ?_
          obtain ⟨r2340, s2341, hc2342, h⟩ := bd_inv h
          refine cl_X9_123 (d1 := 0) (As := [.int r2337]) (rest := []) X.1 (by decide) (C_X9_ones X.2.1 hc2342) rfl rfl (Nat.le_of_ble_eq_true rfl) dX9_bestBy_69 ?_
          refine z_ineg X.1 dX9_bestBy_72 ?_
          refine z_goto (tgt := 84) X.1 dX9_bestBy_73 (by decide) ?_
          exact z_sub [2, 3, 4, 5, 6, 7] rfl (B_X9_bestBy_84 X hK8 h)
      · refine z_goto (tgt := 105) X.1 dX9_bestBy_26 (by decide) ?_
        refine z_iinc_m (v := (1 : Int32)) (lv' := fun x2343 => [(5, .int x2343), (0, .ref (zo κ.1 0)), (1, .int v1), (2, .int v2), (3, .int v3), (4, .int v4)]) X.1 dX9_bestBy_105 5 rfl (by decide) (by decide) (fun _ => rfl) h (fun x2343 h => ?_)
        refine z_goto (tgt := 8) X.1 dX9_bestBy_108 (by decide) ?_
        exact z_sub [1, 2, 3, 4, 5, 0] rfl (hK8 _ _ _ _ h)
noncomputable def F_X9_bestBy (v1 : Int32) (v2 : Int32) (σ : S3) : R3 :=
  F_X9_bestBy_8 v1 v2 zF (-1 : Int32) (0 : Int32) (0 : Int32) σ
set_option maxHeartbeats 4000000 in
set_option maxRecDepth 100000 in
theorem B_X9_bestBy_0 {κ : zT} {σ' : S3} {r : Int32} (X : zC κ zM RX9 cX9_bestBy 9 (some .int) 24 (some (.int r)) σ') {v1 : Int32} {v2 : Int32} {σ : S3} (h : F_X9_bestBy v1 v2 σ = some (r, σ')) : Z κ 9 (zM (ze κ.1) σ) [(0, .ref (zo κ.1 0)), (1, .int v1), (2, .int v2)] 0 [] := by
  unfold F_X9_bestBy at h
  refine z_iconst (v := (-1 : Int32)) X.1 dX9_bestBy_0 (by decide) ?_
  refine z_istore_n (i := 3) (lv' := [(3, .int (-1 : Int32)), (0, .ref (zo κ.1 0)), (1, .int v1), (2, .int v2)]) X.1 dX9_bestBy_1 rfl (by decide) rfl ?_
  refine z_iconst (v := (0 : Int32)) X.1 dX9_bestBy_2 (by decide) ?_
  refine z_istore (i := 4) (lv' := [(4, .int (0 : Int32)), (3, .int (-1 : Int32)), (0, .ref (zo κ.1 0)), (1, .int v1), (2, .int v2)]) X.1 dX9_bestBy_3 (by decide) rfl ?_
  refine z_iconst (v := (0 : Int32)) X.1 dX9_bestBy_5 (by decide) ?_
  refine z_istore (i := 5) (lv' := [(5, .int (0 : Int32)), (4, .int (0 : Int32)), (3, .int (-1 : Int32)), (0, .ref (zo κ.1 0)), (1, .int v1), (2, .int v2)]) X.1 dX9_bestBy_6 (by decide) rfl ?_
  exact z_sub [3, 4, 5, 2, 1, 0] rfl (B_X9_bestBy_8 X zF _ _ _ _ h)
theorem C_X9_bestBy {ζ : zW} (hZ : zDis ζ zM) {v1 : Int32} {v2 : Int32} {σ σ' : S3} {r : Int32} (h : F_X9_bestBy v1 v2 σ = some (r, σ')) : zMet ζ zM 24 yX9_bestBy cX9_bestBy 9 (some .int) [.ref (zo ζ 0), .int v1, .int v2] σ (some (.int r)) σ' :=
  zMet_of pn_X9 hZ (Nat.le_of_ble_eq_true rfl) (fun κ e X => by subst e; exact B_X9_bestBy_0 X h)
noncomputable def Fb_X9_paired_25 (v1 : Int32) (v2 : Int32) (K25 : Int32 → S3 → R3) (v3 : Int32) (σ : S3) : R3 :=
  if (σ 0 2 0) ≤ v3 then (some ((-1 : Int32), σ))
  else (bd (F_X9_has v2 v3 σ) (fun r2351 s2352 => if r2351 = (0 : Int32) then (nm (v3 + (1 : Int32)) (fun x2355 => K25 x2355 s2352))
  else (bd (F_X9_isAt v3 (s2352 0 14 0) s2352) (fun r2356 s2357 => if r2356 = (0 : Int32) then (nm (v3 + (1 : Int32)) (fun x2360 => K25 x2360 s2357))
  else (bd (F_X9_has v1 v3 s2357) (fun r2361 s2362 => if r2361 = (0 : Int32) then (some ((-1 : Int32), s2362))
  else (some (v3, s2362))))))))
noncomputable def F_X9_paired_25 (v1 : Int32) (v2 : Int32) (n : Nat) : Int32 → S3 → R3 := zl1 (Fb_X9_paired_25 v1 v2) n
set_option maxHeartbeats 4000000 in
set_option maxRecDepth 100000 in
theorem B_X9_paired_25 {κ : zT} {σ' : S3} {r : Int32} (X : zC κ zM RX9 cX9_paired 4 (some .int) 3 (some (.int r)) σ') {v1 : Int32} {v2 : Int32} : ∀ (n : Nat) (v3 : Int32) (σ : S3), F_X9_paired_25 v1 v2 n v3 σ = some (r, σ') → Z κ 4 (zM (ze κ.1) σ) [(0, .ref (zo κ.1 0)), (1, .int v1), (2, .int v2), (3, .int v3)] 25 [] := by
  intro n
  induction n with
  | zero =>
    intro v3 σ h
    cases (show (none : R3) = some (r, σ') from h)
  | succ n ih =>
    intro v3 σ h
    have hK25 := ih
    have h : Fb_X9_paired_25 v1 v2 (F_X9_paired_25 v1 v2 n) v3 σ = some (r, σ') := h
    unfold Fb_X9_paired_25 at h
    refine z_iload_n (i := 3) X.1 dX9_paired_25 3 rfl rfl ?_
    refine z_aload_n (i := 0) X.1 dX9_paired_26 0 rfl rfl ?_
    refine g_X9_lines X.1 tw807 dX9_paired_27 ?_
    refine z_icmp_ge (tgt := 73) X.1 dX9_paired_30 (by decide) h (fun q2350 h => ?_) (fun q2350 h => ?_)
    · refine z_iconst (v := (-1 : Int32)) X.1 dX9_paired_73 (by decide) ?_
      exact z_iret X dX9_paired_74 h
    · refine z_iload_n (i := 2) X.1 dX9_paired_33 2 rfl rfl ?_
      refine z_iload_n (i := 3) X.1 dX9_paired_34 3 rfl rfl ?_
      obtain ⟨r2351, s2352, hc2353, h⟩ := bd_inv h
      refine cl_X9_114 (d1 := 0) (As := [.int v2, .int v3]) (rest := []) X.1 (by decide) (C_X9_has X.2.1 hc2353) rfl rfl (Nat.le_of_ble_eq_true rfl) dX9_paired_35 ?_
      refine z_if_eq (tgt := 67) X.1 dX9_paired_38 (by decide) h (fun q2354 h => ?_) (fun q2354 h => ?_)
      · refine z_iinc_m (v := (1 : Int32)) (lv' := fun x2355 => [(3, .int x2355), (0, .ref (zo κ.1 0)), (1, .int v1), (2, .int v2)]) X.1 dX9_paired_67 3 rfl (by decide) (by decide) (fun _ => rfl) h (fun x2355 h => ?_)
        refine z_goto (tgt := 25) X.1 dX9_paired_70 (by decide) ?_
        exact z_sub [1, 2, 3, 0] rfl (hK25 _ _ h)
      · refine z_aload_n (i := 0) X.1 dX9_paired_41 0 rfl rfl ?_
        refine z_iload_n (i := 3) X.1 dX9_paired_42 3 rfl rfl ?_
        refine z_aload_n (i := 0) X.1 dX9_paired_43 0 rfl rfl ?_
        refine g_X9_marker X.1 tw819 dX9_paired_44 ?_
        obtain ⟨r2356, s2357, hc2358, h⟩ := bd_inv h
        refine cl_X9_97 (d1 := 0) (b := zo κ.1 0) (As := [.int v3, .int (s2352 0 14 0)]) (rest := []) X.1 (by decide) (C_X9_isAt X.2.1 hc2358) rcX9 rfl rfl (Nat.le_of_ble_eq_true rfl) dX9_paired_47 ?_
        refine z_if_eq (tgt := 67) X.1 dX9_paired_50 (by decide) h (fun q2359 h => ?_) (fun q2359 h => ?_)
        · refine z_iinc_m (v := (1 : Int32)) (lv' := fun x2360 => [(3, .int x2360), (0, .ref (zo κ.1 0)), (1, .int v1), (2, .int v2)]) X.1 dX9_paired_67 3 rfl (by decide) (by decide) (fun _ => rfl) h (fun x2360 h => ?_)
          refine z_goto (tgt := 25) X.1 dX9_paired_70 (by decide) ?_
          exact z_sub [1, 2, 3, 0] rfl (hK25 _ _ h)
        · refine z_iload_n (i := 1) X.1 dX9_paired_53 1 rfl rfl ?_
          refine z_iload_n (i := 3) X.1 dX9_paired_54 3 rfl rfl ?_
          obtain ⟨r2361, s2362, hc2363, h⟩ := bd_inv h
          refine cl_X9_114 (d1 := 0) (As := [.int v1, .int v3]) (rest := []) X.1 (by decide) (C_X9_has X.2.1 hc2363) rfl rfl (Nat.le_of_ble_eq_true rfl) dX9_paired_55 ?_
          refine z_if_eq (tgt := 65) X.1 dX9_paired_58 (by decide) h (fun q2364 h => ?_) (fun q2364 h => ?_)
          · refine z_iconst (v := (-1 : Int32)) X.1 dX9_paired_65 (by decide) ?_
            exact z_iret X dX9_paired_66 h
          · refine z_iload_n (i := 3) X.1 dX9_paired_61 3 rfl rfl ?_
            refine z_goto (tgt := 66) X.1 dX9_paired_62 (by decide) ?_
            exact z_iret X dX9_paired_66 h
noncomputable def F_X9_paired (v1 : Int32) (σ : S3) : R3 :=
  bd (F_X9_all σ) (fun r2344 s2345 => bd (F_X9_pairingOf ((r2344 &&& ((s2345 0 15 0) ^^^ (-1 : Int32))) ||| ((1 : Int32) <<< ((s2345 0 14 0) &&& 31))) s2345) (fun r2347 s2348 => F_X9_paired_25 v1 r2347 zF (0 : Int32) s2348))
set_option maxHeartbeats 4000000 in
set_option maxRecDepth 100000 in
theorem B_X9_paired_0 {κ : zT} {σ' : S3} {r : Int32} (X : zC κ zM RX9 cX9_paired 4 (some .int) 3 (some (.int r)) σ') {v1 : Int32} {σ : S3} (h : F_X9_paired v1 σ = some (r, σ')) : Z κ 4 (zM (ze κ.1) σ) [(0, .ref (zo κ.1 0)), (1, .int v1)] 0 [] := by
  unfold F_X9_paired at h
  refine z_aload_n (i := 0) X.1 dX9_paired_0 0 rfl rfl ?_
  refine z_aload_n (i := 0) X.1 dX9_paired_1 0 rfl rfl ?_
  obtain ⟨r2344, s2345, hc2346, h⟩ := bd_inv h
  refine cl_X9_129 (d1 := 0) (b := zo κ.1 0) (As := []) (rest := [.ref (zo κ.1 0)]) X.1 (by decide) (C_X9_all X.2.1 hc2346) rcX9 rfl rfl (Nat.le_of_ble_eq_true rfl) dX9_paired_2 ?_
  refine z_aload_n (i := 0) X.1 dX9_paired_5 0 rfl rfl ?_
  refine g_X9_met X.1 tw820 dX9_paired_6 ?_
  refine z_iconst (v := (-1 : Int32)) X.1 dX9_paired_9 (by decide) ?_
  refine z_ixor X.1 dX9_paired_10 ?_
  refine z_iand X.1 dX9_paired_11 ?_
  refine z_iconst (v := (1 : Int32)) X.1 dX9_paired_12 (by decide) ?_
  refine z_aload_n (i := 0) X.1 dX9_paired_13 0 rfl rfl ?_
  refine g_X9_marker X.1 tw819 dX9_paired_14 ?_
  refine z_ishl X.1 dX9_paired_17 ?_
  refine z_ior X.1 dX9_paired_18 ?_
  obtain ⟨r2347, s2348, hc2349, h⟩ := bd_inv h
  refine cl_X9_133 (d1 := 2) (b := zo κ.1 0) (As := [.int ((r2344 &&& ((s2345 0 15 0) ^^^ (-1 : Int32))) ||| ((1 : Int32) <<< ((s2345 0 14 0) &&& 31)))]) (rest := []) X.1 (by decide) (C_X9_pairingOf X.2.1 hc2349) rcX9 rfl rfl (Nat.le_of_ble_eq_true rfl) dX9_paired_19 ?_
  refine z_istore_n (i := 2) (lv' := [(2, .int r2347), (0, .ref (zo κ.1 0)), (1, .int v1)]) X.1 dX9_paired_22 rfl (by decide) rfl ?_
  refine z_iconst (v := (0 : Int32)) X.1 dX9_paired_23 (by decide) ?_
  refine z_istore_n (i := 3) (lv' := [(3, .int (0 : Int32)), (2, .int r2347), (0, .ref (zo κ.1 0)), (1, .int v1)]) X.1 dX9_paired_24 rfl (by decide) rfl ?_
  exact z_sub [2, 3, 1, 0] rfl (B_X9_paired_25 X zF _ _ h)
theorem C_X9_paired {ζ : zW} (hZ : zDis ζ zM) {v1 : Int32} {σ σ' : S3} {r : Int32} (h : F_X9_paired v1 σ = some (r, σ')) : zMet ζ zM 3 yX9_paired cX9_paired 4 (some .int) [.ref (zo ζ 0), .int v1] σ (some (.int r)) σ' :=
  zMet_of pn_X9 hZ (Nat.le_of_ble_eq_true rfl) (fun κ e X => by subst e; exact B_X9_paired_0 X h)
noncomputable def F_X9_simple (v1 : Int32) (σ : S3) : R3 :=
  bd (F_X9_movesNow σ) (fun r2365 s2366 => (if v1 = (1 : Int32) then (bd (F_X9_least r2365 s2366) (fun r2369 s2370 => some (r2369, s2370)))
  else (if v1 = (2 : Int32) then (bd (F_X9_greatest r2365 s2366) (fun r2373 s2374 => some (r2373, s2374)))
  else (if v1 = (3 : Int32) then (bd (F_X9_winning s2366) (fun r2377 s2378 => bd (F_X9_least r2377 s2378) (fun r2380 s2381 => some (r2380, s2381))))
  else (if v1 = (4 : Int32) then (bd (F_X9_paired r2365 s2366) (fun r2384 s2385 => some (r2384, s2385)))
  else (if v1 = (5 : Int32) then (bd (F_X9_drawn r2365 s2366) (fun r2388 s2389 => some (r2388, s2389)))
  else (if v1 = (6 : Int32) then (bd (F_X9_bestBy r2365 (1 : Int32) s2366) (fun r2392 s2393 => some (r2392, s2393)))
  else (bd (F_X9_bestBy r2365 (0 : Int32) s2366) (fun r2395 s2396 => some (r2395, s2396))))))))))
set_option maxHeartbeats 4000000 in
set_option maxRecDepth 100000 in
theorem B_X9_simple_0 {κ : zT} {σ' : S3} {r : Int32} (X : zC κ zM RX9 cX9_simple 3 (some .int) 26 (some (.int r)) σ') {v1 : Int32} {σ : S3} (h : F_X9_simple v1 σ = some (r, σ')) : Z κ 3 (zM (ze κ.1) σ) [(0, .ref (zo κ.1 0)), (1, .int v1)] 0 [] := by
  unfold F_X9_simple at h
  refine z_aload_n (i := 0) X.1 dX9_simple_0 0 rfl rfl ?_
  obtain ⟨r2365, s2366, hc2367, h⟩ := bd_inv h
  refine cl_X9_191 (d1 := 3) (b := zo κ.1 0) (As := []) (rest := []) X.1 (by decide) (C_X9_movesNow X.2.1 hc2367) rcX9 rfl rfl (Nat.le_of_ble_eq_true rfl) dX9_simple_1 ?_
  refine z_istore_n (i := 2) (lv' := [(2, .int r2365), (0, .ref (zo κ.1 0)), (1, .int v1)]) X.1 dX9_simple_4 rfl (by decide) rfl ?_
  refine z_iload_n (i := 1) X.1 dX9_simple_5 2 rfl rfl ?_
  by_cases q1 : v1 = (1 : Int32)
  · rw [if_pos q1] at h
    refine z_tabIn (tgt := 44) X.1 dX9_simple_6 q1 (by decide) (by decide) rfl (by decide) ?_
    refine z_iload_n (i := 2) X.1 dX9_simple_44 0 rfl rfl ?_
    obtain ⟨r2369, s2370, hc2371, h⟩ := bd_inv h
    refine cl_X9_236 (d1 := 1) (As := [.int r2365]) (rest := []) X.1 (by decide) (C_X9_least X.2.1 hc2371) rfl rfl (Nat.le_of_ble_eq_true rfl) dX9_simple_45 ?_
    exact z_iret X dX9_simple_48 h
  · rw [if_neg q1] at h
    by_cases q2 : v1 = (2 : Int32)
    · rw [if_pos q2] at h
      refine z_tabIn (tgt := 49) X.1 dX9_simple_6 q2 (by decide) (by decide) rfl (by decide) ?_
      refine z_iload_n (i := 2) X.1 dX9_simple_49 0 rfl rfl ?_
      obtain ⟨r2373, s2374, hc2375, h⟩ := bd_inv h
      refine cl_X9_239 (d1 := 1) (As := [.int r2365]) (rest := []) X.1 (by decide) (C_X9_greatest X.2.1 hc2375) rfl rfl (Nat.le_of_ble_eq_true rfl) dX9_simple_50 ?_
      exact z_iret X dX9_simple_53 h
    · rw [if_neg q2] at h
      by_cases q3 : v1 = (3 : Int32)
      · rw [if_pos q3] at h
        refine z_tabIn (tgt := 54) X.1 dX9_simple_6 q3 (by decide) (by decide) rfl (by decide) ?_
        refine z_aload_n (i := 0) X.1 dX9_simple_54 1 rfl rfl ?_
        obtain ⟨r2377, s2378, hc2379, h⟩ := bd_inv h
        refine cl_X9_226 (d1 := 25) (b := zo κ.1 0) (As := []) (rest := []) X.1 (by decide) (C_X9_winning X.2.1 hc2379) rcX9 rfl rfl (Nat.le_of_ble_eq_true rfl) dX9_simple_55 ?_
        obtain ⟨r2380, s2381, hc2382, h⟩ := bd_inv h
        refine cl_X9_236 (d1 := 1) (As := [.int r2377]) (rest := []) X.1 (by decide) (C_X9_least X.2.1 hc2382) rfl rfl (Nat.le_of_ble_eq_true rfl) dX9_simple_58 ?_
        exact z_iret X dX9_simple_61 h
      · rw [if_neg q3] at h
        by_cases q4 : v1 = (4 : Int32)
        · rw [if_pos q4] at h
          refine z_tabIn (tgt := 62) X.1 dX9_simple_6 q4 (by decide) (by decide) rfl (by decide) ?_
          refine z_aload_n (i := 0) X.1 dX9_simple_62 1 rfl rfl ?_
          refine z_iload_n (i := 2) X.1 dX9_simple_63 0 rfl rfl ?_
          obtain ⟨r2384, s2385, hc2386, h⟩ := bd_inv h
          refine cl_X9_242 (d1 := 3) (b := zo κ.1 0) (As := [.int r2365]) (rest := []) X.1 (by decide) (C_X9_paired X.2.1 hc2386) rcX9 rfl rfl (Nat.le_of_ble_eq_true rfl) dX9_simple_64 ?_
          exact z_iret X dX9_simple_67 h
        · rw [if_neg q4] at h
          by_cases q5 : v1 = (5 : Int32)
          · rw [if_pos q5] at h
            refine z_tabIn (tgt := 68) X.1 dX9_simple_6 q5 (by decide) (by decide) rfl (by decide) ?_
            refine z_aload_n (i := 0) X.1 dX9_simple_68 1 rfl rfl ?_
            refine z_iload_n (i := 2) X.1 dX9_simple_69 0 rfl rfl ?_
            obtain ⟨r2388, s2389, hc2390, h⟩ := bd_inv h
            refine cl_X9_245 (d1 := 2) (b := zo κ.1 0) (As := [.int r2365]) (rest := []) X.1 (by decide) (C_X9_drawn X.2.1 hc2390) rcX9 rfl rfl (Nat.le_of_ble_eq_true rfl) dX9_simple_70 ?_
            exact z_iret X dX9_simple_73 h
          · rw [if_neg q5] at h
            by_cases q6 : v1 = (6 : Int32)
            · rw [if_pos q6] at h
              refine z_tabIn (tgt := 74) X.1 dX9_simple_6 q6 (by decide) (by decide) rfl (by decide) ?_
              refine z_aload_n (i := 0) X.1 dX9_simple_74 1 rfl rfl ?_
              refine z_iload_n (i := 2) X.1 dX9_simple_75 0 rfl rfl ?_
              refine z_iconst (v := (1 : Int32)) X.1 dX9_simple_76 (by decide) ?_
              obtain ⟨r2392, s2393, hc2394, h⟩ := bd_inv h
              refine cl_X9_248 (d1 := 24) (b := zo κ.1 0) (As := [.int r2365, .int (1 : Int32)]) (rest := []) X.1 (by decide) (C_X9_bestBy X.2.1 hc2394) rcX9 rfl rfl (Nat.le_of_ble_eq_true rfl) dX9_simple_77 ?_
              exact z_iret X dX9_simple_80 h
            · rw [if_neg q6] at h
              have t1 : v1.toInt ≠ 1 := tab_ne q1
              have t2 : v1.toInt ≠ 2 := tab_ne q2
              have t3 : v1.toInt ≠ 3 := tab_ne q3
              have t4 : v1.toInt ≠ 4 := tab_ne q4
              have t5 : v1.toInt ≠ 5 := tab_ne q5
              have t6 : v1.toInt ≠ 6 := tab_ne q6
              refine z_tabOut (tgt := 81) X.1 dX9_simple_6 (by omega) (by decide) ?_
              refine z_aload_n (i := 0) X.1 dX9_simple_81 1 rfl rfl ?_
              refine z_iload_n (i := 2) X.1 dX9_simple_82 0 rfl rfl ?_
              refine z_iconst (v := (0 : Int32)) X.1 dX9_simple_83 (by decide) ?_
              obtain ⟨r2395, s2396, hc2397, h⟩ := bd_inv h
              refine cl_X9_248 (d1 := 24) (b := zo κ.1 0) (As := [.int r2365, .int (0 : Int32)]) (rest := []) X.1 (by decide) (C_X9_bestBy X.2.1 hc2397) rcX9 rfl rfl (Nat.le_of_ble_eq_true rfl) dX9_simple_84 ?_
              exact z_iret X dX9_simple_87 h
theorem C_X9_simple {ζ : zW} (hZ : zDis ζ zM) {v1 : Int32} {σ σ' : S3} {r : Int32} (h : F_X9_simple v1 σ = some (r, σ')) : zMet ζ zM 26 yX9_simple cX9_simple 3 (some .int) [.ref (zo ζ 0), .int v1] σ (some (.int r)) σ' :=
  zMet_of pn_X9 hZ (Nat.le_of_ble_eq_true rfl) (fun κ e X => by subst e; exact B_X9_simple_0 X h)
noncomputable def Fb_X9_planned_4 (K4 : Int32 → Int32 → S3 → R3) (v2 : Int32) (v3 : Int32) (σ : S3) : R3 :=
  if v3 ≤ (0 : Int32) then (some (v2, σ))
  else (if v2 = (-1 : Int32) then (bd (F_X9_simple (v3 - v3 / (10 : Int32) * (10 : Int32)) σ) (fun r2400 s2401 => nm (v3 / (10 : Int32)) (fun x2403 => K4 r2400 x2403 s2401)))
  else (some (v2, σ)))
noncomputable def F_X9_planned_4 (n : Nat) : Int32 → Int32 → S3 → R3 := zl2 (Fb_X9_planned_4) n
set_option maxHeartbeats 4000000 in
set_option maxRecDepth 100000 in
theorem B_X9_planned_4 {κ : zT} {σ' : S3} {r : Int32} (X : zC κ zM RX9 cX9_planned 4 (some .int) 27 (some (.int r)) σ') : ∀ (n : Nat) (v2 : Int32) (v3 : Int32) (σ : S3), F_X9_planned_4 n v2 v3 σ = some (r, σ') → Z κ 4 (zM (ze κ.1) σ) [(0, .ref (zo κ.1 0)), (2, .int v2), (3, .int v3)] 4 [] := by
  intro n
  induction n with
  | zero =>
    intro v2 v3 σ h
    cases (show (none : R3) = some (r, σ') from h)
  | succ n ih =>
    intro v2 v3 σ h
    have hK4 := ih
    have h : Fb_X9_planned_4 (F_X9_planned_4 n) v2 v3 σ = some (r, σ') := h
    unfold Fb_X9_planned_4 at h
    refine z_iload_n (i := 3) X.1 dX9_planned_4 2 rfl rfl ?_
    refine z_if_le (tgt := 30) X.1 dX9_planned_5 (by decide) h (fun q2398 h => ?_) (fun q2398 h => ?_)
    · refine z_iload_n (i := 2) X.1 dX9_planned_30 1 rfl rfl ?_
      exact z_iret X dX9_planned_31 h
    · refine z_iload_n (i := 2) X.1 dX9_planned_8 1 rfl rfl ?_
      refine z_iconst (v := (-1 : Int32)) X.1 dX9_planned_9 (by decide) ?_
      refine z_icmp_ne (tgt := 30) X.1 dX9_planned_10 (by decide) h (fun q2399 h => ?_) (fun q2399 h => ?_)
      · refine z_iload_n (i := 2) X.1 dX9_planned_30 1 rfl rfl ?_
        exact z_iret X dX9_planned_31 h
      · refine z_aload_n (i := 0) X.1 dX9_planned_13 0 rfl rfl ?_
        refine z_iload_n (i := 3) X.1 dX9_planned_14 2 rfl rfl ?_
        refine z_bipush (v := (10 : Int32)) X.1 dX9_planned_15 (by decide) ?_
        refine z_irem X.1 dX9_planned_17 (by decide) ?_
        obtain ⟨r2400, s2401, hc2402, h⟩ := bd_inv h
        refine cl_X9_252 (d1 := 26) (b := zo κ.1 0) (As := [.int (v3 - v3 / (10 : Int32) * (10 : Int32))]) (rest := []) X.1 (by decide) (C_X9_simple X.2.1 hc2402) rcX9 rfl rfl (Nat.le_of_ble_eq_true rfl) dX9_planned_18 ?_
        refine z_istore_n (i := 2) (lv' := [(2, .int r2400), (0, .ref (zo κ.1 0)), (3, .int v3)]) X.1 dX9_planned_21 rfl (by decide) rfl ?_
        refine z_iload_n (i := 3) X.1 dX9_planned_22 2 rfl rfl ?_
        refine z_bipush (v := (10 : Int32)) X.1 dX9_planned_23 (by decide) ?_
        refine z_idiv X.1 dX9_planned_25 (by decide) ?_
        refine z_istore_nn (i := 3) (lv' := fun x2403 => [(3, .int x2403), (2, .int r2400), (0, .ref (zo κ.1 0))]) X.1 dX9_planned_26 rfl (by decide) (fun _ => rfl) h (fun x2403 h => ?_)
        refine z_goto (tgt := 4) X.1 dX9_planned_27 (by decide) ?_
        exact z_sub [2, 1, 0] rfl (hK4 _ _ _ h)
noncomputable def F_X9_planned (v1 : Int32) (σ : S3) : R3 :=
  F_X9_planned_4 zF (-1 : Int32) v1 σ
set_option maxHeartbeats 4000000 in
set_option maxRecDepth 100000 in
theorem B_X9_planned_0 {κ : zT} {σ' : S3} {r : Int32} (X : zC κ zM RX9 cX9_planned 4 (some .int) 27 (some (.int r)) σ') {v1 : Int32} {σ : S3} (h : F_X9_planned v1 σ = some (r, σ')) : Z κ 4 (zM (ze κ.1) σ) [(0, .ref (zo κ.1 0)), (1, .int v1)] 0 [] := by
  unfold F_X9_planned at h
  refine z_iconst (v := (-1 : Int32)) X.1 dX9_planned_0 (by decide) ?_
  refine z_istore_n (i := 2) (lv' := [(2, .int (-1 : Int32)), (0, .ref (zo κ.1 0)), (1, .int v1)]) X.1 dX9_planned_1 rfl (by decide) rfl ?_
  refine z_iload_n (i := 1) X.1 dX9_planned_2 2 rfl rfl ?_
  refine z_istore_n (i := 3) (lv' := [(3, .int v1), (2, .int (-1 : Int32)), (0, .ref (zo κ.1 0)), (1, .int v1)]) X.1 dX9_planned_3 rfl (by decide) rfl ?_
  exact z_sub [2, 1, 0] rfl (B_X9_planned_4 X zF _ _ _ h)
theorem C_X9_planned {ζ : zW} (hZ : zDis ζ zM) {v1 : Int32} {σ σ' : S3} {r : Int32} (h : F_X9_planned v1 σ = some (r, σ')) : zMet ζ zM 27 yX9_planned cX9_planned 4 (some .int) [.ref (zo ζ 0), .int v1] σ (some (.int r)) σ' :=
  zMet_of pn_X9 hZ (Nat.le_of_ble_eq_true rfl) (fun κ e X => by subst e; exact B_X9_planned_0 X h)
noncomputable def F_X9_tells (v1 : Int32) (σ : S3) : R3 :=
  bd (F_X9_isCode v1 σ) (fun r2404 s2405 => if r2404 = (0 : Int32) then (bd (F_X9_no (1 : Int32) s2405) (fun r2419 s2420 => some (r2419, s2420)))
  else (if (s2405 0 11 0) = (0 : Int32) then (bd (F_X9_no (3 : Int32) s2405) (fun r2416 s2417 => some (r2416, s2417)))
  else (bd (F_X9_planned v1 s2405) (fun r2409 s2410 => if r2409 = (-1 : Int32) then (bd (F_X9_no (2 : Int32) s2410) (fun r2413 s2414 => some (r2413, s2414)))
  else (some (r2409, s2410))))))
set_option maxHeartbeats 4000000 in
set_option maxRecDepth 100000 in
theorem B_X9_tells_0 {κ : zT} {σ' : S3} {r : Int32} (X : zC κ zM RX9 cX9_tells 3 (some .int) 28 (some (.int r)) σ') {v1 : Int32} {σ : S3} (h : F_X9_tells v1 σ = some (r, σ')) : Z κ 3 (zM (ze κ.1) σ) [(0, .ref (zo κ.1 0)), (1, .int v1)] 0 [] := by
  unfold F_X9_tells at h
  refine z_iload_n (i := 1) X.1 dX9_tells_0 1 rfl rfl ?_
  obtain ⟨r2404, s2405, hc2406, h⟩ := bd_inv h
  refine cl_X9_255 (d1 := 1) (As := [.int v1]) (rest := []) X.1 (by decide) (C_X9_isCode X.2.1 hc2406) rfl rfl (Nat.le_of_ble_eq_true rfl) dX9_tells_1 ?_
  refine z_if_ne (tgt := 13) X.1 dX9_tells_4 (by decide) h (fun q2407 h => ?_) (fun q2407 h => ?_)
  · refine z_aload_n (i := 0) X.1 dX9_tells_13 0 rfl rfl ?_
    refine g_X9_hasGame X.1 tw816 dX9_tells_14 ?_
    refine z_if_ne (tgt := 26) X.1 dX9_tells_17 (by decide) h (fun q2408 h => ?_) (fun q2408 h => ?_)
    · refine z_aload_n (i := 0) X.1 dX9_tells_26 0 rfl rfl ?_
      refine z_iload_n (i := 1) X.1 dX9_tells_27 1 rfl rfl ?_
      obtain ⟨r2409, s2410, hc2411, h⟩ := bd_inv h
      refine cl_X9_258 (d1 := 27) (b := zo κ.1 0) (As := [.int v1]) (rest := []) X.1 (by decide) (C_X9_planned X.2.1 hc2411) rcX9 rfl rfl (Nat.le_of_ble_eq_true rfl) dX9_tells_28 ?_
      refine z_istore_n (i := 2) (lv' := [(2, .int r2409), (0, .ref (zo κ.1 0)), (1, .int v1)]) X.1 dX9_tells_31 rfl (by decide) rfl ?_
      refine z_iload_n (i := 2) X.1 dX9_tells_32 0 rfl rfl ?_
      refine z_iconst (v := (-1 : Int32)) X.1 dX9_tells_33 (by decide) ?_
      refine z_icmp_ne (tgt := 45) X.1 dX9_tells_34 (by decide) h (fun q2412 h => ?_) (fun q2412 h => ?_)
      · refine z_iload_n (i := 2) X.1 dX9_tells_45 0 rfl rfl ?_
        exact z_iret X dX9_tells_46 h
      · refine z_aload_n (i := 0) X.1 dX9_tells_37 1 rfl rfl ?_
        refine z_iconst (v := (2 : Int32)) X.1 dX9_tells_38 (by decide) ?_
        obtain ⟨r2413, s2414, hc2415, h⟩ := bd_inv h
        refine cl_X9_79 (d1 := 0) (b := zo κ.1 0) (As := [.int (2 : Int32)]) (rest := []) X.1 (by decide) (C_X9_no X.2.1 hc2415) rcX9 rfl rfl (Nat.le_of_ble_eq_true rfl) dX9_tells_39 ?_
        refine z_goto (tgt := 46) X.1 dX9_tells_42 (by decide) ?_
        exact z_iret X dX9_tells_46 h
    · refine z_aload_n (i := 0) X.1 dX9_tells_20 0 rfl rfl ?_
      refine z_iconst (v := (3 : Int32)) X.1 dX9_tells_21 (by decide) ?_
      obtain ⟨r2416, s2417, hc2418, h⟩ := bd_inv h
      refine cl_X9_79 (d1 := 0) (b := zo κ.1 0) (As := [.int (3 : Int32)]) (rest := []) X.1 (by decide) (C_X9_no X.2.1 hc2418) rcX9 rfl rfl (Nat.le_of_ble_eq_true rfl) dX9_tells_22 ?_
      exact z_iret X dX9_tells_25 h
  · refine z_aload_n (i := 0) X.1 dX9_tells_7 0 rfl rfl ?_
    refine z_iconst (v := (1 : Int32)) X.1 dX9_tells_8 (by decide) ?_
    obtain ⟨r2419, s2420, hc2421, h⟩ := bd_inv h
    refine cl_X9_79 (d1 := 0) (b := zo κ.1 0) (As := [.int (1 : Int32)]) (rest := []) X.1 (by decide) (C_X9_no X.2.1 hc2421) rcX9 rfl rfl (Nat.le_of_ble_eq_true rfl) dX9_tells_9 ?_
    exact z_iret X dX9_tells_12 h
theorem C_X9_tells {ζ : zW} (hZ : zDis ζ zM) {v1 : Int32} {σ σ' : S3} {r : Int32} (h : F_X9_tells v1 σ = some (r, σ')) : zMet ζ zM 28 yX9_tells cX9_tells 3 (some .int) [.ref (zo ζ 0), .int v1] σ (some (.int r)) σ' :=
  zMet_of pn_X9 hZ (Nat.le_of_ble_eq_true rfl) (fun κ e X => by subst e; exact B_X9_tells_0 X h)
