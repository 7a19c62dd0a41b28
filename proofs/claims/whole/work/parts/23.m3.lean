noncomputable def F_X9_plays_29 (K3 : Int32 → S3 → R3) (v1 : Int32) (v2 : Int32) (v3 : Int32) (v4 : Int32) (s0 : Int32) (σ : S3) : R3 :=
  bd (F_X9_planned s0 σ) (fun r2431 s2432 => if r2431 = (-1 : Int32) then (bd (F_X9_movesNow s2432) (fun r2439 s2440 => bd (F_X9_least r2439 s2440) (fun r2442 s2443 => bd (F_X9_goes r2442 s2443) (fun r2445 s2446 => nm (v4 + (1 : Int32)) (fun x2448 => K3 x2448 s2446)))))
  else (bd (F_X9_goes r2431 s2432) (fun r2435 s2436 => nm (v4 + (1 : Int32)) (fun x2438 => K3 x2438 s2436))))
set_option maxHeartbeats 4000000 in
set_option maxRecDepth 100000 in
theorem B_X9_plays_29 {κ : zT} {σ' : S3} {r : Int32} (X : zC κ zM RX9 cX9_plays 6 (some .int) 28 (some (.int r)) σ') {K3 : Int32 → S3 → R3} {v1 : Int32} {v2 : Int32} {v3 : Int32} {v4 : Int32} {s0 : Int32} {σ : S3} (hK3 : ∀ (w4 : Int32) (s1 : S3), K3 w4 s1 = some (r, σ') → Z κ 6 (zM (ze κ.1) s1) [(0, .ref (zo κ.1 0)), (1, .int v1), (2, .int v2), (3, .int v3), (4, .int w4)] 3 []) (h : F_X9_plays_29 K3 v1 v2 v3 v4 s0 σ = some (r, σ')) : Z κ 6 (zM (ze κ.1) σ) [(0, .ref (zo κ.1 0)), (1, .int v1), (2, .int v2), (3, .int v3), (4, .int v4)] 29 [.int s0, .ref (zo κ.1 0)] := by
  unfold F_X9_plays_29 at h
  obtain ⟨r2431, s2432, hc2433, h⟩ := bd_inv h
  refine cl_X9_258 (d1 := 27) (b := zo κ.1 0) (As := [.int s0]) (rest := []) X.1 (by decide) (C_X9_planned X.2.1 hc2433) rcX9 rfl rfl (Nat.le_of_ble_eq_true rfl) dX9_plays_29 ?_
  refine z_istore (i := 5) (lv' := [(5, .int r2431), (0, .ref (zo κ.1 0)), (1, .int v1), (2, .int v2), (3, .int v3), (4, .int v4)]) X.1 dX9_plays_32 (by decide) rfl ?_
  refine z_aload_n (i := 0) X.1 dX9_plays_34 1 rfl rfl ?_
  refine z_iload X.1 dX9_plays_35 0 rfl ?_
  refine z_iconst (v := (-1 : Int32)) X.1 dX9_plays_37 (by decide) ?_
  refine z_icmp_ne (tgt := 51) X.1 dX9_plays_38 (by decide) h (fun q2434 h => ?_) (fun q2434 h => ?_)
  · refine z_iload X.1 dX9_plays_51 0 rfl ?_
    obtain ⟨r2435, s2436, hc2437, h⟩ := bd_inv h
    refine cl_X9_210 (d1 := 1) (b := zo κ.1 0) (r := 0) (As := [.int r2431]) (rest := []) X.1 (by decide) (C_X9_goes X.2.1 hc2437) rcX9 rfl rfl (Nat.le_of_ble_eq_true rfl) dX9_plays_53 ?_
    refine z_iinc_m (v := (1 : Int32)) (lv' := fun x2438 => [(4, .int x2438), (5, .int r2431), (0, .ref (zo κ.1 0)), (1, .int v1), (2, .int v2), (3, .int v3)]) X.1 dX9_plays_56 5 rfl (by decide) (by decide) (fun _ => rfl) h (fun x2438 h => ?_)
    refine z_goto (tgt := 3) X.1 dX9_plays_59 (by decide) ?_
    exact z_sub [2, 3, 4, 5, 0] rfl (hK3 _ _ h)
  · refine z_aload_n (i := 0) X.1 dX9_plays_41 1 rfl rfl ?_
    obtain ⟨r2439, s2440, hc2441, h⟩ := bd_inv h
    refine cl_X9_191 (d1 := 3) (b := zo κ.1 0) (As := []) (rest := [.ref (zo κ.1 0)]) X.1 (by decide) (C_X9_movesNow X.2.1 hc2441) rcX9 rfl rfl (Nat.le_of_ble_eq_true rfl) dX9_plays_42 ?_
    obtain ⟨r2442, s2443, hc2444, h⟩ := bd_inv h
    refine cl_X9_236 (d1 := 1) (As := [.int r2439]) (rest := [.ref (zo κ.1 0)]) X.1 (by decide) (C_X9_least X.2.1 hc2444) rfl rfl (Nat.le_of_ble_eq_true rfl) dX9_plays_45 ?_
    refine z_goto (tgt := 53) X.1 dX9_plays_48 (by decide) ?_
    obtain ⟨r2445, s2446, hc2447, h⟩ := bd_inv h
    refine cl_X9_210 (d1 := 1) (b := zo κ.1 0) (r := 0) (As := [.int r2442]) (rest := []) X.1 (by decide) (C_X9_goes X.2.1 hc2447) rcX9 rfl rfl (Nat.le_of_ble_eq_true rfl) dX9_plays_53 ?_
    refine z_iinc_m (v := (1 : Int32)) (lv' := fun x2448 => [(4, .int x2448), (5, .int r2431), (0, .ref (zo κ.1 0)), (1, .int v1), (2, .int v2), (3, .int v3)]) X.1 dX9_plays_56 5 rfl (by decide) (by decide) (fun _ => rfl) h (fun x2448 h => ?_)
    refine z_goto (tgt := 3) X.1 dX9_plays_59 (by decide) ?_
    exact z_sub [2, 3, 4, 5, 0] rfl (hK3 _ _ h)
noncomputable def Fb_X9_plays_3 (v1 : Int32) (v2 : Int32) (v3 : Int32) (K3 : Int32 → S3 → R3) (v4 : Int32) (σ : S3) : R3 :=
  if v3 ≤ v4 then (some (v4, σ))
  else (bd (F_X9_isOver σ) (fun r2423 s2424 => if r2423 = (0 : Int32) then (bd (F_X9_mover s2424) (fun r2427 s2428 => if r2427 = (0 : Int32) then (F_X9_plays_29 K3 v1 v2 v3 v4 v1 s2428)
  else (F_X9_plays_29 K3 v1 v2 v3 v4 v2 s2428)))
  else (some (v4, s2424))))
noncomputable def F_X9_plays_3 (v1 : Int32) (v2 : Int32) (v3 : Int32) (n : Nat) : Int32 → S3 → R3 := zl1 (Fb_X9_plays_3 v1 v2 v3) n
set_option maxHeartbeats 4000000 in
set_option maxRecDepth 100000 in
theorem B_X9_plays_3 {κ : zT} {σ' : S3} {r : Int32} (X : zC κ zM RX9 cX9_plays 6 (some .int) 28 (some (.int r)) σ') {v1 : Int32} {v2 : Int32} {v3 : Int32} : ∀ (n : Nat) (v4 : Int32) (σ : S3), F_X9_plays_3 v1 v2 v3 n v4 σ = some (r, σ') → Z κ 6 (zM (ze κ.1) σ) [(0, .ref (zo κ.1 0)), (1, .int v1), (2, .int v2), (3, .int v3), (4, .int v4)] 3 [] := by
  intro n
  induction n with
  | zero =>
    intro v4 σ h
    cases (show (none : R3) = some (r, σ') from h)
  | succ n ih =>
    intro v4 σ h
    have hK3 := ih
    have h : Fb_X9_plays_3 v1 v2 v3 (F_X9_plays_3 v1 v2 v3 n) v4 σ = some (r, σ') := h
    unfold Fb_X9_plays_3 at h
    refine z_iload X.1 dX9_plays_3 4 rfl ?_
    refine z_iload_n (i := 3) X.1 dX9_plays_5 3 rfl rfl ?_
    refine z_icmp_ge (tgt := 62) X.1 dX9_plays_6 (by decide) h (fun q2422 h => ?_) (fun q2422 h => ?_)
    · refine z_iload X.1 dX9_plays_62 4 rfl ?_
      exact z_iret X dX9_plays_64 h
    · refine z_aload_n (i := 0) X.1 dX9_plays_9 0 rfl rfl ?_
      obtain ⟨r2423, s2424, hc2425, h⟩ := bd_inv h
      refine cl_X9_207 (d1 := 4) (b := zo κ.1 0) (As := []) (rest := []) X.1 (by decide) (C_X9_isOver X.2.1 hc2425) rcX9 rfl rfl (Nat.le_of_ble_eq_true rfl) dX9_plays_10 ?_
      refine z_if_ne (tgt := 62) X.1 dX9_plays_13 (by decide) h (fun q2426 h => ?_) (fun q2426 h => ?_)
      · refine z_iload X.1 dX9_plays_62 4 rfl ?_
        exact z_iret X dX9_plays_64 h
      · refine z_aload_n (i := 0) X.1 dX9_plays_16 0 rfl rfl ?_
        refine z_aload_n (i := 0) X.1 dX9_plays_17 0 rfl rfl ?_
        obtain ⟨r2427, s2428, hc2429, h⟩ := bd_inv h
        refine cl_X9_217 (d1 := 0) (b := zo κ.1 0) (As := []) (rest := [.ref (zo κ.1 0)]) X.1 (by decide) (C_X9_mover X.2.1 hc2429) rcX9 rfl rfl (Nat.le_of_ble_eq_true rfl) dX9_plays_18 ?_
        refine z_if_ne (tgt := 28) X.1 dX9_plays_21 (by decide) h (fun q2430 h => ?_) (fun q2430 h => ?_)
        · refine z_iload_n (i := 2) X.1 dX9_plays_28 2 rfl rfl ?_
          exact z_sub [0, 1, 2, 3, 4] rfl (B_X9_plays_29 X hK3 h)
        · refine z_iload_n (i := 1) X.1 dX9_plays_24 1 rfl rfl ?_
          refine z_goto (tgt := 29) X.1 dX9_plays_25 (by decide) ?_
          exact z_sub [0, 1, 2, 3, 4] rfl (B_X9_plays_29 X hK3 h)
noncomputable def F_X9_plays (v1 : Int32) (v2 : Int32) (v3 : Int32) (σ : S3) : R3 :=
  F_X9_plays_3 v1 v2 v3 zF (0 : Int32) σ
set_option maxHeartbeats 4000000 in
set_option maxRecDepth 100000 in
theorem B_X9_plays_0 {κ : zT} {σ' : S3} {r : Int32} (X : zC κ zM RX9 cX9_plays 6 (some .int) 28 (some (.int r)) σ') {v1 : Int32} {v2 : Int32} {v3 : Int32} {σ : S3} (h : F_X9_plays v1 v2 v3 σ = some (r, σ')) : Z κ 6 (zM (ze κ.1) σ) [(0, .ref (zo κ.1 0)), (1, .int v1), (2, .int v2), (3, .int v3)] 0 [] := by
  unfold F_X9_plays at h
  refine z_iconst (v := (0 : Int32)) X.1 dX9_plays_0 (by decide) ?_
  refine z_istore (i := 4) (lv' := [(4, .int (0 : Int32)), (0, .ref (zo κ.1 0)), (1, .int v1), (2, .int v2), (3, .int v3)]) X.1 dX9_plays_1 (by decide) rfl ?_
  exact z_sub [1, 2, 3, 4, 0] rfl (B_X9_plays_3 X zF _ _ h)
theorem C_X9_plays {ζ : zW} (hZ : zDis ζ zM) {v1 : Int32} {v2 : Int32} {v3 : Int32} {σ σ' : S3} {r : Int32} (h : F_X9_plays v1 v2 v3 σ = some (r, σ')) : zMet ζ zM 28 yX9_plays cX9_plays 6 (some .int) [.ref (zo ζ 0), .int v1, .int v2, .int v3] σ (some (.int r)) σ' :=
  zMet_of pn_X9 hZ (Nat.le_of_ble_eq_true rfl) (fun κ e X => by subst e; exact B_X9_plays_0 X h)
noncomputable def F_X9_play (v1 : Int32) (v2 : Int32) (v3 : Int32) (σ : S3) : R3 :=
  bd (F_X9_isCode v1 σ) (fun r2449 s2450 => if r2449 = (0 : Int32) then (bd (F_X9_no (1 : Int32) s2450) (fun r2453 s2454 => some (r2453, s2454)))
  else (bd (F_X9_isCode v2 s2450) (fun r2456 s2457 => if r2456 = (0 : Int32) then (bd (F_X9_no (1 : Int32) s2457) (fun r2460 s2461 => some (r2460, s2461)))
  else (bd (F_X9_in v3 (1 : Int32) (20 : Int32) s2457) (fun r2463 s2464 => if r2463 = (0 : Int32) then (bd (F_X9_no (1 : Int32) s2464) (fun r2474 s2475 => some (r2474, s2475)))
  else (if (s2464 0 11 0) = (0 : Int32) then (bd (F_X9_no (3 : Int32) s2464) (fun r2468 s2469 => some (r2468, s2469)))
  else (bd (F_X9_plays v1 v2 v3 s2464) (fun r2471 s2472 => some (r2471, s2472)))))))))
set_option maxHeartbeats 4000000 in
set_option maxRecDepth 100000 in
theorem B_X9_play_0 {κ : zT} {σ' : S3} {r : Int32} (X : zC κ zM RX9 cX9_play 4 (some .int) 29 (some (.int r)) σ') {v1 : Int32} {v2 : Int32} {v3 : Int32} {σ : S3} (h : F_X9_play v1 v2 v3 σ = some (r, σ')) : Z κ 4 (zM (ze κ.1) σ) [(0, .ref (zo κ.1 0)), (1, .int v1), (2, .int v2), (3, .int v3)] 0 [] := by
  unfold F_X9_play at h
  refine z_iload_n (i := 1) X.1 dX9_play_0 1 rfl rfl ?_
  obtain ⟨r2449, s2450, hc2451, h⟩ := bd_inv h
  refine cl_X9_255 (d1 := 1) (As := [.int v1]) (rest := []) X.1 (by decide) (C_X9_isCode X.2.1 hc2451) rfl rfl (Nat.le_of_ble_eq_true rfl) dX9_play_1 ?_
  refine z_if_eq (tgt := 24) X.1 dX9_play_4 (by decide) h (fun q2452 h => ?_) (fun q2452 h => ?_)
  · refine z_aload_n (i := 0) X.1 dX9_play_24 0 rfl rfl ?_
    refine z_iconst (v := (1 : Int32)) X.1 dX9_play_25 (by decide) ?_
    obtain ⟨r2453, s2454, hc2455, h⟩ := bd_inv h
    refine cl_X9_79 (d1 := 0) (b := zo κ.1 0) (As := [.int (1 : Int32)]) (rest := []) X.1 (by decide) (C_X9_no X.2.1 hc2455) rcX9 rfl rfl (Nat.le_of_ble_eq_true rfl) dX9_play_26 ?_
    exact z_iret X dX9_play_29 h
  · refine z_iload_n (i := 2) X.1 dX9_play_7 2 rfl rfl ?_
    obtain ⟨r2456, s2457, hc2458, h⟩ := bd_inv h
    refine cl_X9_255 (d1 := 1) (As := [.int v2]) (rest := []) X.1 (by decide) (C_X9_isCode X.2.1 hc2458) rfl rfl (Nat.le_of_ble_eq_true rfl) dX9_play_8 ?_
    refine z_if_eq (tgt := 24) X.1 dX9_play_11 (by decide) h (fun q2459 h => ?_) (fun q2459 h => ?_)
    · refine z_aload_n (i := 0) X.1 dX9_play_24 0 rfl rfl ?_
      refine z_iconst (v := (1 : Int32)) X.1 dX9_play_25 (by decide) ?_
      obtain ⟨r2460, s2461, hc2462, h⟩ := bd_inv h
      refine cl_X9_79 (d1 := 0) (b := zo κ.1 0) (As := [.int (1 : Int32)]) (rest := []) X.1 (by decide) (C_X9_no X.2.1 hc2462) rcX9 rfl rfl (Nat.le_of_ble_eq_true rfl) dX9_play_26 ?_
      exact z_iret X dX9_play_29 h
    · refine z_iload_n (i := 3) X.1 dX9_play_14 3 rfl rfl ?_
      refine z_iconst (v := (1 : Int32)) X.1 dX9_play_15 (by decide) ?_
      refine z_bipush (v := (20 : Int32)) X.1 dX9_play_16 (by decide) ?_
      obtain ⟨r2463, s2464, hc2465, h⟩ := bd_inv h
      refine cl_X9_68 (d1 := 0) (As := [.int v3, .int (1 : Int32), .int (20 : Int32)]) (rest := []) X.1 (by decide) (C_X9_in X.2.1 hc2465) rfl rfl (Nat.le_of_ble_eq_true rfl) dX9_play_18 ?_
      refine z_if_ne (tgt := 30) X.1 dX9_play_21 (by decide) h (fun q2466 h => ?_) (fun q2466 h => ?_)
      · refine z_aload_n (i := 0) X.1 dX9_play_30 0 rfl rfl ?_
        refine g_X9_hasGame X.1 tw816 dX9_play_31 ?_
        refine z_if_eq (tgt := 47) X.1 dX9_play_34 (by decide) h (fun q2467 h => ?_) (fun q2467 h => ?_)
        · refine z_aload_n (i := 0) X.1 dX9_play_47 0 rfl rfl ?_
          refine z_iconst (v := (3 : Int32)) X.1 dX9_play_48 (by decide) ?_
          obtain ⟨r2468, s2469, hc2470, h⟩ := bd_inv h
          refine cl_X9_79 (d1 := 0) (b := zo κ.1 0) (As := [.int (3 : Int32)]) (rest := []) X.1 (by decide) (C_X9_no X.2.1 hc2470) rcX9 rfl rfl (Nat.le_of_ble_eq_true rfl) dX9_play_49 ?_
          exact z_iret X dX9_play_52 h
        · refine z_aload_n (i := 0) X.1 dX9_play_37 0 rfl rfl ?_
          refine z_iload_n (i := 1) X.1 dX9_play_38 1 rfl rfl ?_
          refine z_iload_n (i := 2) X.1 dX9_play_39 2 rfl rfl ?_
          refine z_iload_n (i := 3) X.1 dX9_play_40 3 rfl rfl ?_
          obtain ⟨r2471, s2472, hc2473, h⟩ := bd_inv h
          refine cl_X9_261 (d1 := 28) (b := zo κ.1 0) (As := [.int v1, .int v2, .int v3]) (rest := []) X.1 (by decide) (C_X9_plays X.2.1 hc2473) rcX9 rfl rfl (Nat.le_of_ble_eq_true rfl) dX9_play_41 ?_
          refine z_goto (tgt := 52) X.1 dX9_play_44 (by decide) ?_
          exact z_iret X dX9_play_52 h
      · refine z_aload_n (i := 0) X.1 dX9_play_24 0 rfl rfl ?_
        refine z_iconst (v := (1 : Int32)) X.1 dX9_play_25 (by decide) ?_
        obtain ⟨r2474, s2475, hc2476, h⟩ := bd_inv h
        refine cl_X9_79 (d1 := 0) (b := zo κ.1 0) (As := [.int (1 : Int32)]) (rest := []) X.1 (by decide) (C_X9_no X.2.1 hc2476) rcX9 rfl rfl (Nat.le_of_ble_eq_true rfl) dX9_play_26 ?_
        exact z_iret X dX9_play_29 h
theorem C_X9_play {ζ : zW} (hZ : zDis ζ zM) {v1 : Int32} {v2 : Int32} {v3 : Int32} {σ σ' : S3} {r : Int32} (h : F_X9_play v1 v2 v3 σ = some (r, σ')) : zMet ζ zM 29 yX9_play cX9_play 4 (some .int) [.ref (zo ζ 0), .int v1, .int v2, .int v3] σ (some (.int r)) σ' :=
  zMet_of pn_X9 hZ (Nat.le_of_ble_eq_true rfl) (fun κ e X => by subst e; exact B_X9_play_0 X h)
noncomputable def Fb_X9_fight_70 (v3 : Int32) (v4 : Int32) (v5 : Int32) (v6 : Int32) (v7 : Int32) (K70 : S3 → R3) (σ : S3) : R3 :=
  if (σ 0 19 0) ≤ v4 then (nm (up σ 0 17 0 v5) (fun s2505 => if v3 = (0 : Int32) then (some (v7, s2505))
  else (some (v6, s2505))))
  else (bd (F_X9_goesBack σ) (fun r2507 s2508 => K70  s2508))
noncomputable def F_X9_fight_70 (v3 : Int32) (v4 : Int32) (v5 : Int32) (v6 : Int32) (v7 : Int32) (n : Nat) : S3 → R3 := zl0 (Fb_X9_fight_70 v3 v4 v5 v6 v7) n
set_option maxHeartbeats 4000000 in
set_option maxRecDepth 100000 in
theorem B_X9_fight_70 {κ : zT} {σ' : S3} {r : Int32} (X : zC κ zM RX9 cX9_fight 8 (some .int) 29 (some (.int r)) σ') {v3 : Int32} {v4 : Int32} {v5 : Int32} {v6 : Int32} {v7 : Int32} : ∀ (n : Nat)  (σ : S3), F_X9_fight_70 v3 v4 v5 v6 v7 n  σ = some (r, σ') → Z κ 8 (zM (ze κ.1) σ) [(0, .ref (zo κ.1 0)), (3, .int v3), (4, .int v4), (5, .int v5), (6, .int v6), (7, .int v7)] 70 [] := by
  intro n
  induction n with
  | zero =>
    intro  σ h
    cases (show (none : R3) = some (r, σ') from h)
  | succ n ih =>
    intro  σ h
    have hK70 := ih
    have h : Fb_X9_fight_70 v3 v4 v5 v6 v7 (F_X9_fight_70 v3 v4 v5 v6 v7 n)  σ = some (r, σ') := h
    unfold Fb_X9_fight_70 at h
    refine z_aload_n (i := 0) X.1 dX9_fight_70 0 rfl rfl ?_
    refine g_X9_many X.1 tw824 dX9_fight_71 ?_
    refine z_iload X.1 dX9_fight_74 2 rfl ?_
    refine z_icmp_le (tgt := 86) X.1 dX9_fight_76 (by decide) h (fun q2504 h => ?_) (fun q2504 h => ?_)
    · refine z_aload_n (i := 0) X.1 dX9_fight_86 0 rfl rfl ?_
      refine z_iload X.1 dX9_fight_87 3 rfl ?_
      refine p_X9_z X.1 X.2.1 tw822 dX9_fight_89 h (fun s2505 h => ?_)
      refine z_iload_n (i := 3) X.1 dX9_fight_92 1 rfl rfl ?_
      refine z_if_ne (tgt := 101) X.1 dX9_fight_93 (by decide) h (fun q2506 h => ?_) (fun q2506 h => ?_)
      · refine z_iload X.1 dX9_fight_101 4 rfl ?_
        exact z_iret X dX9_fight_103 h
      · refine z_iload X.1 dX9_fight_96 5 rfl ?_
        refine z_goto (tgt := 103) X.1 dX9_fight_98 (by decide) ?_
        exact z_iret X dX9_fight_103 h
    · refine z_aload_n (i := 0) X.1 dX9_fight_79 0 rfl rfl ?_
      obtain ⟨r2507, s2508, hc2509, h⟩ := bd_inv h
      refine cl_X9_214 (d1 := 2) (b := zo κ.1 0) (r := 0) (As := []) (rest := []) X.1 (by decide) (C_X9_goesBack X.2.1 hc2509) rcX9 rfl rfl (Nat.le_of_ble_eq_true rfl) dX9_fight_80 ?_
      refine z_goto (tgt := 70) X.1 dX9_fight_83 (by decide) ?_
      exact z_sub [0, 1, 2, 3, 4, 5] rfl (hK70  _ h)
noncomputable def F_X9_fight (v1 : Int32) (v2 : Int32) (v3 : Int32) (σ : S3) : R3 :=
  bd (F_X9_isCode v1 σ) (fun r2477 s2478 => if r2477 = (0 : Int32) then (bd (F_X9_no (1 : Int32) s2478) (fun r2481 s2482 => some (r2481, s2482)))
  else (bd (F_X9_isCode v2 s2478) (fun r2484 s2485 => if r2484 = (0 : Int32) then (bd (F_X9_no (1 : Int32) s2485) (fun r2488 s2489 => some (r2488, s2489)))
  else (bd (F_X9_in v3 (0 : Int32) (1 : Int32) s2485) (fun r2491 s2492 => if r2491 = (0 : Int32) then (bd (F_X9_no (1 : Int32) s2492) (fun r2513 s2514 => some (r2513, s2514)))
  else (if (s2492 0 11 0) = (0 : Int32) then (bd (F_X9_no (3 : Int32) s2492) (fun r2510 s2511 => some (r2510, s2511)))
  else (nm (s2492 0 19 0) (fun x2496 => nm (s2492 0 17 0) (fun x2497 => bd (F_X9_plays v1 v2 (13 : Int32) s2492) (fun r2498 s2499 => bd (F_X9_winner s2499) (fun r2501 s2502 => F_X9_fight_70 v3 x2496 x2497 r2498 r2501 zF s2502)))))))))))
set_option maxHeartbeats 4000000 in
set_option maxRecDepth 100000 in
theorem B_X9_fight_0 {κ : zT} {σ' : S3} {r : Int32} (X : zC κ zM RX9 cX9_fight 8 (some .int) 29 (some (.int r)) σ') {v1 : Int32} {v2 : Int32} {v3 : Int32} {σ : S3} (h : F_X9_fight v1 v2 v3 σ = some (r, σ')) : Z κ 8 (zM (ze κ.1) σ) [(0, .ref (zo κ.1 0)), (1, .int v1), (2, .int v2), (3, .int v3)] 0 [] := by
  unfold F_X9_fight at h
  refine z_iload_n (i := 1) X.1 dX9_fight_0 1 rfl rfl ?_
  obtain ⟨r2477, s2478, hc2479, h⟩ := bd_inv h
  refine cl_X9_255 (d1 := 1) (As := [.int v1]) (rest := []) X.1 (by decide) (C_X9_isCode X.2.1 hc2479) rfl rfl (Nat.le_of_ble_eq_true rfl) dX9_fight_1 ?_
  refine z_if_eq (tgt := 23) X.1 dX9_fight_4 (by decide) h (fun q2480 h => ?_) (fun q2480 h => ?_)
  · refine z_aload_n (i := 0) X.1 dX9_fight_23 0 rfl rfl ?_
    refine z_iconst (v := (1 : Int32)) X.1 dX9_fight_24 (by decide) ?_
    obtain ⟨r2481, s2482, hc2483, h⟩ := bd_inv h
    refine cl_X9_79 (d1 := 0) (b := zo κ.1 0) (As := [.int (1 : Int32)]) (rest := []) X.1 (by decide) (C_X9_no X.2.1 hc2483) rcX9 rfl rfl (Nat.le_of_ble_eq_true rfl) dX9_fight_25 ?_
    exact z_iret X dX9_fight_28 h
  · refine z_iload_n (i := 2) X.1 dX9_fight_7 2 rfl rfl ?_
    obtain ⟨r2484, s2485, hc2486, h⟩ := bd_inv h
    refine cl_X9_255 (d1 := 1) (As := [.int v2]) (rest := []) X.1 (by decide) (C_X9_isCode X.2.1 hc2486) rfl rfl (Nat.le_of_ble_eq_true rfl) dX9_fight_8 ?_
    refine z_if_eq (tgt := 23) X.1 dX9_fight_11 (by decide) h (fun q2487 h => ?_) (fun q2487 h => ?_)
    · refine z_aload_n (i := 0) X.1 dX9_fight_23 0 rfl rfl ?_
      refine z_iconst (v := (1 : Int32)) X.1 dX9_fight_24 (by decide) ?_
      obtain ⟨r2488, s2489, hc2490, h⟩ := bd_inv h
      refine cl_X9_79 (d1 := 0) (b := zo κ.1 0) (As := [.int (1 : Int32)]) (rest := []) X.1 (by decide) (C_X9_no X.2.1 hc2490) rcX9 rfl rfl (Nat.le_of_ble_eq_true rfl) dX9_fight_25 ?_
      exact z_iret X dX9_fight_28 h
    · refine z_iload_n (i := 3) X.1 dX9_fight_14 3 rfl rfl ?_
      refine z_iconst (v := (0 : Int32)) X.1 dX9_fight_15 (by decide) ?_
      refine z_iconst (v := (1 : Int32)) X.1 dX9_fight_16 (by decide) ?_
      obtain ⟨r2491, s2492, hc2493, h⟩ := bd_inv h
      refine cl_X9_68 (d1 := 0) (As := [.int v3, .int (0 : Int32), .int (1 : Int32)]) (rest := []) X.1 (by decide) (C_X9_in X.2.1 hc2493) rfl rfl (Nat.le_of_ble_eq_true rfl) dX9_fight_17 ?_
      refine z_if_ne (tgt := 29) X.1 dX9_fight_20 (by decide) h (fun q2494 h => ?_) (fun q2494 h => ?_)
      · refine z_aload_n (i := 0) X.1 dX9_fight_29 0 rfl rfl ?_
        refine g_X9_hasGame X.1 tw816 dX9_fight_30 ?_
        refine z_if_ne (tgt := 42) X.1 dX9_fight_33 (by decide) h (fun q2495 h => ?_) (fun q2495 h => ?_)
        · refine z_aload_n (i := 0) X.1 dX9_fight_42 0 rfl rfl ?_
          refine g_X9_many X.1 tw824 dX9_fight_43 ?_
          refine z_istore_m (i := 4) (lv' := fun x2496 => [(4, .int x2496), (0, .ref (zo κ.1 0)), (1, .int v1), (2, .int v2), (3, .int v3)]) X.1 dX9_fight_46 (by decide) (fun _ => rfl) h (fun x2496 h => ?_)
          refine z_aload_n (i := 0) X.1 dX9_fight_48 1 rfl rfl ?_
          refine g_X9_z X.1 tw822 dX9_fight_49 ?_
          refine z_istore_m (i := 5) (lv' := fun x2497 => [(5, .int x2497), (4, .int x2496), (0, .ref (zo κ.1 0)), (1, .int v1), (2, .int v2), (3, .int v3)]) X.1 dX9_fight_52 (by decide) (fun _ => rfl) h (fun x2497 h => ?_)
          refine z_aload_n (i := 0) X.1 dX9_fight_54 2 rfl rfl ?_
          refine z_iload_n (i := 1) X.1 dX9_fight_55 3 rfl rfl ?_
          refine z_iload_n (i := 2) X.1 dX9_fight_56 4 rfl rfl ?_
          refine z_bipush (v := (13 : Int32)) X.1 dX9_fight_57 (by decide) ?_
          obtain ⟨r2498, s2499, hc2500, h⟩ := bd_inv h
          refine cl_X9_261 (d1 := 28) (b := zo κ.1 0) (As := [.int v1, .int v2, .int (13 : Int32)]) (rest := []) X.1 (by decide) (C_X9_plays X.2.1 hc2500) rcX9 rfl rfl (Nat.le_of_ble_eq_true rfl) dX9_fight_59 ?_
          refine z_istore (i := 6) (lv' := [(6, .int r2498), (5, .int x2497), (4, .int x2496), (0, .ref (zo κ.1 0)), (1, .int v1), (2, .int v2), (3, .int v3)]) X.1 dX9_fight_62 (by decide) rfl ?_
          refine z_aload_n (i := 0) X.1 dX9_fight_64 3 rfl rfl ?_
          obtain ⟨r2501, s2502, hc2503, h⟩ := bd_inv h
          refine cl_X9_220 (d1 := 24) (b := zo κ.1 0) (As := []) (rest := []) X.1 (by decide) (C_X9_winner X.2.1 hc2503) rcX9 rfl rfl (Nat.le_of_ble_eq_true rfl) dX9_fight_65 ?_
          refine z_istore (i := 7) (lv' := [(7, .int r2501), (6, .int r2498), (5, .int x2497), (4, .int x2496), (0, .ref (zo κ.1 0)), (1, .int v1), (2, .int v2), (3, .int v3)]) X.1 dX9_fight_68 (by decide) rfl ?_
          exact z_sub [4, 7, 3, 2, 1, 0] rfl (B_X9_fight_70 X zF  _ h)
        · refine z_aload_n (i := 0) X.1 dX9_fight_36 0 rfl rfl ?_
          refine z_iconst (v := (3 : Int32)) X.1 dX9_fight_37 (by decide) ?_
          obtain ⟨r2510, s2511, hc2512, h⟩ := bd_inv h
          refine cl_X9_79 (d1 := 0) (b := zo κ.1 0) (As := [.int (3 : Int32)]) (rest := []) X.1 (by decide) (C_X9_no X.2.1 hc2512) rcX9 rfl rfl (Nat.le_of_ble_eq_true rfl) dX9_fight_38 ?_
          exact z_iret X dX9_fight_41 h
      · refine z_aload_n (i := 0) X.1 dX9_fight_23 0 rfl rfl ?_
        refine z_iconst (v := (1 : Int32)) X.1 dX9_fight_24 (by decide) ?_
        obtain ⟨r2513, s2514, hc2515, h⟩ := bd_inv h
        refine cl_X9_79 (d1 := 0) (b := zo κ.1 0) (As := [.int (1 : Int32)]) (rest := []) X.1 (by decide) (C_X9_no X.2.1 hc2515) rcX9 rfl rfl (Nat.le_of_ble_eq_true rfl) dX9_fight_25 ?_
        exact z_iret X dX9_fight_28 h
theorem C_X9_fight {ζ : zW} (hZ : zDis ζ zM) {v1 : Int32} {v2 : Int32} {v3 : Int32} {σ σ' : S3} {r : Int32} (h : F_X9_fight v1 v2 v3 σ = some (r, σ')) : zMet ζ zM 29 yX9_fight cX9_fight 8 (some .int) [.ref (zo ζ 0), .int v1, .int v2, .int v3] σ (some (.int r)) σ' :=
  zMet_of pn_X9 hZ (Nat.le_of_ble_eq_true rfl) (fun κ e X => by subst e; exact B_X9_fight_0 X h)
noncomputable def Fb_X9_grows_84 (Rc : Int32 → Int32 → Int32 → Int32 → Int32 → S3 → R3) (v1 : Int32) (v2 : Int32) (v3 : Int32) (v5 : Int32) (v6 : Int32) (K84 : Int32 → S3 → R3) (v7 : Int32) (σ : S3) : R3 :=
  if (σ 0 2 0) ≤ v7 then (some ((0 : Int32), σ))
  else (bd (F_X9_has v6 v7 σ) (fun r2527 s2528 => if r2527 = (0 : Int32) then (nm (v7 + (1 : Int32)) (fun x2550 => K84 x2550 s2528))
  else (bd (F_X9_otherOf v7 v1 s2528) (fun r2531 s2532 => bd (F_X9_setBehind v7 v1 v2 s2532) (fun r2534 s2535 => if v3 = (0 : Int32) then (bd (Rc r2531 r2534 (1 : Int32) v7 (v5 + (1 : Int32)) s2535) (fun r2546 s2547 => nm (v7 + (1 : Int32)) (fun x2549 => K84 x2549 s2547)))
  else (bd (F_X9_winsAt r2531 r2534 s2535) (fun r2538 s2539 => if r2538 = (0 : Int32) then (bd (Rc r2531 r2534 (0 : Int32) v7 (v5 + (1 : Int32)) s2539) (fun r2543 s2544 => some ((0 : Int32), s2544)))
  else (nm (v7 + (1 : Int32)) (fun x2542 => K84 x2542 s2539)))))))))
noncomputable def F_X9_grows_84 (Rc : Int32 → Int32 → Int32 → Int32 → Int32 → S3 → R3) (v1 : Int32) (v2 : Int32) (v3 : Int32) (v5 : Int32) (v6 : Int32) (n : Nat) : Int32 → S3 → R3 := zl1 (Fb_X9_grows_84 Rc v1 v2 v3 v5 v6) n
set_option maxHeartbeats 4000000 in
set_option maxRecDepth 100000 in
theorem B_X9_grows_84 {κ : zT} {σ' : S3} {r : Int32} {d d0 : Nat} (X : zC κ zM RX9 cX9_grows 10 none d none σ') {Rc : Int32 → Int32 → Int32 → Int32 → Int32 → S3 → R3} (hR : ∀ (a1 a2 a3 a4 a5 : Int32) (s1 s2 : S3) (r1 : Int32), Rc a1 a2 a3 a4 a5 s1 = some (r1, s2) → zMet κ.1 zM d0 yX9_grows cX9_grows 10 none [.ref (zo κ.1 0), .int a1, .int a2, .int a3, .int a4, .int a5] s1 none s2) (hd : d0 + 1 ≤ d) (hb : 24 ≤ d) {v1 : Int32} {v2 : Int32} {v3 : Int32} {v5 : Int32} {v6 : Int32} : ∀ (n : Nat) (v7 : Int32) (σ : S3), F_X9_grows_84 Rc v1 v2 v3 v5 v6 n v7 σ = some (r, σ') → Z κ 10 (zM (ze κ.1) σ) [(0, .ref (zo κ.1 0)), (1, .int v1), (2, .int v2), (3, .int v3), (5, .int v5), (6, .int v6), (7, .int v7)] 84 [] := by
  intro n
  induction n with
  | zero =>
    intro v7 σ h
    cases (show (none : R3) = some (r, σ') from h)
  | succ n ih =>
    intro v7 σ h
    have hK84 := ih
    have h : Fb_X9_grows_84 Rc v1 v2 v3 v5 v6 (F_X9_grows_84 Rc v1 v2 v3 v5 v6 n) v7 σ = some (r, σ') := h
    unfold Fb_X9_grows_84 at h
    refine z_iload X.1 dX9_grows_84 6 rfl ?_
    refine z_aload_n (i := 0) X.1 dX9_grows_86 0 rfl rfl ?_
    refine g_X9_lines X.1 tw807 dX9_grows_87 ?_
    refine z_icmp_ge (tgt := 180) X.1 dX9_grows_90 (by decide) h (fun q2526 h => ?_) (fun q2526 h => ?_)
    · exact z_vret X dX9_grows_180 h
    · refine z_iload X.1 dX9_grows_93 5 rfl ?_
      refine z_iload X.1 dX9_grows_95 6 rfl ?_
      obtain ⟨r2527, s2528, hc2529, h⟩ := bd_inv h
      refine cl_X9_114 (d1 := 0) (As := [.int v6, .int v7]) (rest := []) X.1 (Nat.le_trans (by decide) hb) (C_X9_has X.2.1 hc2529) rfl rfl (Nat.le_of_ble_eq_true rfl) dX9_grows_97 ?_
      refine z_if_ne (tgt := 106) X.1 dX9_grows_100 (by decide) h (fun q2530 h => ?_) (fun q2530 h => ?_)
      · refine z_aload_n (i := 0) X.1 dX9_grows_106 0 rfl rfl ?_
        refine z_iload X.1 dX9_grows_107 6 rfl ?_
        refine z_iload_n (i := 1) X.1 dX9_grows_109 1 rfl rfl ?_
        obtain ⟨r2531, s2532, hc2533, h⟩ := bd_inv h
        refine cl_X9_101 (d1 := 0) (b := zo κ.1 0) (As := [.int v7, .int v1]) (rest := []) X.1 (Nat.le_trans (by decide) hb) (C_X9_otherOf X.2.1 hc2533) rcX9 rfl rfl (Nat.le_of_ble_eq_true rfl) dX9_grows_110 ?_
        refine z_istore (i := 8) (lv' := [(8, .int r2531), (0, .ref (zo κ.1 0)), (1, .int v1), (2, .int v2), (3, .int v3), (5, .int v5), (6, .int v6), (7, .int v7)]) X.1 dX9_grows_113 (by decide) rfl ?_
        refine z_aload_n (i := 0) X.1 dX9_grows_115 1 rfl rfl ?_
        refine z_iload X.1 dX9_grows_116 7 rfl ?_
        refine z_iload_n (i := 1) X.1 dX9_grows_118 2 rfl rfl ?_
        refine z_iload_n (i := 2) X.1 dX9_grows_119 3 rfl rfl ?_
        obtain ⟨r2534, s2535, hc2536, h⟩ := bd_inv h
        refine cl_X9_163 (d1 := 1) (b := zo κ.1 0) (As := [.int v7, .int v1, .int v2]) (rest := []) X.1 (Nat.le_trans (by decide) hb) (C_X9_setBehind X.2.1 hc2536) rcX9 rfl rfl (Nat.le_of_ble_eq_true rfl) dX9_grows_120 ?_
        refine z_istore (i := 9) (lv' := [(9, .int r2534), (8, .int r2531), (0, .ref (zo κ.1 0)), (1, .int v1), (2, .int v2), (3, .int v3), (5, .int v5), (6, .int v6), (7, .int v7)]) X.1 dX9_grows_123 (by decide) rfl ?_
        refine z_iload_n (i := 3) X.1 dX9_grows_125 5 rfl rfl ?_
        refine z_if_ne (tgt := 147) X.1 dX9_grows_126 (by decide) h (fun q2537 h => ?_) (fun q2537 h => ?_)
        · refine z_aload_n (i := 0) X.1 dX9_grows_147 2 rfl rfl ?_
          refine z_iload X.1 dX9_grows_148 1 rfl ?_
          refine z_iload X.1 dX9_grows_150 0 rfl ?_
          obtain ⟨r2538, s2539, hc2540, h⟩ := bd_inv h
          refine cl_X9_194 (d1 := 23) (b := zo κ.1 0) (As := [.int r2531, .int r2534]) (rest := []) X.1 (Nat.le_trans (by decide) hb) (C_X9_winsAt X.2.1 hc2540) rcX9 rfl rfl (Nat.le_of_ble_eq_true rfl) dX9_grows_152 ?_
          refine z_if_ne (tgt := 174) X.1 dX9_grows_155 (by decide) h (fun q2541 h => ?_) (fun q2541 h => ?_)
          · refine z_iinc_m (v := (1 : Int32)) (lv' := fun x2542 => [(7, .int x2542), (9, .int r2534), (8, .int r2531), (0, .ref (zo κ.1 0)), (1, .int v1), (2, .int v2), (3, .int v3), (5, .int v5), (6, .int v6)]) X.1 dX9_grows_174 8 rfl (by decide) (by decide) (fun _ => rfl) h (fun x2542 h => ?_)
            refine z_goto (tgt := 84) X.1 dX9_grows_177 (by decide) ?_
            exact z_sub [3, 4, 5, 6, 7, 8, 0] rfl (hK84 _ _ h)
          · refine z_aload_n (i := 0) X.1 dX9_grows_158 2 rfl rfl ?_
            refine z_iload X.1 dX9_grows_159 1 rfl ?_
            refine z_iload X.1 dX9_grows_161 0 rfl ?_
            refine z_iconst (v := (0 : Int32)) X.1 dX9_grows_163 (by decide) ?_
            refine z_iload X.1 dX9_grows_164 8 rfl ?_
            refine z_iload X.1 dX9_grows_166 6 rfl ?_
            refine z_iconst (v := (1 : Int32)) X.1 dX9_grows_168 (by decide) ?_
            refine z_iadd X.1 dX9_grows_169 ?_
            obtain ⟨r2543, s2544, hc2545, h⟩ := bd_inv h
            refine cl_X9_273 (d1 := d0) (b := zo κ.1 0) (r := 0) (As := [.int r2531, .int r2534, .int (0 : Int32), .int v7, .int (v5 + (1 : Int32))]) (rest := []) X.1 hd (hR _ _ _ _ _ _ _ _ hc2545) rcX9 rfl rfl (Nat.le_of_ble_eq_true rfl) dX9_grows_170 ?_
            exact z_vret X dX9_grows_173 h
        · refine z_aload_n (i := 0) X.1 dX9_grows_129 2 rfl rfl ?_
          refine z_iload X.1 dX9_grows_130 1 rfl ?_
          refine z_iload X.1 dX9_grows_132 0 rfl ?_
          refine z_iconst (v := (1 : Int32)) X.1 dX9_grows_134 (by decide) ?_
          refine z_iload X.1 dX9_grows_135 8 rfl ?_
          refine z_iload X.1 dX9_grows_137 6 rfl ?_
          refine z_iconst (v := (1 : Int32)) X.1 dX9_grows_139 (by decide) ?_
          refine z_iadd X.1 dX9_grows_140 ?_
          obtain ⟨r2546, s2547, hc2548, h⟩ := bd_inv h
          refine cl_X9_273 (d1 := d0) (b := zo κ.1 0) (r := 0) (As := [.int r2531, .int r2534, .int (1 : Int32), .int v7, .int (v5 + (1 : Int32))]) (rest := []) X.1 hd (hR _ _ _ _ _ _ _ _ hc2548) rcX9 rfl rfl (Nat.le_of_ble_eq_true rfl) dX9_grows_141 ?_
          refine z_goto (tgt := 174) X.1 dX9_grows_144 (by decide) ?_
          refine z_iinc_m (v := (1 : Int32)) (lv' := fun x2549 => [(7, .int x2549), (9, .int r2534), (8, .int r2531), (0, .ref (zo κ.1 0)), (1, .int v1), (2, .int v2), (3, .int v3), (5, .int v5), (6, .int v6)]) X.1 dX9_grows_174 8 rfl (by decide) (by decide) (fun _ => rfl) h (fun x2549 h => ?_)
          refine z_goto (tgt := 84) X.1 dX9_grows_177 (by decide) ?_
          exact z_sub [3, 4, 5, 6, 7, 8, 0] rfl (hK84 _ _ h)
      · refine z_goto (tgt := 174) X.1 dX9_grows_103 (by decide) ?_
        refine z_iinc_m (v := (1 : Int32)) (lv' := fun x2550 => [(7, .int x2550), (0, .ref (zo κ.1 0)), (1, .int v1), (2, .int v2), (3, .int v3), (5, .int v5), (6, .int v6)]) X.1 dX9_grows_174 6 rfl (by decide) (by decide) (fun _ => rfl) h (fun x2550 h => ?_)
        refine z_goto (tgt := 84) X.1 dX9_grows_177 (by decide) ?_
        exact z_sub [1, 2, 3, 4, 5, 6, 0] rfl (hK84 _ _ h)
noncomputable def F_X9_grows_51 (Rc : Int32 → Int32 → Int32 → Int32 → Int32 → S3 → R3) (v1 : Int32) (v2 : Int32) (v3 : Int32) (v5 : Int32) (s0 : Int32) (σ : S3) : R3 :=
  nm (up σ 0 26 0 s0) (fun s2520 => bd (F_X9_movesAt v1 v2 s2520) (fun r2521 s2522 => if r2521 = (0 : Int32) then (nm (up s2522 0 25 0 ((s2522 0 25 0) + (1 : Int32))) (fun s2551 => F_X9_grows_84 Rc v1 v2 v3 v5 r2521 zF (0 : Int32) s2551))
  else (nm (up s2522 0 25 0 ((s2522 0 25 0) + (0 : Int32))) (fun s2525 => F_X9_grows_84 Rc v1 v2 v3 v5 r2521 zF (0 : Int32) s2525))))
set_option maxHeartbeats 4000000 in
set_option maxRecDepth 100000 in
theorem B_X9_grows_51 {κ : zT} {σ' : S3} {r : Int32} {d d0 : Nat} (X : zC κ zM RX9 cX9_grows 10 none d none σ') {Rc : Int32 → Int32 → Int32 → Int32 → Int32 → S3 → R3} (hR : ∀ (a1 a2 a3 a4 a5 : Int32) (s1 s2 : S3) (r1 : Int32), Rc a1 a2 a3 a4 a5 s1 = some (r1, s2) → zMet κ.1 zM d0 yX9_grows cX9_grows 10 none [.ref (zo κ.1 0), .int a1, .int a2, .int a3, .int a4, .int a5] s1 none s2) (hd : d0 + 1 ≤ d) (hb : 24 ≤ d) {v1 : Int32} {v2 : Int32} {v3 : Int32} {v5 : Int32} {s0 : Int32} {σ : S3} (h : F_X9_grows_51 Rc v1 v2 v3 v5 s0 σ = some (r, σ')) : Z κ 10 (zM (ze κ.1) σ) [(0, .ref (zo κ.1 0)), (1, .int v1), (2, .int v2), (3, .int v3), (5, .int v5)] 51 [.int s0, .ref (zo κ.1 0)] := by
  unfold F_X9_grows_51 at h
  refine p_X9_depth X.1 X.2.1 tw831 dX9_grows_51 h (fun s2520 h => ?_)
  refine z_aload_n (i := 0) X.1 dX9_grows_54 0 rfl rfl ?_
  refine z_iload_n (i := 1) X.1 dX9_grows_55 1 rfl rfl ?_
  refine z_iload_n (i := 2) X.1 dX9_grows_56 2 rfl rfl ?_
  obtain ⟨r2521, s2522, hc2523, h⟩ := bd_inv h
  refine cl_X9_188 (d1 := 2) (b := zo κ.1 0) (As := [.int v1, .int v2]) (rest := []) X.1 (Nat.le_trans (by decide) hb) (C_X9_movesAt X.2.1 hc2523) rcX9 rfl rfl (Nat.le_of_ble_eq_true rfl) dX9_grows_57 ?_
  refine z_istore (i := 6) (lv' := [(6, .int r2521), (0, .ref (zo κ.1 0)), (1, .int v1), (2, .int v2), (3, .int v3), (5, .int v5)]) X.1 dX9_grows_60 (by decide) rfl ?_
  refine z_aload_n (i := 0) X.1 dX9_grows_62 1 rfl rfl ?_
  refine z_dup X.1 dX9_grows_63 rfl ?_
  refine g_X9_leaves X.1 tw830 dX9_grows_64 ?_
  refine z_iload X.1 dX9_grows_67 0 rfl ?_
  refine z_if_ne (tgt := 76) X.1 dX9_grows_69 (by decide) h (fun q2524 h => ?_) (fun q2524 h => ?_)
  · refine z_iconst (v := (0 : Int32)) X.1 dX9_grows_76 (by decide) ?_
    refine z_iadd X.1 dX9_grows_77 ?_
    refine p_X9_leaves X.1 X.2.1 tw830 dX9_grows_78 h (fun s2525 h => ?_)
    refine z_iconst (v := (0 : Int32)) X.1 dX9_grows_81 (by decide) ?_
    refine z_istore (i := 7) (lv' := [(7, .int (0 : Int32)), (6, .int r2521), (0, .ref (zo κ.1 0)), (1, .int v1), (2, .int v2), (3, .int v3), (5, .int v5)]) X.1 dX9_grows_82 (by decide) rfl ?_
    exact z_sub [2, 3, 4, 5, 6, 1, 0] rfl (B_X9_grows_84 X hR hd hb zF _ _ h)
  · refine z_iconst (v := (1 : Int32)) X.1 dX9_grows_72 (by decide) ?_
    refine z_goto (tgt := 77) X.1 dX9_grows_73 (by decide) ?_
    refine z_iadd X.1 dX9_grows_77 ?_
    refine p_X9_leaves X.1 X.2.1 tw830 dX9_grows_78 h (fun s2551 h => ?_)
    refine z_iconst (v := (0 : Int32)) X.1 dX9_grows_81 (by decide) ?_
    refine z_istore (i := 7) (lv' := [(7, .int (0 : Int32)), (6, .int r2521), (0, .ref (zo κ.1 0)), (1, .int v1), (2, .int v2), (3, .int v3), (5, .int v5)]) X.1 dX9_grows_82 (by decide) rfl ?_
    exact z_sub [2, 3, 4, 5, 6, 1, 0] rfl (B_X9_grows_84 X hR hd hb zF _ _ h)
noncomputable def F_X9_grows_0 (Rc : Int32 → Int32 → Int32 → Int32 → Int32 → S3 → R3) (v1 : Int32) (v2 : Int32) (v3 : Int32) (v4 : Int32) (v5 : Int32) (σ : S3) : R3 :=
  if (σ 0 24 0) ≤ (300 : Int32) then (ck (σ 0 24 0) 301 (nm (up σ 0 27 (ix (σ 0 24 0)) v4) (fun s2517 => nm (up s2517 0 24 0 ((s2517 0 24 0) + (1 : Int32))) (fun s2518 => if v5 ≤ (s2518 0 26 0) then (F_X9_grows_51 Rc v1 v2 v3 v5 (s2518 0 26 0) s2518)
  else (F_X9_grows_51 Rc v1 v2 v3 v5 v5 s2518)))))
  else (some ((0 : Int32), σ))
set_option maxHeartbeats 4000000 in
set_option maxRecDepth 100000 in
theorem B_X9_grows_0 {κ : zT} {σ' : S3} {r : Int32} {d d0 : Nat} (X : zC κ zM RX9 cX9_grows 10 none d none σ') {Rc : Int32 → Int32 → Int32 → Int32 → Int32 → S3 → R3} (hR : ∀ (a1 a2 a3 a4 a5 : Int32) (s1 s2 : S3) (r1 : Int32), Rc a1 a2 a3 a4 a5 s1 = some (r1, s2) → zMet κ.1 zM d0 yX9_grows cX9_grows 10 none [.ref (zo κ.1 0), .int a1, .int a2, .int a3, .int a4, .int a5] s1 none s2) (hd : d0 + 1 ≤ d) (hb : 24 ≤ d) {v1 : Int32} {v2 : Int32} {v3 : Int32} {v4 : Int32} {v5 : Int32} {σ : S3} (h : F_X9_grows_0 Rc v1 v2 v3 v4 v5 σ = some (r, σ')) : Z κ 10 (zM (ze κ.1) σ) [(0, .ref (zo κ.1 0)), (1, .int v1), (2, .int v2), (3, .int v3), (4, .int v4), (5, .int v5)] 0 [] := by
  unfold F_X9_grows_0 at h
  refine z_aload_n (i := 0) X.1 dX9_grows_0 0 rfl rfl ?_
  refine g_X9_nodes X.1 tw829 dX9_grows_1 ?_
  refine z_sipush (v := (300 : Int32)) X.1 dX9_grows_4 (by decide) ?_
  refine z_icmp_le (tgt := 11) X.1 dX9_grows_7 (by decide) h (fun q2516 h => ?_) (fun q2516 h => ?_)
  · refine z_aload_n (i := 0) X.1 dX9_grows_11 0 rfl rfl ?_
    refine g_X9_lineTo X.1 tw832 dX9_grows_12 ?_
    refine z_aload_n (i := 0) X.1 dX9_grows_15 0 rfl rfl ?_
    refine g_X9_nodes X.1 tw829 dX9_grows_16 ?_
    refine z_iload X.1 dX9_grows_19 4 rfl ?_
    refine as_X9_lineTo X.1 X.2.1 dX9_grows_21 h (fun s2517 h => ?_)
    refine z_aload_n (i := 0) X.1 dX9_grows_22 0 rfl rfl ?_
    refine z_dup X.1 dX9_grows_23 rfl ?_
    refine g_X9_nodes X.1 tw829 dX9_grows_24 ?_
    refine z_iconst (v := (1 : Int32)) X.1 dX9_grows_27 (by decide) ?_
    refine z_iadd X.1 dX9_grows_28 ?_
    refine p_X9_nodes X.1 X.2.1 tw829 dX9_grows_29 h (fun s2518 h => ?_)
    refine z_aload_n (i := 0) X.1 dX9_grows_32 0 rfl rfl ?_
    refine z_iload X.1 dX9_grows_33 5 rfl ?_
    refine z_aload_n (i := 0) X.1 dX9_grows_35 0 rfl rfl ?_
    refine g_X9_depth X.1 tw831 dX9_grows_36 ?_
    refine z_icmp_le (tgt := 47) X.1 dX9_grows_39 (by decide) h (fun q2519 h => ?_) (fun q2519 h => ?_)
    · refine z_aload_n (i := 0) X.1 dX9_grows_47 0 rfl rfl ?_
      refine g_X9_depth X.1 tw831 dX9_grows_48 ?_
      exact z_sub [0, 1, 2, 3, 5] rfl (B_X9_grows_51 X hR hd hb h)
    · refine z_iload X.1 dX9_grows_42 5 rfl ?_
      refine z_goto (tgt := 51) X.1 dX9_grows_44 (by decide) ?_
      exact z_sub [0, 1, 2, 3, 5] rfl (B_X9_grows_51 X hR hd hb h)
  · exact z_vret X dX9_grows_10 h
noncomputable def F_X9_grows (k : Nat) : Int32 → Int32 → Int32 → Int32 → Int32 → S3 → R3 := zl5 (F_X9_grows_0) k
theorem Ck_X9_grows {ζ : zW} (hZ : zDis ζ zM) : ∀ (k : Nat) (v1 : Int32) (v2 : Int32) (v3 : Int32) (v4 : Int32) (v5 : Int32) (σ σ' : S3) (r : Int32), F_X9_grows k v1 v2 v3 v4 v5 σ = some (r, σ') → zMet ζ zM (24 + k) yX9_grows cX9_grows 10 none [.ref (zo ζ 0), .int v1, .int v2, .int v3, .int v4, .int v5] σ none σ' := by
  intro k
  induction k with
  | zero =>
    intro v1 v2 v3 v4 v5 σ σ' r h
    cases (show (none : R3) = some (r, σ') from h)
  | succ k ih =>
    intro v1 v2 v3 v4 v5 σ σ' r h
    have h : F_X9_grows_0 (F_X9_grows k) v1 v2 v3 v4 v5 σ = some (r, σ') := h
    exact zMet_of pn_X9 hZ (Nat.le_of_ble_eq_true rfl) (fun κ e X => by subst e; exact B_X9_grows_0 X ih (Nat.le_refl _) (by omega) h)
theorem C_X9_grows {ζ : zW} (hZ : zDis ζ zM) {v1 : Int32} {v2 : Int32} {v3 : Int32} {v4 : Int32} {v5 : Int32} {σ σ' : S3} {r : Int32} (h : F_X9_grows 20 v1 v2 v3 v4 v5 σ = some (r, σ')) : zMet ζ zM 44 yX9_grows cX9_grows 10 none [.ref (zo ζ 0), .int v1, .int v2, .int v3, .int v4, .int v5] σ none σ' := Ck_X9_grows hZ 20 _ _ _ _ _ _ _ _ h
noncomputable def F_X9_isGrown (σ : S3) : R3 :=
  nm (up σ 0 24 0 (0 : Int32)) (fun s2552 => nm (up s2552 0 25 0 (0 : Int32)) (fun s2553 => nm (up s2553 0 26 0 (0 : Int32)) (fun s2554 => bd (F_X9_setNow s2554) (fun r2555 s2556 => bd (F_X9_setNow s2556) (fun r2558 s2559 => bd (F_X9_winsAt (s2556 0 14 0) r2558 s2559) (fun r2561 s2562 => bd (F_X9_grows 20 (s2554 0 14 0) r2555 r2561 (-1 : Int32) (0 : Int32) s2562) (fun r2564 s2565 => if (300 : Int32) < (s2565 0 24 0) then (some ((0 : Int32), s2565))
  else (some ((1 : Int32), s2565)))))))))
set_option maxHeartbeats 4000000 in
set_option maxRecDepth 100000 in
theorem B_X9_isGrown_0 {κ : zT} {σ' : S3} {r : Int32} (X : zC κ zM RX9 cX9_isGrown 1 (some .boolean) 45 (some (.int r)) σ') {σ : S3} (h : F_X9_isGrown σ = some (r, σ')) : Z κ 1 (zM (ze κ.1) σ) [(0, .ref (zo κ.1 0))] 0 [] := by
  unfold F_X9_isGrown at h
  refine z_aload_n (i := 0) X.1 dX9_isGrown_0 0 rfl rfl ?_
  refine z_iconst (v := (0 : Int32)) X.1 dX9_isGrown_1 (by decide) ?_
  refine p_X9_nodes X.1 X.2.1 tw829 dX9_isGrown_2 h (fun s2552 h => ?_)
  refine z_aload_n (i := 0) X.1 dX9_isGrown_5 0 rfl rfl ?_
  refine z_iconst (v := (0 : Int32)) X.1 dX9_isGrown_6 (by decide) ?_
  refine p_X9_leaves X.1 X.2.1 tw830 dX9_isGrown_7 h (fun s2553 h => ?_)
  refine z_aload_n (i := 0) X.1 dX9_isGrown_10 0 rfl rfl ?_
  refine z_iconst (v := (0 : Int32)) X.1 dX9_isGrown_11 (by decide) ?_
  refine p_X9_depth X.1 X.2.1 tw831 dX9_isGrown_12 h (fun s2554 h => ?_)
  refine z_aload_n (i := 0) X.1 dX9_isGrown_15 0 rfl rfl ?_
  refine z_aload_n (i := 0) X.1 dX9_isGrown_16 0 rfl rfl ?_
  refine g_X9_marker X.1 tw819 dX9_isGrown_17 ?_
  refine z_aload_n (i := 0) X.1 dX9_isGrown_20 0 rfl rfl ?_
  obtain ⟨r2555, s2556, hc2557, h⟩ := bd_inv h
  refine cl_X9_185 (d1 := 1) (b := zo κ.1 0) (As := []) (rest := [.int (s2554 0 14 0), .ref (zo κ.1 0)]) X.1 (by decide) (C_X9_setNow X.2.1 hc2557) rcX9 rfl rfl (Nat.le_of_ble_eq_true rfl) dX9_isGrown_21 ?_
  refine z_aload_n (i := 0) X.1 dX9_isGrown_24 0 rfl rfl ?_
  refine z_aload_n (i := 0) X.1 dX9_isGrown_25 0 rfl rfl ?_
  refine g_X9_marker X.1 tw819 dX9_isGrown_26 ?_
  refine z_aload_n (i := 0) X.1 dX9_isGrown_29 0 rfl rfl ?_
  obtain ⟨r2558, s2559, hc2560, h⟩ := bd_inv h
  refine cl_X9_185 (d1 := 1) (b := zo κ.1 0) (As := []) (rest := [.int (s2556 0 14 0), .ref (zo κ.1 0), .int r2555, .int (s2554 0 14 0), .ref (zo κ.1 0)]) X.1 (by decide) (C_X9_setNow X.2.1 hc2560) rcX9 rfl rfl (Nat.le_of_ble_eq_true rfl) dX9_isGrown_30 ?_
  obtain ⟨r2561, s2562, hc2563, h⟩ := bd_inv h
  refine cl_X9_194 (d1 := 23) (b := zo κ.1 0) (As := [.int (s2556 0 14 0), .int r2558]) (rest := [.int r2555, .int (s2554 0 14 0), .ref (zo κ.1 0)]) X.1 (by decide) (C_X9_winsAt X.2.1 hc2563) rcX9 rfl rfl (Nat.le_of_ble_eq_true rfl) dX9_isGrown_33 ?_
  refine z_iconst (v := (-1 : Int32)) X.1 dX9_isGrown_36 (by decide) ?_
  refine z_iconst (v := (0 : Int32)) X.1 dX9_isGrown_37 (by decide) ?_
  obtain ⟨r2564, s2565, hc2566, h⟩ := bd_inv h
  refine cl_X9_273 (d1 := 44) (b := zo κ.1 0) (r := 0) (As := [.int (s2554 0 14 0), .int r2555, .int r2561, .int (-1 : Int32), .int (0 : Int32)]) (rest := []) X.1 (by decide) (C_X9_grows X.2.1 hc2566) rcX9 rfl rfl (Nat.le_of_ble_eq_true rfl) dX9_isGrown_38 ?_
  refine z_aload_n (i := 0) X.1 dX9_isGrown_41 0 rfl rfl ?_
  refine g_X9_nodes X.1 tw829 dX9_isGrown_42 ?_
  refine z_sipush (v := (300 : Int32)) X.1 dX9_isGrown_45 (by decide) ?_
  refine z_icmp_gt (tgt := 55) X.1 dX9_isGrown_48 (by decide) h (fun q2567 h => ?_) (fun q2567 h => ?_)
  · refine z_iconst (v := (0 : Int32)) X.1 dX9_isGrown_55 (by decide) ?_
    exact z_zret X dX9_isGrown_56 (Or.inl rfl) h
  · refine z_iconst (v := (1 : Int32)) X.1 dX9_isGrown_51 (by decide) ?_
    refine z_goto (tgt := 56) X.1 dX9_isGrown_52 (by decide) ?_
    exact z_zret X dX9_isGrown_56 (Or.inr rfl) h
theorem C_X9_isGrown {ζ : zW} (hZ : zDis ζ zM) {σ σ' : S3} {r : Int32} (h : F_X9_isGrown  σ = some (r, σ')) : zMet ζ zM 45 yX9_isGrown cX9_isGrown 1 (some .boolean) [.ref (zo ζ 0)] σ (some (.int r)) σ' :=
  zMet_of pn_X9 hZ (Nat.le_of_ble_eq_true rfl) (fun κ e X => by subst e; exact B_X9_isGrown_0 X h)
noncomputable def F_X9_tree (v1 : Int32) (σ : S3) : R3 :=
  bd (F_X9_in v1 (0 : Int32) (2 : Int32) σ) (fun r2568 s2569 => if r2568 = (0 : Int32) then (bd (F_X9_no (1 : Int32) s2569) (fun r2585 s2586 => some (r2585, s2586)))
  else (if (s2569 0 11 0) = (0 : Int32) then (bd (F_X9_no (3 : Int32) s2569) (fun r2582 s2583 => some (r2582, s2583)))
  else (bd (F_X9_isGrown s2569) (fun r2573 s2574 => if r2573 = (0 : Int32) then (bd (F_X9_no (4 : Int32) s2574) (fun r2579 s2580 => some (r2579, s2580)))
  else (if v1 = (0 : Int32) then (some (s2574 0 24 0, s2574))
  else (if v1 = (1 : Int32) then (some (s2574 0 25 0, s2574))
  else (some (s2574 0 26 0, s2574))))))))
set_option maxHeartbeats 4000000 in
set_option maxRecDepth 100000 in
theorem B_X9_tree_0 {κ : zT} {σ' : S3} {r : Int32} (X : zC κ zM RX9 cX9_tree 2 (some .int) 46 (some (.int r)) σ') {v1 : Int32} {σ : S3} (h : F_X9_tree v1 σ = some (r, σ')) : Z κ 2 (zM (ze κ.1) σ) [(0, .ref (zo κ.1 0)), (1, .int v1)] 0 [] := by
  unfold F_X9_tree at h
  refine z_iload_n (i := 1) X.1 dX9_tree_0 1 rfl rfl ?_
  refine z_iconst (v := (0 : Int32)) X.1 dX9_tree_1 (by decide) ?_
  refine z_iconst (v := (2 : Int32)) X.1 dX9_tree_2 (by decide) ?_
  obtain ⟨r2568, s2569, hc2570, h⟩ := bd_inv h
  refine cl_X9_68 (d1 := 0) (As := [.int v1, .int (0 : Int32), .int (2 : Int32)]) (rest := []) X.1 (by decide) (C_X9_in X.2.1 hc2570) rfl rfl (Nat.le_of_ble_eq_true rfl) dX9_tree_3 ?_
  refine z_if_ne (tgt := 15) X.1 dX9_tree_6 (by decide) h (fun q2571 h => ?_) (fun q2571 h => ?_)
  · refine z_aload_n (i := 0) X.1 dX9_tree_15 0 rfl rfl ?_
    refine g_X9_hasGame X.1 tw816 dX9_tree_16 ?_
    refine z_if_ne (tgt := 28) X.1 dX9_tree_19 (by decide) h (fun q2572 h => ?_) (fun q2572 h => ?_)
    · refine z_aload_n (i := 0) X.1 dX9_tree_28 0 rfl rfl ?_
      obtain ⟨r2573, s2574, hc2575, h⟩ := bd_inv h
      refine cl_X9_277 (d1 := 45) (b := zo κ.1 0) (As := []) (rest := []) X.1 (by decide) (C_X9_isGrown X.2.1 hc2575) rcX9 rfl rfl (Nat.le_of_ble_eq_true rfl) dX9_tree_29 ?_
      refine z_if_ne (tgt := 41) X.1 dX9_tree_32 (by decide) h (fun q2576 h => ?_) (fun q2576 h => ?_)
      · refine z_iload_n (i := 1) X.1 dX9_tree_41 1 rfl rfl ?_
        refine z_if_ne (tgt := 52) X.1 dX9_tree_42 (by decide) h (fun q2577 h => ?_) (fun q2577 h => ?_)
        · refine z_iload_n (i := 1) X.1 dX9_tree_52 1 rfl rfl ?_
          refine z_iconst (v := (1 : Int32)) X.1 dX9_tree_53 (by decide) ?_
          refine z_icmp_ne (tgt := 64) X.1 dX9_tree_54 (by decide) h (fun q2578 h => ?_) (fun q2578 h => ?_)
          · refine z_aload_n (i := 0) X.1 dX9_tree_64 0 rfl rfl ?_
            refine g_X9_depth X.1 tw831 dX9_tree_65 ?_
            exact z_iret X dX9_tree_68 h
          · refine z_aload_n (i := 0) X.1 dX9_tree_57 0 rfl rfl ?_
            refine g_X9_leaves X.1 tw830 dX9_tree_58 ?_
            refine z_goto (tgt := 68) X.1 dX9_tree_61 (by decide) ?_
            exact z_iret X dX9_tree_68 h
        · refine z_aload_n (i := 0) X.1 dX9_tree_45 0 rfl rfl ?_
          refine g_X9_nodes X.1 tw829 dX9_tree_46 ?_
          refine z_goto (tgt := 68) X.1 dX9_tree_49 (by decide) ?_
          exact z_iret X dX9_tree_68 h
      · refine z_aload_n (i := 0) X.1 dX9_tree_35 0 rfl rfl ?_
        refine z_iconst (v := (4 : Int32)) X.1 dX9_tree_36 (by decide) ?_
        obtain ⟨r2579, s2580, hc2581, h⟩ := bd_inv h
        refine cl_X9_79 (d1 := 0) (b := zo κ.1 0) (As := [.int (4 : Int32)]) (rest := []) X.1 (by decide) (C_X9_no X.2.1 hc2581) rcX9 rfl rfl (Nat.le_of_ble_eq_true rfl) dX9_tree_37 ?_
        exact z_iret X dX9_tree_40 h
    · refine z_aload_n (i := 0) X.1 dX9_tree_22 0 rfl rfl ?_
      refine z_iconst (v := (3 : Int32)) X.1 dX9_tree_23 (by decide) ?_
      obtain ⟨r2582, s2583, hc2584, h⟩ := bd_inv h
      refine cl_X9_79 (d1 := 0) (b := zo κ.1 0) (As := [.int (3 : Int32)]) (rest := []) X.1 (by decide) (C_X9_no X.2.1 hc2584) rcX9 rfl rfl (Nat.le_of_ble_eq_true rfl) dX9_tree_24 ?_
      exact z_iret X dX9_tree_27 h
  · refine z_aload_n (i := 0) X.1 dX9_tree_9 0 rfl rfl ?_
    refine z_iconst (v := (1 : Int32)) X.1 dX9_tree_10 (by decide) ?_
    obtain ⟨r2585, s2586, hc2587, h⟩ := bd_inv h
    refine cl_X9_79 (d1 := 0) (b := zo κ.1 0) (As := [.int (1 : Int32)]) (rest := []) X.1 (by decide) (C_X9_no X.2.1 hc2587) rcX9 rfl rfl (Nat.le_of_ble_eq_true rfl) dX9_tree_11 ?_
    exact z_iret X dX9_tree_14 h
theorem C_X9_tree {ζ : zW} (hZ : zDis ζ zM) {v1 : Int32} {σ σ' : S3} {r : Int32} (h : F_X9_tree v1 σ = some (r, σ')) : zMet ζ zM 46 yX9_tree cX9_tree 2 (some .int) [.ref (zo ζ 0), .int v1] σ (some (.int r)) σ' :=
  zMet_of pn_X9 hZ (Nat.le_of_ble_eq_true rfl) (fun κ e X => by subst e; exact B_X9_tree_0 X h)
noncomputable def F_X9_node (v1 : Int32) (σ : S3) : R3 :=
  if (σ 0 11 0) = (0 : Int32) then (bd (F_X9_no (3 : Int32) σ) (fun r2603 s2604 => some (r2603, s2604)))
  else (bd (F_X9_isGrown σ) (fun r2589 s2590 => if r2589 = (0 : Int32) then (bd (F_X9_no (4 : Int32) s2590) (fun r2600 s2601 => some (r2600, s2601)))
  else (bd (F_X9_in v1 (1 : Int32) ((s2590 0 24 0) - (1 : Int32)) s2590) (fun r2593 s2594 => if r2593 = (0 : Int32) then (bd (F_X9_no (2 : Int32) s2594) (fun r2597 s2598 => some (r2597, s2598)))
  else (ck v1 301 (some (s2594 0 27 (ix v1), s2594)))))))
set_option maxHeartbeats 4000000 in
set_option maxRecDepth 100000 in
theorem B_X9_node_0 {κ : zT} {σ' : S3} {r : Int32} (X : zC κ zM RX9 cX9_node 2 (some .int) 46 (some (.int r)) σ') {v1 : Int32} {σ : S3} (h : F_X9_node v1 σ = some (r, σ')) : Z κ 2 (zM (ze κ.1) σ) [(0, .ref (zo κ.1 0)), (1, .int v1)] 0 [] := by
  unfold F_X9_node at h
  refine z_aload_n (i := 0) X.1 dX9_node_0 0 rfl rfl ?_
  refine g_X9_hasGame X.1 tw816 dX9_node_1 ?_
  refine z_if_ne (tgt := 13) X.1 dX9_node_4 (by decide) h (fun q2588 h => ?_) (fun q2588 h => ?_)
  · refine z_aload_n (i := 0) X.1 dX9_node_13 0 rfl rfl ?_
    obtain ⟨r2589, s2590, hc2591, h⟩ := bd_inv h
    refine cl_X9_277 (d1 := 45) (b := zo κ.1 0) (As := []) (rest := []) X.1 (by decide) (C_X9_isGrown X.2.1 hc2591) rcX9 rfl rfl (Nat.le_of_ble_eq_true rfl) dX9_node_14 ?_
    refine z_if_ne (tgt := 26) X.1 dX9_node_17 (by decide) h (fun q2592 h => ?_) (fun q2592 h => ?_)
    · refine z_iload_n (i := 1) X.1 dX9_node_26 1 rfl rfl ?_
      refine z_iconst (v := (1 : Int32)) X.1 dX9_node_27 (by decide) ?_
      refine z_aload_n (i := 0) X.1 dX9_node_28 0 rfl rfl ?_
      refine g_X9_nodes X.1 tw829 dX9_node_29 ?_
      refine z_iconst (v := (1 : Int32)) X.1 dX9_node_32 (by decide) ?_
      refine z_isub X.1 dX9_node_33 ?_
      obtain ⟨r2593, s2594, hc2595, h⟩ := bd_inv h
      refine cl_X9_68 (d1 := 0) (As := [.int v1, .int (1 : Int32), .int ((s2590 0 24 0) - (1 : Int32))]) (rest := []) X.1 (by decide) (C_X9_in X.2.1 hc2595) rfl rfl (Nat.le_of_ble_eq_true rfl) dX9_node_34 ?_
      refine z_if_eq (tgt := 49) X.1 dX9_node_37 (by decide) h (fun q2596 h => ?_) (fun q2596 h => ?_)
      · refine z_aload_n (i := 0) X.1 dX9_node_49 0 rfl rfl ?_
        refine z_iconst (v := (2 : Int32)) X.1 dX9_node_50 (by decide) ?_
        obtain ⟨r2597, s2598, hc2599, h⟩ := bd_inv h
        refine cl_X9_79 (d1 := 0) (b := zo κ.1 0) (As := [.int (2 : Int32)]) (rest := []) X.1 (by decide) (C_X9_no X.2.1 hc2599) rcX9 rfl rfl (Nat.le_of_ble_eq_true rfl) dX9_node_51 ?_
        exact z_iret X dX9_node_54 h
      · refine z_aload_n (i := 0) X.1 dX9_node_40 0 rfl rfl ?_
        refine g_X9_lineTo X.1 tw832 dX9_node_41 ?_
        refine z_iload_n (i := 1) X.1 dX9_node_44 1 rfl rfl ?_
        refine al_X9_lineTo X.1 dX9_node_45 h (fun h => ?_)
        refine z_goto (tgt := 54) X.1 dX9_node_46 (by decide) ?_
        exact z_iret X dX9_node_54 h
    · refine z_aload_n (i := 0) X.1 dX9_node_20 0 rfl rfl ?_
      refine z_iconst (v := (4 : Int32)) X.1 dX9_node_21 (by decide) ?_
      obtain ⟨r2600, s2601, hc2602, h⟩ := bd_inv h
      refine cl_X9_79 (d1 := 0) (b := zo κ.1 0) (As := [.int (4 : Int32)]) (rest := []) X.1 (by decide) (C_X9_no X.2.1 hc2602) rcX9 rfl rfl (Nat.le_of_ble_eq_true rfl) dX9_node_22 ?_
      exact z_iret X dX9_node_25 h
  · refine z_aload_n (i := 0) X.1 dX9_node_7 0 rfl rfl ?_
    refine z_iconst (v := (3 : Int32)) X.1 dX9_node_8 (by decide) ?_
    obtain ⟨r2603, s2604, hc2605, h⟩ := bd_inv h
    refine cl_X9_79 (d1 := 0) (b := zo κ.1 0) (As := [.int (3 : Int32)]) (rest := []) X.1 (by decide) (C_X9_no X.2.1 hc2605) rcX9 rfl rfl (Nat.le_of_ble_eq_true rfl) dX9_node_9 ?_
    exact z_iret X dX9_node_12 h
theorem C_X9_node {ζ : zW} (hZ : zDis ζ zM) {v1 : Int32} {σ σ' : S3} {r : Int32} (h : F_X9_node v1 σ = some (r, σ')) : zMet ζ zM 46 yX9_node cX9_node 2 (some .int) [.ref (zo ζ 0), .int v1] σ (some (.int r)) σ' :=
  zMet_of pn_X9 hZ (Nat.le_of_ble_eq_true rfl) (fun κ e X => by subst e; exact B_X9_node_0 X h)
noncomputable def F_X9_isSheet (v0 : Int32) (σ : S3) : R3 :=
  bd (F_X9_in v0 (0 : Int32) (3 : Int32) σ) (fun r2606 s2607 => ckb r2606 (some (r2606, s2607)))
set_option maxHeartbeats 4000000 in
set_option maxRecDepth 100000 in
theorem B_X9_isSheet_0 {κ : zT} {σ' : S3} {r : Int32} (X : zC κ zM RX9 cX9_isSheet 1 (some .boolean) 1 (some (.int r)) σ') {v0 : Int32} {σ : S3} (h : F_X9_isSheet v0 σ = some (r, σ')) : Z κ 1 (zM (ze κ.1) σ) [(0, .int v0)] 0 [] := by
  unfold F_X9_isSheet at h
  refine z_iload_n (i := 0) X.1 dX9_isSheet_0 0 rfl rfl ?_
  refine z_iconst (v := (0 : Int32)) X.1 dX9_isSheet_1 (by decide) ?_
  refine z_iconst (v := (3 : Int32)) X.1 dX9_isSheet_2 (by decide) ?_
  obtain ⟨r2606, s2607, hc2608, h⟩ := bd_inv h
  refine cl_X9_68 (d1 := 0) (As := [.int v0, .int (0 : Int32), .int (3 : Int32)]) (rest := []) X.1 (by decide) (C_X9_in X.2.1 hc2608) rfl rfl (Nat.le_of_ble_eq_true rfl) dX9_isSheet_3 ?_
  obtain ⟨hv, h⟩ := ckb_inv h
  exact z_zret X dX9_isSheet_6 hv h
theorem C_X9_isSheet {ζ : zW} (hZ : zDis ζ zM) {v0 : Int32} {σ σ' : S3} {r : Int32} (h : F_X9_isSheet v0 σ = some (r, σ')) : zMet ζ zM 1 yX9_isSheet cX9_isSheet 1 (some .boolean) [.int v0] σ (some (.int r)) σ' :=
  zMet_of pn_X9 hZ (Nat.le_of_ble_eq_true rfl) (fun κ e X => by subst e; exact B_X9_isSheet_0 X h)
noncomputable def Fb_X9_sheet_90 (v1 : Int32) (K90 : Int32 → S3 → R3) (v4 : Int32) (σ : S3) : R3 :=
  if (24 : Int32) ≤ v4 then (some ((1 : Int32), σ))
  else (ck (((24 : Int32) * v1) + v4) 96 (nm (up σ 0 30 (ix (((24 : Int32) * v1) + v4)) (0 : Int32)) (fun s2623 => nm (v4 + (1 : Int32)) (fun x2624 => K90 x2624 s2623))))
noncomputable def F_X9_sheet_90 (v1 : Int32) (n : Nat) : Int32 → S3 → R3 := zl1 (Fb_X9_sheet_90 v1) n
set_option maxHeartbeats 4000000 in
set_option maxRecDepth 100000 in
theorem B_X9_sheet_90 {κ : zT} {σ' : S3} {r : Int32} (X : zC κ zM RX9 cX9_sheet 5 (some .int) 2 (some (.int r)) σ') {v1 : Int32} : ∀ (n : Nat) (v4 : Int32) (σ : S3), F_X9_sheet_90 v1 n v4 σ = some (r, σ') → Z κ 5 (zM (ze κ.1) σ) [(0, .ref (zo κ.1 0)), (1, .int v1), (4, .int v4)] 90 [] := by
  intro n
  induction n with
  | zero =>
    intro v4 σ h
    cases (show (none : R3) = some (r, σ') from h)
  | succ n ih =>
    intro v4 σ h
    have hK90 := ih
    have h : Fb_X9_sheet_90 v1 (F_X9_sheet_90 v1 n) v4 σ = some (r, σ') := h
    unfold Fb_X9_sheet_90 at h
    refine z_iload X.1 dX9_sheet_90 2 rfl ?_
    refine z_bipush (v := (24 : Int32)) X.1 dX9_sheet_92 (by decide) ?_
    refine z_icmp_ge (tgt := 116) X.1 dX9_sheet_94 (by decide) h (fun q2622 h => ?_) (fun q2622 h => ?_)
    · refine z_iconst (v := (1 : Int32)) X.1 dX9_sheet_116 (by decide) ?_
      exact z_iret X dX9_sheet_117 h
    · refine z_aload_n (i := 0) X.1 dX9_sheet_97 0 rfl rfl ?_
      refine g_X9_cells X.1 tw835 dX9_sheet_98 ?_
      refine z_bipush (v := (24 : Int32)) X.1 dX9_sheet_101 (by decide) ?_
      refine z_iload_n (i := 1) X.1 dX9_sheet_103 1 rfl rfl ?_
      refine z_imul X.1 dX9_sheet_104 ?_
      refine z_iload X.1 dX9_sheet_105 2 rfl ?_
      refine z_iadd X.1 dX9_sheet_107 ?_
      refine z_iconst (v := (0 : Int32)) X.1 dX9_sheet_108 (by decide) ?_
      refine as_X9_cells X.1 X.2.1 dX9_sheet_109 h (fun s2623 h => ?_)
      refine z_iinc_m (v := (1 : Int32)) (lv' := fun x2624 => [(4, .int x2624), (0, .ref (zo κ.1 0)), (1, .int v1)]) X.1 dX9_sheet_110 2 rfl (by decide) (by decide) (fun _ => rfl) h (fun x2624 h => ?_)
      refine z_goto (tgt := 90) X.1 dX9_sheet_113 (by decide) ?_
      exact z_sub [1, 2, 0] rfl (hK90 _ _ h)
noncomputable def F_X9_sheet_65 (v1 : Int32) (v2 : Int32) (v3 : Int32) (σ : S3) : R3 :=
  ck v1 4 (nm (up σ 0 28 (ix v1) v2) (fun s2619 => if v2 = (0 : Int32) then (ck v1 4 (nm (up s2619 0 29 (ix v1) (0 : Int32)) (fun s2625 => F_X9_sheet_90 v1 zF (0 : Int32) s2625)))
  else (ck v1 4 (nm (up s2619 0 29 (ix v1) v3) (fun s2621 => F_X9_sheet_90 v1 zF (0 : Int32) s2621)))))
set_option maxHeartbeats 4000000 in
set_option maxRecDepth 100000 in
theorem B_X9_sheet_65 {κ : zT} {σ' : S3} {r : Int32} (X : zC κ zM RX9 cX9_sheet 5 (some .int) 2 (some (.int r)) σ') {v1 : Int32} {v2 : Int32} {v3 : Int32} {σ : S3} (h : F_X9_sheet_65 v1 v2 v3 σ = some (r, σ')) : Z κ 5 (zM (ze κ.1) σ) [(0, .ref (zo κ.1 0)), (1, .int v1), (2, .int v2), (3, .int v3)] 65 [] := by
  unfold F_X9_sheet_65 at h
  refine z_aload_n (i := 0) X.1 dX9_sheet_65 0 rfl rfl ?_
  refine g_X9_widths X.1 tw833 dX9_sheet_66 ?_
  refine z_iload_n (i := 1) X.1 dX9_sheet_69 1 rfl rfl ?_
  refine z_iload_n (i := 2) X.1 dX9_sheet_70 2 rfl rfl ?_
  refine as_X9_widths X.1 X.2.1 dX9_sheet_71 h (fun s2619 h => ?_)
  refine z_aload_n (i := 0) X.1 dX9_sheet_72 0 rfl rfl ?_
  refine g_X9_sizes X.1 tw834 dX9_sheet_73 ?_
  refine z_iload_n (i := 1) X.1 dX9_sheet_76 1 rfl rfl ?_
  refine z_iload_n (i := 2) X.1 dX9_sheet_77 2 rfl rfl ?_
  refine z_if_ne (tgt := 85) X.1 dX9_sheet_78 (by decide) h (fun q2620 h => ?_) (fun q2620 h => ?_)
  · refine z_iload_n (i := 3) X.1 dX9_sheet_85 3 rfl rfl ?_
    refine as_X9_sizes X.1 X.2.1 dX9_sheet_86 h (fun s2621 h => ?_)
    refine z_iconst (v := (0 : Int32)) X.1 dX9_sheet_87 (by decide) ?_
    refine z_istore (i := 4) (lv' := [(4, .int (0 : Int32)), (0, .ref (zo κ.1 0)), (1, .int v1), (2, .int v2), (3, .int v3)]) X.1 dX9_sheet_88 (by decide) rfl ?_
    exact z_sub [1, 2, 0] rfl (B_X9_sheet_90 X zF _ _ h)
  · refine z_iconst (v := (0 : Int32)) X.1 dX9_sheet_81 (by decide) ?_
    refine z_goto (tgt := 86) X.1 dX9_sheet_82 (by decide) ?_
    refine as_X9_sizes X.1 X.2.1 dX9_sheet_86 h (fun s2625 h => ?_)
    refine z_iconst (v := (0 : Int32)) X.1 dX9_sheet_87 (by decide) ?_
    refine z_istore (i := 4) (lv' := [(4, .int (0 : Int32)), (0, .ref (zo κ.1 0)), (1, .int v1), (2, .int v2), (3, .int v3)]) X.1 dX9_sheet_88 (by decide) rfl ?_
    exact z_sub [1, 2, 0] rfl (B_X9_sheet_90 X zF _ _ h)
noncomputable def F_X9_sheet_49 (v1 : Int32) (v2 : Int32) (v3 : Int32) (σ : S3) : R3 :=
  if v2 = (0 : Int32) then (F_X9_sheet_65 v1 v2 v3 σ)
  else (if v3 ≤ (24 : Int32) then (F_X9_sheet_65 v1 v2 v3 σ)
  else (bd (F_X9_no (1 : Int32) σ) (fun r2627 s2628 => some (r2627, s2628))))
set_option maxHeartbeats 4000000 in
set_option maxRecDepth 100000 in
theorem B_X9_sheet_49 {κ : zT} {σ' : S3} {r : Int32} (X : zC κ zM RX9 cX9_sheet 5 (some .int) 2 (some (.int r)) σ') {v1 : Int32} {v2 : Int32} {v3 : Int32} {σ : S3} (h : F_X9_sheet_49 v1 v2 v3 σ = some (r, σ')) : Z κ 5 (zM (ze κ.1) σ) [(0, .ref (zo κ.1 0)), (1, .int v1), (2, .int v2), (3, .int v3)] 49 [] := by
  unfold F_X9_sheet_49 at h
  refine z_iload_n (i := 2) X.1 dX9_sheet_49 2 rfl rfl ?_
  refine z_if_eq (tgt := 65) X.1 dX9_sheet_50 (by decide) h (fun q2618 h => ?_) (fun q2618 h => ?_)
  · exact z_sub [0, 1, 2, 3] rfl (B_X9_sheet_65 X h)
  · refine z_iload_n (i := 3) X.1 dX9_sheet_53 3 rfl rfl ?_
    refine z_bipush (v := (24 : Int32)) X.1 dX9_sheet_54 (by decide) ?_
    refine z_icmp_le (tgt := 65) X.1 dX9_sheet_56 (by decide) h (fun q2626 h => ?_) (fun q2626 h => ?_)
    · exact z_sub [0, 1, 2, 3] rfl (B_X9_sheet_65 X h)
    · refine z_aload_n (i := 0) X.1 dX9_sheet_59 0 rfl rfl ?_
      refine z_iconst (v := (1 : Int32)) X.1 dX9_sheet_60 (by decide) ?_
      obtain ⟨r2627, s2628, hc2629, h⟩ := bd_inv h
      refine cl_X9_79 (d1 := 0) (b := zo κ.1 0) (As := [.int (1 : Int32)]) (rest := []) X.1 (by decide) (C_X9_no X.2.1 hc2629) rcX9 rfl rfl (Nat.le_of_ble_eq_true rfl) dX9_sheet_61 ?_
      exact z_iret X dX9_sheet_64 h
noncomputable def F_X9_sheet_35 (v1 : Int32) (v2 : Int32) (v3 : Int32) (σ : S3) : R3 :=
  if v2 = (0 : Int32) then (F_X9_sheet_49 v1 v2 v3 σ)
  else (if (0 : Int32) ≤ v3 then (F_X9_sheet_49 v1 v2 v3 σ)
  else (bd (F_X9_no (3 : Int32) σ) (fun r2631 s2632 => some (r2631, s2632))))
set_option maxHeartbeats 4000000 in
set_option maxRecDepth 100000 in
theorem B_X9_sheet_35 {κ : zT} {σ' : S3} {r : Int32} (X : zC κ zM RX9 cX9_sheet 5 (some .int) 2 (some (.int r)) σ') {v1 : Int32} {v2 : Int32} {v3 : Int32} {σ : S3} (h : F_X9_sheet_35 v1 v2 v3 σ = some (r, σ')) : Z κ 5 (zM (ze κ.1) σ) [(0, .ref (zo κ.1 0)), (1, .int v1), (2, .int v2), (3, .int v3)] 35 [] := by
  unfold F_X9_sheet_35 at h
  refine z_iload_n (i := 2) X.1 dX9_sheet_35 2 rfl rfl ?_
  refine z_if_eq (tgt := 49) X.1 dX9_sheet_36 (by decide) h (fun q2617 h => ?_) (fun q2617 h => ?_)
  · exact z_sub [0, 1, 2, 3] rfl (B_X9_sheet_49 X h)
  · refine z_iload_n (i := 3) X.1 dX9_sheet_39 3 rfl rfl ?_
    refine z_if_ge (tgt := 49) X.1 dX9_sheet_40 (by decide) h (fun q2630 h => ?_) (fun q2630 h => ?_)
    · exact z_sub [0, 1, 2, 3] rfl (B_X9_sheet_49 X h)
    · refine z_aload_n (i := 0) X.1 dX9_sheet_43 0 rfl rfl ?_
      refine z_iconst (v := (3 : Int32)) X.1 dX9_sheet_44 (by decide) ?_
      obtain ⟨r2631, s2632, hc2633, h⟩ := bd_inv h
      refine cl_X9_79 (d1 := 0) (b := zo κ.1 0) (As := [.int (3 : Int32)]) (rest := []) X.1 (by decide) (C_X9_no X.2.1 hc2633) rcX9 rfl rfl (Nat.le_of_ble_eq_true rfl) dX9_sheet_45 ?_
      exact z_iret X dX9_sheet_48 h
noncomputable def F_X9_sheet (v1 : Int32) (v2 : Int32) (v3 : Int32) (σ : S3) : R3 :=
  bd (F_X9_isSheet v1 σ) (fun r2609 s2610 => if r2609 = (0 : Int32) then (bd (F_X9_no (1 : Int32) s2610) (fun r2613 s2614 => some (r2613, s2614)))
  else (if v2 = (0 : Int32) then (F_X9_sheet_35 v1 v2 v3 s2610)
  else (if v2 = (8 : Int32) then (F_X9_sheet_35 v1 v2 v3 s2610)
  else (if v2 = (16 : Int32) then (F_X9_sheet_35 v1 v2 v3 s2610)
  else (if v2 = (32 : Int32) then (F_X9_sheet_35 v1 v2 v3 s2610)
  else (bd (F_X9_no (1 : Int32) s2610) (fun r2637 s2638 => some (r2637, s2638))))))))
set_option maxHeartbeats 4000000 in
set_option maxRecDepth 100000 in
theorem B_X9_sheet_0 {κ : zT} {σ' : S3} {r : Int32} (X : zC κ zM RX9 cX9_sheet 5 (some .int) 2 (some (.int r)) σ') {v1 : Int32} {v2 : Int32} {v3 : Int32} {σ : S3} (h : F_X9_sheet v1 v2 v3 σ = some (r, σ')) : Z κ 5 (zM (ze κ.1) σ) [(0, .ref (zo κ.1 0)), (1, .int v1), (2, .int v2), (3, .int v3)] 0 [] := by
  unfold F_X9_sheet at h
  refine z_iload_n (i := 1) X.1 dX9_sheet_0 1 rfl rfl ?_
  obtain ⟨r2609, s2610, hc2611, h⟩ := bd_inv h
  refine cl_X9_280 (d1 := 1) (As := [.int v1]) (rest := []) X.1 (by decide) (C_X9_isSheet X.2.1 hc2611) rfl rfl (Nat.le_of_ble_eq_true rfl) dX9_sheet_1 ?_
  refine z_if_eq (tgt := 29) X.1 dX9_sheet_4 (by decide) h (fun q2612 h => ?_) (fun q2612 h => ?_)
  · refine z_aload_n (i := 0) X.1 dX9_sheet_29 0 rfl rfl ?_
    refine z_iconst (v := (1 : Int32)) X.1 dX9_sheet_30 (by decide) ?_
    obtain ⟨r2613, s2614, hc2615, h⟩ := bd_inv h
    refine cl_X9_79 (d1 := 0) (b := zo κ.1 0) (As := [.int (1 : Int32)]) (rest := []) X.1 (by decide) (C_X9_no X.2.1 hc2615) rcX9 rfl rfl (Nat.le_of_ble_eq_true rfl) dX9_sheet_31 ?_
    exact z_iret X dX9_sheet_34 h
  · refine z_iload_n (i := 2) X.1 dX9_sheet_7 2 rfl rfl ?_
    refine z_if_eq (tgt := 35) X.1 dX9_sheet_8 (by decide) h (fun q2616 h => ?_) (fun q2616 h => ?_)
    · exact z_sub [0, 1, 2, 3] rfl (B_X9_sheet_35 X h)
    · refine z_iload_n (i := 2) X.1 dX9_sheet_11 2 rfl rfl ?_
      refine z_bipush (v := (8 : Int32)) X.1 dX9_sheet_12 (by decide) ?_
      refine z_icmp_eq (tgt := 35) X.1 dX9_sheet_14 (by decide) h (fun q2634 h => ?_) (fun q2634 h => ?_)
      · exact z_sub [0, 1, 2, 3] rfl (B_X9_sheet_35 X h)
      · refine z_iload_n (i := 2) X.1 dX9_sheet_17 2 rfl rfl ?_
        refine z_bipush (v := (16 : Int32)) X.1 dX9_sheet_18 (by decide) ?_
        refine z_icmp_eq (tgt := 35) X.1 dX9_sheet_20 (by decide) h (fun q2635 h => ?_) (fun q2635 h => ?_)
        · exact z_sub [0, 1, 2, 3] rfl (B_X9_sheet_35 X h)
        · refine z_iload_n (i := 2) X.1 dX9_sheet_23 2 rfl rfl ?_
          refine z_bipush (v := (32 : Int32)) X.1 dX9_sheet_24 (by decide) ?_
          refine z_icmp_eq (tgt := 35) X.1 dX9_sheet_26 (by decide) h (fun q2636 h => ?_) (fun q2636 h => ?_)
          · exact z_sub [0, 1, 2, 3] rfl (B_X9_sheet_35 X h)
          · refine z_aload_n (i := 0) X.1 dX9_sheet_29 0 rfl rfl ?_
            refine z_iconst (v := (1 : Int32)) X.1 dX9_sheet_30 (by decide) ?_
            obtain ⟨r2637, s2638, hc2639, h⟩ := bd_inv h
            refine cl_X9_79 (d1 := 0) (b := zo κ.1 0) (As := [.int (1 : Int32)]) (rest := []) X.1 (by decide) (C_X9_no X.2.1 hc2639) rcX9 rfl rfl (Nat.le_of_ble_eq_true rfl) dX9_sheet_31 ?_
            exact z_iret X dX9_sheet_34 h
theorem C_X9_sheet {ζ : zW} (hZ : zDis ζ zM) {v1 : Int32} {v2 : Int32} {v3 : Int32} {σ σ' : S3} {r : Int32} (h : F_X9_sheet v1 v2 v3 σ = some (r, σ')) : zMet ζ zM 2 yX9_sheet cX9_sheet 5 (some .int) [.ref (zo ζ 0), .int v1, .int v2, .int v3] σ (some (.int r)) σ' :=
  zMet_of pn_X9 hZ (Nat.le_of_ble_eq_true rfl) (fun κ e X => by subst e; exact B_X9_sheet_0 X h)
noncomputable def F_X9_wrongCell (v1 : Int32) (v2 : Int32) (σ : S3) : R3 :=
  bd (F_X9_isSheet v1 σ) (fun r2640 s2641 => if r2640 = (0 : Int32) then (some ((1 : Int32), s2641))
  else (ck v1 4 (if (s2641 0 28 (ix v1)) = (0 : Int32) then (some ((6 : Int32), s2641))
  else (ck v1 4 (bd (F_X9_in v2 (0 : Int32) ((s2641 0 29 (ix v1)) - (1 : Int32)) s2641) (fun r2645 s2646 => if r2645 = (0 : Int32) then (some ((1 : Int32), s2646))
  else (some ((0 : Int32), s2646))))))))
set_option maxHeartbeats 4000000 in
set_option maxRecDepth 100000 in
theorem B_X9_wrongCell_0 {κ : zT} {σ' : S3} {r : Int32} (X : zC κ zM RX9 cX9_wrongCell 3 (some .int) 2 (some (.int r)) σ') {v1 : Int32} {v2 : Int32} {σ : S3} (h : F_X9_wrongCell v1 v2 σ = some (r, σ')) : Z κ 3 (zM (ze κ.1) σ) [(0, .ref (zo κ.1 0)), (1, .int v1), (2, .int v2)] 0 [] := by
  unfold F_X9_wrongCell at h
  refine z_iload_n (i := 1) X.1 dX9_wrongCell_0 1 rfl rfl ?_
  obtain ⟨r2640, s2641, hc2642, h⟩ := bd_inv h
  refine cl_X9_280 (d1 := 1) (As := [.int v1]) (rest := []) X.1 (by decide) (C_X9_isSheet X.2.1 hc2642) rfl rfl (Nat.le_of_ble_eq_true rfl) dX9_wrongCell_1 ?_
  refine z_if_ne (tgt := 11) X.1 dX9_wrongCell_4 (by decide) h (fun q2643 h => ?_) (fun q2643 h => ?_)
  · refine z_aload_n (i := 0) X.1 dX9_wrongCell_11 0 rfl rfl ?_
    refine g_X9_widths X.1 tw833 dX9_wrongCell_12 ?_
    refine z_iload_n (i := 1) X.1 dX9_wrongCell_15 1 rfl rfl ?_
    refine al_X9_widths X.1 dX9_wrongCell_16 h (fun h => ?_)
    refine z_if_ne (tgt := 25) X.1 dX9_wrongCell_17 (by decide) h (fun q2644 h => ?_) (fun q2644 h => ?_)
    · refine z_iload_n (i := 2) X.1 dX9_wrongCell_25 2 rfl rfl ?_
      refine z_iconst (v := (0 : Int32)) X.1 dX9_wrongCell_26 (by decide) ?_
      refine z_aload_n (i := 0) X.1 dX9_wrongCell_27 0 rfl rfl ?_
      refine g_X9_sizes X.1 tw834 dX9_wrongCell_28 ?_
      refine z_iload_n (i := 1) X.1 dX9_wrongCell_31 1 rfl rfl ?_
      refine al_X9_sizes X.1 dX9_wrongCell_32 h (fun h => ?_)
      refine z_iconst (v := (1 : Int32)) X.1 dX9_wrongCell_33 (by decide) ?_
      refine z_isub X.1 dX9_wrongCell_34 ?_
      obtain ⟨r2645, s2646, hc2647, h⟩ := bd_inv h
      refine cl_X9_68 (d1 := 0) (As := [.int v2, .int (0 : Int32), .int ((s2641 0 29 (ix v1)) - (1 : Int32))]) (rest := []) X.1 (by decide) (C_X9_in X.2.1 hc2647) rfl rfl (Nat.le_of_ble_eq_true rfl) dX9_wrongCell_35 ?_
      refine z_if_eq (tgt := 45) X.1 dX9_wrongCell_38 (by decide) h (fun q2648 h => ?_) (fun q2648 h => ?_)
      · refine z_iconst (v := (1 : Int32)) X.1 dX9_wrongCell_45 (by decide) ?_
        exact z_iret X dX9_wrongCell_46 h
      · refine z_iconst (v := (0 : Int32)) X.1 dX9_wrongCell_41 (by decide) ?_
        refine z_goto (tgt := 46) X.1 dX9_wrongCell_42 (by decide) ?_
        exact z_iret X dX9_wrongCell_46 h
    · refine z_bipush (v := (6 : Int32)) X.1 dX9_wrongCell_20 (by decide) ?_
      refine z_goto (tgt := 46) X.1 dX9_wrongCell_22 (by decide) ?_
      exact z_iret X dX9_wrongCell_46 h
  · refine z_iconst (v := (1 : Int32)) X.1 dX9_wrongCell_7 (by decide) ?_
    refine z_goto (tgt := 46) X.1 dX9_wrongCell_8 (by decide) ?_
    exact z_iret X dX9_wrongCell_46 h
theorem C_X9_wrongCell {ζ : zW} (hZ : zDis ζ zM) {v1 : Int32} {v2 : Int32} {σ σ' : S3} {r : Int32} (h : F_X9_wrongCell v1 v2 σ = some (r, σ')) : zMet ζ zM 2 yX9_wrongCell cX9_wrongCell 3 (some .int) [.ref (zo ζ 0), .int v1, .int v2] σ (some (.int r)) σ' :=
  zMet_of pn_X9 hZ (Nat.le_of_ble_eq_true rfl) (fun κ e X => by subst e; exact B_X9_wrongCell_0 X h)
noncomputable def F_X9_lays (v1 : Int32) (v2 : Int32) (v3 : Int32) (σ : S3) : R3 :=
  ck v1 4 (if (σ 0 28 (ix v1)) = (8 : Int32) then (ck (((24 : Int32) * v1) + v2) 96 (nm (up σ 0 30 (ix (((24 : Int32) * v1) + v2)) ((Int32.toInt8 v3).toInt32)) (fun s2653 => some ((0 : Int32), s2653))))
  else (ck v1 4 (if (σ 0 28 (ix v1)) = (16 : Int32) then (ck (((24 : Int32) * v1) + v2) 96 (nm (up σ 0 30 (ix (((24 : Int32) * v1) + v2)) ((Int32.toInt16 v3).toInt32)) (fun s2652 => some ((0 : Int32), s2652))))
  else (ck (((24 : Int32) * v1) + v2) 96 (nm (up σ 0 30 (ix (((24 : Int32) * v1) + v2)) v3) (fun s2651 => some ((0 : Int32), s2651)))))))
set_option maxHeartbeats 4000000 in
set_option maxRecDepth 100000 in
theorem B_X9_lays_0 {κ : zT} {σ' : S3} {r : Int32} (X : zC κ zM RX9 cX9_lays 4 none 0 none σ') {v1 : Int32} {v2 : Int32} {v3 : Int32} {σ : S3} (h : F_X9_lays v1 v2 v3 σ = some (r, σ')) : Z κ 4 (zM (ze κ.1) σ) [(0, .ref (zo κ.1 0)), (1, .int v1), (2, .int v2), (3, .int v3)] 0 [] := by
  unfold F_X9_lays at h
  refine z_aload_n (i := 0) X.1 dX9_lays_0 0 rfl rfl ?_
  refine g_X9_cells X.1 tw835 dX9_lays_1 ?_
  refine z_bipush (v := (24 : Int32)) X.1 dX9_lays_4 (by decide) ?_
  refine z_iload_n (i := 1) X.1 dX9_lays_6 1 rfl rfl ?_
  refine z_imul X.1 dX9_lays_7 ?_
  refine z_iload_n (i := 2) X.1 dX9_lays_8 2 rfl rfl ?_
  refine z_iadd X.1 dX9_lays_9 ?_
  refine z_aload_n (i := 0) X.1 dX9_lays_10 0 rfl rfl ?_
  refine g_X9_widths X.1 tw833 dX9_lays_11 ?_
  refine z_iload_n (i := 1) X.1 dX9_lays_14 1 rfl rfl ?_
  refine al_X9_widths X.1 dX9_lays_15 h (fun h => ?_)
  refine z_bipush (v := (8 : Int32)) X.1 dX9_lays_16 (by decide) ?_
  refine z_icmp_ne (tgt := 26) X.1 dX9_lays_18 (by decide) h (fun q2649 h => ?_) (fun q2649 h => ?_)
  · refine z_aload_n (i := 0) X.1 dX9_lays_26 0 rfl rfl ?_
    refine g_X9_widths X.1 tw833 dX9_lays_27 ?_
    refine z_iload_n (i := 1) X.1 dX9_lays_30 1 rfl rfl ?_
    refine al_X9_widths X.1 dX9_lays_31 h (fun h => ?_)
    refine z_bipush (v := (16 : Int32)) X.1 dX9_lays_32 (by decide) ?_
    refine z_icmp_ne (tgt := 42) X.1 dX9_lays_34 (by decide) h (fun q2650 h => ?_) (fun q2650 h => ?_)
    · refine z_iload_n (i := 3) X.1 dX9_lays_42 3 rfl rfl ?_
      refine as_X9_cells X.1 X.2.1 dX9_lays_43 h (fun s2651 h => ?_)
      exact z_vret X dX9_lays_44 h
    · refine z_iload_n (i := 3) X.1 dX9_lays_37 3 rfl rfl ?_
      refine z_i2s X.1 dX9_lays_38 ?_
      refine z_goto (tgt := 43) X.1 dX9_lays_39 (by decide) ?_
      refine as_X9_cells X.1 X.2.1 dX9_lays_43 h (fun s2652 h => ?_)
      exact z_vret X dX9_lays_44 h
  · refine z_iload_n (i := 3) X.1 dX9_lays_21 3 rfl rfl ?_
    refine z_i2b X.1 dX9_lays_22 ?_
    refine z_goto (tgt := 43) X.1 dX9_lays_23 (by decide) ?_
    refine as_X9_cells X.1 X.2.1 dX9_lays_43 h (fun s2653 h => ?_)
    exact z_vret X dX9_lays_44 h
theorem C_X9_lays {ζ : zW} (hZ : zDis ζ zM) {v1 : Int32} {v2 : Int32} {v3 : Int32} {σ σ' : S3} {r : Int32} (h : F_X9_lays v1 v2 v3 σ = some (r, σ')) : zMet ζ zM 0 yX9_lays cX9_lays 4 none [.ref (zo ζ 0), .int v1, .int v2, .int v3] σ none σ' :=
  zMet_of pn_X9 hZ (Nat.le_of_ble_eq_true rfl) (fun κ e X => by subst e; exact B_X9_lays_0 X h)
noncomputable def F_X9_put (v1 : Int32) (v2 : Int32) (v3 : Int32) (σ : S3) : R3 :=
  bd (F_X9_wrongCell v1 v2 σ) (fun r2654 s2655 => if r2654 = (0 : Int32) then (bd (F_X9_lays v1 v2 v3 s2655) (fun r2658 s2659 => some ((1 : Int32), s2659)))
  else (bd (F_X9_no r2654 s2655) (fun r2661 s2662 => some (r2661, s2662))))
set_option maxHeartbeats 4000000 in
set_option maxRecDepth 100000 in
theorem B_X9_put_0 {κ : zT} {σ' : S3} {r : Int32} (X : zC κ zM RX9 cX9_put 5 (some .int) 3 (some (.int r)) σ') {v1 : Int32} {v2 : Int32} {v3 : Int32} {σ : S3} (h : F_X9_put v1 v2 v3 σ = some (r, σ')) : Z κ 5 (zM (ze κ.1) σ) [(0, .ref (zo κ.1 0)), (1, .int v1), (2, .int v2), (3, .int v3)] 0 [] := by
  unfold F_X9_put at h
  refine z_aload_n (i := 0) X.1 dX9_put_0 0 rfl rfl ?_
  refine z_iload_n (i := 1) X.1 dX9_put_1 1 rfl rfl ?_
  refine z_iload_n (i := 2) X.1 dX9_put_2 2 rfl rfl ?_
  obtain ⟨r2654, s2655, hc2656, h⟩ := bd_inv h
  refine cl_X9_283 (d1 := 2) (b := zo κ.1 0) (As := [.int v1, .int v2]) (rest := []) X.1 (by decide) (C_X9_wrongCell X.2.1 hc2656) rcX9 rfl rfl (Nat.le_of_ble_eq_true rfl) dX9_put_3 ?_
  refine z_istore (i := 4) (lv' := [(4, .int r2654), (0, .ref (zo κ.1 0)), (1, .int v1), (2, .int v2), (3, .int v3)]) X.1 dX9_put_6 (by decide) rfl ?_
  refine z_iload X.1 dX9_put_8 0 rfl ?_
  refine z_if_eq (tgt := 20) X.1 dX9_put_10 (by decide) h (fun q2657 h => ?_) (fun q2657 h => ?_)
  · refine z_aload_n (i := 0) X.1 dX9_put_20 1 rfl rfl ?_
    refine z_iload_n (i := 1) X.1 dX9_put_21 2 rfl rfl ?_
    refine z_iload_n (i := 2) X.1 dX9_put_22 3 rfl rfl ?_
    refine z_iload_n (i := 3) X.1 dX9_put_23 4 rfl rfl ?_
    obtain ⟨r2658, s2659, hc2660, h⟩ := bd_inv h
    refine cl_X9_286 (d1 := 0) (b := zo κ.1 0) (r := 0) (As := [.int v1, .int v2, .int v3]) (rest := []) X.1 (by decide) (C_X9_lays X.2.1 hc2660) rcX9 rfl rfl (Nat.le_of_ble_eq_true rfl) dX9_put_24 ?_
    refine z_iconst (v := (1 : Int32)) X.1 dX9_put_27 (by decide) ?_
    exact z_iret X dX9_put_28 h
  · refine z_aload_n (i := 0) X.1 dX9_put_13 1 rfl rfl ?_
    refine z_iload X.1 dX9_put_14 0 rfl ?_
    obtain ⟨r2661, s2662, hc2663, h⟩ := bd_inv h
    refine cl_X9_79 (d1 := 0) (b := zo κ.1 0) (As := [.int r2654]) (rest := []) X.1 (by decide) (C_X9_no X.2.1 hc2663) rcX9 rfl rfl (Nat.le_of_ble_eq_true rfl) dX9_put_16 ?_
    exact z_iret X dX9_put_19 h
theorem C_X9_put {ζ : zW} (hZ : zDis ζ zM) {v1 : Int32} {v2 : Int32} {v3 : Int32} {σ σ' : S3} {r : Int32} (h : F_X9_put v1 v2 v3 σ = some (r, σ')) : zMet ζ zM 3 yX9_put cX9_put 5 (some .int) [.ref (zo ζ 0), .int v1, .int v2, .int v3] σ (some (.int r)) σ' :=
  zMet_of pn_X9 hZ (Nat.le_of_ble_eq_true rfl) (fun κ e X => by subst e; exact B_X9_put_0 X h)
noncomputable def F_X9_number (v1 : Int32) (v2 : Int32) (σ : S3) : R3 :=
  bd (F_X9_wrongCell v1 v2 σ) (fun r2664 s2665 => if r2664 = (0 : Int32) then (ck (((24 : Int32) * v1) + v2) 96 (some (s2665 0 30 (ix (((24 : Int32) * v1) + v2)), s2665)))
  else (bd (F_X9_no r2664 s2665) (fun r2668 s2669 => some (r2668, s2669))))
set_option maxHeartbeats 4000000 in
set_option maxRecDepth 100000 in
theorem B_X9_number_0 {κ : zT} {σ' : S3} {r : Int32} (X : zC κ zM RX9 cX9_number 4 (some .int) 3 (some (.int r)) σ') {v1 : Int32} {v2 : Int32} {σ : S3} (h : F_X9_number v1 v2 σ = some (r, σ')) : Z κ 4 (zM (ze κ.1) σ) [(0, .ref (zo κ.1 0)), (1, .int v1), (2, .int v2)] 0 [] := by
  unfold F_X9_number at h
  refine z_aload_n (i := 0) X.1 dX9_number_0 0 rfl rfl ?_
  refine z_iload_n (i := 1) X.1 dX9_number_1 1 rfl rfl ?_
  refine z_iload_n (i := 2) X.1 dX9_number_2 2 rfl rfl ?_
  obtain ⟨r2664, s2665, hc2666, h⟩ := bd_inv h
  refine cl_X9_283 (d1 := 2) (b := zo κ.1 0) (As := [.int v1, .int v2]) (rest := []) X.1 (by decide) (C_X9_wrongCell X.2.1 hc2666) rcX9 rfl rfl (Nat.le_of_ble_eq_true rfl) dX9_number_3 ?_
  refine z_istore_n (i := 3) (lv' := [(3, .int r2664), (0, .ref (zo κ.1 0)), (1, .int v1), (2, .int v2)]) X.1 dX9_number_6 rfl (by decide) rfl ?_
  refine z_iload_n (i := 3) X.1 dX9_number_7 0 rfl rfl ?_
  refine z_if_eq (tgt := 19) X.1 dX9_number_8 (by decide) h (fun q2667 h => ?_) (fun q2667 h => ?_)
  · refine z_aload_n (i := 0) X.1 dX9_number_19 1 rfl rfl ?_
    refine g_X9_cells X.1 tw835 dX9_number_20 ?_
    refine z_bipush (v := (24 : Int32)) X.1 dX9_number_23 (by decide) ?_
    refine z_iload_n (i := 1) X.1 dX9_number_25 2 rfl rfl ?_
    refine z_imul X.1 dX9_number_26 ?_
    refine z_iload_n (i := 2) X.1 dX9_number_27 3 rfl rfl ?_
    refine z_iadd X.1 dX9_number_28 ?_
    refine al_X9_cells X.1 dX9_number_29 h (fun h => ?_)
    exact z_iret X dX9_number_30 h
  · refine z_aload_n (i := 0) X.1 dX9_number_11 1 rfl rfl ?_
    refine z_iload_n (i := 3) X.1 dX9_number_12 0 rfl rfl ?_
    obtain ⟨r2668, s2669, hc2670, h⟩ := bd_inv h
    refine cl_X9_79 (d1 := 0) (b := zo κ.1 0) (As := [.int r2664]) (rest := []) X.1 (by decide) (C_X9_no X.2.1 hc2670) rcX9 rfl rfl (Nat.le_of_ble_eq_true rfl) dX9_number_13 ?_
    refine z_goto (tgt := 30) X.1 dX9_number_16 (by decide) ?_
    exact z_iret X dX9_number_30 h
theorem C_X9_number {ζ : zW} (hZ : zDis ζ zM) {v1 : Int32} {v2 : Int32} {σ σ' : S3} {r : Int32} (h : F_X9_number v1 v2 σ = some (r, σ')) : zMet ζ zM 3 yX9_number cX9_number 4 (some .int) [.ref (zo ζ 0), .int v1, .int v2] σ (some (.int r)) σ' :=
  zMet_of pn_X9 hZ (Nat.le_of_ble_eq_true rfl) (fun κ e X => by subst e; exact B_X9_number_0 X h)
noncomputable def F_X9_copy_141 (K116 : Int32 → S3 → R3) (v1 : Int32) (v2 : Int32) (v3 : Int32) (v4 : Int32) (v5 : Int32) (v6 : Int32) (s0 : Int32) (σ : S3) : R3 :=
  ck ((((24 : Int32) * v1) + v2) + s0) 96 (ck ((((24 : Int32) * v3) + v4) + s0) 96 (nm (up σ 0 30 (ix ((((24 : Int32) * v3) + v4) + s0)) (σ 0 30 (ix ((((24 : Int32) * v1) + v2) + s0)))) (fun s2707 => nm (v6 + (1 : Int32)) (fun x2708 => K116 x2708 s2707))))
set_option maxHeartbeats 4000000 in
set_option maxRecDepth 100000 in
theorem B_X9_copy_141 {κ : zT} {σ' : S3} {r : Int32} (X : zC κ zM RX9 cX9_copy 8 (some .int) 2 (some (.int r)) σ') {K116 : Int32 → S3 → R3} {v1 : Int32} {v2 : Int32} {v3 : Int32} {v4 : Int32} {v5 : Int32} {v6 : Int32} {s0 : Int32} {σ : S3} (hK116 : ∀ (w6 : Int32) (s1 : S3), K116 w6 s1 = some (r, σ') → Z κ 8 (zM (ze κ.1) s1) [(0, .ref (zo κ.1 0)), (1, .int v1), (2, .int v2), (3, .int v3), (4, .int v4), (5, .int v5), (6, .int w6)] 116 []) (h : F_X9_copy_141 K116 v1 v2 v3 v4 v5 v6 s0 σ = some (r, σ')) : Z κ 8 (zM (ze κ.1) σ) [(0, .ref (zo κ.1 0)), (1, .int v1), (2, .int v2), (3, .int v3), (4, .int v4), (5, .int v5), (6, .int v6)] 141 [.int s0] := by
  unfold F_X9_copy_141 at h
  refine z_istore (i := 7) (lv' := [(7, .int s0), (0, .ref (zo κ.1 0)), (1, .int v1), (2, .int v2), (3, .int v3), (4, .int v4), (5, .int v5), (6, .int v6)]) X.1 dX9_copy_141 (by decide) rfl ?_
  refine z_aload_n (i := 0) X.1 dX9_copy_143 1 rfl rfl ?_
  refine g_X9_cells X.1 tw835 dX9_copy_144 ?_
  refine z_bipush (v := (24 : Int32)) X.1 dX9_copy_147 (by decide) ?_
  refine z_iload_n (i := 3) X.1 dX9_copy_149 4 rfl rfl ?_
  refine z_imul X.1 dX9_copy_150 ?_
  refine z_iload X.1 dX9_copy_151 5 rfl ?_
  refine z_iadd X.1 dX9_copy_153 ?_
  refine z_iload X.1 dX9_copy_154 0 rfl ?_
  refine z_iadd X.1 dX9_copy_156 ?_
  refine z_aload_n (i := 0) X.1 dX9_copy_157 1 rfl rfl ?_
  refine g_X9_cells X.1 tw835 dX9_copy_158 ?_
  refine z_bipush (v := (24 : Int32)) X.1 dX9_copy_161 (by decide) ?_
  refine z_iload_n (i := 1) X.1 dX9_copy_163 2 rfl rfl ?_
  refine z_imul X.1 dX9_copy_164 ?_
  refine z_iload_n (i := 2) X.1 dX9_copy_165 3 rfl rfl ?_
  refine z_iadd X.1 dX9_copy_166 ?_
  refine z_iload X.1 dX9_copy_167 0 rfl ?_
  refine z_iadd X.1 dX9_copy_169 ?_
  refine al_X9_cells X.1 dX9_copy_170 h (fun h => ?_)
  refine as_X9_cells X.1 X.2.1 dX9_copy_171 h (fun s2707 h => ?_)
  refine z_iinc_m (v := (1 : Int32)) (lv' := fun x2708 => [(6, .int x2708), (7, .int s0), (0, .ref (zo κ.1 0)), (1, .int v1), (2, .int v2), (3, .int v3), (4, .int v4), (5, .int v5)]) X.1 dX9_copy_172 7 rfl (by decide) (by decide) (fun _ => rfl) h (fun x2708 h => ?_)
  refine z_goto (tgt := 116) X.1 dX9_copy_175 (by decide) ?_
  exact z_sub [2, 3, 4, 5, 6, 7, 0] rfl (hK116 _ _ h)
noncomputable def Fb_X9_copy_116 (v1 : Int32) (v2 : Int32) (v3 : Int32) (v4 : Int32) (v5 : Int32) (K116 : Int32 → S3 → R3) (v6 : Int32) (σ : S3) : R3 :=
  if v5 ≤ v6 then (some (v5, σ))
  else (if v4 ≤ v2 then (F_X9_copy_141 K116 v1 v2 v3 v4 v5 v6 v6 σ)
  else (F_X9_copy_141 K116 v1 v2 v3 v4 v5 v6 ((v5 - (1 : Int32)) - v6) σ))
noncomputable def F_X9_copy_116 (v1 : Int32) (v2 : Int32) (v3 : Int32) (v4 : Int32) (v5 : Int32) (n : Nat) : Int32 → S3 → R3 := zl1 (Fb_X9_copy_116 v1 v2 v3 v4 v5) n
set_option maxHeartbeats 4000000 in
set_option maxRecDepth 100000 in
theorem B_X9_copy_116 {κ : zT} {σ' : S3} {r : Int32} (X : zC κ zM RX9 cX9_copy 8 (some .int) 2 (some (.int r)) σ') {v1 : Int32} {v2 : Int32} {v3 : Int32} {v4 : Int32} {v5 : Int32} : ∀ (n : Nat) (v6 : Int32) (σ : S3), F_X9_copy_116 v1 v2 v3 v4 v5 n v6 σ = some (r, σ') → Z κ 8 (zM (ze κ.1) σ) [(0, .ref (zo κ.1 0)), (1, .int v1), (2, .int v2), (3, .int v3), (4, .int v4), (5, .int v5), (6, .int v6)] 116 [] := by
  intro n
  induction n with
  | zero =>
    intro v6 σ h
    cases (show (none : R3) = some (r, σ') from h)
  | succ n ih =>
    intro v6 σ h
    have hK116 := ih
    have h : Fb_X9_copy_116 v1 v2 v3 v4 v5 (F_X9_copy_116 v1 v2 v3 v4 v5 n) v6 σ = some (r, σ') := h
    unfold Fb_X9_copy_116 at h
    refine z_iload X.1 dX9_copy_116 6 rfl ?_
    refine z_iload X.1 dX9_copy_118 5 rfl ?_
    refine z_icmp_ge (tgt := 178) X.1 dX9_copy_120 (by decide) h (fun q2705 h => ?_) (fun q2705 h => ?_)
    · refine z_iload X.1 dX9_copy_178 5 rfl ?_
      exact z_iret X dX9_copy_180 h
    · refine z_iload_n (i := 2) X.1 dX9_copy_123 2 rfl rfl ?_
      refine z_iload X.1 dX9_copy_124 4 rfl ?_
      refine z_icmp_ge (tgt := 139) X.1 dX9_copy_126 (by decide) h (fun q2706 h => ?_) (fun q2706 h => ?_)
      · refine z_iload X.1 dX9_copy_139 6 rfl ?_
        exact z_sub [0, 1, 2, 3, 4, 5, 6] rfl (B_X9_copy_141 X hK116 h)
      · refine z_iload X.1 dX9_copy_129 5 rfl ?_
        refine z_iconst (v := (1 : Int32)) X.1 dX9_copy_131 (by decide) ?_
        refine z_isub X.1 dX9_copy_132 ?_
        refine z_iload X.1 dX9_copy_133 6 rfl ?_
        refine z_isub X.1 dX9_copy_135 ?_
        refine z_goto (tgt := 141) X.1 dX9_copy_136 (by decide) ?_
        exact z_sub [0, 1, 2, 3, 4, 5, 6] rfl (B_X9_copy_141 X hK116 h)
noncomputable def F_X9_copy (v1 : Int32) (v2 : Int32) (v3 : Int32) (v4 : Int32) (v5 : Int32) (σ : S3) : R3 :=
  bd (F_X9_isSheet v1 σ) (fun r2671 s2672 => if r2671 = (0 : Int32) then (bd (F_X9_no (1 : Int32) s2672) (fun r2675 s2676 => some (r2675, s2676)))
  else (bd (F_X9_isSheet v3 s2672) (fun r2678 s2679 => if r2678 = (0 : Int32) then (bd (F_X9_no (1 : Int32) s2679) (fun r2718 s2719 => some (r2718, s2719)))
  else (ck v1 4 (if (s2679 0 28 (ix v1)) = (0 : Int32) then (bd (F_X9_no (6 : Int32) s2679) (fun r2683 s2684 => some (r2683, s2684)))
  else (ck v3 4 (if (s2679 0 28 (ix v3)) = (0 : Int32) then (bd (F_X9_no (6 : Int32) s2679) (fun r2715 s2716 => some (r2715, s2716)))
  else (ck v1 4 (ck v3 4 (if (s2679 0 28 (ix v1)) = (s2679 0 28 (ix v3)) then (if v5 < (0 : Int32) then (bd (F_X9_no (1 : Int32) s2679) (fun r2689 s2690 => some (r2689, s2690)))
  else (if v2 < (0 : Int32) then (bd (F_X9_no (1 : Int32) s2679) (fun r2693 s2694 => some (r2693, s2694)))
  else (if v4 < (0 : Int32) then (bd (F_X9_no (1 : Int32) s2679) (fun r2697 s2698 => some (r2697, s2698)))
  else (ck v1 4 (if ((s2679 0 29 (ix v1)) - v2) < v5 then (bd (F_X9_no (1 : Int32) s2679) (fun r2701 s2702 => some (r2701, s2702)))
  else (ck v3 4 (if v5 ≤ ((s2679 0 29 (ix v3)) - v4) then (F_X9_copy_116 v1 v2 v3 v4 v5 zF (0 : Int32) s2679)
  else (bd (F_X9_no (1 : Int32) s2679) (fun r2709 s2710 => some (r2709, s2710))))))))))
  else (bd (F_X9_no (5 : Int32) s2679) (fun r2712 s2713 => some (r2712, s2713)))))))))))))
set_option maxHeartbeats 4000000 in
set_option maxRecDepth 100000 in
theorem B_X9_copy_0 {κ : zT} {σ' : S3} {r : Int32} (X : zC κ zM RX9 cX9_copy 8 (some .int) 2 (some (.int r)) σ') {v1 : Int32} {v2 : Int32} {v3 : Int32} {v4 : Int32} {v5 : Int32} {σ : S3} (h : F_X9_copy v1 v2 v3 v4 v5 σ = some (r, σ')) : Z κ 8 (zM (ze κ.1) σ) [(0, .ref (zo κ.1 0)), (1, .int v1), (2, .int v2), (3, .int v3), (4, .int v4), (5, .int v5)] 0 [] := by
  unfold F_X9_copy at h
  refine z_iload_n (i := 1) X.1 dX9_copy_0 1 rfl rfl ?_
  obtain ⟨r2671, s2672, hc2673, h⟩ := bd_inv h
  refine cl_X9_280 (d1 := 1) (As := [.int v1]) (rest := []) X.1 (by decide) (C_X9_isSheet X.2.1 hc2673) rfl rfl (Nat.le_of_ble_eq_true rfl) dX9_copy_1 ?_
  refine z_if_eq (tgt := 14) X.1 dX9_copy_4 (by decide) h (fun q2674 h => ?_) (fun q2674 h => ?_)
  · refine z_aload_n (i := 0) X.1 dX9_copy_14 0 rfl rfl ?_
    refine z_iconst (v := (1 : Int32)) X.1 dX9_copy_15 (by decide) ?_
    obtain ⟨r2675, s2676, hc2677, h⟩ := bd_inv h
    refine cl_X9_79 (d1 := 0) (b := zo κ.1 0) (As := [.int (1 : Int32)]) (rest := []) X.1 (by decide) (C_X9_no X.2.1 hc2677) rcX9 rfl rfl (Nat.le_of_ble_eq_true rfl) dX9_copy_16 ?_
    exact z_iret X dX9_copy_19 h
  · refine z_iload_n (i := 3) X.1 dX9_copy_7 3 rfl rfl ?_
    obtain ⟨r2678, s2679, hc2680, h⟩ := bd_inv h
    refine cl_X9_280 (d1 := 1) (As := [.int v3]) (rest := []) X.1 (by decide) (C_X9_isSheet X.2.1 hc2680) rfl rfl (Nat.le_of_ble_eq_true rfl) dX9_copy_8 ?_
    refine z_if_ne (tgt := 20) X.1 dX9_copy_11 (by decide) h (fun q2681 h => ?_) (fun q2681 h => ?_)
    · refine z_aload_n (i := 0) X.1 dX9_copy_20 0 rfl rfl ?_
      refine g_X9_widths X.1 tw833 dX9_copy_21 ?_
      refine z_iload_n (i := 1) X.1 dX9_copy_24 1 rfl rfl ?_
      refine al_X9_widths X.1 dX9_copy_25 h (fun h => ?_)
      refine z_if_eq (tgt := 38) X.1 dX9_copy_26 (by decide) h (fun q2682 h => ?_) (fun q2682 h => ?_)
      · refine z_aload_n (i := 0) X.1 dX9_copy_38 0 rfl rfl ?_
        refine z_bipush (v := (6 : Int32)) X.1 dX9_copy_39 (by decide) ?_
        obtain ⟨r2683, s2684, hc2685, h⟩ := bd_inv h
        refine cl_X9_79 (d1 := 0) (b := zo κ.1 0) (As := [.int (6 : Int32)]) (rest := []) X.1 (by decide) (C_X9_no X.2.1 hc2685) rcX9 rfl rfl (Nat.le_of_ble_eq_true rfl) dX9_copy_41 ?_
        exact z_iret X dX9_copy_44 h
      · refine z_aload_n (i := 0) X.1 dX9_copy_29 0 rfl rfl ?_
        refine g_X9_widths X.1 tw833 dX9_copy_30 ?_
        refine z_iload_n (i := 3) X.1 dX9_copy_33 3 rfl rfl ?_
        refine al_X9_widths X.1 dX9_copy_34 h (fun h => ?_)
        refine z_if_ne (tgt := 45) X.1 dX9_copy_35 (by decide) h (fun q2686 h => ?_) (fun q2686 h => ?_)
        · refine z_aload_n (i := 0) X.1 dX9_copy_45 0 rfl rfl ?_
          refine g_X9_widths X.1 tw833 dX9_copy_46 ?_
          refine z_iload_n (i := 1) X.1 dX9_copy_49 1 rfl rfl ?_
          refine al_X9_widths X.1 dX9_copy_50 h (fun h => ?_)
          refine z_aload_n (i := 0) X.1 dX9_copy_51 0 rfl rfl ?_
          refine g_X9_widths X.1 tw833 dX9_copy_52 ?_
          refine z_iload_n (i := 3) X.1 dX9_copy_55 3 rfl rfl ?_
          refine al_X9_widths X.1 dX9_copy_56 h (fun h => ?_)
          refine z_icmp_eq (tgt := 66) X.1 dX9_copy_57 (by decide) h (fun q2687 h => ?_) (fun q2687 h => ?_)
          · refine z_iload X.1 dX9_copy_66 5 rfl ?_
            refine z_if_lt (tgt := 107) X.1 dX9_copy_68 (by decide) h (fun q2688 h => ?_) (fun q2688 h => ?_)
            · refine z_aload_n (i := 0) X.1 dX9_copy_107 0 rfl rfl ?_
              refine z_iconst (v := (1 : Int32)) X.1 dX9_copy_108 (by decide) ?_
              obtain ⟨r2689, s2690, hc2691, h⟩ := bd_inv h
              refine cl_X9_79 (d1 := 0) (b := zo κ.1 0) (As := [.int (1 : Int32)]) (rest := []) X.1 (by decide) (C_X9_no X.2.1 hc2691) rcX9 rfl rfl (Nat.le_of_ble_eq_true rfl) dX9_copy_109 ?_
              exact z_iret X dX9_copy_112 h
            · refine z_iload_n (i := 2) X.1 dX9_copy_71 2 rfl rfl ?_
              refine z_if_lt (tgt := 107) X.1 dX9_copy_72 (by decide) h (fun q2692 h => ?_) (fun q2692 h => ?_)
              · refine z_aload_n (i := 0) X.1 dX9_copy_107 0 rfl rfl ?_
                refine z_iconst (v := (1 : Int32)) X.1 dX9_copy_108 (by decide) ?_
                obtain ⟨r2693, s2694, hc2695, h⟩ := bd_inv h
                refine cl_X9_79 (d1 := 0) (b := zo κ.1 0) (As := [.int (1 : Int32)]) (rest := []) X.1 (by decide) (C_X9_no X.2.1 hc2695) rcX9 rfl rfl (Nat.le_of_ble_eq_true rfl) dX9_copy_109 ?_
                exact z_iret X dX9_copy_112 h
              · refine z_iload X.1 dX9_copy_75 4 rfl ?_
                refine z_if_lt (tgt := 107) X.1 dX9_copy_77 (by decide) h (fun q2696 h => ?_) (fun q2696 h => ?_)
                · refine z_aload_n (i := 0) X.1 dX9_copy_107 0 rfl rfl ?_
                  refine z_iconst (v := (1 : Int32)) X.1 dX9_copy_108 (by decide) ?_
                  obtain ⟨r2697, s2698, hc2699, h⟩ := bd_inv h
                  refine cl_X9_79 (d1 := 0) (b := zo κ.1 0) (As := [.int (1 : Int32)]) (rest := []) X.1 (by decide) (C_X9_no X.2.1 hc2699) rcX9 rfl rfl (Nat.le_of_ble_eq_true rfl) dX9_copy_109 ?_
                  exact z_iret X dX9_copy_112 h
                · refine z_iload X.1 dX9_copy_80 5 rfl ?_
                  refine z_aload_n (i := 0) X.1 dX9_copy_82 0 rfl rfl ?_
                  refine g_X9_sizes X.1 tw834 dX9_copy_83 ?_
                  refine z_iload_n (i := 1) X.1 dX9_copy_86 1 rfl rfl ?_
                  refine al_X9_sizes X.1 dX9_copy_87 h (fun h => ?_)
                  refine z_iload_n (i := 2) X.1 dX9_copy_88 2 rfl rfl ?_
                  refine z_isub X.1 dX9_copy_89 ?_
                  refine z_icmp_gt (tgt := 107) X.1 dX9_copy_90 (by decide) h (fun q2700 h => ?_) (fun q2700 h => ?_)
                  · refine z_aload_n (i := 0) X.1 dX9_copy_107 0 rfl rfl ?_
                    refine z_iconst (v := (1 : Int32)) X.1 dX9_copy_108 (by decide) ?_
                    obtain ⟨r2701, s2702, hc2703, h⟩ := bd_inv h
                    refine cl_X9_79 (d1 := 0) (b := zo κ.1 0) (As := [.int (1 : Int32)]) (rest := []) X.1 (by decide) (C_X9_no X.2.1 hc2703) rcX9 rfl rfl (Nat.le_of_ble_eq_true rfl) dX9_copy_109 ?_
                    exact z_iret X dX9_copy_112 h
                  · refine z_iload X.1 dX9_copy_93 5 rfl ?_
                    refine z_aload_n (i := 0) X.1 dX9_copy_95 0 rfl rfl ?_
                    refine g_X9_sizes X.1 tw834 dX9_copy_96 ?_
                    refine z_iload_n (i := 3) X.1 dX9_copy_99 3 rfl rfl ?_
                    refine al_X9_sizes X.1 dX9_copy_100 h (fun h => ?_)
                    refine z_iload X.1 dX9_copy_101 4 rfl ?_
                    refine z_isub X.1 dX9_copy_103 ?_
                    refine z_icmp_le (tgt := 113) X.1 dX9_copy_104 (by decide) h (fun q2704 h => ?_) (fun q2704 h => ?_)
                    · refine z_iconst (v := (0 : Int32)) X.1 dX9_copy_113 (by decide) ?_
                      refine z_istore (i := 6) (lv' := [(6, .int (0 : Int32)), (0, .ref (zo κ.1 0)), (1, .int v1), (2, .int v2), (3, .int v3), (4, .int v4), (5, .int v5)]) X.1 dX9_copy_114 (by decide) rfl ?_
                      exact z_sub [1, 2, 3, 4, 5, 6, 0] rfl (B_X9_copy_116 X zF _ _ h)
                    · refine z_aload_n (i := 0) X.1 dX9_copy_107 0 rfl rfl ?_
                      refine z_iconst (v := (1 : Int32)) X.1 dX9_copy_108 (by decide) ?_
                      obtain ⟨r2709, s2710, hc2711, h⟩ := bd_inv h
                      refine cl_X9_79 (d1 := 0) (b := zo κ.1 0) (As := [.int (1 : Int32)]) (rest := []) X.1 (by decide) (C_X9_no X.2.1 hc2711) rcX9 rfl rfl (Nat.le_of_ble_eq_true rfl) dX9_copy_109 ?_
                      exact z_iret X dX9_copy_112 h
          · refine z_aload_n (i := 0) X.1 dX9_copy_60 0 rfl rfl ?_
            refine z_iconst (v := (5 : Int32)) X.1 dX9_copy_61 (by decide) ?_
            obtain ⟨r2712, s2713, hc2714, h⟩ := bd_inv h
            refine cl_X9_79 (d1 := 0) (b := zo κ.1 0) (As := [.int (5 : Int32)]) (rest := []) X.1 (by decide) (C_X9_no X.2.1 hc2714) rcX9 rfl rfl (Nat.le_of_ble_eq_true rfl) dX9_copy_62 ?_
            exact z_iret X dX9_copy_65 h
        · refine z_aload_n (i := 0) X.1 dX9_copy_38 0 rfl rfl ?_
          refine z_bipush (v := (6 : Int32)) X.1 dX9_copy_39 (by decide) ?_
          obtain ⟨r2715, s2716, hc2717, h⟩ := bd_inv h
          refine cl_X9_79 (d1 := 0) (b := zo κ.1 0) (As := [.int (6 : Int32)]) (rest := []) X.1 (by decide) (C_X9_no X.2.1 hc2717) rcX9 rfl rfl (Nat.le_of_ble_eq_true rfl) dX9_copy_41 ?_
          exact z_iret X dX9_copy_44 h
    · refine z_aload_n (i := 0) X.1 dX9_copy_14 0 rfl rfl ?_
      refine z_iconst (v := (1 : Int32)) X.1 dX9_copy_15 (by decide) ?_
      obtain ⟨r2718, s2719, hc2720, h⟩ := bd_inv h
      refine cl_X9_79 (d1 := 0) (b := zo κ.1 0) (As := [.int (1 : Int32)]) (rest := []) X.1 (by decide) (C_X9_no X.2.1 hc2720) rcX9 rfl rfl (Nat.le_of_ble_eq_true rfl) dX9_copy_16 ?_
      exact z_iret X dX9_copy_19 h
theorem C_X9_copy {ζ : zW} (hZ : zDis ζ zM) {v1 : Int32} {v2 : Int32} {v3 : Int32} {v4 : Int32} {v5 : Int32} {σ σ' : S3} {r : Int32} (h : F_X9_copy v1 v2 v3 v4 v5 σ = some (r, σ')) : zMet ζ zM 2 yX9_copy cX9_copy 8 (some .int) [.ref (zo ζ 0), .int v1, .int v2, .int v3, .int v4, .int v5] σ (some (.int r)) σ' :=
  zMet_of pn_X9 hZ (Nat.le_of_ble_eq_true rfl) (fun κ e X => by subst e; exact B_X9_copy_0 X h)
noncomputable def Fb_X9_degrees_68 (v1 : Int32) (v2 : Int32) (v3 : Int32) (K68 : Int32 → S3 → R3) (v4 : Int32) (σ : S3) : R3 :=
  if v3 ≤ v4 then (some (v3, σ))
  else (bd (F_X9_degree v4 v2 σ) (fun r2736 s2737 => bd (F_X9_lays v1 v4 r2736 s2737) (fun r2739 s2740 => nm (v4 + (1 : Int32)) (fun x2742 => K68 x2742 s2740))))
noncomputable def F_X9_degrees_68 (v1 : Int32) (v2 : Int32) (v3 : Int32) (n : Nat) : Int32 → S3 → R3 := zl1 (Fb_X9_degrees_68 v1 v2 v3) n
set_option maxHeartbeats 4000000 in
set_option maxRecDepth 100000 in
theorem B_X9_degrees_68 {κ : zT} {σ' : S3} {r : Int32} (X : zC κ zM RX9 cX9_degrees 5 (some .int) 2 (some (.int r)) σ') {v1 : Int32} {v2 : Int32} {v3 : Int32} : ∀ (n : Nat) (v4 : Int32) (σ : S3), F_X9_degrees_68 v1 v2 v3 n v4 σ = some (r, σ') → Z κ 5 (zM (ze κ.1) σ) [(0, .ref (zo κ.1 0)), (1, .int v1), (2, .int v2), (3, .int v3), (4, .int v4)] 68 [] := by
  intro n
  induction n with
  | zero =>
    intro v4 σ h
    cases (show (none : R3) = some (r, σ') from h)
  | succ n ih =>
    intro v4 σ h
    have hK68 := ih
    have h : Fb_X9_degrees_68 v1 v2 v3 (F_X9_degrees_68 v1 v2 v3 n) v4 σ = some (r, σ') := h
    unfold Fb_X9_degrees_68 at h
    refine z_iload X.1 dX9_degrees_68 4 rfl ?_
    refine z_iload_n (i := 3) X.1 dX9_degrees_70 3 rfl rfl ?_
    refine z_icmp_ge (tgt := 94) X.1 dX9_degrees_71 (by decide) h (fun q2735 h => ?_) (fun q2735 h => ?_)
    · refine z_iload_n (i := 3) X.1 dX9_degrees_94 3 rfl rfl ?_
      exact z_iret X dX9_degrees_95 h
    · refine z_aload_n (i := 0) X.1 dX9_degrees_74 0 rfl rfl ?_
      refine z_iload_n (i := 1) X.1 dX9_degrees_75 1 rfl rfl ?_
      refine z_iload X.1 dX9_degrees_76 4 rfl ?_
      refine z_aload_n (i := 0) X.1 dX9_degrees_78 0 rfl rfl ?_
      refine z_iload X.1 dX9_degrees_79 4 rfl ?_
      refine z_iload_n (i := 2) X.1 dX9_degrees_81 2 rfl rfl ?_
      obtain ⟨r2736, s2737, hc2738, h⟩ := bd_inv h
      refine cl_X9_108 (d1 := 1) (b := zo κ.1 0) (As := [.int v4, .int v2]) (rest := [.int v4, .int v1, .ref (zo κ.1 0)]) X.1 (by decide) (C_X9_degree X.2.1 hc2738) rcX9 rfl rfl (Nat.le_of_ble_eq_true rfl) dX9_degrees_82 ?_
      obtain ⟨r2739, s2740, hc2741, h⟩ := bd_inv h
      refine cl_X9_286 (d1 := 0) (b := zo κ.1 0) (r := 0) (As := [.int v1, .int v4, .int r2736]) (rest := []) X.1 (by decide) (C_X9_lays X.2.1 hc2741) rcX9 rfl rfl (Nat.le_of_ble_eq_true rfl) dX9_degrees_85 ?_
      refine z_iinc_m (v := (1 : Int32)) (lv' := fun x2742 => [(4, .int x2742), (0, .ref (zo κ.1 0)), (1, .int v1), (2, .int v2), (3, .int v3)]) X.1 dX9_degrees_88 4 rfl (by decide) (by decide) (fun _ => rfl) h (fun x2742 h => ?_)
      refine z_goto (tgt := 68) X.1 dX9_degrees_91 (by decide) ?_
      exact z_sub [1, 2, 3, 4, 0] rfl (hK68 _ _ h)
noncomputable def F_X9_degrees (v1 : Int32) (v2 : Int32) (σ : S3) : R3 :=
  bd (F_X9_isSheet v1 σ) (fun r2721 s2722 => if r2721 = (0 : Int32) then (bd (F_X9_no (1 : Int32) s2722) (fun r2725 s2726 => some (r2725, s2726)))
  else (bd (F_X9_in v2 (0 : Int32) (2 : Int32) s2722) (fun r2728 s2729 => if r2728 = (0 : Int32) then (bd (F_X9_no (1 : Int32) s2729) (fun r2747 s2748 => some (r2747, s2748)))
  else (ck v1 4 (if (s2729 0 28 (ix v1)) = (0 : Int32) then (bd (F_X9_no (6 : Int32) s2729) (fun r2744 s2745 => some (r2744, s2745)))
  else (ck v1 4 (if (s2729 0 1 0) ≤ (s2729 0 29 (ix v1)) then (nm (s2729 0 1 0) (fun x2734 => F_X9_degrees_68 v1 v2 x2734 zF (0 : Int32) s2729))
  else (ck v1 4 (nm (s2729 0 29 (ix v1)) (fun x2743 => F_X9_degrees_68 v1 v2 x2743 zF (0 : Int32) s2729))))))))))
set_option maxHeartbeats 4000000 in
set_option maxRecDepth 100000 in
theorem B_X9_degrees_0 {κ : zT} {σ' : S3} {r : Int32} (X : zC κ zM RX9 cX9_degrees 5 (some .int) 2 (some (.int r)) σ') {v1 : Int32} {v2 : Int32} {σ : S3} (h : F_X9_degrees v1 v2 σ = some (r, σ')) : Z κ 5 (zM (ze κ.1) σ) [(0, .ref (zo κ.1 0)), (1, .int v1), (2, .int v2)] 0 [] := by
  unfold F_X9_degrees at h
  refine z_iload_n (i := 1) X.1 dX9_degrees_0 1 rfl rfl ?_
  obtain ⟨r2721, s2722, hc2723, h⟩ := bd_inv h
  refine cl_X9_280 (d1 := 1) (As := [.int v1]) (rest := []) X.1 (by decide) (C_X9_isSheet X.2.1 hc2723) rfl rfl (Nat.le_of_ble_eq_true rfl) dX9_degrees_1 ?_
  refine z_if_eq (tgt := 16) X.1 dX9_degrees_4 (by decide) h (fun q2724 h => ?_) (fun q2724 h => ?_)
  · refine z_aload_n (i := 0) X.1 dX9_degrees_16 0 rfl rfl ?_
    refine z_iconst (v := (1 : Int32)) X.1 dX9_degrees_17 (by decide) ?_
    obtain ⟨r2725, s2726, hc2727, h⟩ := bd_inv h
    refine cl_X9_79 (d1 := 0) (b := zo κ.1 0) (As := [.int (1 : Int32)]) (rest := []) X.1 (by decide) (C_X9_no X.2.1 hc2727) rcX9 rfl rfl (Nat.le_of_ble_eq_true rfl) dX9_degrees_18 ?_
    exact z_iret X dX9_degrees_21 h
  · refine z_iload_n (i := 2) X.1 dX9_degrees_7 2 rfl rfl ?_
    refine z_iconst (v := (0 : Int32)) X.1 dX9_degrees_8 (by decide) ?_
    refine z_iconst (v := (2 : Int32)) X.1 dX9_degrees_9 (by decide) ?_
    obtain ⟨r2728, s2729, hc2730, h⟩ := bd_inv h
    refine cl_X9_68 (d1 := 0) (As := [.int v2, .int (0 : Int32), .int (2 : Int32)]) (rest := []) X.1 (by decide) (C_X9_in X.2.1 hc2730) rfl rfl (Nat.le_of_ble_eq_true rfl) dX9_degrees_10 ?_
    refine z_if_ne (tgt := 22) X.1 dX9_degrees_13 (by decide) h (fun q2731 h => ?_) (fun q2731 h => ?_)
    · refine z_aload_n (i := 0) X.1 dX9_degrees_22 0 rfl rfl ?_
      refine g_X9_widths X.1 tw833 dX9_degrees_23 ?_
      refine z_iload_n (i := 1) X.1 dX9_degrees_26 1 rfl rfl ?_
      refine al_X9_widths X.1 dX9_degrees_27 h (fun h => ?_)
      refine z_if_ne (tgt := 38) X.1 dX9_degrees_28 (by decide) h (fun q2732 h => ?_) (fun q2732 h => ?_)
      · refine z_aload_n (i := 0) X.1 dX9_degrees_38 0 rfl rfl ?_
        refine g_X9_sizes X.1 tw834 dX9_degrees_39 ?_
        refine z_iload_n (i := 1) X.1 dX9_degrees_42 1 rfl rfl ?_
        refine al_X9_sizes X.1 dX9_degrees_43 h (fun h => ?_)
        refine z_aload_n (i := 0) X.1 dX9_degrees_44 0 rfl rfl ?_
        refine g_X9_points X.1 tw806 dX9_degrees_45 ?_
        refine z_icmp_ge (tgt := 60) X.1 dX9_degrees_48 (by decide) h (fun q2733 h => ?_) (fun q2733 h => ?_)
        · refine z_aload_n (i := 0) X.1 dX9_degrees_60 0 rfl rfl ?_
          refine g_X9_points X.1 tw806 dX9_degrees_61 ?_
          refine z_istore_nn (i := 3) (lv' := fun x2734 => [(3, .int x2734), (0, .ref (zo κ.1 0)), (1, .int v1), (2, .int v2)]) X.1 dX9_degrees_64 rfl (by decide) (fun _ => rfl) h (fun x2734 h => ?_)
          refine z_iconst (v := (0 : Int32)) X.1 dX9_degrees_65 (by decide) ?_
          refine z_istore (i := 4) (lv' := [(4, .int (0 : Int32)), (3, .int x2734), (0, .ref (zo κ.1 0)), (1, .int v1), (2, .int v2)]) X.1 dX9_degrees_66 (by decide) rfl ?_
          exact z_sub [2, 3, 4, 1, 0] rfl (B_X9_degrees_68 X zF _ _ h)
        · refine z_aload_n (i := 0) X.1 dX9_degrees_51 0 rfl rfl ?_
          refine g_X9_sizes X.1 tw834 dX9_degrees_52 ?_
          refine z_iload_n (i := 1) X.1 dX9_degrees_55 1 rfl rfl ?_
          refine al_X9_sizes X.1 dX9_degrees_56 h (fun h => ?_)
          refine z_goto (tgt := 64) X.1 dX9_degrees_57 (by decide) ?_
          refine z_istore_nn (i := 3) (lv' := fun x2743 => [(3, .int x2743), (0, .ref (zo κ.1 0)), (1, .int v1), (2, .int v2)]) X.1 dX9_degrees_64 rfl (by decide) (fun _ => rfl) h (fun x2743 h => ?_)
          refine z_iconst (v := (0 : Int32)) X.1 dX9_degrees_65 (by decide) ?_
          refine z_istore (i := 4) (lv' := [(4, .int (0 : Int32)), (3, .int x2743), (0, .ref (zo κ.1 0)), (1, .int v1), (2, .int v2)]) X.1 dX9_degrees_66 (by decide) rfl ?_
          exact z_sub [2, 3, 4, 1, 0] rfl (B_X9_degrees_68 X zF _ _ h)
      · refine z_aload_n (i := 0) X.1 dX9_degrees_31 0 rfl rfl ?_
        refine z_bipush (v := (6 : Int32)) X.1 dX9_degrees_32 (by decide) ?_
        obtain ⟨r2744, s2745, hc2746, h⟩ := bd_inv h
        refine cl_X9_79 (d1 := 0) (b := zo κ.1 0) (As := [.int (6 : Int32)]) (rest := []) X.1 (by decide) (C_X9_no X.2.1 hc2746) rcX9 rfl rfl (Nat.le_of_ble_eq_true rfl) dX9_degrees_34 ?_
        exact z_iret X dX9_degrees_37 h
    · refine z_aload_n (i := 0) X.1 dX9_degrees_16 0 rfl rfl ?_
      refine z_iconst (v := (1 : Int32)) X.1 dX9_degrees_17 (by decide) ?_
      obtain ⟨r2747, s2748, hc2749, h⟩ := bd_inv h
      refine cl_X9_79 (d1 := 0) (b := zo κ.1 0) (As := [.int (1 : Int32)]) (rest := []) X.1 (by decide) (C_X9_no X.2.1 hc2749) rcX9 rfl rfl (Nat.le_of_ble_eq_true rfl) dX9_degrees_18 ?_
      exact z_iret X dX9_degrees_21 h
theorem C_X9_degrees {ζ : zW} (hZ : zDis ζ zM) {v1 : Int32} {v2 : Int32} {σ σ' : S3} {r : Int32} (h : F_X9_degrees v1 v2 σ = some (r, σ')) : zMet ζ zM 2 yX9_degrees cX9_degrees 5 (some .int) [.ref (zo ζ 0), .int v1, .int v2] σ (some (.int r)) σ' :=
  zMet_of pn_X9 hZ (Nat.le_of_ble_eq_true rfl) (fun κ e X => by subst e; exact B_X9_degrees_0 X h)
noncomputable def Fb_X9_walks_147 (v2 : Int32) (v3 : Int32) (v4 : Int32) (v5 : Int32) (K147 : S3 → R3) (σ : S3) : R3 :=
  if (σ 0 19 0) ≤ v3 then (if v2 = (0 : Int32) then (some (v4, σ))
  else (if v5 = (0 : Int32) then (some ((0 : Int32), σ))
  else (some ((1 : Int32), σ))))
  else (bd (F_X9_goesBack σ) (fun r2774 s2775 => K147  s2775))
noncomputable def F_X9_walks_147 (v2 : Int32) (v3 : Int32) (v4 : Int32) (v5 : Int32) (n : Nat) : S3 → R3 := zl0 (Fb_X9_walks_147 v2 v3 v4 v5) n
set_option maxHeartbeats 4000000 in
set_option maxRecDepth 100000 in
theorem B_X9_walks_147 {κ : zT} {σ' : S3} {r : Int32} (X : zC κ zM RX9 cX9_walks 6 (some .int) 24 (some (.int r)) σ') {v2 : Int32} {v3 : Int32} {v4 : Int32} {v5 : Int32} : ∀ (n : Nat)  (σ : S3), F_X9_walks_147 v2 v3 v4 v5 n  σ = some (r, σ') → Z κ 6 (zM (ze κ.1) σ) [(0, .ref (zo κ.1 0)), (2, .int v2), (3, .int v3), (4, .int v4), (5, .int v5)] 147 [] := by
  intro n
  induction n with
  | zero =>
    intro  σ h
    cases (show (none : R3) = some (r, σ') from h)
  | succ n ih =>
    intro  σ h
    have hK147 := ih
    have h : Fb_X9_walks_147 v2 v3 v4 v5 (F_X9_walks_147 v2 v3 v4 v5 n)  σ = some (r, σ') := h
    unfold Fb_X9_walks_147 at h
    refine z_aload_n (i := 0) X.1 dX9_walks_147 0 rfl rfl ?_
    refine g_X9_many X.1 tw824 dX9_walks_148 ?_
    refine z_iload_n (i := 3) X.1 dX9_walks_151 2 rfl rfl ?_
    refine z_icmp_le (tgt := 162) X.1 dX9_walks_152 (by decide) h (fun q2771 h => ?_) (fun q2771 h => ?_)
    · refine z_iload_n (i := 2) X.1 dX9_walks_162 1 rfl rfl ?_
      refine z_if_ne (tgt := 171) X.1 dX9_walks_163 (by decide) h (fun q2772 h => ?_) (fun q2772 h => ?_)
      · refine z_iload X.1 dX9_walks_171 4 rfl ?_
        refine z_if_eq (tgt := 180) X.1 dX9_walks_173 (by decide) h (fun q2773 h => ?_) (fun q2773 h => ?_)
        · refine z_iconst (v := (0 : Int32)) X.1 dX9_walks_180 (by decide) ?_
          exact z_iret X dX9_walks_181 h
        · refine z_iconst (v := (1 : Int32)) X.1 dX9_walks_176 (by decide) ?_
          refine z_goto (tgt := 181) X.1 dX9_walks_177 (by decide) ?_
          exact z_iret X dX9_walks_181 h
      · refine z_iload X.1 dX9_walks_166 3 rfl ?_
        refine z_goto (tgt := 181) X.1 dX9_walks_168 (by decide) ?_
        exact z_iret X dX9_walks_181 h
    · refine z_aload_n (i := 0) X.1 dX9_walks_155 0 rfl rfl ?_
      obtain ⟨r2774, s2775, hc2776, h⟩ := bd_inv h
      refine cl_X9_214 (d1 := 2) (b := zo κ.1 0) (r := 0) (As := []) (rest := []) X.1 (by decide) (C_X9_goesBack X.2.1 hc2776) rcX9 rfl rfl (Nat.le_of_ble_eq_true rfl) dX9_walks_156 ?_
      refine z_goto (tgt := 147) X.1 dX9_walks_159 (by decide) ?_
      exact z_sub [0, 1, 2, 3, 4] rfl (hK147  _ h)
noncomputable def F_X9_walks_133 (v2 : Int32) (v3 : Int32) (v4 : Int32) (σ : S3) : R3 :=
  bd (F_X9_setNow σ) (fun r2765 s2766 => bd (F_X9_winsAt (σ 0 14 0) r2765 s2766) (fun r2768 s2769 => F_X9_walks_147 v2 v3 v4 r2768 zF s2769))
set_option maxHeartbeats 4000000 in
set_option maxRecDepth 100000 in
theorem B_X9_walks_133 {κ : zT} {σ' : S3} {r : Int32} (X : zC κ zM RX9 cX9_walks 6 (some .int) 24 (some (.int r)) σ') {v2 : Int32} {v3 : Int32} {v4 : Int32} {σ : S3} (h : F_X9_walks_133 v2 v3 v4 σ = some (r, σ')) : Z κ 6 (zM (ze κ.1) σ) [(0, .ref (zo κ.1 0)), (2, .int v2), (3, .int v3), (4, .int v4)] 133 [] := by
  unfold F_X9_walks_133 at h
  refine z_aload_n (i := 0) X.1 dX9_walks_133 0 rfl rfl ?_
  refine z_aload_n (i := 0) X.1 dX9_walks_134 0 rfl rfl ?_
  refine g_X9_marker X.1 tw819 dX9_walks_135 ?_
  refine z_aload_n (i := 0) X.1 dX9_walks_138 0 rfl rfl ?_
  obtain ⟨r2765, s2766, hc2767, h⟩ := bd_inv h
  refine cl_X9_185 (d1 := 1) (b := zo κ.1 0) (As := []) (rest := [.int (σ 0 14 0), .ref (zo κ.1 0)]) X.1 (by decide) (C_X9_setNow X.2.1 hc2767) rcX9 rfl rfl (Nat.le_of_ble_eq_true rfl) dX9_walks_139 ?_
  obtain ⟨r2768, s2769, hc2770, h⟩ := bd_inv h
  refine cl_X9_194 (d1 := 23) (b := zo κ.1 0) (As := [.int (σ 0 14 0), .int r2765]) (rest := []) X.1 (by decide) (C_X9_winsAt X.2.1 hc2770) rcX9 rfl rfl (Nat.le_of_ble_eq_true rfl) dX9_walks_142 ?_
  refine z_istore (i := 5) (lv' := [(5, .int r2768), (0, .ref (zo κ.1 0)), (2, .int v2), (3, .int v3), (4, .int v4)]) X.1 dX9_walks_145 (by decide) rfl ?_
  exact z_sub [1, 2, 3, 4, 0] rfl (B_X9_walks_147 X zF  _ h)
noncomputable def Fb_X9_walks_59 (v1 : Int32) (v2 : Int32) (v3 : Int32) (K59 : Int32 → S3 → R3) (v4 : Int32) (σ : S3) : R3 :=
  ck v1 4 (if (σ 0 29 (ix v1)) ≤ v4 then (F_X9_walks_133 v2 v3 v4 σ)
  else (ck (((24 : Int32) * v1) + v4) 96 (bd (F_X9_isLine (σ 0 30 (ix (((24 : Int32) * v1) + v4))) σ) (fun r2777 s2778 => if r2777 = (0 : Int32) then (F_X9_walks_133 v2 v3 v4 s2778)
  else (bd (F_X9_movesNow s2778) (fun r2781 s2782 => ck (((24 : Int32) * v1) + v4) 96 (bd (F_X9_has r2781 (s2782 0 30 (ix (((24 : Int32) * v1) + v4))) s2782) (fun r2784 s2785 => if r2784 = (0 : Int32) then (F_X9_walks_133 v2 v3 v4 s2785)
  else (ck (((24 : Int32) * v1) + v4) 96 (bd (F_X9_goes (s2785 0 30 (ix (((24 : Int32) * v1) + v4))) s2785) (fun r2788 s2789 => nm (v4 + (1 : Int32)) (fun x2791 => K59 x2791 s2789))))))))))))
noncomputable def F_X9_walks_59 (v1 : Int32) (v2 : Int32) (v3 : Int32) (n : Nat) : Int32 → S3 → R3 := zl1 (Fb_X9_walks_59 v1 v2 v3) n
set_option maxHeartbeats 4000000 in
set_option maxRecDepth 100000 in
theorem B_X9_walks_59 {κ : zT} {σ' : S3} {r : Int32} (X : zC κ zM RX9 cX9_walks 6 (some .int) 24 (some (.int r)) σ') {v1 : Int32} {v2 : Int32} {v3 : Int32} : ∀ (n : Nat) (v4 : Int32) (σ : S3), F_X9_walks_59 v1 v2 v3 n v4 σ = some (r, σ') → Z κ 6 (zM (ze κ.1) σ) [(0, .ref (zo κ.1 0)), (1, .int v1), (2, .int v2), (3, .int v3), (4, .int v4)] 59 [] := by
  intro n
  induction n with
  | zero =>
    intro v4 σ h
    cases (show (none : R3) = some (r, σ') from h)
  | succ n ih =>
    intro v4 σ h
    have hK59 := ih
    have h : Fb_X9_walks_59 v1 v2 v3 (F_X9_walks_59 v1 v2 v3 n) v4 σ = some (r, σ') := h
    unfold Fb_X9_walks_59 at h
    refine z_iload X.1 dX9_walks_59 4 rfl ?_
    refine z_aload_n (i := 0) X.1 dX9_walks_61 0 rfl rfl ?_
    refine g_X9_sizes X.1 tw834 dX9_walks_62 ?_
    refine z_iload_n (i := 1) X.1 dX9_walks_65 1 rfl rfl ?_
    refine al_X9_sizes X.1 dX9_walks_66 h (fun h => ?_)
    refine z_icmp_ge (tgt := 133) X.1 dX9_walks_67 (by decide) h (fun q2764 h => ?_) (fun q2764 h => ?_)
    · exact z_sub [0, 2, 3, 4] rfl (B_X9_walks_133 X h)
    · refine z_aload_n (i := 0) X.1 dX9_walks_70 0 rfl rfl ?_
      refine z_aload_n (i := 0) X.1 dX9_walks_71 0 rfl rfl ?_
      refine g_X9_cells X.1 tw835 dX9_walks_72 ?_
      refine z_bipush (v := (24 : Int32)) X.1 dX9_walks_75 (by decide) ?_
      refine z_iload_n (i := 1) X.1 dX9_walks_77 1 rfl rfl ?_
      refine z_imul X.1 dX9_walks_78 ?_
      refine z_iload X.1 dX9_walks_79 4 rfl ?_
      refine z_iadd X.1 dX9_walks_81 ?_
      refine al_X9_cells X.1 dX9_walks_82 h (fun h => ?_)
      obtain ⟨r2777, s2778, hc2779, h⟩ := bd_inv h
      refine cl_X9_94 (d1 := 1) (b := zo κ.1 0) (As := [.int (σ 0 30 (ix (((24 : Int32) * v1) + v4)))]) (rest := []) X.1 (by decide) (C_X9_isLine X.2.1 hc2779) rcX9 rfl rfl (Nat.le_of_ble_eq_true rfl) dX9_walks_83 ?_
      refine z_if_eq (tgt := 133) X.1 dX9_walks_86 (by decide) h (fun q2780 h => ?_) (fun q2780 h => ?_)
      · exact z_sub [0, 2, 3, 4] rfl (B_X9_walks_133 X h)
      · refine z_aload_n (i := 0) X.1 dX9_walks_89 0 rfl rfl ?_
        obtain ⟨r2781, s2782, hc2783, h⟩ := bd_inv h
        refine cl_X9_191 (d1 := 3) (b := zo κ.1 0) (As := []) (rest := []) X.1 (by decide) (C_X9_movesNow X.2.1 hc2783) rcX9 rfl rfl (Nat.le_of_ble_eq_true rfl) dX9_walks_90 ?_
        refine z_aload_n (i := 0) X.1 dX9_walks_93 0 rfl rfl ?_
        refine g_X9_cells X.1 tw835 dX9_walks_94 ?_
        refine z_bipush (v := (24 : Int32)) X.1 dX9_walks_97 (by decide) ?_
        refine z_iload_n (i := 1) X.1 dX9_walks_99 1 rfl rfl ?_
        refine z_imul X.1 dX9_walks_100 ?_
        refine z_iload X.1 dX9_walks_101 4 rfl ?_
        refine z_iadd X.1 dX9_walks_103 ?_
        refine al_X9_cells X.1 dX9_walks_104 h (fun h => ?_)
        obtain ⟨r2784, s2785, hc2786, h⟩ := bd_inv h
        refine cl_X9_114 (d1 := 0) (As := [.int r2781, .int (s2782 0 30 (ix (((24 : Int32) * v1) + v4)))]) (rest := []) X.1 (by decide) (C_X9_has X.2.1 hc2786) rfl rfl (Nat.le_of_ble_eq_true rfl) dX9_walks_105 ?_
        refine z_if_eq (tgt := 133) X.1 dX9_walks_108 (by decide) h (fun q2787 h => ?_) (fun q2787 h => ?_)
        · exact z_sub [0, 2, 3, 4] rfl (B_X9_walks_133 X h)
        · refine z_aload_n (i := 0) X.1 dX9_walks_111 0 rfl rfl ?_
          refine z_aload_n (i := 0) X.1 dX9_walks_112 0 rfl rfl ?_
          refine g_X9_cells X.1 tw835 dX9_walks_113 ?_
          refine z_bipush (v := (24 : Int32)) X.1 dX9_walks_116 (by decide) ?_
          refine z_iload_n (i := 1) X.1 dX9_walks_118 1 rfl rfl ?_
          refine z_imul X.1 dX9_walks_119 ?_
          refine z_iload X.1 dX9_walks_120 4 rfl ?_
          refine z_iadd X.1 dX9_walks_122 ?_
          refine al_X9_cells X.1 dX9_walks_123 h (fun h => ?_)
          obtain ⟨r2788, s2789, hc2790, h⟩ := bd_inv h
          refine cl_X9_210 (d1 := 1) (b := zo κ.1 0) (r := 0) (As := [.int (s2785 0 30 (ix (((24 : Int32) * v1) + v4)))]) (rest := []) X.1 (by decide) (C_X9_goes X.2.1 hc2790) rcX9 rfl rfl (Nat.le_of_ble_eq_true rfl) dX9_walks_124 ?_
          refine z_iinc_m (v := (1 : Int32)) (lv' := fun x2791 => [(4, .int x2791), (0, .ref (zo κ.1 0)), (1, .int v1), (2, .int v2), (3, .int v3)]) X.1 dX9_walks_127 4 rfl (by decide) (by decide) (fun _ => rfl) h (fun x2791 h => ?_)
          refine z_goto (tgt := 59) X.1 dX9_walks_130 (by decide) ?_
          exact z_sub [1, 2, 3, 4, 0] rfl (hK59 _ _ h)
noncomputable def F_X9_walks (v1 : Int32) (v2 : Int32) (σ : S3) : R3 :=
  bd (F_X9_isSheet v1 σ) (fun r2750 s2751 => if r2750 = (0 : Int32) then (bd (F_X9_no (1 : Int32) s2751) (fun r2754 s2755 => some (r2754, s2755)))
  else (bd (F_X9_in v2 (0 : Int32) (1 : Int32) s2751) (fun r2757 s2758 => if r2757 = (0 : Int32) then (bd (F_X9_no (1 : Int32) s2758) (fun r2798 s2799 => some (r2798, s2799)))
  else (ck v1 4 (if (s2758 0 28 (ix v1)) = (0 : Int32) then (bd (F_X9_no (6 : Int32) s2758) (fun r2795 s2796 => some (r2795, s2796)))
  else (if (s2758 0 11 0) = (0 : Int32) then (bd (F_X9_no (3 : Int32) s2758) (fun r2792 s2793 => some (r2792, s2793)))
  else (nm (s2758 0 19 0) (fun x2763 => F_X9_walks_59 v1 v2 x2763 zF (0 : Int32) s2758))))))))
set_option maxHeartbeats 4000000 in
set_option maxRecDepth 100000 in
theorem B_X9_walks_0 {κ : zT} {σ' : S3} {r : Int32} (X : zC κ zM RX9 cX9_walks 6 (some .int) 24 (some (.int r)) σ') {v1 : Int32} {v2 : Int32} {σ : S3} (h : F_X9_walks v1 v2 σ = some (r, σ')) : Z κ 6 (zM (ze κ.1) σ) [(0, .ref (zo κ.1 0)), (1, .int v1), (2, .int v2)] 0 [] := by
  unfold F_X9_walks at h
  refine z_iload_n (i := 1) X.1 dX9_walks_0 1 rfl rfl ?_
  obtain ⟨r2750, s2751, hc2752, h⟩ := bd_inv h
  refine cl_X9_280 (d1 := 1) (As := [.int v1]) (rest := []) X.1 (by decide) (C_X9_isSheet X.2.1 hc2752) rfl rfl (Nat.le_of_ble_eq_true rfl) dX9_walks_1 ?_
  refine z_if_eq (tgt := 16) X.1 dX9_walks_4 (by decide) h (fun q2753 h => ?_) (fun q2753 h => ?_)
  · refine z_aload_n (i := 0) X.1 dX9_walks_16 0 rfl rfl ?_
    refine z_iconst (v := (1 : Int32)) X.1 dX9_walks_17 (by decide) ?_
    obtain ⟨r2754, s2755, hc2756, h⟩ := bd_inv h
    refine cl_X9_79 (d1 := 0) (b := zo κ.1 0) (As := [.int (1 : Int32)]) (rest := []) X.1 (by decide) (C_X9_no X.2.1 hc2756) rcX9 rfl rfl (Nat.le_of_ble_eq_true rfl) dX9_walks_18 ?_
    exact z_iret X dX9_walks_21 h
  · refine z_iload_n (i := 2) X.1 dX9_walks_7 2 rfl rfl ?_
    refine z_iconst (v := (0 : Int32)) X.1 dX9_walks_8 (by decide) ?_
    refine z_iconst (v := (1 : Int32)) X.1 dX9_walks_9 (by decide) ?_
    obtain ⟨r2757, s2758, hc2759, h⟩ := bd_inv h
    refine cl_X9_68 (d1 := 0) (As := [.int v2, .int (0 : Int32), .int (1 : Int32)]) (rest := []) X.1 (by decide) (C_X9_in X.2.1 hc2759) rfl rfl (Nat.le_of_ble_eq_true rfl) dX9_walks_10 ?_
    refine z_if_ne (tgt := 22) X.1 dX9_walks_13 (by decide) h (fun q2760 h => ?_) (fun q2760 h => ?_)
    · refine z_aload_n (i := 0) X.1 dX9_walks_22 0 rfl rfl ?_
      refine g_X9_widths X.1 tw833 dX9_walks_23 ?_
      refine z_iload_n (i := 1) X.1 dX9_walks_26 1 rfl rfl ?_
      refine al_X9_widths X.1 dX9_walks_27 h (fun h => ?_)
      refine z_if_ne (tgt := 38) X.1 dX9_walks_28 (by decide) h (fun q2761 h => ?_) (fun q2761 h => ?_)
      · refine z_aload_n (i := 0) X.1 dX9_walks_38 0 rfl rfl ?_
        refine g_X9_hasGame X.1 tw816 dX9_walks_39 ?_
        refine z_if_ne (tgt := 51) X.1 dX9_walks_42 (by decide) h (fun q2762 h => ?_) (fun q2762 h => ?_)
        · refine z_aload_n (i := 0) X.1 dX9_walks_51 0 rfl rfl ?_
          refine g_X9_many X.1 tw824 dX9_walks_52 ?_
          refine z_istore_nn (i := 3) (lv' := fun x2763 => [(3, .int x2763), (0, .ref (zo κ.1 0)), (1, .int v1), (2, .int v2)]) X.1 dX9_walks_55 rfl (by decide) (fun _ => rfl) h (fun x2763 h => ?_)
          refine z_iconst (v := (0 : Int32)) X.1 dX9_walks_56 (by decide) ?_
          refine z_istore (i := 4) (lv' := [(4, .int (0 : Int32)), (3, .int x2763), (0, .ref (zo κ.1 0)), (1, .int v1), (2, .int v2)]) X.1 dX9_walks_57 (by decide) rfl ?_
          exact z_sub [2, 3, 4, 1, 0] rfl (B_X9_walks_59 X zF _ _ h)
        · refine z_aload_n (i := 0) X.1 dX9_walks_45 0 rfl rfl ?_
          refine z_iconst (v := (3 : Int32)) X.1 dX9_walks_46 (by decide) ?_
          obtain ⟨r2792, s2793, hc2794, h⟩ := bd_inv h
          refine cl_X9_79 (d1 := 0) (b := zo κ.1 0) (As := [.int (3 : Int32)]) (rest := []) X.1 (by decide) (C_X9_no X.2.1 hc2794) rcX9 rfl rfl (Nat.le_of_ble_eq_true rfl) dX9_walks_47 ?_
          exact z_iret X dX9_walks_50 h
      · refine z_aload_n (i := 0) X.1 dX9_walks_31 0 rfl rfl ?_
        refine z_bipush (v := (6 : Int32)) X.1 dX9_walks_32 (by decide) ?_
        obtain ⟨r2795, s2796, hc2797, h⟩ := bd_inv h
        refine cl_X9_79 (d1 := 0) (b := zo κ.1 0) (As := [.int (6 : Int32)]) (rest := []) X.1 (by decide) (C_X9_no X.2.1 hc2797) rcX9 rfl rfl (Nat.le_of_ble_eq_true rfl) dX9_walks_34 ?_
        exact z_iret X dX9_walks_37 h
    · refine z_aload_n (i := 0) X.1 dX9_walks_16 0 rfl rfl ?_
      refine z_iconst (v := (1 : Int32)) X.1 dX9_walks_17 (by decide) ?_
      obtain ⟨r2798, s2799, hc2800, h⟩ := bd_inv h
      refine cl_X9_79 (d1 := 0) (b := zo κ.1 0) (As := [.int (1 : Int32)]) (rest := []) X.1 (by decide) (C_X9_no X.2.1 hc2800) rcX9 rfl rfl (Nat.le_of_ble_eq_true rfl) dX9_walks_18 ?_
      exact z_iret X dX9_walks_21 h
theorem C_X9_walks {ζ : zW} (hZ : zDis ζ zM) {v1 : Int32} {v2 : Int32} {σ σ' : S3} {r : Int32} (h : F_X9_walks v1 v2 σ = some (r, σ')) : zMet ζ zM 24 yX9_walks cX9_walks 6 (some .int) [.ref (zo ζ 0), .int v1, .int v2] σ (some (.int r)) σ' :=
  zMet_of pn_X9 hZ (Nat.le_of_ble_eq_true rfl) (fun κ e X => by subst e; exact B_X9_walks_0 X h)
