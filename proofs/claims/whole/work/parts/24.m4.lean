noncomputable def F_X9_seed (v1 : Int32) (σ : S3) : R3 :=
  nm (σ 0 17 0) (fun x2801 => nm (up σ 0 17 0 v1) (fun s2802 => some (x2801, s2802)))
set_option maxHeartbeats 4000000 in
set_option maxRecDepth 100000 in
theorem B_X9_seed_0 {κ : zT} {σ' : S3} {r : Int32} (X : zC κ zM RX9 cX9_seed 3 (some .int) 0 (some (.int r)) σ') {v1 : Int32} {σ : S3} (h : F_X9_seed v1 σ = some (r, σ')) : Z κ 3 (zM (ze κ.1) σ) [(0, .ref (zo κ.1 0)), (1, .int v1)] 0 [] := by
  unfold F_X9_seed at h
  refine z_aload_n (i := 0) X.1 dX9_seed_0 0 rfl rfl ?_
  refine g_X9_z X.1 tw822 dX9_seed_1 ?_
  refine z_istore_nn (i := 2) (lv' := fun x2801 => [(2, .int x2801), (0, .ref (zo κ.1 0)), (1, .int v1)]) X.1 dX9_seed_4 rfl (by decide) (fun _ => rfl) h (fun x2801 h => ?_)
  refine z_aload_n (i := 0) X.1 dX9_seed_5 1 rfl rfl ?_
  refine z_iload_n (i := 1) X.1 dX9_seed_6 2 rfl rfl ?_
  refine p_X9_z X.1 X.2.1 tw822 dX9_seed_7 h (fun s2802 h => ?_)
  refine z_iload_n (i := 2) X.1 dX9_seed_10 0 rfl rfl ?_
  exact z_iret X dX9_seed_11 h
theorem C_X9_seed {ζ : zW} (hZ : zDis ζ zM) {v1 : Int32} {σ σ' : S3} {r : Int32} (h : F_X9_seed v1 σ = some (r, σ')) : zMet ζ zM 0 yX9_seed cX9_seed 3 (some .int) [.ref (zo ζ 0), .int v1] σ (some (.int r)) σ' :=
  zMet_of pn_X9 hZ (Nat.le_of_ble_eq_true rfl) (fun κ e X => by subst e; exact B_X9_seed_0 X h)
noncomputable def Fb_X9_image_37 (K37 : Int32 → S3 → R3) (v1 : Int32) (σ : S3) : R3 :=
  if (12 : Int32) ≤ v1 then (some (σ 0 2 0, σ))
  else (ck v1 12 (ck ((3 : Int32) + ((3 : Int32) * v1)) 39 (nm (up σ 0 31 (ix ((3 : Int32) + ((3 : Int32) * v1))) (σ 0 3 (ix v1))) (fun s2808 => ck v1 12 (ck ((4 : Int32) + ((3 : Int32) * v1)) 39 (nm (up s2808 0 31 (ix ((4 : Int32) + ((3 : Int32) * v1))) (s2808 0 4 (ix v1))) (fun s2809 => ck v1 12 (ck ((5 : Int32) + ((3 : Int32) * v1)) 39 (nm (up s2809 0 31 (ix ((5 : Int32) + ((3 : Int32) * v1))) (s2809 0 5 (ix v1))) (fun s2810 => nm (v1 + (1 : Int32)) (fun x2811 => K37 x2811 s2810)))))))))))
noncomputable def F_X9_image_37 (n : Nat) : Int32 → S3 → R3 := zl1 (Fb_X9_image_37) n
set_option maxHeartbeats 4000000 in
set_option maxRecDepth 100000 in
theorem B_X9_image_37 {κ : zT} {σ' : S3} {r : Int32} (X : zC κ zM RX9 cX9_image 2 (some .int) 0 (some (.int r)) σ') : ∀ (n : Nat) (v1 : Int32) (σ : S3), F_X9_image_37 n v1 σ = some (r, σ') → Z κ 2 (zM (ze κ.1) σ) [(0, .ref (zo κ.1 0)), (1, .int v1)] 37 [] := by
  intro n
  induction n with
  | zero =>
    intro v1 σ h
    cases (show (none : R3) = some (r, σ') from h)
  | succ n ih =>
    intro v1 σ h
    have hK37 := ih
    have h : Fb_X9_image_37 (F_X9_image_37 n) v1 σ = some (r, σ') := h
    unfold Fb_X9_image_37 at h
    refine z_iload_n (i := 1) X.1 dX9_image_37 1 rfl rfl ?_
    refine z_bipush (v := (12 : Int32)) X.1 dX9_image_38 (by decide) ?_
    refine z_icmp_ge (tgt := 97) X.1 dX9_image_40 (by decide) h (fun q2807 h => ?_) (fun q2807 h => ?_)
    · refine z_aload_n (i := 0) X.1 dX9_image_97 0 rfl rfl ?_
      refine g_X9_lines X.1 tw807 dX9_image_98 ?_
      exact z_iret X dX9_image_101 h
    · refine z_aload_n (i := 0) X.1 dX9_image_43 0 rfl rfl ?_
      refine g_X9_kept X.1 tw836 dX9_image_44 ?_
      refine z_iconst (v := (3 : Int32)) X.1 dX9_image_47 (by decide) ?_
      refine z_iconst (v := (3 : Int32)) X.1 dX9_image_48 (by decide) ?_
      refine z_iload_n (i := 1) X.1 dX9_image_49 1 rfl rfl ?_
      refine z_imul X.1 dX9_image_50 ?_
      refine z_iadd X.1 dX9_image_51 ?_
      refine z_aload_n (i := 0) X.1 dX9_image_52 0 rfl rfl ?_
      refine g_X9_from X.1 tw808 dX9_image_53 ?_
      refine z_iload_n (i := 1) X.1 dX9_image_56 1 rfl rfl ?_
      refine al_X9_from X.1 dX9_image_57 h (fun h => ?_)
      refine as_X9_kept X.1 X.2.1 dX9_image_58 h (fun s2808 h => ?_)
      refine z_aload_n (i := 0) X.1 dX9_image_59 0 rfl rfl ?_
      refine g_X9_kept X.1 tw836 dX9_image_60 ?_
      refine z_iconst (v := (4 : Int32)) X.1 dX9_image_63 (by decide) ?_
      refine z_iconst (v := (3 : Int32)) X.1 dX9_image_64 (by decide) ?_
      refine z_iload_n (i := 1) X.1 dX9_image_65 1 rfl rfl ?_
      refine z_imul X.1 dX9_image_66 ?_
      refine z_iadd X.1 dX9_image_67 ?_
      refine z_aload_n (i := 0) X.1 dX9_image_68 0 rfl rfl ?_
      refine g_X9_to X.1 tw809 dX9_image_69 ?_
      refine z_iload_n (i := 1) X.1 dX9_image_72 1 rfl rfl ?_
      refine al_X9_to X.1 dX9_image_73 h (fun h => ?_)
      refine as_X9_kept X.1 X.2.1 dX9_image_74 h (fun s2809 h => ?_)
      refine z_aload_n (i := 0) X.1 dX9_image_75 0 rfl rfl ?_
      refine g_X9_kept X.1 tw836 dX9_image_76 ?_
      refine z_iconst (v := (5 : Int32)) X.1 dX9_image_79 (by decide) ?_
      refine z_iconst (v := (3 : Int32)) X.1 dX9_image_80 (by decide) ?_
      refine z_iload_n (i := 1) X.1 dX9_image_81 1 rfl rfl ?_
      refine z_imul X.1 dX9_image_82 ?_
      refine z_iadd X.1 dX9_image_83 ?_
      refine z_aload_n (i := 0) X.1 dX9_image_84 0 rfl rfl ?_
      refine g_X9_ways X.1 tw810 dX9_image_85 ?_
      refine z_iload_n (i := 1) X.1 dX9_image_88 1 rfl rfl ?_
      refine al_X9_ways X.1 dX9_image_89 h (fun h => ?_)
      refine as_X9_kept X.1 X.2.1 dX9_image_90 h (fun s2810 h => ?_)
      refine z_iinc_m (v := (1 : Int32)) (lv' := fun x2811 => [(1, .int x2811), (0, .ref (zo κ.1 0))]) X.1 dX9_image_91 1 rfl (by decide) (by decide) (fun _ => rfl) h (fun x2811 h => ?_)
      refine z_goto (tgt := 37) X.1 dX9_image_94 (by decide) ?_
      exact z_sub [1, 0] rfl (hK37 _ _ h)
noncomputable def F_X9_image (σ : S3) : R3 :=
  nm (up σ 0 32 0 (1 : Int32)) (fun s2803 => ck (0 : Int32) 39 (nm (up s2803 0 31 (ix (0 : Int32)) (s2803 0 1 0)) (fun s2804 => ck (1 : Int32) 39 (nm (up s2804 0 31 (ix (1 : Int32)) (s2804 0 2 0)) (fun s2805 => ck (2 : Int32) 39 (nm (up s2805 0 31 (ix (2 : Int32)) (s2805 0 17 0)) (fun s2806 => F_X9_image_37 zF (0 : Int32) s2806)))))))
set_option maxHeartbeats 4000000 in
set_option maxRecDepth 100000 in
theorem B_X9_image_0 {κ : zT} {σ' : S3} {r : Int32} (X : zC κ zM RX9 cX9_image 2 (some .int) 0 (some (.int r)) σ') {σ : S3} (h : F_X9_image σ = some (r, σ')) : Z κ 2 (zM (ze κ.1) σ) [(0, .ref (zo κ.1 0))] 0 [] := by
  unfold F_X9_image at h
  refine z_aload_n (i := 0) X.1 dX9_image_0 0 rfl rfl ?_
  refine z_iconst (v := (1 : Int32)) X.1 dX9_image_1 (by decide) ?_
  refine p_X9_hasImage X.1 X.2.1 tw837 (Or.inr rfl) dX9_image_2 h (fun s2803 h => ?_)
  refine z_aload_n (i := 0) X.1 dX9_image_5 0 rfl rfl ?_
  refine g_X9_kept X.1 tw836 dX9_image_6 ?_
  refine z_iconst (v := (0 : Int32)) X.1 dX9_image_9 (by decide) ?_
  refine z_aload_n (i := 0) X.1 dX9_image_10 0 rfl rfl ?_
  refine g_X9_points X.1 tw806 dX9_image_11 ?_
  refine as_X9_kept X.1 X.2.1 dX9_image_14 h (fun s2804 h => ?_)
  refine z_aload_n (i := 0) X.1 dX9_image_15 0 rfl rfl ?_
  refine g_X9_kept X.1 tw836 dX9_image_16 ?_
  refine z_iconst (v := (1 : Int32)) X.1 dX9_image_19 (by decide) ?_
  refine z_aload_n (i := 0) X.1 dX9_image_20 0 rfl rfl ?_
  refine g_X9_lines X.1 tw807 dX9_image_21 ?_
  refine as_X9_kept X.1 X.2.1 dX9_image_24 h (fun s2805 h => ?_)
  refine z_aload_n (i := 0) X.1 dX9_image_25 0 rfl rfl ?_
  refine g_X9_kept X.1 tw836 dX9_image_26 ?_
  refine z_iconst (v := (2 : Int32)) X.1 dX9_image_29 (by decide) ?_
  refine z_aload_n (i := 0) X.1 dX9_image_30 0 rfl rfl ?_
  refine g_X9_z X.1 tw822 dX9_image_31 ?_
  refine as_X9_kept X.1 X.2.1 dX9_image_34 h (fun s2806 h => ?_)
  refine z_iconst (v := (0 : Int32)) X.1 dX9_image_35 (by decide) ?_
  refine z_istore_n (i := 1) (lv' := [(1, .int (0 : Int32)), (0, .ref (zo κ.1 0))]) X.1 dX9_image_36 rfl (by decide) rfl ?_
  exact z_sub [1, 0] rfl (B_X9_image_37 X zF _ _ h)
theorem C_X9_image {ζ : zW} (hZ : zDis ζ zM) {σ σ' : S3} {r : Int32} (h : F_X9_image  σ = some (r, σ')) : zMet ζ zM 0 yX9_image cX9_image 2 (some .int) [.ref (zo ζ 0)] σ (some (.int r)) σ' :=
  zMet_of pn_X9 hZ (Nat.le_of_ble_eq_true rfl) (fun κ e X => by subst e; exact B_X9_image_0 X h)
noncomputable def Fb_X9_restore_45 (K45 : Int32 → S3 → R3) (v1 : Int32) (σ : S3) : R3 :=
  if (12 : Int32) ≤ v1 then (bd (F_X9_isNew σ) (fun r2817 s2818 => some (s2818 0 2 0, s2818)))
  else (ck ((3 : Int32) + ((3 : Int32) * v1)) 39 (ck v1 12 (nm (up σ 0 3 (ix v1) (σ 0 31 (ix ((3 : Int32) + ((3 : Int32) * v1))))) (fun s2820 => ck ((4 : Int32) + ((3 : Int32) * v1)) 39 (ck v1 12 (nm (up s2820 0 4 (ix v1) (s2820 0 31 (ix ((4 : Int32) + ((3 : Int32) * v1))))) (fun s2821 => ck ((5 : Int32) + ((3 : Int32) * v1)) 39 (ck v1 12 (nm (up s2821 0 5 (ix v1) (s2821 0 31 (ix ((5 : Int32) + ((3 : Int32) * v1))))) (fun s2822 => nm (v1 + (1 : Int32)) (fun x2823 => K45 x2823 s2822)))))))))))
noncomputable def F_X9_restore_45 (n : Nat) : Int32 → S3 → R3 := zl1 (Fb_X9_restore_45) n
set_option maxHeartbeats 4000000 in
set_option maxRecDepth 100000 in
theorem B_X9_restore_45 {κ : zT} {σ' : S3} {r : Int32} (X : zC κ zM RX9 cX9_restore 2 (some .int) 1 (some (.int r)) σ') : ∀ (n : Nat) (v1 : Int32) (σ : S3), F_X9_restore_45 n v1 σ = some (r, σ') → Z κ 2 (zM (ze κ.1) σ) [(0, .ref (zo κ.1 0)), (1, .int v1)] 45 [] := by
  intro n
  induction n with
  | zero =>
    intro v1 σ h
    cases (show (none : R3) = some (r, σ') from h)
  | succ n ih =>
    intro v1 σ h
    have hK45 := ih
    have h : Fb_X9_restore_45 (F_X9_restore_45 n) v1 σ = some (r, σ') := h
    unfold Fb_X9_restore_45 at h
    refine z_iload_n (i := 1) X.1 dX9_restore_45 1 rfl rfl ?_
    refine z_bipush (v := (12 : Int32)) X.1 dX9_restore_46 (by decide) ?_
    refine z_icmp_ge (tgt := 105) X.1 dX9_restore_48 (by decide) h (fun q2816 h => ?_) (fun q2816 h => ?_)
    · refine z_aload_n (i := 0) X.1 dX9_restore_105 0 rfl rfl ?_
      obtain ⟨r2817, s2818, hc2819, h⟩ := bd_inv h
      refine cl_X9_83 (d1 := 0) (b := zo κ.1 0) (r := 0) (As := []) (rest := []) X.1 (by decide) (C_X9_isNew X.2.1 hc2819) rcX9 rfl rfl (Nat.le_of_ble_eq_true rfl) dX9_restore_106 ?_
      refine z_aload_n (i := 0) X.1 dX9_restore_109 0 rfl rfl ?_
      refine g_X9_lines X.1 tw807 dX9_restore_110 ?_
      exact z_iret X dX9_restore_113 h
    · refine z_aload_n (i := 0) X.1 dX9_restore_51 0 rfl rfl ?_
      refine g_X9_from X.1 tw808 dX9_restore_52 ?_
      refine z_iload_n (i := 1) X.1 dX9_restore_55 1 rfl rfl ?_
      refine z_aload_n (i := 0) X.1 dX9_restore_56 0 rfl rfl ?_
      refine g_X9_kept X.1 tw836 dX9_restore_57 ?_
      refine z_iconst (v := (3 : Int32)) X.1 dX9_restore_60 (by decide) ?_
      refine z_iconst (v := (3 : Int32)) X.1 dX9_restore_61 (by decide) ?_
      refine z_iload_n (i := 1) X.1 dX9_restore_62 1 rfl rfl ?_
      refine z_imul X.1 dX9_restore_63 ?_
      refine z_iadd X.1 dX9_restore_64 ?_
      refine al_X9_kept X.1 dX9_restore_65 h (fun h => ?_)
      refine as_X9_from X.1 X.2.1 dX9_restore_66 h (fun s2820 h => ?_)
      refine z_aload_n (i := 0) X.1 dX9_restore_67 0 rfl rfl ?_
      refine g_X9_to X.1 tw809 dX9_restore_68 ?_
      refine z_iload_n (i := 1) X.1 dX9_restore_71 1 rfl rfl ?_
      refine z_aload_n (i := 0) X.1 dX9_restore_72 0 rfl rfl ?_
      refine g_X9_kept X.1 tw836 dX9_restore_73 ?_
      refine z_iconst (v := (4 : Int32)) X.1 dX9_restore_76 (by decide) ?_
      refine z_iconst (v := (3 : Int32)) X.1 dX9_restore_77 (by decide) ?_
      refine z_iload_n (i := 1) X.1 dX9_restore_78 1 rfl rfl ?_
      refine z_imul X.1 dX9_restore_79 ?_
      refine z_iadd X.1 dX9_restore_80 ?_
      refine al_X9_kept X.1 dX9_restore_81 h (fun h => ?_)
      refine as_X9_to X.1 X.2.1 dX9_restore_82 h (fun s2821 h => ?_)
      refine z_aload_n (i := 0) X.1 dX9_restore_83 0 rfl rfl ?_
      refine g_X9_ways X.1 tw810 dX9_restore_84 ?_
      refine z_iload_n (i := 1) X.1 dX9_restore_87 1 rfl rfl ?_
      refine z_aload_n (i := 0) X.1 dX9_restore_88 0 rfl rfl ?_
      refine g_X9_kept X.1 tw836 dX9_restore_89 ?_
      refine z_iconst (v := (5 : Int32)) X.1 dX9_restore_92 (by decide) ?_
      refine z_iconst (v := (3 : Int32)) X.1 dX9_restore_93 (by decide) ?_
      refine z_iload_n (i := 1) X.1 dX9_restore_94 1 rfl rfl ?_
      refine z_imul X.1 dX9_restore_95 ?_
      refine z_iadd X.1 dX9_restore_96 ?_
      refine al_X9_kept X.1 dX9_restore_97 h (fun h => ?_)
      refine as_X9_ways X.1 X.2.1 dX9_restore_98 h (fun s2822 h => ?_)
      refine z_iinc_m (v := (1 : Int32)) (lv' := fun x2823 => [(1, .int x2823), (0, .ref (zo κ.1 0))]) X.1 dX9_restore_99 1 rfl (by decide) (by decide) (fun _ => rfl) h (fun x2823 h => ?_)
      refine z_goto (tgt := 45) X.1 dX9_restore_102 (by decide) ?_
      exact z_sub [1, 0] rfl (hK45 _ _ h)
noncomputable def F_X9_restore (σ : S3) : R3 :=
  if (σ 0 32 0) = (0 : Int32) then (bd (F_X9_no (2 : Int32) σ) (fun r2824 s2825 => some (r2824, s2825)))
  else (ck (0 : Int32) 39 (nm (up σ 0 1 0 (σ 0 31 (ix (0 : Int32)))) (fun s2813 => ck (1 : Int32) 39 (nm (up s2813 0 2 0 (s2813 0 31 (ix (1 : Int32)))) (fun s2814 => ck (2 : Int32) 39 (nm (up s2814 0 17 0 (s2814 0 31 (ix (2 : Int32)))) (fun s2815 => F_X9_restore_45 zF (0 : Int32) s2815)))))))
set_option maxHeartbeats 4000000 in
set_option maxRecDepth 100000 in
theorem B_X9_restore_0 {κ : zT} {σ' : S3} {r : Int32} (X : zC κ zM RX9 cX9_restore 2 (some .int) 1 (some (.int r)) σ') {σ : S3} (h : F_X9_restore σ = some (r, σ')) : Z κ 2 (zM (ze κ.1) σ) [(0, .ref (zo κ.1 0))] 0 [] := by
  unfold F_X9_restore at h
  refine z_aload_n (i := 0) X.1 dX9_restore_0 0 rfl rfl ?_
  refine g_X9_hasImage X.1 tw837 dX9_restore_1 ?_
  refine z_if_ne (tgt := 13) X.1 dX9_restore_4 (by decide) h (fun q2812 h => ?_) (fun q2812 h => ?_)
  · refine z_aload_n (i := 0) X.1 dX9_restore_13 0 rfl rfl ?_
    refine z_aload_n (i := 0) X.1 dX9_restore_14 0 rfl rfl ?_
    refine g_X9_kept X.1 tw836 dX9_restore_15 ?_
    refine z_iconst (v := (0 : Int32)) X.1 dX9_restore_18 (by decide) ?_
    refine al_X9_kept X.1 dX9_restore_19 h (fun h => ?_)
    refine p_X9_points X.1 X.2.1 tw806 dX9_restore_20 h (fun s2813 h => ?_)
    refine z_aload_n (i := 0) X.1 dX9_restore_23 0 rfl rfl ?_
    refine z_aload_n (i := 0) X.1 dX9_restore_24 0 rfl rfl ?_
    refine g_X9_kept X.1 tw836 dX9_restore_25 ?_
    refine z_iconst (v := (1 : Int32)) X.1 dX9_restore_28 (by decide) ?_
    refine al_X9_kept X.1 dX9_restore_29 h (fun h => ?_)
    refine p_X9_lines X.1 X.2.1 tw807 dX9_restore_30 h (fun s2814 h => ?_)
    refine z_aload_n (i := 0) X.1 dX9_restore_33 0 rfl rfl ?_
    refine z_aload_n (i := 0) X.1 dX9_restore_34 0 rfl rfl ?_
    refine g_X9_kept X.1 tw836 dX9_restore_35 ?_
    refine z_iconst (v := (2 : Int32)) X.1 dX9_restore_38 (by decide) ?_
    refine al_X9_kept X.1 dX9_restore_39 h (fun h => ?_)
    refine p_X9_z X.1 X.2.1 tw822 dX9_restore_40 h (fun s2815 h => ?_)
    refine z_iconst (v := (0 : Int32)) X.1 dX9_restore_43 (by decide) ?_
    refine z_istore_n (i := 1) (lv' := [(1, .int (0 : Int32)), (0, .ref (zo κ.1 0))]) X.1 dX9_restore_44 rfl (by decide) rfl ?_
    exact z_sub [1, 0] rfl (B_X9_restore_45 X zF _ _ h)
  · refine z_aload_n (i := 0) X.1 dX9_restore_7 0 rfl rfl ?_
    refine z_iconst (v := (2 : Int32)) X.1 dX9_restore_8 (by decide) ?_
    obtain ⟨r2824, s2825, hc2826, h⟩ := bd_inv h
    refine cl_X9_79 (d1 := 0) (b := zo κ.1 0) (As := [.int (2 : Int32)]) (rest := []) X.1 (by decide) (C_X9_no X.2.1 hc2826) rcX9 rfl rfl (Nat.le_of_ble_eq_true rfl) dX9_restore_9 ?_
    exact z_iret X dX9_restore_12 h
theorem C_X9_restore {ζ : zW} (hZ : zDis ζ zM) {σ σ' : S3} {r : Int32} (h : F_X9_restore  σ = some (r, σ')) : zMet ζ zM 1 yX9_restore cX9_restore 2 (some .int) [.ref (zo ζ 0)] σ (some (.int r)) σ' :=
  zMet_of pn_X9 hZ (Nat.le_of_ble_eq_true rfl) (fun κ e X => by subst e; exact B_X9_restore_0 X h)
noncomputable def Fb_X9_sheetsThere_4 (K4 : Int32 → Int32 → S3 → R3) (v1 : Int32) (v2 : Int32) (σ : S3) : R3 :=
  if (4 : Int32) ≤ v2 then (some (v1, σ))
  else (ck v2 4 (if (σ 0 28 (ix v2)) = (0 : Int32) then (nm (v1 + (0 : Int32)) (fun x2831 => nm (v2 + (1 : Int32)) (fun x2832 => K4 x2831 x2832 σ)))
  else (nm (v1 + (1 : Int32)) (fun x2829 => nm (v2 + (1 : Int32)) (fun x2830 => K4 x2829 x2830 σ)))))
noncomputable def F_X9_sheetsThere_4 (n : Nat) : Int32 → Int32 → S3 → R3 := zl2 (Fb_X9_sheetsThere_4) n
set_option maxHeartbeats 4000000 in
set_option maxRecDepth 100000 in
theorem B_X9_sheetsThere_4 {κ : zT} {σ' : S3} {r : Int32} (X : zC κ zM RX9 cX9_sheetsThere 3 (some .int) 0 (some (.int r)) σ') : ∀ (n : Nat) (v1 : Int32) (v2 : Int32) (σ : S3), F_X9_sheetsThere_4 n v1 v2 σ = some (r, σ') → Z κ 3 (zM (ze κ.1) σ) [(0, .ref (zo κ.1 0)), (1, .int v1), (2, .int v2)] 4 [] := by
  intro n
  induction n with
  | zero =>
    intro v1 v2 σ h
    cases (show (none : R3) = some (r, σ') from h)
  | succ n ih =>
    intro v1 v2 σ h
    have hK4 := ih
    have h : Fb_X9_sheetsThere_4 (F_X9_sheetsThere_4 n) v1 v2 σ = some (r, σ') := h
    unfold Fb_X9_sheetsThere_4 at h
    refine z_iload_n (i := 2) X.1 dX9_sheetsThere_4 2 rfl rfl ?_
    refine z_iconst (v := (4 : Int32)) X.1 dX9_sheetsThere_5 (by decide) ?_
    refine z_icmp_ge (tgt := 32) X.1 dX9_sheetsThere_6 (by decide) h (fun q2827 h => ?_) (fun q2827 h => ?_)
    · refine z_iload_n (i := 1) X.1 dX9_sheetsThere_32 1 rfl rfl ?_
      exact z_iret X dX9_sheetsThere_33 h
    · refine z_iload_n (i := 1) X.1 dX9_sheetsThere_9 1 rfl rfl ?_
      refine z_aload_n (i := 0) X.1 dX9_sheetsThere_10 0 rfl rfl ?_
      refine g_X9_widths X.1 tw833 dX9_sheetsThere_11 ?_
      refine z_iload_n (i := 2) X.1 dX9_sheetsThere_14 2 rfl rfl ?_
      refine al_X9_widths X.1 dX9_sheetsThere_15 h (fun h => ?_)
      refine z_if_ne (tgt := 23) X.1 dX9_sheetsThere_16 (by decide) h (fun q2828 h => ?_) (fun q2828 h => ?_)
      · refine z_iconst (v := (1 : Int32)) X.1 dX9_sheetsThere_23 (by decide) ?_
        refine z_iadd X.1 dX9_sheetsThere_24 ?_
        refine z_istore_nn (i := 1) (lv' := fun x2829 => [(1, .int x2829), (0, .ref (zo κ.1 0)), (2, .int v2)]) X.1 dX9_sheetsThere_25 rfl (by decide) (fun _ => rfl) h (fun x2829 h => ?_)
        refine z_iinc_m (v := (1 : Int32)) (lv' := fun x2830 => [(2, .int x2830), (1, .int x2829), (0, .ref (zo κ.1 0))]) X.1 dX9_sheetsThere_26 2 rfl (by decide) (by decide) (fun _ => rfl) h (fun x2830 h => ?_)
        refine z_goto (tgt := 4) X.1 dX9_sheetsThere_29 (by decide) ?_
        exact z_sub [2, 1, 0] rfl (hK4 _ _ _ h)
      · refine z_iconst (v := (0 : Int32)) X.1 dX9_sheetsThere_19 (by decide) ?_
        refine z_goto (tgt := 24) X.1 dX9_sheetsThere_20 (by decide) ?_
        refine z_iadd X.1 dX9_sheetsThere_24 ?_
        refine z_istore_nn (i := 1) (lv' := fun x2831 => [(1, .int x2831), (0, .ref (zo κ.1 0)), (2, .int v2)]) X.1 dX9_sheetsThere_25 rfl (by decide) (fun _ => rfl) h (fun x2831 h => ?_)
        refine z_iinc_m (v := (1 : Int32)) (lv' := fun x2832 => [(2, .int x2832), (1, .int x2831), (0, .ref (zo κ.1 0))]) X.1 dX9_sheetsThere_26 2 rfl (by decide) (by decide) (fun _ => rfl) h (fun x2832 h => ?_)
        refine z_goto (tgt := 4) X.1 dX9_sheetsThere_29 (by decide) ?_
        exact z_sub [2, 1, 0] rfl (hK4 _ _ _ h)
noncomputable def F_X9_sheetsThere (σ : S3) : R3 :=
  F_X9_sheetsThere_4 zF (0 : Int32) (0 : Int32) σ
set_option maxHeartbeats 4000000 in
set_option maxRecDepth 100000 in
theorem B_X9_sheetsThere_0 {κ : zT} {σ' : S3} {r : Int32} (X : zC κ zM RX9 cX9_sheetsThere 3 (some .int) 0 (some (.int r)) σ') {σ : S3} (h : F_X9_sheetsThere σ = some (r, σ')) : Z κ 3 (zM (ze κ.1) σ) [(0, .ref (zo κ.1 0))] 0 [] := by
  unfold F_X9_sheetsThere at h
  refine z_iconst (v := (0 : Int32)) X.1 dX9_sheetsThere_0 (by decide) ?_
  refine z_istore_n (i := 1) (lv' := [(1, .int (0 : Int32)), (0, .ref (zo κ.1 0))]) X.1 dX9_sheetsThere_1 rfl (by decide) rfl ?_
  refine z_iconst (v := (0 : Int32)) X.1 dX9_sheetsThere_2 (by decide) ?_
  refine z_istore_n (i := 2) (lv' := [(2, .int (0 : Int32)), (1, .int (0 : Int32)), (0, .ref (zo κ.1 0))]) X.1 dX9_sheetsThere_3 rfl (by decide) rfl ?_
  exact z_sub [2, 1, 0] rfl (B_X9_sheetsThere_4 X zF _ _ _ h)
theorem C_X9_sheetsThere {ζ : zW} (hZ : zDis ζ zM) {σ σ' : S3} {r : Int32} (h : F_X9_sheetsThere  σ = some (r, σ')) : zMet ζ zM 0 yX9_sheetsThere cX9_sheetsThere 3 (some .int) [.ref (zo ζ 0)] σ (some (.int r)) σ' :=
  zMet_of pn_X9 hZ (Nat.le_of_ble_eq_true rfl) (fun κ e X => by subst e; exact B_X9_sheetsThere_0 X h)
noncomputable def F_X9_count (v1 : Int32) (σ : S3) : R3 :=
  (if v1 = (0 : Int32) then (some (σ 0 1 0, σ))
  else (if v1 = (1 : Int32) then (some (σ 0 2 0, σ))
  else (if v1 = (2 : Int32) then (some (σ 0 10 0, σ))
  else (if v1 = (3 : Int32) then (if (σ 0 11 0) = (0 : Int32) then (some ((0 : Int32), σ))
  else (some ((1 : Int32), σ)))
  else (if v1 = (4 : Int32) then (some (σ 0 17 0, σ))
  else (if v1 = (5 : Int32) then (bd (F_X9_sheetsThere σ) (fun r2840 s2841 => some (r2840, s2841)))
  else (bd (F_X9_no (1 : Int32) σ) (fun r2843 s2844 => some (r2843, s2844)))))))))
set_option maxHeartbeats 4000000 in
set_option maxRecDepth 100000 in
theorem B_X9_count_0 {κ : zT} {σ' : S3} {r : Int32} (X : zC κ zM RX9 cX9_count 2 (some .int) 1 (some (.int r)) σ') {v1 : Int32} {σ : S3} (h : F_X9_count v1 σ = some (r, σ')) : Z κ 2 (zM (ze κ.1) σ) [(0, .ref (zo κ.1 0)), (1, .int v1)] 0 [] := by
  unfold F_X9_count at h
  refine z_iload_n (i := 1) X.1 dX9_count_0 1 rfl rfl ?_
  by_cases q0 : v1 = (0 : Int32)
  · rw [if_pos q0] at h
    refine z_tabIn (tgt := 40) X.1 dX9_count_1 q0 (by decide) (by decide) rfl (by decide) ?_
    refine z_aload_n (i := 0) X.1 dX9_count_40 0 rfl rfl ?_
    refine g_X9_points X.1 tw806 dX9_count_41 ?_
    exact z_iret X dX9_count_44 h
  · rw [if_neg q0] at h
    by_cases q1 : v1 = (1 : Int32)
    · rw [if_pos q1] at h
      refine z_tabIn (tgt := 45) X.1 dX9_count_1 q1 (by decide) (by decide) rfl (by decide) ?_
      refine z_aload_n (i := 0) X.1 dX9_count_45 0 rfl rfl ?_
      refine g_X9_lines X.1 tw807 dX9_count_46 ?_
      exact z_iret X dX9_count_49 h
    · rw [if_neg q1] at h
      by_cases q2 : v1 = (2 : Int32)
      · rw [if_pos q2] at h
        refine z_tabIn (tgt := 50) X.1 dX9_count_1 q2 (by decide) (by decide) rfl (by decide) ?_
        refine z_aload_n (i := 0) X.1 dX9_count_50 0 rfl rfl ?_
        refine g_X9_taped X.1 tw815 dX9_count_51 ?_
        exact z_iret X dX9_count_54 h
      · rw [if_neg q2] at h
        by_cases q3 : v1 = (3 : Int32)
        · rw [if_pos q3] at h
          refine z_tabIn (tgt := 55) X.1 dX9_count_1 q3 (by decide) (by decide) rfl (by decide) ?_
          refine z_aload_n (i := 0) X.1 dX9_count_55 0 rfl rfl ?_
          refine g_X9_hasGame X.1 tw816 dX9_count_56 ?_
          refine z_if_eq (tgt := 66) X.1 dX9_count_59 (by decide) h (fun q2837 h => ?_) (fun q2837 h => ?_)
          · refine z_iconst (v := (0 : Int32)) X.1 dX9_count_66 (by decide) ?_
            exact z_iret X dX9_count_67 h
          · refine z_iconst (v := (1 : Int32)) X.1 dX9_count_62 (by decide) ?_
            refine z_goto (tgt := 67) X.1 dX9_count_63 (by decide) ?_
            exact z_iret X dX9_count_67 h
        · rw [if_neg q3] at h
          by_cases q4 : v1 = (4 : Int32)
          · rw [if_pos q4] at h
            refine z_tabIn (tgt := 68) X.1 dX9_count_1 q4 (by decide) (by decide) rfl (by decide) ?_
            refine z_aload_n (i := 0) X.1 dX9_count_68 0 rfl rfl ?_
            refine g_X9_z X.1 tw822 dX9_count_69 ?_
            exact z_iret X dX9_count_72 h
          · rw [if_neg q4] at h
            by_cases q5 : v1 = (5 : Int32)
            · rw [if_pos q5] at h
              refine z_tabIn (tgt := 73) X.1 dX9_count_1 q5 (by decide) (by decide) rfl (by decide) ?_
              refine z_aload_n (i := 0) X.1 dX9_count_73 0 rfl rfl ?_
              obtain ⟨r2840, s2841, hc2842, h⟩ := bd_inv h
              refine cl_X9_292 (d1 := 0) (b := zo κ.1 0) (As := []) (rest := []) X.1 (by decide) (C_X9_sheetsThere X.2.1 hc2842) rcX9 rfl rfl (Nat.le_of_ble_eq_true rfl) dX9_count_74 ?_
              exact z_iret X dX9_count_77 h
            · rw [if_neg q5] at h
              have t0 : v1.toInt ≠ 0 := tab_ne q0
              have t1 : v1.toInt ≠ 1 := tab_ne q1
              have t2 : v1.toInt ≠ 2 := tab_ne q2
              have t3 : v1.toInt ≠ 3 := tab_ne q3
              have t4 : v1.toInt ≠ 4 := tab_ne q4
              have t5 : v1.toInt ≠ 5 := tab_ne q5
              refine z_tabOut (tgt := 78) X.1 dX9_count_1 (by omega) (by decide) ?_
              refine z_aload_n (i := 0) X.1 dX9_count_78 0 rfl rfl ?_
              refine z_iconst (v := (1 : Int32)) X.1 dX9_count_79 (by decide) ?_
              obtain ⟨r2843, s2844, hc2845, h⟩ := bd_inv h
              refine cl_X9_79 (d1 := 0) (b := zo κ.1 0) (As := [.int (1 : Int32)]) (rest := []) X.1 (by decide) (C_X9_no X.2.1 hc2845) rcX9 rfl rfl (Nat.le_of_ble_eq_true rfl) dX9_count_80 ?_
              exact z_iret X dX9_count_83 h
theorem C_X9_count {ζ : zW} (hZ : zDis ζ zM) {v1 : Int32} {σ σ' : S3} {r : Int32} (h : F_X9_count v1 σ = some (r, σ')) : zMet ζ zM 1 yX9_count cX9_count 2 (some .int) [.ref (zo ζ 0), .int v1] σ (some (.int r)) σ' :=
  zMet_of pn_X9 hZ (Nat.le_of_ble_eq_true rfl) (fun κ e X => by subst e; exact B_X9_count_0 X h)
noncomputable def F_X9_told (v1 : Int32) (σ : S3) : R3 :=
  bd (F_X9_in v1 (1 : Int32) (6 : Int32) σ) (fun r2846 s2847 => if r2846 = (0 : Int32) then (bd (F_X9_no (1 : Int32) s2847) (fun r2850 s2851 => some (r2850, s2851)))
  else (ck v1 7 (some (s2847 0 0 (ix v1), s2847))))
set_option maxHeartbeats 4000000 in
set_option maxRecDepth 100000 in
theorem B_X9_told_0 {κ : zT} {σ' : S3} {r : Int32} (X : zC κ zM RX9 cX9_told 2 (some .int) 1 (some (.int r)) σ') {v1 : Int32} {σ : S3} (h : F_X9_told v1 σ = some (r, σ')) : Z κ 2 (zM (ze κ.1) σ) [(0, .ref (zo κ.1 0)), (1, .int v1)] 0 [] := by
  unfold F_X9_told at h
  refine z_iload_n (i := 1) X.1 dX9_told_0 1 rfl rfl ?_
  refine z_iconst (v := (1 : Int32)) X.1 dX9_told_1 (by decide) ?_
  refine z_bipush (v := (6 : Int32)) X.1 dX9_told_2 (by decide) ?_
  obtain ⟨r2846, s2847, hc2848, h⟩ := bd_inv h
  refine cl_X9_68 (d1 := 0) (As := [.int v1, .int (1 : Int32), .int (6 : Int32)]) (rest := []) X.1 (by decide) (C_X9_in X.2.1 hc2848) rfl rfl (Nat.le_of_ble_eq_true rfl) dX9_told_4 ?_
  refine z_if_eq (tgt := 19) X.1 dX9_told_7 (by decide) h (fun q2849 h => ?_) (fun q2849 h => ?_)
  · refine z_aload_n (i := 0) X.1 dX9_told_19 0 rfl rfl ?_
    refine z_iconst (v := (1 : Int32)) X.1 dX9_told_20 (by decide) ?_
    obtain ⟨r2850, s2851, hc2852, h⟩ := bd_inv h
    refine cl_X9_79 (d1 := 0) (b := zo κ.1 0) (As := [.int (1 : Int32)]) (rest := []) X.1 (by decide) (C_X9_no X.2.1 hc2852) rcX9 rfl rfl (Nat.le_of_ble_eq_true rfl) dX9_told_21 ?_
    exact z_iret X dX9_told_24 h
  · refine z_aload_n (i := 0) X.1 dX9_told_10 0 rfl rfl ?_
    refine g_X9_errors X.1 tw805 dX9_told_11 ?_
    refine z_iload_n (i := 1) X.1 dX9_told_14 1 rfl rfl ?_
    refine al_X9_errors X.1 dX9_told_15 h (fun h => ?_)
    refine z_goto (tgt := 24) X.1 dX9_told_16 (by decide) ?_
    exact z_iret X dX9_told_24 h
theorem C_X9_told {ζ : zW} (hZ : zDis ζ zM) {v1 : Int32} {σ σ' : S3} {r : Int32} (h : F_X9_told v1 σ = some (r, σ')) : zMet ζ zM 1 yX9_told cX9_told 2 (some .int) [.ref (zo ζ 0), .int v1] σ (some (.int r)) σ' :=
  zMet_of pn_X9 hZ (Nat.le_of_ble_eq_true rfl) (fun κ e X => by subst e; exact B_X9_told_0 X h)
