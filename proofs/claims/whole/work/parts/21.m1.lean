noncomputable def Fb_X9_kernel_15 (v1 : Int32) (K15 : Int32 → Int32 → S3 → R3) (v2 : Int32) (v3 : Int32) (σ : S3) : R3 :=
  bd (F_X9_all σ) (fun r1759 s1760 => if r1759 < v3 then (if v1 = (-1 : Int32) then (some (v2, s1760))
  else (bd (F_X9_no (2 : Int32) s1760) (fun r1764 s1765 => some (r1764, s1765))))
  else (bd (F_X9_isKernel v3 s1760) (fun r1767 s1768 => if r1767 = (0 : Int32) then (nm (v3 + (1 : Int32)) (fun x1771 => K15 v2 x1771 s1768))
  else (if v2 = v1 then (some (v3, s1768))
  else (nm (v2 + (1 : Int32)) (fun x1773 => nm (v3 + (1 : Int32)) (fun x1774 => K15 x1773 x1774 s1768)))))))
noncomputable def F_X9_kernel_15 (v1 : Int32) (n : Nat) : Int32 → Int32 → S3 → R3 := zl2 (Fb_X9_kernel_15 v1) n
set_option maxHeartbeats 4000000 in
set_option maxRecDepth 100000 in
theorem B_X9_kernel_15 {κ : zT} {σ' : S3} {r : Int32} (X : zC κ zM RX9 cX9_kernel 4 (some .int) 2 (some (.int r)) σ') {v1 : Int32} : ∀ (n : Nat) (v2 : Int32) (v3 : Int32) (σ : S3), F_X9_kernel_15 v1 n v2 v3 σ = some (r, σ') → Z κ 4 (zM (ze κ.1) σ) [(0, .ref (zo κ.1 0)), (1, .int v1), (2, .int v2), (3, .int v3)] 15 [] := by
  intro n
  induction n with
  | zero =>
    intro v2 v3 σ h
    cases (show (none : R3) = some (r, σ') from h)
  | succ n ih =>
    intro v2 v3 σ h
    have hK15 := ih
    have h : Fb_X9_kernel_15 v1 (F_X9_kernel_15 v1 n) v2 v3 σ = some (r, σ') := h
    unfold Fb_X9_kernel_15 at h
    refine z_iload_n (i := 3) X.1 dX9_kernel_15 3 rfl rfl ?_
    refine z_aload_n (i := 0) X.1 dX9_kernel_16 0 rfl rfl ?_
    obtain ⟨r1759, s1760, hc1761, h⟩ := bd_inv h
    refine cl_X9_129 (d1 := 0) (b := zo κ.1 0) (As := []) (rest := [.int v3]) X.1 (by decide) (C_X9_all X.2.1 hc1761) rcX9 rfl rfl (Nat.le_of_ble_eq_true rfl) dX9_kernel_17 ?_
    refine z_icmp_gt (tgt := 47) X.1 dX9_kernel_20 (by decide) h (fun q1762 h => ?_) (fun q1762 h => ?_)
    · refine z_iload_n (i := 1) X.1 dX9_kernel_47 1 rfl rfl ?_
      refine z_iconst (v := (-1 : Int32)) X.1 dX9_kernel_48 (by decide) ?_
      refine z_icmp_ne (tgt := 56) X.1 dX9_kernel_49 (by decide) h (fun q1763 h => ?_) (fun q1763 h => ?_)
      · refine z_aload_n (i := 0) X.1 dX9_kernel_56 0 rfl rfl ?_
        refine z_iconst (v := (2 : Int32)) X.1 dX9_kernel_57 (by decide) ?_
        obtain ⟨r1764, s1765, hc1766, h⟩ := bd_inv h
        refine cl_X9_79 (d1 := 0) (b := zo κ.1 0) (As := [.int (2 : Int32)]) (rest := []) X.1 (by decide) (C_X9_no X.2.1 hc1766) rcX9 rfl rfl (Nat.le_of_ble_eq_true rfl) dX9_kernel_58 ?_
        exact z_iret X dX9_kernel_61 h
      · refine z_iload_n (i := 2) X.1 dX9_kernel_52 2 rfl rfl ?_
        refine z_goto (tgt := 61) X.1 dX9_kernel_53 (by decide) ?_
        exact z_iret X dX9_kernel_61 h
    · refine z_aload_n (i := 0) X.1 dX9_kernel_23 0 rfl rfl ?_
      refine z_iload_n (i := 3) X.1 dX9_kernel_24 3 rfl rfl ?_
      obtain ⟨r1767, s1768, hc1769, h⟩ := bd_inv h
      refine cl_X9_136 (d1 := 1) (b := zo κ.1 0) (As := [.int v3]) (rest := []) X.1 (by decide) (C_X9_isKernel X.2.1 hc1769) rcX9 rfl rfl (Nat.le_of_ble_eq_true rfl) dX9_kernel_25 ?_
      refine z_if_eq (tgt := 41) X.1 dX9_kernel_28 (by decide) h (fun q1770 h => ?_) (fun q1770 h => ?_)
      · refine z_iinc_m (v := (1 : Int32)) (lv' := fun x1771 => [(3, .int x1771), (0, .ref (zo κ.1 0)), (1, .int v1), (2, .int v2)]) X.1 dX9_kernel_41 3 rfl (by decide) (by decide) (fun _ => rfl) h (fun x1771 h => ?_)
        refine z_goto (tgt := 15) X.1 dX9_kernel_44 (by decide) ?_
        exact z_sub [1, 2, 3, 0] rfl (hK15 _ _ _ h)
      · refine z_iload_n (i := 2) X.1 dX9_kernel_31 2 rfl rfl ?_
        refine z_iload_n (i := 1) X.1 dX9_kernel_32 1 rfl rfl ?_
        refine z_icmp_ne (tgt := 38) X.1 dX9_kernel_33 (by decide) h (fun q1772 h => ?_) (fun q1772 h => ?_)
        · refine z_iinc_m (v := (1 : Int32)) (lv' := fun x1773 => [(2, .int x1773), (0, .ref (zo κ.1 0)), (1, .int v1), (3, .int v3)]) X.1 dX9_kernel_38 2 rfl (by decide) (by decide) (fun _ => rfl) h (fun x1773 h => ?_)
          refine z_iinc_m (v := (1 : Int32)) (lv' := fun x1774 => [(3, .int x1774), (2, .int x1773), (0, .ref (zo κ.1 0)), (1, .int v1)]) X.1 dX9_kernel_41 3 rfl (by decide) (by decide) (fun _ => rfl) h (fun x1774 h => ?_)
          refine z_goto (tgt := 15) X.1 dX9_kernel_44 (by decide) ?_
          exact z_sub [2, 3, 1, 0] rfl (hK15 _ _ _ h)
        · refine z_iload_n (i := 3) X.1 dX9_kernel_36 3 rfl rfl ?_
          exact z_iret X dX9_kernel_37 h
noncomputable def F_X9_kernel (v1 : Int32) (σ : S3) : R3 :=
  if (-1 : Int32) ≤ v1 then (F_X9_kernel_15 v1 zF (0 : Int32) (0 : Int32) σ)
  else (bd (F_X9_no (1 : Int32) σ) (fun r1775 s1776 => some (r1775, s1776)))
set_option maxHeartbeats 4000000 in
set_option maxRecDepth 100000 in
theorem B_X9_kernel_0 {κ : zT} {σ' : S3} {r : Int32} (X : zC κ zM RX9 cX9_kernel 4 (some .int) 2 (some (.int r)) σ') {v1 : Int32} {σ : S3} (h : F_X9_kernel v1 σ = some (r, σ')) : Z κ 4 (zM (ze κ.1) σ) [(0, .ref (zo κ.1 0)), (1, .int v1)] 0 [] := by
  unfold F_X9_kernel at h
  refine z_iload_n (i := 1) X.1 dX9_kernel_0 1 rfl rfl ?_
  refine z_iconst (v := (-1 : Int32)) X.1 dX9_kernel_1 (by decide) ?_
  refine z_icmp_ge (tgt := 11) X.1 dX9_kernel_2 (by decide) h (fun q1758 h => ?_) (fun q1758 h => ?_)
  · refine z_iconst (v := (0 : Int32)) X.1 dX9_kernel_11 (by decide) ?_
    refine z_istore_n (i := 2) (lv' := [(2, .int (0 : Int32)), (0, .ref (zo κ.1 0)), (1, .int v1)]) X.1 dX9_kernel_12 rfl (by decide) rfl ?_
    refine z_iconst (v := (0 : Int32)) X.1 dX9_kernel_13 (by decide) ?_
    refine z_istore_n (i := 3) (lv' := [(3, .int (0 : Int32)), (2, .int (0 : Int32)), (0, .ref (zo κ.1 0)), (1, .int v1)]) X.1 dX9_kernel_14 rfl (by decide) rfl ?_
    exact z_sub [2, 3, 1, 0] rfl (B_X9_kernel_15 X zF _ _ _ h)
  · refine z_aload_n (i := 0) X.1 dX9_kernel_5 0 rfl rfl ?_
    refine z_iconst (v := (1 : Int32)) X.1 dX9_kernel_6 (by decide) ?_
    obtain ⟨r1775, s1776, hc1777, h⟩ := bd_inv h
    refine cl_X9_79 (d1 := 0) (b := zo κ.1 0) (As := [.int (1 : Int32)]) (rest := []) X.1 (by decide) (C_X9_no X.2.1 hc1777) rcX9 rfl rfl (Nat.le_of_ble_eq_true rfl) dX9_kernel_7 ?_
    exact z_iret X dX9_kernel_10 h
theorem C_X9_kernel {ζ : zW} (hZ : zDis ζ zM) {v1 : Int32} {σ σ' : S3} {r : Int32} (h : F_X9_kernel v1 σ = some (r, σ')) : zMet ζ zM 2 yX9_kernel cX9_kernel 4 (some .int) [.ref (zo ζ 0), .int v1] σ (some (.int r)) σ' :=
  zMet_of pn_X9 hZ (Nat.le_of_ble_eq_true rfl) (fun κ e X => by subst e; exact B_X9_kernel_0 X h)
noncomputable def Fb_X9_feed_36 (v1 : Int64) (v3 : Int32) (K36 : Int32 → S3 → R3) (v4 : Int32) (σ : S3) : R3 :=
  if v3 ≤ v4 then (some (σ 0 10 0, σ))
  else (ck (σ 0 10 0) 60 (nm (up σ 0 9 (ix (σ 0 10 0)) (Int64.toInt32 ((v1 >>> (Int32.toInt64 ((8 : Int32) * v4) &&& 63)) &&& (255 : Int64)))) (fun s1784 => nm (up s1784 0 10 0 ((s1784 0 10 0) + (1 : Int32))) (fun s1785 => nm (v4 + (1 : Int32)) (fun x1786 => K36 x1786 s1785)))))
noncomputable def F_X9_feed_36 (v1 : Int64) (v3 : Int32) (n : Nat) : Int32 → S3 → R3 := zl1 (Fb_X9_feed_36 v1 v3) n
set_option maxHeartbeats 4000000 in
set_option maxRecDepth 100000 in
theorem B_X9_feed_36 {κ : zT} {σ' : S3} {r : Int32} (X : zC κ zM RX9 cX9_feed 5 (some .int) 1 (some (.int r)) σ') {v1 : Int64} {v3 : Int32} : ∀ (n : Nat) (v4 : Int32) (σ : S3), F_X9_feed_36 v1 v3 n v4 σ = some (r, σ') → Z κ 5 (zM (ze κ.1) σ) [(0, .ref (zo κ.1 0)), (1, .long v1), (3, .int v3), (4, .int v4)] 36 [] := by
  intro n
  induction n with
  | zero =>
    intro v4 σ h
    cases (show (none : R3) = some (r, σ') from h)
  | succ n ih =>
    intro v4 σ h
    have hK36 := ih
    have h : Fb_X9_feed_36 v1 v3 (F_X9_feed_36 v1 v3 n) v4 σ = some (r, σ') := h
    unfold Fb_X9_feed_36 at h
    refine z_iload X.1 dX9_feed_36 3 rfl ?_
    refine z_iload_n (i := 3) X.1 dX9_feed_38 2 rfl rfl ?_
    refine z_icmp_ge (tgt := 79) X.1 dX9_feed_39 (by decide) h (fun q1783 h => ?_) (fun q1783 h => ?_)
    · refine z_aload_n (i := 0) X.1 dX9_feed_79 0 rfl rfl ?_
      refine g_X9_taped X.1 tw815 dX9_feed_80 ?_
      exact z_iret X dX9_feed_83 h
    · refine z_aload_n (i := 0) X.1 dX9_feed_42 0 rfl rfl ?_
      refine g_X9_tape X.1 tw814 dX9_feed_43 ?_
      refine z_aload_n (i := 0) X.1 dX9_feed_46 0 rfl rfl ?_
      refine g_X9_taped X.1 tw815 dX9_feed_47 ?_
      refine z_lload_n (i := 1) X.1 dX9_feed_50 1 rfl rfl ?_
      refine z_bipush (v := (8 : Int32)) X.1 dX9_feed_51 (by decide) ?_
      refine z_iload X.1 dX9_feed_53 3 rfl ?_
      refine z_imul X.1 dX9_feed_55 ?_
      refine z_lshr X.1 dX9_feed_56 ?_
      refine z_ldc2_w (v := (255 : Int64)) X.1 dX9_feed_57 tw1016 ?_
      refine z_land X.1 dX9_feed_60 ?_
      refine z_l2i X.1 dX9_feed_61 ?_
      refine as_X9_tape X.1 X.2.1 dX9_feed_62 h (fun s1784 h => ?_)
      refine z_aload_n (i := 0) X.1 dX9_feed_63 0 rfl rfl ?_
      refine z_dup X.1 dX9_feed_64 rfl ?_
      refine g_X9_taped X.1 tw815 dX9_feed_65 ?_
      refine z_iconst (v := (1 : Int32)) X.1 dX9_feed_68 (by decide) ?_
      refine z_iadd X.1 dX9_feed_69 ?_
      refine p_X9_taped X.1 X.2.1 tw815 dX9_feed_70 h (fun s1785 h => ?_)
      refine z_iinc_m (v := (1 : Int32)) (lv' := fun x1786 => [(4, .int x1786), (0, .ref (zo κ.1 0)), (1, .long v1), (3, .int v3)]) X.1 dX9_feed_73 3 rfl (by decide) (by decide) (fun _ => rfl) h (fun x1786 h => ?_)
      refine z_goto (tgt := 36) X.1 dX9_feed_76 (by decide) ?_
      exact z_sub [1, 2, 3, 0] rfl (hK36 _ _ h)
noncomputable def F_X9_feed (v1 : Int64) (v3 : Int32) (σ : S3) : R3 :=
  bd (F_X9_in v3 (1 : Int32) (8 : Int32) σ) (fun r1778 s1779 => if r1778 = (0 : Int32) then (bd (F_X9_no (1 : Int32) s1779) (fun r1790 s1791 => some (r1790, s1791)))
  else (if ((s1779 0 10 0) + v3) ≤ (60 : Int32) then (F_X9_feed_36 v1 v3 zF (0 : Int32) s1779)
  else (bd (F_X9_no (4 : Int32) s1779) (fun r1787 s1788 => some (r1787, s1788)))))
set_option maxHeartbeats 4000000 in
set_option maxRecDepth 100000 in
theorem B_X9_feed_0 {κ : zT} {σ' : S3} {r : Int32} (X : zC κ zM RX9 cX9_feed 5 (some .int) 1 (some (.int r)) σ') {v1 : Int64} {v3 : Int32} {σ : S3} (h : F_X9_feed v1 v3 σ = some (r, σ')) : Z κ 5 (zM (ze κ.1) σ) [(0, .ref (zo κ.1 0)), (1, .long v1), (3, .int v3)] 0 [] := by
  unfold F_X9_feed at h
  refine z_iload_n (i := 3) X.1 dX9_feed_0 2 rfl rfl ?_
  refine z_iconst (v := (1 : Int32)) X.1 dX9_feed_1 (by decide) ?_
  refine z_bipush (v := (8 : Int32)) X.1 dX9_feed_2 (by decide) ?_
  obtain ⟨r1778, s1779, hc1780, h⟩ := bd_inv h
  refine cl_X9_68 (d1 := 0) (As := [.int v3, .int (1 : Int32), .int (8 : Int32)]) (rest := []) X.1 (by decide) (C_X9_in X.2.1 hc1780) rfl rfl (Nat.le_of_ble_eq_true rfl) dX9_feed_4 ?_
  refine z_if_ne (tgt := 16) X.1 dX9_feed_7 (by decide) h (fun q1781 h => ?_) (fun q1781 h => ?_)
  · refine z_aload_n (i := 0) X.1 dX9_feed_16 0 rfl rfl ?_
    refine g_X9_taped X.1 tw815 dX9_feed_17 ?_
    refine z_iload_n (i := 3) X.1 dX9_feed_20 2 rfl rfl ?_
    refine z_iadd X.1 dX9_feed_21 ?_
    refine z_bipush (v := (60 : Int32)) X.1 dX9_feed_22 (by decide) ?_
    refine z_icmp_le (tgt := 33) X.1 dX9_feed_24 (by decide) h (fun q1782 h => ?_) (fun q1782 h => ?_)
    · refine z_iconst (v := (0 : Int32)) X.1 dX9_feed_33 (by decide) ?_
      refine z_istore (i := 4) (lv' := [(4, .int (0 : Int32)), (0, .ref (zo κ.1 0)), (1, .long v1), (3, .int v3)]) X.1 dX9_feed_34 (by decide) rfl ?_
      exact z_sub [1, 2, 3, 0] rfl (B_X9_feed_36 X zF _ _ h)
    · refine z_aload_n (i := 0) X.1 dX9_feed_27 0 rfl rfl ?_
      refine z_iconst (v := (4 : Int32)) X.1 dX9_feed_28 (by decide) ?_
      obtain ⟨r1787, s1788, hc1789, h⟩ := bd_inv h
      refine cl_X9_79 (d1 := 0) (b := zo κ.1 0) (As := [.int (4 : Int32)]) (rest := []) X.1 (by decide) (C_X9_no X.2.1 hc1789) rcX9 rfl rfl (Nat.le_of_ble_eq_true rfl) dX9_feed_29 ?_
      exact z_iret X dX9_feed_32 h
  · refine z_aload_n (i := 0) X.1 dX9_feed_10 0 rfl rfl ?_
    refine z_iconst (v := (1 : Int32)) X.1 dX9_feed_11 (by decide) ?_
    obtain ⟨r1790, s1791, hc1792, h⟩ := bd_inv h
    refine cl_X9_79 (d1 := 0) (b := zo κ.1 0) (As := [.int (1 : Int32)]) (rest := []) X.1 (by decide) (C_X9_no X.2.1 hc1792) rcX9 rfl rfl (Nat.le_of_ble_eq_true rfl) dX9_feed_12 ?_
    exact z_iret X dX9_feed_15 h
theorem C_X9_feed {ζ : zW} (hZ : zDis ζ zM) {v1 : Int64} {v3 : Int32} {σ σ' : S3} {r : Int32} (h : F_X9_feed v1 v3 σ = some (r, σ')) : zMet ζ zM 1 yX9_feed cX9_feed 5 (some .int) [.ref (zo ζ 0), .long v1, .int v3] σ (some (.int r)) σ' :=
  zMet_of pn_X9 hZ (Nat.le_of_ble_eq_true rfl) (fun κ e X => by subst e; exact B_X9_feed_0 X h)
noncomputable def F_X9_here (v1 : Int32) (σ : S3) : R3 :=
  if (σ 0 10 0) ≤ v1 then (some ((-1 : Int32), σ))
  else (ck v1 60 (some (σ 0 9 (ix v1), σ)))
set_option maxHeartbeats 4000000 in
set_option maxRecDepth 100000 in
theorem B_X9_here_0 {κ : zT} {σ' : S3} {r : Int32} (X : zC κ zM RX9 cX9_here 2 (some .int) 0 (some (.int r)) σ') {v1 : Int32} {σ : S3} (h : F_X9_here v1 σ = some (r, σ')) : Z κ 2 (zM (ze κ.1) σ) [(0, .ref (zo κ.1 0)), (1, .int v1)] 0 [] := by
  unfold F_X9_here at h
  refine z_iload_n (i := 1) X.1 dX9_here_0 1 rfl rfl ?_
  refine z_aload_n (i := 0) X.1 dX9_here_1 0 rfl rfl ?_
  refine g_X9_taped X.1 tw815 dX9_here_2 ?_
  refine z_icmp_ge (tgt := 17) X.1 dX9_here_5 (by decide) h (fun q1793 h => ?_) (fun q1793 h => ?_)
  · refine z_iconst (v := (-1 : Int32)) X.1 dX9_here_17 (by decide) ?_
    exact z_iret X dX9_here_18 h
  · refine z_aload_n (i := 0) X.1 dX9_here_8 0 rfl rfl ?_
    refine g_X9_tape X.1 tw814 dX9_here_9 ?_
    refine z_iload_n (i := 1) X.1 dX9_here_12 1 rfl rfl ?_
    refine al_X9_tape X.1 dX9_here_13 h (fun h => ?_)
    refine z_goto (tgt := 18) X.1 dX9_here_14 (by decide) ?_
    exact z_iret X dX9_here_18 h
theorem C_X9_here {ζ : zW} (hZ : zDis ζ zM) {v1 : Int32} {σ σ' : S3} {r : Int32} (h : F_X9_here v1 σ = some (r, σ')) : zMet ζ zM 0 yX9_here cX9_here 2 (some .int) [.ref (zo ζ 0), .int v1] σ (some (.int r)) σ' :=
  zMet_of pn_X9 hZ (Nat.le_of_ble_eq_true rfl) (fun κ e X => by subst e; exact B_X9_here_0 X h)
noncomputable def F_X9_faultOf_57 (K4 : Int32 → Int32 → S3 → R3) (v1 : Int32) (v2 : Int32) (σ : S3) : R3 :=
  bd (F_X9_here (v1 + (2 : Int32)) σ) (fun r1806 s1807 => bd (F_X9_in r1806 (97 : Int32) (106 : Int32) s1807) (fun r1809 s1810 => if r1809 = (0 : Int32) then (some (v1 + (2 : Int32), s1810))
  else (bd (F_X9_here (v1 + (2 : Int32)) s1810) (fun r1813 s1814 => bd (F_X9_here v1 s1814) (fun r1816 s1817 => if r1813 = r1816 then (some (v1 + (2 : Int32), s1817))
  else (nm (v1 + (3 : Int32)) (fun x1820 => if x1820 = (s1817 0 10 0) then (some ((-1 : Int32), s1817))
  else (bd (F_X9_here x1820 s1817) (fun r1822 s1823 => if r1822 = (44 : Int32) then (nm (x1820 + (1 : Int32)) (fun x1826 => nm (v2 + (1 : Int32)) (fun x1827 => K4 x1826 x1827 s1823)))
  else (some (x1820, s1823)))))))))))
set_option maxHeartbeats 4000000 in
set_option maxRecDepth 100000 in
theorem B_X9_faultOf_57 {κ : zT} {σ' : S3} {r : Int32} (X : zC κ zM RX9 cX9_faultOf 4 (some .int) 1 (some (.int r)) σ') {K4 : Int32 → Int32 → S3 → R3} {v1 : Int32} {v2 : Int32} {σ : S3} (hK4 : ∀ (w1 : Int32) (w2 : Int32) (s1 : S3), K4 w1 w2 s1 = some (r, σ') → Z κ 4 (zM (ze κ.1) s1) [(0, .ref (zo κ.1 0)), (1, .int w1), (2, .int w2)] 4 []) (h : F_X9_faultOf_57 K4 v1 v2 σ = some (r, σ')) : Z κ 4 (zM (ze κ.1) σ) [(0, .ref (zo κ.1 0)), (1, .int v1), (2, .int v2)] 57 [] := by
  unfold F_X9_faultOf_57 at h
  refine z_aload_n (i := 0) X.1 dX9_faultOf_57 0 rfl rfl ?_
  refine z_iload_n (i := 1) X.1 dX9_faultOf_58 1 rfl rfl ?_
  refine z_iconst (v := (2 : Int32)) X.1 dX9_faultOf_59 (by decide) ?_
  refine z_iadd X.1 dX9_faultOf_60 ?_
  obtain ⟨r1806, s1807, hc1808, h⟩ := bd_inv h
  refine cl_X9_144 (d1 := 0) (b := zo κ.1 0) (As := [.int (v1 + (2 : Int32))]) (rest := []) X.1 (by decide) (C_X9_here X.2.1 hc1808) rcX9 rfl rfl (Nat.le_of_ble_eq_true rfl) dX9_faultOf_61 ?_
  refine z_bipush (v := (97 : Int32)) X.1 dX9_faultOf_64 (by decide) ?_
  refine z_bipush (v := (106 : Int32)) X.1 dX9_faultOf_66 (by decide) ?_
  obtain ⟨r1809, s1810, hc1811, h⟩ := bd_inv h
  refine cl_X9_68 (d1 := 0) (As := [.int r1806, .int (97 : Int32), .int (106 : Int32)]) (rest := []) X.1 (by decide) (C_X9_in X.2.1 hc1811) rfl rfl (Nat.le_of_ble_eq_true rfl) dX9_faultOf_68 ?_
  refine z_if_eq (tgt := 89) X.1 dX9_faultOf_71 (by decide) h (fun q1812 h => ?_) (fun q1812 h => ?_)
  · refine z_iload_n (i := 1) X.1 dX9_faultOf_89 1 rfl rfl ?_
    refine z_iconst (v := (2 : Int32)) X.1 dX9_faultOf_90 (by decide) ?_
    refine z_iadd X.1 dX9_faultOf_91 ?_
    exact z_iret X dX9_faultOf_92 h
  · refine z_aload_n (i := 0) X.1 dX9_faultOf_74 0 rfl rfl ?_
    refine z_iload_n (i := 1) X.1 dX9_faultOf_75 1 rfl rfl ?_
    refine z_iconst (v := (2 : Int32)) X.1 dX9_faultOf_76 (by decide) ?_
    refine z_iadd X.1 dX9_faultOf_77 ?_
    obtain ⟨r1813, s1814, hc1815, h⟩ := bd_inv h
    refine cl_X9_144 (d1 := 0) (b := zo κ.1 0) (As := [.int (v1 + (2 : Int32))]) (rest := []) X.1 (by decide) (C_X9_here X.2.1 hc1815) rcX9 rfl rfl (Nat.le_of_ble_eq_true rfl) dX9_faultOf_78 ?_
    refine z_aload_n (i := 0) X.1 dX9_faultOf_81 0 rfl rfl ?_
    refine z_iload_n (i := 1) X.1 dX9_faultOf_82 1 rfl rfl ?_
    obtain ⟨r1816, s1817, hc1818, h⟩ := bd_inv h
    refine cl_X9_144 (d1 := 0) (b := zo κ.1 0) (As := [.int v1]) (rest := [.int r1813]) X.1 (by decide) (C_X9_here X.2.1 hc1818) rcX9 rfl rfl (Nat.le_of_ble_eq_true rfl) dX9_faultOf_83 ?_
    refine z_icmp_ne (tgt := 93) X.1 dX9_faultOf_86 (by decide) h (fun q1819 h => ?_) (fun q1819 h => ?_)
    · refine z_iinc_m (v := (3 : Int32)) (lv' := fun x1820 => [(1, .int x1820), (0, .ref (zo κ.1 0)), (2, .int v2)]) X.1 dX9_faultOf_93 1 rfl (by decide) (by decide) (fun _ => rfl) h (fun x1820 h => ?_)
      refine z_iload_n (i := 1) X.1 dX9_faultOf_96 0 rfl rfl ?_
      refine z_aload_n (i := 0) X.1 dX9_faultOf_97 1 rfl rfl ?_
      refine g_X9_taped X.1 tw815 dX9_faultOf_98 ?_
      refine z_icmp_ne (tgt := 106) X.1 dX9_faultOf_101 (by decide) h (fun q1821 h => ?_) (fun q1821 h => ?_)
      · refine z_aload_n (i := 0) X.1 dX9_faultOf_106 1 rfl rfl ?_
        refine z_iload_n (i := 1) X.1 dX9_faultOf_107 0 rfl rfl ?_
        obtain ⟨r1822, s1823, hc1824, h⟩ := bd_inv h
        refine cl_X9_144 (d1 := 0) (b := zo κ.1 0) (As := [.int x1820]) (rest := []) X.1 (by decide) (C_X9_here X.2.1 hc1824) rcX9 rfl rfl (Nat.le_of_ble_eq_true rfl) dX9_faultOf_108 ?_
        refine z_bipush (v := (44 : Int32)) X.1 dX9_faultOf_111 (by decide) ?_
        refine z_icmp_eq (tgt := 118) X.1 dX9_faultOf_113 (by decide) h (fun q1825 h => ?_) (fun q1825 h => ?_)
        · refine z_iinc_m (v := (1 : Int32)) (lv' := fun x1826 => [(1, .int x1826), (0, .ref (zo κ.1 0)), (2, .int v2)]) X.1 dX9_faultOf_118 0 rfl (by decide) (by decide) (fun _ => rfl) h (fun x1826 h => ?_)
          refine z_iinc_m (v := (1 : Int32)) (lv' := fun x1827 => [(2, .int x1827), (1, .int x1826), (0, .ref (zo κ.1 0))]) X.1 dX9_faultOf_121 2 rfl (by decide) (by decide) (fun _ => rfl) h (fun x1827 h => ?_)
          refine z_goto (tgt := 4) X.1 dX9_faultOf_124 (by decide) ?_
          exact z_sub [2, 1, 0] rfl (hK4 _ _ _ h)
        · refine z_iload_n (i := 1) X.1 dX9_faultOf_116 0 rfl rfl ?_
          exact z_iret X dX9_faultOf_117 h
      · refine z_iconst (v := (-1 : Int32)) X.1 dX9_faultOf_104 (by decide) ?_
        exact z_iret X dX9_faultOf_105 h
    · refine z_iload_n (i := 1) X.1 dX9_faultOf_89 1 rfl rfl ?_
      refine z_iconst (v := (2 : Int32)) X.1 dX9_faultOf_90 (by decide) ?_
      refine z_iadd X.1 dX9_faultOf_91 ?_
      exact z_iret X dX9_faultOf_92 h
noncomputable def Fb_X9_faultOf_4 (K4 : Int32 → Int32 → S3 → R3) (v1 : Int32) (v2 : Int32) (σ : S3) : R3 :=
  bd (F_X9_here v1 σ) (fun r1794 s1795 => bd (F_X9_in r1794 (97 : Int32) (106 : Int32) s1795) (fun r1797 s1798 => if r1797 = (0 : Int32) then (some (v1, s1798))
  else (if v2 = (12 : Int32) then (some (v1, s1798))
  else (bd (F_X9_here (v1 + (1 : Int32)) s1798) (fun r1802 s1803 => if r1802 = (45 : Int32) then (F_X9_faultOf_57 K4 v1 v2 s1803)
  else (if r1802 = (62 : Int32) then (F_X9_faultOf_57 K4 v1 v2 s1803)
  else (if r1802 = (60 : Int32) then (F_X9_faultOf_57 K4 v1 v2 s1803)
  else (some (v1 + (1 : Int32), s1803)))))))))
noncomputable def F_X9_faultOf_4 (n : Nat) : Int32 → Int32 → S3 → R3 := zl2 (Fb_X9_faultOf_4) n
set_option maxHeartbeats 4000000 in
set_option maxRecDepth 100000 in
theorem B_X9_faultOf_4 {κ : zT} {σ' : S3} {r : Int32} (X : zC κ zM RX9 cX9_faultOf 4 (some .int) 1 (some (.int r)) σ') : ∀ (n : Nat) (v1 : Int32) (v2 : Int32) (σ : S3), F_X9_faultOf_4 n v1 v2 σ = some (r, σ') → Z κ 4 (zM (ze κ.1) σ) [(0, .ref (zo κ.1 0)), (1, .int v1), (2, .int v2)] 4 [] := by
  intro n
  induction n with
  | zero =>
    intro v1 v2 σ h
    cases (show (none : R3) = some (r, σ') from h)
  | succ n ih =>
    intro v1 v2 σ h
    have hK4 := ih
    have h : Fb_X9_faultOf_4 (F_X9_faultOf_4 n) v1 v2 σ = some (r, σ') := h
    unfold Fb_X9_faultOf_4 at h
    refine z_aload_n (i := 0) X.1 dX9_faultOf_4 0 rfl rfl ?_
    refine z_iload_n (i := 1) X.1 dX9_faultOf_5 1 rfl rfl ?_
    obtain ⟨r1794, s1795, hc1796, h⟩ := bd_inv h
    refine cl_X9_144 (d1 := 0) (b := zo κ.1 0) (As := [.int v1]) (rest := []) X.1 (by decide) (C_X9_here X.2.1 hc1796) rcX9 rfl rfl (Nat.le_of_ble_eq_true rfl) dX9_faultOf_6 ?_
    refine z_bipush (v := (97 : Int32)) X.1 dX9_faultOf_9 (by decide) ?_
    refine z_bipush (v := (106 : Int32)) X.1 dX9_faultOf_11 (by decide) ?_
    obtain ⟨r1797, s1798, hc1799, h⟩ := bd_inv h
    refine cl_X9_68 (d1 := 0) (As := [.int r1794, .int (97 : Int32), .int (106 : Int32)]) (rest := []) X.1 (by decide) (C_X9_in X.2.1 hc1799) rfl rfl (Nat.le_of_ble_eq_true rfl) dX9_faultOf_13 ?_
    refine z_if_eq (tgt := 25) X.1 dX9_faultOf_16 (by decide) h (fun q1800 h => ?_) (fun q1800 h => ?_)
    · refine z_iload_n (i := 1) X.1 dX9_faultOf_25 1 rfl rfl ?_
      exact z_iret X dX9_faultOf_26 h
    · refine z_iload_n (i := 2) X.1 dX9_faultOf_19 2 rfl rfl ?_
      refine z_bipush (v := (12 : Int32)) X.1 dX9_faultOf_20 (by decide) ?_
      refine z_icmp_ne (tgt := 27) X.1 dX9_faultOf_22 (by decide) h (fun q1801 h => ?_) (fun q1801 h => ?_)
      · refine z_aload_n (i := 0) X.1 dX9_faultOf_27 0 rfl rfl ?_
        refine z_iload_n (i := 1) X.1 dX9_faultOf_28 1 rfl rfl ?_
        refine z_iconst (v := (1 : Int32)) X.1 dX9_faultOf_29 (by decide) ?_
        refine z_iadd X.1 dX9_faultOf_30 ?_
        obtain ⟨r1802, s1803, hc1804, h⟩ := bd_inv h
        refine cl_X9_144 (d1 := 0) (b := zo κ.1 0) (As := [.int (v1 + (1 : Int32))]) (rest := []) X.1 (by decide) (C_X9_here X.2.1 hc1804) rcX9 rfl rfl (Nat.le_of_ble_eq_true rfl) dX9_faultOf_31 ?_
        refine z_istore_n (i := 3) (lv' := [(3, .int r1802), (0, .ref (zo κ.1 0)), (1, .int v1), (2, .int v2)]) X.1 dX9_faultOf_34 rfl (by decide) rfl ?_
        refine z_iload_n (i := 3) X.1 dX9_faultOf_35 0 rfl rfl ?_
        refine z_bipush (v := (45 : Int32)) X.1 dX9_faultOf_36 (by decide) ?_
        refine z_icmp_eq (tgt := 57) X.1 dX9_faultOf_38 (by decide) h (fun q1805 h => ?_) (fun q1805 h => ?_)
        · exact z_sub [1, 2, 3] rfl (B_X9_faultOf_57 X hK4 h)
        · refine z_iload_n (i := 3) X.1 dX9_faultOf_41 0 rfl rfl ?_
          refine z_bipush (v := (62 : Int32)) X.1 dX9_faultOf_42 (by decide) ?_
          refine z_icmp_eq (tgt := 57) X.1 dX9_faultOf_44 (by decide) h (fun q1828 h => ?_) (fun q1828 h => ?_)
          · exact z_sub [1, 2, 3] rfl (B_X9_faultOf_57 X hK4 h)
          · refine z_iload_n (i := 3) X.1 dX9_faultOf_47 0 rfl rfl ?_
            refine z_bipush (v := (60 : Int32)) X.1 dX9_faultOf_48 (by decide) ?_
            refine z_icmp_eq (tgt := 57) X.1 dX9_faultOf_50 (by decide) h (fun q1829 h => ?_) (fun q1829 h => ?_)
            · exact z_sub [1, 2, 3] rfl (B_X9_faultOf_57 X hK4 h)
            · refine z_iload_n (i := 1) X.1 dX9_faultOf_53 2 rfl rfl ?_
              refine z_iconst (v := (1 : Int32)) X.1 dX9_faultOf_54 (by decide) ?_
              refine z_iadd X.1 dX9_faultOf_55 ?_
              exact z_iret X dX9_faultOf_56 h
      · refine z_iload_n (i := 1) X.1 dX9_faultOf_25 1 rfl rfl ?_
        exact z_iret X dX9_faultOf_26 h
noncomputable def F_X9_faultOf (σ : S3) : R3 :=
  F_X9_faultOf_4 zF (0 : Int32) (0 : Int32) σ
set_option maxHeartbeats 4000000 in
set_option maxRecDepth 100000 in
theorem B_X9_faultOf_0 {κ : zT} {σ' : S3} {r : Int32} (X : zC κ zM RX9 cX9_faultOf 4 (some .int) 1 (some (.int r)) σ') {σ : S3} (h : F_X9_faultOf σ = some (r, σ')) : Z κ 4 (zM (ze κ.1) σ) [(0, .ref (zo κ.1 0))] 0 [] := by
  unfold F_X9_faultOf at h
  refine z_iconst (v := (0 : Int32)) X.1 dX9_faultOf_0 (by decide) ?_
  refine z_istore_n (i := 1) (lv' := [(1, .int (0 : Int32)), (0, .ref (zo κ.1 0))]) X.1 dX9_faultOf_1 rfl (by decide) rfl ?_
  refine z_iconst (v := (0 : Int32)) X.1 dX9_faultOf_2 (by decide) ?_
  refine z_istore_n (i := 2) (lv' := [(2, .int (0 : Int32)), (1, .int (0 : Int32)), (0, .ref (zo κ.1 0))]) X.1 dX9_faultOf_3 rfl (by decide) rfl ?_
  exact z_sub [2, 1, 0] rfl (B_X9_faultOf_4 X zF _ _ _ h)
theorem C_X9_faultOf {ζ : zW} (hZ : zDis ζ zM) {σ σ' : S3} {r : Int32} (h : F_X9_faultOf  σ = some (r, σ')) : zMet ζ zM 1 yX9_faultOf cX9_faultOf 4 (some .int) [.ref (zo ζ 0)] σ (some (.int r)) σ' :=
  zMet_of pn_X9 hZ (Nat.le_of_ble_eq_true rfl) (fun κ e X => by subst e; exact B_X9_faultOf_0 X h)
noncomputable def F_X9_network_92 (K35 : Int32 → Int32 → S3 → R3) (v2 : Int32) (v4 : Int32) (v5 : Int32) (v6 : Int32) (s0 : Int32) (σ : S3) : R3 :=
  ck (v4 + (1 : Int32)) 60 (if (σ 0 9 (ix (v4 + (1 : Int32)))) = (45 : Int32) then (bd (F_X9_comes v5 v6 (0 : Int32) σ) (fun r1856 s1857 => nm (v4 + (4 : Int32)) (fun x1859 => K35 s0 x1859 s1857)))
  else (ck (v4 + (1 : Int32)) 60 (if (σ 0 9 (ix (v4 + (1 : Int32)))) = (62 : Int32) then (bd (F_X9_comes v5 v6 (1 : Int32) σ) (fun r1852 s1853 => nm (v4 + (4 : Int32)) (fun x1855 => K35 s0 x1855 s1853)))
  else (bd (F_X9_comes v5 v6 (2 : Int32) σ) (fun r1848 s1849 => nm (v4 + (4 : Int32)) (fun x1851 => K35 s0 x1851 s1849))))))
set_option maxHeartbeats 4000000 in
set_option maxRecDepth 100000 in
theorem B_X9_network_92 {κ : zT} {σ' : S3} {r : Int32} (X : zC κ zM RX9 cX9_network 7 (some .int) 2 (some (.int r)) σ') {K35 : Int32 → Int32 → S3 → R3} {v2 : Int32} {v4 : Int32} {v5 : Int32} {v6 : Int32} {s0 : Int32} {σ : S3} (hK35 : ∀ (w3 : Int32) (w4 : Int32) (s1 : S3), K35 w3 w4 s1 = some (r, σ') → Z κ 7 (zM (ze κ.1) s1) [(0, .ref (zo κ.1 0)), (2, .int v2), (3, .int w3), (4, .int w4)] 35 []) (h : F_X9_network_92 K35 v2 v4 v5 v6 s0 σ = some (r, σ')) : Z κ 7 (zM (ze κ.1) σ) [(0, .ref (zo κ.1 0)), (2, .int v2), (4, .int v4), (5, .int v5), (6, .int v6)] 92 [.int s0] := by
  unfold F_X9_network_92 at h
  refine z_istore_n (i := 3) (lv' := [(3, .int s0), (0, .ref (zo κ.1 0)), (2, .int v2), (4, .int v4), (5, .int v5), (6, .int v6)]) X.1 dX9_network_92 rfl (by decide) rfl ?_
  refine z_aload_n (i := 0) X.1 dX9_network_93 1 rfl rfl ?_
  refine z_iload X.1 dX9_network_94 4 rfl ?_
  refine z_iload X.1 dX9_network_96 5 rfl ?_
  refine z_aload_n (i := 0) X.1 dX9_network_98 1 rfl rfl ?_
  refine g_X9_tape X.1 tw814 dX9_network_99 ?_
  refine z_iload X.1 dX9_network_102 3 rfl ?_
  refine z_iconst (v := (1 : Int32)) X.1 dX9_network_104 (by decide) ?_
  refine z_iadd X.1 dX9_network_105 ?_
  refine al_X9_tape X.1 dX9_network_106 h (fun h => ?_)
  refine z_bipush (v := (45 : Int32)) X.1 dX9_network_107 (by decide) ?_
  refine z_icmp_ne (tgt := 116) X.1 dX9_network_109 (by decide) h (fun q1846 h => ?_) (fun q1846 h => ?_)
  · refine z_aload_n (i := 0) X.1 dX9_network_116 1 rfl rfl ?_
    refine g_X9_tape X.1 tw814 dX9_network_117 ?_
    refine z_iload X.1 dX9_network_120 3 rfl ?_
    refine z_iconst (v := (1 : Int32)) X.1 dX9_network_122 (by decide) ?_
    refine z_iadd X.1 dX9_network_123 ?_
    refine al_X9_tape X.1 dX9_network_124 h (fun h => ?_)
    refine z_bipush (v := (62 : Int32)) X.1 dX9_network_125 (by decide) ?_
    refine z_icmp_ne (tgt := 134) X.1 dX9_network_127 (by decide) h (fun q1847 h => ?_) (fun q1847 h => ?_)
    · refine z_iconst (v := (2 : Int32)) X.1 dX9_network_134 (by decide) ?_
      obtain ⟨r1848, s1849, hc1850, h⟩ := bd_inv h
      refine cl_X9_90 (d1 := 0) (b := zo κ.1 0) (r := 0) (As := [.int v5, .int v6, .int (2 : Int32)]) (rest := []) X.1 (by decide) (C_X9_comes X.2.1 hc1850) rcX9 rfl rfl (Nat.le_of_ble_eq_true rfl) dX9_network_135 ?_
      refine z_iinc_m (v := (4 : Int32)) (lv' := fun x1851 => [(4, .int x1851), (3, .int s0), (0, .ref (zo κ.1 0)), (2, .int v2), (5, .int v5), (6, .int v6)]) X.1 dX9_network_138 3 rfl (by decide) (by decide) (fun _ => rfl) h (fun x1851 h => ?_)
      refine z_goto (tgt := 35) X.1 dX9_network_141 (by decide) ?_
      exact z_sub [2, 3, 1, 0] rfl (hK35 _ _ _ h)
    · refine z_iconst (v := (1 : Int32)) X.1 dX9_network_130 (by decide) ?_
      refine z_goto (tgt := 135) X.1 dX9_network_131 (by decide) ?_
      obtain ⟨r1852, s1853, hc1854, h⟩ := bd_inv h
      refine cl_X9_90 (d1 := 0) (b := zo κ.1 0) (r := 0) (As := [.int v5, .int v6, .int (1 : Int32)]) (rest := []) X.1 (by decide) (C_X9_comes X.2.1 hc1854) rcX9 rfl rfl (Nat.le_of_ble_eq_true rfl) dX9_network_135 ?_
      refine z_iinc_m (v := (4 : Int32)) (lv' := fun x1855 => [(4, .int x1855), (3, .int s0), (0, .ref (zo κ.1 0)), (2, .int v2), (5, .int v5), (6, .int v6)]) X.1 dX9_network_138 3 rfl (by decide) (by decide) (fun _ => rfl) h (fun x1855 h => ?_)
      refine z_goto (tgt := 35) X.1 dX9_network_141 (by decide) ?_
      exact z_sub [2, 3, 1, 0] rfl (hK35 _ _ _ h)
  · refine z_iconst (v := (0 : Int32)) X.1 dX9_network_112 (by decide) ?_
    refine z_goto (tgt := 135) X.1 dX9_network_113 (by decide) ?_
    obtain ⟨r1856, s1857, hc1858, h⟩ := bd_inv h
    refine cl_X9_90 (d1 := 0) (b := zo κ.1 0) (r := 0) (As := [.int v5, .int v6, .int (0 : Int32)]) (rest := []) X.1 (by decide) (C_X9_comes X.2.1 hc1858) rcX9 rfl rfl (Nat.le_of_ble_eq_true rfl) dX9_network_135 ?_
    refine z_iinc_m (v := (4 : Int32)) (lv' := fun x1859 => [(4, .int x1859), (3, .int s0), (0, .ref (zo κ.1 0)), (2, .int v2), (5, .int v5), (6, .int v6)]) X.1 dX9_network_138 3 rfl (by decide) (by decide) (fun _ => rfl) h (fun x1859 h => ?_)
    refine z_goto (tgt := 35) X.1 dX9_network_141 (by decide) ?_
    exact z_sub [2, 3, 1, 0] rfl (hK35 _ _ _ h)
noncomputable def F_X9_network_79 (K35 : Int32 → Int32 → S3 → R3) (v2 : Int32) (v4 : Int32) (v5 : Int32) (v6 : Int32) (s0 : Int32) (σ : S3) : R3 :=
  if v6 ≤ s0 then (F_X9_network_92 K35 v2 v4 v5 v6 s0 σ)
  else (F_X9_network_92 K35 v2 v4 v5 v6 v6 σ)
set_option maxHeartbeats 4000000 in
set_option maxRecDepth 100000 in
theorem B_X9_network_79 {κ : zT} {σ' : S3} {r : Int32} (X : zC κ zM RX9 cX9_network 7 (some .int) 2 (some (.int r)) σ') {K35 : Int32 → Int32 → S3 → R3} {v2 : Int32} {v4 : Int32} {v5 : Int32} {v6 : Int32} {s0 : Int32} {σ : S3} (hK35 : ∀ (w3 : Int32) (w4 : Int32) (s1 : S3), K35 w3 w4 s1 = some (r, σ') → Z κ 7 (zM (ze κ.1) s1) [(0, .ref (zo κ.1 0)), (2, .int v2), (3, .int w3), (4, .int w4)] 35 []) (h : F_X9_network_79 K35 v2 v4 v5 v6 s0 σ = some (r, σ')) : Z κ 7 (zM (ze κ.1) σ) [(0, .ref (zo κ.1 0)), (2, .int v2), (4, .int v4), (5, .int v5), (6, .int v6)] 79 [.int s0] := by
  unfold F_X9_network_79 at h
  refine z_istore_n (i := 3) (lv' := [(3, .int s0), (0, .ref (zo κ.1 0)), (2, .int v2), (4, .int v4), (5, .int v5), (6, .int v6)]) X.1 dX9_network_79 rfl (by decide) rfl ?_
  refine z_iload X.1 dX9_network_80 5 rfl ?_
  refine z_iload_n (i := 3) X.1 dX9_network_82 0 rfl rfl ?_
  refine z_icmp_le (tgt := 91) X.1 dX9_network_83 (by decide) h (fun q1845 h => ?_) (fun q1845 h => ?_)
  · refine z_iload_n (i := 3) X.1 dX9_network_91 0 rfl rfl ?_
    exact z_sub [1, 2, 3, 4, 5] rfl (B_X9_network_92 X hK35 h)
  · refine z_iload X.1 dX9_network_86 5 rfl ?_
    refine z_goto (tgt := 92) X.1 dX9_network_88 (by decide) ?_
    exact z_sub [1, 2, 3, 4, 5] rfl (B_X9_network_92 X hK35 h)
noncomputable def Fb_X9_network_35 (v2 : Int32) (K35 : Int32 → Int32 → S3 → R3) (v3 : Int32) (v4 : Int32) (σ : S3) : R3 :=
  if v2 ≤ v4 then (nm (up σ 0 1 0 (v3 + (1 : Int32))) (fun s1838 => bd (F_X9_isNew s1838) (fun r1839 s1840 => some (s1840 0 2 0, s1840))))
  else (ck v4 60 (nm ((σ 0 9 (ix v4)) - (97 : Int32)) (fun x1842 => ck (v4 + (2 : Int32)) 60 (nm ((σ 0 9 (ix (v4 + (2 : Int32)))) - (97 : Int32)) (fun x1843 => if x1842 ≤ v3 then (F_X9_network_79 K35 v2 v4 x1842 x1843 v3 σ)
  else (F_X9_network_79 K35 v2 v4 x1842 x1843 x1842 σ))))))
noncomputable def F_X9_network_35 (v2 : Int32) (n : Nat) : Int32 → Int32 → S3 → R3 := zl2 (Fb_X9_network_35 v2) n
set_option maxHeartbeats 4000000 in
set_option maxRecDepth 100000 in
theorem B_X9_network_35 {κ : zT} {σ' : S3} {r : Int32} (X : zC κ zM RX9 cX9_network 7 (some .int) 2 (some (.int r)) σ') {v2 : Int32} : ∀ (n : Nat) (v3 : Int32) (v4 : Int32) (σ : S3), F_X9_network_35 v2 n v3 v4 σ = some (r, σ') → Z κ 7 (zM (ze κ.1) σ) [(0, .ref (zo κ.1 0)), (2, .int v2), (3, .int v3), (4, .int v4)] 35 [] := by
  intro n
  induction n with
  | zero =>
    intro v3 v4 σ h
    cases (show (none : R3) = some (r, σ') from h)
  | succ n ih =>
    intro v3 v4 σ h
    have hK35 := ih
    have h : Fb_X9_network_35 v2 (F_X9_network_35 v2 n) v3 v4 σ = some (r, σ') := h
    unfold Fb_X9_network_35 at h
    refine z_iload X.1 dX9_network_35 3 rfl ?_
    refine z_iload_n (i := 2) X.1 dX9_network_37 1 rfl rfl ?_
    refine z_icmp_ge (tgt := 144) X.1 dX9_network_38 (by decide) h (fun q1837 h => ?_) (fun q1837 h => ?_)
    · refine z_aload_n (i := 0) X.1 dX9_network_144 0 rfl rfl ?_
      refine z_iload_n (i := 3) X.1 dX9_network_145 2 rfl rfl ?_
      refine z_iconst (v := (1 : Int32)) X.1 dX9_network_146 (by decide) ?_
      refine z_iadd X.1 dX9_network_147 ?_
      refine p_X9_points X.1 X.2.1 tw806 dX9_network_148 h (fun s1838 h => ?_)
      refine z_aload_n (i := 0) X.1 dX9_network_151 0 rfl rfl ?_
      obtain ⟨r1839, s1840, hc1841, h⟩ := bd_inv h
      refine cl_X9_83 (d1 := 0) (b := zo κ.1 0) (r := 0) (As := []) (rest := []) X.1 (by decide) (C_X9_isNew X.2.1 hc1841) rcX9 rfl rfl (Nat.le_of_ble_eq_true rfl) dX9_network_152 ?_
      refine z_aload_n (i := 0) X.1 dX9_network_155 0 rfl rfl ?_
      refine g_X9_lines X.1 tw807 dX9_network_156 ?_
      exact z_iret X dX9_network_159 h
    · refine z_aload_n (i := 0) X.1 dX9_network_41 0 rfl rfl ?_
      refine g_X9_tape X.1 tw814 dX9_network_42 ?_
      refine z_iload X.1 dX9_network_45 3 rfl ?_
      refine al_X9_tape X.1 dX9_network_47 h (fun h => ?_)
      refine z_bipush (v := (97 : Int32)) X.1 dX9_network_48 (by decide) ?_
      refine z_isub X.1 dX9_network_50 ?_
      refine z_istore_m (i := 5) (lv' := fun x1842 => [(5, .int x1842), (0, .ref (zo κ.1 0)), (2, .int v2), (3, .int v3), (4, .int v4)]) X.1 dX9_network_51 (by decide) (fun _ => rfl) h (fun x1842 h => ?_)
      refine z_aload_n (i := 0) X.1 dX9_network_53 1 rfl rfl ?_
      refine g_X9_tape X.1 tw814 dX9_network_54 ?_
      refine z_iload X.1 dX9_network_57 4 rfl ?_
      refine z_iconst (v := (2 : Int32)) X.1 dX9_network_59 (by decide) ?_
      refine z_iadd X.1 dX9_network_60 ?_
      refine al_X9_tape X.1 dX9_network_61 h (fun h => ?_)
      refine z_bipush (v := (97 : Int32)) X.1 dX9_network_62 (by decide) ?_
      refine z_isub X.1 dX9_network_64 ?_
      refine z_istore_m (i := 6) (lv' := fun x1843 => [(6, .int x1843), (5, .int x1842), (0, .ref (zo κ.1 0)), (2, .int v2), (3, .int v3), (4, .int v4)]) X.1 dX9_network_65 (by decide) (fun _ => rfl) h (fun x1843 h => ?_)
      refine z_iload X.1 dX9_network_67 1 rfl ?_
      refine z_iload_n (i := 3) X.1 dX9_network_69 4 rfl rfl ?_
      refine z_icmp_le (tgt := 78) X.1 dX9_network_70 (by decide) h (fun q1844 h => ?_) (fun q1844 h => ?_)
      · refine z_iload_n (i := 3) X.1 dX9_network_78 4 rfl rfl ?_
        exact z_sub [2, 3, 5, 1, 0] rfl (B_X9_network_79 X hK35 h)
      · refine z_iload X.1 dX9_network_73 1 rfl ?_
        refine z_goto (tgt := 79) X.1 dX9_network_75 (by decide) ?_
        exact z_sub [2, 3, 5, 1, 0] rfl (B_X9_network_79 X hK35 h)
noncomputable def F_X9_network (σ : S3) : R3 :=
  bd (F_X9_faultOf σ) (fun r1830 s1831 => nm (s1831 0 10 0) (fun x1833 => nm (up s1831 0 10 0 (0 : Int32)) (fun s1834 => if r1830 = (-1 : Int32) then (nm (up s1834 0 2 0 (0 : Int32)) (fun s1836 => F_X9_network_35 x1833 zF (0 : Int32) (0 : Int32) s1836))
  else (some ((-10 : Int32) - r1830, s1834)))))
set_option maxHeartbeats 4000000 in
set_option maxRecDepth 100000 in
theorem B_X9_network_0 {κ : zT} {σ' : S3} {r : Int32} (X : zC κ zM RX9 cX9_network 7 (some .int) 2 (some (.int r)) σ') {σ : S3} (h : F_X9_network σ = some (r, σ')) : Z κ 7 (zM (ze κ.1) σ) [(0, .ref (zo κ.1 0))] 0 [] := by
  unfold F_X9_network at h
  refine z_aload_n (i := 0) X.1 dX9_network_0 0 rfl rfl ?_
  obtain ⟨r1830, s1831, hc1832, h⟩ := bd_inv h
  refine cl_X9_147 (d1 := 1) (b := zo κ.1 0) (As := []) (rest := []) X.1 (by decide) (C_X9_faultOf X.2.1 hc1832) rcX9 rfl rfl (Nat.le_of_ble_eq_true rfl) dX9_network_1 ?_
  refine z_istore_n (i := 1) (lv' := [(1, .int r1830), (0, .ref (zo κ.1 0))]) X.1 dX9_network_4 rfl (by decide) rfl ?_
  refine z_aload_n (i := 0) X.1 dX9_network_5 1 rfl rfl ?_
  refine g_X9_taped X.1 tw815 dX9_network_6 ?_
  refine z_istore_nn (i := 2) (lv' := fun x1833 => [(2, .int x1833), (1, .int r1830), (0, .ref (zo κ.1 0))]) X.1 dX9_network_9 rfl (by decide) (fun _ => rfl) h (fun x1833 h => ?_)
  refine z_aload_n (i := 0) X.1 dX9_network_10 2 rfl rfl ?_
  refine z_iconst (v := (0 : Int32)) X.1 dX9_network_11 (by decide) ?_
  refine p_X9_taped X.1 X.2.1 tw815 dX9_network_12 h (fun s1834 h => ?_)
  refine z_iload_n (i := 1) X.1 dX9_network_15 1 rfl rfl ?_
  refine z_iconst (v := (-1 : Int32)) X.1 dX9_network_16 (by decide) ?_
  refine z_icmp_eq (tgt := 25) X.1 dX9_network_17 (by decide) h (fun q1835 h => ?_) (fun q1835 h => ?_)
  · refine z_iconst (v := (0 : Int32)) X.1 dX9_network_25 (by decide) ?_
    refine z_istore_n (i := 3) (lv' := [(3, .int (0 : Int32)), (2, .int x1833), (1, .int r1830), (0, .ref (zo κ.1 0))]) X.1 dX9_network_26 rfl (by decide) rfl ?_
    refine z_aload_n (i := 0) X.1 dX9_network_27 3 rfl rfl ?_
    refine z_iconst (v := (0 : Int32)) X.1 dX9_network_28 (by decide) ?_
    refine p_X9_lines X.1 X.2.1 tw807 dX9_network_29 h (fun s1836 h => ?_)
    refine z_iconst (v := (0 : Int32)) X.1 dX9_network_32 (by decide) ?_
    refine z_istore (i := 4) (lv' := [(4, .int (0 : Int32)), (3, .int (0 : Int32)), (2, .int x1833), (1, .int r1830), (0, .ref (zo κ.1 0))]) X.1 dX9_network_33 (by decide) rfl ?_
    exact z_sub [4, 2, 1, 0] rfl (B_X9_network_35 X zF _ _ _ h)
  · refine z_bipush (v := (-10 : Int32)) X.1 dX9_network_20 (by decide) ?_
    refine z_iload_n (i := 1) X.1 dX9_network_22 1 rfl rfl ?_
    refine z_isub X.1 dX9_network_23 ?_
    exact z_iret X dX9_network_24 h
theorem C_X9_network {ζ : zW} (hZ : zDis ζ zM) {σ σ' : S3} {r : Int32} (h : F_X9_network  σ = some (r, σ')) : zMet ζ zM 2 yX9_network cX9_network 7 (some .int) [.ref (zo ζ 0)] σ (some (.int r)) σ' :=
  zMet_of pn_X9 hZ (Nat.le_of_ble_eq_true rfl) (fun κ e X => by subst e; exact B_X9_network_0 X h)
noncomputable def F_X9_isByLines (σ : S3) : R3 :=
  if (σ 0 12 0) = (1 : Int32) then (some ((1 : Int32), σ))
  else (if (σ 0 12 0) = (3 : Int32) then (some ((1 : Int32), σ))
  else (some ((0 : Int32), σ)))
set_option maxHeartbeats 4000000 in
set_option maxRecDepth 100000 in
theorem B_X9_isByLines_0 {κ : zT} {σ' : S3} {r : Int32} (X : zC κ zM RX9 cX9_isByLines 1 (some .boolean) 0 (some (.int r)) σ') {σ : S3} (h : F_X9_isByLines σ = some (r, σ')) : Z κ 1 (zM (ze κ.1) σ) [(0, .ref (zo κ.1 0))] 0 [] := by
  unfold F_X9_isByLines at h
  refine z_aload_n (i := 0) X.1 dX9_isByLines_0 0 rfl rfl ?_
  refine g_X9_rule X.1 tw817 dX9_isByLines_1 ?_
  refine z_iconst (v := (1 : Int32)) X.1 dX9_isByLines_4 (by decide) ?_
  refine z_icmp_eq (tgt := 16) X.1 dX9_isByLines_5 (by decide) h (fun q1860 h => ?_) (fun q1860 h => ?_)
  · refine z_iconst (v := (1 : Int32)) X.1 dX9_isByLines_16 (by decide) ?_
    refine z_goto (tgt := 21) X.1 dX9_isByLines_17 (by decide) ?_
    exact z_zret X dX9_isByLines_21 (Or.inr rfl) h
  · refine z_aload_n (i := 0) X.1 dX9_isByLines_8 0 rfl rfl ?_
    refine g_X9_rule X.1 tw817 dX9_isByLines_9 ?_
    refine z_iconst (v := (3 : Int32)) X.1 dX9_isByLines_12 (by decide) ?_
    refine z_icmp_ne (tgt := 20) X.1 dX9_isByLines_13 (by decide) h (fun q1861 h => ?_) (fun q1861 h => ?_)
    · refine z_iconst (v := (0 : Int32)) X.1 dX9_isByLines_20 (by decide) ?_
      exact z_zret X dX9_isByLines_21 (Or.inl rfl) h
    · refine z_iconst (v := (1 : Int32)) X.1 dX9_isByLines_16 (by decide) ?_
      refine z_goto (tgt := 21) X.1 dX9_isByLines_17 (by decide) ?_
      exact z_zret X dX9_isByLines_21 (Or.inr rfl) h
theorem C_X9_isByLines {ζ : zW} (hZ : zDis ζ zM) {σ σ' : S3} {r : Int32} (h : F_X9_isByLines  σ = some (r, σ')) : zMet ζ zM 0 yX9_isByLines cX9_isByLines 1 (some .boolean) [.ref (zo ζ 0)] σ (some (.int r)) σ' :=
  zMet_of pn_X9 hZ (Nat.le_of_ble_eq_true rfl) (fun κ e X => by subst e; exact B_X9_isByLines_0 X h)
noncomputable def F_X9_isByWays (σ : S3) : R3 :=
  if (σ 0 12 0) = (2 : Int32) then (some ((1 : Int32), σ))
  else (if (σ 0 12 0) = (3 : Int32) then (some ((1 : Int32), σ))
  else (some ((0 : Int32), σ)))
set_option maxHeartbeats 4000000 in
set_option maxRecDepth 100000 in
theorem B_X9_isByWays_0 {κ : zT} {σ' : S3} {r : Int32} (X : zC κ zM RX9 cX9_isByWays 1 (some .boolean) 0 (some (.int r)) σ') {σ : S3} (h : F_X9_isByWays σ = some (r, σ')) : Z κ 1 (zM (ze κ.1) σ) [(0, .ref (zo κ.1 0))] 0 [] := by
  unfold F_X9_isByWays at h
  refine z_aload_n (i := 0) X.1 dX9_isByWays_0 0 rfl rfl ?_
  refine g_X9_rule X.1 tw817 dX9_isByWays_1 ?_
  refine z_iconst (v := (2 : Int32)) X.1 dX9_isByWays_4 (by decide) ?_
  refine z_icmp_eq (tgt := 16) X.1 dX9_isByWays_5 (by decide) h (fun q1862 h => ?_) (fun q1862 h => ?_)
  · refine z_iconst (v := (1 : Int32)) X.1 dX9_isByWays_16 (by decide) ?_
    refine z_goto (tgt := 21) X.1 dX9_isByWays_17 (by decide) ?_
    exact z_zret X dX9_isByWays_21 (Or.inr rfl) h
  · refine z_aload_n (i := 0) X.1 dX9_isByWays_8 0 rfl rfl ?_
    refine g_X9_rule X.1 tw817 dX9_isByWays_9 ?_
    refine z_iconst (v := (3 : Int32)) X.1 dX9_isByWays_12 (by decide) ?_
    refine z_icmp_ne (tgt := 20) X.1 dX9_isByWays_13 (by decide) h (fun q1863 h => ?_) (fun q1863 h => ?_)
    · refine z_iconst (v := (0 : Int32)) X.1 dX9_isByWays_20 (by decide) ?_
      exact z_zret X dX9_isByWays_21 (Or.inl rfl) h
    · refine z_iconst (v := (1 : Int32)) X.1 dX9_isByWays_16 (by decide) ?_
      refine z_goto (tgt := 21) X.1 dX9_isByWays_17 (by decide) ?_
      exact z_zret X dX9_isByWays_21 (Or.inr rfl) h
theorem C_X9_isByWays {ζ : zW} (hZ : zDis ζ zM) {σ σ' : S3} {r : Int32} (h : F_X9_isByWays  σ = some (r, σ')) : zMet ζ zM 0 yX9_isByWays cX9_isByWays 1 (some .boolean) [.ref (zo ζ 0)] σ (some (.int r)) σ' :=
  zMet_of pn_X9 hZ (Nat.le_of_ble_eq_true rfl) (fun κ e X => by subst e; exact B_X9_isByWays_0 X h)
noncomputable def F_X9_isMove_45 (s0 : Int32) (s1 : Int32) (σ : S3) : R3 :=
  bd (F_X9_has s1 s0 σ) (fun r1879 s1880 => if r1879 = (0 : Int32) then (some ((1 : Int32), s1880))
  else (some ((0 : Int32), s1880)))
set_option maxHeartbeats 4000000 in
set_option maxRecDepth 100000 in
theorem B_X9_isMove_45 {κ : zT} {σ' : S3} {r : Int32} (X : zC κ zM RX9 cX9_isMove 4 (some .boolean) 1 (some (.int r)) σ') {s0 : Int32} {s1 : Int32} {σ : S3} (h : F_X9_isMove_45 s0 s1 σ = some (r, σ')) : Z κ 4 (zM (ze κ.1) σ) [] 45 [.int s0, .int s1] := by
  unfold F_X9_isMove_45 at h
  obtain ⟨r1879, s1880, hc1881, h⟩ := bd_inv h
  refine cl_X9_114 (d1 := 0) (As := [.int s1, .int s0]) (rest := []) X.1 (by decide) (C_X9_has X.2.1 hc1881) rfl rfl (Nat.le_of_ble_eq_true rfl) dX9_isMove_45 ?_
  refine z_if_ne (tgt := 55) X.1 dX9_isMove_48 (by decide) h (fun q1882 h => ?_) (fun q1882 h => ?_)
  · refine z_iconst (v := (0 : Int32)) X.1 dX9_isMove_55 (by decide) ?_
    exact z_zret X dX9_isMove_56 (Or.inl rfl) h
  · refine z_iconst (v := (1 : Int32)) X.1 dX9_isMove_51 (by decide) ?_
    refine z_goto (tgt := 56) X.1 dX9_isMove_52 (by decide) ?_
    exact z_zret X dX9_isMove_56 (Or.inr rfl) h
noncomputable def F_X9_isMove_27 (v1 : Int32) (v2 : Int32) (v3 : Int32) (σ : S3) : R3 :=
  bd (F_X9_isByLines σ) (fun r1872 s1873 => if r1872 = (0 : Int32) then (bd (F_X9_otherOf v1 v2 s1873) (fun r1876 s1877 => F_X9_isMove_45 r1876 v3 s1877))
  else (F_X9_isMove_45 v1 v3 s1873))
set_option maxHeartbeats 4000000 in
set_option maxRecDepth 100000 in
theorem B_X9_isMove_27 {κ : zT} {σ' : S3} {r : Int32} (X : zC κ zM RX9 cX9_isMove 4 (some .boolean) 1 (some (.int r)) σ') {v1 : Int32} {v2 : Int32} {v3 : Int32} {σ : S3} (h : F_X9_isMove_27 v1 v2 v3 σ = some (r, σ')) : Z κ 4 (zM (ze κ.1) σ) [(0, .ref (zo κ.1 0)), (1, .int v1), (2, .int v2), (3, .int v3)] 27 [] := by
  unfold F_X9_isMove_27 at h
  refine z_iload_n (i := 3) X.1 dX9_isMove_27 3 rfl rfl ?_
  refine z_aload_n (i := 0) X.1 dX9_isMove_28 0 rfl rfl ?_
  obtain ⟨r1872, s1873, hc1874, h⟩ := bd_inv h
  refine cl_X9_157 (d1 := 0) (b := zo κ.1 0) (As := []) (rest := [.int v3]) X.1 (by decide) (C_X9_isByLines X.2.1 hc1874) rcX9 rfl rfl (Nat.le_of_ble_eq_true rfl) dX9_isMove_29 ?_
  refine z_if_eq (tgt := 39) X.1 dX9_isMove_32 (by decide) h (fun q1875 h => ?_) (fun q1875 h => ?_)
  · refine z_aload_n (i := 0) X.1 dX9_isMove_39 0 rfl rfl ?_
    refine z_iload_n (i := 1) X.1 dX9_isMove_40 1 rfl rfl ?_
    refine z_iload_n (i := 2) X.1 dX9_isMove_41 2 rfl rfl ?_
    obtain ⟨r1876, s1877, hc1878, h⟩ := bd_inv h
    refine cl_X9_101 (d1 := 0) (b := zo κ.1 0) (As := [.int v1, .int v2]) (rest := [.int v3]) X.1 (by decide) (C_X9_otherOf X.2.1 hc1878) rcX9 rfl rfl (Nat.le_of_ble_eq_true rfl) dX9_isMove_42 ?_
    exact z_sub [] rfl (B_X9_isMove_45 X h)
  · refine z_iload_n (i := 1) X.1 dX9_isMove_35 1 rfl rfl ?_
    refine z_goto (tgt := 45) X.1 dX9_isMove_36 (by decide) ?_
    exact z_sub [] rfl (B_X9_isMove_45 X h)
noncomputable def F_X9_isMove (v1 : Int32) (v2 : Int32) (v3 : Int32) (σ : S3) : R3 :=
  bd (F_X9_isAt v1 v2 σ) (fun r1864 s1865 => if r1864 = (0 : Int32) then (some ((0 : Int32), s1865))
  else (bd (F_X9_isByWays s1865) (fun r1868 s1869 => if r1868 = (0 : Int32) then (F_X9_isMove_27 v1 v2 v3 s1869)
  else (bd (F_X9_leads v1 v2 s1869) (fun r1883 s1884 => if r1883 = (0 : Int32) then (some ((0 : Int32), s1884))
  else (F_X9_isMove_27 v1 v2 v3 s1884))))))
set_option maxHeartbeats 4000000 in
set_option maxRecDepth 100000 in
theorem B_X9_isMove_0 {κ : zT} {σ' : S3} {r : Int32} (X : zC κ zM RX9 cX9_isMove 4 (some .boolean) 1 (some (.int r)) σ') {v1 : Int32} {v2 : Int32} {v3 : Int32} {σ : S3} (h : F_X9_isMove v1 v2 v3 σ = some (r, σ')) : Z κ 4 (zM (ze κ.1) σ) [(0, .ref (zo κ.1 0)), (1, .int v1), (2, .int v2), (3, .int v3)] 0 [] := by
  unfold F_X9_isMove at h
  refine z_aload_n (i := 0) X.1 dX9_isMove_0 0 rfl rfl ?_
  refine z_iload_n (i := 1) X.1 dX9_isMove_1 1 rfl rfl ?_
  refine z_iload_n (i := 2) X.1 dX9_isMove_2 2 rfl rfl ?_
  obtain ⟨r1864, s1865, hc1866, h⟩ := bd_inv h
  refine cl_X9_97 (d1 := 0) (b := zo κ.1 0) (As := [.int v1, .int v2]) (rest := []) X.1 (by decide) (C_X9_isAt X.2.1 hc1866) rcX9 rfl rfl (Nat.le_of_ble_eq_true rfl) dX9_isMove_3 ?_
  refine z_if_eq (tgt := 25) X.1 dX9_isMove_6 (by decide) h (fun q1867 h => ?_) (fun q1867 h => ?_)
  · refine z_iconst (v := (0 : Int32)) X.1 dX9_isMove_25 (by decide) ?_
    exact z_zret X dX9_isMove_26 (Or.inl rfl) h
  · refine z_aload_n (i := 0) X.1 dX9_isMove_9 0 rfl rfl ?_
    obtain ⟨r1868, s1869, hc1870, h⟩ := bd_inv h
    refine cl_X9_153 (d1 := 0) (b := zo κ.1 0) (As := []) (rest := []) X.1 (by decide) (C_X9_isByWays X.2.1 hc1870) rcX9 rfl rfl (Nat.le_of_ble_eq_true rfl) dX9_isMove_10 ?_
    refine z_if_eq (tgt := 27) X.1 dX9_isMove_13 (by decide) h (fun q1871 h => ?_) (fun q1871 h => ?_)
    · exact z_sub [0, 1, 2, 3] rfl (B_X9_isMove_27 X h)
    · refine z_aload_n (i := 0) X.1 dX9_isMove_16 0 rfl rfl ?_
      refine z_iload_n (i := 1) X.1 dX9_isMove_17 1 rfl rfl ?_
      refine z_iload_n (i := 2) X.1 dX9_isMove_18 2 rfl rfl ?_
      obtain ⟨r1883, s1884, hc1885, h⟩ := bd_inv h
      refine cl_X9_105 (d1 := 0) (b := zo κ.1 0) (As := [.int v1, .int v2]) (rest := []) X.1 (by decide) (C_X9_leads X.2.1 hc1885) rcX9 rfl rfl (Nat.le_of_ble_eq_true rfl) dX9_isMove_19 ?_
      refine z_if_ne (tgt := 27) X.1 dX9_isMove_22 (by decide) h (fun q1886 h => ?_) (fun q1886 h => ?_)
      · exact z_sub [0, 1, 2, 3] rfl (B_X9_isMove_27 X h)
      · refine z_iconst (v := (0 : Int32)) X.1 dX9_isMove_25 (by decide) ?_
        exact z_zret X dX9_isMove_26 (Or.inl rfl) h
theorem C_X9_isMove {ζ : zW} (hZ : zDis ζ zM) {v1 : Int32} {v2 : Int32} {v3 : Int32} {σ σ' : S3} {r : Int32} (h : F_X9_isMove v1 v2 v3 σ = some (r, σ')) : zMet ζ zM 1 yX9_isMove cX9_isMove 4 (some .boolean) [.ref (zo ζ 0), .int v1, .int v2, .int v3] σ (some (.int r)) σ' :=
  zMet_of pn_X9 hZ (Nat.le_of_ble_eq_true rfl) (fun κ e X => by subst e; exact B_X9_isMove_0 X h)
noncomputable def F_X9_setBehind (v1 : Int32) (v2 : Int32) (v3 : Int32) (σ : S3) : R3 :=
  bd (F_X9_isByLines σ) (fun r1887 s1888 => if r1887 = (0 : Int32) then (bd (F_X9_otherOf v1 v2 s1888) (fun r1891 s1892 => some (v3 ||| ((1 : Int32) <<< (r1891 &&& 31)), s1892)))
  else (some (v3 ||| ((1 : Int32) <<< (v1 &&& 31)), s1888)))
set_option maxHeartbeats 4000000 in
set_option maxRecDepth 100000 in
theorem B_X9_setBehind_0 {κ : zT} {σ' : S3} {r : Int32} (X : zC κ zM RX9 cX9_setBehind 4 (some .int) 1 (some (.int r)) σ') {v1 : Int32} {v2 : Int32} {v3 : Int32} {σ : S3} (h : F_X9_setBehind v1 v2 v3 σ = some (r, σ')) : Z κ 4 (zM (ze κ.1) σ) [(0, .ref (zo κ.1 0)), (1, .int v1), (2, .int v2), (3, .int v3)] 0 [] := by
  unfold F_X9_setBehind at h
  refine z_iload_n (i := 3) X.1 dX9_setBehind_0 3 rfl rfl ?_
  refine z_iconst (v := (1 : Int32)) X.1 dX9_setBehind_1 (by decide) ?_
  refine z_aload_n (i := 0) X.1 dX9_setBehind_2 0 rfl rfl ?_
  obtain ⟨r1887, s1888, hc1889, h⟩ := bd_inv h
  refine cl_X9_157 (d1 := 0) (b := zo κ.1 0) (As := []) (rest := [.int (1 : Int32), .int v3]) X.1 (by decide) (C_X9_isByLines X.2.1 hc1889) rcX9 rfl rfl (Nat.le_of_ble_eq_true rfl) dX9_setBehind_3 ?_
  refine z_if_eq (tgt := 13) X.1 dX9_setBehind_6 (by decide) h (fun q1890 h => ?_) (fun q1890 h => ?_)
  · refine z_aload_n (i := 0) X.1 dX9_setBehind_13 0 rfl rfl ?_
    refine z_iload_n (i := 1) X.1 dX9_setBehind_14 1 rfl rfl ?_
    refine z_iload_n (i := 2) X.1 dX9_setBehind_15 2 rfl rfl ?_
    obtain ⟨r1891, s1892, hc1893, h⟩ := bd_inv h
    refine cl_X9_101 (d1 := 0) (b := zo κ.1 0) (As := [.int v1, .int v2]) (rest := [.int (1 : Int32), .int v3]) X.1 (by decide) (C_X9_otherOf X.2.1 hc1893) rcX9 rfl rfl (Nat.le_of_ble_eq_true rfl) dX9_setBehind_16 ?_
    refine z_ishl X.1 dX9_setBehind_19 ?_
    refine z_ior X.1 dX9_setBehind_20 ?_
    exact z_iret X dX9_setBehind_21 h
  · refine z_iload_n (i := 1) X.1 dX9_setBehind_9 1 rfl rfl ?_
    refine z_goto (tgt := 19) X.1 dX9_setBehind_10 (by decide) ?_
    refine z_ishl X.1 dX9_setBehind_19 ?_
    refine z_ior X.1 dX9_setBehind_20 ?_
    exact z_iret X dX9_setBehind_21 h
theorem C_X9_setBehind {ζ : zW} (hZ : zDis ζ zM) {v1 : Int32} {v2 : Int32} {v3 : Int32} {σ σ' : S3} {r : Int32} (h : F_X9_setBehind v1 v2 v3 σ = some (r, σ')) : zMet ζ zM 1 yX9_setBehind cX9_setBehind 4 (some .int) [.ref (zo ζ 0), .int v1, .int v2, .int v3] σ (some (.int r)) σ' :=
  zMet_of pn_X9 hZ (Nat.le_of_ble_eq_true rfl) (fun κ e X => by subst e; exact B_X9_setBehind_0 X h)
noncomputable def Fb_X9_movesAt_5 (v1 : Int32) (v2 : Int32) (K5 : Int32 → Int32 → S3 → R3) (v3 : Int32) (v4 : Int32) (σ : S3) : R3 :=
  if (σ 0 2 0) ≤ v4 then (some (v3, σ))
  else (bd (F_X9_isMove v4 v1 v2 σ) (fun r1895 s1896 => if r1895 = (0 : Int32) then (nm (v3 ||| (0 : Int32)) (fun x1899 => nm (v4 + (1 : Int32)) (fun x1900 => K5 x1899 x1900 s1896)))
  else (nm (v3 ||| ((1 : Int32) <<< (v4 &&& 31))) (fun x1901 => nm (v4 + (1 : Int32)) (fun x1902 => K5 x1901 x1902 s1896)))))
noncomputable def F_X9_movesAt_5 (v1 : Int32) (v2 : Int32) (n : Nat) : Int32 → Int32 → S3 → R3 := zl2 (Fb_X9_movesAt_5 v1 v2) n
set_option maxHeartbeats 4000000 in
set_option maxRecDepth 100000 in
theorem B_X9_movesAt_5 {κ : zT} {σ' : S3} {r : Int32} (X : zC κ zM RX9 cX9_movesAt 5 (some .int) 2 (some (.int r)) σ') {v1 : Int32} {v2 : Int32} : ∀ (n : Nat) (v3 : Int32) (v4 : Int32) (σ : S3), F_X9_movesAt_5 v1 v2 n v3 v4 σ = some (r, σ') → Z κ 5 (zM (ze κ.1) σ) [(0, .ref (zo κ.1 0)), (1, .int v1), (2, .int v2), (3, .int v3), (4, .int v4)] 5 [] := by
  intro n
  induction n with
  | zero =>
    intro v3 v4 σ h
    cases (show (none : R3) = some (r, σ') from h)
  | succ n ih =>
    intro v3 v4 σ h
    have hK5 := ih
    have h : Fb_X9_movesAt_5 v1 v2 (F_X9_movesAt_5 v1 v2 n) v3 v4 σ = some (r, σ') := h
    unfold Fb_X9_movesAt_5 at h
    refine z_iload X.1 dX9_movesAt_5 4 rfl ?_
    refine z_aload_n (i := 0) X.1 dX9_movesAt_7 0 rfl rfl ?_
    refine g_X9_lines X.1 tw807 dX9_movesAt_8 ?_
    refine z_icmp_ge (tgt := 42) X.1 dX9_movesAt_11 (by decide) h (fun q1894 h => ?_) (fun q1894 h => ?_)
    · refine z_iload_n (i := 3) X.1 dX9_movesAt_42 3 rfl rfl ?_
      exact z_iret X dX9_movesAt_43 h
    · refine z_iload_n (i := 3) X.1 dX9_movesAt_14 3 rfl rfl ?_
      refine z_aload_n (i := 0) X.1 dX9_movesAt_15 0 rfl rfl ?_
      refine z_iload X.1 dX9_movesAt_16 4 rfl ?_
      refine z_iload_n (i := 1) X.1 dX9_movesAt_18 1 rfl rfl ?_
      refine z_iload_n (i := 2) X.1 dX9_movesAt_19 2 rfl rfl ?_
      obtain ⟨r1895, s1896, hc1897, h⟩ := bd_inv h
      refine cl_X9_160 (d1 := 1) (b := zo κ.1 0) (As := [.int v4, .int v1, .int v2]) (rest := [.int v3]) X.1 (by decide) (C_X9_isMove X.2.1 hc1897) rcX9 rfl rfl (Nat.le_of_ble_eq_true rfl) dX9_movesAt_20 ?_
      refine z_if_eq (tgt := 33) X.1 dX9_movesAt_23 (by decide) h (fun q1898 h => ?_) (fun q1898 h => ?_)
      · refine z_iconst (v := (0 : Int32)) X.1 dX9_movesAt_33 (by decide) ?_
        refine z_ior X.1 dX9_movesAt_34 ?_
        refine z_istore_nn (i := 3) (lv' := fun x1899 => [(3, .int x1899), (0, .ref (zo κ.1 0)), (1, .int v1), (2, .int v2), (4, .int v4)]) X.1 dX9_movesAt_35 rfl (by decide) (fun _ => rfl) h (fun x1899 h => ?_)
        refine z_iinc_m (v := (1 : Int32)) (lv' := fun x1900 => [(4, .int x1900), (3, .int x1899), (0, .ref (zo κ.1 0)), (1, .int v1), (2, .int v2)]) X.1 dX9_movesAt_36 4 rfl (by decide) (by decide) (fun _ => rfl) h (fun x1900 h => ?_)
        refine z_goto (tgt := 5) X.1 dX9_movesAt_39 (by decide) ?_
        exact z_sub [2, 3, 4, 1, 0] rfl (hK5 _ _ _ h)
      · refine z_iconst (v := (1 : Int32)) X.1 dX9_movesAt_26 (by decide) ?_
        refine z_iload X.1 dX9_movesAt_27 4 rfl ?_
        refine z_ishl X.1 dX9_movesAt_29 ?_
        refine z_goto (tgt := 34) X.1 dX9_movesAt_30 (by decide) ?_
        refine z_ior X.1 dX9_movesAt_34 ?_
        refine z_istore_nn (i := 3) (lv' := fun x1901 => [(3, .int x1901), (0, .ref (zo κ.1 0)), (1, .int v1), (2, .int v2), (4, .int v4)]) X.1 dX9_movesAt_35 rfl (by decide) (fun _ => rfl) h (fun x1901 h => ?_)
        refine z_iinc_m (v := (1 : Int32)) (lv' := fun x1902 => [(4, .int x1902), (3, .int x1901), (0, .ref (zo κ.1 0)), (1, .int v1), (2, .int v2)]) X.1 dX9_movesAt_36 4 rfl (by decide) (by decide) (fun _ => rfl) h (fun x1902 h => ?_)
        refine z_goto (tgt := 5) X.1 dX9_movesAt_39 (by decide) ?_
        exact z_sub [2, 3, 4, 1, 0] rfl (hK5 _ _ _ h)
noncomputable def F_X9_movesAt (v1 : Int32) (v2 : Int32) (σ : S3) : R3 :=
  F_X9_movesAt_5 v1 v2 zF (0 : Int32) (0 : Int32) σ
set_option maxHeartbeats 4000000 in
set_option maxRecDepth 100000 in
theorem B_X9_movesAt_0 {κ : zT} {σ' : S3} {r : Int32} (X : zC κ zM RX9 cX9_movesAt 5 (some .int) 2 (some (.int r)) σ') {v1 : Int32} {v2 : Int32} {σ : S3} (h : F_X9_movesAt v1 v2 σ = some (r, σ')) : Z κ 5 (zM (ze κ.1) σ) [(0, .ref (zo κ.1 0)), (1, .int v1), (2, .int v2)] 0 [] := by
  unfold F_X9_movesAt at h
  refine z_iconst (v := (0 : Int32)) X.1 dX9_movesAt_0 (by decide) ?_
  refine z_istore_n (i := 3) (lv' := [(3, .int (0 : Int32)), (0, .ref (zo κ.1 0)), (1, .int v1), (2, .int v2)]) X.1 dX9_movesAt_1 rfl (by decide) rfl ?_
  refine z_iconst (v := (0 : Int32)) X.1 dX9_movesAt_2 (by decide) ?_
  refine z_istore (i := 4) (lv' := [(4, .int (0 : Int32)), (3, .int (0 : Int32)), (0, .ref (zo κ.1 0)), (1, .int v1), (2, .int v2)]) X.1 dX9_movesAt_3 (by decide) rfl ?_
  exact z_sub [2, 3, 4, 1, 0] rfl (B_X9_movesAt_5 X zF _ _ _ h)
theorem C_X9_movesAt {ζ : zW} (hZ : zDis ζ zM) {v1 : Int32} {v2 : Int32} {σ σ' : S3} {r : Int32} (h : F_X9_movesAt v1 v2 σ = some (r, σ')) : zMet ζ zM 2 yX9_movesAt cX9_movesAt 5 (some .int) [.ref (zo ζ 0), .int v1, .int v2] σ (some (.int r)) σ' :=
  zMet_of pn_X9 hZ (Nat.le_of_ble_eq_true rfl) (fun κ e X => by subst e; exact B_X9_movesAt_0 X h)
noncomputable def Fb_X9_tables_22 (K22 : Int32 → S3 → R3) (v1 : Int32) (σ : S3) : R3 :=
  if (40960 : Int32) ≤ v1 then (some ((0 : Int32), σ))
  else (ck v1 40960 (nm (up σ 0 20 (ix v1) (0 : Int32)) (fun s1906 => ck v1 40960 (nm (up s1906 0 21 (ix v1) (0 : Int32)) (fun s1907 => nm (v1 + (1 : Int32)) (fun x1908 => K22 x1908 s1907))))))
noncomputable def F_X9_tables_22 (n : Nat) : Int32 → S3 → R3 := zl1 (Fb_X9_tables_22) n
set_option maxHeartbeats 4000000 in
set_option maxRecDepth 100000 in
theorem B_X9_tables_22 {κ : zT} {σ' : S3} {r : Int32} (X : zC κ zM RX9 cX9_tables 2 none 0 none σ') : ∀ (n : Nat) (v1 : Int32) (σ : S3), F_X9_tables_22 n v1 σ = some (r, σ') → Z κ 2 (zM (ze κ.1) σ) [(0, .ref (zo κ.1 0)), (1, .int v1)] 22 [] := by
  intro n
  induction n with
  | zero =>
    intro v1 σ h
    cases (show (none : R3) = some (r, σ') from h)
  | succ n ih =>
    intro v1 σ h
    have hK22 := ih
    have h : Fb_X9_tables_22 (F_X9_tables_22 n) v1 σ = some (r, σ') := h
    unfold Fb_X9_tables_22 at h
    refine z_iload_n (i := 1) X.1 dX9_tables_22 1 rfl rfl ?_
    refine z_ldc (v := (40960 : Int32)) X.1 dX9_tables_23 tw804 ?_
    refine z_icmp_ge (tgt := 48) X.1 dX9_tables_25 (by decide) h (fun q1905 h => ?_) (fun q1905 h => ?_)
    · exact z_vret X dX9_tables_48 h
    · refine z_aload_n (i := 0) X.1 dX9_tables_28 0 rfl rfl ?_
      refine g_X9_worths X.1 tw825 dX9_tables_29 ?_
      refine z_iload_n (i := 1) X.1 dX9_tables_32 1 rfl rfl ?_
      refine z_iconst (v := (0 : Int32)) X.1 dX9_tables_33 (by decide) ?_
      refine as_X9_worths X.1 X.2.1 dX9_tables_34 h (fun s1906 h => ?_)
      refine z_aload_n (i := 0) X.1 dX9_tables_35 0 rfl rfl ?_
      refine g_X9_nims X.1 tw826 dX9_tables_36 ?_
      refine z_iload_n (i := 1) X.1 dX9_tables_39 1 rfl rfl ?_
      refine z_iconst (v := (0 : Int32)) X.1 dX9_tables_40 (by decide) ?_
      refine as_X9_nims X.1 X.2.1 dX9_tables_41 h (fun s1907 h => ?_)
      refine z_iinc_m (v := (1 : Int32)) (lv' := fun x1908 => [(1, .int x1908), (0, .ref (zo κ.1 0))]) X.1 dX9_tables_42 1 rfl (by decide) (by decide) (fun _ => rfl) h (fun x1908 h => ?_)
      refine z_goto (tgt := 22) X.1 dX9_tables_45 (by decide) ?_
      exact z_sub [1, 0] rfl (hK22 _ _ h)
noncomputable def F_X9_tables (σ : S3) : R3 :=
  if (σ 0 22 0) = (σ 0 12 0) then (some ((0 : Int32), σ))
  else (nm (up σ 0 22 0 (σ 0 12 0)) (fun s1904 => F_X9_tables_22 zF (0 : Int32) s1904))
set_option maxHeartbeats 4000000 in
set_option maxRecDepth 100000 in
theorem B_X9_tables_0 {κ : zT} {σ' : S3} {r : Int32} (X : zC κ zM RX9 cX9_tables 2 none 0 none σ') {σ : S3} (h : F_X9_tables σ = some (r, σ')) : Z κ 2 (zM (ze κ.1) σ) [(0, .ref (zo κ.1 0))] 0 [] := by
  unfold F_X9_tables at h
  refine z_aload_n (i := 0) X.1 dX9_tables_0 0 rfl rfl ?_
  refine g_X9_tabled X.1 tw827 dX9_tables_1 ?_
  refine z_aload_n (i := 0) X.1 dX9_tables_4 0 rfl rfl ?_
  refine g_X9_rule X.1 tw817 dX9_tables_5 ?_
  refine z_icmp_ne (tgt := 12) X.1 dX9_tables_8 (by decide) h (fun q1903 h => ?_) (fun q1903 h => ?_)
  · refine z_aload_n (i := 0) X.1 dX9_tables_12 0 rfl rfl ?_
    refine z_aload_n (i := 0) X.1 dX9_tables_13 0 rfl rfl ?_
    refine g_X9_rule X.1 tw817 dX9_tables_14 ?_
    refine p_X9_tabled X.1 X.2.1 tw827 dX9_tables_17 h (fun s1904 h => ?_)
    refine z_iconst (v := (0 : Int32)) X.1 dX9_tables_20 (by decide) ?_
    refine z_istore_n (i := 1) (lv' := [(1, .int (0 : Int32)), (0, .ref (zo κ.1 0))]) X.1 dX9_tables_21 rfl (by decide) rfl ?_
    exact z_sub [1, 0] rfl (B_X9_tables_22 X zF _ _ h)
  · exact z_vret X dX9_tables_11 h
theorem C_X9_tables {ζ : zW} (hZ : zDis ζ zM) {σ σ' : S3} {r : Int32} (h : F_X9_tables  σ = some (r, σ')) : zMet ζ zM 0 yX9_tables cX9_tables 2 none [.ref (zo ζ 0)] σ none σ' :=
  zMet_of pn_X9 hZ (Nat.le_of_ble_eq_true rfl) (fun κ e X => by subst e; exact B_X9_tables_0 X h)
noncomputable def F_X9_worthAt_218 (Rc : Int32 → Int32 → S3 → R3) (v3 : Int32) (s0 : Int32) (s1 : Int32) (s2 : Int32) (σ : S3) : R3 :=
  ck s2 40960 (nm (up σ 0 20 (ix s2) (s1 + s0)) (fun s1917 => ck v3 40960 (some (s1917 0 20 (ix v3), s1917))))
set_option maxHeartbeats 4000000 in
set_option maxRecDepth 100000 in
theorem B_X9_worthAt_218 {κ : zT} {σ' : S3} {r : Int32} {d d0 : Nat} (X : zC κ zM RX9 cX9_worthAt 9 (some .int) d (some (.int r)) σ') {Rc : Int32 → Int32 → S3 → R3} (hR : ∀ (a1 a2 : Int32) (s1 s2 : S3) (r1 : Int32), Rc a1 a2 s1 = some (r1, s2) → zMet κ.1 zM d0 yX9_worthAt cX9_worthAt 9 (some .int) [.ref (zo κ.1 0), .int a1, .int a2] s1 (some (.int r1)) s2) (hd : d0 + 1 ≤ d) (hb : 2 ≤ d) {v3 : Int32} {s0 : Int32} {s1 : Int32} {s2 : Int32} {σ : S3} (h : F_X9_worthAt_218 Rc v3 s0 s1 s2 σ = some (r, σ')) : Z κ 9 (zM (ze κ.1) σ) [(0, .ref (zo κ.1 0)), (3, .int v3)] 218 [.int s0, .int s1, .int s2, .ref (za κ.1 0 20)] := by
  unfold F_X9_worthAt_218 at h
  refine z_iadd X.1 dX9_worthAt_218 ?_
  refine as_X9_worths X.1 X.2.1 dX9_worthAt_219 h (fun s1917 h => ?_)
  refine z_aload_n (i := 0) X.1 dX9_worthAt_220 0 rfl rfl ?_
  refine g_X9_worths X.1 tw825 dX9_worthAt_221 ?_
  refine z_iload_n (i := 3) X.1 dX9_worthAt_224 1 rfl rfl ?_
  refine al_X9_worths X.1 dX9_worthAt_225 h (fun h => ?_)
  exact z_iret X dX9_worthAt_226 h
noncomputable def F_X9_worthAt_195 (Rc : Int32 → Int32 → S3 → R3) (v3 : Int32) (v6 : Int32) (s0 : Int32) (σ : S3) : R3 :=
  if v6 = (0 : Int32) then (F_X9_worthAt_218 Rc v3 (0 : Int32) ((1 : Int32) + ((2 : Int32) * s0)) v3 σ)
  else (F_X9_worthAt_218 Rc v3 (1 : Int32) ((1 : Int32) + ((2 : Int32) * s0)) v3 σ)
set_option maxHeartbeats 4000000 in
set_option maxRecDepth 100000 in
theorem B_X9_worthAt_195 {κ : zT} {σ' : S3} {r : Int32} {d d0 : Nat} (X : zC κ zM RX9 cX9_worthAt 9 (some .int) d (some (.int r)) σ') {Rc : Int32 → Int32 → S3 → R3} (hR : ∀ (a1 a2 : Int32) (s1 s2 : S3) (r1 : Int32), Rc a1 a2 s1 = some (r1, s2) → zMet κ.1 zM d0 yX9_worthAt cX9_worthAt 9 (some .int) [.ref (zo κ.1 0), .int a1, .int a2] s1 (some (.int r1)) s2) (hd : d0 + 1 ≤ d) (hb : 2 ≤ d) {v3 : Int32} {v6 : Int32} {s0 : Int32} {σ : S3} (h : F_X9_worthAt_195 Rc v3 v6 s0 σ = some (r, σ')) : Z κ 9 (zM (ze κ.1) σ) [(0, .ref (zo κ.1 0)), (3, .int v3), (6, .int v6)] 195 [.int s0] := by
  unfold F_X9_worthAt_195 at h
  refine z_istore (i := 7) (lv' := [(7, .int s0), (0, .ref (zo κ.1 0)), (3, .int v3), (6, .int v6)]) X.1 dX9_worthAt_195 (by decide) rfl ?_
  refine z_aload_n (i := 0) X.1 dX9_worthAt_197 1 rfl rfl ?_
  refine g_X9_worths X.1 tw825 dX9_worthAt_198 ?_
  refine z_iload_n (i := 3) X.1 dX9_worthAt_201 2 rfl rfl ?_
  refine z_iconst (v := (1 : Int32)) X.1 dX9_worthAt_202 (by decide) ?_
  refine z_iconst (v := (2 : Int32)) X.1 dX9_worthAt_203 (by decide) ?_
  refine z_iload X.1 dX9_worthAt_204 0 rfl ?_
  refine z_imul X.1 dX9_worthAt_206 ?_
  refine z_iadd X.1 dX9_worthAt_207 ?_
  refine z_iload X.1 dX9_worthAt_208 3 rfl ?_
  refine z_if_eq (tgt := 217) X.1 dX9_worthAt_210 (by decide) h (fun q1916 h => ?_) (fun q1916 h => ?_)
  · refine z_iconst (v := (0 : Int32)) X.1 dX9_worthAt_217 (by decide) ?_
    exact z_sub [1, 2] rfl (B_X9_worthAt_218 X hR hd hb h)
  · refine z_iconst (v := (1 : Int32)) X.1 dX9_worthAt_213 (by decide) ?_
    refine z_goto (tgt := 218) X.1 dX9_worthAt_214 (by decide) ?_
    exact z_sub [1, 2] rfl (B_X9_worthAt_218 X hR hd hb h)
noncomputable def F_X9_worthAt_169 (Rc : Int32 → Int32 → S3 → R3) (v3 : Int32) (v4 : Int32) (v5 : Int32) (s0 : Int32) (σ : S3) : R3 :=
  if v5 = (-1 : Int32) then (F_X9_worthAt_195 Rc v3 s0 (0 : Int32) σ)
  else (if s0 = (0 : Int32) then (F_X9_worthAt_195 Rc v3 s0 ((1 : Int32) + v5) σ)
  else (F_X9_worthAt_195 Rc v3 s0 ((1 : Int32) + v4) σ))
set_option maxHeartbeats 4000000 in
set_option maxRecDepth 100000 in
theorem B_X9_worthAt_169 {κ : zT} {σ' : S3} {r : Int32} {d d0 : Nat} (X : zC κ zM RX9 cX9_worthAt 9 (some .int) d (some (.int r)) σ') {Rc : Int32 → Int32 → S3 → R3} (hR : ∀ (a1 a2 : Int32) (s1 s2 : S3) (r1 : Int32), Rc a1 a2 s1 = some (r1, s2) → zMet κ.1 zM d0 yX9_worthAt cX9_worthAt 9 (some .int) [.ref (zo κ.1 0), .int a1, .int a2] s1 (some (.int r1)) s2) (hd : d0 + 1 ≤ d) (hb : 2 ≤ d) {v3 : Int32} {v4 : Int32} {v5 : Int32} {s0 : Int32} {σ : S3} (h : F_X9_worthAt_169 Rc v3 v4 v5 s0 σ = some (r, σ')) : Z κ 9 (zM (ze κ.1) σ) [(0, .ref (zo κ.1 0)), (3, .int v3), (4, .int v4), (5, .int v5)] 169 [.int s0] := by
  unfold F_X9_worthAt_169 at h
  refine z_istore (i := 6) (lv' := [(6, .int s0), (0, .ref (zo κ.1 0)), (3, .int v3), (4, .int v4), (5, .int v5)]) X.1 dX9_worthAt_169 (by decide) rfl ?_
  refine z_iload X.1 dX9_worthAt_171 4 rfl ?_
  refine z_iconst (v := (-1 : Int32)) X.1 dX9_worthAt_173 (by decide) ?_
  refine z_icmp_ne (tgt := 181) X.1 dX9_worthAt_174 (by decide) h (fun q1914 h => ?_) (fun q1914 h => ?_)
  · refine z_iconst (v := (1 : Int32)) X.1 dX9_worthAt_181 (by decide) ?_
    refine z_iload X.1 dX9_worthAt_182 0 rfl ?_
    refine z_if_eq (tgt := 192) X.1 dX9_worthAt_184 (by decide) h (fun q1915 h => ?_) (fun q1915 h => ?_)
    · refine z_iload X.1 dX9_worthAt_192 4 rfl ?_
      refine z_iadd X.1 dX9_worthAt_194 ?_
      exact z_sub [1, 2, 0] rfl (B_X9_worthAt_195 X hR hd hb h)
    · refine z_iload X.1 dX9_worthAt_187 3 rfl ?_
      refine z_goto (tgt := 194) X.1 dX9_worthAt_189 (by decide) ?_
      refine z_iadd X.1 dX9_worthAt_194 ?_
      exact z_sub [1, 2, 0] rfl (B_X9_worthAt_195 X hR hd hb h)
  · refine z_iconst (v := (0 : Int32)) X.1 dX9_worthAt_177 (by decide) ?_
    refine z_goto (tgt := 195) X.1 dX9_worthAt_178 (by decide) ?_
    exact z_sub [1, 2, 0] rfl (B_X9_worthAt_195 X hR hd hb h)
noncomputable def F_X9_worthAt_121 (Rc : Int32 → Int32 → S3 → R3) (K33 : Int32 → Int32 → Int32 → S3 → R3) (v1 : Int32) (v2 : Int32) (v3 : Int32) (v5 : Int32) (v6 : Int32) (v8 : Int32) (σ : S3) : R3 :=
  nm (v6 + (1 : Int32)) (fun x1938 => K33 v8 v5 x1938 σ)
set_option maxHeartbeats 4000000 in
set_option maxRecDepth 100000 in
theorem B_X9_worthAt_121 {κ : zT} {σ' : S3} {r : Int32} {d d0 : Nat} (X : zC κ zM RX9 cX9_worthAt 9 (some .int) d (some (.int r)) σ') {Rc : Int32 → Int32 → S3 → R3} (hR : ∀ (a1 a2 : Int32) (s1 s2 : S3) (r1 : Int32), Rc a1 a2 s1 = some (r1, s2) → zMet κ.1 zM d0 yX9_worthAt cX9_worthAt 9 (some .int) [.ref (zo κ.1 0), .int a1, .int a2] s1 (some (.int r1)) s2) (hd : d0 + 1 ≤ d) (hb : 2 ≤ d) {K33 : Int32 → Int32 → Int32 → S3 → R3} {v1 : Int32} {v2 : Int32} {v3 : Int32} {v5 : Int32} {v6 : Int32} {v8 : Int32} {σ : S3} (hK33 : ∀ (w4 : Int32) (w5 : Int32) (w6 : Int32) (s1 : S3), K33 w4 w5 w6 s1 = some (r, σ') → Z κ 9 (zM (ze κ.1) s1) [(0, .ref (zo κ.1 0)), (1, .int v1), (2, .int v2), (3, .int v3), (4, .int w4), (5, .int w5), (6, .int w6)] 33 []) (h : F_X9_worthAt_121 Rc K33 v1 v2 v3 v5 v6 v8 σ = some (r, σ')) : Z κ 9 (zM (ze κ.1) σ) [(0, .ref (zo κ.1 0)), (1, .int v1), (2, .int v2), (3, .int v3), (5, .int v5), (6, .int v6), (8, .int v8)] 121 [] := by
  unfold F_X9_worthAt_121 at h
  refine z_iload X.1 dX9_worthAt_121 6 rfl ?_
  refine z_goto (tgt := 128) X.1 dX9_worthAt_123 (by decide) ?_
  refine z_istore (i := 4) (lv' := [(4, .int v8), (0, .ref (zo κ.1 0)), (1, .int v1), (2, .int v2), (3, .int v3), (5, .int v5), (6, .int v6), (8, .int v8)]) X.1 dX9_worthAt_128 (by decide) rfl ?_
  refine z_iinc_m (v := (1 : Int32)) (lv' := fun x1938 => [(6, .int x1938), (4, .int v8), (0, .ref (zo κ.1 0)), (1, .int v1), (2, .int v2), (3, .int v3), (5, .int v5), (8, .int v8)]) X.1 dX9_worthAt_130 6 rfl (by decide) (by decide) (fun _ => rfl) h (fun x1938 h => ?_)
  refine z_goto (tgt := 33) X.1 dX9_worthAt_133 (by decide) ?_
  exact z_sub [2, 3, 4, 5, 1, 6, 0] rfl (hK33 _ _ _ _ h)
noncomputable def F_X9_worthAt_99 (Rc : Int32 → Int32 → S3 → R3) (K33 : Int32 → Int32 → Int32 → S3 → R3) (v1 : Int32) (v2 : Int32) (v3 : Int32) (v4 : Int32) (v6 : Int32) (v7 : Int32) (v8 : Int32) (s0 : Int32) (σ : S3) : R3 :=
  if (v7 &&& (1 : Int32)) = (0 : Int32) then (if v4 = (-1 : Int32) then (F_X9_worthAt_121 Rc K33 v1 v2 v3 s0 v6 v8 σ)
  else (if v4 ≤ v8 then (nm (v6 + (1 : Int32)) (fun x1940 => K33 v4 s0 x1940 σ))
  else (F_X9_worthAt_121 Rc K33 v1 v2 v3 s0 v6 v8 σ)))
  else (nm (v6 + (1 : Int32)) (fun x1936 => K33 v4 s0 x1936 σ))
set_option maxHeartbeats 4000000 in
set_option maxRecDepth 100000 in
theorem B_X9_worthAt_99 {κ : zT} {σ' : S3} {r : Int32} {d d0 : Nat} (X : zC κ zM RX9 cX9_worthAt 9 (some .int) d (some (.int r)) σ') {Rc : Int32 → Int32 → S3 → R3} (hR : ∀ (a1 a2 : Int32) (s1 s2 : S3) (r1 : Int32), Rc a1 a2 s1 = some (r1, s2) → zMet κ.1 zM d0 yX9_worthAt cX9_worthAt 9 (some .int) [.ref (zo κ.1 0), .int a1, .int a2] s1 (some (.int r1)) s2) (hd : d0 + 1 ≤ d) (hb : 2 ≤ d) {K33 : Int32 → Int32 → Int32 → S3 → R3} {v1 : Int32} {v2 : Int32} {v3 : Int32} {v4 : Int32} {v6 : Int32} {v7 : Int32} {v8 : Int32} {s0 : Int32} {σ : S3} (hK33 : ∀ (w4 : Int32) (w5 : Int32) (w6 : Int32) (s1 : S3), K33 w4 w5 w6 s1 = some (r, σ') → Z κ 9 (zM (ze κ.1) s1) [(0, .ref (zo κ.1 0)), (1, .int v1), (2, .int v2), (3, .int v3), (4, .int w4), (5, .int w5), (6, .int w6)] 33 []) (h : F_X9_worthAt_99 Rc K33 v1 v2 v3 v4 v6 v7 v8 s0 σ = some (r, σ')) : Z κ 9 (zM (ze κ.1) σ) [(0, .ref (zo κ.1 0)), (1, .int v1), (2, .int v2), (3, .int v3), (4, .int v4), (6, .int v6), (7, .int v7), (8, .int v8)] 99 [.int s0] := by
  unfold F_X9_worthAt_99 at h
  refine z_istore (i := 5) (lv' := [(5, .int s0), (0, .ref (zo κ.1 0)), (1, .int v1), (2, .int v2), (3, .int v3), (4, .int v4), (6, .int v6), (7, .int v7), (8, .int v8)]) X.1 dX9_worthAt_99 (by decide) rfl ?_
  refine z_iload X.1 dX9_worthAt_101 7 rfl ?_
  refine z_iconst (v := (1 : Int32)) X.1 dX9_worthAt_103 (by decide) ?_
  refine z_iand X.1 dX9_worthAt_104 ?_
  refine z_if_ne (tgt := 126) X.1 dX9_worthAt_105 (by decide) h (fun q1935 h => ?_) (fun q1935 h => ?_)
  · refine z_iload X.1 dX9_worthAt_126 5 rfl ?_
    refine z_istore (i := 4) (lv' := [(4, .int v4), (5, .int s0), (0, .ref (zo κ.1 0)), (1, .int v1), (2, .int v2), (3, .int v3), (6, .int v6), (7, .int v7), (8, .int v8)]) X.1 dX9_worthAt_128 (by decide) rfl ?_
    refine z_iinc_m (v := (1 : Int32)) (lv' := fun x1936 => [(6, .int x1936), (4, .int v4), (5, .int s0), (0, .ref (zo κ.1 0)), (1, .int v1), (2, .int v2), (3, .int v3), (7, .int v7), (8, .int v8)]) X.1 dX9_worthAt_130 6 rfl (by decide) (by decide) (fun _ => rfl) h (fun x1936 h => ?_)
    refine z_goto (tgt := 33) X.1 dX9_worthAt_133 (by decide) ?_
    exact z_sub [3, 4, 5, 6, 1, 2, 0] rfl (hK33 _ _ _ _ h)
  · refine z_iload X.1 dX9_worthAt_108 5 rfl ?_
    refine z_iconst (v := (-1 : Int32)) X.1 dX9_worthAt_110 (by decide) ?_
    refine z_icmp_eq (tgt := 121) X.1 dX9_worthAt_111 (by decide) h (fun q1937 h => ?_) (fun q1937 h => ?_)
    · exact z_sub [1, 2, 3, 4, 0, 6, 8] rfl (B_X9_worthAt_121 X hR hd hb hK33 h)
    · refine z_iload X.1 dX9_worthAt_114 8 rfl ?_
      refine z_iload X.1 dX9_worthAt_116 5 rfl ?_
      refine z_icmp_ge (tgt := 126) X.1 dX9_worthAt_118 (by decide) h (fun q1939 h => ?_) (fun q1939 h => ?_)
      · refine z_iload X.1 dX9_worthAt_126 5 rfl ?_
        refine z_istore (i := 4) (lv' := [(4, .int v4), (5, .int s0), (0, .ref (zo κ.1 0)), (1, .int v1), (2, .int v2), (3, .int v3), (6, .int v6), (7, .int v7), (8, .int v8)]) X.1 dX9_worthAt_128 (by decide) rfl ?_
        refine z_iinc_m (v := (1 : Int32)) (lv' := fun x1940 => [(6, .int x1940), (4, .int v4), (5, .int s0), (0, .ref (zo κ.1 0)), (1, .int v1), (2, .int v2), (3, .int v3), (7, .int v7), (8, .int v8)]) X.1 dX9_worthAt_130 6 rfl (by decide) (by decide) (fun _ => rfl) h (fun x1940 h => ?_)
        refine z_goto (tgt := 33) X.1 dX9_worthAt_133 (by decide) ?_
        exact z_sub [3, 4, 5, 6, 1, 2, 0] rfl (hK33 _ _ _ _ h)
      · exact z_sub [1, 2, 3, 4, 0, 6, 8] rfl (B_X9_worthAt_121 X hR hd hb hK33 h)
noncomputable def Fb_X9_worthAt_33 (Rc : Int32 → Int32 → S3 → R3) (v1 : Int32) (v2 : Int32) (v3 : Int32) (K33 : Int32 → Int32 → Int32 → S3 → R3) (v4 : Int32) (v5 : Int32) (v6 : Int32) (σ : S3) : R3 :=
  if (σ 0 2 0) ≤ v6 then (if v5 = (-1 : Int32) then (if (σ 0 12 0) = (4 : Int32) then (F_X9_worthAt_169 Rc v3 v4 v5 (1 : Int32) σ)
  else (F_X9_worthAt_169 Rc v3 v4 v5 (0 : Int32) σ))
  else (if v4 = (-1 : Int32) then (F_X9_worthAt_169 Rc v3 v4 v5 (0 : Int32) σ)
  else (F_X9_worthAt_169 Rc v3 v4 v5 (1 : Int32) σ)))
  else (bd (F_X9_isMove v6 v1 v2 σ) (fun r1919 s1920 => if r1919 = (0 : Int32) then (nm (v6 + (1 : Int32)) (fun x1941 => K33 v4 v5 x1941 s1920))
  else (bd (F_X9_otherOf v6 v1 s1920) (fun r1923 s1924 => bd (F_X9_setBehind v6 v1 v2 s1924) (fun r1926 s1927 => bd (Rc r1923 r1926 s1927) (fun r1929 s1930 => nm (r1929 - (1 : Int32)) (fun x1932 => nm (x1932 >>> ((1 : Int32) &&& 31)) (fun x1933 => if x1933 ≤ v5 then (F_X9_worthAt_99 Rc K33 v1 v2 v3 v4 v6 x1932 x1933 v5 s1930)
  else (F_X9_worthAt_99 Rc K33 v1 v2 v3 v4 v6 x1932 x1933 x1933 s1930)))))))))
noncomputable def F_X9_worthAt_33 (Rc : Int32 → Int32 → S3 → R3) (v1 : Int32) (v2 : Int32) (v3 : Int32) (n : Nat) : Int32 → Int32 → Int32 → S3 → R3 := zl3 (Fb_X9_worthAt_33 Rc v1 v2 v3) n
set_option maxHeartbeats 4000000 in
set_option maxRecDepth 100000 in
theorem B_X9_worthAt_33 {κ : zT} {σ' : S3} {r : Int32} {d d0 : Nat} (X : zC κ zM RX9 cX9_worthAt 9 (some .int) d (some (.int r)) σ') {Rc : Int32 → Int32 → S3 → R3} (hR : ∀ (a1 a2 : Int32) (s1 s2 : S3) (r1 : Int32), Rc a1 a2 s1 = some (r1, s2) → zMet κ.1 zM d0 yX9_worthAt cX9_worthAt 9 (some .int) [.ref (zo κ.1 0), .int a1, .int a2] s1 (some (.int r1)) s2) (hd : d0 + 1 ≤ d) (hb : 2 ≤ d) {v1 : Int32} {v2 : Int32} {v3 : Int32} : ∀ (n : Nat) (v4 : Int32) (v5 : Int32) (v6 : Int32) (σ : S3), F_X9_worthAt_33 Rc v1 v2 v3 n v4 v5 v6 σ = some (r, σ') → Z κ 9 (zM (ze κ.1) σ) [(0, .ref (zo κ.1 0)), (1, .int v1), (2, .int v2), (3, .int v3), (4, .int v4), (5, .int v5), (6, .int v6)] 33 [] := by
  intro n
  induction n with
  | zero =>
    intro v4 v5 v6 σ h
    cases (show (none : R3) = some (r, σ') from h)
  | succ n ih =>
    intro v4 v5 v6 σ h
    have hK33 := ih
    have h : Fb_X9_worthAt_33 Rc v1 v2 v3 (F_X9_worthAt_33 Rc v1 v2 v3 n) v4 v5 v6 σ = some (r, σ') := h
    unfold Fb_X9_worthAt_33 at h
    refine z_iload X.1 dX9_worthAt_33 6 rfl ?_
    refine z_aload_n (i := 0) X.1 dX9_worthAt_35 0 rfl rfl ?_
    refine g_X9_lines X.1 tw807 dX9_worthAt_36 ?_
    refine z_icmp_ge (tgt := 136) X.1 dX9_worthAt_39 (by decide) h (fun q1911 h => ?_) (fun q1911 h => ?_)
    · refine z_iload X.1 dX9_worthAt_136 5 rfl ?_
      refine z_iconst (v := (-1 : Int32)) X.1 dX9_worthAt_138 (by decide) ?_
      refine z_icmp_ne (tgt := 158) X.1 dX9_worthAt_139 (by decide) h (fun q1912 h => ?_) (fun q1912 h => ?_)
      · refine z_iload X.1 dX9_worthAt_158 4 rfl ?_
        refine z_iconst (v := (-1 : Int32)) X.1 dX9_worthAt_160 (by decide) ?_
        refine z_icmp_eq (tgt := 168) X.1 dX9_worthAt_161 (by decide) h (fun q1913 h => ?_) (fun q1913 h => ?_)
        · refine z_iconst (v := (0 : Int32)) X.1 dX9_worthAt_168 (by decide) ?_
          exact z_sub [0, 3, 4, 5] rfl (B_X9_worthAt_169 X hR hd hb h)
        · refine z_iconst (v := (1 : Int32)) X.1 dX9_worthAt_164 (by decide) ?_
          refine z_goto (tgt := 169) X.1 dX9_worthAt_165 (by decide) ?_
          exact z_sub [0, 3, 4, 5] rfl (B_X9_worthAt_169 X hR hd hb h)
      · refine z_aload_n (i := 0) X.1 dX9_worthAt_142 0 rfl rfl ?_
        refine g_X9_rule X.1 tw817 dX9_worthAt_143 ?_
        refine z_iconst (v := (4 : Int32)) X.1 dX9_worthAt_146 (by decide) ?_
        refine z_icmp_ne (tgt := 154) X.1 dX9_worthAt_147 (by decide) h (fun q1918 h => ?_) (fun q1918 h => ?_)
        · refine z_iconst (v := (0 : Int32)) X.1 dX9_worthAt_154 (by decide) ?_
          refine z_goto (tgt := 169) X.1 dX9_worthAt_155 (by decide) ?_
          exact z_sub [0, 3, 4, 5] rfl (B_X9_worthAt_169 X hR hd hb h)
        · refine z_iconst (v := (1 : Int32)) X.1 dX9_worthAt_150 (by decide) ?_
          refine z_goto (tgt := 169) X.1 dX9_worthAt_151 (by decide) ?_
          exact z_sub [0, 3, 4, 5] rfl (B_X9_worthAt_169 X hR hd hb h)
    · refine z_aload_n (i := 0) X.1 dX9_worthAt_42 0 rfl rfl ?_
      refine z_iload X.1 dX9_worthAt_43 6 rfl ?_
      refine z_iload_n (i := 1) X.1 dX9_worthAt_45 1 rfl rfl ?_
      refine z_iload_n (i := 2) X.1 dX9_worthAt_46 2 rfl rfl ?_
      obtain ⟨r1919, s1920, hc1921, h⟩ := bd_inv h
      refine cl_X9_160 (d1 := 1) (b := zo κ.1 0) (As := [.int v6, .int v1, .int v2]) (rest := []) X.1 (Nat.le_trans (by decide) hb) (C_X9_isMove X.2.1 hc1921) rcX9 rfl rfl (Nat.le_of_ble_eq_true rfl) dX9_worthAt_47 ?_
      refine z_if_ne (tgt := 56) X.1 dX9_worthAt_50 (by decide) h (fun q1922 h => ?_) (fun q1922 h => ?_)
      · refine z_aload_n (i := 0) X.1 dX9_worthAt_56 0 rfl rfl ?_
        refine z_aload_n (i := 0) X.1 dX9_worthAt_57 0 rfl rfl ?_
        refine z_iload X.1 dX9_worthAt_58 6 rfl ?_
        refine z_iload_n (i := 1) X.1 dX9_worthAt_60 1 rfl rfl ?_
        obtain ⟨r1923, s1924, hc1925, h⟩ := bd_inv h
        refine cl_X9_101 (d1 := 0) (b := zo κ.1 0) (As := [.int v6, .int v1]) (rest := [.ref (zo κ.1 0)]) X.1 (Nat.le_trans (by decide) hb) (C_X9_otherOf X.2.1 hc1925) rcX9 rfl rfl (Nat.le_of_ble_eq_true rfl) dX9_worthAt_61 ?_
        refine z_aload_n (i := 0) X.1 dX9_worthAt_64 0 rfl rfl ?_
        refine z_iload X.1 dX9_worthAt_65 6 rfl ?_
        refine z_iload_n (i := 1) X.1 dX9_worthAt_67 1 rfl rfl ?_
        refine z_iload_n (i := 2) X.1 dX9_worthAt_68 2 rfl rfl ?_
        obtain ⟨r1926, s1927, hc1928, h⟩ := bd_inv h
        refine cl_X9_163 (d1 := 1) (b := zo κ.1 0) (As := [.int v6, .int v1, .int v2]) (rest := [.int r1923, .ref (zo κ.1 0)]) X.1 (Nat.le_trans (by decide) hb) (C_X9_setBehind X.2.1 hc1928) rcX9 rfl rfl (Nat.le_of_ble_eq_true rfl) dX9_worthAt_69 ?_
        obtain ⟨r1929, s1930, hc1931, h⟩ := bd_inv h
        refine cl_X9_167 (d1 := d0) (b := zo κ.1 0) (As := [.int r1923, .int r1926]) (rest := []) X.1 hd (hR _ _ _ _ _ hc1931) rcX9 rfl rfl (Nat.le_of_ble_eq_true rfl) dX9_worthAt_72 ?_
        refine z_iconst (v := (1 : Int32)) X.1 dX9_worthAt_75 (by decide) ?_
        refine z_isub X.1 dX9_worthAt_76 ?_
        refine z_istore_m (i := 7) (lv' := fun x1932 => [(7, .int x1932), (0, .ref (zo κ.1 0)), (1, .int v1), (2, .int v2), (3, .int v3), (4, .int v4), (5, .int v5), (6, .int v6)]) X.1 dX9_worthAt_77 (by decide) (fun _ => rfl) h (fun x1932 h => ?_)
        refine z_iload X.1 dX9_worthAt_79 0 rfl ?_
        refine z_iconst (v := (1 : Int32)) X.1 dX9_worthAt_81 (by decide) ?_
        refine z_ishr X.1 dX9_worthAt_82 ?_
        refine z_istore_m (i := 8) (lv' := fun x1933 => [(8, .int x1933), (7, .int x1932), (0, .ref (zo κ.1 0)), (1, .int v1), (2, .int v2), (3, .int v3), (4, .int v4), (5, .int v5), (6, .int v6)]) X.1 dX9_worthAt_83 (by decide) (fun _ => rfl) h (fun x1933 h => ?_)
        refine z_iload X.1 dX9_worthAt_85 0 rfl ?_
        refine z_iload X.1 dX9_worthAt_87 7 rfl ?_
        refine z_icmp_le (tgt := 97) X.1 dX9_worthAt_89 (by decide) h (fun q1934 h => ?_) (fun q1934 h => ?_)
        · refine z_iload X.1 dX9_worthAt_97 7 rfl ?_
          exact z_sub [2, 3, 4, 5, 6, 8, 1, 0] rfl (B_X9_worthAt_99 X hR hd hb hK33 h)
        · refine z_iload X.1 dX9_worthAt_92 0 rfl ?_
          refine z_goto (tgt := 99) X.1 dX9_worthAt_94 (by decide) ?_
          exact z_sub [2, 3, 4, 5, 6, 8, 1, 0] rfl (B_X9_worthAt_99 X hR hd hb hK33 h)
      · refine z_goto (tgt := 130) X.1 dX9_worthAt_53 (by decide) ?_
        refine z_iinc_m (v := (1 : Int32)) (lv' := fun x1941 => [(6, .int x1941), (0, .ref (zo κ.1 0)), (1, .int v1), (2, .int v2), (3, .int v3), (4, .int v4), (5, .int v5)]) X.1 dX9_worthAt_130 6 rfl (by decide) (by decide) (fun _ => rfl) h (fun x1941 h => ?_)
        refine z_goto (tgt := 33) X.1 dX9_worthAt_133 (by decide) ?_
        exact z_sub [1, 2, 3, 4, 5, 6, 0] rfl (hK33 _ _ _ _ h)
noncomputable def F_X9_worthAt_0 (Rc : Int32 → Int32 → S3 → R3) (v1 : Int32) (v2 : Int32) (σ : S3) : R3 :=
  nm (((4096 : Int32) * v1) + v2) (fun x1909 => ck x1909 40960 (if (σ 0 20 (ix x1909)) = (0 : Int32) then (F_X9_worthAt_33 Rc v1 v2 x1909 zF (-1 : Int32) (-1 : Int32) (0 : Int32) σ)
  else (ck x1909 40960 (some (σ 0 20 (ix x1909), σ)))))
set_option maxHeartbeats 4000000 in
set_option maxRecDepth 100000 in
theorem B_X9_worthAt_0 {κ : zT} {σ' : S3} {r : Int32} {d d0 : Nat} (X : zC κ zM RX9 cX9_worthAt 9 (some .int) d (some (.int r)) σ') {Rc : Int32 → Int32 → S3 → R3} (hR : ∀ (a1 a2 : Int32) (s1 s2 : S3) (r1 : Int32), Rc a1 a2 s1 = some (r1, s2) → zMet κ.1 zM d0 yX9_worthAt cX9_worthAt 9 (some .int) [.ref (zo κ.1 0), .int a1, .int a2] s1 (some (.int r1)) s2) (hd : d0 + 1 ≤ d) (hb : 2 ≤ d) {v1 : Int32} {v2 : Int32} {σ : S3} (h : F_X9_worthAt_0 Rc v1 v2 σ = some (r, σ')) : Z κ 9 (zM (ze κ.1) σ) [(0, .ref (zo κ.1 0)), (1, .int v1), (2, .int v2)] 0 [] := by
  unfold F_X9_worthAt_0 at h
  refine z_sipush (v := (4096 : Int32)) X.1 dX9_worthAt_0 (by decide) ?_
  refine z_iload_n (i := 1) X.1 dX9_worthAt_3 1 rfl rfl ?_
  refine z_imul X.1 dX9_worthAt_4 ?_
  refine z_iload_n (i := 2) X.1 dX9_worthAt_5 2 rfl rfl ?_
  refine z_iadd X.1 dX9_worthAt_6 ?_
  refine z_istore_nn (i := 3) (lv' := fun x1909 => [(3, .int x1909), (0, .ref (zo κ.1 0)), (1, .int v1), (2, .int v2)]) X.1 dX9_worthAt_7 rfl (by decide) (fun _ => rfl) h (fun x1909 h => ?_)
  refine z_aload_n (i := 0) X.1 dX9_worthAt_8 1 rfl rfl ?_
  refine g_X9_worths X.1 tw825 dX9_worthAt_9 ?_
  refine z_iload_n (i := 3) X.1 dX9_worthAt_12 0 rfl rfl ?_
  refine al_X9_worths X.1 dX9_worthAt_13 h (fun h => ?_)
  refine z_if_eq (tgt := 24) X.1 dX9_worthAt_14 (by decide) h (fun q1910 h => ?_) (fun q1910 h => ?_)
  · refine z_iconst (v := (-1 : Int32)) X.1 dX9_worthAt_24 (by decide) ?_
    refine z_istore (i := 4) (lv' := [(4, .int (-1 : Int32)), (3, .int x1909), (0, .ref (zo κ.1 0)), (1, .int v1), (2, .int v2)]) X.1 dX9_worthAt_25 (by decide) rfl ?_
    refine z_iconst (v := (-1 : Int32)) X.1 dX9_worthAt_27 (by decide) ?_
    refine z_istore (i := 5) (lv' := [(5, .int (-1 : Int32)), (4, .int (-1 : Int32)), (3, .int x1909), (0, .ref (zo κ.1 0)), (1, .int v1), (2, .int v2)]) X.1 dX9_worthAt_28 (by decide) rfl ?_
    refine z_iconst (v := (0 : Int32)) X.1 dX9_worthAt_30 (by decide) ?_
    refine z_istore (i := 6) (lv' := [(6, .int (0 : Int32)), (5, .int (-1 : Int32)), (4, .int (-1 : Int32)), (3, .int x1909), (0, .ref (zo κ.1 0)), (1, .int v1), (2, .int v2)]) X.1 dX9_worthAt_31 (by decide) rfl ?_
    exact z_sub [4, 5, 6, 3, 2, 1, 0] rfl (B_X9_worthAt_33 X hR hd hb zF _ _ _ _ h)
  · refine z_aload_n (i := 0) X.1 dX9_worthAt_17 1 rfl rfl ?_
    refine g_X9_worths X.1 tw825 dX9_worthAt_18 ?_
    refine z_iload_n (i := 3) X.1 dX9_worthAt_21 0 rfl rfl ?_
    refine al_X9_worths X.1 dX9_worthAt_22 h (fun h => ?_)
    exact z_iret X dX9_worthAt_23 h
noncomputable def F_X9_worthAt (k : Nat) : Int32 → Int32 → S3 → R3 := zl2 (F_X9_worthAt_0) k
theorem Ck_X9_worthAt {ζ : zW} (hZ : zDis ζ zM) : ∀ (k : Nat) (v1 : Int32) (v2 : Int32) (σ σ' : S3) (r : Int32), F_X9_worthAt k v1 v2 σ = some (r, σ') → zMet ζ zM (2 + k) yX9_worthAt cX9_worthAt 9 (some .int) [.ref (zo ζ 0), .int v1, .int v2] σ (some (.int r)) σ' := by
  intro k
  induction k with
  | zero =>
    intro v1 v2 σ σ' r h
    cases (show (none : R3) = some (r, σ') from h)
  | succ k ih =>
    intro v1 v2 σ σ' r h
    have h : F_X9_worthAt_0 (F_X9_worthAt k) v1 v2 σ = some (r, σ') := h
    exact zMet_of pn_X9 hZ (Nat.le_of_ble_eq_true rfl) (fun κ e X => by subst e; exact B_X9_worthAt_0 X ih (Nat.le_refl _) (by omega) h)
theorem C_X9_worthAt {ζ : zW} (hZ : zDis ζ zM) {v1 : Int32} {v2 : Int32} {σ σ' : S3} {r : Int32} (h : F_X9_worthAt 20 v1 v2 σ = some (r, σ')) : zMet ζ zM 22 yX9_worthAt cX9_worthAt 9 (some .int) [.ref (zo ζ 0), .int v1, .int v2] σ (some (.int r)) σ' := Ck_X9_worthAt hZ 20 _ _ _ _ _ h
noncomputable def F_X9_winsAt (v1 : Int32) (v2 : Int32) (σ : S3) : R3 :=
  bd (F_X9_tables σ) (fun r1942 s1943 => bd (F_X9_worthAt 20 v1 v2 s1943) (fun r1945 s1946 => if ((r1945 - (1 : Int32)) &&& (1 : Int32)) = (1 : Int32) then (some ((1 : Int32), s1946))
  else (some ((0 : Int32), s1946))))
set_option maxHeartbeats 4000000 in
set_option maxRecDepth 100000 in
theorem B_X9_winsAt_0 {κ : zT} {σ' : S3} {r : Int32} (X : zC κ zM RX9 cX9_winsAt 3 (some .boolean) 23 (some (.int r)) σ') {v1 : Int32} {v2 : Int32} {σ : S3} (h : F_X9_winsAt v1 v2 σ = some (r, σ')) : Z κ 3 (zM (ze κ.1) σ) [(0, .ref (zo κ.1 0)), (1, .int v1), (2, .int v2)] 0 [] := by
  unfold F_X9_winsAt at h
  refine z_aload_n (i := 0) X.1 dX9_winsAt_0 0 rfl rfl ?_
  obtain ⟨r1942, s1943, hc1944, h⟩ := bd_inv h
  refine cl_X9_170 (d1 := 0) (b := zo κ.1 0) (r := 0) (As := []) (rest := []) X.1 (by decide) (C_X9_tables X.2.1 hc1944) rcX9 rfl rfl (Nat.le_of_ble_eq_true rfl) dX9_winsAt_1 ?_
  refine z_aload_n (i := 0) X.1 dX9_winsAt_4 0 rfl rfl ?_
  refine z_iload_n (i := 1) X.1 dX9_winsAt_5 1 rfl rfl ?_
  refine z_iload_n (i := 2) X.1 dX9_winsAt_6 2 rfl rfl ?_
  obtain ⟨r1945, s1946, hc1947, h⟩ := bd_inv h
  refine cl_X9_167 (d1 := 22) (b := zo κ.1 0) (As := [.int v1, .int v2]) (rest := []) X.1 (by decide) (C_X9_worthAt X.2.1 hc1947) rcX9 rfl rfl (Nat.le_of_ble_eq_true rfl) dX9_winsAt_7 ?_
  refine z_iconst (v := (1 : Int32)) X.1 dX9_winsAt_10 (by decide) ?_
  refine z_isub X.1 dX9_winsAt_11 ?_
  refine z_iconst (v := (1 : Int32)) X.1 dX9_winsAt_12 (by decide) ?_
  refine z_iand X.1 dX9_winsAt_13 ?_
  refine z_iconst (v := (1 : Int32)) X.1 dX9_winsAt_14 (by decide) ?_
  refine z_icmp_ne (tgt := 22) X.1 dX9_winsAt_15 (by decide) h (fun q1948 h => ?_) (fun q1948 h => ?_)
  · refine z_iconst (v := (0 : Int32)) X.1 dX9_winsAt_22 (by decide) ?_
    exact z_zret X dX9_winsAt_23 (Or.inl rfl) h
  · refine z_iconst (v := (1 : Int32)) X.1 dX9_winsAt_18 (by decide) ?_
    refine z_goto (tgt := 23) X.1 dX9_winsAt_19 (by decide) ?_
    exact z_zret X dX9_winsAt_23 (Or.inr rfl) h
theorem C_X9_winsAt {ζ : zW} (hZ : zDis ζ zM) {v1 : Int32} {v2 : Int32} {σ σ' : S3} {r : Int32} (h : F_X9_winsAt v1 v2 σ = some (r, σ')) : zMet ζ zM 23 yX9_winsAt cX9_winsAt 3 (some .boolean) [.ref (zo ζ 0), .int v1, .int v2] σ (some (.int r)) σ' :=
  zMet_of pn_X9 hZ (Nat.le_of_ble_eq_true rfl) (fun κ e X => by subst e; exact B_X9_winsAt_0 X h)
noncomputable def F_X9_longAt (v1 : Int32) (v2 : Int32) (σ : S3) : R3 :=
  bd (F_X9_tables σ) (fun r1949 s1950 => bd (F_X9_worthAt 20 v1 v2 s1950) (fun r1952 s1953 => some ((r1952 - (1 : Int32)) >>> ((1 : Int32) &&& 31), s1953)))
set_option maxHeartbeats 4000000 in
set_option maxRecDepth 100000 in
theorem B_X9_longAt_0 {κ : zT} {σ' : S3} {r : Int32} (X : zC κ zM RX9 cX9_longAt 3 (some .int) 23 (some (.int r)) σ') {v1 : Int32} {v2 : Int32} {σ : S3} (h : F_X9_longAt v1 v2 σ = some (r, σ')) : Z κ 3 (zM (ze κ.1) σ) [(0, .ref (zo κ.1 0)), (1, .int v1), (2, .int v2)] 0 [] := by
  unfold F_X9_longAt at h
  refine z_aload_n (i := 0) X.1 dX9_longAt_0 0 rfl rfl ?_
  obtain ⟨r1949, s1950, hc1951, h⟩ := bd_inv h
  refine cl_X9_170 (d1 := 0) (b := zo κ.1 0) (r := 0) (As := []) (rest := []) X.1 (by decide) (C_X9_tables X.2.1 hc1951) rcX9 rfl rfl (Nat.le_of_ble_eq_true rfl) dX9_longAt_1 ?_
  refine z_aload_n (i := 0) X.1 dX9_longAt_4 0 rfl rfl ?_
  refine z_iload_n (i := 1) X.1 dX9_longAt_5 1 rfl rfl ?_
  refine z_iload_n (i := 2) X.1 dX9_longAt_6 2 rfl rfl ?_
  obtain ⟨r1952, s1953, hc1954, h⟩ := bd_inv h
  refine cl_X9_167 (d1 := 22) (b := zo κ.1 0) (As := [.int v1, .int v2]) (rest := []) X.1 (by decide) (C_X9_worthAt X.2.1 hc1954) rcX9 rfl rfl (Nat.le_of_ble_eq_true rfl) dX9_longAt_7 ?_
  refine z_iconst (v := (1 : Int32)) X.1 dX9_longAt_10 (by decide) ?_
  refine z_isub X.1 dX9_longAt_11 ?_
  refine z_iconst (v := (1 : Int32)) X.1 dX9_longAt_12 (by decide) ?_
  refine z_ishr X.1 dX9_longAt_13 ?_
  exact z_iret X dX9_longAt_14 h
theorem C_X9_longAt {ζ : zW} (hZ : zDis ζ zM) {v1 : Int32} {v2 : Int32} {σ σ' : S3} {r : Int32} (h : F_X9_longAt v1 v2 σ = some (r, σ')) : zMet ζ zM 23 yX9_longAt cX9_longAt 3 (some .int) [.ref (zo ζ 0), .int v1, .int v2] σ (some (.int r)) σ' :=
  zMet_of pn_X9 hZ (Nat.le_of_ble_eq_true rfl) (fun κ e X => by subst e; exact B_X9_longAt_0 X h)
noncomputable def Fb_X9_nimAt_91 (Rc : Int32 → Int32 → S3 → R3) (v3 : Int32) (v4 : Int32) (K91 : Int32 → S3 → R3) (v5 : Int32) (σ : S3) : R3 :=
  bd (F_X9_has v4 v5 σ) (fun r1958 s1959 => if r1958 = (0 : Int32) then (ck v3 40960 (nm (up s1959 0 21 (ix v3) (v5 + (1 : Int32))) (fun s1962 => some (v5, s1962))))
  else (nm (v5 + (1 : Int32)) (fun x1963 => K91 x1963 s1959)))
noncomputable def F_X9_nimAt_91 (Rc : Int32 → Int32 → S3 → R3) (v3 : Int32) (v4 : Int32) (n : Nat) : Int32 → S3 → R3 := zl1 (Fb_X9_nimAt_91 Rc v3 v4) n
set_option maxHeartbeats 4000000 in
set_option maxRecDepth 100000 in
theorem B_X9_nimAt_91 {κ : zT} {σ' : S3} {r : Int32} {d d0 : Nat} (X : zC κ zM RX9 cX9_nimAt 6 (some .int) d (some (.int r)) σ') {Rc : Int32 → Int32 → S3 → R3} (hR : ∀ (a1 a2 : Int32) (s1 s2 : S3) (r1 : Int32), Rc a1 a2 s1 = some (r1, s2) → zMet κ.1 zM d0 yX9_nimAt cX9_nimAt 6 (some .int) [.ref (zo κ.1 0), .int a1, .int a2] s1 (some (.int r1)) s2) (hd : d0 + 1 ≤ d) (hb : 2 ≤ d) {v3 : Int32} {v4 : Int32} : ∀ (n : Nat) (v5 : Int32) (σ : S3), F_X9_nimAt_91 Rc v3 v4 n v5 σ = some (r, σ') → Z κ 6 (zM (ze κ.1) σ) [(0, .ref (zo κ.1 0)), (3, .int v3), (4, .int v4), (5, .int v5)] 91 [] := by
  intro n
  induction n with
  | zero =>
    intro v5 σ h
    cases (show (none : R3) = some (r, σ') from h)
  | succ n ih =>
    intro v5 σ h
    have hK91 := ih
    have h : Fb_X9_nimAt_91 Rc v3 v4 (F_X9_nimAt_91 Rc v3 v4 n) v5 σ = some (r, σ') := h
    unfold Fb_X9_nimAt_91 at h
    refine z_iload X.1 dX9_nimAt_91 2 rfl ?_
    refine z_iload X.1 dX9_nimAt_93 3 rfl ?_
    obtain ⟨r1958, s1959, hc1960, h⟩ := bd_inv h
    refine cl_X9_114 (d1 := 0) (As := [.int v4, .int v5]) (rest := []) X.1 (Nat.le_trans (by decide) hb) (C_X9_has X.2.1 hc1960) rfl rfl (Nat.le_of_ble_eq_true rfl) dX9_nimAt_95 ?_
    refine z_if_eq (tgt := 107) X.1 dX9_nimAt_98 (by decide) h (fun q1961 h => ?_) (fun q1961 h => ?_)
    · refine z_aload_n (i := 0) X.1 dX9_nimAt_107 0 rfl rfl ?_
      refine g_X9_nims X.1 tw826 dX9_nimAt_108 ?_
      refine z_iload_n (i := 3) X.1 dX9_nimAt_111 1 rfl rfl ?_
      refine z_iload X.1 dX9_nimAt_112 3 rfl ?_
      refine z_iconst (v := (1 : Int32)) X.1 dX9_nimAt_114 (by decide) ?_
      refine z_iadd X.1 dX9_nimAt_115 ?_
      refine as_X9_nims X.1 X.2.1 dX9_nimAt_116 h (fun s1962 h => ?_)
      refine z_iload X.1 dX9_nimAt_117 3 rfl ?_
      exact z_iret X dX9_nimAt_119 h
    · refine z_iinc_m (v := (1 : Int32)) (lv' := fun x1963 => [(5, .int x1963), (0, .ref (zo κ.1 0)), (3, .int v3), (4, .int v4)]) X.1 dX9_nimAt_101 3 rfl (by decide) (by decide) (fun _ => rfl) h (fun x1963 h => ?_)
      refine z_goto (tgt := 91) X.1 dX9_nimAt_104 (by decide) ?_
      exact z_sub [1, 2, 3, 0] rfl (hK91 _ _ h)
noncomputable def Fb_X9_nimAt_32 (Rc : Int32 → Int32 → S3 → R3) (v1 : Int32) (v2 : Int32) (v3 : Int32) (K32 : Int32 → Int32 → S3 → R3) (v4 : Int32) (v5 : Int32) (σ : S3) : R3 :=
  if (σ 0 2 0) ≤ v5 then (F_X9_nimAt_91 Rc v3 v4 zF (0 : Int32) σ)
  else (bd (F_X9_isMove v5 v1 v2 σ) (fun r1964 s1965 => if r1964 = (0 : Int32) then (nm (v4 ||| (0 : Int32)) (fun x1968 => nm (v5 + (1 : Int32)) (fun x1969 => K32 x1968 x1969 s1965)))
  else (bd (F_X9_otherOf v5 v1 s1965) (fun r1970 s1971 => bd (F_X9_setBehind v5 v1 v2 s1971) (fun r1973 s1974 => bd (Rc r1970 r1973 s1974) (fun r1976 s1977 => nm (v4 ||| ((1 : Int32) <<< (r1976 &&& 31))) (fun x1979 => nm (v5 + (1 : Int32)) (fun x1980 => K32 x1979 x1980 s1977))))))))
noncomputable def F_X9_nimAt_32 (Rc : Int32 → Int32 → S3 → R3) (v1 : Int32) (v2 : Int32) (v3 : Int32) (n : Nat) : Int32 → Int32 → S3 → R3 := zl2 (Fb_X9_nimAt_32 Rc v1 v2 v3) n
set_option maxHeartbeats 4000000 in
set_option maxRecDepth 100000 in
theorem B_X9_nimAt_32 {κ : zT} {σ' : S3} {r : Int32} {d d0 : Nat} (X : zC κ zM RX9 cX9_nimAt 6 (some .int) d (some (.int r)) σ') {Rc : Int32 → Int32 → S3 → R3} (hR : ∀ (a1 a2 : Int32) (s1 s2 : S3) (r1 : Int32), Rc a1 a2 s1 = some (r1, s2) → zMet κ.1 zM d0 yX9_nimAt cX9_nimAt 6 (some .int) [.ref (zo κ.1 0), .int a1, .int a2] s1 (some (.int r1)) s2) (hd : d0 + 1 ≤ d) (hb : 2 ≤ d) {v1 : Int32} {v2 : Int32} {v3 : Int32} : ∀ (n : Nat) (v4 : Int32) (v5 : Int32) (σ : S3), F_X9_nimAt_32 Rc v1 v2 v3 n v4 v5 σ = some (r, σ') → Z κ 6 (zM (ze κ.1) σ) [(0, .ref (zo κ.1 0)), (1, .int v1), (2, .int v2), (3, .int v3), (4, .int v4), (5, .int v5)] 32 [] := by
  intro n
  induction n with
  | zero =>
    intro v4 v5 σ h
    cases (show (none : R3) = some (r, σ') from h)
  | succ n ih =>
    intro v4 v5 σ h
    have hK32 := ih
    have h : Fb_X9_nimAt_32 Rc v1 v2 v3 (F_X9_nimAt_32 Rc v1 v2 v3 n) v4 v5 σ = some (r, σ') := h
    unfold Fb_X9_nimAt_32 at h
    refine z_iload X.1 dX9_nimAt_32 5 rfl ?_
    refine z_aload_n (i := 0) X.1 dX9_nimAt_34 0 rfl rfl ?_
    refine g_X9_lines X.1 tw807 dX9_nimAt_35 ?_
    refine z_icmp_ge (tgt := 88) X.1 dX9_nimAt_38 (by decide) h (fun q1957 h => ?_) (fun q1957 h => ?_)
    · refine z_iconst (v := (0 : Int32)) X.1 dX9_nimAt_88 (by decide) ?_
      refine z_istore (i := 5) (lv' := [(5, .int (0 : Int32)), (0, .ref (zo κ.1 0)), (1, .int v1), (2, .int v2), (3, .int v3), (4, .int v4)]) X.1 dX9_nimAt_89 (by decide) rfl ?_
      exact z_sub [1, 4, 5, 0] rfl (B_X9_nimAt_91 X hR hd hb zF _ _ h)
    · refine z_iload X.1 dX9_nimAt_41 4 rfl ?_
      refine z_aload_n (i := 0) X.1 dX9_nimAt_43 0 rfl rfl ?_
      refine z_iload X.1 dX9_nimAt_44 5 rfl ?_
      refine z_iload_n (i := 1) X.1 dX9_nimAt_46 1 rfl rfl ?_
      refine z_iload_n (i := 2) X.1 dX9_nimAt_47 2 rfl rfl ?_
      obtain ⟨r1964, s1965, hc1966, h⟩ := bd_inv h
      refine cl_X9_160 (d1 := 1) (b := zo κ.1 0) (As := [.int v5, .int v1, .int v2]) (rest := [.int v4]) X.1 (Nat.le_trans (by decide) hb) (C_X9_isMove X.2.1 hc1966) rcX9 rfl rfl (Nat.le_of_ble_eq_true rfl) dX9_nimAt_48 ?_
      refine z_if_eq (tgt := 78) X.1 dX9_nimAt_51 (by decide) h (fun q1967 h => ?_) (fun q1967 h => ?_)
      · refine z_iconst (v := (0 : Int32)) X.1 dX9_nimAt_78 (by decide) ?_
        refine z_ior X.1 dX9_nimAt_79 ?_
        refine z_istore_m (i := 4) (lv' := fun x1968 => [(4, .int x1968), (0, .ref (zo κ.1 0)), (1, .int v1), (2, .int v2), (3, .int v3), (5, .int v5)]) X.1 dX9_nimAt_80 (by decide) (fun _ => rfl) h (fun x1968 h => ?_)
        refine z_iinc_m (v := (1 : Int32)) (lv' := fun x1969 => [(5, .int x1969), (4, .int x1968), (0, .ref (zo κ.1 0)), (1, .int v1), (2, .int v2), (3, .int v3)]) X.1 dX9_nimAt_82 5 rfl (by decide) (by decide) (fun _ => rfl) h (fun x1969 h => ?_)
        refine z_goto (tgt := 32) X.1 dX9_nimAt_85 (by decide) ?_
        exact z_sub [2, 3, 4, 5, 1, 0] rfl (hK32 _ _ _ h)
      · refine z_iconst (v := (1 : Int32)) X.1 dX9_nimAt_54 (by decide) ?_
        refine z_aload_n (i := 0) X.1 dX9_nimAt_55 0 rfl rfl ?_
        refine z_aload_n (i := 0) X.1 dX9_nimAt_56 0 rfl rfl ?_
        refine z_iload X.1 dX9_nimAt_57 5 rfl ?_
        refine z_iload_n (i := 1) X.1 dX9_nimAt_59 1 rfl rfl ?_
        obtain ⟨r1970, s1971, hc1972, h⟩ := bd_inv h
        refine cl_X9_101 (d1 := 0) (b := zo κ.1 0) (As := [.int v5, .int v1]) (rest := [.ref (zo κ.1 0), .int (1 : Int32), .int v4]) X.1 (Nat.le_trans (by decide) hb) (C_X9_otherOf X.2.1 hc1972) rcX9 rfl rfl (Nat.le_of_ble_eq_true rfl) dX9_nimAt_60 ?_
        refine z_aload_n (i := 0) X.1 dX9_nimAt_63 0 rfl rfl ?_
        refine z_iload X.1 dX9_nimAt_64 5 rfl ?_
        refine z_iload_n (i := 1) X.1 dX9_nimAt_66 1 rfl rfl ?_
        refine z_iload_n (i := 2) X.1 dX9_nimAt_67 2 rfl rfl ?_
        obtain ⟨r1973, s1974, hc1975, h⟩ := bd_inv h
        refine cl_X9_163 (d1 := 1) (b := zo κ.1 0) (As := [.int v5, .int v1, .int v2]) (rest := [.int r1970, .ref (zo κ.1 0), .int (1 : Int32), .int v4]) X.1 (Nat.le_trans (by decide) hb) (C_X9_setBehind X.2.1 hc1975) rcX9 rfl rfl (Nat.le_of_ble_eq_true rfl) dX9_nimAt_68 ?_
        obtain ⟨r1976, s1977, hc1978, h⟩ := bd_inv h
        refine cl_X9_173 (d1 := d0) (b := zo κ.1 0) (As := [.int r1970, .int r1973]) (rest := [.int (1 : Int32), .int v4]) X.1 hd (hR _ _ _ _ _ hc1978) rcX9 rfl rfl (Nat.le_of_ble_eq_true rfl) dX9_nimAt_71 ?_
        refine z_ishl X.1 dX9_nimAt_74 ?_
        refine z_goto (tgt := 79) X.1 dX9_nimAt_75 (by decide) ?_
        refine z_ior X.1 dX9_nimAt_79 ?_
        refine z_istore_m (i := 4) (lv' := fun x1979 => [(4, .int x1979), (0, .ref (zo κ.1 0)), (1, .int v1), (2, .int v2), (3, .int v3), (5, .int v5)]) X.1 dX9_nimAt_80 (by decide) (fun _ => rfl) h (fun x1979 h => ?_)
        refine z_iinc_m (v := (1 : Int32)) (lv' := fun x1980 => [(5, .int x1980), (4, .int x1979), (0, .ref (zo κ.1 0)), (1, .int v1), (2, .int v2), (3, .int v3)]) X.1 dX9_nimAt_82 5 rfl (by decide) (by decide) (fun _ => rfl) h (fun x1980 h => ?_)
        refine z_goto (tgt := 32) X.1 dX9_nimAt_85 (by decide) ?_
        exact z_sub [2, 3, 4, 5, 1, 0] rfl (hK32 _ _ _ h)
noncomputable def F_X9_nimAt_0 (Rc : Int32 → Int32 → S3 → R3) (v1 : Int32) (v2 : Int32) (σ : S3) : R3 :=
  nm (((4096 : Int32) * v1) + v2) (fun x1955 => ck x1955 40960 (if (σ 0 21 (ix x1955)) = (0 : Int32) then (F_X9_nimAt_32 Rc v1 v2 x1955 zF (0 : Int32) (0 : Int32) σ)
  else (ck x1955 40960 (some ((σ 0 21 (ix x1955)) - (1 : Int32), σ)))))
set_option maxHeartbeats 4000000 in
set_option maxRecDepth 100000 in
theorem B_X9_nimAt_0 {κ : zT} {σ' : S3} {r : Int32} {d d0 : Nat} (X : zC κ zM RX9 cX9_nimAt 6 (some .int) d (some (.int r)) σ') {Rc : Int32 → Int32 → S3 → R3} (hR : ∀ (a1 a2 : Int32) (s1 s2 : S3) (r1 : Int32), Rc a1 a2 s1 = some (r1, s2) → zMet κ.1 zM d0 yX9_nimAt cX9_nimAt 6 (some .int) [.ref (zo κ.1 0), .int a1, .int a2] s1 (some (.int r1)) s2) (hd : d0 + 1 ≤ d) (hb : 2 ≤ d) {v1 : Int32} {v2 : Int32} {σ : S3} (h : F_X9_nimAt_0 Rc v1 v2 σ = some (r, σ')) : Z κ 6 (zM (ze κ.1) σ) [(0, .ref (zo κ.1 0)), (1, .int v1), (2, .int v2)] 0 [] := by
  unfold F_X9_nimAt_0 at h
  refine z_sipush (v := (4096 : Int32)) X.1 dX9_nimAt_0 (by decide) ?_
  refine z_iload_n (i := 1) X.1 dX9_nimAt_3 1 rfl rfl ?_
  refine z_imul X.1 dX9_nimAt_4 ?_
  refine z_iload_n (i := 2) X.1 dX9_nimAt_5 2 rfl rfl ?_
  refine z_iadd X.1 dX9_nimAt_6 ?_
  refine z_istore_nn (i := 3) (lv' := fun x1955 => [(3, .int x1955), (0, .ref (zo κ.1 0)), (1, .int v1), (2, .int v2)]) X.1 dX9_nimAt_7 rfl (by decide) (fun _ => rfl) h (fun x1955 h => ?_)
  refine z_aload_n (i := 0) X.1 dX9_nimAt_8 1 rfl rfl ?_
  refine g_X9_nims X.1 tw826 dX9_nimAt_9 ?_
  refine z_iload_n (i := 3) X.1 dX9_nimAt_12 0 rfl rfl ?_
  refine al_X9_nims X.1 dX9_nimAt_13 h (fun h => ?_)
  refine z_if_eq (tgt := 26) X.1 dX9_nimAt_14 (by decide) h (fun q1956 h => ?_) (fun q1956 h => ?_)
  · refine z_iconst (v := (0 : Int32)) X.1 dX9_nimAt_26 (by decide) ?_
    refine z_istore (i := 4) (lv' := [(4, .int (0 : Int32)), (3, .int x1955), (0, .ref (zo κ.1 0)), (1, .int v1), (2, .int v2)]) X.1 dX9_nimAt_27 (by decide) rfl ?_
    refine z_iconst (v := (0 : Int32)) X.1 dX9_nimAt_29 (by decide) ?_
    refine z_istore (i := 5) (lv' := [(5, .int (0 : Int32)), (4, .int (0 : Int32)), (3, .int x1955), (0, .ref (zo κ.1 0)), (1, .int v1), (2, .int v2)]) X.1 dX9_nimAt_30 (by decide) rfl ?_
    exact z_sub [3, 4, 5, 2, 1, 0] rfl (B_X9_nimAt_32 X hR hd hb zF _ _ _ h)
  · refine z_aload_n (i := 0) X.1 dX9_nimAt_17 1 rfl rfl ?_
    refine g_X9_nims X.1 tw826 dX9_nimAt_18 ?_
    refine z_iload_n (i := 3) X.1 dX9_nimAt_21 0 rfl rfl ?_
    refine al_X9_nims X.1 dX9_nimAt_22 h (fun h => ?_)
    refine z_iconst (v := (1 : Int32)) X.1 dX9_nimAt_23 (by decide) ?_
    refine z_isub X.1 dX9_nimAt_24 ?_
    exact z_iret X dX9_nimAt_25 h
noncomputable def F_X9_nimAt (k : Nat) : Int32 → Int32 → S3 → R3 := zl2 (F_X9_nimAt_0) k
theorem Ck_X9_nimAt {ζ : zW} (hZ : zDis ζ zM) : ∀ (k : Nat) (v1 : Int32) (v2 : Int32) (σ σ' : S3) (r : Int32), F_X9_nimAt k v1 v2 σ = some (r, σ') → zMet ζ zM (2 + k) yX9_nimAt cX9_nimAt 6 (some .int) [.ref (zo ζ 0), .int v1, .int v2] σ (some (.int r)) σ' := by
  intro k
  induction k with
  | zero =>
    intro v1 v2 σ σ' r h
    cases (show (none : R3) = some (r, σ') from h)
  | succ k ih =>
    intro v1 v2 σ σ' r h
    have h : F_X9_nimAt_0 (F_X9_nimAt k) v1 v2 σ = some (r, σ') := h
    exact zMet_of pn_X9 hZ (Nat.le_of_ble_eq_true rfl) (fun κ e X => by subst e; exact B_X9_nimAt_0 X ih (Nat.le_refl _) (by omega) h)
theorem C_X9_nimAt {ζ : zW} (hZ : zDis ζ zM) {v1 : Int32} {v2 : Int32} {σ σ' : S3} {r : Int32} (h : F_X9_nimAt 20 v1 v2 σ = some (r, σ')) : zMet ζ zM 22 yX9_nimAt cX9_nimAt 6 (some .int) [.ref (zo ζ 0), .int v1, .int v2] σ (some (.int r)) σ' := Ck_X9_nimAt hZ 20 _ _ _ _ _ h
noncomputable def F_X9_setNow (σ : S3) : R3 :=
  bd (F_X9_isByLines σ) (fun r1981 s1982 => if r1981 = (0 : Int32) then (some (s1982 0 15 0, s1982))
  else (some (s1982 0 16 0, s1982)))
set_option maxHeartbeats 4000000 in
set_option maxRecDepth 100000 in
theorem B_X9_setNow_0 {κ : zT} {σ' : S3} {r : Int32} (X : zC κ zM RX9 cX9_setNow 1 (some .int) 1 (some (.int r)) σ') {σ : S3} (h : F_X9_setNow σ = some (r, σ')) : Z κ 1 (zM (ze κ.1) σ) [(0, .ref (zo κ.1 0))] 0 [] := by
  unfold F_X9_setNow at h
  refine z_aload_n (i := 0) X.1 dX9_setNow_0 0 rfl rfl ?_
  obtain ⟨r1981, s1982, hc1983, h⟩ := bd_inv h
  refine cl_X9_157 (d1 := 0) (b := zo κ.1 0) (As := []) (rest := []) X.1 (by decide) (C_X9_isByLines X.2.1 hc1983) rcX9 rfl rfl (Nat.le_of_ble_eq_true rfl) dX9_setNow_1 ?_
  refine z_if_eq (tgt := 14) X.1 dX9_setNow_4 (by decide) h (fun q1984 h => ?_) (fun q1984 h => ?_)
  · refine z_aload_n (i := 0) X.1 dX9_setNow_14 0 rfl rfl ?_
    refine g_X9_met X.1 tw820 dX9_setNow_15 ?_
    exact z_iret X dX9_setNow_18 h
  · refine z_aload_n (i := 0) X.1 dX9_setNow_7 0 rfl rfl ?_
    refine g_X9_gone X.1 tw821 dX9_setNow_8 ?_
    refine z_goto (tgt := 18) X.1 dX9_setNow_11 (by decide) ?_
    exact z_iret X dX9_setNow_18 h
theorem C_X9_setNow {ζ : zW} (hZ : zDis ζ zM) {σ σ' : S3} {r : Int32} (h : F_X9_setNow  σ = some (r, σ')) : zMet ζ zM 1 yX9_setNow cX9_setNow 1 (some .int) [.ref (zo ζ 0)] σ (some (.int r)) σ' :=
  zMet_of pn_X9 hZ (Nat.le_of_ble_eq_true rfl) (fun κ e X => by subst e; exact B_X9_setNow_0 X h)
noncomputable def F_X9_movesNow (σ : S3) : R3 :=
  bd (F_X9_setNow σ) (fun r1985 s1986 => bd (F_X9_movesAt (σ 0 14 0) r1985 s1986) (fun r1988 s1989 => some (r1988, s1989)))
set_option maxHeartbeats 4000000 in
set_option maxRecDepth 100000 in
theorem B_X9_movesNow_0 {κ : zT} {σ' : S3} {r : Int32} (X : zC κ zM RX9 cX9_movesNow 1 (some .int) 3 (some (.int r)) σ') {σ : S3} (h : F_X9_movesNow σ = some (r, σ')) : Z κ 1 (zM (ze κ.1) σ) [(0, .ref (zo κ.1 0))] 0 [] := by
  unfold F_X9_movesNow at h
  refine z_aload_n (i := 0) X.1 dX9_movesNow_0 0 rfl rfl ?_
  refine z_aload_n (i := 0) X.1 dX9_movesNow_1 0 rfl rfl ?_
  refine g_X9_marker X.1 tw819 dX9_movesNow_2 ?_
  refine z_aload_n (i := 0) X.1 dX9_movesNow_5 0 rfl rfl ?_
  obtain ⟨r1985, s1986, hc1987, h⟩ := bd_inv h
  refine cl_X9_185 (d1 := 1) (b := zo κ.1 0) (As := []) (rest := [.int (σ 0 14 0), .ref (zo κ.1 0)]) X.1 (by decide) (C_X9_setNow X.2.1 hc1987) rcX9 rfl rfl (Nat.le_of_ble_eq_true rfl) dX9_movesNow_6 ?_
  obtain ⟨r1988, s1989, hc1990, h⟩ := bd_inv h
  refine cl_X9_188 (d1 := 2) (b := zo κ.1 0) (As := [.int (σ 0 14 0), .int r1985]) (rest := []) X.1 (by decide) (C_X9_movesAt X.2.1 hc1990) rcX9 rfl rfl (Nat.le_of_ble_eq_true rfl) dX9_movesNow_9 ?_
  exact z_iret X dX9_movesNow_12 h
theorem C_X9_movesNow {ζ : zW} (hZ : zDis ζ zM) {σ σ' : S3} {r : Int32} (h : F_X9_movesNow  σ = some (r, σ')) : zMet ζ zM 3 yX9_movesNow cX9_movesNow 1 (some .int) [.ref (zo ζ 0)] σ (some (.int r)) σ' :=
  zMet_of pn_X9 hZ (Nat.le_of_ble_eq_true rfl) (fun κ e X => by subst e; exact B_X9_movesNow_0 X h)
noncomputable def F_X9_isOver (σ : S3) : R3 :=
  bd (F_X9_movesNow σ) (fun r1991 s1992 => if r1991 = (0 : Int32) then (some ((1 : Int32), s1992))
  else (some ((0 : Int32), s1992)))
set_option maxHeartbeats 4000000 in
set_option maxRecDepth 100000 in
theorem B_X9_isOver_0 {κ : zT} {σ' : S3} {r : Int32} (X : zC κ zM RX9 cX9_isOver 1 (some .boolean) 4 (some (.int r)) σ') {σ : S3} (h : F_X9_isOver σ = some (r, σ')) : Z κ 1 (zM (ze κ.1) σ) [(0, .ref (zo κ.1 0))] 0 [] := by
  unfold F_X9_isOver at h
  refine z_aload_n (i := 0) X.1 dX9_isOver_0 0 rfl rfl ?_
  obtain ⟨r1991, s1992, hc1993, h⟩ := bd_inv h
  refine cl_X9_191 (d1 := 3) (b := zo κ.1 0) (As := []) (rest := []) X.1 (by decide) (C_X9_movesNow X.2.1 hc1993) rcX9 rfl rfl (Nat.le_of_ble_eq_true rfl) dX9_isOver_1 ?_
  refine z_if_ne (tgt := 11) X.1 dX9_isOver_4 (by decide) h (fun q1994 h => ?_) (fun q1994 h => ?_)
  · refine z_iconst (v := (0 : Int32)) X.1 dX9_isOver_11 (by decide) ?_
    exact z_zret X dX9_isOver_12 (Or.inl rfl) h
  · refine z_iconst (v := (1 : Int32)) X.1 dX9_isOver_7 (by decide) ?_
    refine z_goto (tgt := 12) X.1 dX9_isOver_8 (by decide) ?_
    exact z_zret X dX9_isOver_12 (Or.inr rfl) h
theorem C_X9_isOver {ζ : zW} (hZ : zDis ζ zM) {σ σ' : S3} {r : Int32} (h : F_X9_isOver  σ = some (r, σ')) : zMet ζ zM 4 yX9_isOver cX9_isOver 1 (some .boolean) [.ref (zo ζ 0)] σ (some (.int r)) σ' :=
  zMet_of pn_X9 hZ (Nat.le_of_ble_eq_true rfl) (fun κ e X => by subst e; exact B_X9_isOver_0 X h)
noncomputable def F_X9_winsBehind (v1 : Int32) (σ : S3) : R3 :=
  bd (F_X9_otherOf v1 (σ 0 14 0) σ) (fun r1995 s1996 => bd (F_X9_setNow s1996) (fun r1998 s1999 => bd (F_X9_setBehind v1 (s1996 0 14 0) r1998 s1999) (fun r2001 s2002 => bd (F_X9_winsAt r1995 r2001 s2002) (fun r2004 s2005 => if r2004 = (0 : Int32) then (some ((1 : Int32), s2005))
  else (some ((0 : Int32), s2005))))))
set_option maxHeartbeats 4000000 in
set_option maxRecDepth 100000 in
theorem B_X9_winsBehind_0 {κ : zT} {σ' : S3} {r : Int32} (X : zC κ zM RX9 cX9_winsBehind 2 (some .boolean) 24 (some (.int r)) σ') {v1 : Int32} {σ : S3} (h : F_X9_winsBehind v1 σ = some (r, σ')) : Z κ 2 (zM (ze κ.1) σ) [(0, .ref (zo κ.1 0)), (1, .int v1)] 0 [] := by
  unfold F_X9_winsBehind at h
  refine z_aload_n (i := 0) X.1 dX9_winsBehind_0 0 rfl rfl ?_
  refine z_aload_n (i := 0) X.1 dX9_winsBehind_1 0 rfl rfl ?_
  refine z_iload_n (i := 1) X.1 dX9_winsBehind_2 1 rfl rfl ?_
  refine z_aload_n (i := 0) X.1 dX9_winsBehind_3 0 rfl rfl ?_
  refine g_X9_marker X.1 tw819 dX9_winsBehind_4 ?_
  obtain ⟨r1995, s1996, hc1997, h⟩ := bd_inv h
  refine cl_X9_101 (d1 := 0) (b := zo κ.1 0) (As := [.int v1, .int (σ 0 14 0)]) (rest := [.ref (zo κ.1 0)]) X.1 (by decide) (C_X9_otherOf X.2.1 hc1997) rcX9 rfl rfl (Nat.le_of_ble_eq_true rfl) dX9_winsBehind_7 ?_
  refine z_aload_n (i := 0) X.1 dX9_winsBehind_10 0 rfl rfl ?_
  refine z_iload_n (i := 1) X.1 dX9_winsBehind_11 1 rfl rfl ?_
  refine z_aload_n (i := 0) X.1 dX9_winsBehind_12 0 rfl rfl ?_
  refine g_X9_marker X.1 tw819 dX9_winsBehind_13 ?_
  refine z_aload_n (i := 0) X.1 dX9_winsBehind_16 0 rfl rfl ?_
  obtain ⟨r1998, s1999, hc2000, h⟩ := bd_inv h
  refine cl_X9_185 (d1 := 1) (b := zo κ.1 0) (As := []) (rest := [.int (s1996 0 14 0), .int v1, .ref (zo κ.1 0), .int r1995, .ref (zo κ.1 0)]) X.1 (by decide) (C_X9_setNow X.2.1 hc2000) rcX9 rfl rfl (Nat.le_of_ble_eq_true rfl) dX9_winsBehind_17 ?_
  obtain ⟨r2001, s2002, hc2003, h⟩ := bd_inv h
  refine cl_X9_163 (d1 := 1) (b := zo κ.1 0) (As := [.int v1, .int (s1996 0 14 0), .int r1998]) (rest := [.int r1995, .ref (zo κ.1 0)]) X.1 (by decide) (C_X9_setBehind X.2.1 hc2003) rcX9 rfl rfl (Nat.le_of_ble_eq_true rfl) dX9_winsBehind_20 ?_
  obtain ⟨r2004, s2005, hc2006, h⟩ := bd_inv h
  refine cl_X9_194 (d1 := 23) (b := zo κ.1 0) (As := [.int r1995, .int r2001]) (rest := []) X.1 (by decide) (C_X9_winsAt X.2.1 hc2006) rcX9 rfl rfl (Nat.le_of_ble_eq_true rfl) dX9_winsBehind_23 ?_
  refine z_if_ne (tgt := 33) X.1 dX9_winsBehind_26 (by decide) h (fun q2007 h => ?_) (fun q2007 h => ?_)
  · refine z_iconst (v := (0 : Int32)) X.1 dX9_winsBehind_33 (by decide) ?_
    exact z_zret X dX9_winsBehind_34 (Or.inl rfl) h
  · refine z_iconst (v := (1 : Int32)) X.1 dX9_winsBehind_29 (by decide) ?_
    refine z_goto (tgt := 34) X.1 dX9_winsBehind_30 (by decide) ?_
    exact z_zret X dX9_winsBehind_34 (Or.inr rfl) h
theorem C_X9_winsBehind {ζ : zW} (hZ : zDis ζ zM) {v1 : Int32} {σ σ' : S3} {r : Int32} (h : F_X9_winsBehind v1 σ = some (r, σ')) : zMet ζ zM 24 yX9_winsBehind cX9_winsBehind 2 (some .boolean) [.ref (zo ζ 0), .int v1] σ (some (.int r)) σ' :=
  zMet_of pn_X9 hZ (Nat.le_of_ble_eq_true rfl) (fun κ e X => by subst e; exact B_X9_winsBehind_0 X h)
noncomputable def F_X9_beginsAt (v1 : Int32) (v2 : Int32) (σ : S3) : R3 :=
  nm (up σ 0 12 0 v1) (fun s2008 => nm (up s2008 0 13 0 v2) (fun s2009 => nm (up s2009 0 14 0 v2) (fun s2010 => nm (up s2010 0 15 0 ((1 : Int32) <<< (v2 &&& 31))) (fun s2011 => nm (up s2011 0 16 0 (0 : Int32)) (fun s2012 => nm (up s2012 0 19 0 (0 : Int32)) (fun s2013 => some ((0 : Int32), s2013)))))))
set_option maxHeartbeats 4000000 in
set_option maxRecDepth 100000 in
theorem B_X9_beginsAt_0 {κ : zT} {σ' : S3} {r : Int32} (X : zC κ zM RX9 cX9_beginsAt 3 none 0 none σ') {v1 : Int32} {v2 : Int32} {σ : S3} (h : F_X9_beginsAt v1 v2 σ = some (r, σ')) : Z κ 3 (zM (ze κ.1) σ) [(0, .ref (zo κ.1 0)), (1, .int v1), (2, .int v2)] 0 [] := by
  unfold F_X9_beginsAt at h
  refine z_aload_n (i := 0) X.1 dX9_beginsAt_0 0 rfl rfl ?_
  refine z_iload_n (i := 1) X.1 dX9_beginsAt_1 1 rfl rfl ?_
  refine p_X9_rule X.1 X.2.1 tw817 dX9_beginsAt_2 h (fun s2008 h => ?_)
  refine z_aload_n (i := 0) X.1 dX9_beginsAt_5 0 rfl rfl ?_
  refine z_iload_n (i := 2) X.1 dX9_beginsAt_6 2 rfl rfl ?_
  refine p_X9_first X.1 X.2.1 tw818 dX9_beginsAt_7 h (fun s2009 h => ?_)
  refine z_aload_n (i := 0) X.1 dX9_beginsAt_10 0 rfl rfl ?_
  refine z_iload_n (i := 2) X.1 dX9_beginsAt_11 2 rfl rfl ?_
  refine p_X9_marker X.1 X.2.1 tw819 dX9_beginsAt_12 h (fun s2010 h => ?_)
  refine z_aload_n (i := 0) X.1 dX9_beginsAt_15 0 rfl rfl ?_
  refine z_iconst (v := (1 : Int32)) X.1 dX9_beginsAt_16 (by decide) ?_
  refine z_iload_n (i := 2) X.1 dX9_beginsAt_17 2 rfl rfl ?_
  refine z_ishl X.1 dX9_beginsAt_18 ?_
  refine p_X9_met X.1 X.2.1 tw820 dX9_beginsAt_19 h (fun s2011 h => ?_)
  refine z_aload_n (i := 0) X.1 dX9_beginsAt_22 0 rfl rfl ?_
  refine z_iconst (v := (0 : Int32)) X.1 dX9_beginsAt_23 (by decide) ?_
  refine p_X9_gone X.1 X.2.1 tw821 dX9_beginsAt_24 h (fun s2012 h => ?_)
  refine z_aload_n (i := 0) X.1 dX9_beginsAt_27 0 rfl rfl ?_
  refine z_iconst (v := (0 : Int32)) X.1 dX9_beginsAt_28 (by decide) ?_
  refine p_X9_many X.1 X.2.1 tw824 dX9_beginsAt_29 h (fun s2013 h => ?_)
  exact z_vret X dX9_beginsAt_32 h
theorem C_X9_beginsAt {ζ : zW} (hZ : zDis ζ zM) {v1 : Int32} {v2 : Int32} {σ σ' : S3} {r : Int32} (h : F_X9_beginsAt v1 v2 σ = some (r, σ')) : zMet ζ zM 0 yX9_beginsAt cX9_beginsAt 3 none [.ref (zo ζ 0), .int v1, .int v2] σ none σ' :=
  zMet_of pn_X9 hZ (Nat.le_of_ble_eq_true rfl) (fun κ e X => by subst e; exact B_X9_beginsAt_0 X h)
noncomputable def F_X9_begin (v1 : Int32) (v2 : Int32) (σ : S3) : R3 :=
  bd (F_X9_in v1 (0 : Int32) (4 : Int32) σ) (fun r2014 s2015 => if r2014 = (0 : Int32) then (bd (F_X9_no (1 : Int32) s2015) (fun r2018 s2019 => some (r2018, s2019)))
  else (bd (F_X9_isPoint v2 s2015) (fun r2021 s2022 => if r2021 = (0 : Int32) then (bd (F_X9_no (1 : Int32) s2022) (fun r2036 s2037 => some (r2036, s2037)))
  else (nm (up s2022 0 11 0 (1 : Int32)) (fun s2025 => bd (F_X9_beginsAt v1 v2 s2025) (fun r2026 s2027 => bd (F_X9_setNow s2027) (fun r2029 s2030 => bd (F_X9_winsAt (s2027 0 14 0) r2029 s2030) (fun r2032 s2033 => if r2032 = (0 : Int32) then (some ((0 : Int32), s2033))
  else (some ((1 : Int32), s2033))))))))))
set_option maxHeartbeats 4000000 in
set_option maxRecDepth 100000 in
theorem B_X9_begin_0 {κ : zT} {σ' : S3} {r : Int32} (X : zC κ zM RX9 cX9_begin 3 (some .int) 24 (some (.int r)) σ') {v1 : Int32} {v2 : Int32} {σ : S3} (h : F_X9_begin v1 v2 σ = some (r, σ')) : Z κ 3 (zM (ze κ.1) σ) [(0, .ref (zo κ.1 0)), (1, .int v1), (2, .int v2)] 0 [] := by
  unfold F_X9_begin at h
  refine z_iload_n (i := 1) X.1 dX9_begin_0 1 rfl rfl ?_
  refine z_iconst (v := (0 : Int32)) X.1 dX9_begin_1 (by decide) ?_
  refine z_iconst (v := (4 : Int32)) X.1 dX9_begin_2 (by decide) ?_
  obtain ⟨r2014, s2015, hc2016, h⟩ := bd_inv h
  refine cl_X9_68 (d1 := 0) (As := [.int v1, .int (0 : Int32), .int (4 : Int32)]) (rest := []) X.1 (by decide) (C_X9_in X.2.1 hc2016) rfl rfl (Nat.le_of_ble_eq_true rfl) dX9_begin_3 ?_
  refine z_if_eq (tgt := 17) X.1 dX9_begin_6 (by decide) h (fun q2017 h => ?_) (fun q2017 h => ?_)
  · refine z_aload_n (i := 0) X.1 dX9_begin_17 0 rfl rfl ?_
    refine z_iconst (v := (1 : Int32)) X.1 dX9_begin_18 (by decide) ?_
    obtain ⟨r2018, s2019, hc2020, h⟩ := bd_inv h
    refine cl_X9_79 (d1 := 0) (b := zo κ.1 0) (As := [.int (1 : Int32)]) (rest := []) X.1 (by decide) (C_X9_no X.2.1 hc2020) rcX9 rfl rfl (Nat.le_of_ble_eq_true rfl) dX9_begin_19 ?_
    exact z_iret X dX9_begin_22 h
  · refine z_aload_n (i := 0) X.1 dX9_begin_9 0 rfl rfl ?_
    refine z_iload_n (i := 2) X.1 dX9_begin_10 2 rfl rfl ?_
    obtain ⟨r2021, s2022, hc2023, h⟩ := bd_inv h
    refine cl_X9_86 (d1 := 1) (b := zo κ.1 0) (As := [.int v2]) (rest := []) X.1 (by decide) (C_X9_isPoint X.2.1 hc2023) rcX9 rfl rfl (Nat.le_of_ble_eq_true rfl) dX9_begin_11 ?_
    refine z_if_ne (tgt := 23) X.1 dX9_begin_14 (by decide) h (fun q2024 h => ?_) (fun q2024 h => ?_)
    · refine z_aload_n (i := 0) X.1 dX9_begin_23 0 rfl rfl ?_
      refine z_iconst (v := (1 : Int32)) X.1 dX9_begin_24 (by decide) ?_
      refine p_X9_hasGame X.1 X.2.1 tw816 (Or.inr rfl) dX9_begin_25 h (fun s2025 h => ?_)
      refine z_aload_n (i := 0) X.1 dX9_begin_28 0 rfl rfl ?_
      refine z_iload_n (i := 1) X.1 dX9_begin_29 1 rfl rfl ?_
      refine z_iload_n (i := 2) X.1 dX9_begin_30 2 rfl rfl ?_
      obtain ⟨r2026, s2027, hc2028, h⟩ := bd_inv h
      refine cl_X9_203 (d1 := 0) (b := zo κ.1 0) (r := 0) (As := [.int v1, .int v2]) (rest := []) X.1 (by decide) (C_X9_beginsAt X.2.1 hc2028) rcX9 rfl rfl (Nat.le_of_ble_eq_true rfl) dX9_begin_31 ?_
      refine z_aload_n (i := 0) X.1 dX9_begin_34 0 rfl rfl ?_
      refine z_aload_n (i := 0) X.1 dX9_begin_35 0 rfl rfl ?_
      refine g_X9_marker X.1 tw819 dX9_begin_36 ?_
      refine z_aload_n (i := 0) X.1 dX9_begin_39 0 rfl rfl ?_
      obtain ⟨r2029, s2030, hc2031, h⟩ := bd_inv h
      refine cl_X9_185 (d1 := 1) (b := zo κ.1 0) (As := []) (rest := [.int (s2027 0 14 0), .ref (zo κ.1 0)]) X.1 (by decide) (C_X9_setNow X.2.1 hc2031) rcX9 rfl rfl (Nat.le_of_ble_eq_true rfl) dX9_begin_40 ?_
      obtain ⟨r2032, s2033, hc2034, h⟩ := bd_inv h
      refine cl_X9_194 (d1 := 23) (b := zo κ.1 0) (As := [.int (s2027 0 14 0), .int r2029]) (rest := []) X.1 (by decide) (C_X9_winsAt X.2.1 hc2034) rcX9 rfl rfl (Nat.le_of_ble_eq_true rfl) dX9_begin_43 ?_
      refine z_if_eq (tgt := 53) X.1 dX9_begin_46 (by decide) h (fun q2035 h => ?_) (fun q2035 h => ?_)
      · refine z_iconst (v := (0 : Int32)) X.1 dX9_begin_53 (by decide) ?_
        exact z_iret X dX9_begin_54 h
      · refine z_iconst (v := (1 : Int32)) X.1 dX9_begin_49 (by decide) ?_
        refine z_goto (tgt := 54) X.1 dX9_begin_50 (by decide) ?_
        exact z_iret X dX9_begin_54 h
    · refine z_aload_n (i := 0) X.1 dX9_begin_17 0 rfl rfl ?_
      refine z_iconst (v := (1 : Int32)) X.1 dX9_begin_18 (by decide) ?_
      obtain ⟨r2036, s2037, hc2038, h⟩ := bd_inv h
      refine cl_X9_79 (d1 := 0) (b := zo κ.1 0) (As := [.int (1 : Int32)]) (rest := []) X.1 (by decide) (C_X9_no X.2.1 hc2038) rcX9 rfl rfl (Nat.le_of_ble_eq_true rfl) dX9_begin_19 ?_
      exact z_iret X dX9_begin_22 h
theorem C_X9_begin {ζ : zW} (hZ : zDis ζ zM) {v1 : Int32} {v2 : Int32} {σ σ' : S3} {r : Int32} (h : F_X9_begin v1 v2 σ = some (r, σ')) : zMet ζ zM 24 yX9_begin cX9_begin 3 (some .int) [.ref (zo ζ 0), .int v1, .int v2] σ (some (.int r)) σ' :=
  zMet_of pn_X9 hZ (Nat.le_of_ble_eq_true rfl) (fun κ e X => by subst e; exact B_X9_begin_0 X h)
