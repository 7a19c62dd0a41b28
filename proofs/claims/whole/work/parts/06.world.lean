set_option maxRecDepth 20000 in
theorem inX0 : ∀ w ∈ u_ws RX0 TX0 5, w ∈ zt := by
  have h1 : ∀ w ∈ u_ws RX0 TX0 5, w ∈ lw_tbl := by decide +kernel
  have h2 : ∀ w ∈ u_ws RX0 TX0 5, goodWord w = true := by decide +kernel
  exact fun w hw => zt_in (h1 w hw) (h2 w hw)
set_option maxRecDepth 20000 in
theorem inX1 : ∀ w ∈ u_ws RX1 TX1 4, w ∈ zt := by
  have h1 : ∀ w ∈ u_ws RX1 TX1 4, w ∈ lw_tbl := by decide +kernel
  have h2 : ∀ w ∈ u_ws RX1 TX1 4, goodWord w = true := by decide +kernel
  exact fun w hw => zt_in (h1 w hw) (h2 w hw)
set_option maxRecDepth 20000 in
theorem inX2 : ∀ w ∈ u_ws RX2 TX2 10, w ∈ zt := by
  have h1 : ∀ w ∈ u_ws RX2 TX2 10, w ∈ lw_tbl := by decide +kernel
  have h2 : ∀ w ∈ u_ws RX2 TX2 10, goodWord w = true := by decide +kernel
  exact fun w hw => zt_in (h1 w hw) (h2 w hw)
set_option maxRecDepth 20000 in
theorem inX3 : ∀ w ∈ u_ws RX3 TX3 3, w ∈ zt := by
  have h1 : ∀ w ∈ u_ws RX3 TX3 3, w ∈ lw_tbl := by decide +kernel
  have h2 : ∀ w ∈ u_ws RX3 TX3 3, goodWord w = true := by decide +kernel
  exact fun w hw => zt_in (h1 w hw) (h2 w hw)
set_option maxRecDepth 20000 in
theorem inX4 : ∀ w ∈ u_ws RX4 TX4 3, w ∈ zt := by
  have h1 : ∀ w ∈ u_ws RX4 TX4 3, w ∈ lw_tbl := by decide +kernel
  have h2 : ∀ w ∈ u_ws RX4 TX4 3, goodWord w = true := by decide +kernel
  exact fun w hw => zt_in (h1 w hw) (h2 w hw)
set_option maxRecDepth 20000 in
theorem inX6 : ∀ w ∈ u_ws RX6 TX6 2, w ∈ zt := by
  have h1 : ∀ w ∈ u_ws RX6 TX6 2, w ∈ lw_tbl := by decide +kernel
  have h2 : ∀ w ∈ u_ws RX6 TX6 2, goodWord w = true := by decide +kernel
  exact fun w hw => zt_in (h1 w hw) (h2 w hw)
set_option maxRecDepth 20000 in
theorem inX7 : ∀ w ∈ u_ws RX7 TX7 7, w ∈ zt := by
  have h1 : ∀ w ∈ u_ws RX7 TX7 7, w ∈ lw_tbl := by decide +kernel
  have h2 : ∀ w ∈ u_ws RX7 TX7 7, goodWord w = true := by decide +kernel
  exact fun w hw => zt_in (h1 w hw) (h2 w hw)
set_option maxRecDepth 20000 in
theorem inX8 : ∀ w ∈ u_ws RX8 TX8 11, w ∈ zt := by
  have h1 : ∀ w ∈ u_ws RX8 TX8 11, w ∈ lw_tbl := by decide +kernel
  have h2 : ∀ w ∈ u_ws RX8 TX8 11, goodWord w = true := by decide +kernel
  exact fun w hw => zt_in (h1 w hw) (h2 w hw)
set_option maxRecDepth 20000 in
theorem inX9 : ∀ w ∈ u_ws RX9 TX9 33, w ∈ zt := by
  have h1 : ∀ w ∈ u_ws RX9 TX9 33, w ∈ lw_tbl := by decide +kernel
  have h2 : ∀ w ∈ u_ws RX9 TX9 33, goodWord w = true := by decide +kernel
  exact fun w hw => zt_in (h1 w hw) (h2 w hw)
def fX0 (ε : zV) (σ : S3) : List Value := [.int (σ 6 0 0), .int (σ 6 1 0), .int (σ 6 2 0), .ref (ε.2.2 6 3), .ref (ε.2.2 6 4)]
def fX1 (ε : zV) (σ : S3) : List Value := [.ref (ε.2.1 1), .ref (ε.2.2 3 1), .int (σ 3 2 0), .int (σ 3 3 0)]
def fX2 (ε : zV) (c : Nat) (σ : S3) : List Value := [.int (σ c 0 0), .int (σ c 1 0), .ref (ε.2.2 c 2), .ref (ε.2.2 c 3), .ref (ε.2.2 c 4), .ref (ε.2.2 c 5), .ref (ε.2.2 c 6), .ref (ε.2.2 c 7), .ref (ε.2.2 c 8), .ref (ε.2.2 c 9)]
def fX3 (ε : zV) (σ : S3) : List Value := [.ref (ε.2.1 1), .ref (ε.2.1 3), .int (σ 4 2 0)]
def fX4 (ε : zV) (c : Nat) (σ : S3) : List Value := [.int (σ c 0 0), .int (σ c 1 0), .ref (ε.2.2 c 2)]
def fX6 (ε : zV) (σ : S3) : List Value := [.int (σ 7 0 0), .ref (ε.2.2 7 1)]
def fX7 (ε : zV) (σ : S3) : List Value := [.ref (ε.2.1 1), .ref (ε.2.1 3), .ref (ε.2.2 5 2), .int (σ 5 3 0), .int (σ 5 4 0), .int (σ 5 5 0), .int (σ 5 6 0)]
def fX8 (ε : zV) (σ : S3) : List Value := [.ref (ε.2.1 1), .ref (ε.2.1 2), .ref (ε.2.1 3), .ref (ε.2.1 4), .ref (ε.2.1 5), .ref (ε.2.1 6), .ref (ε.2.1 7), .ref (ε.2.2 0 7), .ref (ε.2.2 0 8), .int (σ 0 9 0), .int (σ 0 10 0)]
def fX9 (ε : zV) (σ : S3) : List Value := [.ref (ε.2.2 0 0), .int (σ 0 1 0), .int (σ 0 2 0), .ref (ε.2.2 0 3), .ref (ε.2.2 0 4), .ref (ε.2.2 0 5), .ref (ε.2.2 0 6), .int (σ 0 7 0), .int (σ 0 8 0), .ref (ε.2.2 0 9), .int (σ 0 10 0), .int (σ 0 11 0), .int (σ 0 12 0), .int (σ 0 13 0), .int (σ 0 14 0), .int (σ 0 15 0), .int (σ 0 16 0), .int (σ 0 17 0), .ref (ε.2.2 0 18), .int (σ 0 19 0), .ref (ε.2.2 0 20), .ref (ε.2.2 0 21), .int (σ 0 22 0), .ref (ε.2.2 0 23), .int (σ 0 24 0), .int (σ 0 25 0), .int (σ 0 26 0), .ref (ε.2.2 0 27), .ref (ε.2.2 0 28), .ref (ε.2.2 0 29), .ref (ε.2.2 0 30), .ref (ε.2.2 0 31), .int (σ 0 32 0)]
def zX (ε : zV) (σ : S3) : va_W := [(ε.2.1 0, .inr (7, fX8 ε σ)), (ε.2.2 0 7, .inl (ε.1.2.2, 4, .inr (.inr (.inr (.inr (fun j => some (ε.2.1 (8 + j)))))))), (ε.2.2 0 8, .inl (ε.1.1, 7, .inl (σ 0 8))), (ε.2.1 1, .inr (2, fX2 ε 1 σ)), (ε.2.2 1 2, .inl (ε.1.1, 12, .inl (σ 1 2))), (ε.2.2 1 3, .inl (ε.1.1, 12, .inl (σ 1 3))), (ε.2.2 1 4, .inl (ε.1.1, 12, .inl (σ 1 4))), (ε.2.2 1 5, .inl (ε.1.1, 16, .inl (σ 1 5))), (ε.2.2 1 6, .inl (ε.1.1, 16, .inl (σ 1 6))), (ε.2.2 1 7, .inl (ε.1.1, 16, .inl (σ 1 7))), (ε.2.2 1 8, .inl (ε.1.1, 16, .inl (σ 1 8))), (ε.2.2 1 9, .inl (ε.1.1, 16, .inl (σ 1 9))), (ε.2.1 2, .inr (2, fX2 ε 2 σ)), (ε.2.2 2 2, .inl (ε.1.1, 12, .inl (σ 2 2))), (ε.2.2 2 3, .inl (ε.1.1, 12, .inl (σ 2 3))), (ε.2.2 2 4, .inl (ε.1.1, 12, .inl (σ 2 4))), (ε.2.2 2 5, .inl (ε.1.1, 16, .inl (σ 2 5))), (ε.2.2 2 6, .inl (ε.1.1, 16, .inl (σ 2 6))), (ε.2.2 2 7, .inl (ε.1.1, 16, .inl (σ 2 7))), (ε.2.2 2 8, .inl (ε.1.1, 16, .inl (σ 2 8))), (ε.2.2 2 9, .inl (ε.1.1, 16, .inl (σ 2 9))), (ε.2.1 3, .inr (1, fX1 ε σ)), (ε.2.2 3 1, .inl (ε.1.1, 8192, .inl (σ 3 1))), (ε.2.1 4, .inr (3, fX3 ε σ)), (ε.2.1 5, .inr (6, fX7 ε σ)), (ε.2.2 5 2, .inl (ε.1.1, 300, .inl (σ 5 2))), (ε.2.1 6, .inr (0, fX0 ε σ)), (ε.2.2 6 3, .inl (ε.1.1, 12, .inl (σ 6 3))), (ε.2.2 6 4, .inl (ε.1.1, 13, .inl (σ 6 4))), (ε.2.1 7, .inr (5, fX6 ε σ)), (ε.2.2 7 1, .inl (ε.1.1, 60, .inl (σ 7 1))), (ε.2.1 8, .inr (4, fX4 ε 8 σ)), (ε.2.2 8 2, .inl (ε.1.1, 24, .inl (σ 8 2))), (ε.2.1 9, .inr (4, fX4 ε 9 σ)), (ε.2.2 9 2, .inl (ε.1.1, 24, .inl (σ 9 2))), (ε.2.1 10, .inr (4, fX4 ε 10 σ)), (ε.2.2 10 2, .inl (ε.1.1, 24, .inl (σ 10 2))), (ε.2.1 11, .inr (4, fX4 ε 11 σ)), (ε.2.2 11 2, .inl (ε.1.1, 24, .inl (σ 11 2)))]
def zM (ε : zV) (σ : S3) : va_W := [(ε.2.1 0, .inr (8, fX9 ε σ)), (ε.2.2 0 0, .inl (ε.1.1, 7, .inl (σ 0 0))), (ε.2.2 0 3, .inl (ε.1.1, 12, .inl (σ 0 3))), (ε.2.2 0 4, .inl (ε.1.1, 12, .inl (σ 0 4))), (ε.2.2 0 5, .inl (ε.1.1, 12, .inl (σ 0 5))), (ε.2.2 0 6, .inl (ε.1.1, 10, .inl (σ 0 6))), (ε.2.2 0 9, .inl (ε.1.1, 60, .inl (σ 0 9))), (ε.2.2 0 18, .inl (ε.1.1, 12, .inl (σ 0 18))), (ε.2.2 0 20, .inl (ε.1.1, 40960, .inl (σ 0 20))), (ε.2.2 0 21, .inl (ε.1.1, 40960, .inl (σ 0 21))), (ε.2.2 0 23, .inl (ε.1.2.1, 40960, .inl (σ 0 23))), (ε.2.2 0 27, .inl (ε.1.1, 301, .inl (σ 0 27))), (ε.2.2 0 28, .inl (ε.1.1, 4, .inl (σ 0 28))), (ε.2.2 0 29, .inl (ε.1.1, 4, .inl (σ 0 29))), (ε.2.2 0 30, .inl (ε.1.1, 96, .inl (σ 0 30))), (ε.2.2 0 31, .inl (ε.1.1, 39, .inl (σ 0 31)))]
def zNet (c : Nat) : Prop := c = 1 ∨ c = 2
def zSh (c : Nat) : Prop := c = 8 ∨ c = 9 ∨ c = 10 ∨ c = 11
theorem zSh_ix {i : Int32} (h : vp_in i 4) : zSh (8 + ix i) := by
  have h1 : ix i < 4 := Nat.not_le.mp fun q => h (Or.inr q)
  unfold zSh
  omega
theorem tw364 : Cond.native arraycopyName ∈ zt := zt_at 364 (by decide +kernel)
theorem tw363 : Cond.static arraycopyName ∈ zt := zt_at 363 (by decide +kernel)
theorem tw79 : Cond.initialized RJ10 ∈ zt := zt_at 79 (by decide +kernel)
section ZW
variable {κ : zT} {own : String} {cc : ByteArray} {nL d idx : Nat} {lv : List (Nat × Value)} {pc : Nat} {st : List Value} {σ : S3}
theorem rcX0 : ∃ (q : Nat) (fs : List Value), (zX (ze κ.1) σ)[q]? = some (zo κ.1 6, .inr (0, fs)) := by
  exact ⟨26, _, rfl⟩
theorem g_X0_on (X : zC0 κ own cc nL d) (hw : Cond.fieldLink own idx RX0 "on" "Z" ∈ zt) (hdg : decode cc pc = .ok (.getfield idx, 3)) (kk : Z κ nL (zX (ze κ.1) σ) lv (pc + 3) (.int (σ 6 0 0) :: st)) : Z κ nL (zX (ze κ.1) σ) lv pc (.ref (zo κ.1 6) :: st) := by
  exact z_get (q := 26) (k := 0) (T := TX0) X rfl rfl (by decide) inX0 hw rfl hdg kk
theorem p_X0_on {v : Int32} {β : Type} {K : S3 → Option β} {ρ : Option β} (X : zC0 κ own cc nL d) (hZ : zDis κ.1 zX) (hw : Cond.fieldLink own idx RX0 "on" "Z" ∈ zt) (hv : v = 0 ∨ v = 1) (hdg : decode cc pc = .ok (.putfield idx, 3)) (h : nm (up σ 6 0 0 v) K = ρ) (kk : ∀ σ1 : S3, K σ1 = ρ → Z κ nL (zX (ze κ.1) σ1) lv (pc + 3) st) : Z κ nL (zX (ze κ.1) σ) lv pc (.int v :: .ref (zo κ.1 6) :: st) := by
  exact z_put (q := 26) (k := 0) (T := TX0) (ty := .boolean) X (hZ σ) rfl rfl (by decide) inX0 tyX0 tyX0_ok nmX0 hw rfl (by decide +kernel) (by rcases hv with rfl | rfl <;> decide +kernel) (by rcases hv with rfl | rfl <;> decide +kernel) (Nat.le_of_ble_eq_true rfl) rfl hdg (kk _ h)
theorem g_X0_rule (X : zC0 κ own cc nL d) (hw : Cond.fieldLink own idx RX0 "rule" "I" ∈ zt) (hdg : decode cc pc = .ok (.getfield idx, 3)) (kk : Z κ nL (zX (ze κ.1) σ) lv (pc + 3) (.int (σ 6 1 0) :: st)) : Z κ nL (zX (ze κ.1) σ) lv pc (.ref (zo κ.1 6) :: st) := by
  exact z_get (q := 26) (k := 1) (T := TX0) X rfl rfl (by decide) inX0 hw rfl hdg kk
theorem p_X0_rule {v : Int32} {β : Type} {K : S3 → Option β} {ρ : Option β} (X : zC0 κ own cc nL d) (hZ : zDis κ.1 zX) (hw : Cond.fieldLink own idx RX0 "rule" "I" ∈ zt) (hdg : decode cc pc = .ok (.putfield idx, 3)) (h : nm (up σ 6 1 0 v) K = ρ) (kk : ∀ σ1 : S3, K σ1 = ρ → Z κ nL (zX (ze κ.1) σ1) lv (pc + 3) st) : Z κ nL (zX (ze κ.1) σ) lv pc (.int v :: .ref (zo κ.1 6) :: st) := by
  exact z_put (q := 26) (k := 1) (T := TX0) (ty := .int) X (hZ σ) rfl rfl (by decide) inX0 tyX0 tyX0_ok nmX0 hw rfl (by decide +kernel) rfl rfl (Nat.le_of_ble_eq_true rfl) rfl hdg (kk _ h)
theorem g_X0_made (X : zC0 κ own cc nL d) (hw : Cond.fieldLink own idx RX0 "made" "I" ∈ zt) (hdg : decode cc pc = .ok (.getfield idx, 3)) (kk : Z κ nL (zX (ze κ.1) σ) lv (pc + 3) (.int (σ 6 2 0) :: st)) : Z κ nL (zX (ze κ.1) σ) lv pc (.ref (zo κ.1 6) :: st) := by
  exact z_get (q := 26) (k := 2) (T := TX0) X rfl rfl (by decide) inX0 hw rfl hdg kk
theorem p_X0_made {v : Int32} {β : Type} {K : S3 → Option β} {ρ : Option β} (X : zC0 κ own cc nL d) (hZ : zDis κ.1 zX) (hw : Cond.fieldLink own idx RX0 "made" "I" ∈ zt) (hdg : decode cc pc = .ok (.putfield idx, 3)) (h : nm (up σ 6 2 0 v) K = ρ) (kk : ∀ σ1 : S3, K σ1 = ρ → Z κ nL (zX (ze κ.1) σ1) lv (pc + 3) st) : Z κ nL (zX (ze κ.1) σ) lv pc (.int v :: .ref (zo κ.1 6) :: st) := by
  exact z_put (q := 26) (k := 2) (T := TX0) (ty := .int) X (hZ σ) rfl rfl (by decide) inX0 tyX0 tyX0_ok nmX0 hw rfl (by decide +kernel) rfl rfl (Nat.le_of_ble_eq_true rfl) rfl hdg (kk _ h)
theorem g_X0_taken (X : zC0 κ own cc nL d) (hw : Cond.fieldLink own idx RX0 "taken" "[I" ∈ zt) (hdg : decode cc pc = .ok (.getfield idx, 3)) (kk : Z κ nL (zX (ze κ.1) σ) lv (pc + 3) (.ref (za κ.1 6 3) :: st)) : Z κ nL (zX (ze κ.1) σ) lv pc (.ref (zo κ.1 6) :: st) := by
  exact z_get (q := 26) (k := 3) (T := TX0) X rfl rfl (by decide) inX0 hw rfl hdg kk
theorem al_X0_taken {i : Int32} {β : Type} {a : Option β} {ρ : β} (X : zC0 κ own cc nL d) (hdg : decode cc pc = .ok (.iaload, 1)) (h : ck i 12 a = some ρ) (kk : a = some ρ → Z κ nL (zX (ze κ.1) σ) lv (pc + 1) (.int (σ 6 3 (ix i)) :: st)) : Z κ nL (zX (ze κ.1) σ) lv pc (.int i :: .ref (za κ.1 6 3) :: st) := by
  obtain ⟨hin, h⟩ := ck_inv h
  exact z_iald (q := 27) X rfl rfl hin hdg (kk h)
theorem as_X0_taken {i v : Int32} {β : Type} {K : S3 → Option β} {ρ : β} (X : zC0 κ own cc nL d) (hZ : zDis κ.1 zX) (hdg : decode cc pc = .ok (.iastore, 1)) (h : ck i 12 (nm (up σ 6 3 (ix i) v) K) = some ρ) (kk : ∀ σ1 : S3, K σ1 = some ρ → Z κ nL (zX (ze κ.1) σ1) lv (pc + 1) st) : Z κ nL (zX (ze κ.1) σ) lv pc (.int v :: .int i :: .ref (za κ.1 6 3) :: st) := by
  obtain ⟨hin, h⟩ := ck_inv h
  exact z_iast (q := 27) X (hZ σ) rfl rfl hin rfl hdg (kk _ h)
theorem g_X0_stands (X : zC0 κ own cc nL d) (hw : Cond.fieldLink own idx RX0 "stands" "[I" ∈ zt) (hdg : decode cc pc = .ok (.getfield idx, 3)) (kk : Z κ nL (zX (ze κ.1) σ) lv (pc + 3) (.ref (za κ.1 6 4) :: st)) : Z κ nL (zX (ze κ.1) σ) lv pc (.ref (zo κ.1 6) :: st) := by
  exact z_get (q := 26) (k := 4) (T := TX0) X rfl rfl (by decide) inX0 hw rfl hdg kk
theorem al_X0_stands {i : Int32} {β : Type} {a : Option β} {ρ : β} (X : zC0 κ own cc nL d) (hdg : decode cc pc = .ok (.iaload, 1)) (h : ck i 13 a = some ρ) (kk : a = some ρ → Z κ nL (zX (ze κ.1) σ) lv (pc + 1) (.int (σ 6 4 (ix i)) :: st)) : Z κ nL (zX (ze κ.1) σ) lv pc (.int i :: .ref (za κ.1 6 4) :: st) := by
  obtain ⟨hin, h⟩ := ck_inv h
  exact z_iald (q := 28) X rfl rfl hin hdg (kk h)
theorem as_X0_stands {i v : Int32} {β : Type} {K : S3 → Option β} {ρ : β} (X : zC0 κ own cc nL d) (hZ : zDis κ.1 zX) (hdg : decode cc pc = .ok (.iastore, 1)) (h : ck i 13 (nm (up σ 6 4 (ix i) v) K) = some ρ) (kk : ∀ σ1 : S3, K σ1 = some ρ → Z κ nL (zX (ze κ.1) σ1) lv (pc + 1) st) : Z κ nL (zX (ze κ.1) σ) lv pc (.int v :: .int i :: .ref (za κ.1 6 4) :: st) := by
  obtain ⟨hin, h⟩ := ck_inv h
  exact z_iast (q := 28) X (hZ σ) rfl rfl hin rfl hdg (kk _ h)
theorem rcX1 : ∃ (q : Nat) (fs : List Value), (zX (ze κ.1) σ)[q]? = some (zo κ.1 3, .inr (1, fs)) := by
  exact ⟨21, _, rfl⟩
theorem g_X1_net (X : zC0 κ own cc nL d) (hw : Cond.fieldLink own idx RX1 "net" "LMarkerWalks$Network;" ∈ zt) (hdg : decode cc pc = .ok (.getfield idx, 3)) (kk : Z κ nL (zX (ze κ.1) σ) lv (pc + 3) (.ref (zo κ.1 1) :: st)) : Z κ nL (zX (ze κ.1) σ) lv pc (.ref (zo κ.1 3) :: st) := by
  exact z_get (q := 21) (k := 0) (T := TX1) X rfl rfl (by decide) inX1 hw rfl hdg kk
theorem g_X1_found (X : zC0 κ own cc nL d) (hw : Cond.fieldLink own idx RX1 "found" "[I" ∈ zt) (hdg : decode cc pc = .ok (.getfield idx, 3)) (kk : Z κ nL (zX (ze κ.1) σ) lv (pc + 3) (.ref (za κ.1 3 1) :: st)) : Z κ nL (zX (ze κ.1) σ) lv pc (.ref (zo κ.1 3) :: st) := by
  exact z_get (q := 21) (k := 1) (T := TX1) X rfl rfl (by decide) inX1 hw rfl hdg kk
theorem al_X1_found {i : Int32} {β : Type} {a : Option β} {ρ : β} (X : zC0 κ own cc nL d) (hdg : decode cc pc = .ok (.iaload, 1)) (h : ck i 8192 a = some ρ) (kk : a = some ρ → Z κ nL (zX (ze κ.1) σ) lv (pc + 1) (.int (σ 3 1 (ix i)) :: st)) : Z κ nL (zX (ze κ.1) σ) lv pc (.int i :: .ref (za κ.1 3 1) :: st) := by
  obtain ⟨hin, h⟩ := ck_inv h
  exact z_iald (q := 22) X rfl rfl hin hdg (kk h)
theorem as_X1_found {i v : Int32} {β : Type} {K : S3 → Option β} {ρ : β} (X : zC0 κ own cc nL d) (hZ : zDis κ.1 zX) (hdg : decode cc pc = .ok (.iastore, 1)) (h : ck i 8192 (nm (up σ 3 1 (ix i) v) K) = some ρ) (kk : ∀ σ1 : S3, K σ1 = some ρ → Z κ nL (zX (ze κ.1) σ1) lv (pc + 1) st) : Z κ nL (zX (ze κ.1) σ) lv pc (.int v :: .int i :: .ref (za κ.1 3 1) :: st) := by
  obtain ⟨hin, h⟩ := ck_inv h
  exact z_iast (q := 22) X (hZ σ) rfl rfl hin rfl hdg (kk _ h)
theorem g_X1_turn (X : zC0 κ own cc nL d) (hw : Cond.fieldLink own idx RX1 "turn" "I" ∈ zt) (hdg : decode cc pc = .ok (.getfield idx, 3)) (kk : Z κ nL (zX (ze κ.1) σ) lv (pc + 3) (.int (σ 3 2 0) :: st)) : Z κ nL (zX (ze κ.1) σ) lv pc (.ref (zo κ.1 3) :: st) := by
  exact z_get (q := 21) (k := 2) (T := TX1) X rfl rfl (by decide) inX1 hw rfl hdg kk
theorem p_X1_turn {v : Int32} {β : Type} {K : S3 → Option β} {ρ : Option β} (X : zC0 κ own cc nL d) (hZ : zDis κ.1 zX) (hw : Cond.fieldLink own idx RX1 "turn" "I" ∈ zt) (hdg : decode cc pc = .ok (.putfield idx, 3)) (h : nm (up σ 3 2 0 v) K = ρ) (kk : ∀ σ1 : S3, K σ1 = ρ → Z κ nL (zX (ze κ.1) σ1) lv (pc + 3) st) : Z κ nL (zX (ze κ.1) σ) lv pc (.int v :: .ref (zo κ.1 3) :: st) := by
  exact z_put (q := 21) (k := 2) (T := TX1) (ty := .int) X (hZ σ) rfl rfl (by decide) inX1 tyX1 tyX1_ok nmX1 hw rfl (by decide +kernel) rfl rfl (Nat.le_of_ble_eq_true rfl) rfl hdg (kk _ h)
theorem g_X1_rule (X : zC0 κ own cc nL d) (hw : Cond.fieldLink own idx RX1 "rule" "I" ∈ zt) (hdg : decode cc pc = .ok (.getfield idx, 3)) (kk : Z κ nL (zX (ze κ.1) σ) lv (pc + 3) (.int (σ 3 3 0) :: st)) : Z κ nL (zX (ze κ.1) σ) lv pc (.ref (zo κ.1 3) :: st) := by
  exact z_get (q := 21) (k := 3) (T := TX1) X rfl rfl (by decide) inX1 hw rfl hdg kk
theorem p_X1_rule {v : Int32} {β : Type} {K : S3 → Option β} {ρ : Option β} (X : zC0 κ own cc nL d) (hZ : zDis κ.1 zX) (hw : Cond.fieldLink own idx RX1 "rule" "I" ∈ zt) (hdg : decode cc pc = .ok (.putfield idx, 3)) (h : nm (up σ 3 3 0 v) K = ρ) (kk : ∀ σ1 : S3, K σ1 = ρ → Z κ nL (zX (ze κ.1) σ1) lv (pc + 3) st) : Z κ nL (zX (ze κ.1) σ) lv pc (.int v :: .ref (zo κ.1 3) :: st) := by
  exact z_put (q := 21) (k := 3) (T := TX1) (ty := .int) X (hZ σ) rfl rfl (by decide) inX1 tyX1 tyX1_ok nmX1 hw rfl (by decide +kernel) rfl rfl (Nat.le_of_ble_eq_true rfl) rfl hdg (kk _ h)
theorem rcX2 {c : Nat} (hc : zNet c) : ∃ (q : Nat) (fs : List Value), (zX (ze κ.1) σ)[q]? = some (zo κ.1 c, .inr (2, fs)) := by
  rcases hc with rfl | rfl
  · exact ⟨3, _, rfl⟩
  · exact ⟨12, _, rfl⟩
theorem g_X2_size {c : Nat} (hc : zNet c) (X : zC0 κ own cc nL d) (hw : Cond.fieldLink own idx RX2 "size" "I" ∈ zt) (hdg : decode cc pc = .ok (.getfield idx, 3)) (kk : Z κ nL (zX (ze κ.1) σ) lv (pc + 3) (.int (σ c 0 0) :: st)) : Z κ nL (zX (ze κ.1) σ) lv pc (.ref (zo κ.1 c) :: st) := by
  rcases hc with rfl | rfl
  · exact z_get (q := 3) (k := 0) (T := TX2) X rfl rfl (by decide) inX2 hw rfl hdg kk
  · exact z_get (q := 12) (k := 0) (T := TX2) X rfl rfl (by decide) inX2 hw rfl hdg kk
theorem p_X2_size {c : Nat} (hc : zNet c) {v : Int32} {β : Type} {K : S3 → Option β} {ρ : Option β} (X : zC0 κ own cc nL d) (hZ : zDis κ.1 zX) (hw : Cond.fieldLink own idx RX2 "size" "I" ∈ zt) (hdg : decode cc pc = .ok (.putfield idx, 3)) (h : nm (up σ c 0 0 v) K = ρ) (kk : ∀ σ1 : S3, K σ1 = ρ → Z κ nL (zX (ze κ.1) σ1) lv (pc + 3) st) : Z κ nL (zX (ze κ.1) σ) lv pc (.int v :: .ref (zo κ.1 c) :: st) := by
  rcases hc with rfl | rfl
  · exact z_put (q := 3) (k := 0) (T := TX2) (ty := .int) X (hZ σ) rfl rfl (by decide) inX2 tyX2 tyX2_ok nmX2 hw rfl (by decide +kernel) rfl rfl (Nat.le_of_ble_eq_true rfl) rfl hdg (kk _ h)
  · exact z_put (q := 12) (k := 0) (T := TX2) (ty := .int) X (hZ σ) rfl rfl (by decide) inX2 tyX2 tyX2_ok nmX2 hw rfl (by decide +kernel) rfl rfl (Nat.le_of_ble_eq_true rfl) rfl hdg (kk _ h)
theorem g_X2_lines {c : Nat} (hc : zNet c) (X : zC0 κ own cc nL d) (hw : Cond.fieldLink own idx RX2 "lines" "I" ∈ zt) (hdg : decode cc pc = .ok (.getfield idx, 3)) (kk : Z κ nL (zX (ze κ.1) σ) lv (pc + 3) (.int (σ c 1 0) :: st)) : Z κ nL (zX (ze κ.1) σ) lv pc (.ref (zo κ.1 c) :: st) := by
  rcases hc with rfl | rfl
  · exact z_get (q := 3) (k := 1) (T := TX2) X rfl rfl (by decide) inX2 hw rfl hdg kk
  · exact z_get (q := 12) (k := 1) (T := TX2) X rfl rfl (by decide) inX2 hw rfl hdg kk
theorem p_X2_lines {c : Nat} (hc : zNet c) {v : Int32} {β : Type} {K : S3 → Option β} {ρ : Option β} (X : zC0 κ own cc nL d) (hZ : zDis κ.1 zX) (hw : Cond.fieldLink own idx RX2 "lines" "I" ∈ zt) (hdg : decode cc pc = .ok (.putfield idx, 3)) (h : nm (up σ c 1 0 v) K = ρ) (kk : ∀ σ1 : S3, K σ1 = ρ → Z κ nL (zX (ze κ.1) σ1) lv (pc + 3) st) : Z κ nL (zX (ze κ.1) σ) lv pc (.int v :: .ref (zo κ.1 c) :: st) := by
  rcases hc with rfl | rfl
  · exact z_put (q := 3) (k := 1) (T := TX2) (ty := .int) X (hZ σ) rfl rfl (by decide) inX2 tyX2 tyX2_ok nmX2 hw rfl (by decide +kernel) rfl rfl (Nat.le_of_ble_eq_true rfl) rfl hdg (kk _ h)
  · exact z_put (q := 12) (k := 1) (T := TX2) (ty := .int) X (hZ σ) rfl rfl (by decide) inX2 tyX2 tyX2_ok nmX2 hw rfl (by decide +kernel) rfl rfl (Nat.le_of_ble_eq_true rfl) rfl hdg (kk _ h)
theorem g_X2_from {c : Nat} (hc : zNet c) (X : zC0 κ own cc nL d) (hw : Cond.fieldLink own idx RX2 "from" "[I" ∈ zt) (hdg : decode cc pc = .ok (.getfield idx, 3)) (kk : Z κ nL (zX (ze κ.1) σ) lv (pc + 3) (.ref (za κ.1 c 2) :: st)) : Z κ nL (zX (ze κ.1) σ) lv pc (.ref (zo κ.1 c) :: st) := by
  rcases hc with rfl | rfl
  · exact z_get (q := 3) (k := 2) (T := TX2) X rfl rfl (by decide) inX2 hw rfl hdg kk
  · exact z_get (q := 12) (k := 2) (T := TX2) X rfl rfl (by decide) inX2 hw rfl hdg kk
theorem al_X2_from {c : Nat} (hc : zNet c) {i : Int32} {β : Type} {a : Option β} {ρ : β} (X : zC0 κ own cc nL d) (hdg : decode cc pc = .ok (.iaload, 1)) (h : ck i 12 a = some ρ) (kk : a = some ρ → Z κ nL (zX (ze κ.1) σ) lv (pc + 1) (.int (σ c 2 (ix i)) :: st)) : Z κ nL (zX (ze κ.1) σ) lv pc (.int i :: .ref (za κ.1 c 2) :: st) := by
  obtain ⟨hin, h⟩ := ck_inv h
  rcases hc with rfl | rfl
  · exact z_iald (q := 4) X rfl rfl hin hdg (kk h)
  · exact z_iald (q := 13) X rfl rfl hin hdg (kk h)
theorem as_X2_from {c : Nat} (hc : zNet c) {i v : Int32} {β : Type} {K : S3 → Option β} {ρ : β} (X : zC0 κ own cc nL d) (hZ : zDis κ.1 zX) (hdg : decode cc pc = .ok (.iastore, 1)) (h : ck i 12 (nm (up σ c 2 (ix i) v) K) = some ρ) (kk : ∀ σ1 : S3, K σ1 = some ρ → Z κ nL (zX (ze κ.1) σ1) lv (pc + 1) st) : Z κ nL (zX (ze κ.1) σ) lv pc (.int v :: .int i :: .ref (za κ.1 c 2) :: st) := by
  obtain ⟨hin, h⟩ := ck_inv h
  rcases hc with rfl | rfl
  · exact z_iast (q := 4) X (hZ σ) rfl rfl hin rfl hdg (kk _ h)
  · exact z_iast (q := 13) X (hZ σ) rfl rfl hin rfl hdg (kk _ h)
theorem g_X2_to {c : Nat} (hc : zNet c) (X : zC0 κ own cc nL d) (hw : Cond.fieldLink own idx RX2 "to" "[I" ∈ zt) (hdg : decode cc pc = .ok (.getfield idx, 3)) (kk : Z κ nL (zX (ze κ.1) σ) lv (pc + 3) (.ref (za κ.1 c 3) :: st)) : Z κ nL (zX (ze κ.1) σ) lv pc (.ref (zo κ.1 c) :: st) := by
  rcases hc with rfl | rfl
  · exact z_get (q := 3) (k := 3) (T := TX2) X rfl rfl (by decide) inX2 hw rfl hdg kk
  · exact z_get (q := 12) (k := 3) (T := TX2) X rfl rfl (by decide) inX2 hw rfl hdg kk
theorem al_X2_to {c : Nat} (hc : zNet c) {i : Int32} {β : Type} {a : Option β} {ρ : β} (X : zC0 κ own cc nL d) (hdg : decode cc pc = .ok (.iaload, 1)) (h : ck i 12 a = some ρ) (kk : a = some ρ → Z κ nL (zX (ze κ.1) σ) lv (pc + 1) (.int (σ c 3 (ix i)) :: st)) : Z κ nL (zX (ze κ.1) σ) lv pc (.int i :: .ref (za κ.1 c 3) :: st) := by
  obtain ⟨hin, h⟩ := ck_inv h
  rcases hc with rfl | rfl
  · exact z_iald (q := 5) X rfl rfl hin hdg (kk h)
  · exact z_iald (q := 14) X rfl rfl hin hdg (kk h)
theorem as_X2_to {c : Nat} (hc : zNet c) {i v : Int32} {β : Type} {K : S3 → Option β} {ρ : β} (X : zC0 κ own cc nL d) (hZ : zDis κ.1 zX) (hdg : decode cc pc = .ok (.iastore, 1)) (h : ck i 12 (nm (up σ c 3 (ix i) v) K) = some ρ) (kk : ∀ σ1 : S3, K σ1 = some ρ → Z κ nL (zX (ze κ.1) σ1) lv (pc + 1) st) : Z κ nL (zX (ze κ.1) σ) lv pc (.int v :: .int i :: .ref (za κ.1 c 3) :: st) := by
  obtain ⟨hin, h⟩ := ck_inv h
  rcases hc with rfl | rfl
  · exact z_iast (q := 5) X (hZ σ) rfl rfl hin rfl hdg (kk _ h)
  · exact z_iast (q := 14) X (hZ σ) rfl rfl hin rfl hdg (kk _ h)
theorem g_X2_ways {c : Nat} (hc : zNet c) (X : zC0 κ own cc nL d) (hw : Cond.fieldLink own idx RX2 "ways" "[I" ∈ zt) (hdg : decode cc pc = .ok (.getfield idx, 3)) (kk : Z κ nL (zX (ze κ.1) σ) lv (pc + 3) (.ref (za κ.1 c 4) :: st)) : Z κ nL (zX (ze κ.1) σ) lv pc (.ref (zo κ.1 c) :: st) := by
  rcases hc with rfl | rfl
  · exact z_get (q := 3) (k := 4) (T := TX2) X rfl rfl (by decide) inX2 hw rfl hdg kk
  · exact z_get (q := 12) (k := 4) (T := TX2) X rfl rfl (by decide) inX2 hw rfl hdg kk
theorem al_X2_ways {c : Nat} (hc : zNet c) {i : Int32} {β : Type} {a : Option β} {ρ : β} (X : zC0 κ own cc nL d) (hdg : decode cc pc = .ok (.iaload, 1)) (h : ck i 12 a = some ρ) (kk : a = some ρ → Z κ nL (zX (ze κ.1) σ) lv (pc + 1) (.int (σ c 4 (ix i)) :: st)) : Z κ nL (zX (ze κ.1) σ) lv pc (.int i :: .ref (za κ.1 c 4) :: st) := by
  obtain ⟨hin, h⟩ := ck_inv h
  rcases hc with rfl | rfl
  · exact z_iald (q := 6) X rfl rfl hin hdg (kk h)
  · exact z_iald (q := 15) X rfl rfl hin hdg (kk h)
theorem as_X2_ways {c : Nat} (hc : zNet c) {i v : Int32} {β : Type} {K : S3 → Option β} {ρ : β} (X : zC0 κ own cc nL d) (hZ : zDis κ.1 zX) (hdg : decode cc pc = .ok (.iastore, 1)) (h : ck i 12 (nm (up σ c 4 (ix i) v) K) = some ρ) (kk : ∀ σ1 : S3, K σ1 = some ρ → Z κ nL (zX (ze κ.1) σ1) lv (pc + 1) st) : Z κ nL (zX (ze κ.1) σ) lv pc (.int v :: .int i :: .ref (za κ.1 c 4) :: st) := by
  obtain ⟨hin, h⟩ := ck_inv h
  rcases hc with rfl | rfl
  · exact z_iast (q := 6) X (hZ σ) rfl rfl hin rfl hdg (kk _ h)
  · exact z_iast (q := 15) X (hZ σ) rfl rfl hin rfl hdg (kk _ h)
theorem g_X2_touching {c : Nat} (hc : zNet c) (X : zC0 κ own cc nL d) (hw : Cond.fieldLink own idx RX2 "touching" "[I" ∈ zt) (hdg : decode cc pc = .ok (.getfield idx, 3)) (kk : Z κ nL (zX (ze κ.1) σ) lv (pc + 3) (.ref (za κ.1 c 5) :: st)) : Z κ nL (zX (ze κ.1) σ) lv pc (.ref (zo κ.1 c) :: st) := by
  rcases hc with rfl | rfl
  · exact z_get (q := 3) (k := 5) (T := TX2) X rfl rfl (by decide) inX2 hw rfl hdg kk
  · exact z_get (q := 12) (k := 5) (T := TX2) X rfl rfl (by decide) inX2 hw rfl hdg kk
theorem al_X2_touching {c : Nat} (hc : zNet c) {i : Int32} {β : Type} {a : Option β} {ρ : β} (X : zC0 κ own cc nL d) (hdg : decode cc pc = .ok (.iaload, 1)) (h : ck i 16 a = some ρ) (kk : a = some ρ → Z κ nL (zX (ze κ.1) σ) lv (pc + 1) (.int (σ c 5 (ix i)) :: st)) : Z κ nL (zX (ze κ.1) σ) lv pc (.int i :: .ref (za κ.1 c 5) :: st) := by
  obtain ⟨hin, h⟩ := ck_inv h
  rcases hc with rfl | rfl
  · exact z_iald (q := 7) X rfl rfl hin hdg (kk h)
  · exact z_iald (q := 16) X rfl rfl hin hdg (kk h)
theorem as_X2_touching {c : Nat} (hc : zNet c) {i v : Int32} {β : Type} {K : S3 → Option β} {ρ : β} (X : zC0 κ own cc nL d) (hZ : zDis κ.1 zX) (hdg : decode cc pc = .ok (.iastore, 1)) (h : ck i 16 (nm (up σ c 5 (ix i) v) K) = some ρ) (kk : ∀ σ1 : S3, K σ1 = some ρ → Z κ nL (zX (ze κ.1) σ1) lv (pc + 1) st) : Z κ nL (zX (ze κ.1) σ) lv pc (.int v :: .int i :: .ref (za κ.1 c 5) :: st) := by
  obtain ⟨hin, h⟩ := ck_inv h
  rcases hc with rfl | rfl
  · exact z_iast (q := 7) X (hZ σ) rfl rfl hin rfl hdg (kk _ h)
  · exact z_iast (q := 16) X (hZ σ) rfl rfl hin rfl hdg (kk _ h)
theorem g_X2_leaving {c : Nat} (hc : zNet c) (X : zC0 κ own cc nL d) (hw : Cond.fieldLink own idx RX2 "leaving" "[I" ∈ zt) (hdg : decode cc pc = .ok (.getfield idx, 3)) (kk : Z κ nL (zX (ze κ.1) σ) lv (pc + 3) (.ref (za κ.1 c 6) :: st)) : Z κ nL (zX (ze κ.1) σ) lv pc (.ref (zo κ.1 c) :: st) := by
  rcases hc with rfl | rfl
  · exact z_get (q := 3) (k := 6) (T := TX2) X rfl rfl (by decide) inX2 hw rfl hdg kk
  · exact z_get (q := 12) (k := 6) (T := TX2) X rfl rfl (by decide) inX2 hw rfl hdg kk
theorem al_X2_leaving {c : Nat} (hc : zNet c) {i : Int32} {β : Type} {a : Option β} {ρ : β} (X : zC0 κ own cc nL d) (hdg : decode cc pc = .ok (.iaload, 1)) (h : ck i 16 a = some ρ) (kk : a = some ρ → Z κ nL (zX (ze κ.1) σ) lv (pc + 1) (.int (σ c 6 (ix i)) :: st)) : Z κ nL (zX (ze κ.1) σ) lv pc (.int i :: .ref (za κ.1 c 6) :: st) := by
  obtain ⟨hin, h⟩ := ck_inv h
  rcases hc with rfl | rfl
  · exact z_iald (q := 8) X rfl rfl hin hdg (kk h)
  · exact z_iald (q := 17) X rfl rfl hin hdg (kk h)
theorem as_X2_leaving {c : Nat} (hc : zNet c) {i v : Int32} {β : Type} {K : S3 → Option β} {ρ : β} (X : zC0 κ own cc nL d) (hZ : zDis κ.1 zX) (hdg : decode cc pc = .ok (.iastore, 1)) (h : ck i 16 (nm (up σ c 6 (ix i) v) K) = some ρ) (kk : ∀ σ1 : S3, K σ1 = some ρ → Z κ nL (zX (ze κ.1) σ1) lv (pc + 1) st) : Z κ nL (zX (ze κ.1) σ) lv pc (.int v :: .int i :: .ref (za κ.1 c 6) :: st) := by
  obtain ⟨hin, h⟩ := ck_inv h
  rcases hc with rfl | rfl
  · exact z_iast (q := 8) X (hZ σ) rfl rfl hin rfl hdg (kk _ h)
  · exact z_iast (q := 17) X (hZ σ) rfl rfl hin rfl hdg (kk _ h)
theorem g_X2_coming {c : Nat} (hc : zNet c) (X : zC0 κ own cc nL d) (hw : Cond.fieldLink own idx RX2 "coming" "[I" ∈ zt) (hdg : decode cc pc = .ok (.getfield idx, 3)) (kk : Z κ nL (zX (ze κ.1) σ) lv (pc + 3) (.ref (za κ.1 c 7) :: st)) : Z κ nL (zX (ze κ.1) σ) lv pc (.ref (zo κ.1 c) :: st) := by
  rcases hc with rfl | rfl
  · exact z_get (q := 3) (k := 7) (T := TX2) X rfl rfl (by decide) inX2 hw rfl hdg kk
  · exact z_get (q := 12) (k := 7) (T := TX2) X rfl rfl (by decide) inX2 hw rfl hdg kk
theorem al_X2_coming {c : Nat} (hc : zNet c) {i : Int32} {β : Type} {a : Option β} {ρ : β} (X : zC0 κ own cc nL d) (hdg : decode cc pc = .ok (.iaload, 1)) (h : ck i 16 a = some ρ) (kk : a = some ρ → Z κ nL (zX (ze κ.1) σ) lv (pc + 1) (.int (σ c 7 (ix i)) :: st)) : Z κ nL (zX (ze κ.1) σ) lv pc (.int i :: .ref (za κ.1 c 7) :: st) := by
  obtain ⟨hin, h⟩ := ck_inv h
  rcases hc with rfl | rfl
  · exact z_iald (q := 9) X rfl rfl hin hdg (kk h)
  · exact z_iald (q := 18) X rfl rfl hin hdg (kk h)
theorem as_X2_coming {c : Nat} (hc : zNet c) {i v : Int32} {β : Type} {K : S3 → Option β} {ρ : β} (X : zC0 κ own cc nL d) (hZ : zDis κ.1 zX) (hdg : decode cc pc = .ok (.iastore, 1)) (h : ck i 16 (nm (up σ c 7 (ix i) v) K) = some ρ) (kk : ∀ σ1 : S3, K σ1 = some ρ → Z κ nL (zX (ze κ.1) σ1) lv (pc + 1) st) : Z κ nL (zX (ze κ.1) σ) lv pc (.int v :: .int i :: .ref (za κ.1 c 7) :: st) := by
  obtain ⟨hin, h⟩ := ck_inv h
  rcases hc with rfl | rfl
  · exact z_iast (q := 9) X (hZ σ) rfl rfl hin rfl hdg (kk _ h)
  · exact z_iast (q := 18) X (hZ σ) rfl rfl hin rfl hdg (kk _ h)
theorem g_X2_beside {c : Nat} (hc : zNet c) (X : zC0 κ own cc nL d) (hw : Cond.fieldLink own idx RX2 "beside" "[I" ∈ zt) (hdg : decode cc pc = .ok (.getfield idx, 3)) (kk : Z κ nL (zX (ze κ.1) σ) lv (pc + 3) (.ref (za κ.1 c 8) :: st)) : Z κ nL (zX (ze κ.1) σ) lv pc (.ref (zo κ.1 c) :: st) := by
  rcases hc with rfl | rfl
  · exact z_get (q := 3) (k := 8) (T := TX2) X rfl rfl (by decide) inX2 hw rfl hdg kk
  · exact z_get (q := 12) (k := 8) (T := TX2) X rfl rfl (by decide) inX2 hw rfl hdg kk
theorem al_X2_beside {c : Nat} (hc : zNet c) {i : Int32} {β : Type} {a : Option β} {ρ : β} (X : zC0 κ own cc nL d) (hdg : decode cc pc = .ok (.iaload, 1)) (h : ck i 16 a = some ρ) (kk : a = some ρ → Z κ nL (zX (ze κ.1) σ) lv (pc + 1) (.int (σ c 8 (ix i)) :: st)) : Z κ nL (zX (ze κ.1) σ) lv pc (.int i :: .ref (za κ.1 c 8) :: st) := by
  obtain ⟨hin, h⟩ := ck_inv h
  rcases hc with rfl | rfl
  · exact z_iald (q := 10) X rfl rfl hin hdg (kk h)
  · exact z_iald (q := 19) X rfl rfl hin hdg (kk h)
theorem as_X2_beside {c : Nat} (hc : zNet c) {i v : Int32} {β : Type} {K : S3 → Option β} {ρ : β} (X : zC0 κ own cc nL d) (hZ : zDis κ.1 zX) (hdg : decode cc pc = .ok (.iastore, 1)) (h : ck i 16 (nm (up σ c 8 (ix i) v) K) = some ρ) (kk : ∀ σ1 : S3, K σ1 = some ρ → Z κ nL (zX (ze κ.1) σ1) lv (pc + 1) st) : Z κ nL (zX (ze κ.1) σ) lv pc (.int v :: .int i :: .ref (za κ.1 c 8) :: st) := by
  obtain ⟨hin, h⟩ := ck_inv h
  rcases hc with rfl | rfl
  · exact z_iast (q := 10) X (hZ σ) rfl rfl hin rfl hdg (kk _ h)
  · exact z_iast (q := 19) X (hZ σ) rfl rfl hin rfl hdg (kk _ h)
theorem g_X2_ahead {c : Nat} (hc : zNet c) (X : zC0 κ own cc nL d) (hw : Cond.fieldLink own idx RX2 "ahead" "[I" ∈ zt) (hdg : decode cc pc = .ok (.getfield idx, 3)) (kk : Z κ nL (zX (ze κ.1) σ) lv (pc + 3) (.ref (za κ.1 c 9) :: st)) : Z κ nL (zX (ze κ.1) σ) lv pc (.ref (zo κ.1 c) :: st) := by
  rcases hc with rfl | rfl
  · exact z_get (q := 3) (k := 9) (T := TX2) X rfl rfl (by decide) inX2 hw rfl hdg kk
  · exact z_get (q := 12) (k := 9) (T := TX2) X rfl rfl (by decide) inX2 hw rfl hdg kk
theorem al_X2_ahead {c : Nat} (hc : zNet c) {i : Int32} {β : Type} {a : Option β} {ρ : β} (X : zC0 κ own cc nL d) (hdg : decode cc pc = .ok (.iaload, 1)) (h : ck i 16 a = some ρ) (kk : a = some ρ → Z κ nL (zX (ze κ.1) σ) lv (pc + 1) (.int (σ c 9 (ix i)) :: st)) : Z κ nL (zX (ze κ.1) σ) lv pc (.int i :: .ref (za κ.1 c 9) :: st) := by
  obtain ⟨hin, h⟩ := ck_inv h
  rcases hc with rfl | rfl
  · exact z_iald (q := 11) X rfl rfl hin hdg (kk h)
  · exact z_iald (q := 20) X rfl rfl hin hdg (kk h)
theorem as_X2_ahead {c : Nat} (hc : zNet c) {i v : Int32} {β : Type} {K : S3 → Option β} {ρ : β} (X : zC0 κ own cc nL d) (hZ : zDis κ.1 zX) (hdg : decode cc pc = .ok (.iastore, 1)) (h : ck i 16 (nm (up σ c 9 (ix i) v) K) = some ρ) (kk : ∀ σ1 : S3, K σ1 = some ρ → Z κ nL (zX (ze κ.1) σ1) lv (pc + 1) st) : Z κ nL (zX (ze κ.1) σ) lv pc (.int v :: .int i :: .ref (za κ.1 c 9) :: st) := by
  obtain ⟨hin, h⟩ := ck_inv h
  rcases hc with rfl | rfl
  · exact z_iast (q := 11) X (hZ σ) rfl rfl hin rfl hdg (kk _ h)
  · exact z_iast (q := 20) X (hZ σ) rfl rfl hin rfl hdg (kk _ h)
theorem rcX3 : ∃ (q : Nat) (fs : List Value), (zX (ze κ.1) σ)[q]? = some (zo κ.1 4, .inr (3, fs)) := by
  exact ⟨23, _, rfl⟩
theorem g_X3_net (X : zC0 κ own cc nL d) (hw : Cond.fieldLink own idx RX3 "net" "LMarkerWalks$Network;" ∈ zt) (hdg : decode cc pc = .ok (.getfield idx, 3)) (kk : Z κ nL (zX (ze κ.1) σ) lv (pc + 3) (.ref (zo κ.1 1) :: st)) : Z κ nL (zX (ze κ.1) σ) lv pc (.ref (zo κ.1 4) :: st) := by
  exact z_get (q := 23) (k := 0) (T := TX3) X rfl rfl (by decide) inX3 hw rfl hdg kk
theorem g_X3_judge (X : zC0 κ own cc nL d) (hw : Cond.fieldLink own idx RX3 "judge" "LMarkerWalks$Judge;" ∈ zt) (hdg : decode cc pc = .ok (.getfield idx, 3)) (kk : Z κ nL (zX (ze κ.1) σ) lv (pc + 3) (.ref (zo κ.1 3) :: st)) : Z κ nL (zX (ze κ.1) σ) lv pc (.ref (zo κ.1 4) :: st) := by
  exact z_get (q := 23) (k := 1) (T := TX3) X rfl rfl (by decide) inX3 hw rfl hdg kk
theorem g_X3_z (X : zC0 κ own cc nL d) (hw : Cond.fieldLink own idx RX3 "z" "I" ∈ zt) (hdg : decode cc pc = .ok (.getfield idx, 3)) (kk : Z κ nL (zX (ze κ.1) σ) lv (pc + 3) (.int (σ 4 2 0) :: st)) : Z κ nL (zX (ze κ.1) σ) lv pc (.ref (zo κ.1 4) :: st) := by
  exact z_get (q := 23) (k := 2) (T := TX3) X rfl rfl (by decide) inX3 hw rfl hdg kk
theorem p_X3_z {v : Int32} {β : Type} {K : S3 → Option β} {ρ : Option β} (X : zC0 κ own cc nL d) (hZ : zDis κ.1 zX) (hw : Cond.fieldLink own idx RX3 "z" "I" ∈ zt) (hdg : decode cc pc = .ok (.putfield idx, 3)) (h : nm (up σ 4 2 0 v) K = ρ) (kk : ∀ σ1 : S3, K σ1 = ρ → Z κ nL (zX (ze κ.1) σ1) lv (pc + 3) st) : Z κ nL (zX (ze κ.1) σ) lv pc (.int v :: .ref (zo κ.1 4) :: st) := by
  exact z_put (q := 23) (k := 2) (T := TX3) (ty := .int) X (hZ σ) rfl rfl (by decide) inX3 tyX3 tyX3_ok nmX3 hw rfl (by decide +kernel) rfl rfl (Nat.le_of_ble_eq_true rfl) rfl hdg (kk _ h)
theorem rcX4 {c : Nat} (hc : zSh c) : ∃ (q : Nat) (fs : List Value), (zX (ze κ.1) σ)[q]? = some (zo κ.1 c, .inr (4, fs)) := by
  rcases hc with rfl | rfl | rfl | rfl
  · exact ⟨31, _, rfl⟩
  · exact ⟨33, _, rfl⟩
  · exact ⟨35, _, rfl⟩
  · exact ⟨37, _, rfl⟩
theorem g_X4_bits {c : Nat} (hc : zSh c) (X : zC0 κ own cc nL d) (hw : Cond.fieldLink own idx RX4 "bits" "I" ∈ zt) (hdg : decode cc pc = .ok (.getfield idx, 3)) (kk : Z κ nL (zX (ze κ.1) σ) lv (pc + 3) (.int (σ c 0 0) :: st)) : Z κ nL (zX (ze κ.1) σ) lv pc (.ref (zo κ.1 c) :: st) := by
  rcases hc with rfl | rfl | rfl | rfl
  · exact z_get (q := 31) (k := 0) (T := TX4) X rfl rfl (by decide) inX4 hw rfl hdg kk
  · exact z_get (q := 33) (k := 0) (T := TX4) X rfl rfl (by decide) inX4 hw rfl hdg kk
  · exact z_get (q := 35) (k := 0) (T := TX4) X rfl rfl (by decide) inX4 hw rfl hdg kk
  · exact z_get (q := 37) (k := 0) (T := TX4) X rfl rfl (by decide) inX4 hw rfl hdg kk
theorem p_X4_bits {c : Nat} (hc : zSh c) {v : Int32} {β : Type} {K : S3 → Option β} {ρ : Option β} (X : zC0 κ own cc nL d) (hZ : zDis κ.1 zX) (hw : Cond.fieldLink own idx RX4 "bits" "I" ∈ zt) (hdg : decode cc pc = .ok (.putfield idx, 3)) (h : nm (up σ c 0 0 v) K = ρ) (kk : ∀ σ1 : S3, K σ1 = ρ → Z κ nL (zX (ze κ.1) σ1) lv (pc + 3) st) : Z κ nL (zX (ze κ.1) σ) lv pc (.int v :: .ref (zo κ.1 c) :: st) := by
  rcases hc with rfl | rfl | rfl | rfl
  · exact z_put (q := 31) (k := 0) (T := TX4) (ty := .int) X (hZ σ) rfl rfl (by decide) inX4 tyX4 tyX4_ok nmX4 hw rfl (by decide +kernel) rfl rfl (Nat.le_of_ble_eq_true rfl) rfl hdg (kk _ h)
  · exact z_put (q := 33) (k := 0) (T := TX4) (ty := .int) X (hZ σ) rfl rfl (by decide) inX4 tyX4 tyX4_ok nmX4 hw rfl (by decide +kernel) rfl rfl (Nat.le_of_ble_eq_true rfl) rfl hdg (kk _ h)
  · exact z_put (q := 35) (k := 0) (T := TX4) (ty := .int) X (hZ σ) rfl rfl (by decide) inX4 tyX4 tyX4_ok nmX4 hw rfl (by decide +kernel) rfl rfl (Nat.le_of_ble_eq_true rfl) rfl hdg (kk _ h)
  · exact z_put (q := 37) (k := 0) (T := TX4) (ty := .int) X (hZ σ) rfl rfl (by decide) inX4 tyX4 tyX4_ok nmX4 hw rfl (by decide +kernel) rfl rfl (Nat.le_of_ble_eq_true rfl) rfl hdg (kk _ h)
theorem g_X4_size {c : Nat} (hc : zSh c) (X : zC0 κ own cc nL d) (hw : Cond.fieldLink own idx RX4 "size" "I" ∈ zt) (hdg : decode cc pc = .ok (.getfield idx, 3)) (kk : Z κ nL (zX (ze κ.1) σ) lv (pc + 3) (.int (σ c 1 0) :: st)) : Z κ nL (zX (ze κ.1) σ) lv pc (.ref (zo κ.1 c) :: st) := by
  rcases hc with rfl | rfl | rfl | rfl
  · exact z_get (q := 31) (k := 1) (T := TX4) X rfl rfl (by decide) inX4 hw rfl hdg kk
  · exact z_get (q := 33) (k := 1) (T := TX4) X rfl rfl (by decide) inX4 hw rfl hdg kk
  · exact z_get (q := 35) (k := 1) (T := TX4) X rfl rfl (by decide) inX4 hw rfl hdg kk
  · exact z_get (q := 37) (k := 1) (T := TX4) X rfl rfl (by decide) inX4 hw rfl hdg kk
theorem p_X4_size {c : Nat} (hc : zSh c) {v : Int32} {β : Type} {K : S3 → Option β} {ρ : Option β} (X : zC0 κ own cc nL d) (hZ : zDis κ.1 zX) (hw : Cond.fieldLink own idx RX4 "size" "I" ∈ zt) (hdg : decode cc pc = .ok (.putfield idx, 3)) (h : nm (up σ c 1 0 v) K = ρ) (kk : ∀ σ1 : S3, K σ1 = ρ → Z κ nL (zX (ze κ.1) σ1) lv (pc + 3) st) : Z κ nL (zX (ze κ.1) σ) lv pc (.int v :: .ref (zo κ.1 c) :: st) := by
  rcases hc with rfl | rfl | rfl | rfl
  · exact z_put (q := 31) (k := 1) (T := TX4) (ty := .int) X (hZ σ) rfl rfl (by decide) inX4 tyX4 tyX4_ok nmX4 hw rfl (by decide +kernel) rfl rfl (Nat.le_of_ble_eq_true rfl) rfl hdg (kk _ h)
  · exact z_put (q := 33) (k := 1) (T := TX4) (ty := .int) X (hZ σ) rfl rfl (by decide) inX4 tyX4 tyX4_ok nmX4 hw rfl (by decide +kernel) rfl rfl (Nat.le_of_ble_eq_true rfl) rfl hdg (kk _ h)
  · exact z_put (q := 35) (k := 1) (T := TX4) (ty := .int) X (hZ σ) rfl rfl (by decide) inX4 tyX4 tyX4_ok nmX4 hw rfl (by decide +kernel) rfl rfl (Nat.le_of_ble_eq_true rfl) rfl hdg (kk _ h)
  · exact z_put (q := 37) (k := 1) (T := TX4) (ty := .int) X (hZ σ) rfl rfl (by decide) inX4 tyX4 tyX4_ok nmX4 hw rfl (by decide +kernel) rfl rfl (Nat.le_of_ble_eq_true rfl) rfl hdg (kk _ h)
theorem g_X4_row {c : Nat} (hc : zSh c) (X : zC0 κ own cc nL d) (hw : Cond.fieldLink own idx RX4 "row" "[I" ∈ zt) (hdg : decode cc pc = .ok (.getfield idx, 3)) (kk : Z κ nL (zX (ze κ.1) σ) lv (pc + 3) (.ref (za κ.1 c 2) :: st)) : Z κ nL (zX (ze κ.1) σ) lv pc (.ref (zo κ.1 c) :: st) := by
  rcases hc with rfl | rfl | rfl | rfl
  · exact z_get (q := 31) (k := 2) (T := TX4) X rfl rfl (by decide) inX4 hw rfl hdg kk
  · exact z_get (q := 33) (k := 2) (T := TX4) X rfl rfl (by decide) inX4 hw rfl hdg kk
  · exact z_get (q := 35) (k := 2) (T := TX4) X rfl rfl (by decide) inX4 hw rfl hdg kk
  · exact z_get (q := 37) (k := 2) (T := TX4) X rfl rfl (by decide) inX4 hw rfl hdg kk
theorem al_X4_row {c : Nat} (hc : zSh c) {i : Int32} {β : Type} {a : Option β} {ρ : β} (X : zC0 κ own cc nL d) (hdg : decode cc pc = .ok (.iaload, 1)) (h : ck i 24 a = some ρ) (kk : a = some ρ → Z κ nL (zX (ze κ.1) σ) lv (pc + 1) (.int (σ c 2 (ix i)) :: st)) : Z κ nL (zX (ze κ.1) σ) lv pc (.int i :: .ref (za κ.1 c 2) :: st) := by
  obtain ⟨hin, h⟩ := ck_inv h
  rcases hc with rfl | rfl | rfl | rfl
  · exact z_iald (q := 32) X rfl rfl hin hdg (kk h)
  · exact z_iald (q := 34) X rfl rfl hin hdg (kk h)
  · exact z_iald (q := 36) X rfl rfl hin hdg (kk h)
  · exact z_iald (q := 38) X rfl rfl hin hdg (kk h)
theorem as_X4_row {c : Nat} (hc : zSh c) {i v : Int32} {β : Type} {K : S3 → Option β} {ρ : β} (X : zC0 κ own cc nL d) (hZ : zDis κ.1 zX) (hdg : decode cc pc = .ok (.iastore, 1)) (h : ck i 24 (nm (up σ c 2 (ix i) v) K) = some ρ) (kk : ∀ σ1 : S3, K σ1 = some ρ → Z κ nL (zX (ze κ.1) σ1) lv (pc + 1) st) : Z κ nL (zX (ze κ.1) σ) lv pc (.int v :: .int i :: .ref (za κ.1 c 2) :: st) := by
  obtain ⟨hin, h⟩ := ck_inv h
  rcases hc with rfl | rfl | rfl | rfl
  · exact z_iast (q := 32) X (hZ σ) rfl rfl hin rfl hdg (kk _ h)
  · exact z_iast (q := 34) X (hZ σ) rfl rfl hin rfl hdg (kk _ h)
  · exact z_iast (q := 36) X (hZ σ) rfl rfl hin rfl hdg (kk _ h)
  · exact z_iast (q := 38) X (hZ σ) rfl rfl hin rfl hdg (kk _ h)
theorem rcX6 : ∃ (q : Nat) (fs : List Value), (zX (ze κ.1) σ)[q]? = some (zo κ.1 7, .inr (5, fs)) := by
  exact ⟨29, _, rfl⟩
theorem g_X6_length (X : zC0 κ own cc nL d) (hw : Cond.fieldLink own idx RX6 "length" "I" ∈ zt) (hdg : decode cc pc = .ok (.getfield idx, 3)) (kk : Z κ nL (zX (ze κ.1) σ) lv (pc + 3) (.int (σ 7 0 0) :: st)) : Z κ nL (zX (ze κ.1) σ) lv pc (.ref (zo κ.1 7) :: st) := by
  exact z_get (q := 29) (k := 0) (T := TX6) X rfl rfl (by decide) inX6 hw rfl hdg kk
theorem p_X6_length {v : Int32} {β : Type} {K : S3 → Option β} {ρ : Option β} (X : zC0 κ own cc nL d) (hZ : zDis κ.1 zX) (hw : Cond.fieldLink own idx RX6 "length" "I" ∈ zt) (hdg : decode cc pc = .ok (.putfield idx, 3)) (h : nm (up σ 7 0 0 v) K = ρ) (kk : ∀ σ1 : S3, K σ1 = ρ → Z κ nL (zX (ze κ.1) σ1) lv (pc + 3) st) : Z κ nL (zX (ze κ.1) σ) lv pc (.int v :: .ref (zo κ.1 7) :: st) := by
  exact z_put (q := 29) (k := 0) (T := TX6) (ty := .int) X (hZ σ) rfl rfl (by decide) inX6 tyX6 tyX6_ok nmX6 hw rfl (by decide +kernel) rfl rfl (Nat.le_of_ble_eq_true rfl) rfl hdg (kk _ h)
theorem g_X6_bytes (X : zC0 κ own cc nL d) (hw : Cond.fieldLink own idx RX6 "bytes" "[I" ∈ zt) (hdg : decode cc pc = .ok (.getfield idx, 3)) (kk : Z κ nL (zX (ze κ.1) σ) lv (pc + 3) (.ref (za κ.1 7 1) :: st)) : Z κ nL (zX (ze κ.1) σ) lv pc (.ref (zo κ.1 7) :: st) := by
  exact z_get (q := 29) (k := 1) (T := TX6) X rfl rfl (by decide) inX6 hw rfl hdg kk
theorem al_X6_bytes {i : Int32} {β : Type} {a : Option β} {ρ : β} (X : zC0 κ own cc nL d) (hdg : decode cc pc = .ok (.iaload, 1)) (h : ck i 60 a = some ρ) (kk : a = some ρ → Z κ nL (zX (ze κ.1) σ) lv (pc + 1) (.int (σ 7 1 (ix i)) :: st)) : Z κ nL (zX (ze κ.1) σ) lv pc (.int i :: .ref (za κ.1 7 1) :: st) := by
  obtain ⟨hin, h⟩ := ck_inv h
  exact z_iald (q := 30) X rfl rfl hin hdg (kk h)
theorem as_X6_bytes {i v : Int32} {β : Type} {K : S3 → Option β} {ρ : β} (X : zC0 κ own cc nL d) (hZ : zDis κ.1 zX) (hdg : decode cc pc = .ok (.iastore, 1)) (h : ck i 60 (nm (up σ 7 1 (ix i) v) K) = some ρ) (kk : ∀ σ1 : S3, K σ1 = some ρ → Z κ nL (zX (ze κ.1) σ1) lv (pc + 1) st) : Z κ nL (zX (ze κ.1) σ) lv pc (.int v :: .int i :: .ref (za κ.1 7 1) :: st) := by
  obtain ⟨hin, h⟩ := ck_inv h
  exact z_iast (q := 30) X (hZ σ) rfl rfl hin rfl hdg (kk _ h)
theorem rcX7 : ∃ (q : Nat) (fs : List Value), (zX (ze κ.1) σ)[q]? = some (zo κ.1 5, .inr (6, fs)) := by
  exact ⟨24, _, rfl⟩
theorem g_X7_net (X : zC0 κ own cc nL d) (hw : Cond.fieldLink own idx RX7 "net" "LMarkerWalks$Network;" ∈ zt) (hdg : decode cc pc = .ok (.getfield idx, 3)) (kk : Z κ nL (zX (ze κ.1) σ) lv (pc + 3) (.ref (zo κ.1 1) :: st)) : Z κ nL (zX (ze κ.1) σ) lv pc (.ref (zo κ.1 5) :: st) := by
  exact z_get (q := 24) (k := 0) (T := TX7) X rfl rfl (by decide) inX7 hw rfl hdg kk
theorem g_X7_judge (X : zC0 κ own cc nL d) (hw : Cond.fieldLink own idx RX7 "judge" "LMarkerWalks$Judge;" ∈ zt) (hdg : decode cc pc = .ok (.getfield idx, 3)) (kk : Z κ nL (zX (ze κ.1) σ) lv (pc + 3) (.ref (zo κ.1 3) :: st)) : Z κ nL (zX (ze κ.1) σ) lv pc (.ref (zo κ.1 5) :: st) := by
  exact z_get (q := 24) (k := 1) (T := TX7) X rfl rfl (by decide) inX7 hw rfl hdg kk
theorem g_X7_ways (X : zC0 κ own cc nL d) (hw : Cond.fieldLink own idx RX7 "ways" "[I" ∈ zt) (hdg : decode cc pc = .ok (.getfield idx, 3)) (kk : Z κ nL (zX (ze κ.1) σ) lv (pc + 3) (.ref (za κ.1 5 2) :: st)) : Z κ nL (zX (ze κ.1) σ) lv pc (.ref (zo κ.1 5) :: st) := by
  exact z_get (q := 24) (k := 2) (T := TX7) X rfl rfl (by decide) inX7 hw rfl hdg kk
theorem al_X7_ways {i : Int32} {β : Type} {a : Option β} {ρ : β} (X : zC0 κ own cc nL d) (hdg : decode cc pc = .ok (.iaload, 1)) (h : ck i 300 a = some ρ) (kk : a = some ρ → Z κ nL (zX (ze κ.1) σ) lv (pc + 1) (.int (σ 5 2 (ix i)) :: st)) : Z κ nL (zX (ze κ.1) σ) lv pc (.int i :: .ref (za κ.1 5 2) :: st) := by
  obtain ⟨hin, h⟩ := ck_inv h
  exact z_iald (q := 25) X rfl rfl hin hdg (kk h)
theorem as_X7_ways {i v : Int32} {β : Type} {K : S3 → Option β} {ρ : β} (X : zC0 κ own cc nL d) (hZ : zDis κ.1 zX) (hdg : decode cc pc = .ok (.iastore, 1)) (h : ck i 300 (nm (up σ 5 2 (ix i) v) K) = some ρ) (kk : ∀ σ1 : S3, K σ1 = some ρ → Z κ nL (zX (ze κ.1) σ1) lv (pc + 1) st) : Z κ nL (zX (ze κ.1) σ) lv pc (.int v :: .int i :: .ref (za κ.1 5 2) :: st) := by
  obtain ⟨hin, h⟩ := ck_inv h
  exact z_iast (q := 25) X (hZ σ) rfl rfl hin rfl hdg (kk _ h)
theorem g_X7_nodes (X : zC0 κ own cc nL d) (hw : Cond.fieldLink own idx RX7 "nodes" "I" ∈ zt) (hdg : decode cc pc = .ok (.getfield idx, 3)) (kk : Z κ nL (zX (ze κ.1) σ) lv (pc + 3) (.int (σ 5 3 0) :: st)) : Z κ nL (zX (ze κ.1) σ) lv pc (.ref (zo κ.1 5) :: st) := by
  exact z_get (q := 24) (k := 3) (T := TX7) X rfl rfl (by decide) inX7 hw rfl hdg kk
theorem p_X7_nodes {v : Int32} {β : Type} {K : S3 → Option β} {ρ : Option β} (X : zC0 κ own cc nL d) (hZ : zDis κ.1 zX) (hw : Cond.fieldLink own idx RX7 "nodes" "I" ∈ zt) (hdg : decode cc pc = .ok (.putfield idx, 3)) (h : nm (up σ 5 3 0 v) K = ρ) (kk : ∀ σ1 : S3, K σ1 = ρ → Z κ nL (zX (ze κ.1) σ1) lv (pc + 3) st) : Z κ nL (zX (ze κ.1) σ) lv pc (.int v :: .ref (zo κ.1 5) :: st) := by
  exact z_put (q := 24) (k := 3) (T := TX7) (ty := .int) X (hZ σ) rfl rfl (by decide) inX7 tyX7 tyX7_ok nmX7 hw rfl (by decide +kernel) rfl rfl (Nat.le_of_ble_eq_true rfl) rfl hdg (kk _ h)
theorem g_X7_leaves (X : zC0 κ own cc nL d) (hw : Cond.fieldLink own idx RX7 "leaves" "I" ∈ zt) (hdg : decode cc pc = .ok (.getfield idx, 3)) (kk : Z κ nL (zX (ze κ.1) σ) lv (pc + 3) (.int (σ 5 4 0) :: st)) : Z κ nL (zX (ze κ.1) σ) lv pc (.ref (zo κ.1 5) :: st) := by
  exact z_get (q := 24) (k := 4) (T := TX7) X rfl rfl (by decide) inX7 hw rfl hdg kk
theorem p_X7_leaves {v : Int32} {β : Type} {K : S3 → Option β} {ρ : Option β} (X : zC0 κ own cc nL d) (hZ : zDis κ.1 zX) (hw : Cond.fieldLink own idx RX7 "leaves" "I" ∈ zt) (hdg : decode cc pc = .ok (.putfield idx, 3)) (h : nm (up σ 5 4 0 v) K = ρ) (kk : ∀ σ1 : S3, K σ1 = ρ → Z κ nL (zX (ze κ.1) σ1) lv (pc + 3) st) : Z κ nL (zX (ze κ.1) σ) lv pc (.int v :: .ref (zo κ.1 5) :: st) := by
  exact z_put (q := 24) (k := 4) (T := TX7) (ty := .int) X (hZ σ) rfl rfl (by decide) inX7 tyX7 tyX7_ok nmX7 hw rfl (by decide +kernel) rfl rfl (Nat.le_of_ble_eq_true rfl) rfl hdg (kk _ h)
theorem g_X7_deepest (X : zC0 κ own cc nL d) (hw : Cond.fieldLink own idx RX7 "deepest" "I" ∈ zt) (hdg : decode cc pc = .ok (.getfield idx, 3)) (kk : Z κ nL (zX (ze κ.1) σ) lv (pc + 3) (.int (σ 5 5 0) :: st)) : Z κ nL (zX (ze κ.1) σ) lv pc (.ref (zo κ.1 5) :: st) := by
  exact z_get (q := 24) (k := 5) (T := TX7) X rfl rfl (by decide) inX7 hw rfl hdg kk
theorem p_X7_deepest {v : Int32} {β : Type} {K : S3 → Option β} {ρ : Option β} (X : zC0 κ own cc nL d) (hZ : zDis κ.1 zX) (hw : Cond.fieldLink own idx RX7 "deepest" "I" ∈ zt) (hdg : decode cc pc = .ok (.putfield idx, 3)) (h : nm (up σ 5 5 0 v) K = ρ) (kk : ∀ σ1 : S3, K σ1 = ρ → Z κ nL (zX (ze κ.1) σ1) lv (pc + 3) st) : Z κ nL (zX (ze κ.1) σ) lv pc (.int v :: .ref (zo κ.1 5) :: st) := by
  exact z_put (q := 24) (k := 5) (T := TX7) (ty := .int) X (hZ σ) rfl rfl (by decide) inX7 tyX7 tyX7_ok nmX7 hw rfl (by decide +kernel) rfl rfl (Nat.le_of_ble_eq_true rfl) rfl hdg (kk _ h)
theorem g_X7_overfull (X : zC0 κ own cc nL d) (hw : Cond.fieldLink own idx RX7 "overfull" "Z" ∈ zt) (hdg : decode cc pc = .ok (.getfield idx, 3)) (kk : Z κ nL (zX (ze κ.1) σ) lv (pc + 3) (.int (σ 5 6 0) :: st)) : Z κ nL (zX (ze κ.1) σ) lv pc (.ref (zo κ.1 5) :: st) := by
  exact z_get (q := 24) (k := 6) (T := TX7) X rfl rfl (by decide) inX7 hw rfl hdg kk
theorem p_X7_overfull {v : Int32} {β : Type} {K : S3 → Option β} {ρ : Option β} (X : zC0 κ own cc nL d) (hZ : zDis κ.1 zX) (hw : Cond.fieldLink own idx RX7 "overfull" "Z" ∈ zt) (hv : v = 0 ∨ v = 1) (hdg : decode cc pc = .ok (.putfield idx, 3)) (h : nm (up σ 5 6 0 v) K = ρ) (kk : ∀ σ1 : S3, K σ1 = ρ → Z κ nL (zX (ze κ.1) σ1) lv (pc + 3) st) : Z κ nL (zX (ze κ.1) σ) lv pc (.int v :: .ref (zo κ.1 5) :: st) := by
  exact z_put (q := 24) (k := 6) (T := TX7) (ty := .boolean) X (hZ σ) rfl rfl (by decide) inX7 tyX7 tyX7_ok nmX7 hw rfl (by decide +kernel) (by rcases hv with rfl | rfl <;> decide +kernel) (by rcases hv with rfl | rfl <;> decide +kernel) (Nat.le_of_ble_eq_true rfl) rfl hdg (kk _ h)
theorem rcX8 : ∃ (q : Nat) (fs : List Value), (zX (ze κ.1) σ)[q]? = some (zo κ.1 0, .inr (7, fs)) := by
  exact ⟨0, _, rfl⟩
theorem g_X8_net (X : zC0 κ own cc nL d) (hw : Cond.fieldLink own idx RX8 "net" "LMarkerWalks$Network;" ∈ zt) (hdg : decode cc pc = .ok (.getfield idx, 3)) (kk : Z κ nL (zX (ze κ.1) σ) lv (pc + 3) (.ref (zo κ.1 1) :: st)) : Z κ nL (zX (ze κ.1) σ) lv pc (.ref (zo κ.1 0) :: st) := by
  exact z_get (q := 0) (k := 0) (T := TX8) X rfl rfl (by decide) inX8 hw rfl hdg kk
theorem g_X8_kept (X : zC0 κ own cc nL d) (hw : Cond.fieldLink own idx RX8 "kept" "LMarkerWalks$Network;" ∈ zt) (hdg : decode cc pc = .ok (.getfield idx, 3)) (kk : Z κ nL (zX (ze κ.1) σ) lv (pc + 3) (.ref (zo κ.1 2) :: st)) : Z κ nL (zX (ze κ.1) σ) lv pc (.ref (zo κ.1 0) :: st) := by
  exact z_get (q := 0) (k := 1) (T := TX8) X rfl rfl (by decide) inX8 hw rfl hdg kk
theorem g_X8_judge (X : zC0 κ own cc nL d) (hw : Cond.fieldLink own idx RX8 "judge" "LMarkerWalks$Judge;" ∈ zt) (hdg : decode cc pc = .ok (.getfield idx, 3)) (kk : Z κ nL (zX (ze κ.1) σ) lv (pc + 3) (.ref (zo κ.1 3) :: st)) : Z κ nL (zX (ze κ.1) σ) lv pc (.ref (zo κ.1 0) :: st) := by
  exact z_get (q := 0) (k := 2) (T := TX8) X rfl rfl (by decide) inX8 hw rfl hdg kk
theorem g_X8_planner (X : zC0 κ own cc nL d) (hw : Cond.fieldLink own idx RX8 "planner" "LMarkerWalks$Planner;" ∈ zt) (hdg : decode cc pc = .ok (.getfield idx, 3)) (kk : Z κ nL (zX (ze κ.1) σ) lv (pc + 3) (.ref (zo κ.1 4) :: st)) : Z κ nL (zX (ze κ.1) σ) lv pc (.ref (zo κ.1 0) :: st) := by
  exact z_get (q := 0) (k := 3) (T := TX8) X rfl rfl (by decide) inX8 hw rfl hdg kk
theorem g_X8_winnersTree (X : zC0 κ own cc nL d) (hw : Cond.fieldLink own idx RX8 "winnersTree" "LMarkerWalks$Tree;" ∈ zt) (hdg : decode cc pc = .ok (.getfield idx, 3)) (kk : Z κ nL (zX (ze κ.1) σ) lv (pc + 3) (.ref (zo κ.1 5) :: st)) : Z κ nL (zX (ze κ.1) σ) lv pc (.ref (zo κ.1 0) :: st) := by
  exact z_get (q := 0) (k := 4) (T := TX8) X rfl rfl (by decide) inX8 hw rfl hdg kk
theorem g_X8_current (X : zC0 κ own cc nL d) (hw : Cond.fieldLink own idx RX8 "current" "LMarkerWalks$Game;" ∈ zt) (hdg : decode cc pc = .ok (.getfield idx, 3)) (kk : Z κ nL (zX (ze κ.1) σ) lv (pc + 3) (.ref (zo κ.1 6) :: st)) : Z κ nL (zX (ze κ.1) σ) lv pc (.ref (zo κ.1 0) :: st) := by
  exact z_get (q := 0) (k := 5) (T := TX8) X rfl rfl (by decide) inX8 hw rfl hdg kk
theorem g_X8_tape (X : zC0 κ own cc nL d) (hw : Cond.fieldLink own idx RX8 "tape" "LMarkerWalks$Tape;" ∈ zt) (hdg : decode cc pc = .ok (.getfield idx, 3)) (kk : Z κ nL (zX (ze κ.1) σ) lv (pc + 3) (.ref (zo κ.1 7) :: st)) : Z κ nL (zX (ze κ.1) σ) lv pc (.ref (zo κ.1 0) :: st) := by
  exact z_get (q := 0) (k := 6) (T := TX8) X rfl rfl (by decide) inX8 hw rfl hdg kk
theorem g_X8_sheets (X : zC0 κ own cc nL d) (hw : Cond.fieldLink own idx RX8 "sheets" "[LMarkerWalks$Sheet;" ∈ zt) (hdg : decode cc pc = .ok (.getfield idx, 3)) (kk : Z κ nL (zX (ze κ.1) σ) lv (pc + 3) (.ref (za κ.1 0 7) :: st)) : Z κ nL (zX (ze κ.1) σ) lv pc (.ref (zo κ.1 0) :: st) := by
  exact z_get (q := 0) (k := 7) (T := TX8) X rfl rfl (by decide) inX8 hw rfl hdg kk
theorem al_X8_sheets {i : Int32} {β : Type} {a : Option β} {ρ : β} (X : zC0 κ own cc nL d) (hdg : decode cc pc = .ok (.aaload, 1)) (h : ck i 4 a = some ρ) (kk : zSh (8 + ix i) → a = some ρ → Z κ nL (zX (ze κ.1) σ) lv (pc + 1) (.ref (zo κ.1 (8 + ix i)) :: st)) : Z κ nL (zX (ze κ.1) σ) lv pc (.int i :: .ref (za κ.1 0 7) :: st) := by
  obtain ⟨hin, h⟩ := ck_inv h
  exact z_aald (q := 1) X rfl rfl hin rfl hdg (kk (zSh_ix hin) h)
theorem g_X8_errors (X : zC0 κ own cc nL d) (hw : Cond.fieldLink own idx RX8 "errors" "[I" ∈ zt) (hdg : decode cc pc = .ok (.getfield idx, 3)) (kk : Z κ nL (zX (ze κ.1) σ) lv (pc + 3) (.ref (za κ.1 0 8) :: st)) : Z κ nL (zX (ze κ.1) σ) lv pc (.ref (zo κ.1 0) :: st) := by
  exact z_get (q := 0) (k := 8) (T := TX8) X rfl rfl (by decide) inX8 hw rfl hdg kk
theorem al_X8_errors {i : Int32} {β : Type} {a : Option β} {ρ : β} (X : zC0 κ own cc nL d) (hdg : decode cc pc = .ok (.iaload, 1)) (h : ck i 7 a = some ρ) (kk : a = some ρ → Z κ nL (zX (ze κ.1) σ) lv (pc + 1) (.int (σ 0 8 (ix i)) :: st)) : Z κ nL (zX (ze κ.1) σ) lv pc (.int i :: .ref (za κ.1 0 8) :: st) := by
  obtain ⟨hin, h⟩ := ck_inv h
  exact z_iald (q := 2) X rfl rfl hin hdg (kk h)
theorem as_X8_errors {i v : Int32} {β : Type} {K : S3 → Option β} {ρ : β} (X : zC0 κ own cc nL d) (hZ : zDis κ.1 zX) (hdg : decode cc pc = .ok (.iastore, 1)) (h : ck i 7 (nm (up σ 0 8 (ix i) v) K) = some ρ) (kk : ∀ σ1 : S3, K σ1 = some ρ → Z κ nL (zX (ze κ.1) σ1) lv (pc + 1) st) : Z κ nL (zX (ze κ.1) σ) lv pc (.int v :: .int i :: .ref (za κ.1 0 8) :: st) := by
  obtain ⟨hin, h⟩ := ck_inv h
  exact z_iast (q := 2) X (hZ σ) rfl rfl hin rfl hdg (kk _ h)
theorem g_X8_hasImage (X : zC0 κ own cc nL d) (hw : Cond.fieldLink own idx RX8 "hasImage" "Z" ∈ zt) (hdg : decode cc pc = .ok (.getfield idx, 3)) (kk : Z κ nL (zX (ze κ.1) σ) lv (pc + 3) (.int (σ 0 9 0) :: st)) : Z κ nL (zX (ze κ.1) σ) lv pc (.ref (zo κ.1 0) :: st) := by
  exact z_get (q := 0) (k := 9) (T := TX8) X rfl rfl (by decide) inX8 hw rfl hdg kk
theorem p_X8_hasImage {v : Int32} {β : Type} {K : S3 → Option β} {ρ : Option β} (X : zC0 κ own cc nL d) (hZ : zDis κ.1 zX) (hw : Cond.fieldLink own idx RX8 "hasImage" "Z" ∈ zt) (hv : v = 0 ∨ v = 1) (hdg : decode cc pc = .ok (.putfield idx, 3)) (h : nm (up σ 0 9 0 v) K = ρ) (kk : ∀ σ1 : S3, K σ1 = ρ → Z κ nL (zX (ze κ.1) σ1) lv (pc + 3) st) : Z κ nL (zX (ze κ.1) σ) lv pc (.int v :: .ref (zo κ.1 0) :: st) := by
  exact z_put (q := 0) (k := 9) (T := TX8) (ty := .boolean) X (hZ σ) rfl rfl (by decide) inX8 tyX8 tyX8_ok nmX8 hw rfl (by decide +kernel) (by rcases hv with rfl | rfl <;> decide +kernel) (by rcases hv with rfl | rfl <;> decide +kernel) (Nat.le_of_ble_eq_true rfl) rfl hdg (kk _ h)
theorem g_X8_keptZ (X : zC0 κ own cc nL d) (hw : Cond.fieldLink own idx RX8 "keptZ" "I" ∈ zt) (hdg : decode cc pc = .ok (.getfield idx, 3)) (kk : Z κ nL (zX (ze κ.1) σ) lv (pc + 3) (.int (σ 0 10 0) :: st)) : Z κ nL (zX (ze κ.1) σ) lv pc (.ref (zo κ.1 0) :: st) := by
  exact z_get (q := 0) (k := 10) (T := TX8) X rfl rfl (by decide) inX8 hw rfl hdg kk
theorem p_X8_keptZ {v : Int32} {β : Type} {K : S3 → Option β} {ρ : Option β} (X : zC0 κ own cc nL d) (hZ : zDis κ.1 zX) (hw : Cond.fieldLink own idx RX8 "keptZ" "I" ∈ zt) (hdg : decode cc pc = .ok (.putfield idx, 3)) (h : nm (up σ 0 10 0 v) K = ρ) (kk : ∀ σ1 : S3, K σ1 = ρ → Z κ nL (zX (ze κ.1) σ1) lv (pc + 3) st) : Z κ nL (zX (ze κ.1) σ) lv pc (.int v :: .ref (zo κ.1 0) :: st) := by
  exact z_put (q := 0) (k := 10) (T := TX8) (ty := .int) X (hZ σ) rfl rfl (by decide) inX8 tyX8 tyX8_ok nmX8 hw rfl (by decide +kernel) rfl rfl (Nat.le_of_ble_eq_true rfl) rfl hdg (kk _ h)
theorem rcX9 : ∃ (q : Nat) (fs : List Value), (zM (ze κ.1) σ)[q]? = some (zo κ.1 0, .inr (8, fs)) := by
  exact ⟨0, _, rfl⟩
theorem g_X9_errors (X : zC0 κ own cc nL d) (hw : Cond.fieldLink own idx RX9 "errors" "[I" ∈ zt) (hdg : decode cc pc = .ok (.getfield idx, 3)) (kk : Z κ nL (zM (ze κ.1) σ) lv (pc + 3) (.ref (za κ.1 0 0) :: st)) : Z κ nL (zM (ze κ.1) σ) lv pc (.ref (zo κ.1 0) :: st) := by
  exact z_get (q := 0) (k := 0) (T := TX9) X rfl rfl (by decide) inX9 hw rfl hdg kk
theorem al_X9_errors {i : Int32} {β : Type} {a : Option β} {ρ : β} (X : zC0 κ own cc nL d) (hdg : decode cc pc = .ok (.iaload, 1)) (h : ck i 7 a = some ρ) (kk : a = some ρ → Z κ nL (zM (ze κ.1) σ) lv (pc + 1) (.int (σ 0 0 (ix i)) :: st)) : Z κ nL (zM (ze κ.1) σ) lv pc (.int i :: .ref (za κ.1 0 0) :: st) := by
  obtain ⟨hin, h⟩ := ck_inv h
  exact z_iald (q := 1) X rfl rfl hin hdg (kk h)
theorem as_X9_errors {i v : Int32} {β : Type} {K : S3 → Option β} {ρ : β} (X : zC0 κ own cc nL d) (hZ : zDis κ.1 zM) (hdg : decode cc pc = .ok (.iastore, 1)) (h : ck i 7 (nm (up σ 0 0 (ix i) v) K) = some ρ) (kk : ∀ σ1 : S3, K σ1 = some ρ → Z κ nL (zM (ze κ.1) σ1) lv (pc + 1) st) : Z κ nL (zM (ze κ.1) σ) lv pc (.int v :: .int i :: .ref (za κ.1 0 0) :: st) := by
  obtain ⟨hin, h⟩ := ck_inv h
  exact z_iast (q := 1) X (hZ σ) rfl rfl hin rfl hdg (kk _ h)
theorem g_X9_points (X : zC0 κ own cc nL d) (hw : Cond.fieldLink own idx RX9 "points" "I" ∈ zt) (hdg : decode cc pc = .ok (.getfield idx, 3)) (kk : Z κ nL (zM (ze κ.1) σ) lv (pc + 3) (.int (σ 0 1 0) :: st)) : Z κ nL (zM (ze κ.1) σ) lv pc (.ref (zo κ.1 0) :: st) := by
  exact z_get (q := 0) (k := 1) (T := TX9) X rfl rfl (by decide) inX9 hw rfl hdg kk
theorem p_X9_points {v : Int32} {β : Type} {K : S3 → Option β} {ρ : Option β} (X : zC0 κ own cc nL d) (hZ : zDis κ.1 zM) (hw : Cond.fieldLink own idx RX9 "points" "I" ∈ zt) (hdg : decode cc pc = .ok (.putfield idx, 3)) (h : nm (up σ 0 1 0 v) K = ρ) (kk : ∀ σ1 : S3, K σ1 = ρ → Z κ nL (zM (ze κ.1) σ1) lv (pc + 3) st) : Z κ nL (zM (ze κ.1) σ) lv pc (.int v :: .ref (zo κ.1 0) :: st) := by
  exact z_put (q := 0) (k := 1) (T := TX9) (ty := .int) X (hZ σ) rfl rfl (by decide) inX9 tyX9 tyX9_ok nmX9 hw rfl (by decide +kernel) rfl rfl (Nat.le_of_ble_eq_true rfl) rfl hdg (kk _ h)
theorem g_X9_lines (X : zC0 κ own cc nL d) (hw : Cond.fieldLink own idx RX9 "lines" "I" ∈ zt) (hdg : decode cc pc = .ok (.getfield idx, 3)) (kk : Z κ nL (zM (ze κ.1) σ) lv (pc + 3) (.int (σ 0 2 0) :: st)) : Z κ nL (zM (ze κ.1) σ) lv pc (.ref (zo κ.1 0) :: st) := by
  exact z_get (q := 0) (k := 2) (T := TX9) X rfl rfl (by decide) inX9 hw rfl hdg kk
theorem p_X9_lines {v : Int32} {β : Type} {K : S3 → Option β} {ρ : Option β} (X : zC0 κ own cc nL d) (hZ : zDis κ.1 zM) (hw : Cond.fieldLink own idx RX9 "lines" "I" ∈ zt) (hdg : decode cc pc = .ok (.putfield idx, 3)) (h : nm (up σ 0 2 0 v) K = ρ) (kk : ∀ σ1 : S3, K σ1 = ρ → Z κ nL (zM (ze κ.1) σ1) lv (pc + 3) st) : Z κ nL (zM (ze κ.1) σ) lv pc (.int v :: .ref (zo κ.1 0) :: st) := by
  exact z_put (q := 0) (k := 2) (T := TX9) (ty := .int) X (hZ σ) rfl rfl (by decide) inX9 tyX9 tyX9_ok nmX9 hw rfl (by decide +kernel) rfl rfl (Nat.le_of_ble_eq_true rfl) rfl hdg (kk _ h)
theorem g_X9_from (X : zC0 κ own cc nL d) (hw : Cond.fieldLink own idx RX9 "from" "[I" ∈ zt) (hdg : decode cc pc = .ok (.getfield idx, 3)) (kk : Z κ nL (zM (ze κ.1) σ) lv (pc + 3) (.ref (za κ.1 0 3) :: st)) : Z κ nL (zM (ze κ.1) σ) lv pc (.ref (zo κ.1 0) :: st) := by
  exact z_get (q := 0) (k := 3) (T := TX9) X rfl rfl (by decide) inX9 hw rfl hdg kk
theorem al_X9_from {i : Int32} {β : Type} {a : Option β} {ρ : β} (X : zC0 κ own cc nL d) (hdg : decode cc pc = .ok (.iaload, 1)) (h : ck i 12 a = some ρ) (kk : a = some ρ → Z κ nL (zM (ze κ.1) σ) lv (pc + 1) (.int (σ 0 3 (ix i)) :: st)) : Z κ nL (zM (ze κ.1) σ) lv pc (.int i :: .ref (za κ.1 0 3) :: st) := by
  obtain ⟨hin, h⟩ := ck_inv h
  exact z_iald (q := 2) X rfl rfl hin hdg (kk h)
theorem as_X9_from {i v : Int32} {β : Type} {K : S3 → Option β} {ρ : β} (X : zC0 κ own cc nL d) (hZ : zDis κ.1 zM) (hdg : decode cc pc = .ok (.iastore, 1)) (h : ck i 12 (nm (up σ 0 3 (ix i) v) K) = some ρ) (kk : ∀ σ1 : S3, K σ1 = some ρ → Z κ nL (zM (ze κ.1) σ1) lv (pc + 1) st) : Z κ nL (zM (ze κ.1) σ) lv pc (.int v :: .int i :: .ref (za κ.1 0 3) :: st) := by
  obtain ⟨hin, h⟩ := ck_inv h
  exact z_iast (q := 2) X (hZ σ) rfl rfl hin rfl hdg (kk _ h)
theorem g_X9_to (X : zC0 κ own cc nL d) (hw : Cond.fieldLink own idx RX9 "to" "[I" ∈ zt) (hdg : decode cc pc = .ok (.getfield idx, 3)) (kk : Z κ nL (zM (ze κ.1) σ) lv (pc + 3) (.ref (za κ.1 0 4) :: st)) : Z κ nL (zM (ze κ.1) σ) lv pc (.ref (zo κ.1 0) :: st) := by
  exact z_get (q := 0) (k := 4) (T := TX9) X rfl rfl (by decide) inX9 hw rfl hdg kk
theorem al_X9_to {i : Int32} {β : Type} {a : Option β} {ρ : β} (X : zC0 κ own cc nL d) (hdg : decode cc pc = .ok (.iaload, 1)) (h : ck i 12 a = some ρ) (kk : a = some ρ → Z κ nL (zM (ze κ.1) σ) lv (pc + 1) (.int (σ 0 4 (ix i)) :: st)) : Z κ nL (zM (ze κ.1) σ) lv pc (.int i :: .ref (za κ.1 0 4) :: st) := by
  obtain ⟨hin, h⟩ := ck_inv h
  exact z_iald (q := 3) X rfl rfl hin hdg (kk h)
theorem as_X9_to {i v : Int32} {β : Type} {K : S3 → Option β} {ρ : β} (X : zC0 κ own cc nL d) (hZ : zDis κ.1 zM) (hdg : decode cc pc = .ok (.iastore, 1)) (h : ck i 12 (nm (up σ 0 4 (ix i) v) K) = some ρ) (kk : ∀ σ1 : S3, K σ1 = some ρ → Z κ nL (zM (ze κ.1) σ1) lv (pc + 1) st) : Z κ nL (zM (ze κ.1) σ) lv pc (.int v :: .int i :: .ref (za κ.1 0 4) :: st) := by
  obtain ⟨hin, h⟩ := ck_inv h
  exact z_iast (q := 3) X (hZ σ) rfl rfl hin rfl hdg (kk _ h)
theorem g_X9_ways (X : zC0 κ own cc nL d) (hw : Cond.fieldLink own idx RX9 "ways" "[I" ∈ zt) (hdg : decode cc pc = .ok (.getfield idx, 3)) (kk : Z κ nL (zM (ze κ.1) σ) lv (pc + 3) (.ref (za κ.1 0 5) :: st)) : Z κ nL (zM (ze κ.1) σ) lv pc (.ref (zo κ.1 0) :: st) := by
  exact z_get (q := 0) (k := 5) (T := TX9) X rfl rfl (by decide) inX9 hw rfl hdg kk
theorem al_X9_ways {i : Int32} {β : Type} {a : Option β} {ρ : β} (X : zC0 κ own cc nL d) (hdg : decode cc pc = .ok (.iaload, 1)) (h : ck i 12 a = some ρ) (kk : a = some ρ → Z κ nL (zM (ze κ.1) σ) lv (pc + 1) (.int (σ 0 5 (ix i)) :: st)) : Z κ nL (zM (ze κ.1) σ) lv pc (.int i :: .ref (za κ.1 0 5) :: st) := by
  obtain ⟨hin, h⟩ := ck_inv h
  exact z_iald (q := 4) X rfl rfl hin hdg (kk h)
theorem as_X9_ways {i v : Int32} {β : Type} {K : S3 → Option β} {ρ : β} (X : zC0 κ own cc nL d) (hZ : zDis κ.1 zM) (hdg : decode cc pc = .ok (.iastore, 1)) (h : ck i 12 (nm (up σ 0 5 (ix i) v) K) = some ρ) (kk : ∀ σ1 : S3, K σ1 = some ρ → Z κ nL (zM (ze κ.1) σ1) lv (pc + 1) st) : Z κ nL (zM (ze κ.1) σ) lv pc (.int v :: .int i :: .ref (za κ.1 0 5) :: st) := by
  obtain ⟨hin, h⟩ := ck_inv h
  exact z_iast (q := 4) X (hZ σ) rfl rfl hin rfl hdg (kk _ h)
theorem g_X9_side (X : zC0 κ own cc nL d) (hw : Cond.fieldLink own idx RX9 "side" "[I" ∈ zt) (hdg : decode cc pc = .ok (.getfield idx, 3)) (kk : Z κ nL (zM (ze κ.1) σ) lv (pc + 3) (.ref (za κ.1 0 6) :: st)) : Z κ nL (zM (ze κ.1) σ) lv pc (.ref (zo κ.1 0) :: st) := by
  exact z_get (q := 0) (k := 6) (T := TX9) X rfl rfl (by decide) inX9 hw rfl hdg kk
theorem al_X9_side {i : Int32} {β : Type} {a : Option β} {ρ : β} (X : zC0 κ own cc nL d) (hdg : decode cc pc = .ok (.iaload, 1)) (h : ck i 10 a = some ρ) (kk : a = some ρ → Z κ nL (zM (ze κ.1) σ) lv (pc + 1) (.int (σ 0 6 (ix i)) :: st)) : Z κ nL (zM (ze κ.1) σ) lv pc (.int i :: .ref (za κ.1 0 6) :: st) := by
  obtain ⟨hin, h⟩ := ck_inv h
  exact z_iald (q := 5) X rfl rfl hin hdg (kk h)
theorem as_X9_side {i v : Int32} {β : Type} {K : S3 → Option β} {ρ : β} (X : zC0 κ own cc nL d) (hZ : zDis κ.1 zM) (hdg : decode cc pc = .ok (.iastore, 1)) (h : ck i 10 (nm (up σ 0 6 (ix i) v) K) = some ρ) (kk : ∀ σ1 : S3, K σ1 = some ρ → Z κ nL (zM (ze κ.1) σ1) lv (pc + 1) st) : Z κ nL (zM (ze κ.1) σ) lv pc (.int v :: .int i :: .ref (za κ.1 0 6) :: st) := by
  obtain ⟨hin, h⟩ := ck_inv h
  exact z_iast (q := 5) X (hZ σ) rfl rfl hin rfl hdg (kk _ h)
theorem g_X9_most (X : zC0 κ own cc nL d) (hw : Cond.fieldLink own idx RX9 "most" "I" ∈ zt) (hdg : decode cc pc = .ok (.getfield idx, 3)) (kk : Z κ nL (zM (ze κ.1) σ) lv (pc + 3) (.int (σ 0 7 0) :: st)) : Z κ nL (zM (ze κ.1) σ) lv pc (.ref (zo κ.1 0) :: st) := by
  exact z_get (q := 0) (k := 7) (T := TX9) X rfl rfl (by decide) inX9 hw rfl hdg kk
theorem p_X9_most {v : Int32} {β : Type} {K : S3 → Option β} {ρ : Option β} (X : zC0 κ own cc nL d) (hZ : zDis κ.1 zM) (hw : Cond.fieldLink own idx RX9 "most" "I" ∈ zt) (hdg : decode cc pc = .ok (.putfield idx, 3)) (h : nm (up σ 0 7 0 v) K = ρ) (kk : ∀ σ1 : S3, K σ1 = ρ → Z κ nL (zM (ze κ.1) σ1) lv (pc + 3) st) : Z κ nL (zM (ze κ.1) σ) lv pc (.int v :: .ref (zo κ.1 0) :: st) := by
  exact z_put (q := 0) (k := 7) (T := TX9) (ty := .int) X (hZ σ) rfl rfl (by decide) inX9 tyX9 tyX9_ok nmX9 hw rfl (by decide +kernel) rfl rfl (Nat.le_of_ble_eq_true rfl) rfl hdg (kk _ h)
theorem g_X9_necessary (X : zC0 κ own cc nL d) (hw : Cond.fieldLink own idx RX9 "necessary" "I" ∈ zt) (hdg : decode cc pc = .ok (.getfield idx, 3)) (kk : Z κ nL (zM (ze κ.1) σ) lv (pc + 3) (.int (σ 0 8 0) :: st)) : Z κ nL (zM (ze κ.1) σ) lv pc (.ref (zo κ.1 0) :: st) := by
  exact z_get (q := 0) (k := 8) (T := TX9) X rfl rfl (by decide) inX9 hw rfl hdg kk
theorem p_X9_necessary {v : Int32} {β : Type} {K : S3 → Option β} {ρ : Option β} (X : zC0 κ own cc nL d) (hZ : zDis κ.1 zM) (hw : Cond.fieldLink own idx RX9 "necessary" "I" ∈ zt) (hdg : decode cc pc = .ok (.putfield idx, 3)) (h : nm (up σ 0 8 0 v) K = ρ) (kk : ∀ σ1 : S3, K σ1 = ρ → Z κ nL (zM (ze κ.1) σ1) lv (pc + 3) st) : Z κ nL (zM (ze κ.1) σ) lv pc (.int v :: .ref (zo κ.1 0) :: st) := by
  exact z_put (q := 0) (k := 8) (T := TX9) (ty := .int) X (hZ σ) rfl rfl (by decide) inX9 tyX9 tyX9_ok nmX9 hw rfl (by decide +kernel) rfl rfl (Nat.le_of_ble_eq_true rfl) rfl hdg (kk _ h)
theorem g_X9_tape (X : zC0 κ own cc nL d) (hw : Cond.fieldLink own idx RX9 "tape" "[I" ∈ zt) (hdg : decode cc pc = .ok (.getfield idx, 3)) (kk : Z κ nL (zM (ze κ.1) σ) lv (pc + 3) (.ref (za κ.1 0 9) :: st)) : Z κ nL (zM (ze κ.1) σ) lv pc (.ref (zo κ.1 0) :: st) := by
  exact z_get (q := 0) (k := 9) (T := TX9) X rfl rfl (by decide) inX9 hw rfl hdg kk
theorem al_X9_tape {i : Int32} {β : Type} {a : Option β} {ρ : β} (X : zC0 κ own cc nL d) (hdg : decode cc pc = .ok (.iaload, 1)) (h : ck i 60 a = some ρ) (kk : a = some ρ → Z κ nL (zM (ze κ.1) σ) lv (pc + 1) (.int (σ 0 9 (ix i)) :: st)) : Z κ nL (zM (ze κ.1) σ) lv pc (.int i :: .ref (za κ.1 0 9) :: st) := by
  obtain ⟨hin, h⟩ := ck_inv h
  exact z_iald (q := 6) X rfl rfl hin hdg (kk h)
theorem as_X9_tape {i v : Int32} {β : Type} {K : S3 → Option β} {ρ : β} (X : zC0 κ own cc nL d) (hZ : zDis κ.1 zM) (hdg : decode cc pc = .ok (.iastore, 1)) (h : ck i 60 (nm (up σ 0 9 (ix i) v) K) = some ρ) (kk : ∀ σ1 : S3, K σ1 = some ρ → Z κ nL (zM (ze κ.1) σ1) lv (pc + 1) st) : Z κ nL (zM (ze κ.1) σ) lv pc (.int v :: .int i :: .ref (za κ.1 0 9) :: st) := by
  obtain ⟨hin, h⟩ := ck_inv h
  exact z_iast (q := 6) X (hZ σ) rfl rfl hin rfl hdg (kk _ h)
theorem g_X9_taped (X : zC0 κ own cc nL d) (hw : Cond.fieldLink own idx RX9 "taped" "I" ∈ zt) (hdg : decode cc pc = .ok (.getfield idx, 3)) (kk : Z κ nL (zM (ze κ.1) σ) lv (pc + 3) (.int (σ 0 10 0) :: st)) : Z κ nL (zM (ze κ.1) σ) lv pc (.ref (zo κ.1 0) :: st) := by
  exact z_get (q := 0) (k := 10) (T := TX9) X rfl rfl (by decide) inX9 hw rfl hdg kk
theorem p_X9_taped {v : Int32} {β : Type} {K : S3 → Option β} {ρ : Option β} (X : zC0 κ own cc nL d) (hZ : zDis κ.1 zM) (hw : Cond.fieldLink own idx RX9 "taped" "I" ∈ zt) (hdg : decode cc pc = .ok (.putfield idx, 3)) (h : nm (up σ 0 10 0 v) K = ρ) (kk : ∀ σ1 : S3, K σ1 = ρ → Z κ nL (zM (ze κ.1) σ1) lv (pc + 3) st) : Z κ nL (zM (ze κ.1) σ) lv pc (.int v :: .ref (zo κ.1 0) :: st) := by
  exact z_put (q := 0) (k := 10) (T := TX9) (ty := .int) X (hZ σ) rfl rfl (by decide) inX9 tyX9 tyX9_ok nmX9 hw rfl (by decide +kernel) rfl rfl (Nat.le_of_ble_eq_true rfl) rfl hdg (kk _ h)
theorem g_X9_hasGame (X : zC0 κ own cc nL d) (hw : Cond.fieldLink own idx RX9 "hasGame" "Z" ∈ zt) (hdg : decode cc pc = .ok (.getfield idx, 3)) (kk : Z κ nL (zM (ze κ.1) σ) lv (pc + 3) (.int (σ 0 11 0) :: st)) : Z κ nL (zM (ze κ.1) σ) lv pc (.ref (zo κ.1 0) :: st) := by
  exact z_get (q := 0) (k := 11) (T := TX9) X rfl rfl (by decide) inX9 hw rfl hdg kk
theorem p_X9_hasGame {v : Int32} {β : Type} {K : S3 → Option β} {ρ : Option β} (X : zC0 κ own cc nL d) (hZ : zDis κ.1 zM) (hw : Cond.fieldLink own idx RX9 "hasGame" "Z" ∈ zt) (hv : v = 0 ∨ v = 1) (hdg : decode cc pc = .ok (.putfield idx, 3)) (h : nm (up σ 0 11 0 v) K = ρ) (kk : ∀ σ1 : S3, K σ1 = ρ → Z κ nL (zM (ze κ.1) σ1) lv (pc + 3) st) : Z κ nL (zM (ze κ.1) σ) lv pc (.int v :: .ref (zo κ.1 0) :: st) := by
  exact z_put (q := 0) (k := 11) (T := TX9) (ty := .boolean) X (hZ σ) rfl rfl (by decide) inX9 tyX9 tyX9_ok nmX9 hw rfl (by decide +kernel) (by rcases hv with rfl | rfl <;> decide +kernel) (by rcases hv with rfl | rfl <;> decide +kernel) (Nat.le_of_ble_eq_true rfl) rfl hdg (kk _ h)
theorem g_X9_rule (X : zC0 κ own cc nL d) (hw : Cond.fieldLink own idx RX9 "rule" "I" ∈ zt) (hdg : decode cc pc = .ok (.getfield idx, 3)) (kk : Z κ nL (zM (ze κ.1) σ) lv (pc + 3) (.int (σ 0 12 0) :: st)) : Z κ nL (zM (ze κ.1) σ) lv pc (.ref (zo κ.1 0) :: st) := by
  exact z_get (q := 0) (k := 12) (T := TX9) X rfl rfl (by decide) inX9 hw rfl hdg kk
theorem p_X9_rule {v : Int32} {β : Type} {K : S3 → Option β} {ρ : Option β} (X : zC0 κ own cc nL d) (hZ : zDis κ.1 zM) (hw : Cond.fieldLink own idx RX9 "rule" "I" ∈ zt) (hdg : decode cc pc = .ok (.putfield idx, 3)) (h : nm (up σ 0 12 0 v) K = ρ) (kk : ∀ σ1 : S3, K σ1 = ρ → Z κ nL (zM (ze κ.1) σ1) lv (pc + 3) st) : Z κ nL (zM (ze κ.1) σ) lv pc (.int v :: .ref (zo κ.1 0) :: st) := by
  exact z_put (q := 0) (k := 12) (T := TX9) (ty := .int) X (hZ σ) rfl rfl (by decide) inX9 tyX9 tyX9_ok nmX9 hw rfl (by decide +kernel) rfl rfl (Nat.le_of_ble_eq_true rfl) rfl hdg (kk _ h)
theorem g_X9_first (X : zC0 κ own cc nL d) (hw : Cond.fieldLink own idx RX9 "first" "I" ∈ zt) (hdg : decode cc pc = .ok (.getfield idx, 3)) (kk : Z κ nL (zM (ze κ.1) σ) lv (pc + 3) (.int (σ 0 13 0) :: st)) : Z κ nL (zM (ze κ.1) σ) lv pc (.ref (zo κ.1 0) :: st) := by
  exact z_get (q := 0) (k := 13) (T := TX9) X rfl rfl (by decide) inX9 hw rfl hdg kk
theorem p_X9_first {v : Int32} {β : Type} {K : S3 → Option β} {ρ : Option β} (X : zC0 κ own cc nL d) (hZ : zDis κ.1 zM) (hw : Cond.fieldLink own idx RX9 "first" "I" ∈ zt) (hdg : decode cc pc = .ok (.putfield idx, 3)) (h : nm (up σ 0 13 0 v) K = ρ) (kk : ∀ σ1 : S3, K σ1 = ρ → Z κ nL (zM (ze κ.1) σ1) lv (pc + 3) st) : Z κ nL (zM (ze κ.1) σ) lv pc (.int v :: .ref (zo κ.1 0) :: st) := by
  exact z_put (q := 0) (k := 13) (T := TX9) (ty := .int) X (hZ σ) rfl rfl (by decide) inX9 tyX9 tyX9_ok nmX9 hw rfl (by decide +kernel) rfl rfl (Nat.le_of_ble_eq_true rfl) rfl hdg (kk _ h)
theorem g_X9_marker (X : zC0 κ own cc nL d) (hw : Cond.fieldLink own idx RX9 "marker" "I" ∈ zt) (hdg : decode cc pc = .ok (.getfield idx, 3)) (kk : Z κ nL (zM (ze κ.1) σ) lv (pc + 3) (.int (σ 0 14 0) :: st)) : Z κ nL (zM (ze κ.1) σ) lv pc (.ref (zo κ.1 0) :: st) := by
  exact z_get (q := 0) (k := 14) (T := TX9) X rfl rfl (by decide) inX9 hw rfl hdg kk
theorem p_X9_marker {v : Int32} {β : Type} {K : S3 → Option β} {ρ : Option β} (X : zC0 κ own cc nL d) (hZ : zDis κ.1 zM) (hw : Cond.fieldLink own idx RX9 "marker" "I" ∈ zt) (hdg : decode cc pc = .ok (.putfield idx, 3)) (h : nm (up σ 0 14 0 v) K = ρ) (kk : ∀ σ1 : S3, K σ1 = ρ → Z κ nL (zM (ze κ.1) σ1) lv (pc + 3) st) : Z κ nL (zM (ze κ.1) σ) lv pc (.int v :: .ref (zo κ.1 0) :: st) := by
  exact z_put (q := 0) (k := 14) (T := TX9) (ty := .int) X (hZ σ) rfl rfl (by decide) inX9 tyX9 tyX9_ok nmX9 hw rfl (by decide +kernel) rfl rfl (Nat.le_of_ble_eq_true rfl) rfl hdg (kk _ h)
theorem g_X9_met (X : zC0 κ own cc nL d) (hw : Cond.fieldLink own idx RX9 "met" "I" ∈ zt) (hdg : decode cc pc = .ok (.getfield idx, 3)) (kk : Z κ nL (zM (ze κ.1) σ) lv (pc + 3) (.int (σ 0 15 0) :: st)) : Z κ nL (zM (ze κ.1) σ) lv pc (.ref (zo κ.1 0) :: st) := by
  exact z_get (q := 0) (k := 15) (T := TX9) X rfl rfl (by decide) inX9 hw rfl hdg kk
theorem p_X9_met {v : Int32} {β : Type} {K : S3 → Option β} {ρ : Option β} (X : zC0 κ own cc nL d) (hZ : zDis κ.1 zM) (hw : Cond.fieldLink own idx RX9 "met" "I" ∈ zt) (hdg : decode cc pc = .ok (.putfield idx, 3)) (h : nm (up σ 0 15 0 v) K = ρ) (kk : ∀ σ1 : S3, K σ1 = ρ → Z κ nL (zM (ze κ.1) σ1) lv (pc + 3) st) : Z κ nL (zM (ze κ.1) σ) lv pc (.int v :: .ref (zo κ.1 0) :: st) := by
  exact z_put (q := 0) (k := 15) (T := TX9) (ty := .int) X (hZ σ) rfl rfl (by decide) inX9 tyX9 tyX9_ok nmX9 hw rfl (by decide +kernel) rfl rfl (Nat.le_of_ble_eq_true rfl) rfl hdg (kk _ h)
theorem g_X9_gone (X : zC0 κ own cc nL d) (hw : Cond.fieldLink own idx RX9 "gone" "I" ∈ zt) (hdg : decode cc pc = .ok (.getfield idx, 3)) (kk : Z κ nL (zM (ze κ.1) σ) lv (pc + 3) (.int (σ 0 16 0) :: st)) : Z κ nL (zM (ze κ.1) σ) lv pc (.ref (zo κ.1 0) :: st) := by
  exact z_get (q := 0) (k := 16) (T := TX9) X rfl rfl (by decide) inX9 hw rfl hdg kk
theorem p_X9_gone {v : Int32} {β : Type} {K : S3 → Option β} {ρ : Option β} (X : zC0 κ own cc nL d) (hZ : zDis κ.1 zM) (hw : Cond.fieldLink own idx RX9 "gone" "I" ∈ zt) (hdg : decode cc pc = .ok (.putfield idx, 3)) (h : nm (up σ 0 16 0 v) K = ρ) (kk : ∀ σ1 : S3, K σ1 = ρ → Z κ nL (zM (ze κ.1) σ1) lv (pc + 3) st) : Z κ nL (zM (ze κ.1) σ) lv pc (.int v :: .ref (zo κ.1 0) :: st) := by
  exact z_put (q := 0) (k := 16) (T := TX9) (ty := .int) X (hZ σ) rfl rfl (by decide) inX9 tyX9 tyX9_ok nmX9 hw rfl (by decide +kernel) rfl rfl (Nat.le_of_ble_eq_true rfl) rfl hdg (kk _ h)
theorem g_X9_z (X : zC0 κ own cc nL d) (hw : Cond.fieldLink own idx RX9 "z" "I" ∈ zt) (hdg : decode cc pc = .ok (.getfield idx, 3)) (kk : Z κ nL (zM (ze κ.1) σ) lv (pc + 3) (.int (σ 0 17 0) :: st)) : Z κ nL (zM (ze κ.1) σ) lv pc (.ref (zo κ.1 0) :: st) := by
  exact z_get (q := 0) (k := 17) (T := TX9) X rfl rfl (by decide) inX9 hw rfl hdg kk
theorem p_X9_z {v : Int32} {β : Type} {K : S3 → Option β} {ρ : Option β} (X : zC0 κ own cc nL d) (hZ : zDis κ.1 zM) (hw : Cond.fieldLink own idx RX9 "z" "I" ∈ zt) (hdg : decode cc pc = .ok (.putfield idx, 3)) (h : nm (up σ 0 17 0 v) K = ρ) (kk : ∀ σ1 : S3, K σ1 = ρ → Z κ nL (zM (ze κ.1) σ1) lv (pc + 3) st) : Z κ nL (zM (ze κ.1) σ) lv pc (.int v :: .ref (zo κ.1 0) :: st) := by
  exact z_put (q := 0) (k := 17) (T := TX9) (ty := .int) X (hZ σ) rfl rfl (by decide) inX9 tyX9 tyX9_ok nmX9 hw rfl (by decide +kernel) rfl rfl (Nat.le_of_ble_eq_true rfl) rfl hdg (kk _ h)
theorem g_X9_made (X : zC0 κ own cc nL d) (hw : Cond.fieldLink own idx RX9 "made" "[I" ∈ zt) (hdg : decode cc pc = .ok (.getfield idx, 3)) (kk : Z κ nL (zM (ze κ.1) σ) lv (pc + 3) (.ref (za κ.1 0 18) :: st)) : Z κ nL (zM (ze κ.1) σ) lv pc (.ref (zo κ.1 0) :: st) := by
  exact z_get (q := 0) (k := 18) (T := TX9) X rfl rfl (by decide) inX9 hw rfl hdg kk
theorem al_X9_made {i : Int32} {β : Type} {a : Option β} {ρ : β} (X : zC0 κ own cc nL d) (hdg : decode cc pc = .ok (.iaload, 1)) (h : ck i 12 a = some ρ) (kk : a = some ρ → Z κ nL (zM (ze κ.1) σ) lv (pc + 1) (.int (σ 0 18 (ix i)) :: st)) : Z κ nL (zM (ze κ.1) σ) lv pc (.int i :: .ref (za κ.1 0 18) :: st) := by
  obtain ⟨hin, h⟩ := ck_inv h
  exact z_iald (q := 7) X rfl rfl hin hdg (kk h)
theorem as_X9_made {i v : Int32} {β : Type} {K : S3 → Option β} {ρ : β} (X : zC0 κ own cc nL d) (hZ : zDis κ.1 zM) (hdg : decode cc pc = .ok (.iastore, 1)) (h : ck i 12 (nm (up σ 0 18 (ix i) v) K) = some ρ) (kk : ∀ σ1 : S3, K σ1 = some ρ → Z κ nL (zM (ze κ.1) σ1) lv (pc + 1) st) : Z κ nL (zM (ze κ.1) σ) lv pc (.int v :: .int i :: .ref (za κ.1 0 18) :: st) := by
  obtain ⟨hin, h⟩ := ck_inv h
  exact z_iast (q := 7) X (hZ σ) rfl rfl hin rfl hdg (kk _ h)
theorem g_X9_many (X : zC0 κ own cc nL d) (hw : Cond.fieldLink own idx RX9 "many" "I" ∈ zt) (hdg : decode cc pc = .ok (.getfield idx, 3)) (kk : Z κ nL (zM (ze κ.1) σ) lv (pc + 3) (.int (σ 0 19 0) :: st)) : Z κ nL (zM (ze κ.1) σ) lv pc (.ref (zo κ.1 0) :: st) := by
  exact z_get (q := 0) (k := 19) (T := TX9) X rfl rfl (by decide) inX9 hw rfl hdg kk
theorem p_X9_many {v : Int32} {β : Type} {K : S3 → Option β} {ρ : Option β} (X : zC0 κ own cc nL d) (hZ : zDis κ.1 zM) (hw : Cond.fieldLink own idx RX9 "many" "I" ∈ zt) (hdg : decode cc pc = .ok (.putfield idx, 3)) (h : nm (up σ 0 19 0 v) K = ρ) (kk : ∀ σ1 : S3, K σ1 = ρ → Z κ nL (zM (ze κ.1) σ1) lv (pc + 3) st) : Z κ nL (zM (ze κ.1) σ) lv pc (.int v :: .ref (zo κ.1 0) :: st) := by
  exact z_put (q := 0) (k := 19) (T := TX9) (ty := .int) X (hZ σ) rfl rfl (by decide) inX9 tyX9 tyX9_ok nmX9 hw rfl (by decide +kernel) rfl rfl (Nat.le_of_ble_eq_true rfl) rfl hdg (kk _ h)
theorem g_X9_worths (X : zC0 κ own cc nL d) (hw : Cond.fieldLink own idx RX9 "worths" "[I" ∈ zt) (hdg : decode cc pc = .ok (.getfield idx, 3)) (kk : Z κ nL (zM (ze κ.1) σ) lv (pc + 3) (.ref (za κ.1 0 20) :: st)) : Z κ nL (zM (ze κ.1) σ) lv pc (.ref (zo κ.1 0) :: st) := by
  exact z_get (q := 0) (k := 20) (T := TX9) X rfl rfl (by decide) inX9 hw rfl hdg kk
theorem al_X9_worths {i : Int32} {β : Type} {a : Option β} {ρ : β} (X : zC0 κ own cc nL d) (hdg : decode cc pc = .ok (.iaload, 1)) (h : ck i 40960 a = some ρ) (kk : a = some ρ → Z κ nL (zM (ze κ.1) σ) lv (pc + 1) (.int (σ 0 20 (ix i)) :: st)) : Z κ nL (zM (ze κ.1) σ) lv pc (.int i :: .ref (za κ.1 0 20) :: st) := by
  obtain ⟨hin, h⟩ := ck_inv h
  exact z_iald (q := 8) X rfl rfl hin hdg (kk h)
theorem as_X9_worths {i v : Int32} {β : Type} {K : S3 → Option β} {ρ : β} (X : zC0 κ own cc nL d) (hZ : zDis κ.1 zM) (hdg : decode cc pc = .ok (.iastore, 1)) (h : ck i 40960 (nm (up σ 0 20 (ix i) v) K) = some ρ) (kk : ∀ σ1 : S3, K σ1 = some ρ → Z κ nL (zM (ze κ.1) σ1) lv (pc + 1) st) : Z κ nL (zM (ze κ.1) σ) lv pc (.int v :: .int i :: .ref (za κ.1 0 20) :: st) := by
  obtain ⟨hin, h⟩ := ck_inv h
  exact z_iast (q := 8) X (hZ σ) rfl rfl hin rfl hdg (kk _ h)
theorem g_X9_nims (X : zC0 κ own cc nL d) (hw : Cond.fieldLink own idx RX9 "nims" "[I" ∈ zt) (hdg : decode cc pc = .ok (.getfield idx, 3)) (kk : Z κ nL (zM (ze κ.1) σ) lv (pc + 3) (.ref (za κ.1 0 21) :: st)) : Z κ nL (zM (ze κ.1) σ) lv pc (.ref (zo κ.1 0) :: st) := by
  exact z_get (q := 0) (k := 21) (T := TX9) X rfl rfl (by decide) inX9 hw rfl hdg kk
theorem al_X9_nims {i : Int32} {β : Type} {a : Option β} {ρ : β} (X : zC0 κ own cc nL d) (hdg : decode cc pc = .ok (.iaload, 1)) (h : ck i 40960 a = some ρ) (kk : a = some ρ → Z κ nL (zM (ze κ.1) σ) lv (pc + 1) (.int (σ 0 21 (ix i)) :: st)) : Z κ nL (zM (ze κ.1) σ) lv pc (.int i :: .ref (za κ.1 0 21) :: st) := by
  obtain ⟨hin, h⟩ := ck_inv h
  exact z_iald (q := 9) X rfl rfl hin hdg (kk h)
theorem as_X9_nims {i v : Int32} {β : Type} {K : S3 → Option β} {ρ : β} (X : zC0 κ own cc nL d) (hZ : zDis κ.1 zM) (hdg : decode cc pc = .ok (.iastore, 1)) (h : ck i 40960 (nm (up σ 0 21 (ix i) v) K) = some ρ) (kk : ∀ σ1 : S3, K σ1 = some ρ → Z κ nL (zM (ze κ.1) σ1) lv (pc + 1) st) : Z κ nL (zM (ze κ.1) σ) lv pc (.int v :: .int i :: .ref (za κ.1 0 21) :: st) := by
  obtain ⟨hin, h⟩ := ck_inv h
  exact z_iast (q := 9) X (hZ σ) rfl rfl hin rfl hdg (kk _ h)
theorem g_X9_tabled (X : zC0 κ own cc nL d) (hw : Cond.fieldLink own idx RX9 "tabled" "I" ∈ zt) (hdg : decode cc pc = .ok (.getfield idx, 3)) (kk : Z κ nL (zM (ze κ.1) σ) lv (pc + 3) (.int (σ 0 22 0) :: st)) : Z κ nL (zM (ze κ.1) σ) lv pc (.ref (zo κ.1 0) :: st) := by
  exact z_get (q := 0) (k := 22) (T := TX9) X rfl rfl (by decide) inX9 hw rfl hdg kk
theorem p_X9_tabled {v : Int32} {β : Type} {K : S3 → Option β} {ρ : Option β} (X : zC0 κ own cc nL d) (hZ : zDis κ.1 zM) (hw : Cond.fieldLink own idx RX9 "tabled" "I" ∈ zt) (hdg : decode cc pc = .ok (.putfield idx, 3)) (h : nm (up σ 0 22 0 v) K = ρ) (kk : ∀ σ1 : S3, K σ1 = ρ → Z κ nL (zM (ze κ.1) σ1) lv (pc + 3) st) : Z κ nL (zM (ze κ.1) σ) lv pc (.int v :: .ref (zo κ.1 0) :: st) := by
  exact z_put (q := 0) (k := 22) (T := TX9) (ty := .int) X (hZ σ) rfl rfl (by decide) inX9 tyX9 tyX9_ok nmX9 hw rfl (by decide +kernel) rfl rfl (Nat.le_of_ble_eq_true rfl) rfl hdg (kk _ h)
theorem g_X9_been (X : zC0 κ own cc nL d) (hw : Cond.fieldLink own idx RX9 "been" "[Z" ∈ zt) (hdg : decode cc pc = .ok (.getfield idx, 3)) (kk : Z κ nL (zM (ze κ.1) σ) lv (pc + 3) (.ref (za κ.1 0 23) :: st)) : Z κ nL (zM (ze κ.1) σ) lv pc (.ref (zo κ.1 0) :: st) := by
  exact z_get (q := 0) (k := 23) (T := TX9) X rfl rfl (by decide) inX9 hw rfl hdg kk
theorem al_X9_been {i : Int32} {β : Type} {a : Option β} {ρ : β} (X : zC0 κ own cc nL d) (hdg : decode cc pc = .ok (.baload, 1)) (h : ck i 40960 a = some ρ) (kk : a = some ρ → Z κ nL (zM (ze κ.1) σ) lv (pc + 1) (.int (σ 0 23 (ix i)) :: st)) : Z κ nL (zM (ze κ.1) σ) lv pc (.int i :: .ref (za κ.1 0 23) :: st) := by
  obtain ⟨hin, h⟩ := ck_inv h
  exact z_bald (q := 10) X rfl rfl hin hdg (kk h)
theorem as_X9_been {i v : Int32} {β : Type} {K : S3 → Option β} {ρ : β} (X : zC0 κ own cc nL d) (hZ : zDis κ.1 zM) (hv : v = 0 ∨ v = 1) (hdg : decode cc pc = .ok (.bastore, 1)) (h : ck i 40960 (nm (up σ 0 23 (ix i) v) K) = some ρ) (kk : ∀ σ1 : S3, K σ1 = some ρ → Z κ nL (zM (ze κ.1) σ1) lv (pc + 1) st) : Z κ nL (zM (ze κ.1) σ) lv pc (.int v :: .int i :: .ref (za κ.1 0 23) :: st) := by
  obtain ⟨hin, h⟩ := ck_inv h
  exact z_bast (q := 10) X (hZ σ) rfl rfl hin (by rcases hv with rfl | rfl <;> decide +kernel) rfl hdg (kk _ h)
theorem g_X9_nodes (X : zC0 κ own cc nL d) (hw : Cond.fieldLink own idx RX9 "nodes" "I" ∈ zt) (hdg : decode cc pc = .ok (.getfield idx, 3)) (kk : Z κ nL (zM (ze κ.1) σ) lv (pc + 3) (.int (σ 0 24 0) :: st)) : Z κ nL (zM (ze κ.1) σ) lv pc (.ref (zo κ.1 0) :: st) := by
  exact z_get (q := 0) (k := 24) (T := TX9) X rfl rfl (by decide) inX9 hw rfl hdg kk
theorem p_X9_nodes {v : Int32} {β : Type} {K : S3 → Option β} {ρ : Option β} (X : zC0 κ own cc nL d) (hZ : zDis κ.1 zM) (hw : Cond.fieldLink own idx RX9 "nodes" "I" ∈ zt) (hdg : decode cc pc = .ok (.putfield idx, 3)) (h : nm (up σ 0 24 0 v) K = ρ) (kk : ∀ σ1 : S3, K σ1 = ρ → Z κ nL (zM (ze κ.1) σ1) lv (pc + 3) st) : Z κ nL (zM (ze κ.1) σ) lv pc (.int v :: .ref (zo κ.1 0) :: st) := by
  exact z_put (q := 0) (k := 24) (T := TX9) (ty := .int) X (hZ σ) rfl rfl (by decide) inX9 tyX9 tyX9_ok nmX9 hw rfl (by decide +kernel) rfl rfl (Nat.le_of_ble_eq_true rfl) rfl hdg (kk _ h)
theorem g_X9_leaves (X : zC0 κ own cc nL d) (hw : Cond.fieldLink own idx RX9 "leaves" "I" ∈ zt) (hdg : decode cc pc = .ok (.getfield idx, 3)) (kk : Z κ nL (zM (ze κ.1) σ) lv (pc + 3) (.int (σ 0 25 0) :: st)) : Z κ nL (zM (ze κ.1) σ) lv pc (.ref (zo κ.1 0) :: st) := by
  exact z_get (q := 0) (k := 25) (T := TX9) X rfl rfl (by decide) inX9 hw rfl hdg kk
theorem p_X9_leaves {v : Int32} {β : Type} {K : S3 → Option β} {ρ : Option β} (X : zC0 κ own cc nL d) (hZ : zDis κ.1 zM) (hw : Cond.fieldLink own idx RX9 "leaves" "I" ∈ zt) (hdg : decode cc pc = .ok (.putfield idx, 3)) (h : nm (up σ 0 25 0 v) K = ρ) (kk : ∀ σ1 : S3, K σ1 = ρ → Z κ nL (zM (ze κ.1) σ1) lv (pc + 3) st) : Z κ nL (zM (ze κ.1) σ) lv pc (.int v :: .ref (zo κ.1 0) :: st) := by
  exact z_put (q := 0) (k := 25) (T := TX9) (ty := .int) X (hZ σ) rfl rfl (by decide) inX9 tyX9 tyX9_ok nmX9 hw rfl (by decide +kernel) rfl rfl (Nat.le_of_ble_eq_true rfl) rfl hdg (kk _ h)
theorem g_X9_depth (X : zC0 κ own cc nL d) (hw : Cond.fieldLink own idx RX9 "depth" "I" ∈ zt) (hdg : decode cc pc = .ok (.getfield idx, 3)) (kk : Z κ nL (zM (ze κ.1) σ) lv (pc + 3) (.int (σ 0 26 0) :: st)) : Z κ nL (zM (ze κ.1) σ) lv pc (.ref (zo κ.1 0) :: st) := by
  exact z_get (q := 0) (k := 26) (T := TX9) X rfl rfl (by decide) inX9 hw rfl hdg kk
theorem p_X9_depth {v : Int32} {β : Type} {K : S3 → Option β} {ρ : Option β} (X : zC0 κ own cc nL d) (hZ : zDis κ.1 zM) (hw : Cond.fieldLink own idx RX9 "depth" "I" ∈ zt) (hdg : decode cc pc = .ok (.putfield idx, 3)) (h : nm (up σ 0 26 0 v) K = ρ) (kk : ∀ σ1 : S3, K σ1 = ρ → Z κ nL (zM (ze κ.1) σ1) lv (pc + 3) st) : Z κ nL (zM (ze κ.1) σ) lv pc (.int v :: .ref (zo κ.1 0) :: st) := by
  exact z_put (q := 0) (k := 26) (T := TX9) (ty := .int) X (hZ σ) rfl rfl (by decide) inX9 tyX9 tyX9_ok nmX9 hw rfl (by decide +kernel) rfl rfl (Nat.le_of_ble_eq_true rfl) rfl hdg (kk _ h)
theorem g_X9_lineTo (X : zC0 κ own cc nL d) (hw : Cond.fieldLink own idx RX9 "lineTo" "[I" ∈ zt) (hdg : decode cc pc = .ok (.getfield idx, 3)) (kk : Z κ nL (zM (ze κ.1) σ) lv (pc + 3) (.ref (za κ.1 0 27) :: st)) : Z κ nL (zM (ze κ.1) σ) lv pc (.ref (zo κ.1 0) :: st) := by
  exact z_get (q := 0) (k := 27) (T := TX9) X rfl rfl (by decide) inX9 hw rfl hdg kk
theorem al_X9_lineTo {i : Int32} {β : Type} {a : Option β} {ρ : β} (X : zC0 κ own cc nL d) (hdg : decode cc pc = .ok (.iaload, 1)) (h : ck i 301 a = some ρ) (kk : a = some ρ → Z κ nL (zM (ze κ.1) σ) lv (pc + 1) (.int (σ 0 27 (ix i)) :: st)) : Z κ nL (zM (ze κ.1) σ) lv pc (.int i :: .ref (za κ.1 0 27) :: st) := by
  obtain ⟨hin, h⟩ := ck_inv h
  exact z_iald (q := 11) X rfl rfl hin hdg (kk h)
theorem as_X9_lineTo {i v : Int32} {β : Type} {K : S3 → Option β} {ρ : β} (X : zC0 κ own cc nL d) (hZ : zDis κ.1 zM) (hdg : decode cc pc = .ok (.iastore, 1)) (h : ck i 301 (nm (up σ 0 27 (ix i) v) K) = some ρ) (kk : ∀ σ1 : S3, K σ1 = some ρ → Z κ nL (zM (ze κ.1) σ1) lv (pc + 1) st) : Z κ nL (zM (ze κ.1) σ) lv pc (.int v :: .int i :: .ref (za κ.1 0 27) :: st) := by
  obtain ⟨hin, h⟩ := ck_inv h
  exact z_iast (q := 11) X (hZ σ) rfl rfl hin rfl hdg (kk _ h)
theorem g_X9_widths (X : zC0 κ own cc nL d) (hw : Cond.fieldLink own idx RX9 "widths" "[I" ∈ zt) (hdg : decode cc pc = .ok (.getfield idx, 3)) (kk : Z κ nL (zM (ze κ.1) σ) lv (pc + 3) (.ref (za κ.1 0 28) :: st)) : Z κ nL (zM (ze κ.1) σ) lv pc (.ref (zo κ.1 0) :: st) := by
  exact z_get (q := 0) (k := 28) (T := TX9) X rfl rfl (by decide) inX9 hw rfl hdg kk
theorem al_X9_widths {i : Int32} {β : Type} {a : Option β} {ρ : β} (X : zC0 κ own cc nL d) (hdg : decode cc pc = .ok (.iaload, 1)) (h : ck i 4 a = some ρ) (kk : a = some ρ → Z κ nL (zM (ze κ.1) σ) lv (pc + 1) (.int (σ 0 28 (ix i)) :: st)) : Z κ nL (zM (ze κ.1) σ) lv pc (.int i :: .ref (za κ.1 0 28) :: st) := by
  obtain ⟨hin, h⟩ := ck_inv h
  exact z_iald (q := 12) X rfl rfl hin hdg (kk h)
theorem as_X9_widths {i v : Int32} {β : Type} {K : S3 → Option β} {ρ : β} (X : zC0 κ own cc nL d) (hZ : zDis κ.1 zM) (hdg : decode cc pc = .ok (.iastore, 1)) (h : ck i 4 (nm (up σ 0 28 (ix i) v) K) = some ρ) (kk : ∀ σ1 : S3, K σ1 = some ρ → Z κ nL (zM (ze κ.1) σ1) lv (pc + 1) st) : Z κ nL (zM (ze κ.1) σ) lv pc (.int v :: .int i :: .ref (za κ.1 0 28) :: st) := by
  obtain ⟨hin, h⟩ := ck_inv h
  exact z_iast (q := 12) X (hZ σ) rfl rfl hin rfl hdg (kk _ h)
theorem g_X9_sizes (X : zC0 κ own cc nL d) (hw : Cond.fieldLink own idx RX9 "sizes" "[I" ∈ zt) (hdg : decode cc pc = .ok (.getfield idx, 3)) (kk : Z κ nL (zM (ze κ.1) σ) lv (pc + 3) (.ref (za κ.1 0 29) :: st)) : Z κ nL (zM (ze κ.1) σ) lv pc (.ref (zo κ.1 0) :: st) := by
  exact z_get (q := 0) (k := 29) (T := TX9) X rfl rfl (by decide) inX9 hw rfl hdg kk
theorem al_X9_sizes {i : Int32} {β : Type} {a : Option β} {ρ : β} (X : zC0 κ own cc nL d) (hdg : decode cc pc = .ok (.iaload, 1)) (h : ck i 4 a = some ρ) (kk : a = some ρ → Z κ nL (zM (ze κ.1) σ) lv (pc + 1) (.int (σ 0 29 (ix i)) :: st)) : Z κ nL (zM (ze κ.1) σ) lv pc (.int i :: .ref (za κ.1 0 29) :: st) := by
  obtain ⟨hin, h⟩ := ck_inv h
  exact z_iald (q := 13) X rfl rfl hin hdg (kk h)
theorem as_X9_sizes {i v : Int32} {β : Type} {K : S3 → Option β} {ρ : β} (X : zC0 κ own cc nL d) (hZ : zDis κ.1 zM) (hdg : decode cc pc = .ok (.iastore, 1)) (h : ck i 4 (nm (up σ 0 29 (ix i) v) K) = some ρ) (kk : ∀ σ1 : S3, K σ1 = some ρ → Z κ nL (zM (ze κ.1) σ1) lv (pc + 1) st) : Z κ nL (zM (ze κ.1) σ) lv pc (.int v :: .int i :: .ref (za κ.1 0 29) :: st) := by
  obtain ⟨hin, h⟩ := ck_inv h
  exact z_iast (q := 13) X (hZ σ) rfl rfl hin rfl hdg (kk _ h)
theorem g_X9_cells (X : zC0 κ own cc nL d) (hw : Cond.fieldLink own idx RX9 "cells" "[I" ∈ zt) (hdg : decode cc pc = .ok (.getfield idx, 3)) (kk : Z κ nL (zM (ze κ.1) σ) lv (pc + 3) (.ref (za κ.1 0 30) :: st)) : Z κ nL (zM (ze κ.1) σ) lv pc (.ref (zo κ.1 0) :: st) := by
  exact z_get (q := 0) (k := 30) (T := TX9) X rfl rfl (by decide) inX9 hw rfl hdg kk
theorem al_X9_cells {i : Int32} {β : Type} {a : Option β} {ρ : β} (X : zC0 κ own cc nL d) (hdg : decode cc pc = .ok (.iaload, 1)) (h : ck i 96 a = some ρ) (kk : a = some ρ → Z κ nL (zM (ze κ.1) σ) lv (pc + 1) (.int (σ 0 30 (ix i)) :: st)) : Z κ nL (zM (ze κ.1) σ) lv pc (.int i :: .ref (za κ.1 0 30) :: st) := by
  obtain ⟨hin, h⟩ := ck_inv h
  exact z_iald (q := 14) X rfl rfl hin hdg (kk h)
theorem as_X9_cells {i v : Int32} {β : Type} {K : S3 → Option β} {ρ : β} (X : zC0 κ own cc nL d) (hZ : zDis κ.1 zM) (hdg : decode cc pc = .ok (.iastore, 1)) (h : ck i 96 (nm (up σ 0 30 (ix i) v) K) = some ρ) (kk : ∀ σ1 : S3, K σ1 = some ρ → Z κ nL (zM (ze κ.1) σ1) lv (pc + 1) st) : Z κ nL (zM (ze κ.1) σ) lv pc (.int v :: .int i :: .ref (za κ.1 0 30) :: st) := by
  obtain ⟨hin, h⟩ := ck_inv h
  exact z_iast (q := 14) X (hZ σ) rfl rfl hin rfl hdg (kk _ h)
theorem g_X9_kept (X : zC0 κ own cc nL d) (hw : Cond.fieldLink own idx RX9 "kept" "[I" ∈ zt) (hdg : decode cc pc = .ok (.getfield idx, 3)) (kk : Z κ nL (zM (ze κ.1) σ) lv (pc + 3) (.ref (za κ.1 0 31) :: st)) : Z κ nL (zM (ze κ.1) σ) lv pc (.ref (zo κ.1 0) :: st) := by
  exact z_get (q := 0) (k := 31) (T := TX9) X rfl rfl (by decide) inX9 hw rfl hdg kk
theorem al_X9_kept {i : Int32} {β : Type} {a : Option β} {ρ : β} (X : zC0 κ own cc nL d) (hdg : decode cc pc = .ok (.iaload, 1)) (h : ck i 39 a = some ρ) (kk : a = some ρ → Z κ nL (zM (ze κ.1) σ) lv (pc + 1) (.int (σ 0 31 (ix i)) :: st)) : Z κ nL (zM (ze κ.1) σ) lv pc (.int i :: .ref (za κ.1 0 31) :: st) := by
  obtain ⟨hin, h⟩ := ck_inv h
  exact z_iald (q := 15) X rfl rfl hin hdg (kk h)
theorem as_X9_kept {i v : Int32} {β : Type} {K : S3 → Option β} {ρ : β} (X : zC0 κ own cc nL d) (hZ : zDis κ.1 zM) (hdg : decode cc pc = .ok (.iastore, 1)) (h : ck i 39 (nm (up σ 0 31 (ix i) v) K) = some ρ) (kk : ∀ σ1 : S3, K σ1 = some ρ → Z κ nL (zM (ze κ.1) σ1) lv (pc + 1) st) : Z κ nL (zM (ze κ.1) σ) lv pc (.int v :: .int i :: .ref (za κ.1 0 31) :: st) := by
  obtain ⟨hin, h⟩ := ck_inv h
  exact z_iast (q := 15) X (hZ σ) rfl rfl hin rfl hdg (kk _ h)
theorem g_X9_hasImage (X : zC0 κ own cc nL d) (hw : Cond.fieldLink own idx RX9 "hasImage" "Z" ∈ zt) (hdg : decode cc pc = .ok (.getfield idx, 3)) (kk : Z κ nL (zM (ze κ.1) σ) lv (pc + 3) (.int (σ 0 32 0) :: st)) : Z κ nL (zM (ze κ.1) σ) lv pc (.ref (zo κ.1 0) :: st) := by
  exact z_get (q := 0) (k := 32) (T := TX9) X rfl rfl (by decide) inX9 hw rfl hdg kk
theorem p_X9_hasImage {v : Int32} {β : Type} {K : S3 → Option β} {ρ : Option β} (X : zC0 κ own cc nL d) (hZ : zDis κ.1 zM) (hw : Cond.fieldLink own idx RX9 "hasImage" "Z" ∈ zt) (hv : v = 0 ∨ v = 1) (hdg : decode cc pc = .ok (.putfield idx, 3)) (h : nm (up σ 0 32 0 v) K = ρ) (kk : ∀ σ1 : S3, K σ1 = ρ → Z κ nL (zM (ze κ.1) σ1) lv (pc + 3) st) : Z κ nL (zM (ze κ.1) σ) lv pc (.int v :: .ref (zo κ.1 0) :: st) := by
  exact z_put (q := 0) (k := 32) (T := TX9) (ty := .boolean) X (hZ σ) rfl rfl (by decide) inX9 tyX9 tyX9_ok nmX9 hw rfl (by decide +kernel) (by rcases hv with rfl | rfl <;> decide +kernel) (by rcases hv with rfl | rfl <;> decide +kernel) (Nat.le_of_ble_eq_true rfl) rfl hdg (kk _ h)
theorem cp_X2_from {c c2 : Nat} (hc : zNet c) (hc2 : zNet c2) {sp dp n : Int32} {β : Type} {K : S3 → Option β} {ρ : β} (X : zC0 κ own cc nL d) (hd0 : 1 ≤ d) (hZ : zDis κ.1 zX) (hw : Cond.methodLink own idx arraycopyName ∈ zt) (hcat : (st.map fun v => v.category).sum ≤ 8) (hdg : decode cc pc = .ok (.invokestatic idx, 3)) (h : ckc sp dp n 12 12 (nm (cpyA σ c2 2 c 2 sp dp n) K) = some ρ) (kk : ∀ σ1 : S3, K σ1 = some ρ → Z κ nL (zX (ze κ.1) σ1) lv (pc + 3) st) : Z κ nL (zX (ze κ.1) σ) lv pc (.int n :: .int dp :: .ref (za κ.1 c 2) :: .int sp :: .ref (za κ.1 c2 2) :: st) := by
  obtain ⟨hq, h⟩ := ckc_inv h
  rcases hc with rfl | rfl <;> rcases hc2 with rfl | rfl
  · exact z_acopy (q0 := 4) (q1 := 4) X hd0 (hZ σ) rfl rfl rfl hq hw tw364 tw363 tw79 hcat rfl hdg (kk _ h)
  · exact z_acopy (q0 := 13) (q1 := 4) X hd0 (hZ σ) rfl rfl rfl hq hw tw364 tw363 tw79 hcat rfl hdg (kk _ h)
  · exact z_acopy (q0 := 4) (q1 := 13) X hd0 (hZ σ) rfl rfl rfl hq hw tw364 tw363 tw79 hcat rfl hdg (kk _ h)
  · exact z_acopy (q0 := 13) (q1 := 13) X hd0 (hZ σ) rfl rfl rfl hq hw tw364 tw363 tw79 hcat rfl hdg (kk _ h)
theorem cp_X2_to {c c2 : Nat} (hc : zNet c) (hc2 : zNet c2) {sp dp n : Int32} {β : Type} {K : S3 → Option β} {ρ : β} (X : zC0 κ own cc nL d) (hd0 : 1 ≤ d) (hZ : zDis κ.1 zX) (hw : Cond.methodLink own idx arraycopyName ∈ zt) (hcat : (st.map fun v => v.category).sum ≤ 8) (hdg : decode cc pc = .ok (.invokestatic idx, 3)) (h : ckc sp dp n 12 12 (nm (cpyA σ c2 3 c 3 sp dp n) K) = some ρ) (kk : ∀ σ1 : S3, K σ1 = some ρ → Z κ nL (zX (ze κ.1) σ1) lv (pc + 3) st) : Z κ nL (zX (ze κ.1) σ) lv pc (.int n :: .int dp :: .ref (za κ.1 c 3) :: .int sp :: .ref (za κ.1 c2 3) :: st) := by
  obtain ⟨hq, h⟩ := ckc_inv h
  rcases hc with rfl | rfl <;> rcases hc2 with rfl | rfl
  · exact z_acopy (q0 := 5) (q1 := 5) X hd0 (hZ σ) rfl rfl rfl hq hw tw364 tw363 tw79 hcat rfl hdg (kk _ h)
  · exact z_acopy (q0 := 14) (q1 := 5) X hd0 (hZ σ) rfl rfl rfl hq hw tw364 tw363 tw79 hcat rfl hdg (kk _ h)
  · exact z_acopy (q0 := 5) (q1 := 14) X hd0 (hZ σ) rfl rfl rfl hq hw tw364 tw363 tw79 hcat rfl hdg (kk _ h)
  · exact z_acopy (q0 := 14) (q1 := 14) X hd0 (hZ σ) rfl rfl rfl hq hw tw364 tw363 tw79 hcat rfl hdg (kk _ h)
theorem cp_X2_ways {c c2 : Nat} (hc : zNet c) (hc2 : zNet c2) {sp dp n : Int32} {β : Type} {K : S3 → Option β} {ρ : β} (X : zC0 κ own cc nL d) (hd0 : 1 ≤ d) (hZ : zDis κ.1 zX) (hw : Cond.methodLink own idx arraycopyName ∈ zt) (hcat : (st.map fun v => v.category).sum ≤ 8) (hdg : decode cc pc = .ok (.invokestatic idx, 3)) (h : ckc sp dp n 12 12 (nm (cpyA σ c2 4 c 4 sp dp n) K) = some ρ) (kk : ∀ σ1 : S3, K σ1 = some ρ → Z κ nL (zX (ze κ.1) σ1) lv (pc + 3) st) : Z κ nL (zX (ze κ.1) σ) lv pc (.int n :: .int dp :: .ref (za κ.1 c 4) :: .int sp :: .ref (za κ.1 c2 4) :: st) := by
  obtain ⟨hq, h⟩ := ckc_inv h
  rcases hc with rfl | rfl <;> rcases hc2 with rfl | rfl
  · exact z_acopy (q0 := 6) (q1 := 6) X hd0 (hZ σ) rfl rfl rfl hq hw tw364 tw363 tw79 hcat rfl hdg (kk _ h)
  · exact z_acopy (q0 := 15) (q1 := 6) X hd0 (hZ σ) rfl rfl rfl hq hw tw364 tw363 tw79 hcat rfl hdg (kk _ h)
  · exact z_acopy (q0 := 6) (q1 := 15) X hd0 (hZ σ) rfl rfl rfl hq hw tw364 tw363 tw79 hcat rfl hdg (kk _ h)
  · exact z_acopy (q0 := 15) (q1 := 15) X hd0 (hZ σ) rfl rfl rfl hq hw tw364 tw363 tw79 hcat rfl hdg (kk _ h)
theorem cp_X4_row {c c2 : Nat} (hc : zSh c) (hc2 : zSh c2) {sp dp n : Int32} {β : Type} {K : S3 → Option β} {ρ : β} (X : zC0 κ own cc nL d) (hd0 : 1 ≤ d) (hZ : zDis κ.1 zX) (hw : Cond.methodLink own idx arraycopyName ∈ zt) (hcat : (st.map fun v => v.category).sum ≤ 8) (hdg : decode cc pc = .ok (.invokestatic idx, 3)) (h : ckc sp dp n 24 24 (nm (cpyA σ c2 2 c 2 sp dp n) K) = some ρ) (kk : ∀ σ1 : S3, K σ1 = some ρ → Z κ nL (zX (ze κ.1) σ1) lv (pc + 3) st) : Z κ nL (zX (ze κ.1) σ) lv pc (.int n :: .int dp :: .ref (za κ.1 c 2) :: .int sp :: .ref (za κ.1 c2 2) :: st) := by
  obtain ⟨hq, h⟩ := ckc_inv h
  rcases hc with rfl | rfl | rfl | rfl <;> rcases hc2 with rfl | rfl | rfl | rfl
  · exact z_acopy (q0 := 32) (q1 := 32) X hd0 (hZ σ) rfl rfl rfl hq hw tw364 tw363 tw79 hcat rfl hdg (kk _ h)
  · exact z_acopy (q0 := 34) (q1 := 32) X hd0 (hZ σ) rfl rfl rfl hq hw tw364 tw363 tw79 hcat rfl hdg (kk _ h)
  · exact z_acopy (q0 := 36) (q1 := 32) X hd0 (hZ σ) rfl rfl rfl hq hw tw364 tw363 tw79 hcat rfl hdg (kk _ h)
  · exact z_acopy (q0 := 38) (q1 := 32) X hd0 (hZ σ) rfl rfl rfl hq hw tw364 tw363 tw79 hcat rfl hdg (kk _ h)
  · exact z_acopy (q0 := 32) (q1 := 34) X hd0 (hZ σ) rfl rfl rfl hq hw tw364 tw363 tw79 hcat rfl hdg (kk _ h)
  · exact z_acopy (q0 := 34) (q1 := 34) X hd0 (hZ σ) rfl rfl rfl hq hw tw364 tw363 tw79 hcat rfl hdg (kk _ h)
  · exact z_acopy (q0 := 36) (q1 := 34) X hd0 (hZ σ) rfl rfl rfl hq hw tw364 tw363 tw79 hcat rfl hdg (kk _ h)
  · exact z_acopy (q0 := 38) (q1 := 34) X hd0 (hZ σ) rfl rfl rfl hq hw tw364 tw363 tw79 hcat rfl hdg (kk _ h)
  · exact z_acopy (q0 := 32) (q1 := 36) X hd0 (hZ σ) rfl rfl rfl hq hw tw364 tw363 tw79 hcat rfl hdg (kk _ h)
  · exact z_acopy (q0 := 34) (q1 := 36) X hd0 (hZ σ) rfl rfl rfl hq hw tw364 tw363 tw79 hcat rfl hdg (kk _ h)
  · exact z_acopy (q0 := 36) (q1 := 36) X hd0 (hZ σ) rfl rfl rfl hq hw tw364 tw363 tw79 hcat rfl hdg (kk _ h)
  · exact z_acopy (q0 := 38) (q1 := 36) X hd0 (hZ σ) rfl rfl rfl hq hw tw364 tw363 tw79 hcat rfl hdg (kk _ h)
  · exact z_acopy (q0 := 32) (q1 := 38) X hd0 (hZ σ) rfl rfl rfl hq hw tw364 tw363 tw79 hcat rfl hdg (kk _ h)
  · exact z_acopy (q0 := 34) (q1 := 38) X hd0 (hZ σ) rfl rfl rfl hq hw tw364 tw363 tw79 hcat rfl hdg (kk _ h)
  · exact z_acopy (q0 := 36) (q1 := 38) X hd0 (hZ σ) rfl rfl rfl hq hw tw364 tw363 tw79 hcat rfl hdg (kk _ h)
  · exact z_acopy (q0 := 38) (q1 := 38) X hd0 (hZ σ) rfl rfl rfl hq hw tw364 tw363 tw79 hcat rfl hdg (kk _ h)
end ZW
section ZL
variable {κ : zT} {cc : ByteArray} {nL d : Nat} {lv : List (Nat × Value)} {pc : Nat} {st : List Value} {σ : S3}
theorem tw97 : Cond.fieldLink RX2 9 "MarkerWalks$Network" "size" "I" ∈ zt := zt_at 97 (by decide +kernel)
theorem tw98 : Cond.fieldLink RX8 73 "MarkerWalks$Network" "size" "I" ∈ zt := zt_at 98 (by decide +kernel)
theorem tw99 : Cond.fieldLink RX1 114 "MarkerWalks$Network" "size" "I" ∈ zt := zt_at 99 (by decide +kernel)
theorem tw100 : Cond.fieldLink RX2 40 "MarkerWalks$Network" "lines" "I" ∈ zt := zt_at 100 (by decide +kernel)
theorem tw101 : Cond.fieldLink RX8 92 "MarkerWalks$Network" "lines" "I" ∈ zt := zt_at 101 (by decide +kernel)
theorem tw102 : Cond.fieldLink RX1 57 "MarkerWalks$Network" "lines" "I" ∈ zt := zt_at 102 (by decide +kernel)
theorem tw103 : Cond.fieldLink RX7 65 "MarkerWalks$Network" "lines" "I" ∈ zt := zt_at 103 (by decide +kernel)
theorem tw104 : Cond.fieldLink RX3 87 "MarkerWalks$Network" "lines" "I" ∈ zt := zt_at 104 (by decide +kernel)
theorem tw105 : Cond.fieldLink RX2 15 "MarkerWalks$Network" "from" "[I" ∈ zt := zt_at 105 (by decide +kernel)
theorem tw106 : Cond.fieldLink RX8 112 "MarkerWalks$Network" "from" "[I" ∈ zt := zt_at 106 (by decide +kernel)
theorem tw107 : Cond.fieldLink RX2 19 "MarkerWalks$Network" "to" "[I" ∈ zt := zt_at 107 (by decide +kernel)
theorem tw108 : Cond.fieldLink RX8 115 "MarkerWalks$Network" "to" "[I" ∈ zt := zt_at 108 (by decide +kernel)
theorem tw109 : Cond.fieldLink RX2 22 "MarkerWalks$Network" "ways" "[I" ∈ zt := zt_at 109 (by decide +kernel)
theorem tw110 : Cond.fieldLink RX8 102 "MarkerWalks$Network" "ways" "[I" ∈ zt := zt_at 110 (by decide +kernel)
theorem tw111 : Cond.fieldLink RX2 25 "MarkerWalks$Network" "touching" "[I" ∈ zt := zt_at 111 (by decide +kernel)
theorem tw112 : Cond.fieldLink RX1 44 "MarkerWalks$Network" "touching" "[I" ∈ zt := zt_at 112 (by decide +kernel)
theorem tw113 : Cond.fieldLink RX3 79 "MarkerWalks$Network" "touching" "[I" ∈ zt := zt_at 113 (by decide +kernel)
theorem tw114 : Cond.fieldLink RX2 28 "MarkerWalks$Network" "leaving" "[I" ∈ zt := zt_at 114 (by decide +kernel)
theorem tw115 : Cond.fieldLink RX1 39 "MarkerWalks$Network" "leaving" "[I" ∈ zt := zt_at 115 (by decide +kernel)
theorem tw116 : Cond.fieldLink RX2 31 "MarkerWalks$Network" "coming" "[I" ∈ zt := zt_at 116 (by decide +kernel)
theorem tw117 : Cond.fieldLink RX2 34 "MarkerWalks$Network" "beside" "[I" ∈ zt := zt_at 117 (by decide +kernel)
theorem tw118 : Cond.fieldLink RX2 37 "MarkerWalks$Network" "ahead" "[I" ∈ zt := zt_at 118 (by decide +kernel)
theorem tw147 : Cond.fieldLink RX1 17 "MarkerWalks$Judge" "net" "LMarkerWalks$Network;" ∈ zt := zt_at 147 (by decide +kernel)
theorem tw148 : Cond.fieldLink RX1 11 "MarkerWalks$Judge" "found" "[I" ∈ zt := zt_at 148 (by decide +kernel)
theorem tw149 : Cond.fieldLink RX1 25 "MarkerWalks$Judge" "turn" "I" ∈ zt := zt_at 149 (by decide +kernel)
theorem tw150 : Cond.fieldLink RX1 21 "MarkerWalks$Judge" "rule" "I" ∈ zt := zt_at 150 (by decide +kernel)
theorem tw166 : Cond.fieldLink RX3 15 "MarkerWalks$Planner" "net" "LMarkerWalks$Network;" ∈ zt := zt_at 166 (by decide +kernel)
theorem tw167 : Cond.fieldLink RX3 19 "MarkerWalks$Planner" "judge" "LMarkerWalks$Judge;" ∈ zt := zt_at 167 (by decide +kernel)
theorem tw168 : Cond.fieldLink RX3 9 "MarkerWalks$Planner" "z" "I" ∈ zt := zt_at 168 (by decide +kernel)
theorem tw169 : Cond.fieldLink RX8 230 "MarkerWalks$Planner" "z" "I" ∈ zt := zt_at 169 (by decide +kernel)
theorem tw183 : Cond.fieldLink RX7 15 "MarkerWalks$Tree" "net" "LMarkerWalks$Network;" ∈ zt := zt_at 183 (by decide +kernel)
theorem tw184 : Cond.fieldLink RX7 19 "MarkerWalks$Tree" "judge" "LMarkerWalks$Judge;" ∈ zt := zt_at 184 (by decide +kernel)
theorem tw185 : Cond.fieldLink RX7 9 "MarkerWalks$Tree" "ways" "[I" ∈ zt := zt_at 185 (by decide +kernel)
theorem tw186 : Cond.fieldLink RX8 245 "MarkerWalks$Tree" "ways" "[I" ∈ zt := zt_at 186 (by decide +kernel)
theorem tw187 : Cond.fieldLink RX7 23 "MarkerWalks$Tree" "nodes" "I" ∈ zt := zt_at 187 (by decide +kernel)
theorem tw188 : Cond.fieldLink RX8 236 "MarkerWalks$Tree" "nodes" "I" ∈ zt := zt_at 188 (by decide +kernel)
theorem tw189 : Cond.fieldLink RX7 27 "MarkerWalks$Tree" "leaves" "I" ∈ zt := zt_at 189 (by decide +kernel)
theorem tw190 : Cond.fieldLink RX8 239 "MarkerWalks$Tree" "leaves" "I" ∈ zt := zt_at 190 (by decide +kernel)
theorem tw191 : Cond.fieldLink RX7 30 "MarkerWalks$Tree" "deepest" "I" ∈ zt := zt_at 191 (by decide +kernel)
theorem tw192 : Cond.fieldLink RX8 242 "MarkerWalks$Tree" "deepest" "I" ∈ zt := zt_at 192 (by decide +kernel)
theorem tw193 : Cond.fieldLink RX7 33 "MarkerWalks$Tree" "overfull" "Z" ∈ zt := zt_at 193 (by decide +kernel)
theorem tw215 : Cond.fieldLink RX0 18 "MarkerWalks$Game" "on" "Z" ∈ zt := zt_at 215 (by decide +kernel)
theorem tw216 : Cond.fieldLink RX8 81 "MarkerWalks$Game" "on" "Z" ∈ zt := zt_at 216 (by decide +kernel)
theorem tw217 : Cond.fieldLink RX0 22 "MarkerWalks$Game" "rule" "I" ∈ zt := zt_at 217 (by decide +kernel)
theorem tw218 : Cond.fieldLink RX8 190 "MarkerWalks$Game" "rule" "I" ∈ zt := zt_at 218 (by decide +kernel)
theorem tw219 : Cond.fieldLink RX0 26 "MarkerWalks$Game" "made" "I" ∈ zt := zt_at 219 (by decide +kernel)
theorem tw220 : Cond.fieldLink RX8 187 "MarkerWalks$Game" "made" "I" ∈ zt := zt_at 220 (by decide +kernel)
theorem tw221 : Cond.fieldLink RX0 9 "MarkerWalks$Game" "taken" "[I" ∈ zt := zt_at 221 (by decide +kernel)
theorem tw222 : Cond.fieldLink RX8 205 "MarkerWalks$Game" "taken" "[I" ∈ zt := zt_at 222 (by decide +kernel)
theorem tw223 : Cond.fieldLink RX0 15 "MarkerWalks$Game" "stands" "[I" ∈ zt := zt_at 223 (by decide +kernel)
theorem tw241 : Cond.fieldLink RX6 15 "MarkerWalks$Tape" "length" "I" ∈ zt := zt_at 241 (by decide +kernel)
theorem tw242 : Cond.fieldLink RX8 141 "MarkerWalks$Tape" "length" "I" ∈ zt := zt_at 242 (by decide +kernel)
theorem tw243 : Cond.fieldLink RX6 9 "MarkerWalks$Tape" "bytes" "[I" ∈ zt := zt_at 243 (by decide +kernel)
theorem tw256 : Cond.fieldLink RX4 15 "MarkerWalks$Sheet" "bits" "I" ∈ zt := zt_at 256 (by decide +kernel)
theorem tw257 : Cond.fieldLink RX8 264 "MarkerWalks$Sheet" "bits" "I" ∈ zt := zt_at 257 (by decide +kernel)
theorem tw258 : Cond.fieldLink RX4 19 "MarkerWalks$Sheet" "size" "I" ∈ zt := zt_at 258 (by decide +kernel)
theorem tw259 : Cond.fieldLink RX8 277 "MarkerWalks$Sheet" "size" "I" ∈ zt := zt_at 259 (by decide +kernel)
theorem tw260 : Cond.fieldLink RX4 9 "MarkerWalks$Sheet" "row" "[I" ∈ zt := zt_at 260 (by decide +kernel)
theorem tw261 : Cond.fieldLink RX8 258 "MarkerWalks$Sheet" "row" "[I" ∈ zt := zt_at 261 (by decide +kernel)
theorem tw269 : Cond.fieldLink RX8 10 "MarkerWalks" "net" "LMarkerWalks$Network;" ∈ zt := zt_at 269 (by decide +kernel)
theorem tw270 : Cond.fieldLink RX8 16 "MarkerWalks" "kept" "LMarkerWalks$Network;" ∈ zt := zt_at 270 (by decide +kernel)
theorem tw271 : Cond.fieldLink RX8 24 "MarkerWalks" "judge" "LMarkerWalks$Judge;" ∈ zt := zt_at 271 (by decide +kernel)
theorem tw272 : Cond.fieldLink RX8 33 "MarkerWalks" "planner" "LMarkerWalks$Planner;" ∈ zt := zt_at 272 (by decide +kernel)
theorem tw273 : Cond.fieldLink RX8 40 "MarkerWalks" "winnersTree" "LMarkerWalks$Tree;" ∈ zt := zt_at 273 (by decide +kernel)
theorem tw274 : Cond.fieldLink RX8 47 "MarkerWalks" "current" "LMarkerWalks$Game;" ∈ zt := zt_at 274 (by decide +kernel)
theorem tw275 : Cond.fieldLink RX8 54 "MarkerWalks" "tape" "LMarkerWalks$Tape;" ∈ zt := zt_at 275 (by decide +kernel)
theorem tw276 : Cond.fieldLink RX8 60 "MarkerWalks" "sheets" "[LMarkerWalks$Sheet;" ∈ zt := zt_at 276 (by decide +kernel)
theorem tw277 : Cond.fieldLink RX8 64 "MarkerWalks" "errors" "[I" ∈ zt := zt_at 277 (by decide +kernel)
theorem tw278 : Cond.fieldLink RX8 289 "MarkerWalks" "hasImage" "Z" ∈ zt := zt_at 278 (by decide +kernel)
theorem tw279 : Cond.fieldLink RX8 286 "MarkerWalks" "keptZ" "I" ∈ zt := zt_at 279 (by decide +kernel)
theorem tw805 : Cond.fieldLink RX9 7 "MarkerWalksModel" "errors" "[I" ∈ zt := zt_at 805 (by decide +kernel)
theorem tw806 : Cond.fieldLink RX9 13 "MarkerWalksModel" "points" "I" ∈ zt := zt_at 806 (by decide +kernel)
theorem tw807 : Cond.fieldLink RX9 72 "MarkerWalksModel" "lines" "I" ∈ zt := zt_at 807 (by decide +kernel)
theorem tw808 : Cond.fieldLink RX9 17 "MarkerWalksModel" "from" "[I" ∈ zt := zt_at 808 (by decide +kernel)
theorem tw809 : Cond.fieldLink RX9 20 "MarkerWalksModel" "to" "[I" ∈ zt := zt_at 809 (by decide +kernel)
theorem tw810 : Cond.fieldLink RX9 23 "MarkerWalksModel" "ways" "[I" ∈ zt := zt_at 810 (by decide +kernel)
theorem tw811 : Cond.fieldLink RX9 26 "MarkerWalksModel" "side" "[I" ∈ zt := zt_at 811 (by decide +kernel)
theorem tw812 : Cond.fieldLink RX9 117 "MarkerWalksModel" "most" "I" ∈ zt := zt_at 812 (by decide +kernel)
theorem tw813 : Cond.fieldLink RX9 120 "MarkerWalksModel" "necessary" "I" ∈ zt := zt_at 813 (by decide +kernel)
theorem tw814 : Cond.fieldLink RX9 29 "MarkerWalksModel" "tape" "[I" ∈ zt := zt_at 814 (by decide +kernel)
theorem tw815 : Cond.fieldLink RX9 139 "MarkerWalksModel" "taped" "I" ∈ zt := zt_at 815 (by decide +kernel)
theorem tw816 : Cond.fieldLink RX9 75 "MarkerWalksModel" "hasGame" "Z" ∈ zt := zt_at 816 (by decide +kernel)
theorem tw817 : Cond.fieldLink RX9 150 "MarkerWalksModel" "rule" "I" ∈ zt := zt_at 817 (by decide +kernel)
theorem tw818 : Cond.fieldLink RX9 197 "MarkerWalksModel" "first" "I" ∈ zt := zt_at 818 (by decide +kernel)
theorem tw819 : Cond.fieldLink RX9 182 "MarkerWalksModel" "marker" "I" ∈ zt := zt_at 819 (by decide +kernel)
theorem tw820 : Cond.fieldLink RX9 179 "MarkerWalksModel" "met" "I" ∈ zt := zt_at 820 (by decide +kernel)
theorem tw821 : Cond.fieldLink RX9 176 "MarkerWalksModel" "gone" "I" ∈ zt := zt_at 821 (by decide +kernel)
theorem tw822 : Cond.fieldLink RX9 32 "MarkerWalksModel" "z" "I" ∈ zt := zt_at 822 (by decide +kernel)
theorem tw823 : Cond.fieldLink RX9 35 "MarkerWalksModel" "made" "[I" ∈ zt := zt_at 823 (by decide +kernel)
theorem tw824 : Cond.fieldLink RX9 200 "MarkerWalksModel" "many" "I" ∈ zt := zt_at 824 (by decide +kernel)
theorem tw825 : Cond.fieldLink RX9 39 "MarkerWalksModel" "worths" "[I" ∈ zt := zt_at 825 (by decide +kernel)
theorem tw826 : Cond.fieldLink RX9 42 "MarkerWalksModel" "nims" "[I" ∈ zt := zt_at 826 (by decide +kernel)
theorem tw827 : Cond.fieldLink RX9 45 "MarkerWalksModel" "tabled" "I" ∈ zt := zt_at 827 (by decide +kernel)
theorem tw828 : Cond.fieldLink RX9 48 "MarkerWalksModel" "been" "[Z" ∈ zt := zt_at 828 (by decide +kernel)
theorem tw829 : Cond.fieldLink RX9 264 "MarkerWalksModel" "nodes" "I" ∈ zt := zt_at 829 (by decide +kernel)
theorem tw830 : Cond.fieldLink RX9 270 "MarkerWalksModel" "leaves" "I" ∈ zt := zt_at 830 (by decide +kernel)
theorem tw831 : Cond.fieldLink RX9 267 "MarkerWalksModel" "depth" "I" ∈ zt := zt_at 831 (by decide +kernel)
theorem tw832 : Cond.fieldLink RX9 52 "MarkerWalksModel" "lineTo" "[I" ∈ zt := zt_at 832 (by decide +kernel)
theorem tw833 : Cond.fieldLink RX9 55 "MarkerWalksModel" "widths" "[I" ∈ zt := zt_at 833 (by decide +kernel)
theorem tw834 : Cond.fieldLink RX9 58 "MarkerWalksModel" "sizes" "[I" ∈ zt := zt_at 834 (by decide +kernel)
theorem tw835 : Cond.fieldLink RX9 61 "MarkerWalksModel" "cells" "[I" ∈ zt := zt_at 835 (by decide +kernel)
theorem tw836 : Cond.fieldLink RX9 64 "MarkerWalksModel" "kept" "[I" ∈ zt := zt_at 836 (by decide +kernel)
theorem tw837 : Cond.fieldLink RX9 289 "MarkerWalksModel" "hasImage" "Z" ∈ zt := zt_at 837 (by decide +kernel)
theorem tw311 : Cond.constant RX8 295 (-1100000000) ∈ zt := zt_at 311 (by decide +kernel)
theorem tw380 : Cond.constant RJ6 265 1431655765 ∈ zt := zt_at 380 (by decide +kernel)
theorem tw381 : Cond.constant RJ6 266 858993459 ∈ zt := zt_at 381 (by decide +kernel)
theorem tw382 : Cond.constant RJ6 267 252645135 ∈ zt := zt_at 382 (by decide +kernel)
theorem tw484 : Cond.constant RX1 28 1048576 ∈ zt := zt_at 484 (by decide +kernel)
theorem tw555 : Cond.constant RJ6 264 65536 ∈ zt := zt_at 555 (by decide +kernel)
theorem tw676 : Cond.constant RX3 86 1103515245 ∈ zt := zt_at 676 (by decide +kernel)
theorem tw804 : Cond.constant RX9 38 40960 ∈ zt := zt_at 804 (by decide +kernel)
theorem tw917 : Cond.constant RX9 67 (-1100000000) ∈ zt := zt_at 917 (by decide +kernel)
theorem tw1016 : Cond.constantLong RX9 142 255 ∈ zt := zt_at 1016 (by decide +kernel)
theorem tw1178 : Cond.constant RX9 235 1103515245 ∈ zt := zt_at 1178 (by decide +kernel)
theorem tw1270 : Cond.constantLong RL 57 4294967295 ∈ zt := zt_at 1270 (by decide +kernel)
theorem ds_X0_start : yX0_start.cls = RX0 ∧ yX0_start.cls ≠ "java/lang/invoke/MethodHandle" ∧ yX0_start.cls ≠ "java/lang/invoke/VarHandle" ∧ (parseMethodDescriptor yX0_start.desc).map (fun d => d.parameters.length) = some 2 := by decide +kernel
theorem ds_X0_stand : yX0_stand.cls = RX0 ∧ yX0_stand.cls ≠ "java/lang/invoke/MethodHandle" ∧ yX0_stand.cls ≠ "java/lang/invoke/VarHandle" ∧ (parseMethodDescriptor yX0_stand.desc).map (fun d => d.parameters.length) = some 0 := by decide +kernel
theorem ds_X0_advance : yX0_advance.cls = RX0 ∧ yX0_advance.cls ≠ "java/lang/invoke/MethodHandle" ∧ yX0_advance.cls ≠ "java/lang/invoke/VarHandle" ∧ (parseMethodDescriptor yX0_advance.desc).map (fun d => d.parameters.length) = some 2 := by decide +kernel
theorem ds_X1_turnTo : yX1_turnTo.cls = RX1 ∧ yX1_turnTo.cls ≠ "java/lang/invoke/MethodHandle" ∧ yX1_turnTo.cls ≠ "java/lang/invoke/VarHandle" ∧ (parseMethodDescriptor yX1_turnTo.desc).map (fun d => d.parameters.length) = some 1 := by decide +kernel
theorem ds_X1_movesFrom : yX1_movesFrom.cls = RX1 ∧ yX1_movesFrom.cls ≠ "java/lang/invoke/MethodHandle" ∧ yX1_movesFrom.cls ≠ "java/lang/invoke/VarHandle" ∧ (parseMethodDescriptor yX1_movesFrom.desc).map (fun d => d.parameters.length) = some 1 := by decide +kernel
theorem ds_X1_overLines : yX1_overLines.cls = RX1 ∧ yX1_overLines.cls ≠ "java/lang/invoke/MethodHandle" ∧ yX1_overLines.cls ≠ "java/lang/invoke/VarHandle" ∧ (parseMethodDescriptor yX1_overLines.desc).map (fun d => d.parameters.length) = some 0 := by decide +kernel
theorem ds_X1_behind : yX1_behind.cls = RX1 ∧ yX1_behind.cls ≠ "java/lang/invoke/MethodHandle" ∧ yX1_behind.cls ≠ "java/lang/invoke/VarHandle" ∧ (parseMethodDescriptor yX1_behind.desc).map (fun d => d.parameters.length) = some 2 := by decide +kernel
theorem ds_X1_wins : yX1_wins.cls = RX1 ∧ yX1_wins.cls ≠ "java/lang/invoke/MethodHandle" ∧ yX1_wins.cls ≠ "java/lang/invoke/VarHandle" ∧ (parseMethodDescriptor yX1_wins.desc).map (fun d => d.parameters.length) = some 1 := by decide +kernel
theorem ds_X1_winner : yX1_winner.cls = RX1 ∧ yX1_winner.cls ≠ "java/lang/invoke/MethodHandle" ∧ yX1_winner.cls ≠ "java/lang/invoke/VarHandle" ∧ (parseMethodDescriptor yX1_winner.desc).map (fun d => d.parameters.length) = some 2 := by decide +kernel
theorem ds_X1_lengthFrom : yX1_lengthFrom.cls = RX1 ∧ yX1_lengthFrom.cls ≠ "java/lang/invoke/MethodHandle" ∧ yX1_lengthFrom.cls ≠ "java/lang/invoke/VarHandle" ∧ (parseMethodDescriptor yX1_lengthFrom.desc).map (fun d => d.parameters.length) = some 1 := by decide +kernel
theorem ds_X1_nimFrom : yX1_nimFrom.cls = RX1 ∧ yX1_nimFrom.cls ≠ "java/lang/invoke/MethodHandle" ∧ yX1_nimFrom.cls ≠ "java/lang/invoke/VarHandle" ∧ (parseMethodDescriptor yX1_nimFrom.desc).map (fun d => d.parameters.length) = some 1 := by decide +kernel
theorem ds_X1_winningFrom : yX1_winningFrom.cls = RX1 ∧ yX1_winningFrom.cls ≠ "java/lang/invoke/MethodHandle" ∧ yX1_winningFrom.cls ≠ "java/lang/invoke/VarHandle" ∧ (parseMethodDescriptor yX1_winningFrom.desc).map (fun d => d.parameters.length) = some 1 := by decide +kernel
theorem ds_X1_weigh : yX1_weigh.cls = RX1 ∧ yX1_weigh.cls ≠ "java/lang/invoke/MethodHandle" ∧ yX1_weigh.cls ≠ "java/lang/invoke/VarHandle" ∧ (parseMethodDescriptor yX1_weigh.desc).map (fun d => d.parameters.length) = some 2 := by decide +kernel
theorem ds_X1_joined : yX1_joined.cls ≠ "java/lang/invoke/MethodHandle" ∧ yX1_joined.cls ≠ "java/lang/invoke/VarHandle" ∧ (parseMethodDescriptor yX1_joined.desc).map (fun d => d.parameters.length) = some 3 := by decide +kernel
theorem ds_X1_winsAs : yX1_winsAs.cls ≠ "java/lang/invoke/MethodHandle" ∧ yX1_winsAs.cls ≠ "java/lang/invoke/VarHandle" ∧ (parseMethodDescriptor yX1_winsAs.desc).map (fun d => d.parameters.length) = some 1 := by decide +kernel
theorem ds_X1_lengthAs : yX1_lengthAs.cls ≠ "java/lang/invoke/MethodHandle" ∧ yX1_lengthAs.cls ≠ "java/lang/invoke/VarHandle" ∧ (parseMethodDescriptor yX1_lengthAs.desc).map (fun d => d.parameters.length) = some 1 := by decide +kernel
theorem ds_X1_nimAs : yX1_nimAs.cls ≠ "java/lang/invoke/MethodHandle" ∧ yX1_nimAs.cls ≠ "java/lang/invoke/VarHandle" ∧ (parseMethodDescriptor yX1_nimAs.desc).map (fun d => d.parameters.length) = some 1 := by decide +kernel
theorem ds_X1_reachFrom : yX1_reachFrom.cls = RX1 ∧ yX1_reachFrom.cls ≠ "java/lang/invoke/MethodHandle" ∧ yX1_reachFrom.cls ≠ "java/lang/invoke/VarHandle" ∧ (parseMethodDescriptor yX1_reachFrom.desc).map (fun d => d.parameters.length) = some 1 := by decide +kernel
theorem ds_X1_spread : yX1_spread.cls = RX1 ∧ yX1_spread.cls ≠ "java/lang/invoke/MethodHandle" ∧ yX1_spread.cls ≠ "java/lang/invoke/VarHandle" ∧ (parseMethodDescriptor yX1_spread.desc).map (fun d => d.parameters.length) = some 1 := by decide +kernel
theorem ds_X1_farEnds : yX1_farEnds.cls = RX1 ∧ yX1_farEnds.cls ≠ "java/lang/invoke/MethodHandle" ∧ yX1_farEnds.cls ≠ "java/lang/invoke/VarHandle" ∧ (parseMethodDescriptor yX1_farEnds.desc).map (fun d => d.parameters.length) = some 2 := by decide +kernel
theorem ds_X2_hasPoint : yX2_hasPoint.cls = RX2 ∧ yX2_hasPoint.cls ≠ "java/lang/invoke/MethodHandle" ∧ yX2_hasPoint.cls ≠ "java/lang/invoke/VarHandle" ∧ (parseMethodDescriptor yX2_hasPoint.desc).map (fun d => d.parameters.length) = some 1 := by decide +kernel
theorem ds_X2_hasLine : yX2_hasLine.cls = RX2 ∧ yX2_hasLine.cls ≠ "java/lang/invoke/MethodHandle" ∧ yX2_hasLine.cls ≠ "java/lang/invoke/VarHandle" ∧ (parseMethodDescriptor yX2_hasLine.desc).map (fun d => d.parameters.length) = some 1 := by decide +kernel
theorem ds_X2_everyPoint : yX2_everyPoint.cls = RX2 ∧ yX2_everyPoint.cls ≠ "java/lang/invoke/MethodHandle" ∧ yX2_everyPoint.cls ≠ "java/lang/invoke/VarHandle" ∧ (parseMethodDescriptor yX2_everyPoint.desc).map (fun d => d.parameters.length) = some 0 := by decide +kernel
theorem ds_X2_clear : yX2_clear.cls = RX2 ∧ yX2_clear.cls ≠ "java/lang/invoke/MethodHandle" ∧ yX2_clear.cls ≠ "java/lang/invoke/VarHandle" ∧ (parseMethodDescriptor yX2_clear.desc).map (fun d => d.parameters.length) = some 1 := by decide +kernel
theorem ds_X2_join : yX2_join.cls = RX2 ∧ yX2_join.cls ≠ "java/lang/invoke/MethodHandle" ∧ yX2_join.cls ≠ "java/lang/invoke/VarHandle" ∧ (parseMethodDescriptor yX2_join.desc).map (fun d => d.parameters.length) = some 3 := by decide +kernel
theorem ds_X2_turn : yX2_turn.cls = RX2 ∧ yX2_turn.cls ≠ "java/lang/invoke/MethodHandle" ∧ yX2_turn.cls ≠ "java/lang/invoke/VarHandle" ∧ (parseMethodDescriptor yX2_turn.desc).map (fun d => d.parameters.length) = some 2 := by decide +kernel
theorem ds_X2_remove : yX2_remove.cls = RX2 ∧ yX2_remove.cls ≠ "java/lang/invoke/MethodHandle" ∧ yX2_remove.cls ≠ "java/lang/invoke/VarHandle" ∧ (parseMethodDescriptor yX2_remove.desc).map (fun d => d.parameters.length) = some 1 := by decide +kernel
theorem ds_X2_become : yX2_become.cls = RX2 ∧ yX2_become.cls ≠ "java/lang/invoke/MethodHandle" ∧ yX2_become.cls ≠ "java/lang/invoke/VarHandle" ∧ (parseMethodDescriptor yX2_become.desc).map (fun d => d.parameters.length) = some 1 := by decide +kernel
theorem ds_X2_gather : yX2_gather.cls = RX2 ∧ yX2_gather.cls ≠ "java/lang/invoke/MethodHandle" ∧ yX2_gather.cls ≠ "java/lang/invoke/VarHandle" ∧ (parseMethodDescriptor yX2_gather.desc).map (fun d => d.parameters.length) = some 0 := by decide +kernel
theorem ds_X2_lead : yX2_lead.cls = RX2 ∧ yX2_lead.cls ≠ "java/lang/invoke/MethodHandle" ∧ yX2_lead.cls ≠ "java/lang/invoke/VarHandle" ∧ (parseMethodDescriptor yX2_lead.desc).map (fun d => d.parameters.length) = some 3 := by decide +kernel
theorem ds_X2_degree : yX2_degree.cls = RX2 ∧ yX2_degree.cls ≠ "java/lang/invoke/MethodHandle" ∧ yX2_degree.cls ≠ "java/lang/invoke/VarHandle" ∧ (parseMethodDescriptor yX2_degree.desc).map (fun d => d.parameters.length) = some 2 := by decide +kernel
theorem ds_X2_otherEnd : yX2_otherEnd.cls = RX2 ∧ yX2_otherEnd.cls ≠ "java/lang/invoke/MethodHandle" ∧ yX2_otherEnd.cls ≠ "java/lang/invoke/VarHandle" ∧ (parseMethodDescriptor yX2_otherEnd.desc).map (fun d => d.parameters.length) = some 2 := by decide +kernel
theorem ds_X2_endsAsSet : yX2_endsAsSet.cls = RX2 ∧ yX2_endsAsSet.cls ≠ "java/lang/invoke/MethodHandle" ∧ yX2_endsAsSet.cls ≠ "java/lang/invoke/VarHandle" ∧ (parseMethodDescriptor yX2_endsAsSet.desc).map (fun d => d.parameters.length) = some 1 := by decide +kernel
theorem ds_X2_sideZero : yX2_sideZero.cls = RX2 ∧ yX2_sideZero.cls ≠ "java/lang/invoke/MethodHandle" ∧ yX2_sideZero.cls ≠ "java/lang/invoke/VarHandle" ∧ (parseMethodDescriptor yX2_sideZero.desc).map (fun d => d.parameters.length) = some 0 := by decide +kernel
theorem ds_X2_neighbours : yX2_neighbours.cls = RX2 ∧ yX2_neighbours.cls ≠ "java/lang/invoke/MethodHandle" ∧ yX2_neighbours.cls ≠ "java/lang/invoke/VarHandle" ∧ (parseMethodDescriptor yX2_neighbours.desc).map (fun d => d.parameters.length) = some 1 := by decide +kernel
theorem ds_X2_isKernel : yX2_isKernel.cls = RX2 ∧ yX2_isKernel.cls ≠ "java/lang/invoke/MethodHandle" ∧ yX2_isKernel.cls ≠ "java/lang/invoke/VarHandle" ∧ (parseMethodDescriptor yX2_isKernel.desc).map (fun d => d.parameters.length) = some 1 := by decide +kernel
theorem ds_X2_mostPairs : yX2_mostPairs.cls = RX2 ∧ yX2_mostPairs.cls ≠ "java/lang/invoke/MethodHandle" ∧ yX2_mostPairs.cls ≠ "java/lang/invoke/VarHandle" ∧ (parseMethodDescriptor yX2_mostPairs.desc).map (fun d => d.parameters.length) = some 1 := by decide +kernel
theorem ds_X2_pairsAmong : yX2_pairsAmong.cls = RX2 ∧ yX2_pairsAmong.cls ≠ "java/lang/invoke/MethodHandle" ∧ yX2_pairsAmong.cls ≠ "java/lang/invoke/VarHandle" ∧ (parseMethodDescriptor yX2_pairsAmong.desc).map (fun d => d.parameters.length) = some 2 := by decide +kernel
theorem ds_X2_leastPairing : yX2_leastPairing.cls = RX2 ∧ yX2_leastPairing.cls ≠ "java/lang/invoke/MethodHandle" ∧ yX2_leastPairing.cls ≠ "java/lang/invoke/VarHandle" ∧ (parseMethodDescriptor yX2_leastPairing.desc).map (fun d => d.parameters.length) = some 1 := by decide +kernel
theorem ds_X2_neededPoints : yX2_neededPoints.cls = RX2 ∧ yX2_neededPoints.cls ≠ "java/lang/invoke/MethodHandle" ∧ yX2_neededPoints.cls ≠ "java/lang/invoke/VarHandle" ∧ (parseMethodDescriptor yX2_neededPoints.desc).map (fun d => d.parameters.length) = some 0 := by decide +kernel
theorem ds_X3_advice : yX3_advice.cls = RX3 ∧ yX3_advice.cls ≠ "java/lang/invoke/MethodHandle" ∧ yX3_advice.cls ≠ "java/lang/invoke/VarHandle" ∧ (parseMethodDescriptor yX3_advice.desc).map (fun d => d.parameters.length) = some 3 := by decide +kernel
theorem ds_X3_simple : yX3_simple.cls = RX3 ∧ yX3_simple.cls ≠ "java/lang/invoke/MethodHandle" ∧ yX3_simple.cls ≠ "java/lang/invoke/VarHandle" ∧ (parseMethodDescriptor yX3_simple.desc).map (fun d => d.parameters.length) = some 2 := by decide +kernel
theorem ds_X3_least : yX3_least.cls ≠ "java/lang/invoke/MethodHandle" ∧ yX3_least.cls ≠ "java/lang/invoke/VarHandle" ∧ (parseMethodDescriptor yX3_least.desc).map (fun d => d.parameters.length) = some 1 := by decide +kernel
theorem ds_X3_greatest : yX3_greatest.cls ≠ "java/lang/invoke/MethodHandle" ∧ yX3_greatest.cls ≠ "java/lang/invoke/VarHandle" ∧ (parseMethodDescriptor yX3_greatest.desc).map (fun d => d.parameters.length) = some 1 := by decide +kernel
theorem ds_X3_pairAtMarker : yX3_pairAtMarker.cls = RX3 ∧ yX3_pairAtMarker.cls ≠ "java/lang/invoke/MethodHandle" ∧ yX3_pairAtMarker.cls ≠ "java/lang/invoke/VarHandle" ∧ (parseMethodDescriptor yX3_pairAtMarker.desc).map (fun d => d.parameters.length) = some 1 := by decide +kernel
theorem ds_X3_drawn : yX3_drawn.cls = RX3 ∧ yX3_drawn.cls ≠ "java/lang/invoke/MethodHandle" ∧ yX3_drawn.cls ≠ "java/lang/invoke/VarHandle" ∧ (parseMethodDescriptor yX3_drawn.desc).map (fun d => d.parameters.length) = some 1 := by decide +kernel
theorem ds_X3_narrowest : yX3_narrowest.cls = RX3 ∧ yX3_narrowest.cls ≠ "java/lang/invoke/MethodHandle" ∧ yX3_narrowest.cls ≠ "java/lang/invoke/VarHandle" ∧ (parseMethodDescriptor yX3_narrowest.desc).map (fun d => d.parameters.length) = some 2 := by decide +kernel
theorem ds_X3_slowest : yX3_slowest.cls = RX3 ∧ yX3_slowest.cls ≠ "java/lang/invoke/MethodHandle" ∧ yX3_slowest.cls ≠ "java/lang/invoke/VarHandle" ∧ (parseMethodDescriptor yX3_slowest.desc).map (fun d => d.parameters.length) = some 2 := by decide +kernel
theorem ds_X4_isMissing : yX4_isMissing.cls = RX4 ∧ yX4_isMissing.cls ≠ "java/lang/invoke/MethodHandle" ∧ yX4_isMissing.cls ≠ "java/lang/invoke/VarHandle" ∧ (parseMethodDescriptor yX4_isMissing.desc).map (fun d => d.parameters.length) = some 0 := by decide +kernel
theorem ds_X4_renew : yX4_renew.cls = RX4 ∧ yX4_renew.cls ≠ "java/lang/invoke/MethodHandle" ∧ yX4_renew.cls ≠ "java/lang/invoke/VarHandle" ∧ (parseMethodDescriptor yX4_renew.desc).map (fun d => d.parameters.length) = some 2 := by decide +kernel
theorem ds_X4_write : yX4_write.cls = RX4 ∧ yX4_write.cls ≠ "java/lang/invoke/MethodHandle" ∧ yX4_write.cls ≠ "java/lang/invoke/VarHandle" ∧ (parseMethodDescriptor yX4_write.desc).map (fun d => d.parameters.length) = some 2 := by decide +kernel
theorem ds_X4_hasRun : yX4_hasRun.cls = RX4 ∧ yX4_hasRun.cls ≠ "java/lang/invoke/MethodHandle" ∧ yX4_hasRun.cls ≠ "java/lang/invoke/VarHandle" ∧ (parseMethodDescriptor yX4_hasRun.desc).map (fun d => d.parameters.length) = some 2 := by decide +kernel
theorem ds_X5_atFirst : yX5_atFirst.cls ≠ "java/lang/invoke/MethodHandle" ∧ yX5_atFirst.cls ≠ "java/lang/invoke/VarHandle" ∧ (parseMethodDescriptor yX5_atFirst.desc).map (fun d => d.parameters.length) = some 1 := by decide +kernel
theorem ds_X5_marker : yX5_marker.cls ≠ "java/lang/invoke/MethodHandle" ∧ yX5_marker.cls ≠ "java/lang/invoke/VarHandle" ∧ (parseMethodDescriptor yX5_marker.desc).map (fun d => d.parameters.length) = some 1 := by decide +kernel
theorem ds_X5_met : yX5_met.cls ≠ "java/lang/invoke/MethodHandle" ∧ yX5_met.cls ≠ "java/lang/invoke/VarHandle" ∧ (parseMethodDescriptor yX5_met.desc).map (fun d => d.parameters.length) = some 1 := by decide +kernel
theorem ds_X5_gone : yX5_gone.cls ≠ "java/lang/invoke/MethodHandle" ∧ yX5_gone.cls ≠ "java/lang/invoke/VarHandle" ∧ (parseMethodDescriptor yX5_gone.desc).map (fun d => d.parameters.length) = some 1 := by decide +kernel
theorem ds_X5_markerAndMet : yX5_markerAndMet.cls ≠ "java/lang/invoke/MethodHandle" ∧ yX5_markerAndMet.cls ≠ "java/lang/invoke/VarHandle" ∧ (parseMethodDescriptor yX5_markerAndMet.desc).map (fun d => d.parameters.length) = some 1 := by decide +kernel
theorem ds_X5_withMarker : yX5_withMarker.cls ≠ "java/lang/invoke/MethodHandle" ∧ yX5_withMarker.cls ≠ "java/lang/invoke/VarHandle" ∧ (parseMethodDescriptor yX5_withMarker.desc).map (fun d => d.parameters.length) = some 2 := by decide +kernel
theorem ds_X5_behind : yX5_behind.cls ≠ "java/lang/invoke/MethodHandle" ∧ yX5_behind.cls ≠ "java/lang/invoke/VarHandle" ∧ (parseMethodDescriptor yX5_behind.desc).map (fun d => d.parameters.length) = some 3 := by decide +kernel
theorem ds_X6_add : yX6_add.cls = RX6 ∧ yX6_add.cls ≠ "java/lang/invoke/MethodHandle" ∧ yX6_add.cls ≠ "java/lang/invoke/VarHandle" ∧ (parseMethodDescriptor yX6_add.desc).map (fun d => d.parameters.length) = some 2 := by decide +kernel
theorem ds_X6_fault : yX6_fault.cls = RX6 ∧ yX6_fault.cls ≠ "java/lang/invoke/MethodHandle" ∧ yX6_fault.cls ≠ "java/lang/invoke/VarHandle" ∧ (parseMethodDescriptor yX6_fault.desc).map (fun d => d.parameters.length) = some 0 := by decide +kernel
theorem ds_X6_fits : yX6_fits.cls = RX6 ∧ yX6_fits.cls ≠ "java/lang/invoke/MethodHandle" ∧ yX6_fits.cls ≠ "java/lang/invoke/VarHandle" ∧ (parseMethodDescriptor yX6_fits.desc).map (fun d => d.parameters.length) = some 1 := by decide +kernel
theorem ds_X6_isLetter : yX6_isLetter.cls ≠ "java/lang/invoke/MethodHandle" ∧ yX6_isLetter.cls ≠ "java/lang/invoke/VarHandle" ∧ (parseMethodDescriptor yX6_isLetter.desc).map (fun d => d.parameters.length) = some 1 := by decide +kernel
theorem ds_X6_tell : yX6_tell.cls = RX6 ∧ yX6_tell.cls ≠ "java/lang/invoke/MethodHandle" ∧ yX6_tell.cls ≠ "java/lang/invoke/VarHandle" ∧ (parseMethodDescriptor yX6_tell.desc).map (fun d => d.parameters.length) = some 1 := by decide +kernel
theorem ds_X6_wayOf : yX6_wayOf.cls ≠ "java/lang/invoke/MethodHandle" ∧ yX6_wayOf.cls ≠ "java/lang/invoke/VarHandle" ∧ (parseMethodDescriptor yX6_wayOf.desc).map (fun d => d.parameters.length) = some 1 := by decide +kernel
theorem ds_X7_build : yX7_build.cls = RX7 ∧ yX7_build.cls ≠ "java/lang/invoke/MethodHandle" ∧ yX7_build.cls ≠ "java/lang/invoke/VarHandle" ∧ (parseMethodDescriptor yX7_build.desc).map (fun d => d.parameters.length) = some 1 := by decide +kernel
theorem ds_X7_grow : yX7_grow.cls = RX7 ∧ yX7_grow.cls ≠ "java/lang/invoke/MethodHandle" ∧ yX7_grow.cls ≠ "java/lang/invoke/VarHandle" ∧ (parseMethodDescriptor yX7_grow.desc).map (fun d => d.parameters.length) = some 3 := by decide +kernel
theorem ds_X8_points : yX8_points.cls = RX8 ∧ yX8_points.cls ≠ "java/lang/invoke/MethodHandle" ∧ yX8_points.cls ≠ "java/lang/invoke/VarHandle" ∧ (parseMethodDescriptor yX8_points.desc).map (fun d => d.parameters.length) = some 1 := by decide +kernel
theorem ds_X8_line : yX8_line.cls = RX8 ∧ yX8_line.cls ≠ "java/lang/invoke/MethodHandle" ∧ yX8_line.cls ≠ "java/lang/invoke/VarHandle" ∧ (parseMethodDescriptor yX8_line.desc).map (fun d => d.parameters.length) = some 3 := by decide +kernel
theorem ds_X8_way : yX8_way.cls = RX8 ∧ yX8_way.cls ≠ "java/lang/invoke/MethodHandle" ∧ yX8_way.cls ≠ "java/lang/invoke/VarHandle" ∧ (parseMethodDescriptor yX8_way.desc).map (fun d => d.parameters.length) = some 2 := by decide +kernel
theorem ds_X8_cut : yX8_cut.cls = RX8 ∧ yX8_cut.cls ≠ "java/lang/invoke/MethodHandle" ∧ yX8_cut.cls ≠ "java/lang/invoke/VarHandle" ∧ (parseMethodDescriptor yX8_cut.desc).map (fun d => d.parameters.length) = some 1 := by decide +kernel
theorem ds_X8_ends : yX8_ends.cls = RX8 ∧ yX8_ends.cls ≠ "java/lang/invoke/MethodHandle" ∧ yX8_ends.cls ≠ "java/lang/invoke/VarHandle" ∧ (parseMethodDescriptor yX8_ends.desc).map (fun d => d.parameters.length) = some 2 := by decide +kernel
theorem ds_X8_at : yX8_at.cls = RX8 ∧ yX8_at.cls ≠ "java/lang/invoke/MethodHandle" ∧ yX8_at.cls ≠ "java/lang/invoke/VarHandle" ∧ (parseMethodDescriptor yX8_at.desc).map (fun d => d.parameters.length) = some 2 := by decide +kernel
theorem ds_X8_sides : yX8_sides.cls = RX8 ∧ yX8_sides.cls ≠ "java/lang/invoke/MethodHandle" ∧ yX8_sides.cls ≠ "java/lang/invoke/VarHandle" ∧ (parseMethodDescriptor yX8_sides.desc).map (fun d => d.parameters.length) = some 0 := by decide +kernel
theorem ds_X8_pairing : yX8_pairing.cls = RX8 ∧ yX8_pairing.cls ≠ "java/lang/invoke/MethodHandle" ∧ yX8_pairing.cls ≠ "java/lang/invoke/VarHandle" ∧ (parseMethodDescriptor yX8_pairing.desc).map (fun d => d.parameters.length) = some 2 := by decide +kernel
theorem ds_X8_needed : yX8_needed.cls = RX8 ∧ yX8_needed.cls ≠ "java/lang/invoke/MethodHandle" ∧ yX8_needed.cls ≠ "java/lang/invoke/VarHandle" ∧ (parseMethodDescriptor yX8_needed.desc).map (fun d => d.parameters.length) = some 0 := by decide +kernel
theorem ds_X8_kernel : yX8_kernel.cls = RX8 ∧ yX8_kernel.cls ≠ "java/lang/invoke/MethodHandle" ∧ yX8_kernel.cls ≠ "java/lang/invoke/VarHandle" ∧ (parseMethodDescriptor yX8_kernel.desc).map (fun d => d.parameters.length) = some 1 := by decide +kernel
theorem ds_X8_feed : yX8_feed.cls = RX8 ∧ yX8_feed.cls ≠ "java/lang/invoke/MethodHandle" ∧ yX8_feed.cls ≠ "java/lang/invoke/VarHandle" ∧ (parseMethodDescriptor yX8_feed.desc).map (fun d => d.parameters.length) = some 2 := by decide +kernel
theorem ds_X8_network : yX8_network.cls = RX8 ∧ yX8_network.cls ≠ "java/lang/invoke/MethodHandle" ∧ yX8_network.cls ≠ "java/lang/invoke/VarHandle" ∧ (parseMethodDescriptor yX8_network.desc).map (fun d => d.parameters.length) = some 0 := by decide +kernel
theorem ds_X8_begin : yX8_begin.cls = RX8 ∧ yX8_begin.cls ≠ "java/lang/invoke/MethodHandle" ∧ yX8_begin.cls ≠ "java/lang/invoke/VarHandle" ∧ (parseMethodDescriptor yX8_begin.desc).map (fun d => d.parameters.length) = some 2 := by decide +kernel
theorem ds_X8_go : yX8_go.cls = RX8 ∧ yX8_go.cls ≠ "java/lang/invoke/MethodHandle" ∧ yX8_go.cls ≠ "java/lang/invoke/VarHandle" ∧ (parseMethodDescriptor yX8_go.desc).map (fun d => d.parameters.length) = some 1 := by decide +kernel
theorem ds_X8_back : yX8_back.cls = RX8 ∧ yX8_back.cls ≠ "java/lang/invoke/MethodHandle" ∧ yX8_back.cls ≠ "java/lang/invoke/VarHandle" ∧ (parseMethodDescriptor yX8_back.desc).map (fun d => d.parameters.length) = some 0 := by decide +kernel
theorem ds_X8_game : yX8_game.cls = RX8 ∧ yX8_game.cls ≠ "java/lang/invoke/MethodHandle" ∧ yX8_game.cls ≠ "java/lang/invoke/VarHandle" ∧ (parseMethodDescriptor yX8_game.desc).map (fun d => d.parameters.length) = some 1 := by decide +kernel
theorem ds_X8_moved : yX8_moved.cls = RX8 ∧ yX8_moved.cls ≠ "java/lang/invoke/MethodHandle" ∧ yX8_moved.cls ≠ "java/lang/invoke/VarHandle" ∧ (parseMethodDescriptor yX8_moved.desc).map (fun d => d.parameters.length) = some 1 := by decide +kernel
theorem ds_X8_moves : yX8_moves.cls = RX8 ∧ yX8_moves.cls ≠ "java/lang/invoke/MethodHandle" ∧ yX8_moves.cls ≠ "java/lang/invoke/VarHandle" ∧ (parseMethodDescriptor yX8_moves.desc).map (fun d => d.parameters.length) = some 1 := by decide +kernel
theorem ds_X8_worth : yX8_worth.cls = RX8 ∧ yX8_worth.cls ≠ "java/lang/invoke/MethodHandle" ∧ yX8_worth.cls ≠ "java/lang/invoke/VarHandle" ∧ (parseMethodDescriptor yX8_worth.desc).map (fun d => d.parameters.length) = some 1 := by decide +kernel
theorem ds_X8_reach : yX8_reach.cls = RX8 ∧ yX8_reach.cls ≠ "java/lang/invoke/MethodHandle" ∧ yX8_reach.cls ≠ "java/lang/invoke/VarHandle" ∧ (parseMethodDescriptor yX8_reach.desc).map (fun d => d.parameters.length) = some 0 := by decide +kernel
theorem ds_X8_starts : yX8_starts.cls = RX8 ∧ yX8_starts.cls ≠ "java/lang/invoke/MethodHandle" ∧ yX8_starts.cls ≠ "java/lang/invoke/VarHandle" ∧ (parseMethodDescriptor yX8_starts.desc).map (fun d => d.parameters.length) = some 1 := by decide +kernel
theorem ds_X8_tells : yX8_tells.cls = RX8 ∧ yX8_tells.cls ≠ "java/lang/invoke/MethodHandle" ∧ yX8_tells.cls ≠ "java/lang/invoke/VarHandle" ∧ (parseMethodDescriptor yX8_tells.desc).map (fun d => d.parameters.length) = some 1 := by decide +kernel
theorem ds_X8_play : yX8_play.cls = RX8 ∧ yX8_play.cls ≠ "java/lang/invoke/MethodHandle" ∧ yX8_play.cls ≠ "java/lang/invoke/VarHandle" ∧ (parseMethodDescriptor yX8_play.desc).map (fun d => d.parameters.length) = some 3 := by decide +kernel
theorem ds_X8_fight : yX8_fight.cls = RX8 ∧ yX8_fight.cls ≠ "java/lang/invoke/MethodHandle" ∧ yX8_fight.cls ≠ "java/lang/invoke/VarHandle" ∧ (parseMethodDescriptor yX8_fight.desc).map (fun d => d.parameters.length) = some 3 := by decide +kernel
theorem ds_X8_tree : yX8_tree.cls = RX8 ∧ yX8_tree.cls ≠ "java/lang/invoke/MethodHandle" ∧ yX8_tree.cls ≠ "java/lang/invoke/VarHandle" ∧ (parseMethodDescriptor yX8_tree.desc).map (fun d => d.parameters.length) = some 1 := by decide +kernel
theorem ds_X8_node : yX8_node.cls = RX8 ∧ yX8_node.cls ≠ "java/lang/invoke/MethodHandle" ∧ yX8_node.cls ≠ "java/lang/invoke/VarHandle" ∧ (parseMethodDescriptor yX8_node.desc).map (fun d => d.parameters.length) = some 1 := by decide +kernel
theorem ds_X8_sheet : yX8_sheet.cls = RX8 ∧ yX8_sheet.cls ≠ "java/lang/invoke/MethodHandle" ∧ yX8_sheet.cls ≠ "java/lang/invoke/VarHandle" ∧ (parseMethodDescriptor yX8_sheet.desc).map (fun d => d.parameters.length) = some 3 := by decide +kernel
theorem ds_X8_put : yX8_put.cls = RX8 ∧ yX8_put.cls ≠ "java/lang/invoke/MethodHandle" ∧ yX8_put.cls ≠ "java/lang/invoke/VarHandle" ∧ (parseMethodDescriptor yX8_put.desc).map (fun d => d.parameters.length) = some 3 := by decide +kernel
theorem ds_X8_number : yX8_number.cls = RX8 ∧ yX8_number.cls ≠ "java/lang/invoke/MethodHandle" ∧ yX8_number.cls ≠ "java/lang/invoke/VarHandle" ∧ (parseMethodDescriptor yX8_number.desc).map (fun d => d.parameters.length) = some 2 := by decide +kernel
theorem ds_X8_copy : yX8_copy.cls = RX8 ∧ yX8_copy.cls ≠ "java/lang/invoke/MethodHandle" ∧ yX8_copy.cls ≠ "java/lang/invoke/VarHandle" ∧ (parseMethodDescriptor yX8_copy.desc).map (fun d => d.parameters.length) = some 5 := by decide +kernel
theorem ds_X8_degrees : yX8_degrees.cls = RX8 ∧ yX8_degrees.cls ≠ "java/lang/invoke/MethodHandle" ∧ yX8_degrees.cls ≠ "java/lang/invoke/VarHandle" ∧ (parseMethodDescriptor yX8_degrees.desc).map (fun d => d.parameters.length) = some 2 := by decide +kernel
theorem ds_X8_walks : yX8_walks.cls = RX8 ∧ yX8_walks.cls ≠ "java/lang/invoke/MethodHandle" ∧ yX8_walks.cls ≠ "java/lang/invoke/VarHandle" ∧ (parseMethodDescriptor yX8_walks.desc).map (fun d => d.parameters.length) = some 2 := by decide +kernel
theorem ds_X8_seed : yX8_seed.cls = RX8 ∧ yX8_seed.cls ≠ "java/lang/invoke/MethodHandle" ∧ yX8_seed.cls ≠ "java/lang/invoke/VarHandle" ∧ (parseMethodDescriptor yX8_seed.desc).map (fun d => d.parameters.length) = some 1 := by decide +kernel
theorem ds_X8_image : yX8_image.cls = RX8 ∧ yX8_image.cls ≠ "java/lang/invoke/MethodHandle" ∧ yX8_image.cls ≠ "java/lang/invoke/VarHandle" ∧ (parseMethodDescriptor yX8_image.desc).map (fun d => d.parameters.length) = some 0 := by decide +kernel
theorem ds_X8_restore : yX8_restore.cls = RX8 ∧ yX8_restore.cls ≠ "java/lang/invoke/MethodHandle" ∧ yX8_restore.cls ≠ "java/lang/invoke/VarHandle" ∧ (parseMethodDescriptor yX8_restore.desc).map (fun d => d.parameters.length) = some 0 := by decide +kernel
theorem ds_X8_count : yX8_count.cls = RX8 ∧ yX8_count.cls ≠ "java/lang/invoke/MethodHandle" ∧ yX8_count.cls ≠ "java/lang/invoke/VarHandle" ∧ (parseMethodDescriptor yX8_count.desc).map (fun d => d.parameters.length) = some 1 := by decide +kernel
theorem ds_X8_told : yX8_told.cls = RX8 ∧ yX8_told.cls ≠ "java/lang/invoke/MethodHandle" ∧ yX8_told.cls ≠ "java/lang/invoke/VarHandle" ∧ (parseMethodDescriptor yX8_told.desc).map (fun d => d.parameters.length) = some 1 := by decide +kernel
theorem ds_X8_fail : yX8_fail.cls = RX8 ∧ yX8_fail.cls ≠ "java/lang/invoke/MethodHandle" ∧ yX8_fail.cls ≠ "java/lang/invoke/VarHandle" ∧ (parseMethodDescriptor yX8_fail.desc).map (fun d => d.parameters.length) = some 1 := by decide +kernel
theorem ds_X8_isOver : yX8_isOver.cls = RX8 ∧ yX8_isOver.cls ≠ "java/lang/invoke/MethodHandle" ∧ yX8_isOver.cls ≠ "java/lang/invoke/VarHandle" ∧ (parseMethodDescriptor yX8_isOver.desc).map (fun d => d.parameters.length) = some 0 := by decide +kernel
theorem ds_X8_errorOfNumber : yX8_errorOfNumber.cls = RX8 ∧ yX8_errorOfNumber.cls ≠ "java/lang/invoke/MethodHandle" ∧ yX8_errorOfNumber.cls ≠ "java/lang/invoke/VarHandle" ∧ (parseMethodDescriptor yX8_errorOfNumber.desc).map (fun d => d.parameters.length) = some 2 := by decide +kernel
theorem ds_X8_sheetsThere : yX8_sheetsThere.cls = RX8 ∧ yX8_sheetsThere.cls ≠ "java/lang/invoke/MethodHandle" ∧ yX8_sheetsThere.cls ≠ "java/lang/invoke/VarHandle" ∧ (parseMethodDescriptor yX8_sheetsThere.desc).map (fun d => d.parameters.length) = some 0 := by decide +kernel
theorem ds_X8_isWay : yX8_isWay.cls ≠ "java/lang/invoke/MethodHandle" ∧ yX8_isWay.cls ≠ "java/lang/invoke/VarHandle" ∧ (parseMethodDescriptor yX8_isWay.desc).map (fun d => d.parameters.length) = some 1 := by decide +kernel
theorem ds_X8_isRule : yX8_isRule.cls ≠ "java/lang/invoke/MethodHandle" ∧ yX8_isRule.cls ≠ "java/lang/invoke/VarHandle" ∧ (parseMethodDescriptor yX8_isRule.desc).map (fun d => d.parameters.length) = some 1 := by decide +kernel
theorem ds_X8_isSheet : yX8_isSheet.cls ≠ "java/lang/invoke/MethodHandle" ∧ yX8_isSheet.cls ≠ "java/lang/invoke/VarHandle" ∧ (parseMethodDescriptor yX8_isSheet.desc).map (fun d => d.parameters.length) = some 1 := by decide +kernel
theorem ds_X8_isCode : yX8_isCode.cls ≠ "java/lang/invoke/MethodHandle" ∧ yX8_isCode.cls ≠ "java/lang/invoke/VarHandle" ∧ (parseMethodDescriptor yX8_isCode.desc).map (fun d => d.parameters.length) = some 1 := by decide +kernel
theorem ds_X9_no : yX9_no.cls = RX9 ∧ yX9_no.cls ≠ "java/lang/invoke/MethodHandle" ∧ yX9_no.cls ≠ "java/lang/invoke/VarHandle" ∧ (parseMethodDescriptor yX9_no.desc).map (fun d => d.parameters.length) = some 1 := by decide +kernel
theorem ds_X9_in : yX9_in.cls ≠ "java/lang/invoke/MethodHandle" ∧ yX9_in.cls ≠ "java/lang/invoke/VarHandle" ∧ (parseMethodDescriptor yX9_in.desc).map (fun d => d.parameters.length) = some 3 := by decide +kernel
theorem ds_X9_has : yX9_has.cls ≠ "java/lang/invoke/MethodHandle" ∧ yX9_has.cls ≠ "java/lang/invoke/VarHandle" ∧ (parseMethodDescriptor yX9_has.desc).map (fun d => d.parameters.length) = some 2 := by decide +kernel
theorem ds_X9_ones : yX9_ones.cls ≠ "java/lang/invoke/MethodHandle" ∧ yX9_ones.cls ≠ "java/lang/invoke/VarHandle" ∧ (parseMethodDescriptor yX9_ones.desc).map (fun d => d.parameters.length) = some 1 := by decide +kernel
theorem ds_X9_isPoint : yX9_isPoint.cls = RX9 ∧ yX9_isPoint.cls ≠ "java/lang/invoke/MethodHandle" ∧ yX9_isPoint.cls ≠ "java/lang/invoke/VarHandle" ∧ (parseMethodDescriptor yX9_isPoint.desc).map (fun d => d.parameters.length) = some 1 := by decide +kernel
theorem ds_X9_isLine : yX9_isLine.cls = RX9 ∧ yX9_isLine.cls ≠ "java/lang/invoke/MethodHandle" ∧ yX9_isLine.cls ≠ "java/lang/invoke/VarHandle" ∧ (parseMethodDescriptor yX9_isLine.desc).map (fun d => d.parameters.length) = some 1 := by decide +kernel
theorem ds_X9_all : yX9_all.cls = RX9 ∧ yX9_all.cls ≠ "java/lang/invoke/MethodHandle" ∧ yX9_all.cls ≠ "java/lang/invoke/VarHandle" ∧ (parseMethodDescriptor yX9_all.desc).map (fun d => d.parameters.length) = some 0 := by decide +kernel
theorem ds_X9_isNew : yX9_isNew.cls = RX9 ∧ yX9_isNew.cls ≠ "java/lang/invoke/MethodHandle" ∧ yX9_isNew.cls ≠ "java/lang/invoke/VarHandle" ∧ (parseMethodDescriptor yX9_isNew.desc).map (fun d => d.parameters.length) = some 0 := by decide +kernel
theorem ds_X9_points : yX9_points.cls = RX9 ∧ yX9_points.cls ≠ "java/lang/invoke/MethodHandle" ∧ yX9_points.cls ≠ "java/lang/invoke/VarHandle" ∧ (parseMethodDescriptor yX9_points.desc).map (fun d => d.parameters.length) = some 1 := by decide +kernel
theorem ds_X9_comes : yX9_comes.cls = RX9 ∧ yX9_comes.cls ≠ "java/lang/invoke/MethodHandle" ∧ yX9_comes.cls ≠ "java/lang/invoke/VarHandle" ∧ (parseMethodDescriptor yX9_comes.desc).map (fun d => d.parameters.length) = some 3 := by decide +kernel
theorem ds_X9_line : yX9_line.cls = RX9 ∧ yX9_line.cls ≠ "java/lang/invoke/MethodHandle" ∧ yX9_line.cls ≠ "java/lang/invoke/VarHandle" ∧ (parseMethodDescriptor yX9_line.desc).map (fun d => d.parameters.length) = some 3 := by decide +kernel
theorem ds_X9_way : yX9_way.cls = RX9 ∧ yX9_way.cls ≠ "java/lang/invoke/MethodHandle" ∧ yX9_way.cls ≠ "java/lang/invoke/VarHandle" ∧ (parseMethodDescriptor yX9_way.desc).map (fun d => d.parameters.length) = some 2 := by decide +kernel
theorem ds_X9_cut : yX9_cut.cls = RX9 ∧ yX9_cut.cls ≠ "java/lang/invoke/MethodHandle" ∧ yX9_cut.cls ≠ "java/lang/invoke/VarHandle" ∧ (parseMethodDescriptor yX9_cut.desc).map (fun d => d.parameters.length) = some 1 := by decide +kernel
theorem ds_X9_ends : yX9_ends.cls = RX9 ∧ yX9_ends.cls ≠ "java/lang/invoke/MethodHandle" ∧ yX9_ends.cls ≠ "java/lang/invoke/VarHandle" ∧ (parseMethodDescriptor yX9_ends.desc).map (fun d => d.parameters.length) = some 2 := by decide +kernel
theorem ds_X9_isAt : yX9_isAt.cls = RX9 ∧ yX9_isAt.cls ≠ "java/lang/invoke/MethodHandle" ∧ yX9_isAt.cls ≠ "java/lang/invoke/VarHandle" ∧ (parseMethodDescriptor yX9_isAt.desc).map (fun d => d.parameters.length) = some 2 := by decide +kernel
theorem ds_X9_otherOf : yX9_otherOf.cls = RX9 ∧ yX9_otherOf.cls ≠ "java/lang/invoke/MethodHandle" ∧ yX9_otherOf.cls ≠ "java/lang/invoke/VarHandle" ∧ (parseMethodDescriptor yX9_otherOf.desc).map (fun d => d.parameters.length) = some 2 := by decide +kernel
theorem ds_X9_leads : yX9_leads.cls = RX9 ∧ yX9_leads.cls ≠ "java/lang/invoke/MethodHandle" ∧ yX9_leads.cls ≠ "java/lang/invoke/VarHandle" ∧ (parseMethodDescriptor yX9_leads.desc).map (fun d => d.parameters.length) = some 2 := by decide +kernel
theorem ds_X9_degree : yX9_degree.cls = RX9 ∧ yX9_degree.cls ≠ "java/lang/invoke/MethodHandle" ∧ yX9_degree.cls ≠ "java/lang/invoke/VarHandle" ∧ (parseMethodDescriptor yX9_degree.desc).map (fun d => d.parameters.length) = some 2 := by decide +kernel
theorem ds_X9_at : yX9_at.cls = RX9 ∧ yX9_at.cls ≠ "java/lang/invoke/MethodHandle" ∧ yX9_at.cls ≠ "java/lang/invoke/VarHandle" ∧ (parseMethodDescriptor yX9_at.desc).map (fun d => d.parameters.length) = some 2 := by decide +kernel
theorem ds_X9_sidesFrom : yX9_sidesFrom.cls = RX9 ∧ yX9_sidesFrom.cls ≠ "java/lang/invoke/MethodHandle" ∧ yX9_sidesFrom.cls ≠ "java/lang/invoke/VarHandle" ∧ (parseMethodDescriptor yX9_sidesFrom.desc).map (fun d => d.parameters.length) = some 2 := by decide +kernel
theorem ds_X9_sides : yX9_sides.cls = RX9 ∧ yX9_sides.cls ≠ "java/lang/invoke/MethodHandle" ∧ yX9_sides.cls ≠ "java/lang/invoke/VarHandle" ∧ (parseMethodDescriptor yX9_sides.desc).map (fun d => d.parameters.length) = some 0 := by decide +kernel
theorem ds_X9_metBy : yX9_metBy.cls = RX9 ∧ yX9_metBy.cls ≠ "java/lang/invoke/MethodHandle" ∧ yX9_metBy.cls ≠ "java/lang/invoke/VarHandle" ∧ (parseMethodDescriptor yX9_metBy.desc).map (fun d => d.parameters.length) = some 2 := by decide +kernel
theorem ds_X9_pairingOf : yX9_pairingOf.cls = RX9 ∧ yX9_pairingOf.cls ≠ "java/lang/invoke/MethodHandle" ∧ yX9_pairingOf.cls ≠ "java/lang/invoke/VarHandle" ∧ (parseMethodDescriptor yX9_pairingOf.desc).map (fun d => d.parameters.length) = some 1 := by decide +kernel
theorem ds_X9_pairing : yX9_pairing.cls = RX9 ∧ yX9_pairing.cls ≠ "java/lang/invoke/MethodHandle" ∧ yX9_pairing.cls ≠ "java/lang/invoke/VarHandle" ∧ (parseMethodDescriptor yX9_pairing.desc).map (fun d => d.parameters.length) = some 2 := by decide +kernel
theorem ds_X9_needed : yX9_needed.cls = RX9 ∧ yX9_needed.cls ≠ "java/lang/invoke/MethodHandle" ∧ yX9_needed.cls ≠ "java/lang/invoke/VarHandle" ∧ (parseMethodDescriptor yX9_needed.desc).map (fun d => d.parameters.length) = some 0 := by decide +kernel
theorem ds_X9_isKernel : yX9_isKernel.cls = RX9 ∧ yX9_isKernel.cls ≠ "java/lang/invoke/MethodHandle" ∧ yX9_isKernel.cls ≠ "java/lang/invoke/VarHandle" ∧ (parseMethodDescriptor yX9_isKernel.desc).map (fun d => d.parameters.length) = some 1 := by decide +kernel
theorem ds_X9_kernel : yX9_kernel.cls = RX9 ∧ yX9_kernel.cls ≠ "java/lang/invoke/MethodHandle" ∧ yX9_kernel.cls ≠ "java/lang/invoke/VarHandle" ∧ (parseMethodDescriptor yX9_kernel.desc).map (fun d => d.parameters.length) = some 1 := by decide +kernel
theorem ds_X9_feed : yX9_feed.cls = RX9 ∧ yX9_feed.cls ≠ "java/lang/invoke/MethodHandle" ∧ yX9_feed.cls ≠ "java/lang/invoke/VarHandle" ∧ (parseMethodDescriptor yX9_feed.desc).map (fun d => d.parameters.length) = some 2 := by decide +kernel
theorem ds_X9_here : yX9_here.cls = RX9 ∧ yX9_here.cls ≠ "java/lang/invoke/MethodHandle" ∧ yX9_here.cls ≠ "java/lang/invoke/VarHandle" ∧ (parseMethodDescriptor yX9_here.desc).map (fun d => d.parameters.length) = some 1 := by decide +kernel
theorem ds_X9_faultOf : yX9_faultOf.cls = RX9 ∧ yX9_faultOf.cls ≠ "java/lang/invoke/MethodHandle" ∧ yX9_faultOf.cls ≠ "java/lang/invoke/VarHandle" ∧ (parseMethodDescriptor yX9_faultOf.desc).map (fun d => d.parameters.length) = some 0 := by decide +kernel
theorem ds_X9_network : yX9_network.cls = RX9 ∧ yX9_network.cls ≠ "java/lang/invoke/MethodHandle" ∧ yX9_network.cls ≠ "java/lang/invoke/VarHandle" ∧ (parseMethodDescriptor yX9_network.desc).map (fun d => d.parameters.length) = some 0 := by decide +kernel
theorem ds_X9_isByLines : yX9_isByLines.cls = RX9 ∧ yX9_isByLines.cls ≠ "java/lang/invoke/MethodHandle" ∧ yX9_isByLines.cls ≠ "java/lang/invoke/VarHandle" ∧ (parseMethodDescriptor yX9_isByLines.desc).map (fun d => d.parameters.length) = some 0 := by decide +kernel
theorem ds_X9_isByWays : yX9_isByWays.cls = RX9 ∧ yX9_isByWays.cls ≠ "java/lang/invoke/MethodHandle" ∧ yX9_isByWays.cls ≠ "java/lang/invoke/VarHandle" ∧ (parseMethodDescriptor yX9_isByWays.desc).map (fun d => d.parameters.length) = some 0 := by decide +kernel
theorem ds_X9_isMove : yX9_isMove.cls = RX9 ∧ yX9_isMove.cls ≠ "java/lang/invoke/MethodHandle" ∧ yX9_isMove.cls ≠ "java/lang/invoke/VarHandle" ∧ (parseMethodDescriptor yX9_isMove.desc).map (fun d => d.parameters.length) = some 3 := by decide +kernel
theorem ds_X9_setBehind : yX9_setBehind.cls = RX9 ∧ yX9_setBehind.cls ≠ "java/lang/invoke/MethodHandle" ∧ yX9_setBehind.cls ≠ "java/lang/invoke/VarHandle" ∧ (parseMethodDescriptor yX9_setBehind.desc).map (fun d => d.parameters.length) = some 3 := by decide +kernel
theorem ds_X9_movesAt : yX9_movesAt.cls = RX9 ∧ yX9_movesAt.cls ≠ "java/lang/invoke/MethodHandle" ∧ yX9_movesAt.cls ≠ "java/lang/invoke/VarHandle" ∧ (parseMethodDescriptor yX9_movesAt.desc).map (fun d => d.parameters.length) = some 2 := by decide +kernel
theorem ds_X9_tables : yX9_tables.cls = RX9 ∧ yX9_tables.cls ≠ "java/lang/invoke/MethodHandle" ∧ yX9_tables.cls ≠ "java/lang/invoke/VarHandle" ∧ (parseMethodDescriptor yX9_tables.desc).map (fun d => d.parameters.length) = some 0 := by decide +kernel
theorem ds_X9_worthAt : yX9_worthAt.cls = RX9 ∧ yX9_worthAt.cls ≠ "java/lang/invoke/MethodHandle" ∧ yX9_worthAt.cls ≠ "java/lang/invoke/VarHandle" ∧ (parseMethodDescriptor yX9_worthAt.desc).map (fun d => d.parameters.length) = some 2 := by decide +kernel
theorem ds_X9_winsAt : yX9_winsAt.cls = RX9 ∧ yX9_winsAt.cls ≠ "java/lang/invoke/MethodHandle" ∧ yX9_winsAt.cls ≠ "java/lang/invoke/VarHandle" ∧ (parseMethodDescriptor yX9_winsAt.desc).map (fun d => d.parameters.length) = some 2 := by decide +kernel
theorem ds_X9_longAt : yX9_longAt.cls = RX9 ∧ yX9_longAt.cls ≠ "java/lang/invoke/MethodHandle" ∧ yX9_longAt.cls ≠ "java/lang/invoke/VarHandle" ∧ (parseMethodDescriptor yX9_longAt.desc).map (fun d => d.parameters.length) = some 2 := by decide +kernel
theorem ds_X9_nimAt : yX9_nimAt.cls = RX9 ∧ yX9_nimAt.cls ≠ "java/lang/invoke/MethodHandle" ∧ yX9_nimAt.cls ≠ "java/lang/invoke/VarHandle" ∧ (parseMethodDescriptor yX9_nimAt.desc).map (fun d => d.parameters.length) = some 2 := by decide +kernel
theorem ds_X9_setNow : yX9_setNow.cls = RX9 ∧ yX9_setNow.cls ≠ "java/lang/invoke/MethodHandle" ∧ yX9_setNow.cls ≠ "java/lang/invoke/VarHandle" ∧ (parseMethodDescriptor yX9_setNow.desc).map (fun d => d.parameters.length) = some 0 := by decide +kernel
theorem ds_X9_movesNow : yX9_movesNow.cls = RX9 ∧ yX9_movesNow.cls ≠ "java/lang/invoke/MethodHandle" ∧ yX9_movesNow.cls ≠ "java/lang/invoke/VarHandle" ∧ (parseMethodDescriptor yX9_movesNow.desc).map (fun d => d.parameters.length) = some 0 := by decide +kernel
theorem ds_X9_isOver : yX9_isOver.cls = RX9 ∧ yX9_isOver.cls ≠ "java/lang/invoke/MethodHandle" ∧ yX9_isOver.cls ≠ "java/lang/invoke/VarHandle" ∧ (parseMethodDescriptor yX9_isOver.desc).map (fun d => d.parameters.length) = some 0 := by decide +kernel
theorem ds_X9_winsBehind : yX9_winsBehind.cls = RX9 ∧ yX9_winsBehind.cls ≠ "java/lang/invoke/MethodHandle" ∧ yX9_winsBehind.cls ≠ "java/lang/invoke/VarHandle" ∧ (parseMethodDescriptor yX9_winsBehind.desc).map (fun d => d.parameters.length) = some 1 := by decide +kernel
theorem ds_X9_beginsAt : yX9_beginsAt.cls = RX9 ∧ yX9_beginsAt.cls ≠ "java/lang/invoke/MethodHandle" ∧ yX9_beginsAt.cls ≠ "java/lang/invoke/VarHandle" ∧ (parseMethodDescriptor yX9_beginsAt.desc).map (fun d => d.parameters.length) = some 2 := by decide +kernel
theorem ds_X9_begin : yX9_begin.cls = RX9 ∧ yX9_begin.cls ≠ "java/lang/invoke/MethodHandle" ∧ yX9_begin.cls ≠ "java/lang/invoke/VarHandle" ∧ (parseMethodDescriptor yX9_begin.desc).map (fun d => d.parameters.length) = some 2 := by decide +kernel
theorem ds_X9_goes : yX9_goes.cls = RX9 ∧ yX9_goes.cls ≠ "java/lang/invoke/MethodHandle" ∧ yX9_goes.cls ≠ "java/lang/invoke/VarHandle" ∧ (parseMethodDescriptor yX9_goes.desc).map (fun d => d.parameters.length) = some 1 := by decide +kernel
theorem ds_X9_go : yX9_go.cls = RX9 ∧ yX9_go.cls ≠ "java/lang/invoke/MethodHandle" ∧ yX9_go.cls ≠ "java/lang/invoke/VarHandle" ∧ (parseMethodDescriptor yX9_go.desc).map (fun d => d.parameters.length) = some 1 := by decide +kernel
theorem ds_X9_goesBack : yX9_goesBack.cls = RX9 ∧ yX9_goesBack.cls ≠ "java/lang/invoke/MethodHandle" ∧ yX9_goesBack.cls ≠ "java/lang/invoke/VarHandle" ∧ (parseMethodDescriptor yX9_goesBack.desc).map (fun d => d.parameters.length) = some 0 := by decide +kernel
theorem ds_X9_back : yX9_back.cls = RX9 ∧ yX9_back.cls ≠ "java/lang/invoke/MethodHandle" ∧ yX9_back.cls ≠ "java/lang/invoke/VarHandle" ∧ (parseMethodDescriptor yX9_back.desc).map (fun d => d.parameters.length) = some 0 := by decide +kernel
theorem ds_X9_mover : yX9_mover.cls = RX9 ∧ yX9_mover.cls ≠ "java/lang/invoke/MethodHandle" ∧ yX9_mover.cls ≠ "java/lang/invoke/VarHandle" ∧ (parseMethodDescriptor yX9_mover.desc).map (fun d => d.parameters.length) = some 0 := by decide +kernel
theorem ds_X9_winner : yX9_winner.cls = RX9 ∧ yX9_winner.cls ≠ "java/lang/invoke/MethodHandle" ∧ yX9_winner.cls ≠ "java/lang/invoke/VarHandle" ∧ (parseMethodDescriptor yX9_winner.desc).map (fun d => d.parameters.length) = some 0 := by decide +kernel
theorem ds_X9_game : yX9_game.cls = RX9 ∧ yX9_game.cls ≠ "java/lang/invoke/MethodHandle" ∧ yX9_game.cls ≠ "java/lang/invoke/VarHandle" ∧ (parseMethodDescriptor yX9_game.desc).map (fun d => d.parameters.length) = some 1 := by decide +kernel
theorem ds_X9_moved : yX9_moved.cls = RX9 ∧ yX9_moved.cls ≠ "java/lang/invoke/MethodHandle" ∧ yX9_moved.cls ≠ "java/lang/invoke/VarHandle" ∧ (parseMethodDescriptor yX9_moved.desc).map (fun d => d.parameters.length) = some 1 := by decide +kernel
theorem ds_X9_winning : yX9_winning.cls = RX9 ∧ yX9_winning.cls ≠ "java/lang/invoke/MethodHandle" ∧ yX9_winning.cls ≠ "java/lang/invoke/VarHandle" ∧ (parseMethodDescriptor yX9_winning.desc).map (fun d => d.parameters.length) = some 0 := by decide +kernel
theorem ds_X9_moves : yX9_moves.cls = RX9 ∧ yX9_moves.cls ≠ "java/lang/invoke/MethodHandle" ∧ yX9_moves.cls ≠ "java/lang/invoke/VarHandle" ∧ (parseMethodDescriptor yX9_moves.desc).map (fun d => d.parameters.length) = some 1 := by decide +kernel
theorem ds_X9_worth : yX9_worth.cls = RX9 ∧ yX9_worth.cls ≠ "java/lang/invoke/MethodHandle" ∧ yX9_worth.cls ≠ "java/lang/invoke/VarHandle" ∧ (parseMethodDescriptor yX9_worth.desc).map (fun d => d.parameters.length) = some 1 := by decide +kernel
theorem ds_X9_reaches : yX9_reaches.cls = RX9 ∧ yX9_reaches.cls ≠ "java/lang/invoke/MethodHandle" ∧ yX9_reaches.cls ≠ "java/lang/invoke/VarHandle" ∧ (parseMethodDescriptor yX9_reaches.desc).map (fun d => d.parameters.length) = some 2 := by decide +kernel
theorem ds_X9_reach : yX9_reach.cls = RX9 ∧ yX9_reach.cls ≠ "java/lang/invoke/MethodHandle" ∧ yX9_reach.cls ≠ "java/lang/invoke/VarHandle" ∧ (parseMethodDescriptor yX9_reach.desc).map (fun d => d.parameters.length) = some 0 := by decide +kernel
theorem ds_X9_starts : yX9_starts.cls = RX9 ∧ yX9_starts.cls ≠ "java/lang/invoke/MethodHandle" ∧ yX9_starts.cls ≠ "java/lang/invoke/VarHandle" ∧ (parseMethodDescriptor yX9_starts.desc).map (fun d => d.parameters.length) = some 1 := by decide +kernel
theorem ds_X9_isCode : yX9_isCode.cls ≠ "java/lang/invoke/MethodHandle" ∧ yX9_isCode.cls ≠ "java/lang/invoke/VarHandle" ∧ (parseMethodDescriptor yX9_isCode.desc).map (fun d => d.parameters.length) = some 1 := by decide +kernel
theorem ds_X9_least : yX9_least.cls ≠ "java/lang/invoke/MethodHandle" ∧ yX9_least.cls ≠ "java/lang/invoke/VarHandle" ∧ (parseMethodDescriptor yX9_least.desc).map (fun d => d.parameters.length) = some 1 := by decide +kernel
theorem ds_X9_greatest : yX9_greatest.cls ≠ "java/lang/invoke/MethodHandle" ∧ yX9_greatest.cls ≠ "java/lang/invoke/VarHandle" ∧ (parseMethodDescriptor yX9_greatest.desc).map (fun d => d.parameters.length) = some 1 := by decide +kernel
theorem ds_X9_drawn : yX9_drawn.cls = RX9 ∧ yX9_drawn.cls ≠ "java/lang/invoke/MethodHandle" ∧ yX9_drawn.cls ≠ "java/lang/invoke/VarHandle" ∧ (parseMethodDescriptor yX9_drawn.desc).map (fun d => d.parameters.length) = some 1 := by decide +kernel
theorem ds_X9_bestBy : yX9_bestBy.cls = RX9 ∧ yX9_bestBy.cls ≠ "java/lang/invoke/MethodHandle" ∧ yX9_bestBy.cls ≠ "java/lang/invoke/VarHandle" ∧ (parseMethodDescriptor yX9_bestBy.desc).map (fun d => d.parameters.length) = some 2 := by decide +kernel
theorem ds_X9_paired : yX9_paired.cls = RX9 ∧ yX9_paired.cls ≠ "java/lang/invoke/MethodHandle" ∧ yX9_paired.cls ≠ "java/lang/invoke/VarHandle" ∧ (parseMethodDescriptor yX9_paired.desc).map (fun d => d.parameters.length) = some 1 := by decide +kernel
theorem ds_X9_simple : yX9_simple.cls = RX9 ∧ yX9_simple.cls ≠ "java/lang/invoke/MethodHandle" ∧ yX9_simple.cls ≠ "java/lang/invoke/VarHandle" ∧ (parseMethodDescriptor yX9_simple.desc).map (fun d => d.parameters.length) = some 1 := by decide +kernel
theorem ds_X9_planned : yX9_planned.cls = RX9 ∧ yX9_planned.cls ≠ "java/lang/invoke/MethodHandle" ∧ yX9_planned.cls ≠ "java/lang/invoke/VarHandle" ∧ (parseMethodDescriptor yX9_planned.desc).map (fun d => d.parameters.length) = some 1 := by decide +kernel
theorem ds_X9_tells : yX9_tells.cls = RX9 ∧ yX9_tells.cls ≠ "java/lang/invoke/MethodHandle" ∧ yX9_tells.cls ≠ "java/lang/invoke/VarHandle" ∧ (parseMethodDescriptor yX9_tells.desc).map (fun d => d.parameters.length) = some 1 := by decide +kernel
theorem ds_X9_plays : yX9_plays.cls = RX9 ∧ yX9_plays.cls ≠ "java/lang/invoke/MethodHandle" ∧ yX9_plays.cls ≠ "java/lang/invoke/VarHandle" ∧ (parseMethodDescriptor yX9_plays.desc).map (fun d => d.parameters.length) = some 3 := by decide +kernel
theorem ds_X9_play : yX9_play.cls = RX9 ∧ yX9_play.cls ≠ "java/lang/invoke/MethodHandle" ∧ yX9_play.cls ≠ "java/lang/invoke/VarHandle" ∧ (parseMethodDescriptor yX9_play.desc).map (fun d => d.parameters.length) = some 3 := by decide +kernel
theorem ds_X9_fight : yX9_fight.cls = RX9 ∧ yX9_fight.cls ≠ "java/lang/invoke/MethodHandle" ∧ yX9_fight.cls ≠ "java/lang/invoke/VarHandle" ∧ (parseMethodDescriptor yX9_fight.desc).map (fun d => d.parameters.length) = some 3 := by decide +kernel
theorem ds_X9_grows : yX9_grows.cls = RX9 ∧ yX9_grows.cls ≠ "java/lang/invoke/MethodHandle" ∧ yX9_grows.cls ≠ "java/lang/invoke/VarHandle" ∧ (parseMethodDescriptor yX9_grows.desc).map (fun d => d.parameters.length) = some 5 := by decide +kernel
theorem ds_X9_isGrown : yX9_isGrown.cls = RX9 ∧ yX9_isGrown.cls ≠ "java/lang/invoke/MethodHandle" ∧ yX9_isGrown.cls ≠ "java/lang/invoke/VarHandle" ∧ (parseMethodDescriptor yX9_isGrown.desc).map (fun d => d.parameters.length) = some 0 := by decide +kernel
theorem ds_X9_tree : yX9_tree.cls = RX9 ∧ yX9_tree.cls ≠ "java/lang/invoke/MethodHandle" ∧ yX9_tree.cls ≠ "java/lang/invoke/VarHandle" ∧ (parseMethodDescriptor yX9_tree.desc).map (fun d => d.parameters.length) = some 1 := by decide +kernel
theorem ds_X9_node : yX9_node.cls = RX9 ∧ yX9_node.cls ≠ "java/lang/invoke/MethodHandle" ∧ yX9_node.cls ≠ "java/lang/invoke/VarHandle" ∧ (parseMethodDescriptor yX9_node.desc).map (fun d => d.parameters.length) = some 1 := by decide +kernel
theorem ds_X9_isSheet : yX9_isSheet.cls ≠ "java/lang/invoke/MethodHandle" ∧ yX9_isSheet.cls ≠ "java/lang/invoke/VarHandle" ∧ (parseMethodDescriptor yX9_isSheet.desc).map (fun d => d.parameters.length) = some 1 := by decide +kernel
theorem ds_X9_sheet : yX9_sheet.cls = RX9 ∧ yX9_sheet.cls ≠ "java/lang/invoke/MethodHandle" ∧ yX9_sheet.cls ≠ "java/lang/invoke/VarHandle" ∧ (parseMethodDescriptor yX9_sheet.desc).map (fun d => d.parameters.length) = some 3 := by decide +kernel
theorem ds_X9_wrongCell : yX9_wrongCell.cls = RX9 ∧ yX9_wrongCell.cls ≠ "java/lang/invoke/MethodHandle" ∧ yX9_wrongCell.cls ≠ "java/lang/invoke/VarHandle" ∧ (parseMethodDescriptor yX9_wrongCell.desc).map (fun d => d.parameters.length) = some 2 := by decide +kernel
theorem ds_X9_lays : yX9_lays.cls = RX9 ∧ yX9_lays.cls ≠ "java/lang/invoke/MethodHandle" ∧ yX9_lays.cls ≠ "java/lang/invoke/VarHandle" ∧ (parseMethodDescriptor yX9_lays.desc).map (fun d => d.parameters.length) = some 3 := by decide +kernel
theorem ds_X9_put : yX9_put.cls = RX9 ∧ yX9_put.cls ≠ "java/lang/invoke/MethodHandle" ∧ yX9_put.cls ≠ "java/lang/invoke/VarHandle" ∧ (parseMethodDescriptor yX9_put.desc).map (fun d => d.parameters.length) = some 3 := by decide +kernel
theorem ds_X9_number : yX9_number.cls = RX9 ∧ yX9_number.cls ≠ "java/lang/invoke/MethodHandle" ∧ yX9_number.cls ≠ "java/lang/invoke/VarHandle" ∧ (parseMethodDescriptor yX9_number.desc).map (fun d => d.parameters.length) = some 2 := by decide +kernel
theorem ds_X9_copy : yX9_copy.cls = RX9 ∧ yX9_copy.cls ≠ "java/lang/invoke/MethodHandle" ∧ yX9_copy.cls ≠ "java/lang/invoke/VarHandle" ∧ (parseMethodDescriptor yX9_copy.desc).map (fun d => d.parameters.length) = some 5 := by decide +kernel
theorem ds_X9_degrees : yX9_degrees.cls = RX9 ∧ yX9_degrees.cls ≠ "java/lang/invoke/MethodHandle" ∧ yX9_degrees.cls ≠ "java/lang/invoke/VarHandle" ∧ (parseMethodDescriptor yX9_degrees.desc).map (fun d => d.parameters.length) = some 2 := by decide +kernel
theorem ds_X9_walks : yX9_walks.cls = RX9 ∧ yX9_walks.cls ≠ "java/lang/invoke/MethodHandle" ∧ yX9_walks.cls ≠ "java/lang/invoke/VarHandle" ∧ (parseMethodDescriptor yX9_walks.desc).map (fun d => d.parameters.length) = some 2 := by decide +kernel
theorem ds_X9_seed : yX9_seed.cls = RX9 ∧ yX9_seed.cls ≠ "java/lang/invoke/MethodHandle" ∧ yX9_seed.cls ≠ "java/lang/invoke/VarHandle" ∧ (parseMethodDescriptor yX9_seed.desc).map (fun d => d.parameters.length) = some 1 := by decide +kernel
theorem ds_X9_image : yX9_image.cls = RX9 ∧ yX9_image.cls ≠ "java/lang/invoke/MethodHandle" ∧ yX9_image.cls ≠ "java/lang/invoke/VarHandle" ∧ (parseMethodDescriptor yX9_image.desc).map (fun d => d.parameters.length) = some 0 := by decide +kernel
theorem ds_X9_restore : yX9_restore.cls = RX9 ∧ yX9_restore.cls ≠ "java/lang/invoke/MethodHandle" ∧ yX9_restore.cls ≠ "java/lang/invoke/VarHandle" ∧ (parseMethodDescriptor yX9_restore.desc).map (fun d => d.parameters.length) = some 0 := by decide +kernel
theorem ds_X9_sheetsThere : yX9_sheetsThere.cls = RX9 ∧ yX9_sheetsThere.cls ≠ "java/lang/invoke/MethodHandle" ∧ yX9_sheetsThere.cls ≠ "java/lang/invoke/VarHandle" ∧ (parseMethodDescriptor yX9_sheetsThere.desc).map (fun d => d.parameters.length) = some 0 := by decide +kernel
theorem ds_X9_count : yX9_count.cls = RX9 ∧ yX9_count.cls ≠ "java/lang/invoke/MethodHandle" ∧ yX9_count.cls ≠ "java/lang/invoke/VarHandle" ∧ (parseMethodDescriptor yX9_count.desc).map (fun d => d.parameters.length) = some 1 := by decide +kernel
theorem ds_X9_told : yX9_told.cls = RX9 ∧ yX9_told.cls ≠ "java/lang/invoke/MethodHandle" ∧ yX9_told.cls ≠ "java/lang/invoke/VarHandle" ∧ (parseMethodDescriptor yX9_told.desc).map (fun d => d.parameters.length) = some 1 := by decide +kernel
theorem ds_J6_lowestOneBit_0f7a4 : yJ6_lowestOneBit_0f7a4.cls ≠ "java/lang/invoke/MethodHandle" ∧ yJ6_lowestOneBit_0f7a4.cls ≠ "java/lang/invoke/VarHandle" ∧ (parseMethodDescriptor yJ6_lowestOneBit_0f7a4.desc).map (fun d => d.parameters.length) = some 1 := by decide +kernel
theorem ds_J6_numberOfLeadingZeros_0f7a4 : yJ6_numberOfLeadingZeros_0f7a4.cls ≠ "java/lang/invoke/MethodHandle" ∧ yJ6_numberOfLeadingZeros_0f7a4.cls ≠ "java/lang/invoke/VarHandle" ∧ (parseMethodDescriptor yJ6_numberOfLeadingZeros_0f7a4.desc).map (fun d => d.parameters.length) = some 1 := by decide +kernel
theorem ds_J6_numberOfTrailingZeros_0f7a4 : yJ6_numberOfTrailingZeros_0f7a4.cls ≠ "java/lang/invoke/MethodHandle" ∧ yJ6_numberOfTrailingZeros_0f7a4.cls ≠ "java/lang/invoke/VarHandle" ∧ (parseMethodDescriptor yJ6_numberOfTrailingZeros_0f7a4.desc).map (fun d => d.parameters.length) = some 1 := by decide +kernel
theorem ds_J6_bitCount_0f7a4 : yJ6_bitCount_0f7a4.cls ≠ "java/lang/invoke/MethodHandle" ∧ yJ6_bitCount_0f7a4.cls ≠ "java/lang/invoke/VarHandle" ∧ (parseMethodDescriptor yJ6_bitCount_0f7a4.desc).map (fun d => d.parameters.length) = some 1 := by decide +kernel
theorem ds_J9_max_7cf53 : yJ9_max_7cf53.cls ≠ "java/lang/invoke/MethodHandle" ∧ yJ9_max_7cf53.cls ≠ "java/lang/invoke/VarHandle" ∧ (parseMethodDescriptor yJ9_max_7cf53.desc).map (fun d => d.parameters.length) = some 2 := by decide +kernel
theorem ds_J9_min_7cf53 : yJ9_min_7cf53.cls ≠ "java/lang/invoke/MethodHandle" ∧ yJ9_min_7cf53.cls ≠ "java/lang/invoke/VarHandle" ∧ (parseMethodDescriptor yJ9_min_7cf53.desc).map (fun d => d.parameters.length) = some 2 := by decide +kernel
theorem ds_J7_fill_53178 : yJ7_fill_53178.cls ≠ "java/lang/invoke/MethodHandle" ∧ yJ7_fill_53178.cls ≠ "java/lang/invoke/VarHandle" ∧ (parseMethodDescriptor yJ7_fill_53178.desc).map (fun d => d.parameters.length) = some 2 := by decide +kernel
theorem tw214 : Cond.methodLink RX0 3 objectInit ∈ zt := zt_at 214 (by decide +kernel)
theorem tw146 : Cond.methodLink RX1 3 objectInit ∈ zt := zt_at 146 (by decide +kernel)
theorem tw485 : Cond.methodLink RX1 29 yJ7_fill_53178 ∈ zt := zt_at 485 (by decide +kernel)
theorem tw321 : Cond.static yJ7_fill_53178 ∈ zt := zt_at 321 (by decide +kernel)
theorem tw78 : Cond.initialized RJ7 ∈ zt := zt_at 78 (by decide +kernel)
theorem tw322 : Cond.code yJ7_fill_53178 cJ7_fill_53178 4 none ∈ zt := zt_at 322 (by decide +kernel)
theorem cl_X1_29 {σ1 : S3} {d1 : Nat} {As rest st0 : List Value} {r : Int32} (X : zC0 κ RX1 cc nL d) (hd : d1 + 1 ≤ d) (hM : zMet κ.1 zX d1 yJ7_fill_53178 cJ7_fill_53178 4 none As σ none σ1) (hn : As.length = 2) (hst : st0 = As.reverse ++ rest) (hcat : (rest.map fun v => v.category).sum ≤ 8) (hdg : decode cc pc = .ok (.invokestatic 29, 3)) (kk : Z κ nL (zX (ze κ.1) σ1) lv (pc + 3) (rest)) : Z κ nL (zX (ze κ.1) σ) lv pc st0 := z_callS X hd hM tw485 tw321 tw78 tw322 (by decide) ds_J7_fill_53178 hn hst hcat hdg kk
theorem tw525 : Cond.methodLink RX1 35 yX5_marker ∈ zt := zt_at 525 (by decide +kernel)
theorem tw516 : Cond.static yX5_marker ∈ zt := zt_at 516 (by decide +kernel)
theorem tw82 : Cond.initialized RX5 ∈ zt := zt_at 82 (by decide +kernel)
theorem tw517 : Cond.code yX5_marker cX5_marker 1 (some .int) ∈ zt := zt_at 517 (by decide +kernel)
theorem cl_X1_35 {σ1 : S3} {d1 : Nat} {As rest st0 : List Value} {r : Int32} (X : zC0 κ RX1 cc nL d) (hd : d1 + 1 ≤ d) (hM : zMet κ.1 zX d1 yX5_marker cX5_marker 1 (some .int) As σ (some (.int r)) σ1) (hn : As.length = 1) (hst : st0 = As.reverse ++ rest) (hcat : (rest.map fun v => v.category).sum ≤ 8) (hdg : decode cc pc = .ok (.invokestatic 35, 3)) (kk : Z κ nL (zX (ze κ.1) σ1) lv (pc + 3) (.int r :: rest)) : Z κ nL (zX (ze κ.1) σ) lv pc st0 := z_callS X hd hM tw525 tw516 tw82 tw517 (by decide) ds_X5_marker hn hst hcat hdg kk
theorem tw505 : Cond.methodLink RX1 47 yX1_overLines ∈ zt := zt_at 505 (by decide +kernel)
theorem tw507 : Cond.instanceMethod yX1_overLines ∈ zt := zt_at 507 (by decide +kernel)
theorem tw8 : Cond.selects RX1 yX1_overLines yX1_overLines ∈ zt := zt_at 8 (by decide +kernel)
theorem tw71 : Cond.initialized RX1 ∈ zt := zt_at 71 (by decide +kernel)
theorem tw508 : Cond.code yX1_overLines cX1_overLines 1 (some .boolean) ∈ zt := zt_at 508 (by decide +kernel)
theorem cl_X1_47 {σ1 : S3} {d1 b : Nat} {As rest st0 : List Value} {r : Int32} (X : zC0 κ RX1 cc nL d) (hd : d1 + 1 ≤ d) (hM : zMet κ.1 zX d1 yX1_overLines cX1_overLines 1 (some .boolean) (.ref b :: As) σ (some (.int r)) σ1) (he : ∃ (q : Nat) (fs : List Value), (zX (ze κ.1) σ)[q]? = some (b, .inr (1, fs))) (hn : As.length = 0) (hst : st0 = As.reverse ++ .ref b :: rest) (hcat : (rest.map fun v => v.category).sum ≤ 8) (hdg : decode cc pc = .ok (.invokevirtual 47, 3)) (kk : Z κ nL (zX (ze κ.1) σ1) lv (pc + 3) (.int r :: rest)) : Z κ nL (zX (ze κ.1) σ) lv pc st0 := by
  obtain ⟨q, fs, he⟩ := he
  exact z_callV X hd hM he rfl tw505 tw507 tw8 tw71 tw508 (by decide) ds_X1_overLines hn hst hcat hdg kk
theorem tw509 : Cond.methodLink RX1 51 yX5_gone ∈ zt := zt_at 509 (by decide +kernel)
theorem tw510 : Cond.static yX5_gone ∈ zt := zt_at 510 (by decide +kernel)
theorem tw511 : Cond.code yX5_gone cX5_gone 1 (some .int) ∈ zt := zt_at 511 (by decide +kernel)
theorem cl_X1_51 {σ1 : S3} {d1 : Nat} {As rest st0 : List Value} {r : Int32} (X : zC0 κ RX1 cc nL d) (hd : d1 + 1 ≤ d) (hM : zMet κ.1 zX d1 yX5_gone cX5_gone 1 (some .int) As σ (some (.int r)) σ1) (hn : As.length = 1) (hst : st0 = As.reverse ++ rest) (hcat : (rest.map fun v => v.category).sum ≤ 8) (hdg : decode cc pc = .ok (.invokestatic 51, 3)) (kk : Z κ nL (zX (ze κ.1) σ1) lv (pc + 3) (.int r :: rest)) : Z κ nL (zX (ze κ.1) σ) lv pc st0 := z_callS X hd hM tw509 tw510 tw82 tw511 (by decide) ds_X5_gone hn hst hcat hdg kk
theorem tw526 : Cond.methodLink RX1 54 yX5_met ∈ zt := zt_at 526 (by decide +kernel)
theorem tw519 : Cond.static yX5_met ∈ zt := zt_at 519 (by decide +kernel)
theorem tw520 : Cond.code yX5_met cX5_met 1 (some .int) ∈ zt := zt_at 520 (by decide +kernel)
theorem cl_X1_54 {σ1 : S3} {d1 : Nat} {As rest st0 : List Value} {r : Int32} (X : zC0 κ RX1 cc nL d) (hd : d1 + 1 ≤ d) (hM : zMet κ.1 zX d1 yX5_met cX5_met 1 (some .int) As σ (some (.int r)) σ1) (hn : As.length = 1) (hst : st0 = As.reverse ++ rest) (hcat : (rest.map fun v => v.category).sum ≤ 8) (hdg : decode cc pc = .ok (.invokestatic 54, 3)) (kk : Z κ nL (zX (ze κ.1) σ1) lv (pc + 3) (.int r :: rest)) : Z κ nL (zX (ze κ.1) σ) lv pc st0 := z_callS X hd hM tw526 tw519 tw82 tw520 (by decide) ds_X5_met hn hst hcat hdg kk
theorem tw527 : Cond.methodLink RX1 60 yX2_otherEnd ∈ zt := zt_at 527 (by decide +kernel)
theorem tw528 : Cond.instanceMethod yX2_otherEnd ∈ zt := zt_at 528 (by decide +kernel)
theorem tw529 : Cond.selects RX2 yX2_otherEnd yX2_otherEnd ∈ zt := zt_at 529 (by decide +kernel)
theorem tw70 : Cond.initialized RX2 ∈ zt := zt_at 70 (by decide +kernel)
theorem tw530 : Cond.code yX2_otherEnd cX2_otherEnd 3 (some .int) ∈ zt := zt_at 530 (by decide +kernel)
theorem cl_X1_60 {σ1 : S3} {d1 b : Nat} {As rest st0 : List Value} {r : Int32} (X : zC0 κ RX1 cc nL d) (hd : d1 + 1 ≤ d) (hM : zMet κ.1 zX d1 yX2_otherEnd cX2_otherEnd 3 (some .int) (.ref b :: As) σ (some (.int r)) σ1) (he : ∃ (q : Nat) (fs : List Value), (zX (ze κ.1) σ)[q]? = some (b, .inr (2, fs))) (hn : As.length = 2) (hst : st0 = As.reverse ++ .ref b :: rest) (hcat : (rest.map fun v => v.category).sum ≤ 8) (hdg : decode cc pc = .ok (.invokevirtual 60, 3)) (kk : Z κ nL (zX (ze κ.1) σ1) lv (pc + 3) (.int r :: rest)) : Z κ nL (zX (ze κ.1) σ) lv pc st0 := by
  obtain ⟨q, fs, he⟩ := he
  exact z_callV X hd hM he rfl tw527 tw528 tw529 tw70 tw530 (by decide) ds_X2_otherEnd hn hst hcat hdg kk
theorem tw535 : Cond.methodLink RX1 64 yX2_hasLine ∈ zt := zt_at 535 (by decide +kernel)
theorem tw347 : Cond.instanceMethod yX2_hasLine ∈ zt := zt_at 347 (by decide +kernel)
theorem tw348 : Cond.selects RX2 yX2_hasLine yX2_hasLine ∈ zt := zt_at 348 (by decide +kernel)
theorem tw349 : Cond.code yX2_hasLine cX2_hasLine 2 (some .boolean) ∈ zt := zt_at 349 (by decide +kernel)
theorem cl_X1_64 {σ1 : S3} {d1 b : Nat} {As rest st0 : List Value} {r : Int32} (X : zC0 κ RX1 cc nL d) (hd : d1 + 1 ≤ d) (hM : zMet κ.1 zX d1 yX2_hasLine cX2_hasLine 2 (some .boolean) (.ref b :: As) σ (some (.int r)) σ1) (he : ∃ (q : Nat) (fs : List Value), (zX (ze κ.1) σ)[q]? = some (b, .inr (2, fs))) (hn : As.length = 1) (hst : st0 = As.reverse ++ .ref b :: rest) (hcat : (rest.map fun v => v.category).sum ≤ 8) (hdg : decode cc pc = .ok (.invokevirtual 64, 3)) (kk : Z κ nL (zX (ze κ.1) σ1) lv (pc + 3) (.int r :: rest)) : Z κ nL (zX (ze κ.1) σ) lv pc st0 := by
  obtain ⟨q, fs, he⟩ := he
  exact z_callV X hd hM he rfl tw535 tw347 tw348 tw70 tw349 (by decide) ds_X2_hasLine hn hst hcat hdg kk
theorem tw536 : Cond.methodLink RX1 68 yX5_behind ∈ zt := zt_at 536 (by decide +kernel)
theorem tw537 : Cond.static yX5_behind ∈ zt := zt_at 537 (by decide +kernel)
theorem tw538 : Cond.code yX5_behind cX5_behind 3 (some .int) ∈ zt := zt_at 538 (by decide +kernel)
theorem cl_X1_68 {σ1 : S3} {d1 : Nat} {As rest st0 : List Value} {r : Int32} (X : zC0 κ RX1 cc nL d) (hd : d1 + 1 ≤ d) (hM : zMet κ.1 zX d1 yX5_behind cX5_behind 3 (some .int) As σ (some (.int r)) σ1) (hn : As.length = 3) (hst : st0 = As.reverse ++ rest) (hcat : (rest.map fun v => v.category).sum ≤ 8) (hdg : decode cc pc = .ok (.invokestatic 68, 3)) (kk : Z κ nL (zX (ze κ.1) σ1) lv (pc + 3) (.int r :: rest)) : Z κ nL (zX (ze κ.1) σ) lv pc st0 := z_callS X hd hM tw536 tw537 tw82 tw538 (by decide) ds_X5_behind hn hst hcat hdg kk
theorem tw501 : Cond.methodLink RX1 72 yX1_weigh ∈ zt := zt_at 501 (by decide +kernel)
theorem tw503 : Cond.instanceMethod yX1_weigh ∈ zt := zt_at 503 (by decide +kernel)
theorem tw7 : Cond.selects RX1 yX1_weigh yX1_weigh ∈ zt := zt_at 7 (by decide +kernel)
theorem tw504 : Cond.code yX1_weigh cX1_weigh 10 (some .int) ∈ zt := zt_at 504 (by decide +kernel)
theorem cl_X1_72 {σ1 : S3} {d1 b : Nat} {As rest st0 : List Value} {r : Int32} (X : zC0 κ RX1 cc nL d) (hd : d1 + 1 ≤ d) (hM : zMet κ.1 zX d1 yX1_weigh cX1_weigh 10 (some .int) (.ref b :: As) σ (some (.int r)) σ1) (he : ∃ (q : Nat) (fs : List Value), (zX (ze κ.1) σ)[q]? = some (b, .inr (1, fs))) (hn : As.length = 2) (hst : st0 = As.reverse ++ .ref b :: rest) (hcat : (rest.map fun v => v.category).sum ≤ 8) (hdg : decode cc pc = .ok (.invokevirtual 72, 3)) (kk : Z κ nL (zX (ze κ.1) σ1) lv (pc + 3) (.int r :: rest)) : Z κ nL (zX (ze κ.1) σ) lv pc st0 := by
  obtain ⟨q, fs, he⟩ := he
  exact z_callV X hd hM he rfl tw501 tw503 tw7 tw71 tw504 (by decide) ds_X1_weigh hn hst hcat hdg kk
theorem tw539 : Cond.methodLink RX1 75 yX1_winsAs ∈ zt := zt_at 539 (by decide +kernel)
theorem tw540 : Cond.static yX1_winsAs ∈ zt := zt_at 540 (by decide +kernel)
theorem tw541 : Cond.code yX1_winsAs cX1_winsAs 1 (some .boolean) ∈ zt := zt_at 541 (by decide +kernel)
theorem cl_X1_75 {σ1 : S3} {d1 : Nat} {As rest st0 : List Value} {r : Int32} (X : zC0 κ RX1 cc nL d) (hd : d1 + 1 ≤ d) (hM : zMet κ.1 zX d1 yX1_winsAs cX1_winsAs 1 (some .boolean) As σ (some (.int r)) σ1) (hn : As.length = 1) (hst : st0 = As.reverse ++ rest) (hcat : (rest.map fun v => v.category).sum ≤ 8) (hdg : decode cc pc = .ok (.invokestatic 75, 3)) (kk : Z κ nL (zX (ze κ.1) σ1) lv (pc + 3) (.int r :: rest)) : Z κ nL (zX (ze κ.1) σ) lv pc st0 := z_callS X hd hM tw539 tw540 tw71 tw541 (by decide) ds_X1_winsAs hn hst hcat hdg kk
theorem tw588 : Cond.methodLink RX1 78 yX1_wins ∈ zt := zt_at 588 (by decide +kernel)
theorem tw498 : Cond.instanceMethod yX1_wins ∈ zt := zt_at 498 (by decide +kernel)
theorem tw499 : Cond.selects RX1 yX1_wins yX1_wins ∈ zt := zt_at 499 (by decide +kernel)
theorem tw500 : Cond.code yX1_wins cX1_wins 2 (some .boolean) ∈ zt := zt_at 500 (by decide +kernel)
theorem cl_X1_78 {σ1 : S3} {d1 b : Nat} {As rest st0 : List Value} {r : Int32} (X : zC0 κ RX1 cc nL d) (hd : d1 + 1 ≤ d) (hM : zMet κ.1 zX d1 yX1_wins cX1_wins 2 (some .boolean) (.ref b :: As) σ (some (.int r)) σ1) (he : ∃ (q : Nat) (fs : List Value), (zX (ze κ.1) σ)[q]? = some (b, .inr (1, fs))) (hn : As.length = 1) (hst : st0 = As.reverse ++ .ref b :: rest) (hcat : (rest.map fun v => v.category).sum ≤ 8) (hdg : decode cc pc = .ok (.invokevirtual 78, 3)) (kk : Z κ nL (zX (ze κ.1) σ1) lv (pc + 3) (.int r :: rest)) : Z κ nL (zX (ze κ.1) σ) lv pc st0 := by
  obtain ⟨q, fs, he⟩ := he
  exact z_callV X hd hM he rfl tw588 tw498 tw499 tw71 tw500 (by decide) ds_X1_wins hn hst hcat hdg kk
theorem tw542 : Cond.methodLink RX1 81 yX1_lengthAs ∈ zt := zt_at 542 (by decide +kernel)
theorem tw543 : Cond.static yX1_lengthAs ∈ zt := zt_at 543 (by decide +kernel)
theorem tw544 : Cond.code yX1_lengthAs cX1_lengthAs 1 (some .int) ∈ zt := zt_at 544 (by decide +kernel)
theorem cl_X1_81 {σ1 : S3} {d1 : Nat} {As rest st0 : List Value} {r : Int32} (X : zC0 κ RX1 cc nL d) (hd : d1 + 1 ≤ d) (hM : zMet κ.1 zX d1 yX1_lengthAs cX1_lengthAs 1 (some .int) As σ (some (.int r)) σ1) (hn : As.length = 1) (hst : st0 = As.reverse ++ rest) (hcat : (rest.map fun v => v.category).sum ≤ 8) (hdg : decode cc pc = .ok (.invokestatic 81, 3)) (kk : Z κ nL (zX (ze κ.1) σ1) lv (pc + 3) (.int r :: rest)) : Z κ nL (zX (ze κ.1) σ) lv pc st0 := z_callS X hd hM tw542 tw543 tw71 tw544 (by decide) ds_X1_lengthAs hn hst hcat hdg kk
theorem tw549 : Cond.methodLink RX1 84 yX1_nimAs ∈ zt := zt_at 549 (by decide +kernel)
theorem tw550 : Cond.static yX1_nimAs ∈ zt := zt_at 550 (by decide +kernel)
theorem tw551 : Cond.code yX1_nimAs cX1_nimAs 1 (some .int) ∈ zt := zt_at 551 (by decide +kernel)
theorem cl_X1_84 {σ1 : S3} {d1 : Nat} {As rest st0 : List Value} {r : Int32} (X : zC0 κ RX1 cc nL d) (hd : d1 + 1 ≤ d) (hM : zMet κ.1 zX d1 yX1_nimAs cX1_nimAs 1 (some .int) As σ (some (.int r)) σ1) (hn : As.length = 1) (hst : st0 = As.reverse ++ rest) (hcat : (rest.map fun v => v.category).sum ≤ 8) (hdg : decode cc pc = .ok (.invokestatic 84, 3)) (kk : Z κ nL (zX (ze κ.1) σ1) lv (pc + 3) (.int r :: rest)) : Z κ nL (zX (ze κ.1) σ) lv pc st0 := z_callS X hd hM tw549 tw550 tw71 tw551 (by decide) ds_X1_nimAs hn hst hcat hdg kk
theorem tw521 : Cond.methodLink RX1 87 yX1_movesFrom ∈ zt := zt_at 521 (by decide +kernel)
theorem tw522 : Cond.instanceMethod yX1_movesFrom ∈ zt := zt_at 522 (by decide +kernel)
theorem tw523 : Cond.selects RX1 yX1_movesFrom yX1_movesFrom ∈ zt := zt_at 523 (by decide +kernel)
theorem tw524 : Cond.code yX1_movesFrom cX1_movesFrom 8 (some .int) ∈ zt := zt_at 524 (by decide +kernel)
theorem cl_X1_87 {σ1 : S3} {d1 b : Nat} {As rest st0 : List Value} {r : Int32} (X : zC0 κ RX1 cc nL d) (hd : d1 + 1 ≤ d) (hM : zMet κ.1 zX d1 yX1_movesFrom cX1_movesFrom 8 (some .int) (.ref b :: As) σ (some (.int r)) σ1) (he : ∃ (q : Nat) (fs : List Value), (zX (ze κ.1) σ)[q]? = some (b, .inr (1, fs))) (hn : As.length = 1) (hst : st0 = As.reverse ++ .ref b :: rest) (hcat : (rest.map fun v => v.category).sum ≤ 8) (hdg : decode cc pc = .ok (.invokevirtual 87, 3)) (kk : Z κ nL (zX (ze κ.1) σ1) lv (pc + 3) (.int r :: rest)) : Z κ nL (zX (ze κ.1) σ) lv pc st0 := by
  obtain ⟨q, fs, he⟩ := he
  exact z_callV X hd hM he rfl tw521 tw522 tw523 tw71 tw524 (by decide) ds_X1_movesFrom hn hst hcat hdg kk
theorem tw531 : Cond.methodLink RX1 90 yX1_behind ∈ zt := zt_at 531 (by decide +kernel)
theorem tw532 : Cond.instanceMethod yX1_behind ∈ zt := zt_at 532 (by decide +kernel)
theorem tw533 : Cond.selects RX1 yX1_behind yX1_behind ∈ zt := zt_at 533 (by decide +kernel)
theorem tw534 : Cond.code yX1_behind cX1_behind 3 (some .int) ∈ zt := zt_at 534 (by decide +kernel)
theorem cl_X1_90 {σ1 : S3} {d1 b : Nat} {As rest st0 : List Value} {r : Int32} (X : zC0 κ RX1 cc nL d) (hd : d1 + 1 ≤ d) (hM : zMet κ.1 zX d1 yX1_behind cX1_behind 3 (some .int) (.ref b :: As) σ (some (.int r)) σ1) (he : ∃ (q : Nat) (fs : List Value), (zX (ze κ.1) σ)[q]? = some (b, .inr (1, fs))) (hn : As.length = 2) (hst : st0 = As.reverse ++ .ref b :: rest) (hcat : (rest.map fun v => v.category).sum ≤ 8) (hdg : decode cc pc = .ok (.invokevirtual 90, 3)) (kk : Z κ nL (zX (ze κ.1) σ1) lv (pc + 3) (.int r :: rest)) : Z κ nL (zX (ze κ.1) σ) lv pc st0 := by
  obtain ⟨q, fs, he⟩ := he
  exact z_callV X hd hM he rfl tw531 tw532 tw533 tw71 tw534 (by decide) ds_X1_behind hn hst hcat hdg kk
theorem tw512 : Cond.methodLink RX1 92 yX5_markerAndMet ∈ zt := zt_at 512 (by decide +kernel)
theorem tw513 : Cond.static yX5_markerAndMet ∈ zt := zt_at 513 (by decide +kernel)
theorem tw514 : Cond.code yX5_markerAndMet cX5_markerAndMet 5 (some .int) ∈ zt := zt_at 514 (by decide +kernel)
theorem cl_X1_92 {σ1 : S3} {d1 : Nat} {As rest st0 : List Value} {r : Int32} (X : zC0 κ RX1 cc nL d) (hd : d1 + 1 ≤ d) (hM : zMet κ.1 zX d1 yX5_markerAndMet cX5_markerAndMet 5 (some .int) As σ (some (.int r)) σ1) (hn : As.length = 1) (hst : st0 = As.reverse ++ rest) (hcat : (rest.map fun v => v.category).sum ≤ 8) (hdg : decode cc pc = .ok (.invokestatic 92, 3)) (kk : Z κ nL (zX (ze κ.1) σ1) lv (pc + 3) (.int r :: rest)) : Z κ nL (zX (ze κ.1) σ) lv pc st0 := z_callS X hd hM tw512 tw513 tw82 tw514 (by decide) ds_X5_markerAndMet hn hst hcat hdg kk
theorem tw545 : Cond.methodLink RX1 95 yJ9_min_7cf53 ∈ zt := zt_at 545 (by decide +kernel)
theorem tw548 : Cond.methodLink RX1 100 yJ9_max_7cf53 ∈ zt := zt_at 548 (by decide +kernel)
theorem tw552 : Cond.methodLink RX1 103 yJ6_numberOfTrailingZeros_0f7a4 ∈ zt := zt_at 552 (by decide +kernel)
theorem tw553 : Cond.static yJ6_numberOfTrailingZeros_0f7a4 ∈ zt := zt_at 553 (by decide +kernel)
theorem tw80 : Cond.initialized RJ6 ∈ zt := zt_at 80 (by decide +kernel)
theorem tw554 : Cond.code yJ6_numberOfTrailingZeros_0f7a4 cJ6_numberOfTrailingZeros_0f7a4 2 (some .int) ∈ zt := zt_at 554 (by decide +kernel)
theorem cl_X1_103 {σ1 : S3} {d1 : Nat} {As rest st0 : List Value} {r : Int32} (X : zC0 κ RX1 cc nL d) (hd : d1 + 1 ≤ d) (hM : zMet κ.1 zX d1 yJ6_numberOfTrailingZeros_0f7a4 cJ6_numberOfTrailingZeros_0f7a4 2 (some .int) As σ (some (.int r)) σ1) (hn : As.length = 1) (hst : st0 = As.reverse ++ rest) (hcat : (rest.map fun v => v.category).sum ≤ 8) (hdg : decode cc pc = .ok (.invokestatic 103, 3)) (kk : Z κ nL (zX (ze κ.1) σ1) lv (pc + 3) (.int r :: rest)) : Z κ nL (zX (ze κ.1) σ) lv pc st0 := z_callS X hd hM tw552 tw553 tw80 tw554 (by decide) ds_J6_numberOfTrailingZeros_0f7a4 hn hst hcat hdg kk
theorem tw556 : Cond.methodLink RX1 108 yX1_joined ∈ zt := zt_at 556 (by decide +kernel)
theorem tw557 : Cond.static yX1_joined ∈ zt := zt_at 557 (by decide +kernel)
theorem tw558 : Cond.code yX1_joined cX1_joined 3 (some .int) ∈ zt := zt_at 558 (by decide +kernel)
theorem cl_X1_108 {σ1 : S3} {d1 : Nat} {As rest st0 : List Value} {r : Int32} (X : zC0 κ RX1 cc nL d) (hd : d1 + 1 ≤ d) (hM : zMet κ.1 zX d1 yX1_joined cX1_joined 3 (some .int) As σ (some (.int r)) σ1) (hn : As.length = 3) (hst : st0 = As.reverse ++ rest) (hcat : (rest.map fun v => v.category).sum ≤ 8) (hdg : decode cc pc = .ok (.invokestatic 108, 3)) (kk : Z κ nL (zX (ze κ.1) σ1) lv (pc + 3) (.int r :: rest)) : Z κ nL (zX (ze κ.1) σ) lv pc st0 := z_callS X hd hM tw556 tw557 tw71 tw558 (by decide) ds_X1_joined hn hst hcat hdg kk
theorem tw621 : Cond.methodLink RX1 111 yX1_spread ∈ zt := zt_at 621 (by decide +kernel)
theorem tw623 : Cond.instanceMethod yX1_spread ∈ zt := zt_at 623 (by decide +kernel)
theorem tw10 : Cond.selects RX1 yX1_spread yX1_spread ∈ zt := zt_at 10 (by decide +kernel)
theorem tw624 : Cond.code yX1_spread cX1_spread 5 (some .int) ∈ zt := zt_at 624 (by decide +kernel)
theorem cl_X1_111 {σ1 : S3} {d1 b : Nat} {As rest st0 : List Value} {r : Int32} (X : zC0 κ RX1 cc nL d) (hd : d1 + 1 ≤ d) (hM : zMet κ.1 zX d1 yX1_spread cX1_spread 5 (some .int) (.ref b :: As) σ (some (.int r)) σ1) (he : ∃ (q : Nat) (fs : List Value), (zX (ze κ.1) σ)[q]? = some (b, .inr (1, fs))) (hn : As.length = 1) (hst : st0 = As.reverse ++ .ref b :: rest) (hcat : (rest.map fun v => v.category).sum ≤ 8) (hdg : decode cc pc = .ok (.invokevirtual 111, 3)) (kk : Z κ nL (zX (ze κ.1) σ1) lv (pc + 3) (.int r :: rest)) : Z κ nL (zX (ze κ.1) σ) lv pc st0 := by
  obtain ⟨q, fs, he⟩ := he
  exact z_callV X hd hM he rfl tw621 tw623 tw10 tw71 tw624 (by decide) ds_X1_spread hn hst hcat hdg kk
theorem tw625 : Cond.methodLink RX1 117 yX5_withMarker ∈ zt := zt_at 625 (by decide +kernel)
theorem tw626 : Cond.static yX5_withMarker ∈ zt := zt_at 626 (by decide +kernel)
theorem tw627 : Cond.code yX5_withMarker cX5_withMarker 2 (some .int) ∈ zt := zt_at 627 (by decide +kernel)
theorem cl_X1_117 {σ1 : S3} {d1 : Nat} {As rest st0 : List Value} {r : Int32} (X : zC0 κ RX1 cc nL d) (hd : d1 + 1 ≤ d) (hM : zMet κ.1 zX d1 yX5_withMarker cX5_withMarker 2 (some .int) As σ (some (.int r)) σ1) (hn : As.length = 2) (hst : st0 = As.reverse ++ rest) (hcat : (rest.map fun v => v.category).sum ≤ 8) (hdg : decode cc pc = .ok (.invokestatic 117, 3)) (kk : Z κ nL (zX (ze κ.1) σ1) lv (pc + 3) (.int r :: rest)) : Z κ nL (zX (ze κ.1) σ) lv pc st0 := z_callS X hd hM tw625 tw626 tw82 tw627 (by decide) ds_X5_withMarker hn hst hcat hdg kk
theorem tw628 : Cond.methodLink RX1 120 yX1_farEnds ∈ zt := zt_at 628 (by decide +kernel)
theorem tw630 : Cond.instanceMethod yX1_farEnds ∈ zt := zt_at 630 (by decide +kernel)
theorem tw11 : Cond.selects RX1 yX1_farEnds yX1_farEnds ∈ zt := zt_at 11 (by decide +kernel)
theorem tw631 : Cond.code yX1_farEnds cX1_farEnds 5 (some .int) ∈ zt := zt_at 631 (by decide +kernel)
theorem cl_X1_120 {σ1 : S3} {d1 b : Nat} {As rest st0 : List Value} {r : Int32} (X : zC0 κ RX1 cc nL d) (hd : d1 + 1 ≤ d) (hM : zMet κ.1 zX d1 yX1_farEnds cX1_farEnds 5 (some .int) (.ref b :: As) σ (some (.int r)) σ1) (he : ∃ (q : Nat) (fs : List Value), (zX (ze κ.1) σ)[q]? = some (b, .inr (1, fs))) (hn : As.length = 2) (hst : st0 = As.reverse ++ .ref b :: rest) (hcat : (rest.map fun v => v.category).sum ≤ 8) (hdg : decode cc pc = .ok (.invokevirtual 120, 3)) (kk : Z κ nL (zX (ze κ.1) σ1) lv (pc + 3) (.int r :: rest)) : Z κ nL (zX (ze κ.1) σ) lv pc st0 := by
  obtain ⟨q, fs, he⟩ := he
  exact z_callV X hd hM he rfl tw628 tw630 tw11 tw71 tw631 (by decide) ds_X1_farEnds hn hst hcat hdg kk
theorem tw96 : Cond.methodLink RX2 3 objectInit ∈ zt := zt_at 96 (by decide +kernel)
theorem tw316 : Cond.methodLink RX2 43 yX2_gather ∈ zt := zt_at 316 (by decide +kernel)
theorem tw318 : Cond.instanceMethod yX2_gather ∈ zt := zt_at 318 (by decide +kernel)
theorem tw1 : Cond.selects RX2 yX2_gather yX2_gather ∈ zt := zt_at 1 (by decide +kernel)
theorem tw319 : Cond.code yX2_gather cX2_gather 2 none ∈ zt := zt_at 319 (by decide +kernel)
theorem cl_X2_43 {σ1 : S3} {d1 b : Nat} {As rest st0 : List Value} {r : Int32} (X : zC0 κ RX2 cc nL d) (hd : d1 + 1 ≤ d) (hM : zMet κ.1 zX d1 yX2_gather cX2_gather 2 none (.ref b :: As) σ none σ1) (he : ∃ (q : Nat) (fs : List Value), (zX (ze κ.1) σ)[q]? = some (b, .inr (2, fs))) (hn : As.length = 0) (hst : st0 = As.reverse ++ .ref b :: rest) (hcat : (rest.map fun v => v.category).sum ≤ 8) (hdg : decode cc pc = .ok (.invokevirtual 43, 3)) (kk : Z κ nL (zX (ze κ.1) σ1) lv (pc + 3) (rest)) : Z κ nL (zX (ze κ.1) σ) lv pc st0 := by
  obtain ⟨q, fs, he⟩ := he
  exact z_callV X hd hM he rfl tw316 tw318 tw1 tw70 tw319 (by decide) ds_X2_gather hn hst hcat hdg kk
theorem tw362 : Cond.methodLink RX2 46 arraycopyName ∈ zt := zt_at 362 (by decide +kernel)
theorem tw320 : Cond.methodLink RX2 52 yJ7_fill_53178 ∈ zt := zt_at 320 (by decide +kernel)
theorem cl_X2_52 {σ1 : S3} {d1 : Nat} {As rest st0 : List Value} {r : Int32} (X : zC0 κ RX2 cc nL d) (hd : d1 + 1 ≤ d) (hM : zMet κ.1 zX d1 yJ7_fill_53178 cJ7_fill_53178 4 none As σ none σ1) (hn : As.length = 2) (hst : st0 = As.reverse ++ rest) (hcat : (rest.map fun v => v.category).sum ≤ 8) (hdg : decode cc pc = .ok (.invokestatic 52, 3)) (kk : Z κ nL (zX (ze κ.1) σ1) lv (pc + 3) (rest)) : Z κ nL (zX (ze κ.1) σ) lv pc st0 := z_callS X hd hM tw320 tw321 tw78 tw322 (by decide) ds_J7_fill_53178 hn hst hcat hdg kk
theorem tw323 : Cond.methodLink RX2 58 yX2_lead ∈ zt := zt_at 323 (by decide +kernel)
theorem tw325 : Cond.instanceMethod yX2_lead ∈ zt := zt_at 325 (by decide +kernel)
theorem tw2 : Cond.selects RX2 yX2_lead yX2_lead ∈ zt := zt_at 2 (by decide +kernel)
theorem tw326 : Cond.code yX2_lead cX2_lead 4 none ∈ zt := zt_at 326 (by decide +kernel)
theorem cl_X2_58 {σ1 : S3} {d1 b : Nat} {As rest st0 : List Value} {r : Int32} (X : zC0 κ RX2 cc nL d) (hd : d1 + 1 ≤ d) (hM : zMet κ.1 zX d1 yX2_lead cX2_lead 4 none (.ref b :: As) σ none σ1) (he : ∃ (q : Nat) (fs : List Value), (zX (ze κ.1) σ)[q]? = some (b, .inr (2, fs))) (hn : As.length = 3) (hst : st0 = As.reverse ++ .ref b :: rest) (hcat : (rest.map fun v => v.category).sum ≤ 8) (hdg : decode cc pc = .ok (.invokevirtual 58, 3)) (kk : Z κ nL (zX (ze κ.1) σ1) lv (pc + 3) (rest)) : Z κ nL (zX (ze κ.1) σ) lv pc st0 := by
  obtain ⟨q, fs, he⟩ := he
  exact z_callV X hd hM he rfl tw323 tw325 tw2 tw70 tw326 (by decide) ds_X2_lead hn hst hcat hdg kk
theorem tw377 : Cond.methodLink RX2 62 yJ6_bitCount_0f7a4 ∈ zt := zt_at 377 (by decide +kernel)
theorem tw378 : Cond.static yJ6_bitCount_0f7a4 ∈ zt := zt_at 378 (by decide +kernel)
theorem tw379 : Cond.code yJ6_bitCount_0f7a4 cJ6_bitCount_0f7a4 1 (some .int) ∈ zt := zt_at 379 (by decide +kernel)
theorem cl_X2_62 {σ1 : S3} {d1 : Nat} {As rest st0 : List Value} {r : Int32} (X : zC0 κ RX2 cc nL d) (hd : d1 + 1 ≤ d) (hM : zMet κ.1 zX d1 yJ6_bitCount_0f7a4 cJ6_bitCount_0f7a4 1 (some .int) As σ (some (.int r)) σ1) (hn : As.length = 1) (hst : st0 = As.reverse ++ rest) (hcat : (rest.map fun v => v.category).sum ≤ 8) (hdg : decode cc pc = .ok (.invokestatic 62, 3)) (kk : Z κ nL (zX (ze κ.1) σ1) lv (pc + 3) (.int r :: rest)) : Z κ nL (zX (ze κ.1) σ) lv pc st0 := z_callS X hd hM tw377 tw378 tw80 tw379 (by decide) ds_J6_bitCount_0f7a4 hn hst hcat hdg kk
theorem tw391 : Cond.methodLink RX2 68 yX2_neighbours ∈ zt := zt_at 391 (by decide +kernel)
theorem tw393 : Cond.instanceMethod yX2_neighbours ∈ zt := zt_at 393 (by decide +kernel)
theorem tw3 : Cond.selects RX2 yX2_neighbours yX2_neighbours ∈ zt := zt_at 3 (by decide +kernel)
theorem tw394 : Cond.code yX2_neighbours cX2_neighbours 4 (some .int) ∈ zt := zt_at 394 (by decide +kernel)
theorem cl_X2_68 {σ1 : S3} {d1 b : Nat} {As rest st0 : List Value} {r : Int32} (X : zC0 κ RX2 cc nL d) (hd : d1 + 1 ≤ d) (hM : zMet κ.1 zX d1 yX2_neighbours cX2_neighbours 4 (some .int) (.ref b :: As) σ (some (.int r)) σ1) (he : ∃ (q : Nat) (fs : List Value), (zX (ze κ.1) σ)[q]? = some (b, .inr (2, fs))) (hn : As.length = 1) (hst : st0 = As.reverse ++ .ref b :: rest) (hcat : (rest.map fun v => v.category).sum ≤ 8) (hdg : decode cc pc = .ok (.invokevirtual 68, 3)) (kk : Z κ nL (zX (ze κ.1) σ1) lv (pc + 3) (.int r :: rest)) : Z κ nL (zX (ze κ.1) σ) lv pc st0 := by
  obtain ⟨q, fs, he⟩ := he
  exact z_callV X hd hM he rfl tw391 tw393 tw3 tw70 tw394 (by decide) ds_X2_neighbours hn hst hcat hdg kk
theorem tw407 : Cond.methodLink RX2 71 yX2_pairsAmong ∈ zt := zt_at 407 (by decide +kernel)
theorem tw409 : Cond.instanceMethod yX2_pairsAmong ∈ zt := zt_at 409 (by decide +kernel)
theorem tw4 : Cond.selects RX2 yX2_pairsAmong yX2_pairsAmong ∈ zt := zt_at 4 (by decide +kernel)
theorem tw410 : Cond.code yX2_pairsAmong cX2_pairsAmong 6 (some .int) ∈ zt := zt_at 410 (by decide +kernel)
theorem cl_X2_71 {σ1 : S3} {d1 b : Nat} {As rest st0 : List Value} {r : Int32} (X : zC0 κ RX2 cc nL d) (hd : d1 + 1 ≤ d) (hM : zMet κ.1 zX d1 yX2_pairsAmong cX2_pairsAmong 6 (some .int) (.ref b :: As) σ (some (.int r)) σ1) (he : ∃ (q : Nat) (fs : List Value), (zX (ze κ.1) σ)[q]? = some (b, .inr (2, fs))) (hn : As.length = 2) (hst : st0 = As.reverse ++ .ref b :: rest) (hcat : (rest.map fun v => v.category).sum ≤ 8) (hdg : decode cc pc = .ok (.invokevirtual 71, 3)) (kk : Z κ nL (zX (ze κ.1) σ1) lv (pc + 3) (.int r :: rest)) : Z κ nL (zX (ze κ.1) σ) lv pc st0 := by
  obtain ⟨q, fs, he⟩ := he
  exact z_callV X hd hM he rfl tw407 tw409 tw4 tw70 tw410 (by decide) ds_X2_pairsAmong hn hst hcat hdg kk
theorem tw411 : Cond.methodLink RX2 75 yX2_endsAsSet ∈ zt := zt_at 411 (by decide +kernel)
theorem tw413 : Cond.instanceMethod yX2_endsAsSet ∈ zt := zt_at 413 (by decide +kernel)
theorem tw5 : Cond.selects RX2 yX2_endsAsSet yX2_endsAsSet ∈ zt := zt_at 5 (by decide +kernel)
theorem tw414 : Cond.code yX2_endsAsSet cX2_endsAsSet 2 (some .int) ∈ zt := zt_at 414 (by decide +kernel)
theorem cl_X2_75 {σ1 : S3} {d1 b : Nat} {As rest st0 : List Value} {r : Int32} (X : zC0 κ RX2 cc nL d) (hd : d1 + 1 ≤ d) (hM : zMet κ.1 zX d1 yX2_endsAsSet cX2_endsAsSet 2 (some .int) (.ref b :: As) σ (some (.int r)) σ1) (he : ∃ (q : Nat) (fs : List Value), (zX (ze κ.1) σ)[q]? = some (b, .inr (2, fs))) (hn : As.length = 1) (hst : st0 = As.reverse ++ .ref b :: rest) (hcat : (rest.map fun v => v.category).sum ≤ 8) (hdg : decode cc pc = .ok (.invokevirtual 75, 3)) (kk : Z κ nL (zX (ze κ.1) σ1) lv (pc + 3) (.int r :: rest)) : Z κ nL (zX (ze κ.1) σ) lv pc st0 := by
  obtain ⟨q, fs, he⟩ := he
  exact z_callV X hd hM he rfl tw411 tw413 tw5 tw70 tw414 (by decide) ds_X2_endsAsSet hn hst hcat hdg kk
theorem tw415 : Cond.methodLink RX2 78 yJ9_max_7cf53 ∈ zt := zt_at 415 (by decide +kernel)
theorem tw430 : Cond.methodLink RX2 83 yX2_everyPoint ∈ zt := zt_at 430 (by decide +kernel)
theorem tw400 : Cond.instanceMethod yX2_everyPoint ∈ zt := zt_at 400 (by decide +kernel)
theorem tw401 : Cond.selects RX2 yX2_everyPoint yX2_everyPoint ∈ zt := zt_at 401 (by decide +kernel)
theorem tw402 : Cond.code yX2_everyPoint cX2_everyPoint 1 (some .int) ∈ zt := zt_at 402 (by decide +kernel)
theorem cl_X2_83 {σ1 : S3} {d1 b : Nat} {As rest st0 : List Value} {r : Int32} (X : zC0 κ RX2 cc nL d) (hd : d1 + 1 ≤ d) (hM : zMet κ.1 zX d1 yX2_everyPoint cX2_everyPoint 1 (some .int) (.ref b :: As) σ (some (.int r)) σ1) (he : ∃ (q : Nat) (fs : List Value), (zX (ze κ.1) σ)[q]? = some (b, .inr (2, fs))) (hn : As.length = 0) (hst : st0 = As.reverse ++ .ref b :: rest) (hcat : (rest.map fun v => v.category).sum ≤ 8) (hdg : decode cc pc = .ok (.invokevirtual 83, 3)) (kk : Z κ nL (zX (ze κ.1) σ1) lv (pc + 3) (.int r :: rest)) : Z κ nL (zX (ze κ.1) σ) lv pc st0 := by
  obtain ⟨q, fs, he⟩ := he
  exact z_callV X hd hM he rfl tw430 tw400 tw401 tw70 tw402 (by decide) ds_X2_everyPoint hn hst hcat hdg kk
theorem tw431 : Cond.methodLink RX2 87 yX2_mostPairs ∈ zt := zt_at 431 (by decide +kernel)
theorem tw404 : Cond.instanceMethod yX2_mostPairs ∈ zt := zt_at 404 (by decide +kernel)
theorem tw405 : Cond.selects RX2 yX2_mostPairs yX2_mostPairs ∈ zt := zt_at 405 (by decide +kernel)
theorem tw406 : Cond.code yX2_mostPairs cX2_mostPairs 2 (some .int) ∈ zt := zt_at 406 (by decide +kernel)
theorem cl_X2_87 {σ1 : S3} {d1 b : Nat} {As rest st0 : List Value} {r : Int32} (X : zC0 κ RX2 cc nL d) (hd : d1 + 1 ≤ d) (hM : zMet κ.1 zX d1 yX2_mostPairs cX2_mostPairs 2 (some .int) (.ref b :: As) σ (some (.int r)) σ1) (he : ∃ (q : Nat) (fs : List Value), (zX (ze κ.1) σ)[q]? = some (b, .inr (2, fs))) (hn : As.length = 1) (hst : st0 = As.reverse ++ .ref b :: rest) (hcat : (rest.map fun v => v.category).sum ≤ 8) (hdg : decode cc pc = .ok (.invokevirtual 87, 3)) (kk : Z κ nL (zX (ze κ.1) σ1) lv (pc + 3) (.int r :: rest)) : Z κ nL (zX (ze κ.1) σ) lv pc st0 := by
  obtain ⟨q, fs, he⟩ := he
  exact z_callV X hd hM he rfl tw431 tw404 tw405 tw70 tw406 (by decide) ds_X2_mostPairs hn hst hcat hdg kk
theorem tw165 : Cond.methodLink RX3 3 objectInit ∈ zt := zt_at 165 (by decide +kernel)
theorem tw647 : Cond.methodLink RX3 23 yX3_simple ∈ zt := zt_at 647 (by decide +kernel)
theorem tw649 : Cond.instanceMethod yX3_simple ∈ zt := zt_at 649 (by decide +kernel)
theorem tw12 : Cond.selects RX3 yX3_simple yX3_simple ∈ zt := zt_at 12 (by decide +kernel)
theorem tw72 : Cond.initialized RX3 ∈ zt := zt_at 72 (by decide +kernel)
theorem tw650 : Cond.code yX3_simple cX3_simple 4 (some .int) ∈ zt := zt_at 650 (by decide +kernel)
theorem cl_X3_23 {σ1 : S3} {d1 b : Nat} {As rest st0 : List Value} {r : Int32} (X : zC0 κ RX3 cc nL d) (hd : d1 + 1 ≤ d) (hM : zMet κ.1 zX d1 yX3_simple cX3_simple 4 (some .int) (.ref b :: As) σ (some (.int r)) σ1) (he : ∃ (q : Nat) (fs : List Value), (zX (ze κ.1) σ)[q]? = some (b, .inr (3, fs))) (hn : As.length = 2) (hst : st0 = As.reverse ++ .ref b :: rest) (hcat : (rest.map fun v => v.category).sum ≤ 8) (hdg : decode cc pc = .ok (.invokevirtual 23, 3)) (kk : Z κ nL (zX (ze κ.1) σ1) lv (pc + 3) (.int r :: rest)) : Z κ nL (zX (ze κ.1) σ) lv pc st0 := by
  obtain ⟨q, fs, he⟩ := he
  exact z_callV X hd hM he rfl tw647 tw649 tw12 tw72 tw650 (by decide) ds_X3_simple hn hst hcat hdg kk
theorem tw651 : Cond.methodLink RX3 27 yX1_movesFrom ∈ zt := zt_at 651 (by decide +kernel)
theorem cl_X3_27 {σ1 : S3} {d1 b : Nat} {As rest st0 : List Value} {r : Int32} (X : zC0 κ RX3 cc nL d) (hd : d1 + 1 ≤ d) (hM : zMet κ.1 zX d1 yX1_movesFrom cX1_movesFrom 8 (some .int) (.ref b :: As) σ (some (.int r)) σ1) (he : ∃ (q : Nat) (fs : List Value), (zX (ze κ.1) σ)[q]? = some (b, .inr (1, fs))) (hn : As.length = 1) (hst : st0 = As.reverse ++ .ref b :: rest) (hcat : (rest.map fun v => v.category).sum ≤ 8) (hdg : decode cc pc = .ok (.invokevirtual 27, 3)) (kk : Z κ nL (zX (ze κ.1) σ1) lv (pc + 3) (.int r :: rest)) : Z κ nL (zX (ze κ.1) σ) lv pc st0 := by
  obtain ⟨q, fs, he⟩ := he
  exact z_callV X hd hM he rfl tw651 tw522 tw523 tw71 tw524 (by decide) ds_X1_movesFrom hn hst hcat hdg kk
theorem tw652 : Cond.methodLink RX3 33 yX3_greatest ∈ zt := zt_at 652 (by decide +kernel)
theorem tw653 : Cond.static yX3_greatest ∈ zt := zt_at 653 (by decide +kernel)
theorem tw654 : Cond.code yX3_greatest cX3_greatest 1 (some .int) ∈ zt := zt_at 654 (by decide +kernel)
theorem cl_X3_33 {σ1 : S3} {d1 : Nat} {As rest st0 : List Value} {r : Int32} (X : zC0 κ RX3 cc nL d) (hd : d1 + 1 ≤ d) (hM : zMet κ.1 zX d1 yX3_greatest cX3_greatest 1 (some .int) As σ (some (.int r)) σ1) (hn : As.length = 1) (hst : st0 = As.reverse ++ rest) (hcat : (rest.map fun v => v.category).sum ≤ 8) (hdg : decode cc pc = .ok (.invokestatic 33, 3)) (kk : Z κ nL (zX (ze κ.1) σ1) lv (pc + 3) (.int r :: rest)) : Z κ nL (zX (ze κ.1) σ) lv pc st0 := z_callS X hd hM tw652 tw653 tw72 tw654 (by decide) ds_X3_greatest hn hst hcat hdg kk
theorem tw658 : Cond.methodLink RX3 36 yX1_winningFrom ∈ zt := zt_at 658 (by decide +kernel)
theorem tw598 : Cond.instanceMethod yX1_winningFrom ∈ zt := zt_at 598 (by decide +kernel)
theorem tw599 : Cond.selects RX1 yX1_winningFrom yX1_winningFrom ∈ zt := zt_at 599 (by decide +kernel)
theorem tw600 : Cond.code yX1_winningFrom cX1_winningFrom 5 (some .int) ∈ zt := zt_at 600 (by decide +kernel)
theorem cl_X3_36 {σ1 : S3} {d1 b : Nat} {As rest st0 : List Value} {r : Int32} (X : zC0 κ RX3 cc nL d) (hd : d1 + 1 ≤ d) (hM : zMet κ.1 zX d1 yX1_winningFrom cX1_winningFrom 5 (some .int) (.ref b :: As) σ (some (.int r)) σ1) (he : ∃ (q : Nat) (fs : List Value), (zX (ze κ.1) σ)[q]? = some (b, .inr (1, fs))) (hn : As.length = 1) (hst : st0 = As.reverse ++ .ref b :: rest) (hcat : (rest.map fun v => v.category).sum ≤ 8) (hdg : decode cc pc = .ok (.invokevirtual 36, 3)) (kk : Z κ nL (zX (ze κ.1) σ1) lv (pc + 3) (.int r :: rest)) : Z κ nL (zX (ze κ.1) σ) lv pc st0 := by
  obtain ⟨q, fs, he⟩ := he
  exact z_callV X hd hM he rfl tw658 tw598 tw599 tw71 tw600 (by decide) ds_X1_winningFrom hn hst hcat hdg kk
theorem tw659 : Cond.methodLink RX3 39 yX3_least ∈ zt := zt_at 659 (by decide +kernel)
theorem tw660 : Cond.static yX3_least ∈ zt := zt_at 660 (by decide +kernel)
theorem tw661 : Cond.code yX3_least cX3_least 1 (some .int) ∈ zt := zt_at 661 (by decide +kernel)
theorem cl_X3_39 {σ1 : S3} {d1 : Nat} {As rest st0 : List Value} {r : Int32} (X : zC0 κ RX3 cc nL d) (hd : d1 + 1 ≤ d) (hM : zMet κ.1 zX d1 yX3_least cX3_least 1 (some .int) As σ (some (.int r)) σ1) (hn : As.length = 1) (hst : st0 = As.reverse ++ rest) (hcat : (rest.map fun v => v.category).sum ≤ 8) (hdg : decode cc pc = .ok (.invokestatic 39, 3)) (kk : Z κ nL (zX (ze κ.1) σ1) lv (pc + 3) (.int r :: rest)) : Z κ nL (zX (ze κ.1) σ) lv pc st0 := z_callS X hd hM tw659 tw660 tw72 tw661 (by decide) ds_X3_least hn hst hcat hdg kk
theorem tw663 : Cond.methodLink RX3 42 yX3_pairAtMarker ∈ zt := zt_at 663 (by decide +kernel)
theorem tw665 : Cond.instanceMethod yX3_pairAtMarker ∈ zt := zt_at 665 (by decide +kernel)
theorem tw13 : Cond.selects RX3 yX3_pairAtMarker yX3_pairAtMarker ∈ zt := zt_at 13 (by decide +kernel)
theorem tw666 : Cond.code yX3_pairAtMarker cX3_pairAtMarker 4 (some .int) ∈ zt := zt_at 666 (by decide +kernel)
theorem cl_X3_42 {σ1 : S3} {d1 b : Nat} {As rest st0 : List Value} {r : Int32} (X : zC0 κ RX3 cc nL d) (hd : d1 + 1 ≤ d) (hM : zMet κ.1 zX d1 yX3_pairAtMarker cX3_pairAtMarker 4 (some .int) (.ref b :: As) σ (some (.int r)) σ1) (he : ∃ (q : Nat) (fs : List Value), (zX (ze κ.1) σ)[q]? = some (b, .inr (3, fs))) (hn : As.length = 1) (hst : st0 = As.reverse ++ .ref b :: rest) (hcat : (rest.map fun v => v.category).sum ≤ 8) (hdg : decode cc pc = .ok (.invokevirtual 42, 3)) (kk : Z κ nL (zX (ze κ.1) σ1) lv (pc + 3) (.int r :: rest)) : Z κ nL (zX (ze κ.1) σ) lv pc st0 := by
  obtain ⟨q, fs, he⟩ := he
  exact z_callV X hd hM he rfl tw663 tw665 tw13 tw72 tw666 (by decide) ds_X3_pairAtMarker hn hst hcat hdg kk
theorem tw671 : Cond.methodLink RX3 45 yX3_drawn ∈ zt := zt_at 671 (by decide +kernel)
theorem tw673 : Cond.instanceMethod yX3_drawn ∈ zt := zt_at 673 (by decide +kernel)
theorem tw14 : Cond.selects RX3 yX3_drawn yX3_drawn ∈ zt := zt_at 14 (by decide +kernel)
theorem tw674 : Cond.code yX3_drawn cX3_drawn 5 (some .int) ∈ zt := zt_at 674 (by decide +kernel)
theorem cl_X3_45 {σ1 : S3} {d1 b : Nat} {As rest st0 : List Value} {r : Int32} (X : zC0 κ RX3 cc nL d) (hd : d1 + 1 ≤ d) (hM : zMet κ.1 zX d1 yX3_drawn cX3_drawn 5 (some .int) (.ref b :: As) σ (some (.int r)) σ1) (he : ∃ (q : Nat) (fs : List Value), (zX (ze κ.1) σ)[q]? = some (b, .inr (3, fs))) (hn : As.length = 1) (hst : st0 = As.reverse ++ .ref b :: rest) (hcat : (rest.map fun v => v.category).sum ≤ 8) (hdg : decode cc pc = .ok (.invokevirtual 45, 3)) (kk : Z κ nL (zX (ze κ.1) σ1) lv (pc + 3) (.int r :: rest)) : Z κ nL (zX (ze κ.1) σ) lv pc st0 := by
  obtain ⟨q, fs, he⟩ := he
  exact z_callV X hd hM he rfl tw671 tw673 tw14 tw72 tw674 (by decide) ds_X3_drawn hn hst hcat hdg kk
theorem tw677 : Cond.methodLink RX3 48 yX3_narrowest ∈ zt := zt_at 677 (by decide +kernel)
theorem tw679 : Cond.instanceMethod yX3_narrowest ∈ zt := zt_at 679 (by decide +kernel)
theorem tw15 : Cond.selects RX3 yX3_narrowest yX3_narrowest ∈ zt := zt_at 15 (by decide +kernel)
theorem tw680 : Cond.code yX3_narrowest cX3_narrowest 7 (some .int) ∈ zt := zt_at 680 (by decide +kernel)
theorem cl_X3_48 {σ1 : S3} {d1 b : Nat} {As rest st0 : List Value} {r : Int32} (X : zC0 κ RX3 cc nL d) (hd : d1 + 1 ≤ d) (hM : zMet κ.1 zX d1 yX3_narrowest cX3_narrowest 7 (some .int) (.ref b :: As) σ (some (.int r)) σ1) (he : ∃ (q : Nat) (fs : List Value), (zX (ze κ.1) σ)[q]? = some (b, .inr (3, fs))) (hn : As.length = 2) (hst : st0 = As.reverse ++ .ref b :: rest) (hcat : (rest.map fun v => v.category).sum ≤ 8) (hdg : decode cc pc = .ok (.invokevirtual 48, 3)) (kk : Z κ nL (zX (ze κ.1) σ1) lv (pc + 3) (.int r :: rest)) : Z κ nL (zX (ze κ.1) σ) lv pc st0 := by
  obtain ⟨q, fs, he⟩ := he
  exact z_callV X hd hM he rfl tw677 tw679 tw15 tw72 tw680 (by decide) ds_X3_narrowest hn hst hcat hdg kk
theorem tw682 : Cond.methodLink RX3 51 yX3_slowest ∈ zt := zt_at 682 (by decide +kernel)
theorem tw684 : Cond.instanceMethod yX3_slowest ∈ zt := zt_at 684 (by decide +kernel)
theorem tw16 : Cond.selects RX3 yX3_slowest yX3_slowest ∈ zt := zt_at 16 (by decide +kernel)
theorem tw685 : Cond.code yX3_slowest cX3_slowest 7 (some .int) ∈ zt := zt_at 685 (by decide +kernel)
theorem cl_X3_51 {σ1 : S3} {d1 b : Nat} {As rest st0 : List Value} {r : Int32} (X : zC0 κ RX3 cc nL d) (hd : d1 + 1 ≤ d) (hM : zMet κ.1 zX d1 yX3_slowest cX3_slowest 7 (some .int) (.ref b :: As) σ (some (.int r)) σ1) (he : ∃ (q : Nat) (fs : List Value), (zX (ze κ.1) σ)[q]? = some (b, .inr (3, fs))) (hn : As.length = 2) (hst : st0 = As.reverse ++ .ref b :: rest) (hcat : (rest.map fun v => v.category).sum ≤ 8) (hdg : decode cc pc = .ok (.invokevirtual 51, 3)) (kk : Z κ nL (zX (ze κ.1) σ1) lv (pc + 3) (.int r :: rest)) : Z κ nL (zX (ze κ.1) σ) lv pc st0 := by
  obtain ⟨q, fs, he⟩ := he
  exact z_callV X hd hM he rfl tw682 tw684 tw16 tw72 tw685 (by decide) ds_X3_slowest hn hst hcat hdg kk
theorem tw662 : Cond.methodLink RX3 54 yJ6_numberOfTrailingZeros_0f7a4 ∈ zt := zt_at 662 (by decide +kernel)
theorem cl_X3_54 {σ1 : S3} {d1 : Nat} {As rest st0 : List Value} {r : Int32} (X : zC0 κ RX3 cc nL d) (hd : d1 + 1 ≤ d) (hM : zMet κ.1 zX d1 yJ6_numberOfTrailingZeros_0f7a4 cJ6_numberOfTrailingZeros_0f7a4 2 (some .int) As σ (some (.int r)) σ1) (hn : As.length = 1) (hst : st0 = As.reverse ++ rest) (hcat : (rest.map fun v => v.category).sum ≤ 8) (hdg : decode cc pc = .ok (.invokestatic 54, 3)) (kk : Z κ nL (zX (ze κ.1) σ1) lv (pc + 3) (.int r :: rest)) : Z κ nL (zX (ze κ.1) σ) lv pc st0 := z_callS X hd hM tw662 tw553 tw80 tw554 (by decide) ds_J6_numberOfTrailingZeros_0f7a4 hn hst hcat hdg kk
theorem tw655 : Cond.methodLink RX3 59 yJ6_numberOfLeadingZeros_0f7a4 ∈ zt := zt_at 655 (by decide +kernel)
theorem tw656 : Cond.static yJ6_numberOfLeadingZeros_0f7a4 ∈ zt := zt_at 656 (by decide +kernel)
theorem tw657 : Cond.code yJ6_numberOfLeadingZeros_0f7a4 cJ6_numberOfLeadingZeros_0f7a4 2 (some .int) ∈ zt := zt_at 657 (by decide +kernel)
theorem cl_X3_59 {σ1 : S3} {d1 : Nat} {As rest st0 : List Value} {r : Int32} (X : zC0 κ RX3 cc nL d) (hd : d1 + 1 ≤ d) (hM : zMet κ.1 zX d1 yJ6_numberOfLeadingZeros_0f7a4 cJ6_numberOfLeadingZeros_0f7a4 2 (some .int) As σ (some (.int r)) σ1) (hn : As.length = 1) (hst : st0 = As.reverse ++ rest) (hcat : (rest.map fun v => v.category).sum ≤ 8) (hdg : decode cc pc = .ok (.invokestatic 59, 3)) (kk : Z κ nL (zX (ze κ.1) σ1) lv (pc + 3) (.int r :: rest)) : Z κ nL (zX (ze κ.1) σ) lv pc st0 := z_callS X hd hM tw655 tw656 tw80 tw657 (by decide) ds_J6_numberOfLeadingZeros_0f7a4 hn hst hcat hdg kk
theorem tw667 : Cond.methodLink RX3 62 yX5_marker ∈ zt := zt_at 667 (by decide +kernel)
theorem cl_X3_62 {σ1 : S3} {d1 : Nat} {As rest st0 : List Value} {r : Int32} (X : zC0 κ RX3 cc nL d) (hd : d1 + 1 ≤ d) (hM : zMet κ.1 zX d1 yX5_marker cX5_marker 1 (some .int) As σ (some (.int r)) σ1) (hn : As.length = 1) (hst : st0 = As.reverse ++ rest) (hcat : (rest.map fun v => v.category).sum ≤ 8) (hdg : decode cc pc = .ok (.invokestatic 62, 3)) (kk : Z κ nL (zX (ze κ.1) σ1) lv (pc + 3) (.int r :: rest)) : Z κ nL (zX (ze κ.1) σ) lv pc st0 := z_callS X hd hM tw667 tw516 tw82 tw517 (by decide) ds_X5_marker hn hst hcat hdg kk
theorem tw668 : Cond.methodLink RX3 67 yX2_everyPoint ∈ zt := zt_at 668 (by decide +kernel)
theorem cl_X3_67 {σ1 : S3} {d1 b : Nat} {As rest st0 : List Value} {r : Int32} (X : zC0 κ RX3 cc nL d) (hd : d1 + 1 ≤ d) (hM : zMet κ.1 zX d1 yX2_everyPoint cX2_everyPoint 1 (some .int) (.ref b :: As) σ (some (.int r)) σ1) (he : ∃ (q : Nat) (fs : List Value), (zX (ze κ.1) σ)[q]? = some (b, .inr (2, fs))) (hn : As.length = 0) (hst : st0 = As.reverse ++ .ref b :: rest) (hcat : (rest.map fun v => v.category).sum ≤ 8) (hdg : decode cc pc = .ok (.invokevirtual 67, 3)) (kk : Z κ nL (zX (ze κ.1) σ1) lv (pc + 3) (.int r :: rest)) : Z κ nL (zX (ze κ.1) σ) lv pc st0 := by
  obtain ⟨q, fs, he⟩ := he
  exact z_callV X hd hM he rfl tw668 tw400 tw401 tw70 tw402 (by decide) ds_X2_everyPoint hn hst hcat hdg kk
theorem tw669 : Cond.methodLink RX3 73 yX5_met ∈ zt := zt_at 669 (by decide +kernel)
theorem cl_X3_73 {σ1 : S3} {d1 : Nat} {As rest st0 : List Value} {r : Int32} (X : zC0 κ RX3 cc nL d) (hd : d1 + 1 ≤ d) (hM : zMet κ.1 zX d1 yX5_met cX5_met 1 (some .int) As σ (some (.int r)) σ1) (hn : As.length = 1) (hst : st0 = As.reverse ++ rest) (hcat : (rest.map fun v => v.category).sum ≤ 8) (hdg : decode cc pc = .ok (.invokestatic 73, 3)) (kk : Z κ nL (zX (ze κ.1) σ1) lv (pc + 3) (.int r :: rest)) : Z κ nL (zX (ze κ.1) σ) lv pc st0 := z_callS X hd hM tw669 tw519 tw82 tw520 (by decide) ds_X5_met hn hst hcat hdg kk
theorem tw670 : Cond.methodLink RX3 76 yX2_leastPairing ∈ zt := zt_at 670 (by decide +kernel)
theorem tw419 : Cond.instanceMethod yX2_leastPairing ∈ zt := zt_at 419 (by decide +kernel)
theorem tw420 : Cond.selects RX2 yX2_leastPairing yX2_leastPairing ∈ zt := zt_at 420 (by decide +kernel)
theorem tw421 : Cond.code yX2_leastPairing cX2_leastPairing 6 (some .int) ∈ zt := zt_at 421 (by decide +kernel)
theorem cl_X3_76 {σ1 : S3} {d1 b : Nat} {As rest st0 : List Value} {r : Int32} (X : zC0 κ RX3 cc nL d) (hd : d1 + 1 ≤ d) (hM : zMet κ.1 zX d1 yX2_leastPairing cX2_leastPairing 6 (some .int) (.ref b :: As) σ (some (.int r)) σ1) (he : ∃ (q : Nat) (fs : List Value), (zX (ze κ.1) σ)[q]? = some (b, .inr (2, fs))) (hn : As.length = 1) (hst : st0 = As.reverse ++ .ref b :: rest) (hcat : (rest.map fun v => v.category).sum ≤ 8) (hdg : decode cc pc = .ok (.invokevirtual 76, 3)) (kk : Z κ nL (zX (ze κ.1) σ1) lv (pc + 3) (.int r :: rest)) : Z κ nL (zX (ze κ.1) σ) lv pc st0 := by
  obtain ⟨q, fs, he⟩ := he
  exact z_callV X hd hM he rfl tw670 tw419 tw420 tw70 tw421 (by decide) ds_X2_leastPairing hn hst hcat hdg kk
theorem tw675 : Cond.methodLink RX3 83 yJ6_bitCount_0f7a4 ∈ zt := zt_at 675 (by decide +kernel)
theorem cl_X3_83 {σ1 : S3} {d1 : Nat} {As rest st0 : List Value} {r : Int32} (X : zC0 κ RX3 cc nL d) (hd : d1 + 1 ≤ d) (hM : zMet κ.1 zX d1 yJ6_bitCount_0f7a4 cJ6_bitCount_0f7a4 1 (some .int) As σ (some (.int r)) σ1) (hn : As.length = 1) (hst : st0 = As.reverse ++ rest) (hcat : (rest.map fun v => v.category).sum ≤ 8) (hdg : decode cc pc = .ok (.invokestatic 83, 3)) (kk : Z κ nL (zX (ze κ.1) σ1) lv (pc + 3) (.int r :: rest)) : Z κ nL (zX (ze κ.1) σ) lv pc st0 := z_callS X hd hM tw675 tw378 tw80 tw379 (by decide) ds_J6_bitCount_0f7a4 hn hst hcat hdg kk
theorem tw681 : Cond.methodLink RX3 90 yX1_behind ∈ zt := zt_at 681 (by decide +kernel)
theorem cl_X3_90 {σ1 : S3} {d1 b : Nat} {As rest st0 : List Value} {r : Int32} (X : zC0 κ RX3 cc nL d) (hd : d1 + 1 ≤ d) (hM : zMet κ.1 zX d1 yX1_behind cX1_behind 3 (some .int) (.ref b :: As) σ (some (.int r)) σ1) (he : ∃ (q : Nat) (fs : List Value), (zX (ze κ.1) σ)[q]? = some (b, .inr (1, fs))) (hn : As.length = 2) (hst : st0 = As.reverse ++ .ref b :: rest) (hcat : (rest.map fun v => v.category).sum ≤ 8) (hdg : decode cc pc = .ok (.invokevirtual 90, 3)) (kk : Z κ nL (zX (ze κ.1) σ1) lv (pc + 3) (.int r :: rest)) : Z κ nL (zX (ze κ.1) σ) lv pc st0 := by
  obtain ⟨q, fs, he⟩ := he
  exact z_callV X hd hM he rfl tw681 tw532 tw533 tw71 tw534 (by decide) ds_X1_behind hn hst hcat hdg kk
theorem tw686 : Cond.methodLink RX3 93 yX1_lengthFrom ∈ zt := zt_at 686 (by decide +kernel)
theorem tw606 : Cond.instanceMethod yX1_lengthFrom ∈ zt := zt_at 606 (by decide +kernel)
theorem tw607 : Cond.selects RX1 yX1_lengthFrom yX1_lengthFrom ∈ zt := zt_at 607 (by decide +kernel)
theorem tw608 : Cond.code yX1_lengthFrom cX1_lengthFrom 2 (some .int) ∈ zt := zt_at 608 (by decide +kernel)
theorem cl_X3_93 {σ1 : S3} {d1 b : Nat} {As rest st0 : List Value} {r : Int32} (X : zC0 κ RX3 cc nL d) (hd : d1 + 1 ≤ d) (hM : zMet κ.1 zX d1 yX1_lengthFrom cX1_lengthFrom 2 (some .int) (.ref b :: As) σ (some (.int r)) σ1) (he : ∃ (q : Nat) (fs : List Value), (zX (ze κ.1) σ)[q]? = some (b, .inr (1, fs))) (hn : As.length = 1) (hst : st0 = As.reverse ++ .ref b :: rest) (hcat : (rest.map fun v => v.category).sum ≤ 8) (hdg : decode cc pc = .ok (.invokevirtual 93, 3)) (kk : Z κ nL (zX (ze κ.1) σ1) lv (pc + 3) (.int r :: rest)) : Z κ nL (zX (ze κ.1) σ) lv pc st0 := by
  obtain ⟨q, fs, he⟩ := he
  exact z_callV X hd hM he rfl tw686 tw606 tw607 tw71 tw608 (by decide) ds_X1_lengthFrom hn hst hcat hdg kk
theorem tw255 : Cond.methodLink RX4 3 objectInit ∈ zt := zt_at 255 (by decide +kernel)
theorem tw731 : Cond.methodLink RX4 22 yJ7_fill_53178 ∈ zt := zt_at 731 (by decide +kernel)
theorem cl_X4_22 {σ1 : S3} {d1 : Nat} {As rest st0 : List Value} {r : Int32} (X : zC0 κ RX4 cc nL d) (hd : d1 + 1 ≤ d) (hM : zMet κ.1 zX d1 yJ7_fill_53178 cJ7_fill_53178 4 none As σ none σ1) (hn : As.length = 2) (hst : st0 = As.reverse ++ rest) (hcat : (rest.map fun v => v.category).sum ≤ 8) (hdg : decode cc pc = .ok (.invokestatic 22, 3)) (kk : Z κ nL (zX (ze κ.1) σ1) lv (pc + 3) (rest)) : Z κ nL (zX (ze κ.1) σ) lv pc st0 := z_callS X hd hM tw731 tw321 tw78 tw322 (by decide) ds_J7_fill_53178 hn hst hcat hdg kk
theorem tw515 : Cond.methodLink RX5 9 yX5_marker ∈ zt := zt_at 515 (by decide +kernel)
theorem cl_X5_9 {σ1 : S3} {d1 : Nat} {As rest st0 : List Value} {r : Int32} (X : zC0 κ RX5 cc nL d) (hd : d1 + 1 ≤ d) (hM : zMet κ.1 zX d1 yX5_marker cX5_marker 1 (some .int) As σ (some (.int r)) σ1) (hn : As.length = 1) (hst : st0 = As.reverse ++ rest) (hcat : (rest.map fun v => v.category).sum ≤ 8) (hdg : decode cc pc = .ok (.invokestatic 9, 3)) (kk : Z κ nL (zX (ze κ.1) σ1) lv (pc + 3) (.int r :: rest)) : Z κ nL (zX (ze κ.1) σ) lv pc st0 := z_callS X hd hM tw515 tw516 tw82 tw517 (by decide) ds_X5_marker hn hst hcat hdg kk
theorem tw518 : Cond.methodLink RX5 13 yX5_met ∈ zt := zt_at 518 (by decide +kernel)
theorem cl_X5_13 {σ1 : S3} {d1 : Nat} {As rest st0 : List Value} {r : Int32} (X : zC0 κ RX5 cc nL d) (hd : d1 + 1 ≤ d) (hM : zMet κ.1 zX d1 yX5_met cX5_met 1 (some .int) As σ (some (.int r)) σ1) (hn : As.length = 1) (hst : st0 = As.reverse ++ rest) (hcat : (rest.map fun v => v.category).sum ≤ 8) (hdg : decode cc pc = .ok (.invokestatic 13, 3)) (kk : Z κ nL (zX (ze κ.1) σ1) lv (pc + 3) (.int r :: rest)) : Z κ nL (zX (ze κ.1) σ) lv pc st0 := z_callS X hd hM tw518 tw519 tw82 tw520 (by decide) ds_X5_met hn hst hcat hdg kk
theorem tw240 : Cond.methodLink RX6 3 objectInit ∈ zt := zt_at 240 (by decide +kernel)
theorem tw456 : Cond.methodLink RX6 19 yX6_fits ∈ zt := zt_at 456 (by decide +kernel)
theorem tw458 : Cond.instanceMethod yX6_fits ∈ zt := zt_at 458 (by decide +kernel)
theorem tw6 : Cond.selects RX6 yX6_fits yX6_fits ∈ zt := zt_at 6 (by decide +kernel)
theorem tw75 : Cond.initialized RX6 ∈ zt := zt_at 75 (by decide +kernel)
theorem tw459 : Cond.code yX6_fits cX6_fits 3 (some .boolean) ∈ zt := zt_at 459 (by decide +kernel)
theorem cl_X6_19 {σ1 : S3} {d1 b : Nat} {As rest st0 : List Value} {r : Int32} (X : zC0 κ RX6 cc nL d) (hd : d1 + 1 ≤ d) (hM : zMet κ.1 zX d1 yX6_fits cX6_fits 3 (some .boolean) (.ref b :: As) σ (some (.int r)) σ1) (he : ∃ (q : Nat) (fs : List Value), (zX (ze κ.1) σ)[q]? = some (b, .inr (5, fs))) (hn : As.length = 1) (hst : st0 = As.reverse ++ .ref b :: rest) (hcat : (rest.map fun v => v.category).sum ≤ 8) (hdg : decode cc pc = .ok (.invokevirtual 19, 3)) (kk : Z κ nL (zX (ze κ.1) σ1) lv (pc + 3) (.int r :: rest)) : Z κ nL (zX (ze κ.1) σ) lv pc st0 := by
  obtain ⟨q, fs, he⟩ := he
  exact z_callV X hd hM he rfl tw456 tw458 tw6 tw75 tw459 (by decide) ds_X6_fits hn hst hcat hdg kk
theorem tw460 : Cond.methodLink RX6 23 yX6_isLetter ∈ zt := zt_at 460 (by decide +kernel)
theorem tw461 : Cond.static yX6_isLetter ∈ zt := zt_at 461 (by decide +kernel)
theorem tw462 : Cond.code yX6_isLetter cX6_isLetter 1 (some .boolean) ∈ zt := zt_at 462 (by decide +kernel)
theorem cl_X6_23 {σ1 : S3} {d1 : Nat} {As rest st0 : List Value} {r : Int32} (X : zC0 κ RX6 cc nL d) (hd : d1 + 1 ≤ d) (hM : zMet κ.1 zX d1 yX6_isLetter cX6_isLetter 1 (some .boolean) As σ (some (.int r)) σ1) (hn : As.length = 1) (hst : st0 = As.reverse ++ rest) (hcat : (rest.map fun v => v.category).sum ≤ 8) (hdg : decode cc pc = .ok (.invokestatic 23, 3)) (kk : Z κ nL (zX (ze κ.1) σ1) lv (pc + 3) (.int r :: rest)) : Z κ nL (zX (ze κ.1) σ) lv pc st0 := z_callS X hd hM tw460 tw461 tw75 tw462 (by decide) ds_X6_isLetter hn hst hcat hdg kk
theorem tw467 : Cond.methodLink RX6 26 yJ9_max_7cf53 ∈ zt := zt_at 467 (by decide +kernel)
theorem tw468 : Cond.methodLink RX6 32 yX2_clear ∈ zt := zt_at 468 (by decide +kernel)
theorem tw313 : Cond.instanceMethod yX2_clear ∈ zt := zt_at 313 (by decide +kernel)
theorem tw314 : Cond.selects RX2 yX2_clear yX2_clear ∈ zt := zt_at 314 (by decide +kernel)
theorem tw315 : Cond.code yX2_clear cX2_clear 2 none ∈ zt := zt_at 315 (by decide +kernel)
theorem cl_X6_32 {σ1 : S3} {d1 b : Nat} {As rest st0 : List Value} {r : Int32} (X : zC0 κ RX6 cc nL d) (hd : d1 + 1 ≤ d) (hM : zMet κ.1 zX d1 yX2_clear cX2_clear 2 none (.ref b :: As) σ none σ1) (he : ∃ (q : Nat) (fs : List Value), (zX (ze κ.1) σ)[q]? = some (b, .inr (2, fs))) (hn : As.length = 1) (hst : st0 = As.reverse ++ .ref b :: rest) (hcat : (rest.map fun v => v.category).sum ≤ 8) (hdg : decode cc pc = .ok (.invokevirtual 32, 3)) (kk : Z κ nL (zX (ze κ.1) σ1) lv (pc + 3) (rest)) : Z κ nL (zX (ze κ.1) σ) lv pc st0 := by
  obtain ⟨q, fs, he⟩ := he
  exact z_callV X hd hM he rfl tw468 tw313 tw314 tw70 tw315 (by decide) ds_X2_clear hn hst hcat hdg kk
theorem tw469 : Cond.methodLink RX6 38 yX6_wayOf ∈ zt := zt_at 469 (by decide +kernel)
theorem tw470 : Cond.static yX6_wayOf ∈ zt := zt_at 470 (by decide +kernel)
theorem tw471 : Cond.code yX6_wayOf cX6_wayOf 1 (some .int) ∈ zt := zt_at 471 (by decide +kernel)
theorem cl_X6_38 {σ1 : S3} {d1 : Nat} {As rest st0 : List Value} {r : Int32} (X : zC0 κ RX6 cc nL d) (hd : d1 + 1 ≤ d) (hM : zMet κ.1 zX d1 yX6_wayOf cX6_wayOf 1 (some .int) As σ (some (.int r)) σ1) (hn : As.length = 1) (hst : st0 = As.reverse ++ rest) (hcat : (rest.map fun v => v.category).sum ≤ 8) (hdg : decode cc pc = .ok (.invokestatic 38, 3)) (kk : Z κ nL (zX (ze κ.1) σ1) lv (pc + 3) (.int r :: rest)) : Z κ nL (zX (ze κ.1) σ) lv pc st0 := z_callS X hd hM tw469 tw470 tw75 tw471 (by decide) ds_X6_wayOf hn hst hcat hdg kk
theorem tw472 : Cond.methodLink RX6 42 yX2_join ∈ zt := zt_at 472 (by decide +kernel)
theorem tw339 : Cond.instanceMethod yX2_join ∈ zt := zt_at 339 (by decide +kernel)
theorem tw340 : Cond.selects RX2 yX2_join yX2_join ∈ zt := zt_at 340 (by decide +kernel)
theorem tw341 : Cond.code yX2_join cX2_join 4 none ∈ zt := zt_at 341 (by decide +kernel)
theorem cl_X6_42 {σ1 : S3} {d1 b : Nat} {As rest st0 : List Value} {r : Int32} (X : zC0 κ RX6 cc nL d) (hd : d1 + 1 ≤ d) (hM : zMet κ.1 zX d1 yX2_join cX2_join 4 none (.ref b :: As) σ none σ1) (he : ∃ (q : Nat) (fs : List Value), (zX (ze κ.1) σ)[q]? = some (b, .inr (2, fs))) (hn : As.length = 3) (hst : st0 = As.reverse ++ .ref b :: rest) (hcat : (rest.map fun v => v.category).sum ≤ 8) (hdg : decode cc pc = .ok (.invokevirtual 42, 3)) (kk : Z κ nL (zX (ze κ.1) σ1) lv (pc + 3) (rest)) : Z κ nL (zX (ze κ.1) σ) lv pc st0 := by
  obtain ⟨q, fs, he⟩ := he
  exact z_callV X hd hM he rfl tw472 tw339 tw340 tw70 tw341 (by decide) ds_X2_join hn hst hcat hdg kk
theorem tw182 : Cond.methodLink RX7 3 objectInit ∈ zt := zt_at 182 (by decide +kernel)
theorem tw704 : Cond.methodLink RX7 37 yX7_grow ∈ zt := zt_at 704 (by decide +kernel)
theorem tw706 : Cond.instanceMethod yX7_grow ∈ zt := zt_at 706 (by decide +kernel)
theorem tw17 : Cond.selects RX7 yX7_grow yX7_grow ∈ zt := zt_at 17 (by decide +kernel)
theorem tw73 : Cond.initialized RX7 ∈ zt := zt_at 73 (by decide +kernel)
theorem tw707 : Cond.code yX7_grow cX7_grow 7 none ∈ zt := zt_at 707 (by decide +kernel)
theorem cl_X7_37 {σ1 : S3} {d1 b : Nat} {As rest st0 : List Value} {r : Int32} (X : zC0 κ RX7 cc nL d) (hd : d1 + 1 ≤ d) (hM : zMet κ.1 zX d1 yX7_grow cX7_grow 7 none (.ref b :: As) σ none σ1) (he : ∃ (q : Nat) (fs : List Value), (zX (ze κ.1) σ)[q]? = some (b, .inr (6, fs))) (hn : As.length = 3) (hst : st0 = As.reverse ++ .ref b :: rest) (hcat : (rest.map fun v => v.category).sum ≤ 8) (hdg : decode cc pc = .ok (.invokevirtual 37, 3)) (kk : Z κ nL (zX (ze κ.1) σ1) lv (pc + 3) (rest)) : Z κ nL (zX (ze κ.1) σ) lv pc st0 := by
  obtain ⟨q, fs, he⟩ := he
  exact z_callV X hd hM he rfl tw704 tw706 tw17 tw73 tw707 (by decide) ds_X7_grow hn hst hcat hdg kk
theorem tw708 : Cond.methodLink RX7 41 yJ9_max_7cf53 ∈ zt := zt_at 708 (by decide +kernel)
theorem tw709 : Cond.methodLink RX7 47 yX1_wins ∈ zt := zt_at 709 (by decide +kernel)
theorem cl_X7_47 {σ1 : S3} {d1 b : Nat} {As rest st0 : List Value} {r : Int32} (X : zC0 κ RX7 cc nL d) (hd : d1 + 1 ≤ d) (hM : zMet κ.1 zX d1 yX1_wins cX1_wins 2 (some .boolean) (.ref b :: As) σ (some (.int r)) σ1) (he : ∃ (q : Nat) (fs : List Value), (zX (ze κ.1) σ)[q]? = some (b, .inr (1, fs))) (hn : As.length = 1) (hst : st0 = As.reverse ++ .ref b :: rest) (hcat : (rest.map fun v => v.category).sum ≤ 8) (hdg : decode cc pc = .ok (.invokevirtual 47, 3)) (kk : Z κ nL (zX (ze κ.1) σ1) lv (pc + 3) (.int r :: rest)) : Z κ nL (zX (ze κ.1) σ) lv pc st0 := by
  obtain ⟨q, fs, he⟩ := he
  exact z_callV X hd hM he rfl tw709 tw498 tw499 tw71 tw500 (by decide) ds_X1_wins hn hst hcat hdg kk
theorem tw710 : Cond.methodLink RX7 53 yX1_winningFrom ∈ zt := zt_at 710 (by decide +kernel)
theorem cl_X7_53 {σ1 : S3} {d1 b : Nat} {As rest st0 : List Value} {r : Int32} (X : zC0 κ RX7 cc nL d) (hd : d1 + 1 ≤ d) (hM : zMet κ.1 zX d1 yX1_winningFrom cX1_winningFrom 5 (some .int) (.ref b :: As) σ (some (.int r)) σ1) (he : ∃ (q : Nat) (fs : List Value), (zX (ze κ.1) σ)[q]? = some (b, .inr (1, fs))) (hn : As.length = 1) (hst : st0 = As.reverse ++ .ref b :: rest) (hcat : (rest.map fun v => v.category).sum ≤ 8) (hdg : decode cc pc = .ok (.invokevirtual 53, 3)) (kk : Z κ nL (zX (ze κ.1) σ1) lv (pc + 3) (.int r :: rest)) : Z κ nL (zX (ze κ.1) σ) lv pc st0 := by
  obtain ⟨q, fs, he⟩ := he
  exact z_callV X hd hM he rfl tw710 tw598 tw599 tw71 tw600 (by decide) ds_X1_winningFrom hn hst hcat hdg kk
theorem tw711 : Cond.methodLink RX7 57 yJ6_lowestOneBit_0f7a4 ∈ zt := zt_at 711 (by decide +kernel)
theorem tw712 : Cond.static yJ6_lowestOneBit_0f7a4 ∈ zt := zt_at 712 (by decide +kernel)
theorem tw713 : Cond.code yJ6_lowestOneBit_0f7a4 cJ6_lowestOneBit_0f7a4 1 (some .int) ∈ zt := zt_at 713 (by decide +kernel)
theorem cl_X7_57 {σ1 : S3} {d1 : Nat} {As rest st0 : List Value} {r : Int32} (X : zC0 κ RX7 cc nL d) (hd : d1 + 1 ≤ d) (hM : zMet κ.1 zX d1 yJ6_lowestOneBit_0f7a4 cJ6_lowestOneBit_0f7a4 1 (some .int) As σ (some (.int r)) σ1) (hn : As.length = 1) (hst : st0 = As.reverse ++ rest) (hcat : (rest.map fun v => v.category).sum ≤ 8) (hdg : decode cc pc = .ok (.invokestatic 57, 3)) (kk : Z κ nL (zX (ze κ.1) σ1) lv (pc + 3) (.int r :: rest)) : Z κ nL (zX (ze κ.1) σ) lv pc st0 := z_callS X hd hM tw711 tw712 tw80 tw713 (by decide) ds_J6_lowestOneBit_0f7a4 hn hst hcat hdg kk
theorem tw714 : Cond.methodLink RX7 62 yX1_movesFrom ∈ zt := zt_at 714 (by decide +kernel)
theorem cl_X7_62 {σ1 : S3} {d1 b : Nat} {As rest st0 : List Value} {r : Int32} (X : zC0 κ RX7 cc nL d) (hd : d1 + 1 ≤ d) (hM : zMet κ.1 zX d1 yX1_movesFrom cX1_movesFrom 8 (some .int) (.ref b :: As) σ (some (.int r)) σ1) (he : ∃ (q : Nat) (fs : List Value), (zX (ze κ.1) σ)[q]? = some (b, .inr (1, fs))) (hn : As.length = 1) (hst : st0 = As.reverse ++ .ref b :: rest) (hcat : (rest.map fun v => v.category).sum ≤ 8) (hdg : decode cc pc = .ok (.invokevirtual 62, 3)) (kk : Z κ nL (zX (ze κ.1) σ1) lv (pc + 3) (.int r :: rest)) : Z κ nL (zX (ze κ.1) σ) lv pc st0 := by
  obtain ⟨q, fs, he⟩ := he
  exact z_callV X hd hM he rfl tw714 tw522 tw523 tw71 tw524 (by decide) ds_X1_movesFrom hn hst hcat hdg kk
theorem tw715 : Cond.methodLink RX7 70 yX1_behind ∈ zt := zt_at 715 (by decide +kernel)
theorem cl_X7_70 {σ1 : S3} {d1 b : Nat} {As rest st0 : List Value} {r : Int32} (X : zC0 κ RX7 cc nL d) (hd : d1 + 1 ≤ d) (hM : zMet κ.1 zX d1 yX1_behind cX1_behind 3 (some .int) (.ref b :: As) σ (some (.int r)) σ1) (he : ∃ (q : Nat) (fs : List Value), (zX (ze κ.1) σ)[q]? = some (b, .inr (1, fs))) (hn : As.length = 2) (hst : st0 = As.reverse ++ .ref b :: rest) (hcat : (rest.map fun v => v.category).sum ≤ 8) (hdg : decode cc pc = .ok (.invokevirtual 70, 3)) (kk : Z κ nL (zX (ze κ.1) σ1) lv (pc + 3) (.int r :: rest)) : Z κ nL (zX (ze κ.1) σ) lv pc st0 := by
  obtain ⟨q, fs, he⟩ := he
  exact z_callV X hd hM he rfl tw715 tw532 tw533 tw71 tw534 (by decide) ds_X1_behind hn hst hcat hdg kk
theorem tw88 : Cond.methodLink RX8 1 objectInit ∈ zt := zt_at 88 (by decide +kernel)
theorem tw307 : Cond.methodLink RX8 69 yX8_fail ∈ zt := zt_at 307 (by decide +kernel)
theorem tw309 : Cond.instanceMethod yX8_fail ∈ zt := zt_at 309 (by decide +kernel)
theorem tw0 : Cond.selects RX8 yX8_fail yX8_fail ∈ zt := zt_at 0 (by decide +kernel)
theorem tw69 : Cond.initialized RX8 ∈ zt := zt_at 69 (by decide +kernel)
theorem tw310 : Cond.code yX8_fail cX8_fail 2 (some .int) ∈ zt := zt_at 310 (by decide +kernel)
theorem cl_X8_69 {σ1 : S3} {d1 b : Nat} {As rest st0 : List Value} {r : Int32} (X : zC0 κ RX8 cc nL d) (hd : d1 + 1 ≤ d) (hM : zMet κ.1 zX d1 yX8_fail cX8_fail 2 (some .int) (.ref b :: As) σ (some (.int r)) σ1) (he : ∃ (q : Nat) (fs : List Value), (zX (ze κ.1) σ)[q]? = some (b, .inr (7, fs))) (hn : As.length = 1) (hst : st0 = As.reverse ++ .ref b :: rest) (hcat : (rest.map fun v => v.category).sum ≤ 8) (hdg : decode cc pc = .ok (.invokevirtual 69, 3)) (kk : Z κ nL (zX (ze κ.1) σ1) lv (pc + 3) (.int r :: rest)) : Z κ nL (zX (ze κ.1) σ) lv pc st0 := by
  obtain ⟨q, fs, he⟩ := he
  exact z_callV X hd hM he rfl tw307 tw309 tw0 tw69 tw310 (by decide) ds_X8_fail hn hst hcat hdg kk
theorem tw312 : Cond.methodLink RX8 77 yX2_clear ∈ zt := zt_at 312 (by decide +kernel)
theorem cl_X8_77 {σ1 : S3} {d1 b : Nat} {As rest st0 : List Value} {r : Int32} (X : zC0 κ RX8 cc nL d) (hd : d1 + 1 ≤ d) (hM : zMet κ.1 zX d1 yX2_clear cX2_clear 2 none (.ref b :: As) σ none σ1) (he : ∃ (q : Nat) (fs : List Value), (zX (ze κ.1) σ)[q]? = some (b, .inr (2, fs))) (hn : As.length = 1) (hst : st0 = As.reverse ++ .ref b :: rest) (hcat : (rest.map fun v => v.category).sum ≤ 8) (hdg : decode cc pc = .ok (.invokevirtual 77, 3)) (kk : Z κ nL (zX (ze κ.1) σ1) lv (pc + 3) (rest)) : Z κ nL (zX (ze κ.1) σ) lv pc st0 := by
  obtain ⟨q, fs, he⟩ := he
  exact z_callV X hd hM he rfl tw312 tw313 tw314 tw70 tw315 (by decide) ds_X2_clear hn hst hcat hdg kk
theorem tw331 : Cond.methodLink RX8 85 yX2_hasPoint ∈ zt := zt_at 331 (by decide +kernel)
theorem tw332 : Cond.instanceMethod yX2_hasPoint ∈ zt := zt_at 332 (by decide +kernel)
theorem tw333 : Cond.selects RX2 yX2_hasPoint yX2_hasPoint ∈ zt := zt_at 333 (by decide +kernel)
theorem tw334 : Cond.code yX2_hasPoint cX2_hasPoint 2 (some .boolean) ∈ zt := zt_at 334 (by decide +kernel)
theorem cl_X8_85 {σ1 : S3} {d1 b : Nat} {As rest st0 : List Value} {r : Int32} (X : zC0 κ RX8 cc nL d) (hd : d1 + 1 ≤ d) (hM : zMet κ.1 zX d1 yX2_hasPoint cX2_hasPoint 2 (some .boolean) (.ref b :: As) σ (some (.int r)) σ1) (he : ∃ (q : Nat) (fs : List Value), (zX (ze κ.1) σ)[q]? = some (b, .inr (2, fs))) (hn : As.length = 1) (hst : st0 = As.reverse ++ .ref b :: rest) (hcat : (rest.map fun v => v.category).sum ≤ 8) (hdg : decode cc pc = .ok (.invokevirtual 85, 3)) (kk : Z κ nL (zX (ze κ.1) σ1) lv (pc + 3) (.int r :: rest)) : Z κ nL (zX (ze κ.1) σ) lv pc st0 := by
  obtain ⟨q, fs, he⟩ := he
  exact z_callV X hd hM he rfl tw331 tw332 tw333 tw70 tw334 (by decide) ds_X2_hasPoint hn hst hcat hdg kk
theorem tw335 : Cond.methodLink RX8 89 yX8_isWay ∈ zt := zt_at 335 (by decide +kernel)
theorem tw336 : Cond.static yX8_isWay ∈ zt := zt_at 336 (by decide +kernel)
theorem tw337 : Cond.code yX8_isWay cX8_isWay 1 (some .boolean) ∈ zt := zt_at 337 (by decide +kernel)
theorem cl_X8_89 {σ1 : S3} {d1 : Nat} {As rest st0 : List Value} {r : Int32} (X : zC0 κ RX8 cc nL d) (hd : d1 + 1 ≤ d) (hM : zMet κ.1 zX d1 yX8_isWay cX8_isWay 1 (some .boolean) As σ (some (.int r)) σ1) (hn : As.length = 1) (hst : st0 = As.reverse ++ rest) (hcat : (rest.map fun v => v.category).sum ≤ 8) (hdg : decode cc pc = .ok (.invokestatic 89, 3)) (kk : Z κ nL (zX (ze κ.1) σ1) lv (pc + 3) (.int r :: rest)) : Z κ nL (zX (ze κ.1) σ) lv pc st0 := z_callS X hd hM tw335 tw336 tw69 tw337 (by decide) ds_X8_isWay hn hst hcat hdg kk
theorem tw338 : Cond.methodLink RX8 95 yX2_join ∈ zt := zt_at 338 (by decide +kernel)
theorem cl_X8_95 {σ1 : S3} {d1 b : Nat} {As rest st0 : List Value} {r : Int32} (X : zC0 κ RX8 cc nL d) (hd : d1 + 1 ≤ d) (hM : zMet κ.1 zX d1 yX2_join cX2_join 4 none (.ref b :: As) σ none σ1) (he : ∃ (q : Nat) (fs : List Value), (zX (ze κ.1) σ)[q]? = some (b, .inr (2, fs))) (hn : As.length = 3) (hst : st0 = As.reverse ++ .ref b :: rest) (hcat : (rest.map fun v => v.category).sum ≤ 8) (hdg : decode cc pc = .ok (.invokevirtual 95, 3)) (kk : Z κ nL (zX (ze κ.1) σ1) lv (pc + 3) (rest)) : Z κ nL (zX (ze κ.1) σ) lv pc st0 := by
  obtain ⟨q, fs, he⟩ := he
  exact z_callV X hd hM he rfl tw338 tw339 tw340 tw70 tw341 (by decide) ds_X2_join hn hst hcat hdg kk
theorem tw346 : Cond.methodLink RX8 99 yX2_hasLine ∈ zt := zt_at 346 (by decide +kernel)
theorem cl_X8_99 {σ1 : S3} {d1 b : Nat} {As rest st0 : List Value} {r : Int32} (X : zC0 κ RX8 cc nL d) (hd : d1 + 1 ≤ d) (hM : zMet κ.1 zX d1 yX2_hasLine cX2_hasLine 2 (some .boolean) (.ref b :: As) σ (some (.int r)) σ1) (he : ∃ (q : Nat) (fs : List Value), (zX (ze κ.1) σ)[q]? = some (b, .inr (2, fs))) (hn : As.length = 1) (hst : st0 = As.reverse ++ .ref b :: rest) (hcat : (rest.map fun v => v.category).sum ≤ 8) (hdg : decode cc pc = .ok (.invokevirtual 99, 3)) (kk : Z κ nL (zX (ze κ.1) σ1) lv (pc + 3) (.int r :: rest)) : Z κ nL (zX (ze κ.1) σ) lv pc st0 := by
  obtain ⟨q, fs, he⟩ := he
  exact z_callV X hd hM he rfl tw346 tw347 tw348 tw70 tw349 (by decide) ds_X2_hasLine hn hst hcat hdg kk
theorem tw350 : Cond.methodLink RX8 105 yX2_turn ∈ zt := zt_at 350 (by decide +kernel)
theorem tw351 : Cond.instanceMethod yX2_turn ∈ zt := zt_at 351 (by decide +kernel)
theorem tw352 : Cond.selects RX2 yX2_turn yX2_turn ∈ zt := zt_at 352 (by decide +kernel)
theorem tw353 : Cond.code yX2_turn cX2_turn 3 none ∈ zt := zt_at 353 (by decide +kernel)
theorem cl_X8_105 {σ1 : S3} {d1 b : Nat} {As rest st0 : List Value} {r : Int32} (X : zC0 κ RX8 cc nL d) (hd : d1 + 1 ≤ d) (hM : zMet κ.1 zX d1 yX2_turn cX2_turn 3 none (.ref b :: As) σ none σ1) (he : ∃ (q : Nat) (fs : List Value), (zX (ze κ.1) σ)[q]? = some (b, .inr (2, fs))) (hn : As.length = 2) (hst : st0 = As.reverse ++ .ref b :: rest) (hcat : (rest.map fun v => v.category).sum ≤ 8) (hdg : decode cc pc = .ok (.invokevirtual 105, 3)) (kk : Z κ nL (zX (ze κ.1) σ1) lv (pc + 3) (rest)) : Z κ nL (zX (ze κ.1) σ) lv pc st0 := by
  obtain ⟨q, fs, he⟩ := he
  exact z_callV X hd hM he rfl tw350 tw351 tw352 tw70 tw353 (by decide) ds_X2_turn hn hst hcat hdg kk
theorem tw358 : Cond.methodLink RX8 109 yX2_remove ∈ zt := zt_at 358 (by decide +kernel)
theorem tw359 : Cond.instanceMethod yX2_remove ∈ zt := zt_at 359 (by decide +kernel)
theorem tw360 : Cond.selects RX2 yX2_remove yX2_remove ∈ zt := zt_at 360 (by decide +kernel)
theorem tw361 : Cond.code yX2_remove cX2_remove 3 none ∈ zt := zt_at 361 (by decide +kernel)
theorem cl_X8_109 {σ1 : S3} {d1 b : Nat} {As rest st0 : List Value} {r : Int32} (X : zC0 κ RX8 cc nL d) (hd : d1 + 1 ≤ d) (hM : zMet κ.1 zX d1 yX2_remove cX2_remove 3 none (.ref b :: As) σ none σ1) (he : ∃ (q : Nat) (fs : List Value), (zX (ze κ.1) σ)[q]? = some (b, .inr (2, fs))) (hn : As.length = 1) (hst : st0 = As.reverse ++ .ref b :: rest) (hcat : (rest.map fun v => v.category).sum ≤ 8) (hdg : decode cc pc = .ok (.invokevirtual 109, 3)) (kk : Z κ nL (zX (ze κ.1) σ1) lv (pc + 3) (rest)) : Z κ nL (zX (ze κ.1) σ) lv pc st0 := by
  obtain ⟨q, fs, he⟩ := he
  exact z_callV X hd hM he rfl tw358 tw359 tw360 tw70 tw361 (by decide) ds_X2_remove hn hst hcat hdg kk
theorem tw373 : Cond.methodLink RX8 118 yX2_degree ∈ zt := zt_at 373 (by decide +kernel)
theorem tw374 : Cond.instanceMethod yX2_degree ∈ zt := zt_at 374 (by decide +kernel)
theorem tw375 : Cond.selects RX2 yX2_degree yX2_degree ∈ zt := zt_at 375 (by decide +kernel)
theorem tw376 : Cond.code yX2_degree cX2_degree 3 (some .int) ∈ zt := zt_at 376 (by decide +kernel)
theorem cl_X8_118 {σ1 : S3} {d1 b : Nat} {As rest st0 : List Value} {r : Int32} (X : zC0 κ RX8 cc nL d) (hd : d1 + 1 ≤ d) (hM : zMet κ.1 zX d1 yX2_degree cX2_degree 3 (some .int) (.ref b :: As) σ (some (.int r)) σ1) (he : ∃ (q : Nat) (fs : List Value), (zX (ze κ.1) σ)[q]? = some (b, .inr (2, fs))) (hn : As.length = 2) (hst : st0 = As.reverse ++ .ref b :: rest) (hcat : (rest.map fun v => v.category).sum ≤ 8) (hdg : decode cc pc = .ok (.invokevirtual 118, 3)) (kk : Z κ nL (zX (ze κ.1) σ1) lv (pc + 3) (.int r :: rest)) : Z κ nL (zX (ze κ.1) σ) lv pc st0 := by
  obtain ⟨q, fs, he⟩ := he
  exact z_callV X hd hM he rfl tw373 tw374 tw375 tw70 tw376 (by decide) ds_X2_degree hn hst hcat hdg kk
theorem tw387 : Cond.methodLink RX8 122 yX2_sideZero ∈ zt := zt_at 387 (by decide +kernel)
theorem tw388 : Cond.instanceMethod yX2_sideZero ∈ zt := zt_at 388 (by decide +kernel)
theorem tw389 : Cond.selects RX2 yX2_sideZero yX2_sideZero ∈ zt := zt_at 389 (by decide +kernel)
theorem tw390 : Cond.code yX2_sideZero cX2_sideZero 5 (some .int) ∈ zt := zt_at 390 (by decide +kernel)
theorem cl_X8_122 {σ1 : S3} {d1 b : Nat} {As rest st0 : List Value} {r : Int32} (X : zC0 κ RX8 cc nL d) (hd : d1 + 1 ≤ d) (hM : zMet κ.1 zX d1 yX2_sideZero cX2_sideZero 5 (some .int) (.ref b :: As) σ (some (.int r)) σ1) (he : ∃ (q : Nat) (fs : List Value), (zX (ze κ.1) σ)[q]? = some (b, .inr (2, fs))) (hn : As.length = 0) (hst : st0 = As.reverse ++ .ref b :: rest) (hcat : (rest.map fun v => v.category).sum ≤ 8) (hdg : decode cc pc = .ok (.invokevirtual 122, 3)) (kk : Z κ nL (zX (ze κ.1) σ1) lv (pc + 3) (.int r :: rest)) : Z κ nL (zX (ze κ.1) σ) lv pc st0 := by
  obtain ⟨q, fs, he⟩ := he
  exact z_callV X hd hM he rfl tw387 tw388 tw389 tw70 tw390 (by decide) ds_X2_sideZero hn hst hcat hdg kk
theorem tw399 : Cond.methodLink RX8 126 yX2_everyPoint ∈ zt := zt_at 399 (by decide +kernel)
theorem cl_X8_126 {σ1 : S3} {d1 b : Nat} {As rest st0 : List Value} {r : Int32} (X : zC0 κ RX8 cc nL d) (hd : d1 + 1 ≤ d) (hM : zMet κ.1 zX d1 yX2_everyPoint cX2_everyPoint 1 (some .int) (.ref b :: As) σ (some (.int r)) σ1) (he : ∃ (q : Nat) (fs : List Value), (zX (ze κ.1) σ)[q]? = some (b, .inr (2, fs))) (hn : As.length = 0) (hst : st0 = As.reverse ++ .ref b :: rest) (hcat : (rest.map fun v => v.category).sum ≤ 8) (hdg : decode cc pc = .ok (.invokevirtual 126, 3)) (kk : Z κ nL (zX (ze κ.1) σ1) lv (pc + 3) (.int r :: rest)) : Z κ nL (zX (ze κ.1) σ) lv pc st0 := by
  obtain ⟨q, fs, he⟩ := he
  exact z_callV X hd hM he rfl tw399 tw400 tw401 tw70 tw402 (by decide) ds_X2_everyPoint hn hst hcat hdg kk
theorem tw403 : Cond.methodLink RX8 129 yX2_mostPairs ∈ zt := zt_at 403 (by decide +kernel)
theorem cl_X8_129 {σ1 : S3} {d1 b : Nat} {As rest st0 : List Value} {r : Int32} (X : zC0 κ RX8 cc nL d) (hd : d1 + 1 ≤ d) (hM : zMet κ.1 zX d1 yX2_mostPairs cX2_mostPairs 2 (some .int) (.ref b :: As) σ (some (.int r)) σ1) (he : ∃ (q : Nat) (fs : List Value), (zX (ze κ.1) σ)[q]? = some (b, .inr (2, fs))) (hn : As.length = 1) (hst : st0 = As.reverse ++ .ref b :: rest) (hcat : (rest.map fun v => v.category).sum ≤ 8) (hdg : decode cc pc = .ok (.invokevirtual 129, 3)) (kk : Z κ nL (zX (ze κ.1) σ1) lv (pc + 3) (.int r :: rest)) : Z κ nL (zX (ze κ.1) σ) lv pc st0 := by
  obtain ⟨q, fs, he⟩ := he
  exact z_callV X hd hM he rfl tw403 tw404 tw405 tw70 tw406 (by decide) ds_X2_mostPairs hn hst hcat hdg kk
theorem tw418 : Cond.methodLink RX8 132 yX2_leastPairing ∈ zt := zt_at 418 (by decide +kernel)
theorem cl_X8_132 {σ1 : S3} {d1 b : Nat} {As rest st0 : List Value} {r : Int32} (X : zC0 κ RX8 cc nL d) (hd : d1 + 1 ≤ d) (hM : zMet κ.1 zX d1 yX2_leastPairing cX2_leastPairing 6 (some .int) (.ref b :: As) σ (some (.int r)) σ1) (he : ∃ (q : Nat) (fs : List Value), (zX (ze κ.1) σ)[q]? = some (b, .inr (2, fs))) (hn : As.length = 1) (hst : st0 = As.reverse ++ .ref b :: rest) (hcat : (rest.map fun v => v.category).sum ≤ 8) (hdg : decode cc pc = .ok (.invokevirtual 132, 3)) (kk : Z κ nL (zX (ze κ.1) σ1) lv (pc + 3) (.int r :: rest)) : Z κ nL (zX (ze κ.1) σ) lv pc st0 := by
  obtain ⟨q, fs, he⟩ := he
  exact z_callV X hd hM he rfl tw418 tw419 tw420 tw70 tw421 (by decide) ds_X2_leastPairing hn hst hcat hdg kk
theorem tw426 : Cond.methodLink RX8 135 yX2_neededPoints ∈ zt := zt_at 426 (by decide +kernel)
theorem tw427 : Cond.instanceMethod yX2_neededPoints ∈ zt := zt_at 427 (by decide +kernel)
theorem tw428 : Cond.selects RX2 yX2_neededPoints yX2_neededPoints ∈ zt := zt_at 428 (by decide +kernel)
theorem tw429 : Cond.code yX2_neededPoints cX2_neededPoints 4 (some .int) ∈ zt := zt_at 429 (by decide +kernel)
theorem cl_X8_135 {σ1 : S3} {d1 b : Nat} {As rest st0 : List Value} {r : Int32} (X : zC0 κ RX8 cc nL d) (hd : d1 + 1 ≤ d) (hM : zMet κ.1 zX d1 yX2_neededPoints cX2_neededPoints 4 (some .int) (.ref b :: As) σ (some (.int r)) σ1) (he : ∃ (q : Nat) (fs : List Value), (zX (ze κ.1) σ)[q]? = some (b, .inr (2, fs))) (hn : As.length = 0) (hst : st0 = As.reverse ++ .ref b :: rest) (hcat : (rest.map fun v => v.category).sum ≤ 8) (hdg : decode cc pc = .ok (.invokevirtual 135, 3)) (kk : Z κ nL (zX (ze κ.1) σ1) lv (pc + 3) (.int r :: rest)) : Z κ nL (zX (ze κ.1) σ) lv pc st0 := by
  obtain ⟨q, fs, he⟩ := he
  exact z_callV X hd hM he rfl tw426 tw427 tw428 tw70 tw429 (by decide) ds_X2_neededPoints hn hst hcat hdg kk
theorem tw436 : Cond.methodLink RX8 138 yX2_isKernel ∈ zt := zt_at 436 (by decide +kernel)
theorem tw437 : Cond.instanceMethod yX2_isKernel ∈ zt := zt_at 437 (by decide +kernel)
theorem tw438 : Cond.selects RX2 yX2_isKernel yX2_isKernel ∈ zt := zt_at 438 (by decide +kernel)
theorem tw439 : Cond.code yX2_isKernel cX2_isKernel 5 (some .boolean) ∈ zt := zt_at 439 (by decide +kernel)
theorem cl_X8_138 {σ1 : S3} {d1 b : Nat} {As rest st0 : List Value} {r : Int32} (X : zC0 κ RX8 cc nL d) (hd : d1 + 1 ≤ d) (hM : zMet κ.1 zX d1 yX2_isKernel cX2_isKernel 5 (some .boolean) (.ref b :: As) σ (some (.int r)) σ1) (he : ∃ (q : Nat) (fs : List Value), (zX (ze κ.1) σ)[q]? = some (b, .inr (2, fs))) (hn : As.length = 1) (hst : st0 = As.reverse ++ .ref b :: rest) (hcat : (rest.map fun v => v.category).sum ≤ 8) (hdg : decode cc pc = .ok (.invokevirtual 138, 3)) (kk : Z κ nL (zX (ze κ.1) σ1) lv (pc + 3) (.int r :: rest)) : Z κ nL (zX (ze κ.1) σ) lv pc st0 := by
  obtain ⟨q, fs, he⟩ := he
  exact z_callV X hd hM he rfl tw436 tw437 tw438 tw70 tw439 (by decide) ds_X2_isKernel hn hst hcat hdg kk
theorem tw444 : Cond.methodLink RX8 144 yX6_add ∈ zt := zt_at 444 (by decide +kernel)
theorem tw445 : Cond.instanceMethod yX6_add ∈ zt := zt_at 445 (by decide +kernel)
theorem tw446 : Cond.selects RX6 yX6_add yX6_add ∈ zt := zt_at 446 (by decide +kernel)
theorem tw447 : Cond.code yX6_add cX6_add 5 none ∈ zt := zt_at 447 (by decide +kernel)
theorem cl_X8_144 {σ1 : S3} {d1 b : Nat} {As rest st0 : List Value} {r : Int32} (X : zC0 κ RX8 cc nL d) (hd : d1 + 1 ≤ d) (hM : zMet κ.1 zX d1 yX6_add cX6_add 5 none (.ref b :: As) σ none σ1) (he : ∃ (q : Nat) (fs : List Value), (zX (ze κ.1) σ)[q]? = some (b, .inr (5, fs))) (hn : As.length = 2) (hst : st0 = As.reverse ++ .ref b :: rest) (hcat : (rest.map fun v => v.category).sum ≤ 8) (hdg : decode cc pc = .ok (.invokevirtual 144, 3)) (kk : Z κ nL (zX (ze κ.1) σ1) lv (pc + 3) (rest)) : Z κ nL (zX (ze κ.1) σ) lv pc st0 := by
  obtain ⟨q, fs, he⟩ := he
  exact z_callV X hd hM he rfl tw444 tw445 tw446 tw75 tw447 (by decide) ds_X6_add hn hst hcat hdg kk
theorem tw452 : Cond.methodLink RX8 148 yX6_fault ∈ zt := zt_at 452 (by decide +kernel)
theorem tw453 : Cond.instanceMethod yX6_fault ∈ zt := zt_at 453 (by decide +kernel)
theorem tw454 : Cond.selects RX6 yX6_fault yX6_fault ∈ zt := zt_at 454 (by decide +kernel)
theorem tw455 : Cond.code yX6_fault cX6_fault 2 (some .int) ∈ zt := zt_at 455 (by decide +kernel)
theorem cl_X8_148 {σ1 : S3} {d1 b : Nat} {As rest st0 : List Value} {r : Int32} (X : zC0 κ RX8 cc nL d) (hd : d1 + 1 ≤ d) (hM : zMet κ.1 zX d1 yX6_fault cX6_fault 2 (some .int) (.ref b :: As) σ (some (.int r)) σ1) (he : ∃ (q : Nat) (fs : List Value), (zX (ze κ.1) σ)[q]? = some (b, .inr (5, fs))) (hn : As.length = 0) (hst : st0 = As.reverse ++ .ref b :: rest) (hcat : (rest.map fun v => v.category).sum ≤ 8) (hdg : decode cc pc = .ok (.invokevirtual 148, 3)) (kk : Z κ nL (zX (ze κ.1) σ1) lv (pc + 3) (.int r :: rest)) : Z κ nL (zX (ze κ.1) σ) lv pc st0 := by
  obtain ⟨q, fs, he⟩ := he
  exact z_callV X hd hM he rfl tw452 tw453 tw454 tw75 tw455 (by decide) ds_X6_fault hn hst hcat hdg kk
theorem tw463 : Cond.methodLink RX8 151 yX6_tell ∈ zt := zt_at 463 (by decide +kernel)
theorem tw464 : Cond.instanceMethod yX6_tell ∈ zt := zt_at 464 (by decide +kernel)
theorem tw465 : Cond.selects RX6 yX6_tell yX6_tell ∈ zt := zt_at 465 (by decide +kernel)
theorem tw466 : Cond.code yX6_tell cX6_tell 4 none ∈ zt := zt_at 466 (by decide +kernel)
theorem cl_X8_151 {σ1 : S3} {d1 b : Nat} {As rest st0 : List Value} {r : Int32} (X : zC0 κ RX8 cc nL d) (hd : d1 + 1 ≤ d) (hM : zMet κ.1 zX d1 yX6_tell cX6_tell 4 none (.ref b :: As) σ none σ1) (he : ∃ (q : Nat) (fs : List Value), (zX (ze κ.1) σ)[q]? = some (b, .inr (5, fs))) (hn : As.length = 1) (hst : st0 = As.reverse ++ .ref b :: rest) (hcat : (rest.map fun v => v.category).sum ≤ 8) (hdg : decode cc pc = .ok (.invokevirtual 151, 3)) (kk : Z κ nL (zX (ze κ.1) σ1) lv (pc + 3) (rest)) : Z κ nL (zX (ze κ.1) σ) lv pc st0 := by
  obtain ⟨q, fs, he⟩ := he
  exact z_callV X hd hM he rfl tw463 tw464 tw465 tw75 tw466 (by decide) ds_X6_tell hn hst hcat hdg kk
theorem tw477 : Cond.methodLink RX8 154 yX8_isRule ∈ zt := zt_at 477 (by decide +kernel)
theorem tw478 : Cond.static yX8_isRule ∈ zt := zt_at 478 (by decide +kernel)
theorem tw479 : Cond.code yX8_isRule cX8_isRule 1 (some .boolean) ∈ zt := zt_at 479 (by decide +kernel)
theorem cl_X8_154 {σ1 : S3} {d1 : Nat} {As rest st0 : List Value} {r : Int32} (X : zC0 κ RX8 cc nL d) (hd : d1 + 1 ≤ d) (hM : zMet κ.1 zX d1 yX8_isRule cX8_isRule 1 (some .boolean) As σ (some (.int r)) σ1) (hn : As.length = 1) (hst : st0 = As.reverse ++ rest) (hcat : (rest.map fun v => v.category).sum ≤ 8) (hdg : decode cc pc = .ok (.invokestatic 154, 3)) (kk : Z κ nL (zX (ze κ.1) σ1) lv (pc + 3) (.int r :: rest)) : Z κ nL (zX (ze κ.1) σ) lv pc st0 := z_callS X hd hM tw477 tw478 tw69 tw479 (by decide) ds_X8_isRule hn hst hcat hdg kk
theorem tw480 : Cond.methodLink RX8 157 yX1_turnTo ∈ zt := zt_at 480 (by decide +kernel)
theorem tw481 : Cond.instanceMethod yX1_turnTo ∈ zt := zt_at 481 (by decide +kernel)
theorem tw482 : Cond.selects RX1 yX1_turnTo yX1_turnTo ∈ zt := zt_at 482 (by decide +kernel)
theorem tw483 : Cond.code yX1_turnTo cX1_turnTo 2 none ∈ zt := zt_at 483 (by decide +kernel)
theorem cl_X8_157 {σ1 : S3} {d1 b : Nat} {As rest st0 : List Value} {r : Int32} (X : zC0 κ RX8 cc nL d) (hd : d1 + 1 ≤ d) (hM : zMet κ.1 zX d1 yX1_turnTo cX1_turnTo 2 none (.ref b :: As) σ none σ1) (he : ∃ (q : Nat) (fs : List Value), (zX (ze κ.1) σ)[q]? = some (b, .inr (1, fs))) (hn : As.length = 1) (hst : st0 = As.reverse ++ .ref b :: rest) (hcat : (rest.map fun v => v.category).sum ≤ 8) (hdg : decode cc pc = .ok (.invokevirtual 157, 3)) (kk : Z κ nL (zX (ze κ.1) σ1) lv (pc + 3) (rest)) : Z κ nL (zX (ze κ.1) σ) lv pc st0 := by
  obtain ⟨q, fs, he⟩ := he
  exact z_callV X hd hM he rfl tw480 tw481 tw482 tw71 tw483 (by decide) ds_X1_turnTo hn hst hcat hdg kk
theorem tw486 : Cond.methodLink RX8 160 yX5_atFirst ∈ zt := zt_at 486 (by decide +kernel)
theorem tw487 : Cond.static yX5_atFirst ∈ zt := zt_at 487 (by decide +kernel)
theorem tw488 : Cond.code yX5_atFirst cX5_atFirst 1 (some .int) ∈ zt := zt_at 488 (by decide +kernel)
theorem cl_X8_160 {σ1 : S3} {d1 : Nat} {As rest st0 : List Value} {r : Int32} (X : zC0 κ RX8 cc nL d) (hd : d1 + 1 ≤ d) (hM : zMet κ.1 zX d1 yX5_atFirst cX5_atFirst 1 (some .int) As σ (some (.int r)) σ1) (hn : As.length = 1) (hst : st0 = As.reverse ++ rest) (hcat : (rest.map fun v => v.category).sum ≤ 8) (hdg : decode cc pc = .ok (.invokestatic 160, 3)) (kk : Z κ nL (zX (ze κ.1) σ1) lv (pc + 3) (.int r :: rest)) : Z κ nL (zX (ze κ.1) σ) lv pc st0 := z_callS X hd hM tw486 tw487 tw82 tw488 (by decide) ds_X5_atFirst hn hst hcat hdg kk
theorem tw489 : Cond.methodLink RX8 165 yX0_start ∈ zt := zt_at 489 (by decide +kernel)
theorem tw490 : Cond.instanceMethod yX0_start ∈ zt := zt_at 490 (by decide +kernel)
theorem tw491 : Cond.selects RX0 yX0_start yX0_start ∈ zt := zt_at 491 (by decide +kernel)
theorem tw74 : Cond.initialized RX0 ∈ zt := zt_at 74 (by decide +kernel)
theorem tw492 : Cond.code yX0_start cX0_start 3 none ∈ zt := zt_at 492 (by decide +kernel)
theorem cl_X8_165 {σ1 : S3} {d1 b : Nat} {As rest st0 : List Value} {r : Int32} (X : zC0 κ RX8 cc nL d) (hd : d1 + 1 ≤ d) (hM : zMet κ.1 zX d1 yX0_start cX0_start 3 none (.ref b :: As) σ none σ1) (he : ∃ (q : Nat) (fs : List Value), (zX (ze κ.1) σ)[q]? = some (b, .inr (0, fs))) (hn : As.length = 2) (hst : st0 = As.reverse ++ .ref b :: rest) (hcat : (rest.map fun v => v.category).sum ≤ 8) (hdg : decode cc pc = .ok (.invokevirtual 165, 3)) (kk : Z κ nL (zX (ze κ.1) σ1) lv (pc + 3) (rest)) : Z κ nL (zX (ze κ.1) σ) lv pc st0 := by
  obtain ⟨q, fs, he⟩ := he
  exact z_callV X hd hM he rfl tw489 tw490 tw491 tw74 tw492 (by decide) ds_X0_start hn hst hcat hdg kk
theorem tw493 : Cond.methodLink RX8 168 yX0_stand ∈ zt := zt_at 493 (by decide +kernel)
theorem tw494 : Cond.instanceMethod yX0_stand ∈ zt := zt_at 494 (by decide +kernel)
theorem tw495 : Cond.selects RX0 yX0_stand yX0_stand ∈ zt := zt_at 495 (by decide +kernel)
theorem tw496 : Cond.code yX0_stand cX0_stand 1 (some .int) ∈ zt := zt_at 496 (by decide +kernel)
theorem cl_X8_168 {σ1 : S3} {d1 b : Nat} {As rest st0 : List Value} {r : Int32} (X : zC0 κ RX8 cc nL d) (hd : d1 + 1 ≤ d) (hM : zMet κ.1 zX d1 yX0_stand cX0_stand 1 (some .int) (.ref b :: As) σ (some (.int r)) σ1) (he : ∃ (q : Nat) (fs : List Value), (zX (ze κ.1) σ)[q]? = some (b, .inr (0, fs))) (hn : As.length = 0) (hst : st0 = As.reverse ++ .ref b :: rest) (hcat : (rest.map fun v => v.category).sum ≤ 8) (hdg : decode cc pc = .ok (.invokevirtual 168, 3)) (kk : Z κ nL (zX (ze κ.1) σ1) lv (pc + 3) (.int r :: rest)) : Z κ nL (zX (ze κ.1) σ) lv pc st0 := by
  obtain ⟨q, fs, he⟩ := he
  exact z_callV X hd hM he rfl tw493 tw494 tw495 tw74 tw496 (by decide) ds_X0_stand hn hst hcat hdg kk
theorem tw497 : Cond.methodLink RX8 171 yX1_wins ∈ zt := zt_at 497 (by decide +kernel)
theorem cl_X8_171 {σ1 : S3} {d1 b : Nat} {As rest st0 : List Value} {r : Int32} (X : zC0 κ RX8 cc nL d) (hd : d1 + 1 ≤ d) (hM : zMet κ.1 zX d1 yX1_wins cX1_wins 2 (some .boolean) (.ref b :: As) σ (some (.int r)) σ1) (he : ∃ (q : Nat) (fs : List Value), (zX (ze κ.1) σ)[q]? = some (b, .inr (1, fs))) (hn : As.length = 1) (hst : st0 = As.reverse ++ .ref b :: rest) (hcat : (rest.map fun v => v.category).sum ≤ 8) (hdg : decode cc pc = .ok (.invokevirtual 171, 3)) (kk : Z κ nL (zX (ze κ.1) σ1) lv (pc + 3) (.int r :: rest)) : Z κ nL (zX (ze κ.1) σ) lv pc st0 := by
  obtain ⟨q, fs, he⟩ := he
  exact z_callV X hd hM he rfl tw497 tw498 tw499 tw71 tw500 (by decide) ds_X1_wins hn hst hcat hdg kk
theorem tw563 : Cond.methodLink RX8 174 yX8_isOver ∈ zt := zt_at 563 (by decide +kernel)
theorem tw565 : Cond.instanceMethod yX8_isOver ∈ zt := zt_at 565 (by decide +kernel)
theorem tw9 : Cond.selects RX8 yX8_isOver yX8_isOver ∈ zt := zt_at 9 (by decide +kernel)
theorem tw566 : Cond.code yX8_isOver cX8_isOver 1 (some .boolean) ∈ zt := zt_at 566 (by decide +kernel)
theorem cl_X8_174 {σ1 : S3} {d1 b : Nat} {As rest st0 : List Value} {r : Int32} (X : zC0 κ RX8 cc nL d) (hd : d1 + 1 ≤ d) (hM : zMet κ.1 zX d1 yX8_isOver cX8_isOver 1 (some .boolean) (.ref b :: As) σ (some (.int r)) σ1) (he : ∃ (q : Nat) (fs : List Value), (zX (ze κ.1) σ)[q]? = some (b, .inr (7, fs))) (hn : As.length = 0) (hst : st0 = As.reverse ++ .ref b :: rest) (hcat : (rest.map fun v => v.category).sum ≤ 8) (hdg : decode cc pc = .ok (.invokevirtual 174, 3)) (kk : Z κ nL (zX (ze κ.1) σ1) lv (pc + 3) (.int r :: rest)) : Z κ nL (zX (ze κ.1) σ) lv pc st0 := by
  obtain ⟨q, fs, he⟩ := he
  exact z_callV X hd hM he rfl tw563 tw565 tw9 tw69 tw566 (by decide) ds_X8_isOver hn hst hcat hdg kk
theorem tw567 : Cond.methodLink RX8 178 yX1_movesFrom ∈ zt := zt_at 567 (by decide +kernel)
theorem cl_X8_178 {σ1 : S3} {d1 b : Nat} {As rest st0 : List Value} {r : Int32} (X : zC0 κ RX8 cc nL d) (hd : d1 + 1 ≤ d) (hM : zMet κ.1 zX d1 yX1_movesFrom cX1_movesFrom 8 (some .int) (.ref b :: As) σ (some (.int r)) σ1) (he : ∃ (q : Nat) (fs : List Value), (zX (ze κ.1) σ)[q]? = some (b, .inr (1, fs))) (hn : As.length = 1) (hst : st0 = As.reverse ++ .ref b :: rest) (hcat : (rest.map fun v => v.category).sum ≤ 8) (hdg : decode cc pc = .ok (.invokevirtual 178, 3)) (kk : Z κ nL (zX (ze κ.1) σ1) lv (pc + 3) (.int r :: rest)) : Z κ nL (zX (ze κ.1) σ) lv pc st0 := by
  obtain ⟨q, fs, he⟩ := he
  exact z_callV X hd hM he rfl tw567 tw522 tw523 tw71 tw524 (by decide) ds_X1_movesFrom hn hst hcat hdg kk
theorem tw568 : Cond.methodLink RX8 181 yX1_behind ∈ zt := zt_at 568 (by decide +kernel)
theorem cl_X8_181 {σ1 : S3} {d1 b : Nat} {As rest st0 : List Value} {r : Int32} (X : zC0 κ RX8 cc nL d) (hd : d1 + 1 ≤ d) (hM : zMet κ.1 zX d1 yX1_behind cX1_behind 3 (some .int) (.ref b :: As) σ (some (.int r)) σ1) (he : ∃ (q : Nat) (fs : List Value), (zX (ze κ.1) σ)[q]? = some (b, .inr (1, fs))) (hn : As.length = 2) (hst : st0 = As.reverse ++ .ref b :: rest) (hcat : (rest.map fun v => v.category).sum ≤ 8) (hdg : decode cc pc = .ok (.invokevirtual 181, 3)) (kk : Z κ nL (zX (ze κ.1) σ1) lv (pc + 3) (.int r :: rest)) : Z κ nL (zX (ze κ.1) σ) lv pc st0 := by
  obtain ⟨q, fs, he⟩ := he
  exact z_callV X hd hM he rfl tw568 tw532 tw533 tw71 tw534 (by decide) ds_X1_behind hn hst hcat hdg kk
theorem tw569 : Cond.methodLink RX8 184 yX0_advance ∈ zt := zt_at 569 (by decide +kernel)
theorem tw570 : Cond.instanceMethod yX0_advance ∈ zt := zt_at 570 (by decide +kernel)
theorem tw571 : Cond.selects RX0 yX0_advance yX0_advance ∈ zt := zt_at 571 (by decide +kernel)
theorem tw572 : Cond.code yX0_advance cX0_advance 3 none ∈ zt := zt_at 572 (by decide +kernel)
theorem cl_X8_184 {σ1 : S3} {d1 b : Nat} {As rest st0 : List Value} {r : Int32} (X : zC0 κ RX8 cc nL d) (hd : d1 + 1 ≤ d) (hM : zMet κ.1 zX d1 yX0_advance cX0_advance 3 none (.ref b :: As) σ none σ1) (he : ∃ (q : Nat) (fs : List Value), (zX (ze κ.1) σ)[q]? = some (b, .inr (0, fs))) (hn : As.length = 2) (hst : st0 = As.reverse ++ .ref b :: rest) (hcat : (rest.map fun v => v.category).sum ≤ 8) (hdg : decode cc pc = .ok (.invokevirtual 184, 3)) (kk : Z κ nL (zX (ze κ.1) σ1) lv (pc + 3) (rest)) : Z κ nL (zX (ze κ.1) σ) lv pc st0 := by
  obtain ⟨q, fs, he⟩ := he
  exact z_callV X hd hM he rfl tw569 tw570 tw571 tw74 tw572 (by decide) ds_X0_advance hn hst hcat hdg kk
theorem tw581 : Cond.methodLink RX8 193 yX5_marker ∈ zt := zt_at 581 (by decide +kernel)
theorem cl_X8_193 {σ1 : S3} {d1 : Nat} {As rest st0 : List Value} {r : Int32} (X : zC0 κ RX8 cc nL d) (hd : d1 + 1 ≤ d) (hM : zMet κ.1 zX d1 yX5_marker cX5_marker 1 (some .int) As σ (some (.int r)) σ1) (hn : As.length = 1) (hst : st0 = As.reverse ++ rest) (hcat : (rest.map fun v => v.category).sum ≤ 8) (hdg : decode cc pc = .ok (.invokestatic 193, 3)) (kk : Z κ nL (zX (ze κ.1) σ1) lv (pc + 3) (.int r :: rest)) : Z κ nL (zX (ze κ.1) σ) lv pc st0 := z_callS X hd hM tw581 tw516 tw82 tw517 (by decide) ds_X5_marker hn hst hcat hdg kk
theorem tw582 : Cond.methodLink RX8 196 yX5_met ∈ zt := zt_at 582 (by decide +kernel)
theorem cl_X8_196 {σ1 : S3} {d1 : Nat} {As rest st0 : List Value} {r : Int32} (X : zC0 κ RX8 cc nL d) (hd : d1 + 1 ≤ d) (hM : zMet κ.1 zX d1 yX5_met cX5_met 1 (some .int) As σ (some (.int r)) σ1) (hn : As.length = 1) (hst : st0 = As.reverse ++ rest) (hcat : (rest.map fun v => v.category).sum ≤ 8) (hdg : decode cc pc = .ok (.invokestatic 196, 3)) (kk : Z κ nL (zX (ze κ.1) σ1) lv (pc + 3) (.int r :: rest)) : Z κ nL (zX (ze κ.1) σ) lv pc st0 := z_callS X hd hM tw582 tw519 tw82 tw520 (by decide) ds_X5_met hn hst hcat hdg kk
theorem tw583 : Cond.methodLink RX8 199 yX5_gone ∈ zt := zt_at 583 (by decide +kernel)
theorem cl_X8_199 {σ1 : S3} {d1 : Nat} {As rest st0 : List Value} {r : Int32} (X : zC0 κ RX8 cc nL d) (hd : d1 + 1 ≤ d) (hM : zMet κ.1 zX d1 yX5_gone cX5_gone 1 (some .int) As σ (some (.int r)) σ1) (hn : As.length = 1) (hst : st0 = As.reverse ++ rest) (hcat : (rest.map fun v => v.category).sum ≤ 8) (hdg : decode cc pc = .ok (.invokestatic 199, 3)) (kk : Z κ nL (zX (ze κ.1) σ1) lv (pc + 3) (.int r :: rest)) : Z κ nL (zX (ze κ.1) σ) lv pc st0 := z_callS X hd hM tw583 tw510 tw82 tw511 (by decide) ds_X5_gone hn hst hcat hdg kk
theorem tw584 : Cond.methodLink RX8 202 yX1_winner ∈ zt := zt_at 584 (by decide +kernel)
theorem tw585 : Cond.instanceMethod yX1_winner ∈ zt := zt_at 585 (by decide +kernel)
theorem tw586 : Cond.selects RX1 yX1_winner yX1_winner ∈ zt := zt_at 586 (by decide +kernel)
theorem tw587 : Cond.code yX1_winner cX1_winner 3 (some .int) ∈ zt := zt_at 587 (by decide +kernel)
theorem cl_X8_202 {σ1 : S3} {d1 b : Nat} {As rest st0 : List Value} {r : Int32} (X : zC0 κ RX8 cc nL d) (hd : d1 + 1 ≤ d) (hM : zMet κ.1 zX d1 yX1_winner cX1_winner 3 (some .int) (.ref b :: As) σ (some (.int r)) σ1) (he : ∃ (q : Nat) (fs : List Value), (zX (ze κ.1) σ)[q]? = some (b, .inr (1, fs))) (hn : As.length = 2) (hst : st0 = As.reverse ++ .ref b :: rest) (hcat : (rest.map fun v => v.category).sum ≤ 8) (hdg : decode cc pc = .ok (.invokevirtual 202, 3)) (kk : Z κ nL (zX (ze κ.1) σ1) lv (pc + 3) (.int r :: rest)) : Z κ nL (zX (ze κ.1) σ) lv pc st0 := by
  obtain ⟨q, fs, he⟩ := he
  exact z_callV X hd hM he rfl tw584 tw585 tw586 tw71 tw587 (by decide) ds_X1_winner hn hst hcat hdg kk
theorem tw597 : Cond.methodLink RX8 208 yX1_winningFrom ∈ zt := zt_at 597 (by decide +kernel)
theorem cl_X8_208 {σ1 : S3} {d1 b : Nat} {As rest st0 : List Value} {r : Int32} (X : zC0 κ RX8 cc nL d) (hd : d1 + 1 ≤ d) (hM : zMet κ.1 zX d1 yX1_winningFrom cX1_winningFrom 5 (some .int) (.ref b :: As) σ (some (.int r)) σ1) (he : ∃ (q : Nat) (fs : List Value), (zX (ze κ.1) σ)[q]? = some (b, .inr (1, fs))) (hn : As.length = 1) (hst : st0 = As.reverse ++ .ref b :: rest) (hcat : (rest.map fun v => v.category).sum ≤ 8) (hdg : decode cc pc = .ok (.invokevirtual 208, 3)) (kk : Z κ nL (zX (ze κ.1) σ1) lv (pc + 3) (.int r :: rest)) : Z κ nL (zX (ze κ.1) σ) lv pc st0 := by
  obtain ⟨q, fs, he⟩ := he
  exact z_callV X hd hM he rfl tw597 tw598 tw599 tw71 tw600 (by decide) ds_X1_winningFrom hn hst hcat hdg kk
theorem tw605 : Cond.methodLink RX8 211 yX1_lengthFrom ∈ zt := zt_at 605 (by decide +kernel)
theorem cl_X8_211 {σ1 : S3} {d1 b : Nat} {As rest st0 : List Value} {r : Int32} (X : zC0 κ RX8 cc nL d) (hd : d1 + 1 ≤ d) (hM : zMet κ.1 zX d1 yX1_lengthFrom cX1_lengthFrom 2 (some .int) (.ref b :: As) σ (some (.int r)) σ1) (he : ∃ (q : Nat) (fs : List Value), (zX (ze κ.1) σ)[q]? = some (b, .inr (1, fs))) (hn : As.length = 1) (hst : st0 = As.reverse ++ .ref b :: rest) (hcat : (rest.map fun v => v.category).sum ≤ 8) (hdg : decode cc pc = .ok (.invokevirtual 211, 3)) (kk : Z κ nL (zX (ze κ.1) σ1) lv (pc + 3) (.int r :: rest)) : Z κ nL (zX (ze κ.1) σ) lv pc st0 := by
  obtain ⟨q, fs, he⟩ := he
  exact z_callV X hd hM he rfl tw605 tw606 tw607 tw71 tw608 (by decide) ds_X1_lengthFrom hn hst hcat hdg kk
theorem tw609 : Cond.methodLink RX8 214 yX1_nimFrom ∈ zt := zt_at 609 (by decide +kernel)
theorem tw610 : Cond.instanceMethod yX1_nimFrom ∈ zt := zt_at 610 (by decide +kernel)
theorem tw611 : Cond.selects RX1 yX1_nimFrom yX1_nimFrom ∈ zt := zt_at 611 (by decide +kernel)
theorem tw612 : Cond.code yX1_nimFrom cX1_nimFrom 2 (some .int) ∈ zt := zt_at 612 (by decide +kernel)
theorem cl_X8_214 {σ1 : S3} {d1 b : Nat} {As rest st0 : List Value} {r : Int32} (X : zC0 κ RX8 cc nL d) (hd : d1 + 1 ≤ d) (hM : zMet κ.1 zX d1 yX1_nimFrom cX1_nimFrom 2 (some .int) (.ref b :: As) σ (some (.int r)) σ1) (he : ∃ (q : Nat) (fs : List Value), (zX (ze κ.1) σ)[q]? = some (b, .inr (1, fs))) (hn : As.length = 1) (hst : st0 = As.reverse ++ .ref b :: rest) (hcat : (rest.map fun v => v.category).sum ≤ 8) (hdg : decode cc pc = .ok (.invokevirtual 214, 3)) (kk : Z κ nL (zX (ze κ.1) σ1) lv (pc + 3) (.int r :: rest)) : Z κ nL (zX (ze κ.1) σ) lv pc st0 := by
  obtain ⟨q, fs, he⟩ := he
  exact z_callV X hd hM he rfl tw609 tw610 tw611 tw71 tw612 (by decide) ds_X1_nimFrom hn hst hcat hdg kk
theorem tw617 : Cond.methodLink RX8 217 yX1_reachFrom ∈ zt := zt_at 617 (by decide +kernel)
theorem tw618 : Cond.instanceMethod yX1_reachFrom ∈ zt := zt_at 618 (by decide +kernel)
theorem tw619 : Cond.selects RX1 yX1_reachFrom yX1_reachFrom ∈ zt := zt_at 619 (by decide +kernel)
theorem tw620 : Cond.code yX1_reachFrom cX1_reachFrom 5 (some .int) ∈ zt := zt_at 620 (by decide +kernel)
theorem cl_X8_217 {σ1 : S3} {d1 b : Nat} {As rest st0 : List Value} {r : Int32} (X : zC0 κ RX8 cc nL d) (hd : d1 + 1 ≤ d) (hM : zMet κ.1 zX d1 yX1_reachFrom cX1_reachFrom 5 (some .int) (.ref b :: As) σ (some (.int r)) σ1) (he : ∃ (q : Nat) (fs : List Value), (zX (ze κ.1) σ)[q]? = some (b, .inr (1, fs))) (hn : As.length = 1) (hst : st0 = As.reverse ++ .ref b :: rest) (hcat : (rest.map fun v => v.category).sum ≤ 8) (hdg : decode cc pc = .ok (.invokevirtual 217, 3)) (kk : Z κ nL (zX (ze κ.1) σ1) lv (pc + 3) (.int r :: rest)) : Z κ nL (zX (ze κ.1) σ) lv pc st0 := by
  obtain ⟨q, fs, he⟩ := he
  exact z_callV X hd hM he rfl tw617 tw618 tw619 tw71 tw620 (by decide) ds_X1_reachFrom hn hst hcat hdg kk
theorem tw640 : Cond.methodLink RX8 220 yX8_isCode ∈ zt := zt_at 640 (by decide +kernel)
theorem tw641 : Cond.static yX8_isCode ∈ zt := zt_at 641 (by decide +kernel)
theorem tw642 : Cond.code yX8_isCode cX8_isCode 4 (some .boolean) ∈ zt := zt_at 642 (by decide +kernel)
theorem cl_X8_220 {σ1 : S3} {d1 : Nat} {As rest st0 : List Value} {r : Int32} (X : zC0 κ RX8 cc nL d) (hd : d1 + 1 ≤ d) (hM : zMet κ.1 zX d1 yX8_isCode cX8_isCode 4 (some .boolean) As σ (some (.int r)) σ1) (hn : As.length = 1) (hst : st0 = As.reverse ++ rest) (hcat : (rest.map fun v => v.category).sum ≤ 8) (hdg : decode cc pc = .ok (.invokestatic 220, 3)) (kk : Z κ nL (zX (ze κ.1) σ1) lv (pc + 3) (.int r :: rest)) : Z κ nL (zX (ze κ.1) σ) lv pc st0 := z_callS X hd hM tw640 tw641 tw69 tw642 (by decide) ds_X8_isCode hn hst hcat hdg kk
theorem tw643 : Cond.methodLink RX8 223 yX3_advice ∈ zt := zt_at 643 (by decide +kernel)
theorem tw644 : Cond.instanceMethod yX3_advice ∈ zt := zt_at 644 (by decide +kernel)
theorem tw645 : Cond.selects RX3 yX3_advice yX3_advice ∈ zt := zt_at 645 (by decide +kernel)
theorem tw646 : Cond.code yX3_advice cX3_advice 7 (some .int) ∈ zt := zt_at 646 (by decide +kernel)
theorem cl_X8_223 {σ1 : S3} {d1 b : Nat} {As rest st0 : List Value} {r : Int32} (X : zC0 κ RX8 cc nL d) (hd : d1 + 1 ≤ d) (hM : zMet κ.1 zX d1 yX3_advice cX3_advice 7 (some .int) (.ref b :: As) σ (some (.int r)) σ1) (he : ∃ (q : Nat) (fs : List Value), (zX (ze κ.1) σ)[q]? = some (b, .inr (3, fs))) (hn : As.length = 3) (hst : st0 = As.reverse ++ .ref b :: rest) (hcat : (rest.map fun v => v.category).sum ≤ 8) (hdg : decode cc pc = .ok (.invokevirtual 223, 3)) (kk : Z κ nL (zX (ze κ.1) σ1) lv (pc + 3) (.int r :: rest)) : Z κ nL (zX (ze κ.1) σ) lv pc st0 := by
  obtain ⟨q, fs, he⟩ := he
  exact z_callV X hd hM he rfl tw643 tw644 tw645 tw72 tw646 (by decide) ds_X3_advice hn hst hcat hdg kk
theorem tw691 : Cond.methodLink RX8 227 yX3_least ∈ zt := zt_at 691 (by decide +kernel)
theorem cl_X8_227 {σ1 : S3} {d1 : Nat} {As rest st0 : List Value} {r : Int32} (X : zC0 κ RX8 cc nL d) (hd : d1 + 1 ≤ d) (hM : zMet κ.1 zX d1 yX3_least cX3_least 1 (some .int) As σ (some (.int r)) σ1) (hn : As.length = 1) (hst : st0 = As.reverse ++ rest) (hcat : (rest.map fun v => v.category).sum ≤ 8) (hdg : decode cc pc = .ok (.invokestatic 227, 3)) (kk : Z κ nL (zX (ze κ.1) σ1) lv (pc + 3) (.int r :: rest)) : Z κ nL (zX (ze κ.1) σ) lv pc st0 := z_callS X hd hM tw691 tw660 tw72 tw661 (by decide) ds_X3_least hn hst hcat hdg kk
theorem tw700 : Cond.methodLink RX8 233 yX7_build ∈ zt := zt_at 700 (by decide +kernel)
theorem tw701 : Cond.instanceMethod yX7_build ∈ zt := zt_at 701 (by decide +kernel)
theorem tw702 : Cond.selects RX7 yX7_build yX7_build ∈ zt := zt_at 702 (by decide +kernel)
theorem tw703 : Cond.code yX7_build cX7_build 2 (some .boolean) ∈ zt := zt_at 703 (by decide +kernel)
theorem cl_X8_233 {σ1 : S3} {d1 b : Nat} {As rest st0 : List Value} {r : Int32} (X : zC0 κ RX8 cc nL d) (hd : d1 + 1 ≤ d) (hM : zMet κ.1 zX d1 yX7_build cX7_build 2 (some .boolean) (.ref b :: As) σ (some (.int r)) σ1) (he : ∃ (q : Nat) (fs : List Value), (zX (ze κ.1) σ)[q]? = some (b, .inr (6, fs))) (hn : As.length = 1) (hst : st0 = As.reverse ++ .ref b :: rest) (hcat : (rest.map fun v => v.category).sum ≤ 8) (hdg : decode cc pc = .ok (.invokevirtual 233, 3)) (kk : Z κ nL (zX (ze κ.1) σ1) lv (pc + 3) (.int r :: rest)) : Z κ nL (zX (ze κ.1) σ) lv pc st0 := by
  obtain ⟨q, fs, he⟩ := he
  exact z_callV X hd hM he rfl tw700 tw701 tw702 tw73 tw703 (by decide) ds_X7_build hn hst hcat hdg kk
theorem tw724 : Cond.methodLink RX8 246 yX8_isSheet ∈ zt := zt_at 724 (by decide +kernel)
theorem tw725 : Cond.static yX8_isSheet ∈ zt := zt_at 725 (by decide +kernel)
theorem tw726 : Cond.code yX8_isSheet cX8_isSheet 1 (some .boolean) ∈ zt := zt_at 726 (by decide +kernel)
theorem cl_X8_246 {σ1 : S3} {d1 : Nat} {As rest st0 : List Value} {r : Int32} (X : zC0 κ RX8 cc nL d) (hd : d1 + 1 ≤ d) (hM : zMet κ.1 zX d1 yX8_isSheet cX8_isSheet 1 (some .boolean) As σ (some (.int r)) σ1) (hn : As.length = 1) (hst : st0 = As.reverse ++ rest) (hcat : (rest.map fun v => v.category).sum ≤ 8) (hdg : decode cc pc = .ok (.invokestatic 246, 3)) (kk : Z κ nL (zX (ze κ.1) σ1) lv (pc + 3) (.int r :: rest)) : Z κ nL (zX (ze κ.1) σ) lv pc st0 := z_callS X hd hM tw724 tw725 tw69 tw726 (by decide) ds_X8_isSheet hn hst hcat hdg kk
theorem tw727 : Cond.methodLink RX8 249 yX4_renew ∈ zt := zt_at 727 (by decide +kernel)
theorem tw728 : Cond.instanceMethod yX4_renew ∈ zt := zt_at 728 (by decide +kernel)
theorem tw729 : Cond.selects RX4 yX4_renew yX4_renew ∈ zt := zt_at 729 (by decide +kernel)
theorem tw76 : Cond.initialized RX4 ∈ zt := zt_at 76 (by decide +kernel)
theorem tw730 : Cond.code yX4_renew cX4_renew 3 none ∈ zt := zt_at 730 (by decide +kernel)
theorem cl_X8_249 {σ1 : S3} {d1 b : Nat} {As rest st0 : List Value} {r : Int32} (X : zC0 κ RX8 cc nL d) (hd : d1 + 1 ≤ d) (hM : zMet κ.1 zX d1 yX4_renew cX4_renew 3 none (.ref b :: As) σ none σ1) (he : ∃ (q : Nat) (fs : List Value), (zX (ze κ.1) σ)[q]? = some (b, .inr (4, fs))) (hn : As.length = 2) (hst : st0 = As.reverse ++ .ref b :: rest) (hcat : (rest.map fun v => v.category).sum ≤ 8) (hdg : decode cc pc = .ok (.invokevirtual 249, 3)) (kk : Z κ nL (zX (ze κ.1) σ1) lv (pc + 3) (rest)) : Z κ nL (zX (ze κ.1) σ) lv pc st0 := by
  obtain ⟨q, fs, he⟩ := he
  exact z_callV X hd hM he rfl tw727 tw728 tw729 tw76 tw730 (by decide) ds_X4_renew hn hst hcat hdg kk
theorem tw736 : Cond.methodLink RX8 252 yX8_errorOfNumber ∈ zt := zt_at 736 (by decide +kernel)
theorem tw738 : Cond.instanceMethod yX8_errorOfNumber ∈ zt := zt_at 738 (by decide +kernel)
theorem tw18 : Cond.selects RX8 yX8_errorOfNumber yX8_errorOfNumber ∈ zt := zt_at 18 (by decide +kernel)
theorem tw739 : Cond.code yX8_errorOfNumber cX8_errorOfNumber 3 (some .int) ∈ zt := zt_at 739 (by decide +kernel)
theorem cl_X8_252 {σ1 : S3} {d1 b : Nat} {As rest st0 : List Value} {r : Int32} (X : zC0 κ RX8 cc nL d) (hd : d1 + 1 ≤ d) (hM : zMet κ.1 zX d1 yX8_errorOfNumber cX8_errorOfNumber 3 (some .int) (.ref b :: As) σ (some (.int r)) σ1) (he : ∃ (q : Nat) (fs : List Value), (zX (ze κ.1) σ)[q]? = some (b, .inr (7, fs))) (hn : As.length = 2) (hst : st0 = As.reverse ++ .ref b :: rest) (hcat : (rest.map fun v => v.category).sum ≤ 8) (hdg : decode cc pc = .ok (.invokevirtual 252, 3)) (kk : Z κ nL (zX (ze κ.1) σ1) lv (pc + 3) (.int r :: rest)) : Z κ nL (zX (ze κ.1) σ) lv pc st0 := by
  obtain ⟨q, fs, he⟩ := he
  exact z_callV X hd hM he rfl tw736 tw738 tw18 tw69 tw739 (by decide) ds_X8_errorOfNumber hn hst hcat hdg kk
theorem tw744 : Cond.methodLink RX8 255 yX4_write ∈ zt := zt_at 744 (by decide +kernel)
theorem tw745 : Cond.instanceMethod yX4_write ∈ zt := zt_at 745 (by decide +kernel)
theorem tw746 : Cond.selects RX4 yX4_write yX4_write ∈ zt := zt_at 746 (by decide +kernel)
theorem tw747 : Cond.code yX4_write cX4_write 4 none ∈ zt := zt_at 747 (by decide +kernel)
theorem cl_X8_255 {σ1 : S3} {d1 b : Nat} {As rest st0 : List Value} {r : Int32} (X : zC0 κ RX8 cc nL d) (hd : d1 + 1 ≤ d) (hM : zMet κ.1 zX d1 yX4_write cX4_write 4 none (.ref b :: As) σ none σ1) (he : ∃ (q : Nat) (fs : List Value), (zX (ze κ.1) σ)[q]? = some (b, .inr (4, fs))) (hn : As.length = 2) (hst : st0 = As.reverse ++ .ref b :: rest) (hcat : (rest.map fun v => v.category).sum ≤ 8) (hdg : decode cc pc = .ok (.invokevirtual 255, 3)) (kk : Z κ nL (zX (ze κ.1) σ1) lv (pc + 3) (rest)) : Z κ nL (zX (ze κ.1) σ) lv pc st0 := by
  obtain ⟨q, fs, he⟩ := he
  exact z_callV X hd hM he rfl tw744 tw745 tw746 tw76 tw747 (by decide) ds_X4_write hn hst hcat hdg kk
theorem tw740 : Cond.methodLink RX8 261 yX4_isMissing ∈ zt := zt_at 740 (by decide +kernel)
theorem tw741 : Cond.instanceMethod yX4_isMissing ∈ zt := zt_at 741 (by decide +kernel)
theorem tw742 : Cond.selects RX4 yX4_isMissing yX4_isMissing ∈ zt := zt_at 742 (by decide +kernel)
theorem tw743 : Cond.code yX4_isMissing cX4_isMissing 1 (some .boolean) ∈ zt := zt_at 743 (by decide +kernel)
theorem cl_X8_261 {σ1 : S3} {d1 b : Nat} {As rest st0 : List Value} {r : Int32} (X : zC0 κ RX8 cc nL d) (hd : d1 + 1 ≤ d) (hM : zMet κ.1 zX d1 yX4_isMissing cX4_isMissing 1 (some .boolean) (.ref b :: As) σ (some (.int r)) σ1) (he : ∃ (q : Nat) (fs : List Value), (zX (ze κ.1) σ)[q]? = some (b, .inr (4, fs))) (hn : As.length = 0) (hst : st0 = As.reverse ++ .ref b :: rest) (hcat : (rest.map fun v => v.category).sum ≤ 8) (hdg : decode cc pc = .ok (.invokevirtual 261, 3)) (kk : Z κ nL (zX (ze κ.1) σ1) lv (pc + 3) (.int r :: rest)) : Z κ nL (zX (ze κ.1) σ) lv pc st0 := by
  obtain ⟨q, fs, he⟩ := he
  exact z_callV X hd hM he rfl tw740 tw741 tw742 tw76 tw743 (by decide) ds_X4_isMissing hn hst hcat hdg kk
theorem tw756 : Cond.methodLink RX8 267 yX4_hasRun ∈ zt := zt_at 756 (by decide +kernel)
theorem tw757 : Cond.instanceMethod yX4_hasRun ∈ zt := zt_at 757 (by decide +kernel)
theorem tw758 : Cond.selects RX4 yX4_hasRun yX4_hasRun ∈ zt := zt_at 758 (by decide +kernel)
theorem tw759 : Cond.code yX4_hasRun cX4_hasRun 3 (some .boolean) ∈ zt := zt_at 759 (by decide +kernel)
theorem cl_X8_267 {σ1 : S3} {d1 b : Nat} {As rest st0 : List Value} {r : Int32} (X : zC0 κ RX8 cc nL d) (hd : d1 + 1 ≤ d) (hM : zMet κ.1 zX d1 yX4_hasRun cX4_hasRun 3 (some .boolean) (.ref b :: As) σ (some (.int r)) σ1) (he : ∃ (q : Nat) (fs : List Value), (zX (ze κ.1) σ)[q]? = some (b, .inr (4, fs))) (hn : As.length = 2) (hst : st0 = As.reverse ++ .ref b :: rest) (hcat : (rest.map fun v => v.category).sum ≤ 8) (hdg : decode cc pc = .ok (.invokevirtual 267, 3)) (kk : Z κ nL (zX (ze κ.1) σ1) lv (pc + 3) (.int r :: rest)) : Z κ nL (zX (ze κ.1) σ) lv pc st0 := by
  obtain ⟨q, fs, he⟩ := he
  exact z_callV X hd hM he rfl tw756 tw757 tw758 tw76 tw759 (by decide) ds_X4_hasRun hn hst hcat hdg kk
theorem tw760 : Cond.methodLink RX8 271 arraycopyName ∈ zt := zt_at 760 (by decide +kernel)
theorem tw765 : Cond.methodLink RX8 278 yJ9_min_7cf53 ∈ zt := zt_at 765 (by decide +kernel)
theorem tw778 : Cond.methodLink RX8 283 yX2_become ∈ zt := zt_at 778 (by decide +kernel)
theorem tw779 : Cond.instanceMethod yX2_become ∈ zt := zt_at 779 (by decide +kernel)
theorem tw780 : Cond.selects RX2 yX2_become yX2_become ∈ zt := zt_at 780 (by decide +kernel)
theorem tw781 : Cond.code yX2_become cX2_become 2 none ∈ zt := zt_at 781 (by decide +kernel)
theorem cl_X8_283 {σ1 : S3} {d1 b : Nat} {As rest st0 : List Value} {r : Int32} (X : zC0 κ RX8 cc nL d) (hd : d1 + 1 ≤ d) (hM : zMet κ.1 zX d1 yX2_become cX2_become 2 none (.ref b :: As) σ none σ1) (he : ∃ (q : Nat) (fs : List Value), (zX (ze κ.1) σ)[q]? = some (b, .inr (2, fs))) (hn : As.length = 1) (hst : st0 = As.reverse ++ .ref b :: rest) (hcat : (rest.map fun v => v.category).sum ≤ 8) (hdg : decode cc pc = .ok (.invokevirtual 283, 3)) (kk : Z κ nL (zX (ze κ.1) σ1) lv (pc + 3) (rest)) : Z κ nL (zX (ze κ.1) σ) lv pc st0 := by
  obtain ⟨q, fs, he⟩ := he
  exact z_callV X hd hM he rfl tw778 tw779 tw780 tw70 tw781 (by decide) ds_X2_become hn hst hcat hdg kk
theorem tw790 : Cond.methodLink RX8 292 yX8_sheetsThere ∈ zt := zt_at 790 (by decide +kernel)
theorem tw792 : Cond.instanceMethod yX8_sheetsThere ∈ zt := zt_at 792 (by decide +kernel)
theorem tw19 : Cond.selects RX8 yX8_sheetsThere yX8_sheetsThere ∈ zt := zt_at 19 (by decide +kernel)
theorem tw793 : Cond.code yX8_sheetsThere cX8_sheetsThere 3 (some .int) ∈ zt := zt_at 793 (by decide +kernel)
theorem cl_X8_292 {σ1 : S3} {d1 b : Nat} {As rest st0 : List Value} {r : Int32} (X : zC0 κ RX8 cc nL d) (hd : d1 + 1 ≤ d) (hM : zMet κ.1 zX d1 yX8_sheetsThere cX8_sheetsThere 3 (some .int) (.ref b :: As) σ (some (.int r)) σ1) (he : ∃ (q : Nat) (fs : List Value), (zX (ze κ.1) σ)[q]? = some (b, .inr (7, fs))) (hn : As.length = 0) (hst : st0 = As.reverse ++ .ref b :: rest) (hcat : (rest.map fun v => v.category).sum ≤ 8) (hdg : decode cc pc = .ok (.invokevirtual 292, 3)) (kk : Z κ nL (zX (ze κ.1) σ1) lv (pc + 3) (.int r :: rest)) : Z κ nL (zX (ze κ.1) σ) lv pc st0 := by
  obtain ⟨q, fs, he⟩ := he
  exact z_callV X hd hM he rfl tw790 tw792 tw19 tw69 tw793 (by decide) ds_X8_sheetsThere hn hst hcat hdg kk
theorem tw803 : Cond.methodLink RX9 1 objectInit ∈ zt := zt_at 803 (by decide +kernel)
theorem tw910 : Cond.methodLink RX9 68 yX9_in ∈ zt := zt_at 910 (by decide +kernel)
theorem tw911 : Cond.static yX9_in ∈ zt := zt_at 911 (by decide +kernel)
theorem tw77 : Cond.initialized RX9 ∈ zt := zt_at 77 (by decide +kernel)
theorem tw912 : Cond.code yX9_in cX9_in 3 (some .boolean) ∈ zt := zt_at 912 (by decide +kernel)
theorem cl_X9_68 {σ1 : S3} {d1 : Nat} {As rest st0 : List Value} {r : Int32} (X : zC0 κ RX9 cc nL d) (hd : d1 + 1 ≤ d) (hM : zMet κ.1 zM d1 yX9_in cX9_in 3 (some .boolean) As σ (some (.int r)) σ1) (hn : As.length = 3) (hst : st0 = As.reverse ++ rest) (hcat : (rest.map fun v => v.category).sum ≤ 8) (hdg : decode cc pc = .ok (.invokestatic 68, 3)) (kk : Z κ nL (zM (ze κ.1) σ1) lv (pc + 3) (.int r :: rest)) : Z κ nL (zM (ze κ.1) σ) lv pc st0 := z_callS X hd hM tw910 tw911 tw77 tw912 (by decide) ds_X9_in hn hst hcat hdg kk
theorem tw913 : Cond.methodLink RX9 79 yX9_no ∈ zt := zt_at 913 (by decide +kernel)
theorem tw915 : Cond.instanceMethod yX9_no ∈ zt := zt_at 915 (by decide +kernel)
theorem tw20 : Cond.selects RX9 yX9_no yX9_no ∈ zt := zt_at 20 (by decide +kernel)
theorem tw916 : Cond.code yX9_no cX9_no 2 (some .int) ∈ zt := zt_at 916 (by decide +kernel)
theorem cl_X9_79 {σ1 : S3} {d1 b : Nat} {As rest st0 : List Value} {r : Int32} (X : zC0 κ RX9 cc nL d) (hd : d1 + 1 ≤ d) (hM : zMet κ.1 zM d1 yX9_no cX9_no 2 (some .int) (.ref b :: As) σ (some (.int r)) σ1) (he : ∃ (q : Nat) (fs : List Value), (zM (ze κ.1) σ)[q]? = some (b, .inr (8, fs))) (hn : As.length = 1) (hst : st0 = As.reverse ++ .ref b :: rest) (hcat : (rest.map fun v => v.category).sum ≤ 8) (hdg : decode cc pc = .ok (.invokevirtual 79, 3)) (kk : Z κ nL (zM (ze κ.1) σ1) lv (pc + 3) (.int r :: rest)) : Z κ nL (zM (ze κ.1) σ) lv pc st0 := by
  obtain ⟨q, fs, he⟩ := he
  exact z_callV X hd hM he rfl tw913 tw915 tw20 tw77 tw916 (by decide) ds_X9_no hn hst hcat hdg kk
theorem tw918 : Cond.methodLink RX9 83 yX9_isNew ∈ zt := zt_at 918 (by decide +kernel)
theorem tw920 : Cond.instanceMethod yX9_isNew ∈ zt := zt_at 920 (by decide +kernel)
theorem tw21 : Cond.selects RX9 yX9_isNew yX9_isNew ∈ zt := zt_at 21 (by decide +kernel)
theorem tw921 : Cond.code yX9_isNew cX9_isNew 1 none ∈ zt := zt_at 921 (by decide +kernel)
theorem cl_X9_83 {σ1 : S3} {d1 b : Nat} {As rest st0 : List Value} {r : Int32} (X : zC0 κ RX9 cc nL d) (hd : d1 + 1 ≤ d) (hM : zMet κ.1 zM d1 yX9_isNew cX9_isNew 1 none (.ref b :: As) σ none σ1) (he : ∃ (q : Nat) (fs : List Value), (zM (ze κ.1) σ)[q]? = some (b, .inr (8, fs))) (hn : As.length = 0) (hst : st0 = As.reverse ++ .ref b :: rest) (hcat : (rest.map fun v => v.category).sum ≤ 8) (hdg : decode cc pc = .ok (.invokevirtual 83, 3)) (kk : Z κ nL (zM (ze κ.1) σ1) lv (pc + 3) (rest)) : Z κ nL (zM (ze κ.1) σ) lv pc st0 := by
  obtain ⟨q, fs, he⟩ := he
  exact z_callV X hd hM he rfl tw918 tw920 tw21 tw77 tw921 (by decide) ds_X9_isNew hn hst hcat hdg kk
theorem tw926 : Cond.methodLink RX9 86 yX9_isPoint ∈ zt := zt_at 926 (by decide +kernel)
theorem tw928 : Cond.instanceMethod yX9_isPoint ∈ zt := zt_at 928 (by decide +kernel)
theorem tw22 : Cond.selects RX9 yX9_isPoint yX9_isPoint ∈ zt := zt_at 22 (by decide +kernel)
theorem tw929 : Cond.code yX9_isPoint cX9_isPoint 2 (some .boolean) ∈ zt := zt_at 929 (by decide +kernel)
theorem cl_X9_86 {σ1 : S3} {d1 b : Nat} {As rest st0 : List Value} {r : Int32} (X : zC0 κ RX9 cc nL d) (hd : d1 + 1 ≤ d) (hM : zMet κ.1 zM d1 yX9_isPoint cX9_isPoint 2 (some .boolean) (.ref b :: As) σ (some (.int r)) σ1) (he : ∃ (q : Nat) (fs : List Value), (zM (ze κ.1) σ)[q]? = some (b, .inr (8, fs))) (hn : As.length = 1) (hst : st0 = As.reverse ++ .ref b :: rest) (hcat : (rest.map fun v => v.category).sum ≤ 8) (hdg : decode cc pc = .ok (.invokevirtual 86, 3)) (kk : Z κ nL (zM (ze κ.1) σ1) lv (pc + 3) (.int r :: rest)) : Z κ nL (zM (ze κ.1) σ) lv pc st0 := by
  obtain ⟨q, fs, he⟩ := he
  exact z_callV X hd hM he rfl tw926 tw928 tw22 tw77 tw929 (by decide) ds_X9_isPoint hn hst hcat hdg kk
theorem tw930 : Cond.methodLink RX9 90 yX9_comes ∈ zt := zt_at 930 (by decide +kernel)
theorem tw932 : Cond.instanceMethod yX9_comes ∈ zt := zt_at 932 (by decide +kernel)
theorem tw23 : Cond.selects RX9 yX9_comes yX9_comes ∈ zt := zt_at 23 (by decide +kernel)
theorem tw933 : Cond.code yX9_comes cX9_comes 4 none ∈ zt := zt_at 933 (by decide +kernel)
theorem cl_X9_90 {σ1 : S3} {d1 b : Nat} {As rest st0 : List Value} {r : Int32} (X : zC0 κ RX9 cc nL d) (hd : d1 + 1 ≤ d) (hM : zMet κ.1 zM d1 yX9_comes cX9_comes 4 none (.ref b :: As) σ none σ1) (he : ∃ (q : Nat) (fs : List Value), (zM (ze κ.1) σ)[q]? = some (b, .inr (8, fs))) (hn : As.length = 3) (hst : st0 = As.reverse ++ .ref b :: rest) (hcat : (rest.map fun v => v.category).sum ≤ 8) (hdg : decode cc pc = .ok (.invokevirtual 90, 3)) (kk : Z κ nL (zM (ze κ.1) σ1) lv (pc + 3) (rest)) : Z κ nL (zM (ze κ.1) σ) lv pc st0 := by
  obtain ⟨q, fs, he⟩ := he
  exact z_callV X hd hM he rfl tw930 tw932 tw23 tw77 tw933 (by decide) ds_X9_comes hn hst hcat hdg kk
theorem tw938 : Cond.methodLink RX9 94 yX9_isLine ∈ zt := zt_at 938 (by decide +kernel)
theorem tw940 : Cond.instanceMethod yX9_isLine ∈ zt := zt_at 940 (by decide +kernel)
theorem tw24 : Cond.selects RX9 yX9_isLine yX9_isLine ∈ zt := zt_at 24 (by decide +kernel)
theorem tw941 : Cond.code yX9_isLine cX9_isLine 2 (some .boolean) ∈ zt := zt_at 941 (by decide +kernel)
theorem cl_X9_94 {σ1 : S3} {d1 b : Nat} {As rest st0 : List Value} {r : Int32} (X : zC0 κ RX9 cc nL d) (hd : d1 + 1 ≤ d) (hM : zMet κ.1 zM d1 yX9_isLine cX9_isLine 2 (some .boolean) (.ref b :: As) σ (some (.int r)) σ1) (he : ∃ (q : Nat) (fs : List Value), (zM (ze κ.1) σ)[q]? = some (b, .inr (8, fs))) (hn : As.length = 1) (hst : st0 = As.reverse ++ .ref b :: rest) (hcat : (rest.map fun v => v.category).sum ≤ 8) (hdg : decode cc pc = .ok (.invokevirtual 94, 3)) (kk : Z κ nL (zM (ze κ.1) σ1) lv (pc + 3) (.int r :: rest)) : Z κ nL (zM (ze κ.1) σ) lv pc st0 := by
  obtain ⟨q, fs, he⟩ := he
  exact z_callV X hd hM he rfl tw938 tw940 tw24 tw77 tw941 (by decide) ds_X9_isLine hn hst hcat hdg kk
theorem tw958 : Cond.methodLink RX9 97 yX9_isAt ∈ zt := zt_at 958 (by decide +kernel)
theorem tw960 : Cond.instanceMethod yX9_isAt ∈ zt := zt_at 960 (by decide +kernel)
theorem tw26 : Cond.selects RX9 yX9_isAt yX9_isAt ∈ zt := zt_at 26 (by decide +kernel)
theorem tw961 : Cond.code yX9_isAt cX9_isAt 3 (some .boolean) ∈ zt := zt_at 961 (by decide +kernel)
theorem cl_X9_97 {σ1 : S3} {d1 b : Nat} {As rest st0 : List Value} {r : Int32} (X : zC0 κ RX9 cc nL d) (hd : d1 + 1 ≤ d) (hM : zMet κ.1 zM d1 yX9_isAt cX9_isAt 3 (some .boolean) (.ref b :: As) σ (some (.int r)) σ1) (he : ∃ (q : Nat) (fs : List Value), (zM (ze κ.1) σ)[q]? = some (b, .inr (8, fs))) (hn : As.length = 2) (hst : st0 = As.reverse ++ .ref b :: rest) (hcat : (rest.map fun v => v.category).sum ≤ 8) (hdg : decode cc pc = .ok (.invokevirtual 97, 3)) (kk : Z κ nL (zM (ze κ.1) σ1) lv (pc + 3) (.int r :: rest)) : Z κ nL (zM (ze κ.1) σ) lv pc st0 := by
  obtain ⟨q, fs, he⟩ := he
  exact z_callV X hd hM he rfl tw958 tw960 tw26 tw77 tw961 (by decide) ds_X9_isAt hn hst hcat hdg kk
theorem tw962 : Cond.methodLink RX9 101 yX9_otherOf ∈ zt := zt_at 962 (by decide +kernel)
theorem tw964 : Cond.instanceMethod yX9_otherOf ∈ zt := zt_at 964 (by decide +kernel)
theorem tw27 : Cond.selects RX9 yX9_otherOf yX9_otherOf ∈ zt := zt_at 27 (by decide +kernel)
theorem tw965 : Cond.code yX9_otherOf cX9_otherOf 3 (some .int) ∈ zt := zt_at 965 (by decide +kernel)
theorem cl_X9_101 {σ1 : S3} {d1 b : Nat} {As rest st0 : List Value} {r : Int32} (X : zC0 κ RX9 cc nL d) (hd : d1 + 1 ≤ d) (hM : zMet κ.1 zM d1 yX9_otherOf cX9_otherOf 3 (some .int) (.ref b :: As) σ (some (.int r)) σ1) (he : ∃ (q : Nat) (fs : List Value), (zM (ze κ.1) σ)[q]? = some (b, .inr (8, fs))) (hn : As.length = 2) (hst : st0 = As.reverse ++ .ref b :: rest) (hcat : (rest.map fun v => v.category).sum ≤ 8) (hdg : decode cc pc = .ok (.invokevirtual 101, 3)) (kk : Z κ nL (zM (ze κ.1) σ1) lv (pc + 3) (.int r :: rest)) : Z κ nL (zM (ze κ.1) σ) lv pc st0 := by
  obtain ⟨q, fs, he⟩ := he
  exact z_callV X hd hM he rfl tw962 tw964 tw27 tw77 tw965 (by decide) ds_X9_otherOf hn hst hcat hdg kk
theorem tw966 : Cond.methodLink RX9 105 yX9_leads ∈ zt := zt_at 966 (by decide +kernel)
theorem tw968 : Cond.instanceMethod yX9_leads ∈ zt := zt_at 968 (by decide +kernel)
theorem tw28 : Cond.selects RX9 yX9_leads yX9_leads ∈ zt := zt_at 28 (by decide +kernel)
theorem tw969 : Cond.code yX9_leads cX9_leads 3 (some .boolean) ∈ zt := zt_at 969 (by decide +kernel)
theorem cl_X9_105 {σ1 : S3} {d1 b : Nat} {As rest st0 : List Value} {r : Int32} (X : zC0 κ RX9 cc nL d) (hd : d1 + 1 ≤ d) (hM : zMet κ.1 zM d1 yX9_leads cX9_leads 3 (some .boolean) (.ref b :: As) σ (some (.int r)) σ1) (he : ∃ (q : Nat) (fs : List Value), (zM (ze κ.1) σ)[q]? = some (b, .inr (8, fs))) (hn : As.length = 2) (hst : st0 = As.reverse ++ .ref b :: rest) (hcat : (rest.map fun v => v.category).sum ≤ 8) (hdg : decode cc pc = .ok (.invokevirtual 105, 3)) (kk : Z κ nL (zM (ze κ.1) σ1) lv (pc + 3) (.int r :: rest)) : Z κ nL (zM (ze κ.1) σ) lv pc st0 := by
  obtain ⟨q, fs, he⟩ := he
  exact z_callV X hd hM he rfl tw966 tw968 tw28 tw77 tw969 (by decide) ds_X9_leads hn hst hcat hdg kk
theorem tw954 : Cond.methodLink RX9 108 yX9_degree ∈ zt := zt_at 954 (by decide +kernel)
theorem tw956 : Cond.instanceMethod yX9_degree ∈ zt := zt_at 956 (by decide +kernel)
theorem tw25 : Cond.selects RX9 yX9_degree yX9_degree ∈ zt := zt_at 25 (by decide +kernel)
theorem tw957 : Cond.code yX9_degree cX9_degree 6 (some .int) ∈ zt := zt_at 957 (by decide +kernel)
theorem cl_X9_108 {σ1 : S3} {d1 b : Nat} {As rest st0 : List Value} {r : Int32} (X : zC0 κ RX9 cc nL d) (hd : d1 + 1 ≤ d) (hM : zMet κ.1 zM d1 yX9_degree cX9_degree 6 (some .int) (.ref b :: As) σ (some (.int r)) σ1) (he : ∃ (q : Nat) (fs : List Value), (zM (ze κ.1) σ)[q]? = some (b, .inr (8, fs))) (hn : As.length = 2) (hst : st0 = As.reverse ++ .ref b :: rest) (hcat : (rest.map fun v => v.category).sum ≤ 8) (hdg : decode cc pc = .ok (.invokevirtual 108, 3)) (kk : Z κ nL (zM (ze κ.1) σ1) lv (pc + 3) (.int r :: rest)) : Z κ nL (zM (ze κ.1) σ) lv pc st0 := by
  obtain ⟨q, fs, he⟩ := he
  exact z_callV X hd hM he rfl tw954 tw956 tw25 tw77 tw957 (by decide) ds_X9_degree hn hst hcat hdg kk
theorem tw974 : Cond.methodLink RX9 111 yX9_sidesFrom ∈ zt := zt_at 974 (by decide +kernel)
theorem tw976 : Cond.instanceMethod yX9_sidesFrom ∈ zt := zt_at 976 (by decide +kernel)
theorem tw29 : Cond.selects RX9 yX9_sidesFrom yX9_sidesFrom ∈ zt := zt_at 29 (by decide +kernel)
theorem tw977 : Cond.code yX9_sidesFrom cX9_sidesFrom 5 (some .boolean) ∈ zt := zt_at 977 (by decide +kernel)
theorem cl_X9_111 {σ1 : S3} {d1 b : Nat} {As rest st0 : List Value} {r : Int32} (X : zC0 κ RX9 cc nL d) (hd : d1 + 1 ≤ d) (hM : zMet κ.1 zM d1 yX9_sidesFrom cX9_sidesFrom 5 (some .boolean) (.ref b :: As) σ (some (.int r)) σ1) (he : ∃ (q : Nat) (fs : List Value), (zM (ze κ.1) σ)[q]? = some (b, .inr (8, fs))) (hn : As.length = 2) (hst : st0 = As.reverse ++ .ref b :: rest) (hcat : (rest.map fun v => v.category).sum ≤ 8) (hdg : decode cc pc = .ok (.invokevirtual 111, 3)) (kk : Z κ nL (zM (ze κ.1) σ1) lv (pc + 3) (.int r :: rest)) : Z κ nL (zM (ze κ.1) σ) lv pc st0 := by
  obtain ⟨q, fs, he⟩ := he
  exact z_callV X hd hM he rfl tw974 tw976 tw29 tw77 tw977 (by decide) ds_X9_sidesFrom hn hst hcat hdg kk
theorem tw997 : Cond.methodLink RX9 114 yX9_has ∈ zt := zt_at 997 (by decide +kernel)
theorem tw998 : Cond.static yX9_has ∈ zt := zt_at 998 (by decide +kernel)
theorem tw999 : Cond.code yX9_has cX9_has 2 (some .boolean) ∈ zt := zt_at 999 (by decide +kernel)
theorem cl_X9_114 {σ1 : S3} {d1 : Nat} {As rest st0 : List Value} {r : Int32} (X : zC0 κ RX9 cc nL d) (hd : d1 + 1 ≤ d) (hM : zMet κ.1 zM d1 yX9_has cX9_has 2 (some .boolean) As σ (some (.int r)) σ1) (hn : As.length = 2) (hst : st0 = As.reverse ++ rest) (hcat : (rest.map fun v => v.category).sum ≤ 8) (hdg : decode cc pc = .ok (.invokestatic 114, 3)) (kk : Z κ nL (zM (ze κ.1) σ1) lv (pc + 3) (.int r :: rest)) : Z κ nL (zM (ze κ.1) σ) lv pc st0 := z_callS X hd hM tw997 tw998 tw77 tw999 (by decide) ds_X9_has hn hst hcat hdg kk
theorem tw990 : Cond.methodLink RX9 123 yX9_ones ∈ zt := zt_at 990 (by decide +kernel)
theorem tw991 : Cond.static yX9_ones ∈ zt := zt_at 991 (by decide +kernel)
theorem tw992 : Cond.code yX9_ones cX9_ones 3 (some .int) ∈ zt := zt_at 992 (by decide +kernel)
theorem cl_X9_123 {σ1 : S3} {d1 : Nat} {As rest st0 : List Value} {r : Int32} (X : zC0 κ RX9 cc nL d) (hd : d1 + 1 ≤ d) (hM : zMet κ.1 zM d1 yX9_ones cX9_ones 3 (some .int) As σ (some (.int r)) σ1) (hn : As.length = 1) (hst : st0 = As.reverse ++ rest) (hcat : (rest.map fun v => v.category).sum ≤ 8) (hdg : decode cc pc = .ok (.invokestatic 123, 3)) (kk : Z κ nL (zM (ze κ.1) σ1) lv (pc + 3) (.int r :: rest)) : Z κ nL (zM (ze κ.1) σ) lv pc st0 := z_callS X hd hM tw990 tw991 tw77 tw992 (by decide) ds_X9_ones hn hst hcat hdg kk
theorem tw993 : Cond.methodLink RX9 126 yX9_metBy ∈ zt := zt_at 993 (by decide +kernel)
theorem tw995 : Cond.instanceMethod yX9_metBy ∈ zt := zt_at 995 (by decide +kernel)
theorem tw32 : Cond.selects RX9 yX9_metBy yX9_metBy ∈ zt := zt_at 32 (by decide +kernel)
theorem tw996 : Cond.code yX9_metBy cX9_metBy 6 (some .int) ∈ zt := zt_at 996 (by decide +kernel)
theorem cl_X9_126 {σ1 : S3} {d1 b : Nat} {As rest st0 : List Value} {r : Int32} (X : zC0 κ RX9 cc nL d) (hd : d1 + 1 ≤ d) (hM : zMet κ.1 zM d1 yX9_metBy cX9_metBy 6 (some .int) (.ref b :: As) σ (some (.int r)) σ1) (he : ∃ (q : Nat) (fs : List Value), (zM (ze κ.1) σ)[q]? = some (b, .inr (8, fs))) (hn : As.length = 2) (hst : st0 = As.reverse ++ .ref b :: rest) (hcat : (rest.map fun v => v.category).sum ≤ 8) (hdg : decode cc pc = .ok (.invokevirtual 126, 3)) (kk : Z κ nL (zM (ze κ.1) σ1) lv (pc + 3) (.int r :: rest)) : Z κ nL (zM (ze κ.1) σ) lv pc st0 := by
  obtain ⟨q, fs, he⟩ := he
  exact z_callV X hd hM he rfl tw993 tw995 tw32 tw77 tw996 (by decide) ds_X9_metBy hn hst hcat hdg kk
theorem tw982 : Cond.methodLink RX9 129 yX9_all ∈ zt := zt_at 982 (by decide +kernel)
theorem tw984 : Cond.instanceMethod yX9_all ∈ zt := zt_at 984 (by decide +kernel)
theorem tw30 : Cond.selects RX9 yX9_all yX9_all ∈ zt := zt_at 30 (by decide +kernel)
theorem tw985 : Cond.code yX9_all cX9_all 1 (some .int) ∈ zt := zt_at 985 (by decide +kernel)
theorem cl_X9_129 {σ1 : S3} {d1 b : Nat} {As rest st0 : List Value} {r : Int32} (X : zC0 κ RX9 cc nL d) (hd : d1 + 1 ≤ d) (hM : zMet κ.1 zM d1 yX9_all cX9_all 1 (some .int) (.ref b :: As) σ (some (.int r)) σ1) (he : ∃ (q : Nat) (fs : List Value), (zM (ze κ.1) σ)[q]? = some (b, .inr (8, fs))) (hn : As.length = 0) (hst : st0 = As.reverse ++ .ref b :: rest) (hcat : (rest.map fun v => v.category).sum ≤ 8) (hdg : decode cc pc = .ok (.invokevirtual 129, 3)) (kk : Z κ nL (zM (ze κ.1) σ1) lv (pc + 3) (.int r :: rest)) : Z κ nL (zM (ze κ.1) σ) lv pc st0 := by
  obtain ⟨q, fs, he⟩ := he
  exact z_callV X hd hM he rfl tw982 tw984 tw30 tw77 tw985 (by decide) ds_X9_all hn hst hcat hdg kk
theorem tw986 : Cond.methodLink RX9 133 yX9_pairingOf ∈ zt := zt_at 986 (by decide +kernel)
theorem tw988 : Cond.instanceMethod yX9_pairingOf ∈ zt := zt_at 988 (by decide +kernel)
theorem tw31 : Cond.selects RX9 yX9_pairingOf yX9_pairingOf ∈ zt := zt_at 31 (by decide +kernel)
theorem tw989 : Cond.code yX9_pairingOf cX9_pairingOf 5 (some .int) ∈ zt := zt_at 989 (by decide +kernel)
theorem cl_X9_133 {σ1 : S3} {d1 b : Nat} {As rest st0 : List Value} {r : Int32} (X : zC0 κ RX9 cc nL d) (hd : d1 + 1 ≤ d) (hM : zMet κ.1 zM d1 yX9_pairingOf cX9_pairingOf 5 (some .int) (.ref b :: As) σ (some (.int r)) σ1) (he : ∃ (q : Nat) (fs : List Value), (zM (ze κ.1) σ)[q]? = some (b, .inr (8, fs))) (hn : As.length = 1) (hst : st0 = As.reverse ++ .ref b :: rest) (hcat : (rest.map fun v => v.category).sum ≤ 8) (hdg : decode cc pc = .ok (.invokevirtual 133, 3)) (kk : Z κ nL (zM (ze κ.1) σ1) lv (pc + 3) (.int r :: rest)) : Z κ nL (zM (ze κ.1) σ) lv pc st0 := by
  obtain ⟨q, fs, he⟩ := he
  exact z_callV X hd hM he rfl tw986 tw988 tw31 tw77 tw989 (by decide) ds_X9_pairingOf hn hst hcat hdg kk
theorem tw1008 : Cond.methodLink RX9 136 yX9_isKernel ∈ zt := zt_at 1008 (by decide +kernel)
theorem tw1010 : Cond.instanceMethod yX9_isKernel ∈ zt := zt_at 1010 (by decide +kernel)
theorem tw33 : Cond.selects RX9 yX9_isKernel yX9_isKernel ∈ zt := zt_at 33 (by decide +kernel)
theorem tw1011 : Cond.code yX9_isKernel cX9_isKernel 8 (some .boolean) ∈ zt := zt_at 1011 (by decide +kernel)
theorem cl_X9_136 {σ1 : S3} {d1 b : Nat} {As rest st0 : List Value} {r : Int32} (X : zC0 κ RX9 cc nL d) (hd : d1 + 1 ≤ d) (hM : zMet κ.1 zM d1 yX9_isKernel cX9_isKernel 8 (some .boolean) (.ref b :: As) σ (some (.int r)) σ1) (he : ∃ (q : Nat) (fs : List Value), (zM (ze κ.1) σ)[q]? = some (b, .inr (8, fs))) (hn : As.length = 1) (hst : st0 = As.reverse ++ .ref b :: rest) (hcat : (rest.map fun v => v.category).sum ≤ 8) (hdg : decode cc pc = .ok (.invokevirtual 136, 3)) (kk : Z κ nL (zM (ze κ.1) σ1) lv (pc + 3) (.int r :: rest)) : Z κ nL (zM (ze κ.1) σ) lv pc st0 := by
  obtain ⟨q, fs, he⟩ := he
  exact z_callV X hd hM he rfl tw1008 tw1010 tw33 tw77 tw1011 (by decide) ds_X9_isKernel hn hst hcat hdg kk
theorem tw1025 : Cond.methodLink RX9 144 yX9_here ∈ zt := zt_at 1025 (by decide +kernel)
theorem tw1027 : Cond.instanceMethod yX9_here ∈ zt := zt_at 1027 (by decide +kernel)
theorem tw35 : Cond.selects RX9 yX9_here yX9_here ∈ zt := zt_at 35 (by decide +kernel)
theorem tw1028 : Cond.code yX9_here cX9_here 2 (some .int) ∈ zt := zt_at 1028 (by decide +kernel)
theorem cl_X9_144 {σ1 : S3} {d1 b : Nat} {As rest st0 : List Value} {r : Int32} (X : zC0 κ RX9 cc nL d) (hd : d1 + 1 ≤ d) (hM : zMet κ.1 zM d1 yX9_here cX9_here 2 (some .int) (.ref b :: As) σ (some (.int r)) σ1) (he : ∃ (q : Nat) (fs : List Value), (zM (ze κ.1) σ)[q]? = some (b, .inr (8, fs))) (hn : As.length = 1) (hst : st0 = As.reverse ++ .ref b :: rest) (hcat : (rest.map fun v => v.category).sum ≤ 8) (hdg : decode cc pc = .ok (.invokevirtual 144, 3)) (kk : Z κ nL (zM (ze κ.1) σ1) lv (pc + 3) (.int r :: rest)) : Z κ nL (zM (ze κ.1) σ) lv pc st0 := by
  obtain ⟨q, fs, he⟩ := he
  exact z_callV X hd hM he rfl tw1025 tw1027 tw35 tw77 tw1028 (by decide) ds_X9_here hn hst hcat hdg kk
theorem tw1021 : Cond.methodLink RX9 147 yX9_faultOf ∈ zt := zt_at 1021 (by decide +kernel)
theorem tw1023 : Cond.instanceMethod yX9_faultOf ∈ zt := zt_at 1023 (by decide +kernel)
theorem tw34 : Cond.selects RX9 yX9_faultOf yX9_faultOf ∈ zt := zt_at 34 (by decide +kernel)
theorem tw1024 : Cond.code yX9_faultOf cX9_faultOf 4 (some .int) ∈ zt := zt_at 1024 (by decide +kernel)
theorem cl_X9_147 {σ1 : S3} {d1 b : Nat} {As rest st0 : List Value} {r : Int32} (X : zC0 κ RX9 cc nL d) (hd : d1 + 1 ≤ d) (hM : zMet κ.1 zM d1 yX9_faultOf cX9_faultOf 4 (some .int) (.ref b :: As) σ (some (.int r)) σ1) (he : ∃ (q : Nat) (fs : List Value), (zM (ze κ.1) σ)[q]? = some (b, .inr (8, fs))) (hn : As.length = 0) (hst : st0 = As.reverse ++ .ref b :: rest) (hcat : (rest.map fun v => v.category).sum ≤ 8) (hdg : decode cc pc = .ok (.invokevirtual 147, 3)) (kk : Z κ nL (zM (ze κ.1) σ1) lv (pc + 3) (.int r :: rest)) : Z κ nL (zM (ze κ.1) σ) lv pc st0 := by
  obtain ⟨q, fs, he⟩ := he
  exact z_callV X hd hM he rfl tw1021 tw1023 tw34 tw77 tw1024 (by decide) ds_X9_faultOf hn hst hcat hdg kk
theorem tw1061 : Cond.methodLink RX9 153 yX9_isByWays ∈ zt := zt_at 1061 (by decide +kernel)
theorem tw1063 : Cond.instanceMethod yX9_isByWays ∈ zt := zt_at 1063 (by decide +kernel)
theorem tw43 : Cond.selects RX9 yX9_isByWays yX9_isByWays ∈ zt := zt_at 43 (by decide +kernel)
theorem tw1064 : Cond.code yX9_isByWays cX9_isByWays 1 (some .boolean) ∈ zt := zt_at 1064 (by decide +kernel)
theorem cl_X9_153 {σ1 : S3} {d1 b : Nat} {As rest st0 : List Value} {r : Int32} (X : zC0 κ RX9 cc nL d) (hd : d1 + 1 ≤ d) (hM : zMet κ.1 zM d1 yX9_isByWays cX9_isByWays 1 (some .boolean) (.ref b :: As) σ (some (.int r)) σ1) (he : ∃ (q : Nat) (fs : List Value), (zM (ze κ.1) σ)[q]? = some (b, .inr (8, fs))) (hn : As.length = 0) (hst : st0 = As.reverse ++ .ref b :: rest) (hcat : (rest.map fun v => v.category).sum ≤ 8) (hdg : decode cc pc = .ok (.invokevirtual 153, 3)) (kk : Z κ nL (zM (ze κ.1) σ1) lv (pc + 3) (.int r :: rest)) : Z κ nL (zM (ze κ.1) σ) lv pc st0 := by
  obtain ⟨q, fs, he⟩ := he
  exact z_callV X hd hM he rfl tw1061 tw1063 tw43 tw77 tw1064 (by decide) ds_X9_isByWays hn hst hcat hdg kk
theorem tw1041 : Cond.methodLink RX9 157 yX9_isByLines ∈ zt := zt_at 1041 (by decide +kernel)
theorem tw1043 : Cond.instanceMethod yX9_isByLines ∈ zt := zt_at 1043 (by decide +kernel)
theorem tw38 : Cond.selects RX9 yX9_isByLines yX9_isByLines ∈ zt := zt_at 38 (by decide +kernel)
theorem tw1044 : Cond.code yX9_isByLines cX9_isByLines 1 (some .boolean) ∈ zt := zt_at 1044 (by decide +kernel)
theorem cl_X9_157 {σ1 : S3} {d1 b : Nat} {As rest st0 : List Value} {r : Int32} (X : zC0 κ RX9 cc nL d) (hd : d1 + 1 ≤ d) (hM : zMet κ.1 zM d1 yX9_isByLines cX9_isByLines 1 (some .boolean) (.ref b :: As) σ (some (.int r)) σ1) (he : ∃ (q : Nat) (fs : List Value), (zM (ze κ.1) σ)[q]? = some (b, .inr (8, fs))) (hn : As.length = 0) (hst : st0 = As.reverse ++ .ref b :: rest) (hcat : (rest.map fun v => v.category).sum ≤ 8) (hdg : decode cc pc = .ok (.invokevirtual 157, 3)) (kk : Z κ nL (zM (ze κ.1) σ1) lv (pc + 3) (.int r :: rest)) : Z κ nL (zM (ze κ.1) σ) lv pc st0 := by
  obtain ⟨q, fs, he⟩ := he
  exact z_callV X hd hM he rfl tw1041 tw1043 tw38 tw77 tw1044 (by decide) ds_X9_isByLines hn hst hcat hdg kk
theorem tw1057 : Cond.methodLink RX9 160 yX9_isMove ∈ zt := zt_at 1057 (by decide +kernel)
theorem tw1059 : Cond.instanceMethod yX9_isMove ∈ zt := zt_at 1059 (by decide +kernel)
theorem tw42 : Cond.selects RX9 yX9_isMove yX9_isMove ∈ zt := zt_at 42 (by decide +kernel)
theorem tw1060 : Cond.code yX9_isMove cX9_isMove 4 (some .boolean) ∈ zt := zt_at 1060 (by decide +kernel)
theorem cl_X9_160 {σ1 : S3} {d1 b : Nat} {As rest st0 : List Value} {r : Int32} (X : zC0 κ RX9 cc nL d) (hd : d1 + 1 ≤ d) (hM : zMet κ.1 zM d1 yX9_isMove cX9_isMove 4 (some .boolean) (.ref b :: As) σ (some (.int r)) σ1) (he : ∃ (q : Nat) (fs : List Value), (zM (ze κ.1) σ)[q]? = some (b, .inr (8, fs))) (hn : As.length = 3) (hst : st0 = As.reverse ++ .ref b :: rest) (hcat : (rest.map fun v => v.category).sum ≤ 8) (hdg : decode cc pc = .ok (.invokevirtual 160, 3)) (kk : Z κ nL (zM (ze κ.1) σ1) lv (pc + 3) (.int r :: rest)) : Z κ nL (zM (ze κ.1) σ) lv pc st0 := by
  obtain ⟨q, fs, he⟩ := he
  exact z_callV X hd hM he rfl tw1057 tw1059 tw42 tw77 tw1060 (by decide) ds_X9_isMove hn hst hcat hdg kk
theorem tw1065 : Cond.methodLink RX9 163 yX9_setBehind ∈ zt := zt_at 1065 (by decide +kernel)
theorem tw1067 : Cond.instanceMethod yX9_setBehind ∈ zt := zt_at 1067 (by decide +kernel)
theorem tw44 : Cond.selects RX9 yX9_setBehind yX9_setBehind ∈ zt := zt_at 44 (by decide +kernel)
theorem tw1068 : Cond.code yX9_setBehind cX9_setBehind 4 (some .int) ∈ zt := zt_at 1068 (by decide +kernel)
theorem cl_X9_163 {σ1 : S3} {d1 b : Nat} {As rest st0 : List Value} {r : Int32} (X : zC0 κ RX9 cc nL d) (hd : d1 + 1 ≤ d) (hM : zMet κ.1 zM d1 yX9_setBehind cX9_setBehind 4 (some .int) (.ref b :: As) σ (some (.int r)) σ1) (he : ∃ (q : Nat) (fs : List Value), (zM (ze κ.1) σ)[q]? = some (b, .inr (8, fs))) (hn : As.length = 3) (hst : st0 = As.reverse ++ .ref b :: rest) (hcat : (rest.map fun v => v.category).sum ≤ 8) (hdg : decode cc pc = .ok (.invokevirtual 163, 3)) (kk : Z κ nL (zM (ze κ.1) σ1) lv (pc + 3) (.int r :: rest)) : Z κ nL (zM (ze κ.1) σ) lv pc st0 := by
  obtain ⟨q, fs, he⟩ := he
  exact z_callV X hd hM he rfl tw1065 tw1067 tw44 tw77 tw1068 (by decide) ds_X9_setBehind hn hst hcat hdg kk
theorem tw1053 : Cond.methodLink RX9 167 yX9_worthAt ∈ zt := zt_at 1053 (by decide +kernel)
theorem tw1055 : Cond.instanceMethod yX9_worthAt ∈ zt := zt_at 1055 (by decide +kernel)
theorem tw41 : Cond.selects RX9 yX9_worthAt yX9_worthAt ∈ zt := zt_at 41 (by decide +kernel)
theorem tw1056 : Cond.code yX9_worthAt cX9_worthAt 9 (some .int) ∈ zt := zt_at 1056 (by decide +kernel)
theorem cl_X9_167 {σ1 : S3} {d1 b : Nat} {As rest st0 : List Value} {r : Int32} (X : zC0 κ RX9 cc nL d) (hd : d1 + 1 ≤ d) (hM : zMet κ.1 zM d1 yX9_worthAt cX9_worthAt 9 (some .int) (.ref b :: As) σ (some (.int r)) σ1) (he : ∃ (q : Nat) (fs : List Value), (zM (ze κ.1) σ)[q]? = some (b, .inr (8, fs))) (hn : As.length = 2) (hst : st0 = As.reverse ++ .ref b :: rest) (hcat : (rest.map fun v => v.category).sum ≤ 8) (hdg : decode cc pc = .ok (.invokevirtual 167, 3)) (kk : Z κ nL (zM (ze κ.1) σ1) lv (pc + 3) (.int r :: rest)) : Z κ nL (zM (ze κ.1) σ) lv pc st0 := by
  obtain ⟨q, fs, he⟩ := he
  exact z_callV X hd hM he rfl tw1053 tw1055 tw41 tw77 tw1056 (by decide) ds_X9_worthAt hn hst hcat hdg kk
theorem tw1049 : Cond.methodLink RX9 170 yX9_tables ∈ zt := zt_at 1049 (by decide +kernel)
theorem tw1051 : Cond.instanceMethod yX9_tables ∈ zt := zt_at 1051 (by decide +kernel)
theorem tw40 : Cond.selects RX9 yX9_tables yX9_tables ∈ zt := zt_at 40 (by decide +kernel)
theorem tw1052 : Cond.code yX9_tables cX9_tables 2 none ∈ zt := zt_at 1052 (by decide +kernel)
theorem cl_X9_170 {σ1 : S3} {d1 b : Nat} {As rest st0 : List Value} {r : Int32} (X : zC0 κ RX9 cc nL d) (hd : d1 + 1 ≤ d) (hM : zMet κ.1 zM d1 yX9_tables cX9_tables 2 none (.ref b :: As) σ none σ1) (he : ∃ (q : Nat) (fs : List Value), (zM (ze κ.1) σ)[q]? = some (b, .inr (8, fs))) (hn : As.length = 0) (hst : st0 = As.reverse ++ .ref b :: rest) (hcat : (rest.map fun v => v.category).sum ≤ 8) (hdg : decode cc pc = .ok (.invokevirtual 170, 3)) (kk : Z κ nL (zM (ze κ.1) σ1) lv (pc + 3) (rest)) : Z κ nL (zM (ze κ.1) σ) lv pc st0 := by
  obtain ⟨q, fs, he⟩ := he
  exact z_callV X hd hM he rfl tw1049 tw1051 tw40 tw77 tw1052 (by decide) ds_X9_tables hn hst hcat hdg kk
theorem tw1133 : Cond.methodLink RX9 173 yX9_nimAt ∈ zt := zt_at 1133 (by decide +kernel)
theorem tw1135 : Cond.instanceMethod yX9_nimAt ∈ zt := zt_at 1135 (by decide +kernel)
theorem tw55 : Cond.selects RX9 yX9_nimAt yX9_nimAt ∈ zt := zt_at 55 (by decide +kernel)
theorem tw1136 : Cond.code yX9_nimAt cX9_nimAt 6 (some .int) ∈ zt := zt_at 1136 (by decide +kernel)
theorem cl_X9_173 {σ1 : S3} {d1 b : Nat} {As rest st0 : List Value} {r : Int32} (X : zC0 κ RX9 cc nL d) (hd : d1 + 1 ≤ d) (hM : zMet κ.1 zM d1 yX9_nimAt cX9_nimAt 6 (some .int) (.ref b :: As) σ (some (.int r)) σ1) (he : ∃ (q : Nat) (fs : List Value), (zM (ze κ.1) σ)[q]? = some (b, .inr (8, fs))) (hn : As.length = 2) (hst : st0 = As.reverse ++ .ref b :: rest) (hcat : (rest.map fun v => v.category).sum ≤ 8) (hdg : decode cc pc = .ok (.invokevirtual 173, 3)) (kk : Z κ nL (zM (ze κ.1) σ1) lv (pc + 3) (.int r :: rest)) : Z κ nL (zM (ze κ.1) σ) lv pc st0 := by
  obtain ⟨q, fs, he⟩ := he
  exact z_callV X hd hM he rfl tw1133 tw1135 tw55 tw77 tw1136 (by decide) ds_X9_nimAt hn hst hcat hdg kk
theorem tw1037 : Cond.methodLink RX9 185 yX9_setNow ∈ zt := zt_at 1037 (by decide +kernel)
theorem tw1039 : Cond.instanceMethod yX9_setNow ∈ zt := zt_at 1039 (by decide +kernel)
theorem tw37 : Cond.selects RX9 yX9_setNow yX9_setNow ∈ zt := zt_at 37 (by decide +kernel)
theorem tw1040 : Cond.code yX9_setNow cX9_setNow 1 (some .int) ∈ zt := zt_at 1040 (by decide +kernel)
theorem cl_X9_185 {σ1 : S3} {d1 b : Nat} {As rest st0 : List Value} {r : Int32} (X : zC0 κ RX9 cc nL d) (hd : d1 + 1 ≤ d) (hM : zMet κ.1 zM d1 yX9_setNow cX9_setNow 1 (some .int) (.ref b :: As) σ (some (.int r)) σ1) (he : ∃ (q : Nat) (fs : List Value), (zM (ze κ.1) σ)[q]? = some (b, .inr (8, fs))) (hn : As.length = 0) (hst : st0 = As.reverse ++ .ref b :: rest) (hcat : (rest.map fun v => v.category).sum ≤ 8) (hdg : decode cc pc = .ok (.invokevirtual 185, 3)) (kk : Z κ nL (zM (ze κ.1) σ1) lv (pc + 3) (.int r :: rest)) : Z κ nL (zM (ze κ.1) σ) lv pc st0 := by
  obtain ⟨q, fs, he⟩ := he
  exact z_callV X hd hM he rfl tw1037 tw1039 tw37 tw77 tw1040 (by decide) ds_X9_setNow hn hst hcat hdg kk
theorem tw1081 : Cond.methodLink RX9 188 yX9_movesAt ∈ zt := zt_at 1081 (by decide +kernel)
theorem tw1083 : Cond.instanceMethod yX9_movesAt ∈ zt := zt_at 1083 (by decide +kernel)
theorem tw47 : Cond.selects RX9 yX9_movesAt yX9_movesAt ∈ zt := zt_at 47 (by decide +kernel)
theorem tw1084 : Cond.code yX9_movesAt cX9_movesAt 5 (some .int) ∈ zt := zt_at 1084 (by decide +kernel)
theorem cl_X9_188 {σ1 : S3} {d1 b : Nat} {As rest st0 : List Value} {r : Int32} (X : zC0 κ RX9 cc nL d) (hd : d1 + 1 ≤ d) (hM : zMet κ.1 zM d1 yX9_movesAt cX9_movesAt 5 (some .int) (.ref b :: As) σ (some (.int r)) σ1) (he : ∃ (q : Nat) (fs : List Value), (zM (ze κ.1) σ)[q]? = some (b, .inr (8, fs))) (hn : As.length = 2) (hst : st0 = As.reverse ++ .ref b :: rest) (hcat : (rest.map fun v => v.category).sum ≤ 8) (hdg : decode cc pc = .ok (.invokevirtual 188, 3)) (kk : Z κ nL (zM (ze κ.1) σ1) lv (pc + 3) (.int r :: rest)) : Z κ nL (zM (ze κ.1) σ) lv pc st0 := by
  obtain ⟨q, fs, he⟩ := he
  exact z_callV X hd hM he rfl tw1081 tw1083 tw47 tw77 tw1084 (by decide) ds_X9_movesAt hn hst hcat hdg kk
theorem tw1077 : Cond.methodLink RX9 191 yX9_movesNow ∈ zt := zt_at 1077 (by decide +kernel)
theorem tw1079 : Cond.instanceMethod yX9_movesNow ∈ zt := zt_at 1079 (by decide +kernel)
theorem tw46 : Cond.selects RX9 yX9_movesNow yX9_movesNow ∈ zt := zt_at 46 (by decide +kernel)
theorem tw1080 : Cond.code yX9_movesNow cX9_movesNow 1 (some .int) ∈ zt := zt_at 1080 (by decide +kernel)
theorem cl_X9_191 {σ1 : S3} {d1 b : Nat} {As rest st0 : List Value} {r : Int32} (X : zC0 κ RX9 cc nL d) (hd : d1 + 1 ≤ d) (hM : zMet κ.1 zM d1 yX9_movesNow cX9_movesNow 1 (some .int) (.ref b :: As) σ (some (.int r)) σ1) (he : ∃ (q : Nat) (fs : List Value), (zM (ze κ.1) σ)[q]? = some (b, .inr (8, fs))) (hn : As.length = 0) (hst : st0 = As.reverse ++ .ref b :: rest) (hcat : (rest.map fun v => v.category).sum ≤ 8) (hdg : decode cc pc = .ok (.invokevirtual 191, 3)) (kk : Z κ nL (zM (ze κ.1) σ1) lv (pc + 3) (.int r :: rest)) : Z κ nL (zM (ze κ.1) σ) lv pc st0 := by
  obtain ⟨q, fs, he⟩ := he
  exact z_callV X hd hM he rfl tw1077 tw1079 tw46 tw77 tw1080 (by decide) ds_X9_movesNow hn hst hcat hdg kk
theorem tw1045 : Cond.methodLink RX9 194 yX9_winsAt ∈ zt := zt_at 1045 (by decide +kernel)
theorem tw1047 : Cond.instanceMethod yX9_winsAt ∈ zt := zt_at 1047 (by decide +kernel)
theorem tw39 : Cond.selects RX9 yX9_winsAt yX9_winsAt ∈ zt := zt_at 39 (by decide +kernel)
theorem tw1048 : Cond.code yX9_winsAt cX9_winsAt 3 (some .boolean) ∈ zt := zt_at 1048 (by decide +kernel)
theorem cl_X9_194 {σ1 : S3} {d1 b : Nat} {As rest st0 : List Value} {r : Int32} (X : zC0 κ RX9 cc nL d) (hd : d1 + 1 ≤ d) (hM : zMet κ.1 zM d1 yX9_winsAt cX9_winsAt 3 (some .boolean) (.ref b :: As) σ (some (.int r)) σ1) (he : ∃ (q : Nat) (fs : List Value), (zM (ze κ.1) σ)[q]? = some (b, .inr (8, fs))) (hn : As.length = 2) (hst : st0 = As.reverse ++ .ref b :: rest) (hcat : (rest.map fun v => v.category).sum ≤ 8) (hdg : decode cc pc = .ok (.invokevirtual 194, 3)) (kk : Z κ nL (zM (ze κ.1) σ1) lv (pc + 3) (.int r :: rest)) : Z κ nL (zM (ze κ.1) σ) lv pc st0 := by
  obtain ⟨q, fs, he⟩ := he
  exact z_callV X hd hM he rfl tw1045 tw1047 tw39 tw77 tw1048 (by decide) ds_X9_winsAt hn hst hcat hdg kk
theorem tw1033 : Cond.methodLink RX9 203 yX9_beginsAt ∈ zt := zt_at 1033 (by decide +kernel)
theorem tw1035 : Cond.instanceMethod yX9_beginsAt ∈ zt := zt_at 1035 (by decide +kernel)
theorem tw36 : Cond.selects RX9 yX9_beginsAt yX9_beginsAt ∈ zt := zt_at 36 (by decide +kernel)
theorem tw1036 : Cond.code yX9_beginsAt cX9_beginsAt 3 none ∈ zt := zt_at 1036 (by decide +kernel)
theorem cl_X9_203 {σ1 : S3} {d1 b : Nat} {As rest st0 : List Value} {r : Int32} (X : zC0 κ RX9 cc nL d) (hd : d1 + 1 ≤ d) (hM : zMet κ.1 zM d1 yX9_beginsAt cX9_beginsAt 3 none (.ref b :: As) σ none σ1) (he : ∃ (q : Nat) (fs : List Value), (zM (ze κ.1) σ)[q]? = some (b, .inr (8, fs))) (hn : As.length = 2) (hst : st0 = As.reverse ++ .ref b :: rest) (hcat : (rest.map fun v => v.category).sum ≤ 8) (hdg : decode cc pc = .ok (.invokevirtual 203, 3)) (kk : Z κ nL (zM (ze κ.1) σ1) lv (pc + 3) (rest)) : Z κ nL (zM (ze κ.1) σ) lv pc st0 := by
  obtain ⟨q, fs, he⟩ := he
  exact z_callV X hd hM he rfl tw1033 tw1035 tw36 tw77 tw1036 (by decide) ds_X9_beginsAt hn hst hcat hdg kk
theorem tw1073 : Cond.methodLink RX9 207 yX9_isOver ∈ zt := zt_at 1073 (by decide +kernel)
theorem tw1075 : Cond.instanceMethod yX9_isOver ∈ zt := zt_at 1075 (by decide +kernel)
theorem tw45 : Cond.selects RX9 yX9_isOver yX9_isOver ∈ zt := zt_at 45 (by decide +kernel)
theorem tw1076 : Cond.code yX9_isOver cX9_isOver 1 (some .boolean) ∈ zt := zt_at 1076 (by decide +kernel)
theorem cl_X9_207 {σ1 : S3} {d1 b : Nat} {As rest st0 : List Value} {r : Int32} (X : zC0 κ RX9 cc nL d) (hd : d1 + 1 ≤ d) (hM : zMet κ.1 zM d1 yX9_isOver cX9_isOver 1 (some .boolean) (.ref b :: As) σ (some (.int r)) σ1) (he : ∃ (q : Nat) (fs : List Value), (zM (ze κ.1) σ)[q]? = some (b, .inr (8, fs))) (hn : As.length = 0) (hst : st0 = As.reverse ++ .ref b :: rest) (hcat : (rest.map fun v => v.category).sum ≤ 8) (hdg : decode cc pc = .ok (.invokevirtual 207, 3)) (kk : Z κ nL (zM (ze κ.1) σ1) lv (pc + 3) (.int r :: rest)) : Z κ nL (zM (ze κ.1) σ) lv pc st0 := by
  obtain ⟨q, fs, he⟩ := he
  exact z_callV X hd hM he rfl tw1073 tw1075 tw45 tw77 tw1076 (by decide) ds_X9_isOver hn hst hcat hdg kk
theorem tw1085 : Cond.methodLink RX9 210 yX9_goes ∈ zt := zt_at 1085 (by decide +kernel)
theorem tw1087 : Cond.instanceMethod yX9_goes ∈ zt := zt_at 1087 (by decide +kernel)
theorem tw48 : Cond.selects RX9 yX9_goes yX9_goes ∈ zt := zt_at 48 (by decide +kernel)
theorem tw1088 : Cond.code yX9_goes cX9_goes 2 none ∈ zt := zt_at 1088 (by decide +kernel)
theorem cl_X9_210 {σ1 : S3} {d1 b : Nat} {As rest st0 : List Value} {r : Int32} (X : zC0 κ RX9 cc nL d) (hd : d1 + 1 ≤ d) (hM : zMet κ.1 zM d1 yX9_goes cX9_goes 2 none (.ref b :: As) σ none σ1) (he : ∃ (q : Nat) (fs : List Value), (zM (ze κ.1) σ)[q]? = some (b, .inr (8, fs))) (hn : As.length = 1) (hst : st0 = As.reverse ++ .ref b :: rest) (hcat : (rest.map fun v => v.category).sum ≤ 8) (hdg : decode cc pc = .ok (.invokevirtual 210, 3)) (kk : Z κ nL (zM (ze κ.1) σ1) lv (pc + 3) (rest)) : Z κ nL (zM (ze κ.1) σ) lv pc st0 := by
  obtain ⟨q, fs, he⟩ := he
  exact z_callV X hd hM he rfl tw1085 tw1087 tw48 tw77 tw1088 (by decide) ds_X9_goes hn hst hcat hdg kk
theorem tw1093 : Cond.methodLink RX9 214 yX9_goesBack ∈ zt := zt_at 1093 (by decide +kernel)
theorem tw1095 : Cond.instanceMethod yX9_goesBack ∈ zt := zt_at 1095 (by decide +kernel)
theorem tw49 : Cond.selects RX9 yX9_goesBack yX9_goesBack ∈ zt := zt_at 49 (by decide +kernel)
theorem tw1096 : Cond.code yX9_goesBack cX9_goesBack 3 none ∈ zt := zt_at 1096 (by decide +kernel)
theorem cl_X9_214 {σ1 : S3} {d1 b : Nat} {As rest st0 : List Value} {r : Int32} (X : zC0 κ RX9 cc nL d) (hd : d1 + 1 ≤ d) (hM : zMet κ.1 zM d1 yX9_goesBack cX9_goesBack 3 none (.ref b :: As) σ none σ1) (he : ∃ (q : Nat) (fs : List Value), (zM (ze κ.1) σ)[q]? = some (b, .inr (8, fs))) (hn : As.length = 0) (hst : st0 = As.reverse ++ .ref b :: rest) (hcat : (rest.map fun v => v.category).sum ≤ 8) (hdg : decode cc pc = .ok (.invokevirtual 214, 3)) (kk : Z κ nL (zM (ze κ.1) σ1) lv (pc + 3) (rest)) : Z κ nL (zM (ze κ.1) σ) lv pc st0 := by
  obtain ⟨q, fs, he⟩ := he
  exact z_callV X hd hM he rfl tw1093 tw1095 tw49 tw77 tw1096 (by decide) ds_X9_goesBack hn hst hcat hdg kk
theorem tw1101 : Cond.methodLink RX9 217 yX9_mover ∈ zt := zt_at 1101 (by decide +kernel)
theorem tw1103 : Cond.instanceMethod yX9_mover ∈ zt := zt_at 1103 (by decide +kernel)
theorem tw50 : Cond.selects RX9 yX9_mover yX9_mover ∈ zt := zt_at 50 (by decide +kernel)
theorem tw1104 : Cond.code yX9_mover cX9_mover 1 (some .int) ∈ zt := zt_at 1104 (by decide +kernel)
theorem cl_X9_217 {σ1 : S3} {d1 b : Nat} {As rest st0 : List Value} {r : Int32} (X : zC0 κ RX9 cc nL d) (hd : d1 + 1 ≤ d) (hM : zMet κ.1 zM d1 yX9_mover cX9_mover 1 (some .int) (.ref b :: As) σ (some (.int r)) σ1) (he : ∃ (q : Nat) (fs : List Value), (zM (ze κ.1) σ)[q]? = some (b, .inr (8, fs))) (hn : As.length = 0) (hst : st0 = As.reverse ++ .ref b :: rest) (hcat : (rest.map fun v => v.category).sum ≤ 8) (hdg : decode cc pc = .ok (.invokevirtual 217, 3)) (kk : Z κ nL (zM (ze κ.1) σ1) lv (pc + 3) (.int r :: rest)) : Z κ nL (zM (ze κ.1) σ) lv pc st0 := by
  obtain ⟨q, fs, he⟩ := he
  exact z_callV X hd hM he rfl tw1101 tw1103 tw50 tw77 tw1104 (by decide) ds_X9_mover hn hst hcat hdg kk
theorem tw1105 : Cond.methodLink RX9 220 yX9_winner ∈ zt := zt_at 1105 (by decide +kernel)
theorem tw1107 : Cond.instanceMethod yX9_winner ∈ zt := zt_at 1107 (by decide +kernel)
theorem tw51 : Cond.selects RX9 yX9_winner yX9_winner ∈ zt := zt_at 51 (by decide +kernel)
theorem tw1108 : Cond.code yX9_winner cX9_winner 1 (some .int) ∈ zt := zt_at 1108 (by decide +kernel)
theorem cl_X9_220 {σ1 : S3} {d1 b : Nat} {As rest st0 : List Value} {r : Int32} (X : zC0 κ RX9 cc nL d) (hd : d1 + 1 ≤ d) (hM : zMet κ.1 zM d1 yX9_winner cX9_winner 1 (some .int) (.ref b :: As) σ (some (.int r)) σ1) (he : ∃ (q : Nat) (fs : List Value), (zM (ze κ.1) σ)[q]? = some (b, .inr (8, fs))) (hn : As.length = 0) (hst : st0 = As.reverse ++ .ref b :: rest) (hcat : (rest.map fun v => v.category).sum ≤ 8) (hdg : decode cc pc = .ok (.invokevirtual 220, 3)) (kk : Z κ nL (zM (ze κ.1) σ1) lv (pc + 3) (.int r :: rest)) : Z κ nL (zM (ze κ.1) σ) lv pc st0 := by
  obtain ⟨q, fs, he⟩ := he
  exact z_callV X hd hM he rfl tw1105 tw1107 tw51 tw77 tw1108 (by decide) ds_X9_winner hn hst hcat hdg kk
theorem tw1121 : Cond.methodLink RX9 223 yX9_winsBehind ∈ zt := zt_at 1121 (by decide +kernel)
theorem tw1123 : Cond.instanceMethod yX9_winsBehind ∈ zt := zt_at 1123 (by decide +kernel)
theorem tw53 : Cond.selects RX9 yX9_winsBehind yX9_winsBehind ∈ zt := zt_at 53 (by decide +kernel)
theorem tw1124 : Cond.code yX9_winsBehind cX9_winsBehind 2 (some .boolean) ∈ zt := zt_at 1124 (by decide +kernel)
theorem cl_X9_223 {σ1 : S3} {d1 b : Nat} {As rest st0 : List Value} {r : Int32} (X : zC0 κ RX9 cc nL d) (hd : d1 + 1 ≤ d) (hM : zMet κ.1 zM d1 yX9_winsBehind cX9_winsBehind 2 (some .boolean) (.ref b :: As) σ (some (.int r)) σ1) (he : ∃ (q : Nat) (fs : List Value), (zM (ze κ.1) σ)[q]? = some (b, .inr (8, fs))) (hn : As.length = 1) (hst : st0 = As.reverse ++ .ref b :: rest) (hcat : (rest.map fun v => v.category).sum ≤ 8) (hdg : decode cc pc = .ok (.invokevirtual 223, 3)) (kk : Z κ nL (zM (ze κ.1) σ1) lv (pc + 3) (.int r :: rest)) : Z κ nL (zM (ze κ.1) σ) lv pc st0 := by
  obtain ⟨q, fs, he⟩ := he
  exact z_callV X hd hM he rfl tw1121 tw1123 tw53 tw77 tw1124 (by decide) ds_X9_winsBehind hn hst hcat hdg kk
theorem tw1117 : Cond.methodLink RX9 226 yX9_winning ∈ zt := zt_at 1117 (by decide +kernel)
theorem tw1119 : Cond.instanceMethod yX9_winning ∈ zt := zt_at 1119 (by decide +kernel)
theorem tw52 : Cond.selects RX9 yX9_winning yX9_winning ∈ zt := zt_at 52 (by decide +kernel)
theorem tw1120 : Cond.code yX9_winning cX9_winning 4 (some .int) ∈ zt := zt_at 1120 (by decide +kernel)
theorem cl_X9_226 {σ1 : S3} {d1 b : Nat} {As rest st0 : List Value} {r : Int32} (X : zC0 κ RX9 cc nL d) (hd : d1 + 1 ≤ d) (hM : zMet κ.1 zM d1 yX9_winning cX9_winning 4 (some .int) (.ref b :: As) σ (some (.int r)) σ1) (he : ∃ (q : Nat) (fs : List Value), (zM (ze κ.1) σ)[q]? = some (b, .inr (8, fs))) (hn : As.length = 0) (hst : st0 = As.reverse ++ .ref b :: rest) (hcat : (rest.map fun v => v.category).sum ≤ 8) (hdg : decode cc pc = .ok (.invokevirtual 226, 3)) (kk : Z κ nL (zM (ze κ.1) σ1) lv (pc + 3) (.int r :: rest)) : Z κ nL (zM (ze κ.1) σ) lv pc st0 := by
  obtain ⟨q, fs, he⟩ := he
  exact z_callV X hd hM he rfl tw1117 tw1119 tw52 tw77 tw1120 (by decide) ds_X9_winning hn hst hcat hdg kk
theorem tw1129 : Cond.methodLink RX9 229 yX9_longAt ∈ zt := zt_at 1129 (by decide +kernel)
theorem tw1131 : Cond.instanceMethod yX9_longAt ∈ zt := zt_at 1131 (by decide +kernel)
theorem tw54 : Cond.selects RX9 yX9_longAt yX9_longAt ∈ zt := zt_at 54 (by decide +kernel)
theorem tw1132 : Cond.code yX9_longAt cX9_longAt 3 (some .int) ∈ zt := zt_at 1132 (by decide +kernel)
theorem cl_X9_229 {σ1 : S3} {d1 b : Nat} {As rest st0 : List Value} {r : Int32} (X : zC0 κ RX9 cc nL d) (hd : d1 + 1 ≤ d) (hM : zMet κ.1 zM d1 yX9_longAt cX9_longAt 3 (some .int) (.ref b :: As) σ (some (.int r)) σ1) (he : ∃ (q : Nat) (fs : List Value), (zM (ze κ.1) σ)[q]? = some (b, .inr (8, fs))) (hn : As.length = 2) (hst : st0 = As.reverse ++ .ref b :: rest) (hcat : (rest.map fun v => v.category).sum ≤ 8) (hdg : decode cc pc = .ok (.invokevirtual 229, 3)) (kk : Z κ nL (zM (ze κ.1) σ1) lv (pc + 3) (.int r :: rest)) : Z κ nL (zM (ze κ.1) σ) lv pc st0 := by
  obtain ⟨q, fs, he⟩ := he
  exact z_callV X hd hM he rfl tw1129 tw1131 tw54 tw77 tw1132 (by decide) ds_X9_longAt hn hst hcat hdg kk
theorem tw1141 : Cond.methodLink RX9 232 yX9_reaches ∈ zt := zt_at 1141 (by decide +kernel)
theorem tw1143 : Cond.instanceMethod yX9_reaches ∈ zt := zt_at 1143 (by decide +kernel)
theorem tw56 : Cond.selects RX9 yX9_reaches yX9_reaches ∈ zt := zt_at 56 (by decide +kernel)
theorem tw1144 : Cond.code yX9_reaches cX9_reaches 7 (some .int) ∈ zt := zt_at 1144 (by decide +kernel)
theorem cl_X9_232 {σ1 : S3} {d1 b : Nat} {As rest st0 : List Value} {r : Int32} (X : zC0 κ RX9 cc nL d) (hd : d1 + 1 ≤ d) (hM : zMet κ.1 zM d1 yX9_reaches cX9_reaches 7 (some .int) (.ref b :: As) σ (some (.int r)) σ1) (he : ∃ (q : Nat) (fs : List Value), (zM (ze κ.1) σ)[q]? = some (b, .inr (8, fs))) (hn : As.length = 2) (hst : st0 = As.reverse ++ .ref b :: rest) (hcat : (rest.map fun v => v.category).sum ≤ 8) (hdg : decode cc pc = .ok (.invokevirtual 232, 3)) (kk : Z κ nL (zM (ze κ.1) σ1) lv (pc + 3) (.int r :: rest)) : Z κ nL (zM (ze κ.1) σ) lv pc st0 := by
  obtain ⟨q, fs, he⟩ := he
  exact z_callV X hd hM he rfl tw1141 tw1143 tw56 tw77 tw1144 (by decide) ds_X9_reaches hn hst hcat hdg kk
theorem tw1164 : Cond.methodLink RX9 236 yX9_least ∈ zt := zt_at 1164 (by decide +kernel)
theorem tw1165 : Cond.static yX9_least ∈ zt := zt_at 1165 (by decide +kernel)
theorem tw1166 : Cond.code yX9_least cX9_least 2 (some .int) ∈ zt := zt_at 1166 (by decide +kernel)
theorem cl_X9_236 {σ1 : S3} {d1 : Nat} {As rest st0 : List Value} {r : Int32} (X : zC0 κ RX9 cc nL d) (hd : d1 + 1 ≤ d) (hM : zMet κ.1 zM d1 yX9_least cX9_least 2 (some .int) As σ (some (.int r)) σ1) (hn : As.length = 1) (hst : st0 = As.reverse ++ rest) (hcat : (rest.map fun v => v.category).sum ≤ 8) (hdg : decode cc pc = .ok (.invokestatic 236, 3)) (kk : Z κ nL (zM (ze κ.1) σ1) lv (pc + 3) (.int r :: rest)) : Z κ nL (zM (ze κ.1) σ) lv pc st0 := z_callS X hd hM tw1164 tw1165 tw77 tw1166 (by decide) ds_X9_least hn hst hcat hdg kk
theorem tw1167 : Cond.methodLink RX9 239 yX9_greatest ∈ zt := zt_at 1167 (by decide +kernel)
theorem tw1168 : Cond.static yX9_greatest ∈ zt := zt_at 1168 (by decide +kernel)
theorem tw1169 : Cond.code yX9_greatest cX9_greatest 2 (some .int) ∈ zt := zt_at 1169 (by decide +kernel)
theorem cl_X9_239 {σ1 : S3} {d1 : Nat} {As rest st0 : List Value} {r : Int32} (X : zC0 κ RX9 cc nL d) (hd : d1 + 1 ≤ d) (hM : zMet κ.1 zM d1 yX9_greatest cX9_greatest 2 (some .int) As σ (some (.int r)) σ1) (hn : As.length = 1) (hst : st0 = As.reverse ++ rest) (hcat : (rest.map fun v => v.category).sum ≤ 8) (hdg : decode cc pc = .ok (.invokestatic 239, 3)) (kk : Z κ nL (zM (ze κ.1) σ1) lv (pc + 3) (.int r :: rest)) : Z κ nL (zM (ze κ.1) σ) lv pc st0 := z_callS X hd hM tw1167 tw1168 tw77 tw1169 (by decide) ds_X9_greatest hn hst hcat hdg kk
theorem tw1170 : Cond.methodLink RX9 242 yX9_paired ∈ zt := zt_at 1170 (by decide +kernel)
theorem tw1172 : Cond.instanceMethod yX9_paired ∈ zt := zt_at 1172 (by decide +kernel)
theorem tw59 : Cond.selects RX9 yX9_paired yX9_paired ∈ zt := zt_at 59 (by decide +kernel)
theorem tw1173 : Cond.code yX9_paired cX9_paired 4 (some .int) ∈ zt := zt_at 1173 (by decide +kernel)
theorem cl_X9_242 {σ1 : S3} {d1 b : Nat} {As rest st0 : List Value} {r : Int32} (X : zC0 κ RX9 cc nL d) (hd : d1 + 1 ≤ d) (hM : zMet κ.1 zM d1 yX9_paired cX9_paired 4 (some .int) (.ref b :: As) σ (some (.int r)) σ1) (he : ∃ (q : Nat) (fs : List Value), (zM (ze κ.1) σ)[q]? = some (b, .inr (8, fs))) (hn : As.length = 1) (hst : st0 = As.reverse ++ .ref b :: rest) (hcat : (rest.map fun v => v.category).sum ≤ 8) (hdg : decode cc pc = .ok (.invokevirtual 242, 3)) (kk : Z κ nL (zM (ze κ.1) σ1) lv (pc + 3) (.int r :: rest)) : Z κ nL (zM (ze κ.1) σ) lv pc st0 := by
  obtain ⟨q, fs, he⟩ := he
  exact z_callV X hd hM he rfl tw1170 tw1172 tw59 tw77 tw1173 (by decide) ds_X9_paired hn hst hcat hdg kk
theorem tw1174 : Cond.methodLink RX9 245 yX9_drawn ∈ zt := zt_at 1174 (by decide +kernel)
theorem tw1176 : Cond.instanceMethod yX9_drawn ∈ zt := zt_at 1176 (by decide +kernel)
theorem tw60 : Cond.selects RX9 yX9_drawn yX9_drawn ∈ zt := zt_at 60 (by decide +kernel)
theorem tw1177 : Cond.code yX9_drawn cX9_drawn 6 (some .int) ∈ zt := zt_at 1177 (by decide +kernel)
theorem cl_X9_245 {σ1 : S3} {d1 b : Nat} {As rest st0 : List Value} {r : Int32} (X : zC0 κ RX9 cc nL d) (hd : d1 + 1 ≤ d) (hM : zMet κ.1 zM d1 yX9_drawn cX9_drawn 6 (some .int) (.ref b :: As) σ (some (.int r)) σ1) (he : ∃ (q : Nat) (fs : List Value), (zM (ze κ.1) σ)[q]? = some (b, .inr (8, fs))) (hn : As.length = 1) (hst : st0 = As.reverse ++ .ref b :: rest) (hcat : (rest.map fun v => v.category).sum ≤ 8) (hdg : decode cc pc = .ok (.invokevirtual 245, 3)) (kk : Z κ nL (zM (ze κ.1) σ1) lv (pc + 3) (.int r :: rest)) : Z κ nL (zM (ze κ.1) σ) lv pc st0 := by
  obtain ⟨q, fs, he⟩ := he
  exact z_callV X hd hM he rfl tw1174 tw1176 tw60 tw77 tw1177 (by decide) ds_X9_drawn hn hst hcat hdg kk
theorem tw1179 : Cond.methodLink RX9 248 yX9_bestBy ∈ zt := zt_at 1179 (by decide +kernel)
theorem tw1181 : Cond.instanceMethod yX9_bestBy ∈ zt := zt_at 1181 (by decide +kernel)
theorem tw61 : Cond.selects RX9 yX9_bestBy yX9_bestBy ∈ zt := zt_at 61 (by decide +kernel)
theorem tw1182 : Cond.code yX9_bestBy cX9_bestBy 9 (some .int) ∈ zt := zt_at 1182 (by decide +kernel)
theorem cl_X9_248 {σ1 : S3} {d1 b : Nat} {As rest st0 : List Value} {r : Int32} (X : zC0 κ RX9 cc nL d) (hd : d1 + 1 ≤ d) (hM : zMet κ.1 zM d1 yX9_bestBy cX9_bestBy 9 (some .int) (.ref b :: As) σ (some (.int r)) σ1) (he : ∃ (q : Nat) (fs : List Value), (zM (ze κ.1) σ)[q]? = some (b, .inr (8, fs))) (hn : As.length = 2) (hst : st0 = As.reverse ++ .ref b :: rest) (hcat : (rest.map fun v => v.category).sum ≤ 8) (hdg : decode cc pc = .ok (.invokevirtual 248, 3)) (kk : Z κ nL (zM (ze κ.1) σ1) lv (pc + 3) (.int r :: rest)) : Z κ nL (zM (ze κ.1) σ) lv pc st0 := by
  obtain ⟨q, fs, he⟩ := he
  exact z_callV X hd hM he rfl tw1179 tw1181 tw61 tw77 tw1182 (by decide) ds_X9_bestBy hn hst hcat hdg kk
theorem tw1160 : Cond.methodLink RX9 252 yX9_simple ∈ zt := zt_at 1160 (by decide +kernel)
theorem tw1162 : Cond.instanceMethod yX9_simple ∈ zt := zt_at 1162 (by decide +kernel)
theorem tw58 : Cond.selects RX9 yX9_simple yX9_simple ∈ zt := zt_at 58 (by decide +kernel)
theorem tw1163 : Cond.code yX9_simple cX9_simple 3 (some .int) ∈ zt := zt_at 1163 (by decide +kernel)
theorem cl_X9_252 {σ1 : S3} {d1 b : Nat} {As rest st0 : List Value} {r : Int32} (X : zC0 κ RX9 cc nL d) (hd : d1 + 1 ≤ d) (hM : zMet κ.1 zM d1 yX9_simple cX9_simple 3 (some .int) (.ref b :: As) σ (some (.int r)) σ1) (he : ∃ (q : Nat) (fs : List Value), (zM (ze κ.1) σ)[q]? = some (b, .inr (8, fs))) (hn : As.length = 1) (hst : st0 = As.reverse ++ .ref b :: rest) (hcat : (rest.map fun v => v.category).sum ≤ 8) (hdg : decode cc pc = .ok (.invokevirtual 252, 3)) (kk : Z κ nL (zM (ze κ.1) σ1) lv (pc + 3) (.int r :: rest)) : Z κ nL (zM (ze κ.1) σ) lv pc st0 := by
  obtain ⟨q, fs, he⟩ := he
  exact z_callV X hd hM he rfl tw1160 tw1162 tw58 tw77 tw1163 (by decide) ds_X9_simple hn hst hcat hdg kk
theorem tw1153 : Cond.methodLink RX9 255 yX9_isCode ∈ zt := zt_at 1153 (by decide +kernel)
theorem tw1154 : Cond.static yX9_isCode ∈ zt := zt_at 1154 (by decide +kernel)
theorem tw1155 : Cond.code yX9_isCode cX9_isCode 3 (some .boolean) ∈ zt := zt_at 1155 (by decide +kernel)
theorem cl_X9_255 {σ1 : S3} {d1 : Nat} {As rest st0 : List Value} {r : Int32} (X : zC0 κ RX9 cc nL d) (hd : d1 + 1 ≤ d) (hM : zMet κ.1 zM d1 yX9_isCode cX9_isCode 3 (some .boolean) As σ (some (.int r)) σ1) (hn : As.length = 1) (hst : st0 = As.reverse ++ rest) (hcat : (rest.map fun v => v.category).sum ≤ 8) (hdg : decode cc pc = .ok (.invokestatic 255, 3)) (kk : Z κ nL (zM (ze κ.1) σ1) lv (pc + 3) (.int r :: rest)) : Z κ nL (zM (ze κ.1) σ) lv pc st0 := z_callS X hd hM tw1153 tw1154 tw77 tw1155 (by decide) ds_X9_isCode hn hst hcat hdg kk
theorem tw1156 : Cond.methodLink RX9 258 yX9_planned ∈ zt := zt_at 1156 (by decide +kernel)
theorem tw1158 : Cond.instanceMethod yX9_planned ∈ zt := zt_at 1158 (by decide +kernel)
theorem tw57 : Cond.selects RX9 yX9_planned yX9_planned ∈ zt := zt_at 57 (by decide +kernel)
theorem tw1159 : Cond.code yX9_planned cX9_planned 4 (some .int) ∈ zt := zt_at 1159 (by decide +kernel)
theorem cl_X9_258 {σ1 : S3} {d1 b : Nat} {As rest st0 : List Value} {r : Int32} (X : zC0 κ RX9 cc nL d) (hd : d1 + 1 ≤ d) (hM : zMet κ.1 zM d1 yX9_planned cX9_planned 4 (some .int) (.ref b :: As) σ (some (.int r)) σ1) (he : ∃ (q : Nat) (fs : List Value), (zM (ze κ.1) σ)[q]? = some (b, .inr (8, fs))) (hn : As.length = 1) (hst : st0 = As.reverse ++ .ref b :: rest) (hcat : (rest.map fun v => v.category).sum ≤ 8) (hdg : decode cc pc = .ok (.invokevirtual 258, 3)) (kk : Z κ nL (zM (ze κ.1) σ1) lv (pc + 3) (.int r :: rest)) : Z κ nL (zM (ze κ.1) σ) lv pc st0 := by
  obtain ⟨q, fs, he⟩ := he
  exact z_callV X hd hM he rfl tw1156 tw1158 tw57 tw77 tw1159 (by decide) ds_X9_planned hn hst hcat hdg kk
theorem tw1187 : Cond.methodLink RX9 261 yX9_plays ∈ zt := zt_at 1187 (by decide +kernel)
theorem tw1189 : Cond.instanceMethod yX9_plays ∈ zt := zt_at 1189 (by decide +kernel)
theorem tw62 : Cond.selects RX9 yX9_plays yX9_plays ∈ zt := zt_at 62 (by decide +kernel)
theorem tw1190 : Cond.code yX9_plays cX9_plays 6 (some .int) ∈ zt := zt_at 1190 (by decide +kernel)
theorem cl_X9_261 {σ1 : S3} {d1 b : Nat} {As rest st0 : List Value} {r : Int32} (X : zC0 κ RX9 cc nL d) (hd : d1 + 1 ≤ d) (hM : zMet κ.1 zM d1 yX9_plays cX9_plays 6 (some .int) (.ref b :: As) σ (some (.int r)) σ1) (he : ∃ (q : Nat) (fs : List Value), (zM (ze κ.1) σ)[q]? = some (b, .inr (8, fs))) (hn : As.length = 3) (hst : st0 = As.reverse ++ .ref b :: rest) (hcat : (rest.map fun v => v.category).sum ≤ 8) (hdg : decode cc pc = .ok (.invokevirtual 261, 3)) (kk : Z κ nL (zM (ze κ.1) σ1) lv (pc + 3) (.int r :: rest)) : Z κ nL (zM (ze κ.1) σ) lv pc st0 := by
  obtain ⟨q, fs, he⟩ := he
  exact z_callV X hd hM he rfl tw1187 tw1189 tw62 tw77 tw1190 (by decide) ds_X9_plays hn hst hcat hdg kk
theorem tw1203 : Cond.methodLink RX9 273 yX9_grows ∈ zt := zt_at 1203 (by decide +kernel)
theorem tw1205 : Cond.instanceMethod yX9_grows ∈ zt := zt_at 1205 (by decide +kernel)
theorem tw64 : Cond.selects RX9 yX9_grows yX9_grows ∈ zt := zt_at 64 (by decide +kernel)
theorem tw1206 : Cond.code yX9_grows cX9_grows 10 none ∈ zt := zt_at 1206 (by decide +kernel)
theorem cl_X9_273 {σ1 : S3} {d1 b : Nat} {As rest st0 : List Value} {r : Int32} (X : zC0 κ RX9 cc nL d) (hd : d1 + 1 ≤ d) (hM : zMet κ.1 zM d1 yX9_grows cX9_grows 10 none (.ref b :: As) σ none σ1) (he : ∃ (q : Nat) (fs : List Value), (zM (ze κ.1) σ)[q]? = some (b, .inr (8, fs))) (hn : As.length = 5) (hst : st0 = As.reverse ++ .ref b :: rest) (hcat : (rest.map fun v => v.category).sum ≤ 8) (hdg : decode cc pc = .ok (.invokevirtual 273, 3)) (kk : Z κ nL (zM (ze κ.1) σ1) lv (pc + 3) (rest)) : Z κ nL (zM (ze κ.1) σ) lv pc st0 := by
  obtain ⟨q, fs, he⟩ := he
  exact z_callV X hd hM he rfl tw1203 tw1205 tw64 tw77 tw1206 (by decide) ds_X9_grows hn hst hcat hdg kk
theorem tw1199 : Cond.methodLink RX9 277 yX9_isGrown ∈ zt := zt_at 1199 (by decide +kernel)
theorem tw1201 : Cond.instanceMethod yX9_isGrown ∈ zt := zt_at 1201 (by decide +kernel)
theorem tw63 : Cond.selects RX9 yX9_isGrown yX9_isGrown ∈ zt := zt_at 63 (by decide +kernel)
theorem tw1202 : Cond.code yX9_isGrown cX9_isGrown 1 (some .boolean) ∈ zt := zt_at 1202 (by decide +kernel)
theorem cl_X9_277 {σ1 : S3} {d1 b : Nat} {As rest st0 : List Value} {r : Int32} (X : zC0 κ RX9 cc nL d) (hd : d1 + 1 ≤ d) (hM : zMet κ.1 zM d1 yX9_isGrown cX9_isGrown 1 (some .boolean) (.ref b :: As) σ (some (.int r)) σ1) (he : ∃ (q : Nat) (fs : List Value), (zM (ze κ.1) σ)[q]? = some (b, .inr (8, fs))) (hn : As.length = 0) (hst : st0 = As.reverse ++ .ref b :: rest) (hcat : (rest.map fun v => v.category).sum ≤ 8) (hdg : decode cc pc = .ok (.invokevirtual 277, 3)) (kk : Z κ nL (zM (ze κ.1) σ1) lv (pc + 3) (.int r :: rest)) : Z κ nL (zM (ze κ.1) σ) lv pc st0 := by
  obtain ⟨q, fs, he⟩ := he
  exact z_callV X hd hM he rfl tw1199 tw1201 tw63 tw77 tw1202 (by decide) ds_X9_isGrown hn hst hcat hdg kk
theorem tw1215 : Cond.methodLink RX9 280 yX9_isSheet ∈ zt := zt_at 1215 (by decide +kernel)
theorem tw1216 : Cond.static yX9_isSheet ∈ zt := zt_at 1216 (by decide +kernel)
theorem tw1217 : Cond.code yX9_isSheet cX9_isSheet 1 (some .boolean) ∈ zt := zt_at 1217 (by decide +kernel)
theorem cl_X9_280 {σ1 : S3} {d1 : Nat} {As rest st0 : List Value} {r : Int32} (X : zC0 κ RX9 cc nL d) (hd : d1 + 1 ≤ d) (hM : zMet κ.1 zM d1 yX9_isSheet cX9_isSheet 1 (some .boolean) As σ (some (.int r)) σ1) (hn : As.length = 1) (hst : st0 = As.reverse ++ rest) (hcat : (rest.map fun v => v.category).sum ≤ 8) (hdg : decode cc pc = .ok (.invokestatic 280, 3)) (kk : Z κ nL (zM (ze κ.1) σ1) lv (pc + 3) (.int r :: rest)) : Z κ nL (zM (ze κ.1) σ) lv pc st0 := z_callS X hd hM tw1215 tw1216 tw77 tw1217 (by decide) ds_X9_isSheet hn hst hcat hdg kk
theorem tw1222 : Cond.methodLink RX9 283 yX9_wrongCell ∈ zt := zt_at 1222 (by decide +kernel)
theorem tw1224 : Cond.instanceMethod yX9_wrongCell ∈ zt := zt_at 1224 (by decide +kernel)
theorem tw65 : Cond.selects RX9 yX9_wrongCell yX9_wrongCell ∈ zt := zt_at 65 (by decide +kernel)
theorem tw1225 : Cond.code yX9_wrongCell cX9_wrongCell 3 (some .int) ∈ zt := zt_at 1225 (by decide +kernel)
theorem cl_X9_283 {σ1 : S3} {d1 b : Nat} {As rest st0 : List Value} {r : Int32} (X : zC0 κ RX9 cc nL d) (hd : d1 + 1 ≤ d) (hM : zMet κ.1 zM d1 yX9_wrongCell cX9_wrongCell 3 (some .int) (.ref b :: As) σ (some (.int r)) σ1) (he : ∃ (q : Nat) (fs : List Value), (zM (ze κ.1) σ)[q]? = some (b, .inr (8, fs))) (hn : As.length = 2) (hst : st0 = As.reverse ++ .ref b :: rest) (hcat : (rest.map fun v => v.category).sum ≤ 8) (hdg : decode cc pc = .ok (.invokevirtual 283, 3)) (kk : Z κ nL (zM (ze κ.1) σ1) lv (pc + 3) (.int r :: rest)) : Z κ nL (zM (ze κ.1) σ) lv pc st0 := by
  obtain ⟨q, fs, he⟩ := he
  exact z_callV X hd hM he rfl tw1222 tw1224 tw65 tw77 tw1225 (by decide) ds_X9_wrongCell hn hst hcat hdg kk
theorem tw1226 : Cond.methodLink RX9 286 yX9_lays ∈ zt := zt_at 1226 (by decide +kernel)
theorem tw1228 : Cond.instanceMethod yX9_lays ∈ zt := zt_at 1228 (by decide +kernel)
theorem tw66 : Cond.selects RX9 yX9_lays yX9_lays ∈ zt := zt_at 66 (by decide +kernel)
theorem tw1229 : Cond.code yX9_lays cX9_lays 4 none ∈ zt := zt_at 1229 (by decide +kernel)
theorem cl_X9_286 {σ1 : S3} {d1 b : Nat} {As rest st0 : List Value} {r : Int32} (X : zC0 κ RX9 cc nL d) (hd : d1 + 1 ≤ d) (hM : zMet κ.1 zM d1 yX9_lays cX9_lays 4 none (.ref b :: As) σ none σ1) (he : ∃ (q : Nat) (fs : List Value), (zM (ze κ.1) σ)[q]? = some (b, .inr (8, fs))) (hn : As.length = 3) (hst : st0 = As.reverse ++ .ref b :: rest) (hcat : (rest.map fun v => v.category).sum ≤ 8) (hdg : decode cc pc = .ok (.invokevirtual 286, 3)) (kk : Z κ nL (zM (ze κ.1) σ1) lv (pc + 3) (rest)) : Z κ nL (zM (ze κ.1) σ) lv pc st0 := by
  obtain ⟨q, fs, he⟩ := he
  exact z_callV X hd hM he rfl tw1226 tw1228 tw66 tw77 tw1229 (by decide) ds_X9_lays hn hst hcat hdg kk
theorem tw1262 : Cond.methodLink RX9 292 yX9_sheetsThere ∈ zt := zt_at 1262 (by decide +kernel)
theorem tw1264 : Cond.instanceMethod yX9_sheetsThere ∈ zt := zt_at 1264 (by decide +kernel)
theorem tw67 : Cond.selects RX9 yX9_sheetsThere yX9_sheetsThere ∈ zt := zt_at 67 (by decide +kernel)
theorem tw1265 : Cond.code yX9_sheetsThere cX9_sheetsThere 3 (some .int) ∈ zt := zt_at 1265 (by decide +kernel)
theorem cl_X9_292 {σ1 : S3} {d1 b : Nat} {As rest st0 : List Value} {r : Int32} (X : zC0 κ RX9 cc nL d) (hd : d1 + 1 ≤ d) (hM : zMet κ.1 zM d1 yX9_sheetsThere cX9_sheetsThere 3 (some .int) (.ref b :: As) σ (some (.int r)) σ1) (he : ∃ (q : Nat) (fs : List Value), (zM (ze κ.1) σ)[q]? = some (b, .inr (8, fs))) (hn : As.length = 0) (hst : st0 = As.reverse ++ .ref b :: rest) (hcat : (rest.map fun v => v.category).sum ≤ 8) (hdg : decode cc pc = .ok (.invokevirtual 292, 3)) (kk : Z κ nL (zM (ze κ.1) σ1) lv (pc + 3) (.int r :: rest)) : Z κ nL (zM (ze κ.1) σ) lv pc st0 := by
  obtain ⟨q, fs, he⟩ := he
  exact z_callV X hd hM he rfl tw1262 tw1264 tw67 tw77 tw1265 (by decide) ds_X9_sheetsThere hn hst hcat hdg kk
theorem tw81 : Cond.initialized RJ9 ∈ zt := zt_at 81 (by decide +kernel)
theorem tw416 : Cond.static yJ9_max_7cf53 ∈ zt := zt_at 416 (by decide +kernel)
theorem tw546 : Cond.static yJ9_min_7cf53 ∈ zt := zt_at 546 (by decide +kernel)
theorem tw417 : Cond.code yJ9_max_7cf53 cJ9_max_7cf53 2 (some .int) ∈ zt := zt_at 417 (by decide +kernel)
theorem tw547 : Cond.code yJ9_min_7cf53 cJ9_min_7cf53 2 (some .int) ∈ zt := zt_at 547 (by decide +kernel)
end ZL
