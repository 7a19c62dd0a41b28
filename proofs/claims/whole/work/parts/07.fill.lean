theorem pn_X0 : plainName RX0 = true := by decide
theorem pn_X1 : plainName RX1 = true := by decide
theorem pn_X2 : plainName RX2 = true := by decide
theorem pn_X3 : plainName RX3 = true := by decide
theorem pn_X4 : plainName RX4 = true := by decide
theorem pn_X6 : plainName RX6 = true := by decide
theorem pn_X7 : plainName RX7 = true := by decide
theorem pn_X8 : plainName RX8 = true := by decide
theorem pn_X9 : plainName RX9 = true := by decide
theorem pn_X5 : plainName RX5 = true := by decide
theorem pn_J6 : plainName RJ6 = true := by decide
theorem pn_J7 : plainName RJ7 = true := by decide
theorem upA_self (σ : S3) (c f : Nat) : upA σ c f (σ c f) = σ := by
  funext a b j
  unfold upA
  by_cases h1 : a = c
  · subst h1
    rw [if_pos rfl]
    by_cases h2 : b = f
    · subst h2; rw [if_pos rfl]
    · rw [if_neg h2]
  · rw [if_neg h1]
set_option maxHeartbeats 4000000 in
set_option maxRecDepth 100000 in
/-- Arrays.fill(int[], int) -/
theorem C_fill {ζ : zW} {wd : zV → S3 → va_W} (hZ : zDis ζ wd) {c f n q : Nat} {σ : S3} {v : Int32} (hn : n < 2 ^ 31) (hw : ∀ g : Nat → Int32, (wd (ze ζ) (upA σ c f g))[q]? = some (za ζ c f, .inl ((ze ζ).1.1, n, .inl g))) (hs : ∀ g g' : Nat → Int32, (wd (ze ζ) (upA σ c f g)).set q (za ζ c f, .inl ((ze ζ).1.1, n, .inl g')) = wd (ze ζ) (upA σ c f g')) : zMet ζ wd 0 yJ7_fill_53178 cJ7_fill_53178 4 none [.ref (za ζ c f), .int v] σ none (fillA σ c f n v) := by
  refine zMet_of pn_J7 hZ (Nat.le_of_ble_eq_true rfl) (fun κ e X => ?_)
  subst e
  have key : ∀ (k i : Nat) (g : Nat → Int32), i + k = n → (g = fun j => if j < i then v else σ c f j) → Z κ 4 (wd (ze κ.1) (upA σ c f g)) [(2, .int (nI i)), (3, .int (nI n)), (0, .ref (za κ.1 c f)), (1, .int v)] 5 [] := by
    intro k
    induction k with
    | zero =>
      intro i g hi hg
      have e1 : i = n := by omega
      subst e1
      refine z_iload_n (i := 2) X.1 dJ7_fill_53178_5 0 rfl rfl ?_
      refine z_iload_n (i := 3) X.1 dJ7_fill_53178_6 1 rfl rfl ?_
      refine z_icmp_ge_c (tgt := 20) X.1 dJ7_fill_53178_7 (by decide) (fun q0 => ?_) (fun q0 => absurd (nI_le (Nat.le_refl i) hn) q0)
      exact z_vret (r := 0) X dJ7_fill_53178_20 (by rw [hg]; rfl)
    | succ k ih =>
      intro i g hi hg
      refine z_iload_n (i := 2) X.1 dJ7_fill_53178_5 0 rfl rfl ?_
      refine z_iload_n (i := 3) X.1 dJ7_fill_53178_6 1 rfl rfl ?_
      refine z_icmp_ge_c (tgt := 20) X.1 dJ7_fill_53178_7 (by decide) (fun q0 => absurd q0 (nI_ge (by omega) hn)) (fun q0 => ?_)
      refine z_aload_n (i := 0) X.1 dJ7_fill_53178_10 2 rfl rfl ?_
      refine z_iload_n (i := 2) X.1 dJ7_fill_53178_11 0 rfl rfl ?_
      refine z_iload_n (i := 1) X.1 dJ7_fill_53178_12 3 rfl rfl ?_
      refine z_iast (q := q) X.1 (X.2.1 _) (hw g) rfl (vp_in_nI (by omega) hn) (hs g _) dJ7_fill_53178_13 ?_
      refine z_iinc (v := nI (i + 1)) (lv' := [(2, .int (nI (i + 1))), (3, .int (nI n)), (0, .ref (za κ.1 c f)), (1, .int v)]) X.1 dJ7_fill_53178_14 0 rfl (by rw [← nI_1]; rfl) (by decide) rfl ?_
      refine z_goto (tgt := 5) X.1 dJ7_fill_53178_17 (by decide) ?_
      refine ih (i + 1) _ (by omega) ?_
      subst hg
      funext j
      rw [show ix (nI i) = i from nI_clamp (by omega)]
      unfold upd
      by_cases hj : j = i
      · subst hj; rw [if_pos rfl, if_pos (by omega)]
      · rw [if_neg hj]
        show (if j < i then v else σ c f j) = _
        by_cases h2 : j < i
        · rw [if_pos h2, if_pos (by omega)]
        · rw [if_neg h2, if_neg (by omega)]
  have h0 := key n 0 (σ c f) (by omega) (by funext j; simp)
  rw [upA_self] at h0
  refine z_iconst (v := (0 : Int32)) X.1 dJ7_fill_53178_0 (by decide) ?_
  refine z_istore_n (i := 2) (lv' := [(2, .int (0 : Int32)), (0, .ref (za κ.1 c f)), (1, .int v)]) X.1 dJ7_fill_53178_1 rfl (by decide) rfl ?_
  refine z_aload_n (i := 0) X.1 dJ7_fill_53178_2 1 rfl rfl ?_
  have hw0 := hw (σ c f)
  rw [upA_self] at hw0
  refine z_alen (v := nI n) X.1 hw0 rfl rfl dJ7_fill_53178_3 ?_
  refine z_istore_n (i := 3) (lv' := [(3, .int (nI n)), (2, .int (0 : Int32)), (0, .ref (za κ.1 c f)), (1, .int v)]) X.1 dJ7_fill_53178_4 rfl (by decide) rfl ?_
  exact z_sub [1, 0, 2, 3] rfl h0
section ZFILL
variable {κ : zT} {own : String} {cc : ByteArray} {nL d idx : Nat} {lv : List (Nat × Value)} {pc : Nat} {st : List Value} {σ : S3}
theorem fi_X2_touching {c : Nat} (hc : zNet c) {v : Int32} {β : Type} {K : S3 → Option β} {ρ : Option β} (X : zC0 κ own cc nL d) (hd0 : 1 ≤ d) (hZ : zDis κ.1 zX) (hw : Cond.methodLink own idx yJ7_fill_53178 ∈ zt) (hcat : (st.map fun v => v.category).sum ≤ 8) (hdg : decode cc pc = .ok (.invokestatic idx, 3)) (h : nm (fillA σ c 5 16 v) K = ρ) (kk : ∀ σ1 : S3, K σ1 = ρ → Z κ nL (zX (ze κ.1) σ1) lv (pc + 3) st) : Z κ nL (zX (ze κ.1) σ) lv pc (.int v :: .ref (za κ.1 c 5) :: st) := by
  rcases hc with rfl | rfl
  · exact z_callS (d1 := 0) (As := [.ref (za κ.1 1 5), .int v]) (rest := st) X hd0 (C_fill hZ (q := 7) (n := 16) (by decide) (fun g => rfl) (fun g g2 => rfl)) hw tw321 tw78 tw322 (by decide) ds_J7_fill_53178 rfl rfl hcat hdg (kk _ h)
  · exact z_callS (d1 := 0) (As := [.ref (za κ.1 2 5), .int v]) (rest := st) X hd0 (C_fill hZ (q := 16) (n := 16) (by decide) (fun g => rfl) (fun g g2 => rfl)) hw tw321 tw78 tw322 (by decide) ds_J7_fill_53178 rfl rfl hcat hdg (kk _ h)
theorem fi_X2_leaving {c : Nat} (hc : zNet c) {v : Int32} {β : Type} {K : S3 → Option β} {ρ : Option β} (X : zC0 κ own cc nL d) (hd0 : 1 ≤ d) (hZ : zDis κ.1 zX) (hw : Cond.methodLink own idx yJ7_fill_53178 ∈ zt) (hcat : (st.map fun v => v.category).sum ≤ 8) (hdg : decode cc pc = .ok (.invokestatic idx, 3)) (h : nm (fillA σ c 6 16 v) K = ρ) (kk : ∀ σ1 : S3, K σ1 = ρ → Z κ nL (zX (ze κ.1) σ1) lv (pc + 3) st) : Z κ nL (zX (ze κ.1) σ) lv pc (.int v :: .ref (za κ.1 c 6) :: st) := by
  rcases hc with rfl | rfl
  · exact z_callS (d1 := 0) (As := [.ref (za κ.1 1 6), .int v]) (rest := st) X hd0 (C_fill hZ (q := 8) (n := 16) (by decide) (fun g => rfl) (fun g g2 => rfl)) hw tw321 tw78 tw322 (by decide) ds_J7_fill_53178 rfl rfl hcat hdg (kk _ h)
  · exact z_callS (d1 := 0) (As := [.ref (za κ.1 2 6), .int v]) (rest := st) X hd0 (C_fill hZ (q := 17) (n := 16) (by decide) (fun g => rfl) (fun g g2 => rfl)) hw tw321 tw78 tw322 (by decide) ds_J7_fill_53178 rfl rfl hcat hdg (kk _ h)
theorem fi_X2_coming {c : Nat} (hc : zNet c) {v : Int32} {β : Type} {K : S3 → Option β} {ρ : Option β} (X : zC0 κ own cc nL d) (hd0 : 1 ≤ d) (hZ : zDis κ.1 zX) (hw : Cond.methodLink own idx yJ7_fill_53178 ∈ zt) (hcat : (st.map fun v => v.category).sum ≤ 8) (hdg : decode cc pc = .ok (.invokestatic idx, 3)) (h : nm (fillA σ c 7 16 v) K = ρ) (kk : ∀ σ1 : S3, K σ1 = ρ → Z κ nL (zX (ze κ.1) σ1) lv (pc + 3) st) : Z κ nL (zX (ze κ.1) σ) lv pc (.int v :: .ref (za κ.1 c 7) :: st) := by
  rcases hc with rfl | rfl
  · exact z_callS (d1 := 0) (As := [.ref (za κ.1 1 7), .int v]) (rest := st) X hd0 (C_fill hZ (q := 9) (n := 16) (by decide) (fun g => rfl) (fun g g2 => rfl)) hw tw321 tw78 tw322 (by decide) ds_J7_fill_53178 rfl rfl hcat hdg (kk _ h)
  · exact z_callS (d1 := 0) (As := [.ref (za κ.1 2 7), .int v]) (rest := st) X hd0 (C_fill hZ (q := 18) (n := 16) (by decide) (fun g => rfl) (fun g g2 => rfl)) hw tw321 tw78 tw322 (by decide) ds_J7_fill_53178 rfl rfl hcat hdg (kk _ h)
theorem fi_X2_beside {c : Nat} (hc : zNet c) {v : Int32} {β : Type} {K : S3 → Option β} {ρ : Option β} (X : zC0 κ own cc nL d) (hd0 : 1 ≤ d) (hZ : zDis κ.1 zX) (hw : Cond.methodLink own idx yJ7_fill_53178 ∈ zt) (hcat : (st.map fun v => v.category).sum ≤ 8) (hdg : decode cc pc = .ok (.invokestatic idx, 3)) (h : nm (fillA σ c 8 16 v) K = ρ) (kk : ∀ σ1 : S3, K σ1 = ρ → Z κ nL (zX (ze κ.1) σ1) lv (pc + 3) st) : Z κ nL (zX (ze κ.1) σ) lv pc (.int v :: .ref (za κ.1 c 8) :: st) := by
  rcases hc with rfl | rfl
  · exact z_callS (d1 := 0) (As := [.ref (za κ.1 1 8), .int v]) (rest := st) X hd0 (C_fill hZ (q := 10) (n := 16) (by decide) (fun g => rfl) (fun g g2 => rfl)) hw tw321 tw78 tw322 (by decide) ds_J7_fill_53178 rfl rfl hcat hdg (kk _ h)
  · exact z_callS (d1 := 0) (As := [.ref (za κ.1 2 8), .int v]) (rest := st) X hd0 (C_fill hZ (q := 19) (n := 16) (by decide) (fun g => rfl) (fun g g2 => rfl)) hw tw321 tw78 tw322 (by decide) ds_J7_fill_53178 rfl rfl hcat hdg (kk _ h)
theorem fi_X2_ahead {c : Nat} (hc : zNet c) {v : Int32} {β : Type} {K : S3 → Option β} {ρ : Option β} (X : zC0 κ own cc nL d) (hd0 : 1 ≤ d) (hZ : zDis κ.1 zX) (hw : Cond.methodLink own idx yJ7_fill_53178 ∈ zt) (hcat : (st.map fun v => v.category).sum ≤ 8) (hdg : decode cc pc = .ok (.invokestatic idx, 3)) (h : nm (fillA σ c 9 16 v) K = ρ) (kk : ∀ σ1 : S3, K σ1 = ρ → Z κ nL (zX (ze κ.1) σ1) lv (pc + 3) st) : Z κ nL (zX (ze κ.1) σ) lv pc (.int v :: .ref (za κ.1 c 9) :: st) := by
  rcases hc with rfl | rfl
  · exact z_callS (d1 := 0) (As := [.ref (za κ.1 1 9), .int v]) (rest := st) X hd0 (C_fill hZ (q := 11) (n := 16) (by decide) (fun g => rfl) (fun g g2 => rfl)) hw tw321 tw78 tw322 (by decide) ds_J7_fill_53178 rfl rfl hcat hdg (kk _ h)
  · exact z_callS (d1 := 0) (As := [.ref (za κ.1 2 9), .int v]) (rest := st) X hd0 (C_fill hZ (q := 20) (n := 16) (by decide) (fun g => rfl) (fun g g2 => rfl)) hw tw321 tw78 tw322 (by decide) ds_J7_fill_53178 rfl rfl hcat hdg (kk _ h)
theorem fi_X1_found {v : Int32} {β : Type} {K : S3 → Option β} {ρ : Option β} (X : zC0 κ own cc nL d) (hd0 : 1 ≤ d) (hZ : zDis κ.1 zX) (hw : Cond.methodLink own idx yJ7_fill_53178 ∈ zt) (hcat : (st.map fun v => v.category).sum ≤ 8) (hdg : decode cc pc = .ok (.invokestatic idx, 3)) (h : nm (fillA σ 3 1 8192 v) K = ρ) (kk : ∀ σ1 : S3, K σ1 = ρ → Z κ nL (zX (ze κ.1) σ1) lv (pc + 3) st) : Z κ nL (zX (ze κ.1) σ) lv pc (.int v :: .ref (za κ.1 3 1) :: st) := by
  exact z_callS (d1 := 0) (As := [.ref (za κ.1 3 1), .int v]) (rest := st) X hd0 (C_fill hZ (q := 22) (n := 8192) (by decide) (fun g => rfl) (fun g g2 => rfl)) hw tw321 tw78 tw322 (by decide) ds_J7_fill_53178 rfl rfl hcat hdg (kk _ h)
theorem fi_X4_row {c : Nat} (hc : zSh c) {v : Int32} {β : Type} {K : S3 → Option β} {ρ : Option β} (X : zC0 κ own cc nL d) (hd0 : 1 ≤ d) (hZ : zDis κ.1 zX) (hw : Cond.methodLink own idx yJ7_fill_53178 ∈ zt) (hcat : (st.map fun v => v.category).sum ≤ 8) (hdg : decode cc pc = .ok (.invokestatic idx, 3)) (h : nm (fillA σ c 2 24 v) K = ρ) (kk : ∀ σ1 : S3, K σ1 = ρ → Z κ nL (zX (ze κ.1) σ1) lv (pc + 3) st) : Z κ nL (zX (ze κ.1) σ) lv pc (.int v :: .ref (za κ.1 c 2) :: st) := by
  rcases hc with rfl | rfl | rfl | rfl
  · exact z_callS (d1 := 0) (As := [.ref (za κ.1 8 2), .int v]) (rest := st) X hd0 (C_fill hZ (q := 32) (n := 24) (by decide) (fun g => rfl) (fun g g2 => rfl)) hw tw321 tw78 tw322 (by decide) ds_J7_fill_53178 rfl rfl hcat hdg (kk _ h)
  · exact z_callS (d1 := 0) (As := [.ref (za κ.1 9 2), .int v]) (rest := st) X hd0 (C_fill hZ (q := 34) (n := 24) (by decide) (fun g => rfl) (fun g g2 => rfl)) hw tw321 tw78 tw322 (by decide) ds_J7_fill_53178 rfl rfl hcat hdg (kk _ h)
  · exact z_callS (d1 := 0) (As := [.ref (za κ.1 10 2), .int v]) (rest := st) X hd0 (C_fill hZ (q := 36) (n := 24) (by decide) (fun g => rfl) (fun g g2 => rfl)) hw tw321 tw78 tw322 (by decide) ds_J7_fill_53178 rfl rfl hcat hdg (kk _ h)
  · exact z_callS (d1 := 0) (As := [.ref (za κ.1 11 2), .int v]) (rest := st) X hd0 (C_fill hZ (q := 38) (n := 24) (by decide) (fun g => rfl) (fun g g2 => rfl)) hw tw321 tw78 tw322 (by decide) ds_J7_fill_53178 rfl rfl hcat hdg (kk _ h)
end ZFILL
