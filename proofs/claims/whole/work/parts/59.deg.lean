/-! PURE: how many lines are at a point -/
def cnt : Nat → (Nat → Bool) → Nat
  | 0, _ => 0
  | i + 1, P => cnt i P + (P i).toNat
theorem cnt_le (P : Nat → Bool) : ∀ i, cnt i P ≤ i
  | 0 => Nat.le_refl _
  | i + 1 => by
    have := cnt_le P i
    rw [cnt]
    cases P i <;> simp <;> omega
theorem pc_bs (P : Nat → Bool) : ∀ k, pc (bset k P) k = cnt k P
  | 0 => rfl
  | k + 1 => by
    rw [pc, cnt, bset_tb, pc_c (V := bset k P) k (fun j hj => by rw [bset_tb, bset_tb]; simp [hj, Nat.lt_succ_of_lt hj]), pc_bs P k]
    simp
theorem pc_bs12 {N : Nt} (hw : nwf N) (P : Nat → Bool) : pc (bset (nk N) P) 12 = cnt (nk N) P := by
  rw [pc12 hw (bset_lt P (nk N)), pc_bs]
def dP (N : Nt) (p w l : Nat) : Bool := atB N l p && (decide (w = 0) || ldB N l (if w = 1 then p else oth N l p))
def dgr (N : Nt) (p w : Nat) : Nat := cnt (nk N) (dP N p w)
theorem dgr_le {N : Nt} (hw : nwf N) (p w : Nat) : dgr N p w ≤ 12 := Nat.le_trans (cnt_le _ _) hw.2.2.1
section
variable {N : Nt} {σ τ : S3}
theorem X_degree (hw : nwf N) (h : RX 1 N σ) {p w : Nat} (hp : p < nn N) (hwt : w < 3) : F_X2_degree 1 (nI p) (nI w) σ = some (nI (dgr N p w), σ) := by
  have hn := hw.2.1
  have h5 := h.2.2.2 p (by omega)
  unfold F_X2_degree
  rcases (show w = 0 ∨ w = 1 ∨ w = 2 by omega) with e | e | e
  · subst e
    have e2 : dgr N p 0 = pc (tch N p) 12 := by
      unfold dgr tch
      rw [pc_bs12 hw]
      congr 1
      funext l
      simp [dP]
    rw [e2, li0, if_pos rfl, ckN (by omega) (by omega), ixN (by omega), h5.1, X_bitCount (s := tch N p) (bs12 hw _), bdE]
  · subst e
    have e2 : dgr N p 1 = pc (lvg N p) 12 := by
      unfold dgr lvg
      rw [pc_bs12 hw]
      congr 1
    rw [e2, li0, li1, if_neg n1_0, if_pos rfl, ckN (by omega) (by omega), ixN (by omega), h5.2.1, X_bitCount (s := lvg N p) (bs12 hw _), bdE]
  · subst e
    have e2 : dgr N p 2 = pc (cmg N p) 12 := by
      unfold dgr cmg
      rw [pc_bs12 hw]
      congr 1
    rw [e2, li0, li1, if_neg (by decide), if_neg (by decide), ckN (by omega) (by omega), ixN (by omega), h5.2.2.1, X_bitCount (s := cmg N p) (bs12 hw _), bdE]
theorem M_degree (hw : nwf N) (h : RM N τ) {p w : Nat} (hp : p < nn N) (hwt : w < 3) : F_X9_degree (nI p) (nI w) τ = some (nI (dgr N p w), τ) := by
  have hk := hw.2.2.1
  have hn := hw.2.1
  have lp : ∀ (d n i : Nat), i + d = nk N → d < n → zl2 (Fb_X9_degree_5 (nI p) (nI w)) n (nI (cnt i (dP N p w))) (nI i) τ = some (nI (dgr N p w), τ) := by
    intro d
    induction d with
    | zero =>
      intro n i hi hn'
      obtain ⟨n, rfl⟩ : ∃ m, n = m + 1 := ⟨n - 1, by omega⟩
      have e : i = nk N := by omega
      subst e
      rw [zl2_s]
      generalize zl2 (Fb_X9_degree_5 (nI p) (nI w)) n = K
      unfold Fb_X9_degree_5
      simp (disch := omega) only [ckN, ixN, nI_add, subN, mulN, eqN, leN, ltN, bdE, nmE, hasN, shl1, orN, andN, b2i_0, b2i_1, ↓reduceIte, Nat.reduceEqDiff, Nat.reduceLeDiff, li0, li1, li2, li3, li4, li5, li6, li7, li8, li9, li10, li12, li13, li15, li16, li20, li24, li32, li60, li63, li255, li300, li511, li1000, li1023, li4095, li8191, h.2.1, Nat.le_refl]
      rfl
    | succ d ih =>
      intro n i hi hn'
      obtain ⟨n, rfl⟩ : ∃ m, n = m + 1 := ⟨n - 1, by omega⟩
      have hil : i < nk N := by omega
      have ih' := ih n (i + 1) (by omega) (by omega)
      rw [cnt] at ih'
      have hfin : ∀ (K : Int32 → Int32 → S3 → R3) (b : Bool), F_X9_degree_58 K (nI p) (nI w) (nI (cnt i (dP N p w))) (nI i) (b2i b) τ = K (nI (cnt i (dP N p w) + b.toNat)) (nI (i + 1)) τ := by
        intro K b
        unfold F_X9_degree_58
        cases b
        · simp (disch := omega) only [ckN, ixN, nI_add, subN, mulN, eqN, leN, ltN, bdE, nmE, hasN, shl1, orN, andN, b2i_0, b2i_1, ↓reduceIte, Nat.reduceEqDiff, Nat.reduceLeDiff, li0, li1, li2, li3, li4, li5, li6, li7, li8, li9, li10, li12, li13, li15, li16, li20, li24, li32, li60, li63, li255, li300, li511, li1000, li1023, li4095, li8191]
          rfl
        · simp (disch := omega) only [ckN, ixN, nI_add, subN, mulN, eqN, leN, ltN, bdE, nmE, hasN, shl1, orN, andN, b2i_0, b2i_1, ↓reduceIte, Nat.reduceEqDiff, Nat.reduceLeDiff, li0, li1, li2, li3, li4, li5, li6, li7, li8, li9, li10, li12, li13, li15, li16, li20, li24, li32, li60, li63, li255, li300, li511, li1000, li1023, li4095, li8191, Bool.true_eq_false]
          rfl
      rw [zl2_s]
      generalize zl2 (Fb_X9_degree_5 (nI p) (nI w)) n = K at ih' ⊢
      unfold Fb_X9_degree_5 F_X9_degree_53 F_X9_degree_47
      simp (disch := omega) only [ckN, ixN, nI_add, subN, mulN, eqN, leN, ltN, bdE, nmE, hasN, shl1, orN, andN, b2i_0, b2i_1, ↓reduceIte, Nat.reduceEqDiff, Nat.reduceLeDiff, li0, li1, li2, li3, li4, li5, li6, li7, li8, li9, li10, li12, li13, li15, li16, li20, li24, li32, li60, li63, li255, li300, li511, li1000, li1023, li4095, li8191, h.2.1, show ¬ nk N ≤ i by omega, M_isAt hw h hil (show p < 2147483648 by omega)]
      have h0 := hfin K false
      have h1 := hfin K true
      rw [show b2i false = nI 0 from rfl] at h0
      rw [show b2i true = nI 1 from rfl] at h1
      have hd : dP N p w i = (atB N i p && (decide (w = 0) || ldB N i (if w = 1 then p else oth N i p))) := rfl
      unfold F_X9_degree_53
      simp only [li0, li1]
      cases ha : atB N i p
      · rw [hd, ha] at ih'
        simp only [Bool.false_and] at ih'
        rw [if_pos rfl, h0]
        exact ih'
      · rw [hd, ha] at ih'
        have ho := oth_lt hw hil ha
        rw [if_neg (by simp)]
        rcases (show w = 0 ∨ w = 1 ∨ w = 2 by omega) with e | e | e
        · subst e
          rw [if_pos rfl, h1]
          exact ih'
        · subst e
          rw [if_neg (by decide), if_pos rfl, M_leads hw h hil (by omega), bdE, h0, h1]
          cases hl : ldB N i p
          · simp [hl] at ih'
            rw [show b2i false = nI 0 from rfl, if_pos rfl]
            exact ih'
          · simp [hl] at ih'
            rw [show b2i true = nI 1 from rfl, if_neg n1_0]
            exact ih'
        · subst e
          rw [if_neg (by decide), if_neg (by decide), M_otherOf hw h hil ha, bdE, M_leads hw h hil (by omega), bdE, h0, h1]
          cases hl : ldB N i (oth N i p)
          · simp [hl] at ih'
            rw [show b2i false = nI 0 from rfl, if_pos rfl]
            exact ih'
          · simp [hl] at ih'
            rw [show b2i true = nI 1 from rfl, if_neg n1_0]
            exact ih'
  unfold F_X9_degree F_X9_degree_5
  exact lp (nk N) zF 0 (by omega) (zfl (by omega))
end
