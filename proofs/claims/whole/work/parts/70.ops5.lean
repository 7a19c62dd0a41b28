/-! PURE: the calls, one by one: sheets -/
theorem wr8 (v : Int32) : (v <<< (nI 24 &&& 31)) >>> (nI 24 &&& 31) = (Int32.toInt8 v).toInt32 := by
  apply b_ext
  intro j hj
  unfold bt
  rw [Int32.toBitVec_shiftRight, BitVec.getLsbD_sshiftRight', s_l 24 (by omega), Int32.toBitVec_shiftLeft, Int8.toBitVec_toInt32, BitVec.getLsbD_signExtend, Int32.toBitVec_toInt8, BitVec.msb_eq_getLsbD_last, BitVec.msb_eq_getLsbD_last, BitVec.getLsbD_shiftLeft', BitVec.getLsbD_shiftLeft', s_l 24 (by omega), BitVec.getLsbD_signExtend, BitVec.getLsbD_signExtend]
  by_cases h : j < 8
  · have h1 : 24 + j < 32 := by omega
    have h2 : ¬ 24 + j < 24 := by omega
    have h3 : ¬ 32 ≤ j := by omega
    rw [if_pos h1, if_pos h, show 24 + j - 24 = j by omega]
    simp [h, hj, h1, h2, h3]
  · have h1 : ¬ 24 + j < 32 := by omega
    have h3 : ¬ 32 ≤ j := by omega
    rw [if_neg h1, if_neg h]
    simp [hj, h3]
theorem wr16 (v : Int32) : (v <<< (nI 16 &&& 31)) >>> (nI 16 &&& 31) = (Int32.toInt16 v).toInt32 := by
  apply b_ext
  intro j hj
  unfold bt
  rw [Int32.toBitVec_shiftRight, BitVec.getLsbD_sshiftRight', s_l 16 (by omega), Int32.toBitVec_shiftLeft, Int16.toBitVec_toInt32, BitVec.getLsbD_signExtend, Int32.toBitVec_toInt16, BitVec.msb_eq_getLsbD_last, BitVec.msb_eq_getLsbD_last, BitVec.getLsbD_shiftLeft', BitVec.getLsbD_shiftLeft', s_l 16 (by omega), BitVec.getLsbD_signExtend, BitVec.getLsbD_signExtend]
  by_cases h : j < 16
  · have h1 : 16 + j < 32 := by omega
    have h2 : ¬ 16 + j < 16 := by omega
    have h3 : ¬ 32 ≤ j := by omega
    rw [if_pos h1, if_pos h, show 16 + j - 16 = j by omega]
    simp [h, hj, h1, h2, h3]
  · have h1 : ¬ 16 + j < 32 := by omega
    have h3 : ¬ 32 ≤ j := by omega
    rw [if_neg h1, if_neg h]
    simp [hj, h3]
theorem wr32 (v : Int32) : (v <<< (nI 0 &&& 31)) >>> (nI 0 &&& 31) = v := by
  apply b_ext
  intro j hj
  unfold bt
  rw [Int32.toBitVec_shiftRight, BitVec.getLsbD_sshiftRight', s_l 0 (by omega), Int32.toBitVec_shiftLeft, BitVec.getLsbD_shiftLeft', s_l 0 (by omega)]
  have h3 : ¬ 32 ≤ j := by omega
  rw [if_pos (by omega)]
  simp [hj, h3]
section
variable {N : Nt} {L : Nat} {B : Nat → Nat} {σ τ σ' τ' : S3} {ru p0 k : Nat} {mv : Nat → Nat}
theorem Inv_sh (h : Inv σ τ) (hs : ∀ c, c < 8 ∨ 11 < c → σ' c = σ c) (ht : ∀ f, f < 28 ∨ 30 < f → τ' 0 f = τ 0 f) (hS : SH σ' τ') : Inv σ' τ' := by
  obtain ⟨N, L, B, ⟨a, b, c, d, e, f, g, i, j⟩, hG⟩ := h
  refine ⟨N, L, B, ⟨a, RX_c (hs 1 (by omega)) b, RM_fr c (fun f _ h => ht f (by omega)), MT_f d (ht 20 (by omega)) (ht 21 (by omega)) (ht 22 (by omega)), TP_fr e (hs 7 (by omega)) (ht 9 (by omega)) (ht 10 (by omega)), ER_fr f (by rw [hs 0 (by omega)]) (ht 0 (by omega)), by rw [hs 4 (by omega), ht 17 (by omega)]; exact g, hS, IM_fr j (by rw [hs 0 (by omega)]) (by rw [hs 0 (by omega)]) (hs 2 (by omega)) (ht 31 (by omega)) (ht 32 (by omega))⟩, ?_⟩
  rcases hG with ⟨ru, h⟩ | ⟨ru, p0, mv, k, h1, h2⟩
  · exact Or.inl ⟨ru, GF_fr h (hs 6 (by omega)) (JF_c h.2.2.2.2.2 (hs 3 (by omega))) (ht 11 (by omega)) (ht 12 (by omega))⟩
  · exact Or.inr ⟨ru, p0, mv, k, JT_c h1 (hs 3 (by omega)), GO_fr h2 (hs 6 (by omega)) (fun f a b c => ht f (by omega))⟩
theorem Inv_SH (h : Inv σ τ) : SH σ τ := by
  obtain ⟨N, L, B, hI, _⟩ := h
  exact hI.2.2.2.2.2.2.2.1
theorem sheet_l {s : Nat} (hs4 : s < 4) : ∀ (d n i : Nat) (g : Nat → Int32), i + d = 24 → d < n → (∀ j, j < i → g (24 * s + j) = nI 0) → ∃ g', zl1 (Fb_X9_sheet_90 (nI s)) n (nI i) (upA τ 0 30 g) = some (1, upA τ 0 30 g') ∧ (∀ j, j < 24 → g' (24 * s + j) = nI 0) ∧ ∀ q, q < 24 * s ∨ 24 * s + 24 ≤ q → g' q = g q := by
  intro d
  induction d with
  | zero =>
    intro n i g hi hn hz
    obtain ⟨n, rfl⟩ : ∃ m, n = m + 1 := ⟨n - 1, by omega⟩
    refine ⟨g, ?_, fun j hj => hz j (by omega), fun _ _ => rfl⟩
    rw [zl1_s]
    generalize zl1 (Fb_X9_sheet_90 (nI s)) n = K
    unfold Fb_X9_sheet_90
    rw [li24, if_pos (by rw [leN (by omega) (by omega)]; omega)]
  | succ d ih =>
    intro n i g hi hn hz
    obtain ⟨n, rfl⟩ : ∃ m, n = m + 1 := ⟨n - 1, by omega⟩
    obtain ⟨g', e1, e2, e3⟩ := ih n (i + 1) (upd g (24 * s + i) (nI 0)) (by omega) (by omega) (by
      intro j hj
      by_cases e : j = i
      · subst e; rw [upd_s]
      · rw [upd_n (by omega)]; exact hz j (by omega))
    refine ⟨g', ?_, e2, fun q hq => by rw [e3 q hq, upd_n (by omega)]⟩
    rw [zl1_s]
    generalize zl1 (Fb_X9_sheet_90 (nI s)) n = K at e1 ⊢
    unfold Fb_X9_sheet_90
    rw [li24, if_neg (by rw [leN (by omega) (by omega)]; omega), mulN, nI_add, ckN (by omega) (by omega), ixN (by omega), nmE, nmE, li1, nI_add, li0, up_upA]
    exact e1
theorem sheet65_b (h : Inv σ τ) {s b n : Nat} (hs4 : s < 4) (hb : b = 0 ∨ b = 8 ∨ b = 16 ∨ b = 32) (hn : n ≤ 24) {v3 : Int32} (hv : b = 0 ∧ n = 0 ∨ b ≠ 0 ∧ v3 = nI n) : zst Inv (F_X8_sheet_65 (nI s) (nI b) v3 σ) (F_X9_sheet_65 (nI s) (nI b) v3 τ) := by
  have hS := Inv_SH h
  have hX : F_X8_sheet_65 (nI s) (nI b) v3 σ = some (1, fillA (up (up σ (8 + s) 0 0 (nI b)) (8 + s) 1 0 (nI n)) (8 + s) 2 24 0) := by
    unfold F_X8_sheet_65 F_X4_renew
    rw [ckN hs4 (by omega), ixN (by omega)]
    simp only [nmE, bdE]
    rcases hv with ⟨e1, e2⟩ | ⟨e1, e2⟩
    · rw [if_pos (by rw [e1]; rfl), e2]; rfl
    · rw [if_neg (by rw [li0, eqN (by omega) (by omega)]; exact e1), e2]
  have hMid : F_X9_sheet_65 (nI s) (nI b) v3 τ = zl1 (Fb_X9_sheet_90 (nI s)) zF (nI 0) (up (up τ 0 28 s (nI b)) 0 29 s (nI n)) := by
    unfold F_X9_sheet_65 F_X9_sheet_90
    rw [ckN hs4 (by omega), ixN (by omega)]
    simp only [nmE, ckN hs4 (show 4 < 2147483648 by omega)]
    rcases hv with ⟨e1, e2⟩ | ⟨e1, e2⟩
    · rw [if_pos (by rw [e1]; rfl), e2]; rfl
    · rw [if_neg (by rw [li0, eqN (by omega) (by omega)]; exact e1), e2]; rfl
  obtain ⟨g', e1, e2, e3⟩ := sheet_l (τ := up (up τ 0 28 s (nI b)) 0 29 s (nI n)) hs4 24 zF 0 ((up (up τ 0 28 s (nI b)) 0 29 s (nI n)) 0 30) (by omega) (zfl (by omega)) (fun j hj => absurd hj (by omega))
  rw [upA_self] at e1
  have h30 : (up (up τ 0 28 s (nI b)) 0 29 s (nI n)) 0 30 = τ 0 30 := by rw [up_f (by decide), up_f (by decide)]
  rw [hX, hMid, e1]
  refine ⟨_, _, _, rfl, rfl, Inv_sh h (fun c hc => ?_) (fun f hf => ?_) ?_⟩
  · unfold fillA
    rw [upA_c (by omega), up_c (by omega), up_c (by omega)]
  · rw [upA_f (by omega), up_f (by omega), up_f (by omega)]
  · intro q hq
    rw [upA_f (show 28 ≠ 30 by decide), up_f (show 28 ≠ 29 by decide), up_s, upA_f (show 29 ≠ 30 by decide), up_s, up_f (show 29 ≠ 28 by decide), upA_s]
    by_cases e : q = s
    · subst e
      refine ⟨b, n, hb, hn, ?_, upd_s, ?_, upd_s, fun i hi => ?_⟩
      · unfold fillA; rw [upA_f (by decide), up_f (by decide), up_at]
      · unfold fillA; rw [upA_f (by decide), up_at]
      · unfold fillA; rw [upA_s]; simp only [if_pos hi]; exact (e2 i hi).symm
    · obtain ⟨b', n', q1, q2, q3, q4, q5, q6, q7⟩ := hS q hq
      have hc : fillA (up (up σ (8 + s) 0 0 (nI b)) (8 + s) 1 0 (nI n)) (8 + s) 2 24 0 (8 + q) = σ (8 + q) := by
        unfold fillA
        rw [upA_c (by omega), up_c (by omega), up_c (by omega)]
      refine ⟨b', n', q1, q2, by rw [hc]; exact q3, by rw [upd_n e]; exact q4, by rw [hc]; exact q5, by rw [upd_n e]; exact q6, fun i hi => ?_⟩
      rw [hc, e3 (24 * q + i) (by omega), h30]
      exact q7 i hi
theorem o_sheet (h : Inv σ τ) (a0 a1 a2 : Int32) : zst Inv (F_X8_sheet a0 a1 a2 σ) (F_X9_sheet a0 a1 a2 τ) := by
  unfold F_X8_sheet F_X9_sheet
  rw [X_isSheet, bdE, M_isSheet, bdE]
  cases hb : inB a0 4
  · rw [bf0, if_pos rfl, if_pos rfl]; exact err_b (j := 1) h (by decide)
  · rw [if_neg bt0, if_neg bt0]
    obtain ⟨s, hs4, e⟩ := inB_t (by omega) hb
    subst e
    have main : ∀ b : Nat, (b = 0 ∨ b = 8 ∨ b = 16 ∨ b = 32) → zst Inv (F_X8_sheet_35 (nI s) (nI b) a2 σ) (F_X9_sheet_35 (nI s) (nI b) a2 τ) := by
      intro b hb
      unfold F_X8_sheet_35 F_X9_sheet_35 F_X8_sheet_49 F_X9_sheet_49
      by_cases c : b = 0
      · have c' : nI b = 0 := by rw [c]; rfl
        rw [if_pos c', if_pos c', if_pos c', if_pos c']
        exact sheet65_b h hs4 hb (n := 0) (by omega) (Or.inl ⟨c, rfl⟩)
      · have c' : ¬ nI b = 0 := by rw [li0, eqN (by omega) (by omega)]; exact c
        rw [if_neg c', if_neg c', if_neg c', if_neg c']
        by_cases d : (0 : Int32) ≤ a2
        · rw [if_pos d, if_pos d]
          obtain ⟨n, hn, e⟩ := nI_of (show ¬ a2 < 0 by rw [i_nlt]; exact d)
          subst e
          rw [li24]
          by_cases f : n ≤ 24
          · have f' : nI n ≤ nI 24 := by rw [leN (by omega) (by omega)]; exact f
            rw [if_pos f', if_pos f']
            exact sheet65_b h hs4 hb f (Or.inr ⟨c, rfl⟩)
          · have f' : ¬ nI n ≤ nI 24 := by rw [leN (by omega) (by omega)]; exact f
            rw [if_neg f', if_neg f']
            exact err_b (j := 1) h (by decide)
        · rw [if_neg d, if_neg d]
          exact err_b (j := 3) h (by decide)
    by_cases c0 : a1 = 0
    · rw [if_pos c0, if_pos c0, c0]; exact main 0 (by omega)
    · rw [if_neg c0, if_neg c0]
      by_cases c1 : a1 = 8
      · rw [if_pos c1, if_pos c1, c1]; exact main 8 (by omega)
      · rw [if_neg c1, if_neg c1]
        by_cases c2 : a1 = 16
        · rw [if_pos c2, if_pos c2, c2]; exact main 16 (by omega)
        · rw [if_neg c2, if_neg c2]
          by_cases c3 : a1 = 32
          · rw [if_pos c3, if_pos c3, c3]; exact main 32 (by omega)
          · rw [if_neg c3, if_neg c3]; exact err_b (j := 1) h (by decide)
/-- one number is laid -/
theorem lay_b (h : Inv σ τ) {s i b : Nat} (hs4 : s < 4) (hi : i < 24) (hb0 : b ≠ 0) (hb : σ (8 + s) 0 0 = nI b) (hbl : b < 2147483648) (v : Int32) : ∃ σ' τ', F_X4_write (8 + s) (nI i) v σ = some (0, σ') ∧ F_X9_lays (nI s) (nI i) v τ = some (0, τ') ∧ Inv σ' τ' ∧ (∀ c, c ≠ 8 + s → σ' c = σ c) ∧ (∀ f, f ≠ 2 → σ' (8 + s) f = σ (8 + s) f) ∧ ∀ f, f ≠ 30 → τ' 0 f = τ 0 f := by
  have hS := Inv_SH h
  obtain ⟨b', n, q1, q2, q3, q4, q5, q6, q7⟩ := hS s hs4
  have hbb : b' = b := by rw [hb, eqN hbl (by omega)] at q3; exact q3.symm
  subst hbb
  obtain ⟨w, hw⟩ : ∃ w, w = (v <<< (nI (32 - b') &&& 31)) >>> (nI (32 - b') &&& 31) := ⟨_, rfl⟩
  refine ⟨up σ (8 + s) 2 i w, up τ 0 30 (24 * s + i) w, ?_, ?_, Inv_sh h (fun c hc => up_c (by omega)) (fun f hf => up_f (by omega)) ?_, fun c hc => up_c hc, fun f hf => up_f hf, fun f hf => up_f hf⟩
  · unfold F_X4_write
    rw [hb, li32, subN (by omega), nmE, ckN (by omega) (by omega), ixN (by omega), nmE, hw]
  · unfold F_X9_lays
    rw [ckN hs4 (by omega), ixN (by omega), q4, li24, mulN, nI_add, ckN (show 24 * s + i < 96 by omega) (by omega), ixN (by omega), ckN hs4 (by omega), ckN (show 24 * s + i < 96 by omega) (by omega), ckN (show 24 * s + i < 96 by omega) (by omega), nmE, nmE, nmE, li8, li16, hw]
    rcases q1 with e | e | e | e
    · exact absurd e hb0
    · subst e
      rw [if_pos rfl, show 32 - 8 = 24 by omega, wr8]
    · subst e
      rw [if_neg (by decide), if_pos rfl, show 32 - 16 = 16 by omega, wr16]
    · subst e
      rw [if_neg (by decide), if_neg (by decide), show 32 - 32 = 0 by omega, wr32]
  · intro q hq
    rw [up_f (show 28 ≠ 30 by decide), up_f (show 29 ≠ 30 by decide), up_s]
    by_cases e : q = s
    · subst e
      refine ⟨b', n, q1, q2, by rw [up_f (by decide)]; exact q3, q4, by rw [up_f (by decide)]; exact q5, q6, fun j hj => ?_⟩
      rw [up_s]
      by_cases e2 : j = i
      · subst e2; rw [upd_s, upd_s]
      · rw [upd_n e2, upd_n (by omega)]; exact q7 j hj
    · obtain ⟨b2, n2, r1, r2, r3, r4, r5, r6, r7⟩ := hS q hq
      have hc : up σ (8 + s) 2 i w (8 + q) = σ (8 + q) := up_c (by omega)
      exact ⟨b2, n2, r1, r2, by rw [hc]; exact r3, r4, by rw [hc]; exact r5, r6, fun j hj => by rw [hc, upd_n (by omega)]; exact r7 j hj⟩
/-- what is wrong with a number's place -/
theorem cell_b (h : Inv σ τ) (a0 a1 : Int32) : ∃ e, e < 7 ∧ F_X8_errorOfNumber a0 a1 σ = some (nI e, σ) ∧ F_X9_wrongCell a0 a1 τ = some (nI e, τ) ∧ (e = 0 → ∃ s i b, s < 4 ∧ i < 24 ∧ a0 = nI s ∧ a1 = nI i ∧ b ≠ 0 ∧ b ≤ 32 ∧ σ (8 + s) 0 0 = nI b) := by
  have hS := Inv_SH h
  unfold F_X8_errorOfNumber F_X9_wrongCell F_X4_isMissing
  rw [X_isSheet, bdE, M_isSheet, bdE]
  cases hb : inB a0 4
  · rw [bf0, if_pos rfl, if_pos rfl]
    exact ⟨1, by omega, rfl, rfl, fun h => by cases h⟩
  · rw [if_neg bt0, if_neg bt0]
    obtain ⟨s, hs4, e⟩ := inB_t (by omega) hb
    subst e
    obtain ⟨b, n, q1, q2, q3, q4, q5, q6, q7⟩ := hS s hs4
    rw [ckN hs4 (by omega), ckN hs4 (by omega), ixN (by omega), ckN hs4 (by omega), q3, q4, q6, M_inS _ (by omega), bdE]
    by_cases c : b = 0
    · have c' : nI b = 0 := by rw [c]; rfl
      rw [if_pos c', bdE, if_neg (show ¬ (1 : Int32) = 0 by decide), if_pos c']
      exact ⟨6, by omega, rfl, rfl, fun h => by cases h⟩
    · have c' : ¬ nI b = 0 := by rw [li0, eqN (by omega) (by omega)]; exact c
      rw [if_neg c', bdE, if_pos rfl, if_neg c', ckN hs4 (by omega), q5, ifl]
      cases hb2 : inB a1 n
      · rw [if_neg Bool.false_ne_true, bf0, if_pos rfl]
        exact ⟨1, by omega, rfl, rfl, fun h => by cases h⟩
      · rw [if_pos rfl, if_neg bt0]
        obtain ⟨i, hi, e⟩ := inB_t (by omega) hb2
        exact ⟨0, by omega, rfl, rfl, fun _ => ⟨s, i, b, hs4, by omega, rfl, e, c, by omega, q3⟩⟩
theorem o_put (h : Inv σ τ) (a0 a1 a2 : Int32) : zst Inv (F_X8_put a0 a1 a2 σ) (F_X9_put a0 a1 a2 τ) := by
  unfold F_X8_put F_X9_put
  obtain ⟨e, he, x1, x2, x3⟩ := cell_b h a0 a1
  rw [x1, bdE, x2, bdE]
  by_cases c : e = 0
  · have c' : nI e = 0 := by rw [c]; rfl
    obtain ⟨s, i, b, h1, h2, h3, h4, h5, h6, h7⟩ := x3 c
    subst h3 h4
    obtain ⟨σ', τ', y1, y2, y3, _⟩ := lay_b h h1 h2 h5 h7 (by omega) a2
    rw [if_pos c', if_pos c', ckN h1 (by omega), ixN (by omega), y1, bdE, y2, bdE]
    exact ret_b y3 _
  · have c' : ¬ nI e = 0 := by rw [li0, eqN (by omega) (by omega)]; exact c
    rw [if_neg c', if_neg c']
    exact err_b h he
theorem o_number (h : Inv σ τ) (a0 a1 : Int32) : zst Inv (F_X8_number a0 a1 σ) (F_X9_number a0 a1 τ) := by
  unfold F_X8_number F_X9_number
  obtain ⟨e, he, x1, x2, x3⟩ := cell_b h a0 a1
  rw [x1, bdE, x2, bdE]
  by_cases c : e = 0
  · have c' : nI e = 0 := by rw [c]; rfl
    obtain ⟨s, i, b, h1, h2, h3, h4, h5, h6, h7⟩ := x3 c
    subst h3 h4
    obtain ⟨b', n, q1, q2, q3, q4, q5, q6, q7⟩ := Inv_SH h s h1
    rw [if_pos c', if_pos c', ckN h1 (by omega), ckN (by omega) (by omega), li24, mulN, nI_add, ckN (by omega) (by omega), ixN (by omega), ixN (by omega), ixN (by omega), q7 i h2]
    exact ret_b h _
  · have c' : ¬ nI e = 0 := by rw [li0, eqN (by omega) (by omega)]; exact c
    rw [if_neg c', if_neg c']
    exact err_b h he
/-- which of the n are copied after k turns -/
def dnB (i j n k x : Nat) : Bool := if j ≤ i then decide (x < k) else decide (n ≤ x + k)
theorem copy_l {s o i j n : Nat} (hs4 : s < 4) (ho4 : o < 4) (hi : i + n ≤ 24) (hj : j + n ≤ 24) : ∀ (d n1 k : Nat) (g : Nat → Int32), k + d = n → d < n1 → (∀ x, x < n → dnB i j n k x = true → g (24 * o + j + x) = τ 0 30 (24 * s + i + x)) → (∀ q, (∀ x, x < n → dnB i j n k x = true → q ≠ 24 * o + j + x) → g q = τ 0 30 q) → ∃ g', zl1 (Fb_X9_copy_116 (nI s) (nI i) (nI o) (nI j) (nI n)) n1 (nI k) (upA τ 0 30 g) = some (nI n, upA τ 0 30 g') ∧ (∀ x, x < n → g' (24 * o + j + x) = τ 0 30 (24 * s + i + x)) ∧ ∀ q, (∀ x, x < n → q ≠ 24 * o + j + x) → g' q = τ 0 30 q := by
  intro d
  induction d with
  | zero =>
    intro n1 k g hk h1 hd ho
    obtain ⟨n1, rfl⟩ : ∃ m, n1 = m + 1 := ⟨n1 - 1, by omega⟩
    have e : k = n := by omega
    subst e
    have hall : ∀ x, x < k → dnB i j k k x = true := by
      intro x hx
      unfold dnB
      split
      · exact decide_eq_true hx
      · exact decide_eq_true (by omega)
    refine ⟨g, ?_, fun x hx => hd x hx (hall x hx), fun q hq => ho q (fun x hx _ => hq x hx)⟩
    rw [zl1_s]
    generalize zl1 (Fb_X9_copy_116 (nI s) (nI i) (nI o) (nI j) (nI k)) n1 = K
    unfold Fb_X9_copy_116
    rw [if_pos (Int32.le_refl _)]
  | succ d ih =>
    intro n1 k g hk h1 hd ho
    obtain ⟨n1, rfl⟩ : ∃ m, n1 = m + 1 := ⟨n1 - 1, by omega⟩
    -- the one that is copied now
    have step : ∀ x, x < n → dnB i j n k x = false → (∀ y, y < n → (dnB i j n (k + 1) y = true ↔ dnB i j n k y = true ∨ y = x)) → (∀ y, y < n → dnB i j n k y = true → 24 * s + i + x ≠ 24 * o + j + y) → ∃ g', F_X9_copy_141 (zl1 (Fb_X9_copy_116 (nI s) (nI i) (nI o) (nI j) (nI n)) n1) (nI s) (nI i) (nI o) (nI j) (nI n) (nI k) (nI x) (upA τ 0 30 g) = some (nI n, upA τ 0 30 g') ∧ (∀ x, x < n → g' (24 * o + j + x) = τ 0 30 (24 * s + i + x)) ∧ ∀ q, (∀ x, x < n → q ≠ 24 * o + j + x) → g' q = τ 0 30 q := by
      intro x hx hnx hst hsrc
      obtain ⟨g', e1, e2, e3⟩ := ih n1 (k + 1) (upd g (24 * o + j + x) (g (24 * s + i + x))) (by omega) (by omega) (by
        intro y hy hdy
        rcases (hst y hy).mp hdy with c | c
        · have : y ≠ x := fun e => by rw [e, hnx] at c; cases c
          rw [upd_n (by omega)]
          exact hd y hy c
        · subst c
          rw [upd_s]
          exact ho _ (fun y hy hdy => hsrc y hy hdy)) (by
        intro q hq
        rw [upd_n (hq x hx ((hst x hx).mpr (Or.inr rfl)))]
        exact ho q (fun y hy hdy => hq y hy ((hst y hy).mpr (Or.inl hdy))))
      refine ⟨g', ?_, e2, e3⟩
      generalize zl1 (Fb_X9_copy_116 (nI s) (nI i) (nI o) (nI j) (nI n)) n1 = K at e1 ⊢
      unfold F_X9_copy_141
      rw [li24, mulN, mulN, nI_add, nI_add, nI_add, nI_add, ckN (by omega) (by omega), ckN (by omega) (by omega), ixN (by omega), ixN (by omega), upA_s, up_upA, nmE, nmE, li1, nI_add]
      exact e1
    rw [zl1_s]
    generalize zl1 (Fb_X9_copy_116 (nI s) (nI i) (nI o) (nI j) (nI n)) n1 = K at step ⊢
    unfold Fb_X9_copy_116
    rw [if_neg (show ¬ nI n ≤ nI k by rw [leN (by omega) (by omega)]; omega)]
    by_cases c : j ≤ i
    · rw [if_pos (show nI j ≤ nI i by rw [leN (by omega) (by omega)]; exact c)]
      refine step k (by omega) ?_ ?_ ?_
      · unfold dnB; rw [if_pos c]; exact decide_eq_false (by omega)
      · intro y hy
        unfold dnB
        rw [if_pos c, if_pos c, decide_eq_true_eq, decide_eq_true_eq]
        omega
      · intro y hy hdy
        unfold dnB at hdy
        rw [if_pos c, decide_eq_true_eq] at hdy
        omega
    · rw [if_neg (show ¬ nI j ≤ nI i by rw [leN (by omega) (by omega)]; exact c), li1, subN (by omega), subN (by omega)]
      refine step (n - 1 - k) (by omega) ?_ ?_ ?_
      · unfold dnB; rw [if_neg c]; exact decide_eq_false (by omega)
      · intro y hy
        unfold dnB
        rw [if_neg c, if_neg c, decide_eq_true_eq, decide_eq_true_eq]
        omega
      · intro y hy hdy
        unfold dnB at hdy
        rw [if_neg c, decide_eq_true_eq] at hdy
        omega
theorem subI {n i : Nat} (hn : n < 2147483648) (hi : i < 2147483648) : (nI n - nI i).toInt = (n : Int) - (i : Int) := by
  rw [Int32.toInt_sub, nI_toInt (by omega), nI_toInt (by omega), Int.bmod_def]
  split <;> omega
theorem run_lt {n i m : Nat} (hn : n < 2147483648) (hi : i < 2147483648) (hm : m < 2147483648) : (nI n - nI i < nI m) = (n < i + m) := by
  apply propext
  rw [Int32.lt_iff_toInt_lt, subI hn hi, nI_toInt (by omega)]
  omega
theorem hasRun_b {s n : Nat} (hn : n ≤ 24) (h1 : σ (8 + s) 1 0 = nI n) (a b : Int32) : F_X4_hasRun (8 + s) a b σ = some (b2i (decide (¬ b < 0 ∧ ¬ a < 0 ∧ ¬ nI n - a < b)), σ) := by
  unfold F_X4_hasRun
  rw [h1]
  by_cases c1 : b < 0
  · rw [if_pos c1, decide_eq_false (fun x => x.1 c1)]; rfl
  · rw [if_neg c1]
    by_cases c2 : a < 0
    · rw [if_pos c2, decide_eq_false (fun x => x.2.1 c2)]; rfl
    · rw [if_neg c2]
      obtain ⟨i, hi, e⟩ := nI_of c2
      obtain ⟨m, hm, e'⟩ := nI_of c1
      subst e e'
      have h3 := run_lt (n := n) (i := i) (m := m) (by omega) hi hm
      by_cases c3 : m ≤ n
      · rw [if_neg (show ¬ nI n < nI m by rw [ltN (by omega) (by omega)]; omega), subN c3]
        by_cases c4 : i ≤ n - m
        · rw [if_neg (show ¬ nI (n - m) < nI i by rw [ltN (by omega) (by omega)]; omega), decide_eq_true ⟨c1, c2, by rw [h3]; omega⟩]; rfl
        · rw [if_pos (show nI (n - m) < nI i by rw [ltN (by omega) (by omega)]; omega), decide_eq_false (fun x => x.2.2 (by rw [h3]; omega))]; rfl
      · rw [if_pos (show nI n < nI m by rw [ltN (by omega) (by omega)]; omega), decide_eq_false (fun x => x.2.2 (by rw [h3]; omega))]; rfl
theorem o_copy (h : Inv σ τ) (a0 a1 a2 a3 a4 : Int32) : zst Inv (F_X8_copy a0 a1 a2 a3 a4 σ) (F_X9_copy a0 a1 a2 a3 a4 τ) := by
  have hS := Inv_SH h
  unfold F_X8_copy F_X9_copy F_X4_isMissing
  rw [X_isSheet, bdE, M_isSheet, bdE]
  cases hb : inB a0 4
  · rw [bf0, if_pos rfl, if_pos rfl]; exact err_b (j := 1) h (by decide)
  · rw [if_neg bt0, if_neg bt0, X_isSheet, bdE, M_isSheet, bdE]
    cases hb1 : inB a2 4
    · rw [bf0, if_pos rfl, if_pos rfl]; exact err_b (j := 1) h (by decide)
    · rw [if_neg bt0, if_neg bt0]
      obtain ⟨s, hs4, e⟩ := inB_t (by omega) hb
      obtain ⟨o, ho4, e'⟩ := inB_t (by omega) hb1
      subst e e'
      obtain ⟨b, n, q1, q2, q3, q4, q5, q6, q7⟩ := hS s hs4
      obtain ⟨b2, n2, r1, r2, r3, r4, r5, r6, r7⟩ := hS o ho4
      simp only [ckN hs4 (show 4 < 2147483648 by omega), ckN ho4 (show 4 < 2147483648 by omega), ixN (show s < 2147483648 by omega), ixN (show o < 2147483648 by omega), q3, q4, q6, r3, r4, r6]
      by_cases c : b = 0
      · have c' : nI b = 0 := by rw [c]; rfl
        rw [if_pos c', bdE, if_neg (show ¬ (1 : Int32) = 0 by decide), if_pos c']
        exact err_b (j := 6) h (by decide)
      · have c' : ¬ nI b = 0 := by rw [li0, eqN (by omega) (by omega)]; exact c
        rw [if_neg c', bdE, if_pos rfl, if_neg c', r3]
        by_cases d : b2 = 0
        · have d' : nI b2 = 0 := by rw [d]; rfl
          rw [if_pos d', bdE, if_neg (show ¬ (1 : Int32) = 0 by decide), if_pos d']
          exact err_b (j := 6) h (by decide)
        · have d' : ¬ nI b2 = 0 := by rw [li0, eqN (by omega) (by omega)]; exact d
          rw [if_neg d', bdE, if_pos rfl, if_neg d', q3, r3]
          by_cases f : nI b = nI b2
          · rw [if_pos f, if_pos f, hasRun_b q2 q5, bdE]
            by_cases t1 : a4 < 0
            · rw [if_pos t1, decide_eq_false (fun x => x.1 t1), bf0, if_pos rfl]
              exact err_b (j := 1) h (by decide)
            · rw [if_neg t1]
              by_cases t2 : a1 < 0
              · rw [if_pos t2, decide_eq_false (fun x => x.2.1 t2), bf0, if_pos rfl]
                exact err_b (j := 1) h (by decide)
              · rw [if_neg t2, hasRun_b r2 r5, bdE]
                by_cases t4 : nI n - a1 < a4
                · rw [decide_eq_false (fun x => x.2.2 t4), bf0, if_pos rfl, if_pos t4]
                  by_cases t3 : a3 < 0
                  · rw [if_pos t3]; exact err_b (j := 1) h (by decide)
                  · rw [if_neg t3]; exact err_b (j := 1) h (by decide)
                · rw [decide_eq_true ⟨t1, t2, t4⟩, if_neg bt0, if_neg t4]
                  by_cases t3 : a3 < 0
                  · rw [if_pos t3, decide_eq_false (fun x => x.2.1 t3), bf0, if_pos rfl]
                    exact err_b (j := 1) h (by decide)
                  · rw [if_neg t3]
                    by_cases t5 : nI n2 - a3 < a4
                    · rw [decide_eq_false (fun x => x.2.2 t5), bf0, if_pos rfl, if_neg (fun x => Int32.lt_irrefl (Int32.lt_of_le_of_lt x t5))]
                      exact err_b (j := 1) h (by decide)
                    · rw [decide_eq_true ⟨t1, t3, t5⟩, if_neg bt0, if_pos (by rw [i_nlt] at t5; exact t5)]
                      obtain ⟨m, hm, e4⟩ := nI_of t1
                      obtain ⟨i, hi, e1⟩ := nI_of t2
                      obtain ⟨j, hj, e3⟩ := nI_of t3
                      subst e1 e3 e4
                      rw [run_lt (by omega) hi hm] at t4
                      rw [run_lt (by omega) hj hm] at t5
                      obtain ⟨g', x1, x2, x3⟩ := copy_l (τ := τ) (s := s) (o := o) (i := i) (j := j) (n := m) hs4 ho4 (by omega) (by omega) m zF 0 (τ 0 30) (by omega) (zfl (by omega)) (by
                        intro x hx hd
                        unfold dnB at hd
                        split at hd
                        · have := of_decide_eq_true hd; omega
                        · have := of_decide_eq_true hd; omega) (fun _ _ => rfl)
                      rw [upA_self] at x1
                      unfold F_X9_copy_116
                      have x1' : zl1 (Fb_X9_copy_116 (nI s) (nI i) (nI o) (nI j) (nI m)) zF 0 τ = _ := x1
                      rw [ckcN (by omega) (by omega) (by omega) (by omega), nmE, x1']
                      refine ⟨_, _, _, rfl, rfl, Inv_sh h (fun c hc => ?_) (fun f hf => upA_f (by omega)) ?_⟩
                      · unfold cpyA; rw [upA_c (by omega)]
                      · intro q hq
                        rw [upA_f (show 28 ≠ 30 by decide), upA_f (show 29 ≠ 30 by decide), upA_s]
                        unfold cpyA va_cpy
                        rw [ixN (by omega), ixN (by omega), ixN (by omega)]
                        by_cases e : q = o
                        · subst e
                          refine ⟨b2, n2, r1, r2, by rw [upA_f (by decide)]; exact r3, r4, by rw [upA_f (by decide)]; exact r5, r6, fun y hy => ?_⟩
                          rw [upA_s]
                          by_cases hin : j ≤ y ∧ y < j + m
                          · rw [if_pos hin, q7 _ (by omega)]
                            have := x2 (y - j) (by omega)
                            rw [show 24 * q + j + (y - j) = 24 * q + y by omega] at this
                            rw [this, show 24 * s + (i + (y - j)) = 24 * s + i + (y - j) by omega]
                          · rw [if_neg hin, r7 y hy, x3 _ (fun x hx => by omega)]
                        · obtain ⟨b3, n3, u1, u2, u3, u4, u5, u6, u7⟩ := hS q hq
                          rw [upA_c (show 8 + q ≠ 8 + o by omega)]
                          refine ⟨b3, n3, u1, u2, u3, u4, u5, u6, fun y hy => ?_⟩
                          rw [x3 _ (fun x hx => by omega)]
                          exact u7 y hy
          · rw [if_neg f, if_neg f]; exact err_b (j := 5) h (by decide)
theorem degrees_b {s w b m : Nat} (hw : nwf N) (hs4 : s < 4) (hwt : w < 3) (hb0 : b ≠ 0) (hbl : b < 2147483648) (hm1 : m ≤ 24) (hm2 : m ≤ nn N) : ∀ (d n1 n2 i : Nat) (σ τ : S3), i + d = m → d < n1 → d < n2 → Inv σ τ → RX 1 N σ → RM N τ → σ (8 + s) 0 0 = nI b → ∃ σ' τ', zl1 (Fb_X8_degrees_64 (nI s) (nI w) (nI m)) n1 (nI i) σ = some (nI m, σ') ∧ zl1 (Fb_X9_degrees_68 (nI s) (nI w) (nI m)) n2 (nI i) τ = some (nI m, τ') ∧ Inv σ' τ' := by
  intro d
  induction d with
  | zero =>
    intro n1 n2 i σ τ hi h1 h2 h hX hM hb
    obtain ⟨n1, rfl⟩ : ∃ m, n1 = m + 1 := ⟨n1 - 1, by omega⟩
    obtain ⟨n2, rfl⟩ : ∃ m, n2 = m + 1 := ⟨n2 - 1, by omega⟩
    have e : i = m := by omega
    subst e
    refine ⟨σ, τ, ?_, ?_, h⟩
    · rw [zl1_s]
      generalize zl1 (Fb_X8_degrees_64 (nI s) (nI w) (nI i)) n1 = K
      unfold Fb_X8_degrees_64
      rw [if_pos (Int32.le_refl _)]
    · rw [zl1_s]
      generalize zl1 (Fb_X9_degrees_68 (nI s) (nI w) (nI i)) n2 = K
      unfold Fb_X9_degrees_68
      rw [if_pos (Int32.le_refl _)]
  | succ d ih =>
    intro n1 n2 i σ τ hi h1 h2 h hX hM hb
    obtain ⟨n1, rfl⟩ : ∃ m, n1 = m + 1 := ⟨n1 - 1, by omega⟩
    obtain ⟨n2, rfl⟩ : ∃ m, n2 = m + 1 := ⟨n2 - 1, by omega⟩
    obtain ⟨σ1, τ1, x1, x2, x3, x4, x5, x6⟩ := lay_b h hs4 (show i < 24 by omega) hb0 hb hbl (nI (dgr N i w))
    obtain ⟨σ', τ', y1, y2, y3⟩ := ih n1 n2 (i + 1) σ1 τ1 (by omega) (by omega) (by omega) x3 (RX_c (x4 1 (by omega)) hX) (RM_fr hM (fun f _ _ => x6 f (by omega))) (by rw [x5 0 (by decide)]; exact hb)
    have hnle : ¬ nI m ≤ nI i := by rw [leN (by omega) (by omega)]; omega
    refine ⟨σ', τ', ?_, ?_, y3⟩
    · rw [zl1_s]
      generalize zl1 (Fb_X8_degrees_64 (nI s) (nI w) (nI m)) n1 = K at y1 ⊢
      unfold Fb_X8_degrees_64
      rw [if_neg hnle, ckN hs4 (by omega), X_degree hw hX (by omega) hwt, bdE, ixN (by omega), x1, bdE, nmE, li1, nI_add]
      exact y1
    · rw [zl1_s]
      generalize zl1 (Fb_X9_degrees_68 (nI s) (nI w) (nI m)) n2 = K at y2 ⊢
      unfold Fb_X9_degrees_68
      rw [if_neg hnle, M_degree hw hM (by omega) hwt, bdE, x2, bdE, nmE, li1, nI_add]
      exact y2
theorem o_degrees (h : Inv σ τ) (a0 a1 : Int32) : zst Inv (F_X8_degrees a0 a1 σ) (F_X9_degrees a0 a1 τ) := by
  have hi := h
  have hS := Inv_SH h
  obtain ⟨N, L, B, ⟨hw, hX, hM, _⟩, _⟩ := h
  have hn := hw.2.1
  unfold F_X8_degrees F_X9_degrees F_X4_isMissing
  rw [X_isSheet, bdE, M_isSheet, bdE]
  cases hb : inB a0 4
  · rw [bf0, if_pos rfl, if_pos rfl]; exact err_b (j := 1) hi (by decide)
  · rw [if_neg bt0, if_neg bt0, show (2 : Int32) = nI 2 from rfl, ifr _ (by omega), M_in0 _ (by omega), bdE]
    cases hb2 : inB a1 (2 + 1)
    · rw [if_neg Bool.false_ne_true, bf0, if_pos rfl]; exact err_b (j := 1) hi (by decide)
    · rw [if_pos rfl, if_neg bt0]
      obtain ⟨s, hs4, e⟩ := inB_t (by omega) hb
      obtain ⟨w, hwt, e'⟩ := inB_t (by omega) hb2
      subst e e'
      obtain ⟨b, n, q1, q2, q3, q4, q5, q6, q7⟩ := hS s hs4
      simp only [ckN hs4 (show 4 < 2147483648 by omega), ixN (show s < 2147483648 by omega), q3, q4, q6, hM.1, nmE]
      by_cases c : b = 0
      · have c' : nI b = 0 := by rw [c]; rfl
        rw [if_pos c', bdE, if_neg (show ¬ (1 : Int32) = 0 by decide), if_pos c']
        exact err_b (j := 6) hi (by decide)
      · have c' : ¬ nI b = 0 := by rw [li0, eqN (by omega) (by omega)]; exact c
        rw [if_neg c', bdE, if_pos rfl, if_neg c', hX.1, q5]
        have main : ∀ m, m ≤ 24 → m ≤ nn N → zst Inv (F_X8_degrees_64 (nI s) (nI w) (nI m) zF 0 σ) (F_X9_degrees_68 (nI s) (nI w) (nI m) zF 0 τ) := by
          intro m h1 h2
          obtain ⟨σ', τ', y1, y2, y3⟩ := degrees_b (N := N) (s := s) (w := w) (b := b) (m := m) hw hs4 (by omega) c (by omega) h1 h2 m zF zF 0 σ τ (by omega) (zfl (by omega)) (zfl (by omega)) hi hX hM q3
          exact ⟨_, _, _, y1, y2, y3⟩
        by_cases f : nn N ≤ n
        · rw [if_pos (show nI (nn N) ≤ nI n by rw [leN (by omega) (by omega)]; exact f)]
          by_cases f2 : nn N < n
          · rw [if_pos (show nI (nn N) < nI n by rw [ltN (by omega) (by omega)]; exact f2)]
            exact main (nn N) (by omega) (by omega)
          · rw [if_neg (show ¬ nI (nn N) < nI n by rw [ltN (by omega) (by omega)]; exact f2), show n = nn N by omega]
            exact main (nn N) (by omega) (by omega)
        · rw [if_neg (show ¬ nI (nn N) ≤ nI n by rw [leN (by omega) (by omega)]; exact f), if_neg (show ¬ nI (nn N) < nI n by rw [ltN (by omega) (by omega)]; omega)]
          exact main n (by omega) (by omega)
end
