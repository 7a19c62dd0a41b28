/-! PURE: pairings -/
def en (N : Nt) (l : Nat) : Nat := 2 ^ nf N l ||| 2 ^ nt N l
def sb (N : Nt) (l P : Nat) : Bool := P.testBit (nf N l) && P.testBit (nt N l)
theorem en_tb (N : Nt) (l j : Nat) : (en N l).testBit j = (decide (nf N l = j) || decide (nt N l = j)) := by unfold en; rw [Nat.testBit_or, Nat.testBit_two_pow, Nat.testBit_two_pow]
theorem en_lt {N : Nt} (hw : nwf N) {l : Nat} (hl : l < nk N) : en N l < 1024 := by
  have := hw.2.2.2 l hl
  have hn := hw.2.1
  exact or_lt (m := 10) (p2_lt (by omega)) (p2_lt (by omega))
theorem sb_and {N : Nt} {l P : Nat} : (P &&& en N l = en N l) = (sb N l P = true) := by
  apply propext
  constructor
  · intro h
    have h1 := congrArg (fun x => x.testBit (nf N l)) h
    have h2 := congrArg (fun x => x.testBit (nt N l)) h
    simp only [Nat.testBit_and, en_tb] at h1 h2
    unfold sb
    simp at h1 h2 ⊢
    exact ⟨h1, h2⟩
  · intro h
    unfold sb at h
    simp at h
    apply Nat.eq_of_testBit_eq
    intro j
    rw [Nat.testBit_and, en_tb]
    by_cases h1 : nf N l = j
    · subst h1; simp [h.1]
    · by_cases h2 : nt N l = j
      · subst h2; simp [h.2]
      · simp [h1, h2]
theorem sb_dif {N : Nt} {l P : Nat} : (dif (en N l) P = 0) = (sb N l P = true) := by
  rw [← sb_and]
  apply propext
  constructor
  · intro h
    apply Nat.eq_of_testBit_eq
    intro j
    have := congrArg (fun x => x.testBit j) h
    simp only [dif_tb, Nat.zero_testBit] at this
    rw [Nat.testBit_and]
    cases h1 : (en N l).testBit j <;> cases h2 : P.testBit j <;> simp_all
  · intro h
    apply Nat.eq_of_testBit_eq
    intro j
    have := congrArg (fun x => x.testBit j) h
    simp only [Nat.testBit_and] at this
    rw [dif_tb, Nat.zero_testBit]
    cases h1 : (en N l).testBit j <;> cases h2 : P.testBit j <;> simp_all
def mm (N : Nt) : Nat → Nat → Nat
  | 0, _ => 0
  | i + 1, P => if sb N i P then max (1 + mm N i (dif P (en N i))) (mm N i P) else mm N i P
def mt (N : Nt) : Nat → Nat → Nat → Bool
  | 0, _, _ => true
  | i + 1, P, U => if U.testBit i then sb N i P && mt N i (dif P (en N i)) U else mt N i P U
def lst (N : Nt) : Nat → Nat → Nat
  | 0, _ => 0
  | i + 1, P => if mm N (i + 1) P ≤ mm N i P then lst N i P else 2 ^ i ||| lst N i (dif P (en N i))
def un (N : Nt) (U : Nat) : Nat → Nat
  | 0 => 0
  | i + 1 => if U.testBit i then un N U i ||| en N i else un N U i
def av (N : Nt) (P U : Nat) : Nat → Bool
  | 0 => true
  | i + 1 => av N P U i && (!U.testBit i || (sb N i P && !(un N U i).testBit (nf N i) && !(un N U i).testBit (nt N i)))
theorem pc_cl {A B j : Nat} (ha : A.testBit j = true) (hb : B.testBit j = false) (h : ∀ i, i ≠ j → B.testBit i = A.testBit i) : ∀ m, pc A m = pc B m + (if j < m then 1 else 0)
  | 0 => by simp [pc]
  | m + 1 => by
    have ih := pc_cl ha hb h m
    rw [pc, pc, ih]
    by_cases e : j = m
    · subst e
      rw [ha, hb, if_neg (Nat.lt_irrefl _), if_pos (Nat.lt_succ_self _)]
      rfl
    · rw [h m (Ne.symm e)]
      by_cases h1 : j < m
      · rw [if_pos h1, if_pos (show j < m + 1 by omega)]; omega
      · rw [if_neg h1, if_neg (show ¬ j < m + 1 by omega)]; omega
theorem pc_en {N : Nt} (hw : nwf N) {l P : Nat} (hl : l < nk N) (h : sb N l P = true) : pc P 12 = pc (dif P (en N l)) 12 + 2 := by
  have h0 := hw.2.2.2 l hl
  have hn := hw.2.1
  unfold sb at h
  simp at h
  have e1 := pc_cl (A := P) (B := dif P (2 ^ nf N l)) (j := nf N l) h.1 (by rw [dif_tb, Nat.testBit_two_pow_self]; simp) (fun i hi => by rw [dif_tb, Nat.testBit_two_pow]; simp [Ne.symm hi]) 12
  have e2 := pc_cl (A := dif P (2 ^ nf N l)) (B := dif P (en N l)) (j := nt N l) (by rw [dif_tb, Nat.testBit_two_pow, h.2]; simp [h0.2.2.1]) (by rw [dif_tb, en_tb]; simp) (fun i hi => by rw [dif_tb, dif_tb, en_tb, Nat.testBit_two_pow]; simp [Ne.symm hi]) 12
  rw [if_pos (by omega)] at e1 e2
  omega
theorem mm_le {N : Nt} (hw : nwf N) : ∀ i P, i ≤ nk N → 2 * mm N i P ≤ pc P 12
  | 0, P, _ => by simp [mm]
  | i + 1, P, hi => by
    rw [mm]
    have h1 := mm_le hw i P (by omega)
    by_cases h : sb N i P = true
    · have h2 := mm_le hw i (dif P (en N i)) (by omega)
      have h3 := pc_en hw (show i < nk N by omega) h
      rw [if_pos h]
      omega
    · rw [if_neg h]; exact h1
theorem mm_s (N : Nt) (i P : Nat) : mm N i P ≤ mm N (i + 1) P := by
  rw [mm]
  split <;> omega
theorem dif_lt {P m : Nat} (h : P < m) (e : Nat) : dif P e < m := Nat.lt_of_le_of_lt (dif_le P e) h
theorem dv2 : ∀ a, a < 13 → nI a / nI 2 = nI (a / 2) := by decide +kernel
section
variable {c : Nat} {N : Nt} {σ : S3}
theorem X_endsAsSet (hw : nwf N) (h : RX c N σ) {l : Nat} (hl : l < nk N) : F_X2_endsAsSet c (nI l) σ = some (nI (en N l), σ) := by
  have hk := hw.2.2.1
  have h0 := hw.2.2.2 l hl
  have hn := hw.2.1
  have h2 := h.2.2.1 l hl
  unfold F_X2_endsAsSet
  simp (disch := omega) only [ckN, ixN, nI_add, subN, mulN, eqN, leN, ltN, bdE, nmE, hasN, shl1, orN, andN, b2i_0, b2i_1, ↓reduceIte, Nat.reduceEqDiff, Nat.reduceLeDiff, li0, li1, li2, li3, li4, li5, li6, li7, li8, li9, li10, li12, li13, li15, li16, li20, li24, li32, li60, li63, li255, li300, li511, li1000, li1023, li4095, li8191, h2.1, h2.2.1]
  rfl
theorem X_pairsAmong (hw : nwf N) (h : RX c N σ) : ∀ k i P, i ≤ nk N → i < k → P < 4096 → zl2 (F_X2_pairsAmong_0 c) k (nI i) (nI P) σ = some (nI (mm N i P), σ) := by
  have hk := hw.2.2.1
  intro k
  induction k with
  | zero => intro i P _ h0; exact absurd h0 (by omega)
  | succ k ih =>
    intro i P hi hik hP
    rw [zl2_s]
    generalize zl2 (F_X2_pairsAmong_0 c) k = Rc at ih ⊢
    unfold F_X2_pairsAmong_0
    cases i with
    | zero => simp (disch := omega) only [ckN, ixN, nI_add, subN, mulN, eqN, leN, ltN, bdE, nmE, hasN, shl1, orN, andN, b2i_0, b2i_1, ↓reduceIte, Nat.reduceEqDiff, Nat.reduceLeDiff, li0, li1, li2, li3, li4, li5, li6, li7, li8, li9, li10, li12, li13, li15, li16, li20, li24, li32, li60, li63, li255, li300, li511, li1000, li1023, li4095, li8191, show 0 < 1 by omega]; rfl
    | succ j =>
      have hjl : j < nk N := by omega
      have hml := mm_le hw (j + 1) P hi
      have hmj := mm_le hw j P (by omega)
      have hpl := pc_le P 12
      have hel := en_lt hw hjl
      have hdl := dif_lt hP (en N j)
      simp (disch := omega) only [ckN, ixN, nI_add, subN, mulN, eqN, leN, ltN, bdE, nmE, hasN, shl1, orN, andN, b2i_0, b2i_1, ↓reduceIte, Nat.reduceEqDiff, Nat.reduceLeDiff, li0, li1, li2, li3, li4, li5, li6, li7, li8, li9, li10, li12, li13, li15, li16, li20, li24, li32, li60, li63, li255, li300, li511, li1000, li1023, li4095, li8191, h.2.1, show ¬ (j + 1 < 1) by omega, show ¬ (nk N < j + 1) by omega, X_bitCount hP, Nat.add_sub_cancel, X_endsAsSet hw h hjl, m1]
      by_cases h2 : 2 ≤ pc P 12
      · rw [if_pos h2]
        have hPe : P &&& en N j < 2147483648 := Nat.lt_of_le_of_lt Nat.and_le_left (by omega)
        simp (disch := omega) only [ckN, ixN, nI_add, subN, mulN, eqN, leN, ltN, bdE, nmE, hasN, shl1, orN, andN, b2i_0, b2i_1, ↓reduceIte, Nat.reduceEqDiff, Nat.reduceLeDiff, li0, li1, li2, li3, li4, li5, li6, li7, li8, li9, li10, li12, li13, li15, li16, li20, li24, li32, li60, li63, li255, li300, li511, li1000, li1023, li4095, li8191, sb_and, difN, ih j (dif P (en N j)) (by omega) (by omega) hdl, ih j P (by omega) (by omega) hP, dv2 (pc P 12) (show pc P 12 < 13 by omega), X_bitCount hP]
        by_cases hs : sb N j P = true
        · have hmd := mm_le hw j (dif P (en N j)) (by omega)
          have hpe := pc_en hw hjl hs
          have hme : mm N (j + 1) P = max (1 + mm N j (dif P (en N j))) (mm N j P) := by rw [mm, if_pos hs]
          rw [if_pos hs]
          unfold F_X2_pairsAmong_79
          by_cases he : 1 + mm N j (dif P (en N j)) = pc P 12 / 2
          · simp (disch := omega) only [ckN, ixN, nI_add, subN, mulN, eqN, leN, ltN, bdE, nmE, hasN, shl1, orN, andN, b2i_0, b2i_1, ↓reduceIte, Nat.reduceEqDiff, Nat.reduceLeDiff, li0, li1, li2, li3, li4, li5, li6, li7, li8, li9, li10, li12, li13, li15, li16, li20, li24, li32, li60, li63, li255, li300, li511, li1000, li1023, li4095, li8191, he]
            rw [hme]
            congr 3
            omega
          · simp (disch := omega) only [ckN, ixN, nI_add, subN, mulN, eqN, leN, ltN, bdE, nmE, hasN, shl1, orN, andN, b2i_0, b2i_1, ↓reduceIte, Nat.reduceEqDiff, Nat.reduceLeDiff, li0, li1, li2, li3, li4, li5, li6, li7, li8, li9, li10, li12, li13, li15, li16, li20, li24, li32, li60, li63, li255, li300, li511, li1000, li1023, li4095, li8191, he, Nat.add_sub_cancel, ih j P (by omega) (by omega) hP]
            rw [hme]
            by_cases hlt : 1 + mm N j (dif P (en N j)) < mm N j P
            · rw [if_pos hlt]; congr 3; omega
            · rw [if_neg hlt]; congr 3; omega
        · rw [if_neg hs, mm, if_neg hs]
      · rw [if_neg h2]
        congr 3
        omega
theorem X_mostPairs (hw : nwf N) (h : RX c N σ) {P : Nat} (hP : P < 4096) : F_X2_mostPairs c (nI P) σ = some (nI (mm N (nk N) P), σ) := by
  have hk := hw.2.2.1
  unfold F_X2_mostPairs F_X2_pairsAmong
  rw [h.2.1, X_pairsAmong hw h 20 (nk N) P (Nat.le_refl _) (by omega) hP, bdE]
theorem eL_m {i : Nat} : nI i + -nI 1 = eL i := by
  unfold eL
  by_cases h0 : i = 0
  · subst h0; rfl
  · rw [if_neg h0, ← subN (by omega)]
    exact (Int32.sub_eq_add_neg _ _).symm
theorem lst0 : ∀ i P, mm N i P = 0 → lst N i P = 0
  | 0, _, _ => rfl
  | i + 1, P, h => by
    have := mm_s N i P
    rw [lst, if_pos (by omega)]
    exact lst0 i P (by omega)
theorem X_leastPairing (hw : nwf N) (h : RX c N σ) {P : Nat} (hP : P < 4096) : F_X2_leastPairing c (nI P) σ = some (nI (lst N (nk N) P), σ) := by
  have hk := hw.2.2.1
  have lp : ∀ (i n acc P : Nat), i ≤ nk N → i < n → P < 4096 → zl4 (Fb_X2_leastPairing_23 c) n (nI acc) (nI P) (nI (mm N i P)) (eL i) σ = some (nI (acc ||| lst N i P), σ) := by
    intro i
    induction i with
    | zero =>
      intro n acc P _ hn hP
      obtain ⟨n, rfl⟩ : ∃ m, n = m + 1 := ⟨n - 1, by omega⟩
      rw [zl4_s]
      generalize zl4 (Fb_X2_leastPairing_23 c) n = K
      unfold Fb_X2_leastPairing_23
      rw [if_pos (show eL 0 < 0 by decide), lst, Nat.or_zero]
    | succ i ih =>
      intro n acc P hi hn hP
      obtain ⟨n, rfl⟩ : ∃ m, n = m + 1 := ⟨n - 1, by omega⟩
      have ihn := ih n
      have hml := mm_le hw (i + 1) P hi
      have hmj := mm_le hw i P (by omega)
      have hpl := pc_le P 12
      have hs := mm_s N i P
      rw [zl4_s]
      generalize zl4 (Fb_X2_leastPairing_23 c) n = K at ihn ⊢
      unfold Fb_X2_leastPairing_23 F_X2_pairsAmong
      have e1 : eL (i + 1) = nI i := rfl
      rw [e1]
      simp (disch := omega) only [ckN, ixN, nI_add, subN, mulN, eqN, leN, ltN, bdE, nmE, hasN, shl1, orN, andN, b2i_0, b2i_1, ↓reduceIte, Nat.reduceEqDiff, Nat.reduceLeDiff, li0, li1, li2, li3, li4, li5, li6, li7, li8, li9, li10, li12, li13, li15, li16, li20, li24, li32, li60, li63, li255, li300, li511, li1000, li1023, li4095, li8191, X_pairsAmong hw h 20 i P (by omega) (by omega) hP, X_endsAsSet hw h (show i < nk N by omega), show ¬ i < 0 by omega, m1, eL_m, difN]
      by_cases h0 : mm N (i + 1) P ≤ 0
      · rw [if_pos h0, lst0 (i + 1) P (by omega), Nat.or_zero]
      · rw [if_neg h0]
        by_cases h1 : mm N (i + 1) P ≤ mm N i P
        · rw [if_pos h1, lst, if_pos h1, show mm N (i + 1) P = mm N i P by omega]
          exact ihn acc P (by omega) (by omega) hP
        · have hsb : sb N i P = true := by
            rw [mm] at h1
            by_cases hs : sb N i P = true
            · exact hs
            · rw [if_neg hs] at h1; omega
          have hme : mm N (i + 1) P = max (1 + mm N i (dif P (en N i))) (mm N i P) := by rw [mm, if_pos hsb]
          have hmx : mm N i (dif P (en N i)) = mm N (i + 1) P - 1 := by omega
          have hed : eL (mm N (i + 1) P) = nI (mm N i (dif P (en N i))) := by unfold eL; rw [if_neg (by omega), hmx]
          rw [if_neg h1, lst, if_neg h1, hed, ← Nat.or_assoc]
          exact ihn (acc ||| 2 ^ i) (dif P (en N i)) (by omega) (by omega) (dif_lt hP _)
  unfold F_X2_leastPairing F_X2_leastPairing_23 F_X2_pairsAmong
  rw [h.2.1, X_pairsAmong hw h 20 (nk N) P (Nat.le_refl _) (by omega) hP, bdE, nmE, h.2.1]
  have e : nI (nk N) - 1 = eL (nk N) := by
    rw [← eL_m]
    exact Int32.sub_eq_add_neg _ _
  have := lp (nk N) zF 0 P (Nat.le_refl _) (zfl (by omega)) hP
  rw [Nat.zero_or] at this
  rw [e]
  exact this
end
theorem mt_c {N : Nt} {U V : Nat} : ∀ i P, (∀ j, j < i → U.testBit j = V.testBit j) → mt N i P U = mt N i P V
  | 0, _, _ => rfl
  | i + 1, P, h => by
    rw [mt, mt, h i (by omega), mt_c i P (fun j hj => h j (by omega)), mt_c i (dif P (en N i)) (fun j hj => h j (by omega))]
theorem pc_c {U V : Nat} : ∀ i, (∀ j, j < i → U.testBit j = V.testBit j) → pc U i = pc V i
  | 0, _ => rfl
  | i + 1, h => by rw [pc, pc, h i (by omega), pc_c i (fun j hj => h j (by omega))]
theorem mt_le {N : Nt} {U : Nat} : ∀ i P, mt N i P U = true → pc U i ≤ mm N i P
  | 0, _, _ => Nat.le_refl _
  | i + 1, P, h => by
    rw [mt] at h
    rw [pc, mm]
    cases hU : U.testBit i
    · rw [hU] at h
      simp at h
      have := mt_le i P h
      simp
      split <;> omega
    · rw [hU] at h
      simp at h
      have := mt_le i _ h.2
      rw [if_pos h.1]
      simp
      omega
theorem lt_p {U i : Nat} (h : U < 2 ^ (i + 1)) (hb : U.testBit i = false) : U < 2 ^ i := by
  apply Nat.lt_pow_two_of_testBit
  intro j hj
  by_cases e : j = i
  · rw [e, hb]
  · exact Nat.testBit_lt_two_pow (Nat.lt_of_lt_of_le h (Nat.pow_le_pow_right (by omega) (by omega)))
theorem lst_spec {N : Nt} : ∀ i P, lst N i P < 2 ^ i ∧ mt N i P (lst N i P) = true ∧ pc (lst N i P) i = mm N i P ∧ ∀ U, U < 2 ^ i → mt N i P U = true → pc U i = mm N i P → lst N i P ≤ U
  | 0, P => ⟨by simp [lst], rfl, rfl, fun U _ _ _ => Nat.zero_le U⟩
  | i + 1, P => by
    have hs := mm_s N i P
    rw [lst]
    by_cases h1 : mm N (i + 1) P ≤ mm N i P
    · obtain ⟨a, b, c, d⟩ := lst_spec (N := N) i P
      rw [if_pos h1]
      have hb := Nat.testBit_lt_two_pow a
      refine ⟨Nat.lt_of_lt_of_le a (Nat.pow_le_pow_right (by omega) (by omega)), ?_, ?_, ?_⟩
      · rw [mt, hb]; simp; exact b
      · rw [pc, hb]; simp; omega
      · intro U hU hm hp
        cases hUb : U.testBit i
        · rw [mt, hUb] at hm
          rw [pc, hUb] at hp
          simp at hm hp
          exact d U (lt_p hU hUb) hm (by omega)
        · have := Nat.ge_two_pow_of_testBit hUb
          omega
    · obtain ⟨a, b, c, d⟩ := lst_spec (N := N) i (dif P (en N i))
      rw [if_neg h1]
      have hsb : sb N i P = true := by
        rw [mm] at h1
        by_cases hs : sb N i P = true
        · exact hs
        · rw [if_neg hs] at h1; omega
      have hme : mm N (i + 1) P = max (1 + mm N i (dif P (en N i))) (mm N i P) := by rw [mm, if_pos hsb]
      have hor : 2 ^ i ||| lst N i (dif P (en N i)) = 2 ^ i + lst N i (dif P (en N i)) := by
        have := Nat.two_pow_add_eq_or_of_lt a 1
        rw [Nat.mul_one] at this
        exact this.symm
      have hbt : (2 ^ i ||| lst N i (dif P (en N i))).testBit i = true := by rw [Nat.testBit_or, Nat.testBit_two_pow_self]; rfl
      have hlo : ∀ j, j < i → (2 ^ i ||| lst N i (dif P (en N i))).testBit j = (lst N i (dif P (en N i))).testBit j := by
        intro j hj
        rw [Nat.testBit_or, Nat.testBit_two_pow]
        simp
        omega
      refine ⟨?_, ?_, ?_, ?_⟩
      · rw [hor, Nat.pow_succ]; omega
      · rw [mt, hbt]; simp [hsb]; rw [mt_c _ _ hlo]; exact b
      · rw [pc, hbt, pc_c _ hlo, c]; simp; omega
      · intro U hU hm hp
        cases hUb : U.testBit i
        · rw [mt, hUb] at hm
          rw [pc, hUb] at hp
          simp at hm hp
          have := mt_le i P hm
          omega
        · rw [mt, hUb] at hm
          rw [pc, hUb] at hp
          simp at hm hp
          have hge := Nat.ge_two_pow_of_testBit hUb
          have hlt : U - 2 ^ i < 2 ^ i := by rw [Nat.pow_succ] at hU; omega
          have heq : U = 2 ^ i ||| (U - 2 ^ i) := by
            have := Nat.two_pow_add_eq_or_of_lt hlt 1
            rw [Nat.mul_one] at this
            omega
          have hlo2 : ∀ j, j < i → U.testBit j = (U - 2 ^ i).testBit j := by
            intro j hj
            have := congrArg (fun x => x.testBit j) heq
            simp only [Nat.testBit_or, Nat.testBit_two_pow] at this
            rw [this]
            simp
            omega
          have := d (U - 2 ^ i) hlt (by rw [← mt_c _ _ hlo2]; exact hm.2) (by rw [← pc_c _ hlo2]; omega)
          rw [hor]
          omega
theorem av_s {N : Nt} {P U i : Nat} : av N P U (i + 1) = true ↔ av N P U i = true ∧ (U.testBit i = true → sb N i P = true ∧ (un N U i).testBit (nf N i) = false ∧ (un N U i).testBit (nt N i) = false) := by
  rw [av, Bool.and_eq_true]
  cases U.testBit i <;> simp [and_assoc]
theorem av_dif {N : Nt} {P U l : Nat} : ∀ i, av N (dif P (en N l)) U i = true ↔ av N P U i = true ∧ (un N U i).testBit (nf N l) = false ∧ (un N U i).testBit (nt N l) = false
  | 0 => by simp [av, un]
  | i + 1 => by
    rw [av_s, av_s, av_dif i, un]
    cases hU : U.testBit i
    · simp
    · have hsb : sb N i (dif P (en N l)) = true ↔ sb N i P = true ∧ ¬ nf N l = nf N i ∧ ¬ nt N l = nf N i ∧ ¬ nf N l = nt N i ∧ ¬ nt N l = nt N i := by
        unfold sb
        rw [dif_tb, dif_tb, en_tb, en_tb]
        simp
        constructor
        · rintro ⟨⟨a, b, c⟩, d, e, f⟩; exact ⟨⟨a, d⟩, b, c, e, f⟩
        · rintro ⟨⟨a, d⟩, b, c, e, f⟩; exact ⟨⟨a, b, c⟩, d, e, f⟩
      rw [hsb]
      simp only [if_true, Nat.testBit_or, en_tb, Bool.or_eq_false_iff, decide_eq_false_iff_not, forall_const]
      constructor
      · rintro ⟨⟨a, b, c⟩, ⟨d, e1, e2, e3, e4⟩, f, g⟩
        exact ⟨⟨a, d, f, g⟩, ⟨b, fun h => e1 h.symm, fun h => e3 h.symm⟩, c, fun h => e2 h.symm, fun h => e4 h.symm⟩
      · rintro ⟨⟨a, d, f, g⟩, ⟨b, e1, e3⟩, c, e2, e4⟩
        exact ⟨⟨a, b, c⟩, ⟨d, fun h => e1 h.symm, fun h => e2 h.symm, fun h => e3 h.symm, fun h => e4 h.symm⟩, f, g⟩
theorem mt_av {N : Nt} {U : Nat} : ∀ i P, mt N i P U = true ↔ av N P U i = true
  | 0, _ => by simp [mt, av]
  | i + 1, P => by
    rw [mt, av_s]
    cases hU : U.testBit i
    · simp [mt_av i P]
    · simp only [if_true, Bool.and_eq_true, mt_av i (dif P (en N i)), av_dif i, forall_const]
      constructor
      · rintro ⟨a, b, c, d⟩; exact ⟨b, a, c, d⟩
      · rintro ⟨b, a, c, d⟩; exact ⟨a, b, c, d⟩
theorem av_mono {N : Nt} {P U i : Nat} : ∀ d, av N P U (i + d) = true → av N P U i = true
  | 0, h => h
  | d + 1, h => av_mono d (av_s.mp h).1
