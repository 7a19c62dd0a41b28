/-! PURE: how many bits, the least one, the greatest one -/
def pc (s : Nat) : Nat → Nat
  | 0 => 0
  | m + 1 => pc s m + (s.testBit m).toNat
def lob (s : Nat) : Nat → Nat
  | 0 => 0
  | m + 1 => if s.testBit 0 then 0 else 1 + lob (s / 2) m
def hib (s : Nat) : Nat → Nat
  | 0 => 0
  | m + 1 => if s.testBit m then m + 1 else hib s m
abbrev ush (v k : Int32) : Int32 := (Int32.toUInt32 v >>> (Int32.toUInt32 k &&& Int32.toUInt32 31)).toInt32
theorem by64 {P : Nat → Prop} (h : ∀ a, a < 64 → ∀ b, b < 64 → P (64 * a + b)) {s : Nat} (hs : s < 4096) : P s := by
  have := h (s / 64) (by omega) (s % 64) (by omega)
  rw [show 64 * (s / 64) + s % 64 = s by omega] at this
  exact this
theorem pc_drop_ : ∀ a, a < 64 → ∀ b, b < 64 → (64 * a + b = 0 ∨ (pc ((64 * a + b) &&& (64 * a + b - 1)) 12 + 1 = pc (64 * a + b) 12 ∧ (64 * a + b) &&& (64 * a + b - 1) < 64 * a + b)) := by decide +kernel
theorem pc_drop {s : Nat} (h : s < 4096) (h0 : s ≠ 0) : pc (s &&& (s - 1)) 12 + 1 = pc s 12 ∧ s &&& (s - 1) < s := by
  rcases by64 (P := fun s => s = 0 ∨ (pc (s &&& (s - 1)) 12 + 1 = pc s 12 ∧ s &&& (s - 1) < s)) pc_drop_ h with h1 | h1
  · exact absurd h1 h0
  · exact h1
theorem pc_le (s : Nat) : ∀ m, pc s m ≤ m
  | 0 => Nat.le_refl _
  | m + 1 => by
    have := pc_le s m
    rw [pc]
    cases s.testBit m <;> simp <;> omega
theorem M_ones {τ : S3} {s : Nat} (hs : s < 4096) : F_X9_ones (nI s) τ = some (nI (pc s 12), τ) := by
  have key : ∀ (s n c : Nat), s < 4096 → s < n → zl2 Fb_X9_ones_4 n (nI c) (nI s) τ = some (nI (c + pc s 12), τ) := by
    intro s
    induction s using Nat.strongRecOn with
    | _ s ih =>
      intro n c hs hn
      obtain ⟨n, rfl⟩ : ∃ m, n = m + 1 := ⟨n - 1, by omega⟩
      by_cases h0 : s = 0
      · subst h0
        rw [zl2_s]
        generalize zl2 Fb_X9_ones_4 n = K
        unfold Fb_X9_ones_4
        simp (disch := omega) only [ckN, ixN, nI_add, subN, mulN, eqN, leN, ltN, bdE, nmE, hasN, shl1, orN, andN, b2i_0, b2i_1, ↓reduceIte, Nat.reduceEqDiff, Nat.reduceLeDiff, li0, li1, li2, li3, li4, li5, li6, li7, li8, li9, li10, li12, li13, li15, li16, li20, li24, li32, li60, li63, li255, li300, li511, li1000, li1023, li4095, li8191]
        rfl
      · have hd := pc_drop hs h0
        have ih' := ih (s &&& (s - 1)) hd.2 n (c + 1) (by omega) (by omega)
        rw [zl2_s]
        generalize zl2 Fb_X9_ones_4 n = K at ih' ⊢
        unfold Fb_X9_ones_4
        simp (disch := omega) only [ckN, ixN, nI_add, subN, mulN, eqN, leN, ltN, bdE, nmE, hasN, shl1, orN, andN, b2i_0, b2i_1, ↓reduceIte, Nat.reduceEqDiff, Nat.reduceLeDiff, li0, li1, li2, li3, li4, li5, li6, li7, li8, li9, li10, li12, li13, li15, li16, li20, li24, li32, li60, li63, li255, li300, li511, li1000, li1023, li4095, li8191, h0]
        rw [ih', ← hd.1, Nat.add_assoc, Nat.add_comm 1]
  unfold F_X9_ones F_X9_ones_4
  have h1 := key s zF 0 hs (zfl (by omega))
  rw [Nat.zero_add] at h1
  exact h1
def bcI (v : Int32) : Int32 :=
  nm (v - (ush v 1 &&& 1431655765)) fun a => nm ((a &&& 858993459) + (ush a 2 &&& 858993459)) fun b => nm ((b + ush b 4) &&& 252645135) fun c => nm (c + ush c 8) fun d => nm (d + ush d 16) fun e => e &&& 63
theorem bc_ : ∀ a, a < 64 → ∀ b, b < 64 → bcI (nI (64 * a + b)) = nI (pc (64 * a + b) 12) := by decide +kernel
theorem X_bitCount {σ : S3} {s : Nat} (hs : s < 4096) : F_J6_bitCount_0f7a4 (nI s) σ = some (nI (pc s 12), σ) := by
  rw [← by64 (P := fun s => bcI (nI s) = nI (pc s 12)) bc_ hs]
  unfold F_J6_bitCount_0f7a4 F_J6_bitCount_0f7a4_10 F_J6_bitCount_0f7a4_24 F_J6_bitCount_0f7a4_34 F_J6_bitCount_0f7a4_41 F_J6_bitCount_0f7a4_48 bcI
  simp only [nmE]
def ntA (v w : Int32) : Int32 := if v ≤ 4 then w + ush v 1 else w + 2 + ush (ush v 2) 1
def ntB (v w : Int32) : Int32 := if v ≤ 16 then ntA v w else ntA (ush v 4) (w + 4)
def ntC (v w : Int32) : Int32 := if v ≤ 256 then ntB v w else ntB (ush v 8) (w + 8)
def ntD (x : Int32) : Int32 := if 0 < x then (if x ≤ 65536 then ntC x 1 else ntC (ush x 16) (1 + 16)) else x &&& 32
theorem X_ntz (v : Int32) (σ : S3) : F_J6_numberOfTrailingZeros_0f7a4 v σ = some (ntD ((v ^^^ (-1)) &&& (v - 1)), σ) := by
  have hA : ∀ v w, F_J6_numberOfTrailingZeros_0f7a4_62 v w σ = some (ntA v w, σ) := by
    intro v w
    unfold F_J6_numberOfTrailingZeros_0f7a4_62 ntA
    simp only [nmE]
    split <;> rfl
  have hB : ∀ v w, F_J6_numberOfTrailingZeros_0f7a4_49 v w σ = some (ntB v w, σ) := by
    intro v w
    unfold F_J6_numberOfTrailingZeros_0f7a4_49 ntB
    simp only [nmE, hA]
    split <;> rfl
  have hC : ∀ v w, F_J6_numberOfTrailingZeros_0f7a4_34 v w σ = some (ntC v w, σ) := by
    intro v w
    unfold F_J6_numberOfTrailingZeros_0f7a4_34 ntC
    simp only [nmE, hB]
    split <;> rfl
  unfold F_J6_numberOfTrailingZeros_0f7a4 ntD
  simp only [nmE, hC]
  split
  · split <;> rfl
  · rfl
theorem ntl_ : ∀ a, a < 64 → ∀ b, b < 64 → (64 * a + b = 0 ∨ (ntD ((nI (64 * a + b) ^^^ (-1)) &&& (nI (64 * a + b) - 1)) = nI (lob (64 * a + b) 12) ∧ lob (64 * a + b) 12 < 12)) := by decide +kernel
theorem ntm_ : ∀ a, a < 64 → ∀ b, b < 64 → ntD (((nI (64 * a + b) ^^^ (-1)) ^^^ (-1)) &&& ((nI (64 * a + b) ^^^ (-1)) - 1)) = nI (mex (64 * a + b) 14) := by decide +kernel
theorem m1 : (-1 : Int32) = -nI 1 := Eq.trans rfl rfl
/-- the least one, or -1 -/
def lsI (s : Nat) : Int32 := if s = 0 then -nI 1 else nI (lob s 12)
theorem lob12 {s : Nat} (hs : s < 4096) (h0 : s ≠ 0) : lob s 12 < 12 := by
  rcases by64 (P := fun s => s = 0 ∨ (ntD ((nI s ^^^ (-1)) &&& (nI s - 1)) = nI (lob s 12) ∧ lob s 12 < 12)) ntl_ hs with h1 | h1
  · exact absurd h1 h0
  · exact h1.2
theorem X_least {σ : S3} {s : Nat} (hs : s < 4096) : F_X3_least (nI s) σ = some (lsI s, σ) := by
  unfold F_X3_least lsI
  rw [X_ntz]
  by_cases h0 : s = 0
  · subst h0
    simp (disch := omega) only [ckN, ixN, nI_add, subN, mulN, eqN, leN, ltN, bdE, nmE, hasN, shl1, orN, andN, b2i_0, b2i_1, ↓reduceIte, Nat.reduceEqDiff, Nat.reduceLeDiff, li0, li1, li2, li3, li4, li5, li6, li7, li8, li9, li10, li12, li13, li15, li16, li20, li24, li32, li60, li63, li255, li300, li511, li1000, li1023, li4095, li8191, m1]
  · rcases by64 (P := fun s => s = 0 ∨ (ntD ((nI s ^^^ (-1)) &&& (nI s - 1)) = nI (lob s 12) ∧ lob s 12 < 12)) ntl_ hs with h1 | h1
    · exact absurd h1 h0
    · rw [h1.1]
      simp (disch := omega) only [ckN, ixN, nI_add, subN, mulN, eqN, leN, ltN, bdE, nmE, hasN, shl1, orN, andN, b2i_0, b2i_1, ↓reduceIte, Nat.reduceEqDiff, Nat.reduceLeDiff, li0, li1, li2, li3, li4, li5, li6, li7, li8, li9, li10, li12, li13, li15, li16, li20, li24, li32, li60, li63, li255, li300, li511, li1000, li1023, li4095, li8191, h0]
theorem X_mexN {σ : S3} {s : Nat} (hs : s < 4096) : F_J6_numberOfTrailingZeros_0f7a4 (nI s ^^^ (-1)) σ = some (nI (mex s 14), σ) := by
  rw [X_ntz, by64 (P := fun s => ntD (((nI s ^^^ (-1)) ^^^ (-1)) &&& ((nI s ^^^ (-1)) - 1)) = nI (mex s 14)) ntm_ hs]
theorem lob_lo : ∀ (m s j : Nat), j < lob s m → s.testBit j = false
  | 0, s, j, h => absurd h (Nat.not_lt_zero j)
  | m + 1, s, j, h => by
    rw [lob] at h
    by_cases h0 : s.testBit 0 = true
    · rw [if_pos h0] at h; exact absurd h (Nat.not_lt_zero j)
    · rw [if_neg h0] at h
      cases j with
      | zero => simpa using h0
      | succ j => rw [← tb_half]; exact lob_lo m (s / 2) j (by omega)
theorem lob_at : ∀ (m s : Nat), lob s m < m → s.testBit (lob s m) = true
  | 0, s, h => absurd h (Nat.not_lt_zero _)
  | m + 1, s, h => by
    rw [lob] at h ⊢
    by_cases h0 : s.testBit 0 = true
    · rw [if_pos h0]; exact h0
    · rw [if_neg h0] at h ⊢
      rw [Nat.add_comm, ← tb_half]
      exact lob_at m (s / 2) (by omega)
theorem lob_u {s m i : Nat} (hi : i < m) (h1 : s.testBit i = true) (h2 : ∀ j, j < i → s.testBit j = false) : lob s m = i := by
  rcases Nat.lt_trichotomy (lob s m) i with h | h | h
  · have := lob_at m s (by omega)
    rw [h2 _ h] at this; cases this
  · exact h
  · have := lob_lo m s i h
    rw [h1] at this; cases this
theorem M_least {τ : S3} {s : Nat} (hs : s < 4096) : F_X9_least (nI s) τ = some (lsI s, τ) := by
  have key : ∀ (d n j : Nat), j + d = 12 → d < n → (∀ i, i < j → s.testBit i = false) → zl1 (Fb_X9_least_2 (nI s)) n (nI j) τ = some (lsI s, τ) := by
    intro d
    induction d with
    | zero =>
      intro n j hj hn h
      obtain ⟨n, rfl⟩ : ∃ m, n = m + 1 := ⟨n - 1, by omega⟩
      have e : j = 12 := by omega
      subst e
      rw [zl1_s]
      generalize zl1 (Fb_X9_least_2 (nI s)) n = K
      have h0 : s = 0 := by
        apply set_ext (m := 12) hs (by decide)
        intro i hi
        rw [h i hi, Nat.zero_testBit]
      unfold Fb_X9_least_2 F_X9_least_22 lsI
      simp (disch := omega) only [ckN, ixN, nI_add, subN, mulN, eqN, leN, ltN, bdE, nmE, hasN, shl1, orN, andN, b2i_0, b2i_1, ↓reduceIte, Nat.reduceEqDiff, Nat.reduceLeDiff, li0, li1, li2, li3, li4, li5, li6, li7, li8, li9, li10, li12, li13, li15, li16, li20, li24, li32, li60, li63, li255, li300, li511, li1000, li1023, li4095, li8191, h0, Nat.le_refl, m1]
    | succ d ih =>
      intro n j hj hn h
      obtain ⟨n, rfl⟩ : ∃ m, n = m + 1 := ⟨n - 1, by omega⟩
      have ihn := ih n (j + 1) (by omega) (by omega)
      rw [zl1_s]
      generalize zl1 (Fb_X9_least_2 (nI s)) n = K at ihn ⊢
      unfold Fb_X9_least_2 F_X9_least_22
      simp (disch := omega) only [ckN, ixN, nI_add, subN, mulN, eqN, leN, ltN, bdE, nmE, hasN, shl1, orN, andN, b2i_0, b2i_1, ↓reduceIte, Nat.reduceEqDiff, Nat.reduceLeDiff, li0, li1, li2, li3, li4, li5, li6, li7, li8, li9, li10, li12, li13, li15, li16, li20, li24, li32, li60, li63, li255, li300, li511, li1000, li1023, li4095, li8191, M_has (show s < 2147483648 by omega) (show j < 32 by omega), show ¬ 12 ≤ j by omega]
      cases hb : s.testBit j
      · simp only [if_true]
        apply ihn
        intro i hi
        by_cases e : i = j
        · rw [e, hb]
        · exact h i (by omega)
      · simp only [Bool.true_eq_false, if_false]
        unfold lsI
        rw [if_neg (by intro e; rw [e, Nat.zero_testBit] at hb; cases hb), lob_u (by omega) hb h]
  unfold F_X9_least F_X9_least_2
  exact key 12 zF 0 (by omega) (zfl (by omega)) (fun i hi => absurd hi (by omega))
def nlA (v w : Int32) : Int32 := if v < 4 then w - ush v 1 else w + (-2) - ush (ush v 2) 1
def nlB (v w : Int32) : Int32 := if v < 16 then nlA v w else nlA (ush v 4) (w + (-4))
def nlC (v w : Int32) : Int32 := if v < 256 then nlB v w else nlB (ush v 8) (w + (-8))
def nlD (v : Int32) : Int32 := if 0 < v then (if v < 65536 then nlC v 31 else nlC (ush v 16) (31 + (-16))) else if v = 0 then 32 else 0
/-- the greatest one, or -1 -/
def gsI (s : Nat) : Int32 := if hib s 12 = 0 then -nI 1 else nI (hib s 12 - 1)
theorem nlg_ : ∀ a, a < 64 → ∀ b, b < 64 → 31 - nlD (nI (64 * a + b)) = gsI (64 * a + b) := by decide +kernel
theorem X_greatest {σ : S3} {s : Nat} (hs : s < 4096) : F_X3_greatest (nI s) σ = some (gsI s, σ) := by
  have hA : ∀ v w, F_J6_numberOfLeadingZeros_0f7a4_61 v w σ = some (nlA v w, σ) := by
    intro v w
    unfold F_J6_numberOfLeadingZeros_0f7a4_61 nlA
    simp only [nmE]
    split <;> rfl
  have hB : ∀ v w, F_J6_numberOfLeadingZeros_0f7a4_48 v w σ = some (nlB v w, σ) := by
    intro v w
    unfold F_J6_numberOfLeadingZeros_0f7a4_48 nlB
    simp only [nmE, hA]
    split <;> rfl
  have hC : ∀ v w, F_J6_numberOfLeadingZeros_0f7a4_33 v w σ = some (nlC v w, σ) := by
    intro v w
    unfold F_J6_numberOfLeadingZeros_0f7a4_33 nlC
    simp only [nmE, hB]
    split <;> rfl
  have hD : ∀ v, F_J6_numberOfLeadingZeros_0f7a4 v σ = some (nlD v, σ) := by
    intro v
    unfold F_J6_numberOfLeadingZeros_0f7a4 nlD
    simp only [nmE, hC]
    split
    · split <;> rfl
    · split <;> rfl
  unfold F_X3_greatest
  rw [hD, bdE, by64 (P := fun s => 31 - nlD (nI s) = gsI s) nlg_ hs]
theorem hib_hi : ∀ (m s j : Nat), hib s m ≤ j → j < m → s.testBit j = false
  | 0, s, j, _, h => absurd h (Nat.not_lt_zero j)
  | m + 1, s, j, h, hj => by
    rw [hib] at h
    by_cases h0 : s.testBit m = true
    · rw [if_pos h0] at h; omega
    · rw [if_neg h0] at h
      by_cases e : j = m
      · rw [e]; simpa using h0
      · exact hib_hi m s j h (by omega)
theorem hib_at : ∀ (m s : Nat), hib s m ≠ 0 → s.testBit (hib s m - 1) = true ∧ hib s m ≤ m
  | 0, s, h => absurd rfl h
  | m + 1, s, h => by
    rw [hib] at h ⊢
    by_cases h0 : s.testBit m = true
    · rw [if_pos h0]; exact ⟨h0, Nat.le_refl _⟩
    · rw [if_neg h0] at h ⊢
      have := hib_at m s h
      exact ⟨this.1, by omega⟩
theorem M_greatest {τ : S3} {s : Nat} (hs : s < 4096) : F_X9_greatest (nI s) τ = some (gsI s, τ) := by
  have key : ∀ (j n : Nat), j < n → j ≤ 12 → hib s 12 = hib s j → zl1 (Fb_X9_greatest_3 (nI s)) n (if j = 0 then -nI 1 else nI (j - 1)) τ = some (gsI s, τ) := by
    intro j
    induction j with
    | zero =>
      intro n hn _ h
      obtain ⟨n, rfl⟩ : ∃ m, n = m + 1 := ⟨n - 1, by omega⟩
      rw [zl1_s, if_pos rfl]
      generalize zl1 (Fb_X9_greatest_3 (nI s)) n = K
      unfold Fb_X9_greatest_3 gsI
      rw [if_pos (show (-nI 1) < 0 by decide), if_pos (show hib s 12 = 0 from h)]
    | succ j ih =>
      intro n hn hj h
      obtain ⟨n, rfl⟩ : ∃ m, n = m + 1 := ⟨n - 1, by omega⟩
      have ihn := ih n (by omega) (by omega)
      rw [zl1_s, if_neg (by omega), Nat.add_sub_cancel]
      generalize zl1 (Fb_X9_greatest_3 (nI s)) n = K at ihn ⊢
      unfold Fb_X9_greatest_3
      simp (disch := omega) only [ckN, ixN, nI_add, subN, mulN, eqN, leN, ltN, bdE, nmE, hasN, shl1, orN, andN, b2i_0, b2i_1, ↓reduceIte, Nat.reduceEqDiff, Nat.reduceLeDiff, li0, li1, li2, li3, li4, li5, li6, li7, li8, li9, li10, li12, li13, li15, li16, li20, li24, li32, li60, li63, li255, li300, li511, li1000, li1023, li4095, li8191, M_has (show s < 2147483648 by omega) (show j < 32 by omega), show ¬ j < 0 by omega, m1]
      rw [show hib s (j + 1) = if s.testBit j then j + 1 else hib s j from rfl] at h
      cases hb : s.testBit j
      · rw [hb, if_neg Bool.false_ne_true] at h
        simp only [if_true]
        have e : nI j + -nI 1 = if j = 0 then -nI 1 else nI (j - 1) := by
          by_cases h0 : j = 0
          · subst h0; rfl
          · rw [if_neg h0, ← subN (by omega)]
            exact (Int32.sub_eq_add_neg _ _).symm
        rw [e]
        exact ihn h
      · rw [hb, if_pos rfl] at h
        simp only [Bool.true_eq_false, if_false]
        unfold gsI
        rw [h, if_neg (by omega), Nat.add_sub_cancel]
  unfold F_X9_greatest F_X9_greatest_3
  exact key 12 zF (zfl (by omega)) (by omega) rfl
theorem lwb_ : ∀ a, a < 64 → ∀ b, b < 64 → nI (64 * a + b) &&& (-(nI (64 * a + b))) = nI (if 64 * a + b = 0 then 0 else 2 ^ lob (64 * a + b) 12) := by decide +kernel
theorem X_lowest {σ : S3} {s : Nat} (hs : s < 4096) : F_J6_lowestOneBit_0f7a4 (nI s) σ = some (nI (if s = 0 then 0 else 2 ^ lob s 12), σ) := by
  unfold F_J6_lowestOneBit_0f7a4
  rw [by64 (P := fun s => nI s &&& (-(nI s)) = nI (if s = 0 then 0 else 2 ^ lob s 12)) lwb_ hs]
