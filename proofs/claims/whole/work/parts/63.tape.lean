/-! PURE: the tape -/
def byt (v : Int64) (i : Nat) : Nat := v.toBitVec.toNat / 2 ^ (8 * i) % 2 ^ 8
theorem byt_lt (v : Int64) (i : Nat) : byt v i < 256 := Nat.mod_lt _ (by decide)
theorem byt_tb (v : Int64) (i j : Nat) : (byt v i).testBit j = (decide (j < 8) && v.toBitVec.getLsbD (8 * i + j)) := by
  unfold byt
  rw [Nat.testBit_mod_two_pow, Nat.testBit_div_two_pow, BitVec.testBit_toNat, Nat.add_comm]
theorem s64u : ∀ i, i < 8 → (((Int32.toInt64 ((8 : Int32) * nI i)).toUInt64 &&& Int64.toUInt64 63).toBitVec % 64).toNat = 8 * i := by decide +kernel
theorem s64s : ∀ i, i < 8 → ((Int32.toInt64 ((8 : Int32) * nI i) &&& (63 : Int64)).toBitVec.smod 64).toNat = 8 * i := by decide +kernel
theorem t255 (j : Nat) : (255 : Nat).testBit j = decide (j < 8) := by
  rw [show (255 : Nat) = 2 ^ 8 - 1 from rfl, Nat.testBit_two_pow_sub_one]
theorem X_byte (v : Int64) {i : Nat} (hi : i < 8) : (Int64.toInt32 ((Int64.toUInt64 v >>> ((Int32.toInt64 ((8 : Int32) * nI i)).toUInt64 &&& Int64.toUInt64 63)).toInt64)) &&& (255 : Int32) = nI (byt v i) := by
  apply b_ext
  intro j hj
  rw [b_and, li255, b_nI _ hj, b_nI _ hj, byt_tb, t255]
  unfold bt
  rw [Int64.toBitVec_toInt32, BitVec.getLsbD_signExtend, UInt64.toBitVec_toInt64, UInt64.toBitVec_shiftRight, BitVec.ushiftRight_eq', s64u i hi, BitVec.getLsbD_ushiftRight]
  have e : (Int64.toUInt64 v).toBitVec = v.toBitVec := rfl
  rw [e, if_pos (by omega)]
  by_cases h : j < 8
  · simp [h, hj]
  · simp [h]
theorem M_byte (v : Int64) {i : Nat} (hi : i < 8) : Int64.toInt32 ((v >>> (Int32.toInt64 ((8 : Int32) * nI i) &&& 63)) &&& (255 : Int64)) = nI (byt v i) := by
  apply b_ext
  intro j hj
  rw [b_nI _ hj, byt_tb]
  unfold bt
  have e255 : (255 : Int64).toBitVec.getLsbD j = decide (j < 8) := by
    have : ∀ j, j < 32 → (255 : Int64).toBitVec.getLsbD j = decide (j < 8) := by decide +kernel
    exact this j hj
  rw [Int64.toBitVec_toInt32, BitVec.getLsbD_signExtend, if_pos (by omega), Int64.toBitVec_and, BitVec.getLsbD_and, e255, Int64.toBitVec_shiftRight, BitVec.getLsbD_sshiftRight', s64s i hi]
  by_cases h : j < 8
  · rw [if_pos (by omega)]
    have : ¬ 64 ≤ j := by omega
    simp [h, hj, this]
  · simp [h]
def TP (L : Nat) (B : Nat → Nat) (σ τ : S3) : Prop := L ≤ 60 ∧ σ 7 0 0 = nI L ∧ τ 0 10 0 = nI L ∧ ∀ i, i < L → B i < 256 ∧ σ 7 1 i = nI (B i) ∧ τ 0 9 i = nI (B i)
theorem feed_b (v : Int64) {n : Nat} (hn8 : n ≤ 8) : ∀ (d n1 n2 j L : Nat) (B : Nat → Nat) (σ τ : S3), j + d = n → d < n1 → d < n2 → L + d ≤ 60 → TP L B σ τ → ∃ σ' τ' B', zl1 (Fb_X6_add_3 v (nI n)) n1 (nI j) σ = some (nI 0, σ') ∧ zl1 (Fb_X9_feed_36 v (nI n)) n2 (nI j) τ = some (nI (L + d), τ') ∧ TP (L + d) B' σ' τ' ∧ (∀ c, c ≠ 7 → σ' c = σ c) ∧ ∀ f, f ≠ 9 → f ≠ 10 → τ' 0 f = τ 0 f := by
  intro d
  induction d with
  | zero =>
    intro n1 n2 j L B σ τ hj h1 h2 hL hT
    obtain ⟨n1, rfl⟩ : ∃ m, n1 = m + 1 := ⟨n1 - 1, by omega⟩
    obtain ⟨n2, rfl⟩ : ∃ m, n2 = m + 1 := ⟨n2 - 1, by omega⟩
    refine ⟨σ, τ, B, ?_, ?_, hT, fun _ _ => rfl, fun _ _ _ => rfl⟩
    · rw [zl1_s]
      generalize zl1 (Fb_X6_add_3 v (nI n)) n1 = K
      unfold Fb_X6_add_3
      rw [if_pos (by rw [leN (by omega) (by omega)]; omega), li0]
    · rw [zl1_s]
      generalize zl1 (Fb_X9_feed_36 v (nI n)) n2 = K
      unfold Fb_X9_feed_36
      rw [if_pos (by rw [leN (by omega) (by omega)]; omega), hT.2.2.1]
      rfl
  | succ d ih =>
    intro n1 n2 j L B σ τ hj h1 h2 hL hT
    obtain ⟨n1, rfl⟩ : ∃ m, n1 = m + 1 := ⟨n1 - 1, by omega⟩
    obtain ⟨n2, rfl⟩ : ∃ m, n2 = m + 1 := ⟨n2 - 1, by omega⟩
    have ihn := ih n1 n2 (j + 1) (L + 1)
    rw [zl1_s, zl1_s]
    generalize zl1 (Fb_X6_add_3 v (nI n)) n1 = K at ihn ⊢
    generalize zl1 (Fb_X9_feed_36 v (nI n)) n2 = K' at ihn ⊢
    unfold Fb_X6_add_3 Fb_X9_feed_36
    have hnle : ¬ nI n ≤ nI j := by rw [leN (by omega) (by omega)]; omega
    obtain ⟨t1, t2, t3, t4⟩ := hT
    rw [if_neg hnle, if_neg hnle, t2, li60, if_neg (by rw [leN (by omega) (by omega)]; omega), ckN (by omega) (by omega), t3, ckN (by omega) (by omega), ixN (by omega), X_byte v (by omega), M_byte v (by omega)]
    simp only [nmE]
    rw [up_f (show 0 ≠ 1 by decide), t2, up_f (show 10 ≠ 9 by decide), t3, li1, nI_add, nI_add]
    obtain ⟨σ', τ', B', e1, e2, e3, e4, e5⟩ := ihn (fun i => if i = L then byt v j else B i) (up (up σ 7 1 L (nI (byt v j))) 7 0 0 (nI (L + 1))) (up (up τ 0 9 L (nI (byt v j))) 0 10 0 (nI (L + 1))) (by omega) (by omega) (by omega) (by omega) ⟨by omega, by rw [up_at], by rw [up_at], fun i hi => by
      rw [up_f (show 1 ≠ 0 by decide), up_s, up_f (show 9 ≠ 10 by decide), up_s]
      by_cases e : i = L
      · subst e
        rw [upd_s, upd_s]
        simp only [if_true]
        exact ⟨byt_lt v j, trivial, trivial⟩
      · rw [upd_n e, upd_n e]
        simp only [if_neg e]
        exact t4 i (by omega)⟩
    refine ⟨σ', τ', B', e1, ?_, ?_, ?_, ?_⟩
    · rw [e2, show L + 1 + d = L + (d + 1) by omega]
    · rw [show L + (d + 1) = L + 1 + d by omega]; exact e3
    · intro c hc
      rw [e4 c hc, up_c hc, up_c hc]
    · intro f f1 f2
      rw [e5 f f1 f2, up_f f2, up_f f1]
/-! the text -/
def ltr (b : Nat) : Bool := decide (97 ≤ b) && decide (b ≤ 106)
def sgn (b : Nat) : Bool := decide (b = 45) || (decide (b = 62) || decide (b = 60))
def fit (B : Nat → Nat) (i : Nat) : Bool :=
  if i % 4 = 0 then ltr (B i) && decide (i / 4 < 12) else if i % 4 = 1 then sgn (B i) else if i % 4 = 2 then ltr (B i) && !decide (B i = B (i - 2)) else decide (B i = 44)
def ff (L : Nat) (B : Nat → Nat) : Nat → Nat → Int32
  | 0, _ => if L % 4 = 3 then -nI 1 else nI L
  | d + 1, i => if fit B i then ff L B d (i + 1) else nI i
def gg (L : Nat) (B : Nat → Nat) (a : Nat) : Int32 := ff L B (L - a) a
theorem gg_lt {L : Nat} {B : Nat → Nat} {a : Nat} (h : a < L) : gg L B a = if fit B a then gg L B (a + 1) else nI a := by
  unfold gg
  rw [show L - a = (L - (a + 1)) + 1 by omega, ff]
theorem gg_L {L : Nat} {B : Nat → Nat} : gg L B L = if L % 4 = 3 then -nI 1 else nI L := by
  unfold gg
  rw [Nat.sub_self, ff]
theorem gg_ok {L : Nat} {B : Nat → Nat} (hL : L ≤ 60) : ∀ d a, a + d = L → gg L B a = -nI 1 → L % 4 = 3 ∧ ∀ i, a ≤ i → i < L → fit B i = true
  | 0, a, h, hg => by
    have e : a = L := by omega
    subst e
    rw [gg_L] at hg
    by_cases c : a % 4 = 3
    · exact ⟨c, fun i h1 h2 => absurd h1 (by omega)⟩
    · rw [if_neg c, m1_eq (by omega)] at hg
      exact hg.elim
  | d + 1, a, h, hg => by
    rw [gg_lt (by omega)] at hg
    by_cases c : fit B a = true
    · rw [if_pos c] at hg
      obtain ⟨h1, h2⟩ := gg_ok hL d (a + 1) (by omega) hg
      refine ⟨h1, fun i hi hl => ?_⟩
      by_cases e : i = a
      · subst e; exact c
      · exact h2 i (by omega) hl
    · rw [if_neg c, m1_eq (by omega)] at hg
      exact hg.elim
theorem gg_no {L : Nat} {B : Nat → Nat} (hL : L ≤ 60) : ∀ d a, a + d = L → gg L B a = -nI 1 ∨ ∃ i, i ≤ 60 ∧ gg L B a = nI i
  | 0, a, h => by
    have e : a = L := by omega
    subst e
    rw [gg_L]
    by_cases c : a % 4 = 3
    · rw [if_pos c]; exact Or.inl rfl
    · rw [if_neg c]; exact Or.inr ⟨a, by omega, rfl⟩
  | d + 1, a, h => by
    rw [gg_lt (by omega)]
    by_cases c : fit B a = true
    · rw [if_pos c]; exact gg_no hL d (a + 1) (by omega)
    · rw [if_neg c]; exact Or.inr ⟨a, by omega, rfl⟩
section
variable {L : Nat} {B : Nat → Nat} {σ τ : S3}
theorem li97 : (97 : Int32) = nI 97 := Eq.trans rfl rfl
theorem li106 : (106 : Int32) = nI 106 := Eq.trans rfl rfl
theorem li44 : (44 : Int32) = nI 44 := Eq.trans rfl rfl
theorem li45 : (45 : Int32) = nI 45 := Eq.trans rfl rfl
theorem li62 : (62 : Int32) = nI 62 := Eq.trans rfl rfl
theorem X_isLetter {b : Nat} (hb : b < 256) : F_X6_isLetter (nI b) σ = some (b2i (ltr b), σ) := by
  unfold F_X6_isLetter ltr
  rw [li97, li106]
  simp only [ltN (show b < 2147483648 by omega) (show 97 < 2147483648 by omega), ltN (show 106 < 2147483648 by omega) (show b < 2147483648 by omega)]
  by_cases h1 : b < 97
  · have : ¬ 97 ≤ b := by omega
    rw [if_pos h1]
    simp [this]
    rfl
  · rw [if_neg h1]
    by_cases h2 : 106 < b
    · have : ¬ b ≤ 106 := by omega
      rw [if_pos h2]
      simp [this]
      rfl
    · have a1 : 97 ≤ b := by omega
      have a2 : b ≤ 106 := by omega
      rw [if_neg h2]
      simp [a1, a2]
      rfl
theorem X_fits (hT : TP L B σ τ) {i : Nat} (hi : i < L) : F_X6_fits (nI i) σ = some (b2i (fit B i), σ) := by
  obtain ⟨t1, t2, t3, t4⟩ := hT
  have hb := t4 i hi
  unfold F_X6_fits fit
  rw [ckN (by omega) (by omega), ixN (by omega), hb.2.1, nmE, li4, pk_rem (by omega) (by omega) (by omega), pk_div (by omega) (by omega) (by omega), nmE, X_isLetter hb.1]
  simp only [bdE, li0, li1, li2, li12, li44, li45, li62, li60, eqN (show i % 4 < 2147483648 by omega) (show 0 < 2147483648 by omega), eqN (show i % 4 < 2147483648 by omega) (show 1 < 2147483648 by omega), eqN (show i % 4 < 2147483648 by omega) (show 2 < 2147483648 by omega), leN (show 12 < 2147483648 by omega) (show i / 4 < 2147483648 by omega), eqN (show B i < 2147483648 by omega) (show 44 < 2147483648 by omega), eqN (show B i < 2147483648 by omega) (show 45 < 2147483648 by omega), eqN (show B i < 2147483648 by omega) (show 60 < 2147483648 by omega), eqN (show B i < 2147483648 by omega) (show 62 < 2147483648 by omega), b2i_0]
  by_cases m0 : i % 4 = 0
  · rw [if_pos m0, if_pos m0]
    cases ltr (B i)
    · simp; rfl
    · by_cases c : i / 4 < 12
      · have : ¬ 12 ≤ i / 4 := by omega
        simp [c, this]; rfl
      · have : 12 ≤ i / 4 := by omega
        simp [c, this]; rfl
  · rw [if_neg m0, if_neg m0]
    by_cases m1' : i % 4 = 1
    · rw [if_pos m1', if_pos m1']
      unfold sgn
      by_cases c1 : B i = 45
      · simp [c1]; rfl
      · by_cases c2 : B i = 62
        · simp [c2]; rfl
        · by_cases c3 : B i = 60
          · simp [c3]; rfl
          · simp [c1, c2, c3]; rfl
    · rw [if_neg m1', if_neg m1']
      by_cases m2 : i % 4 = 2
      · rw [if_pos m2, if_pos m2]
        have h2 := t4 (i - 2) (by omega)
        rw [subN (by omega), ckN (by omega) (by omega), ixN (by omega), h2.2.1]
        simp only [eqN (show B i < 2147483648 by omega) (show B (i - 2) < 2147483648 by omega)]
        cases ltr (B i)
        · simp; rfl
        · by_cases c : B i = B (i - 2)
          · simp [c]; rfl
          · simp [c]; rfl
      · rw [if_neg m2, if_neg m2]
        by_cases c : B i = 44
        · simp [c]; rfl
        · simp [c]; rfl
theorem X_fault (hT : TP L B σ τ) : F_X6_fault σ = some (gg L B 0, σ) := by
  obtain ⟨t1, t2, t3, t4⟩ := hT
  have hT : TP L B σ τ := ⟨t1, t2, t3, t4⟩
  have lp : ∀ (d n i : Nat), i + d = L → d < n → zl1 Fb_X6_fault_2 n (nI i) σ = some (gg L B i, σ) := by
    intro d
    induction d with
    | zero =>
      intro n i hi hn
      obtain ⟨n, rfl⟩ : ∃ m, n = m + 1 := ⟨n - 1, by omega⟩
      have e : i = L := by omega
      subst e
      rw [zl1_s]
      generalize zl1 Fb_X6_fault_2 n = K
      unfold Fb_X6_fault_2
      rw [t2, if_pos (by rw [leN (by omega) (by omega)]; omega), li4, pk_rem (by omega) (by omega) (by omega), gg_L, show (3 : Int32) = nI 3 from rfl, m1]
      by_cases c : i % 4 = 3
      · rw [if_pos c, if_pos (by rw [c])]
      · rw [if_neg c, if_neg (by rw [eqN (by omega) (by omega)]; exact c)]
    | succ d ih =>
      intro n i hi hn
      obtain ⟨n, rfl⟩ : ∃ m, n = m + 1 := ⟨n - 1, by omega⟩
      have ih' := ih n (i + 1) (by omega) (by omega)
      rw [zl1_s]
      generalize zl1 Fb_X6_fault_2 n = K at ih' ⊢
      unfold Fb_X6_fault_2
      have hnle : ¬ nI L ≤ nI i := by rw [leN (by omega) (by omega)]; omega
      rw [t2, if_neg hnle, X_fits hT (by omega), bdE, gg_lt (by omega), li0, li1]
      cases fit B i
      · rw [show b2i false = nI 0 from rfl, if_pos rfl]; rfl
      · rw [show b2i true = nI 1 from rfl, if_neg n1_0, nmE, nI_add]
        exact ih'
  unfold F_X6_fault F_X6_fault_2
  exact lp L zF 0 (by omega) (zfl (by omega))
def hrI (L : Nat) (B : Nat → Nat) (a : Nat) : Int32 := if a < L then nI (B a) else -nI 1
theorem M_here (hT : TP L B σ τ) {a : Nat} (ha : a < 2147483648) : F_X9_here (nI a) τ = some (hrI L B a, τ) := by
  obtain ⟨t1, t2, t3, t4⟩ := hT
  unfold F_X9_here hrI
  rw [t3]
  simp only [leN (show L < 2147483648 by omega) ha]
  by_cases h : a < L
  · rw [if_neg (by omega), if_pos h, ckN (by omega) (by omega), ixN (by omega), (t4 a h).2.2]
  · rw [if_pos (by omega), if_neg h, m1]
theorem M_inL (hT : TP L B σ τ) (a : Nat) : F_X9_in (hrI L B a) 97 106 τ = some (b2i (decide (a < L) && ltr (B a)), τ) := by
  unfold hrI
  by_cases h : a < L
  · have := (hT.2.2.2 a h).1
    rw [if_pos h, li97, li106, M_inN (by omega) (by omega) (by omega)]
    unfold ltr
    simp [h]
  · rw [if_neg h, M_in]
    have : ¬ ((97 : Int32) ≤ -nI 1 ∧ -nI 1 ≤ (106 : Int32)) := by decide
    rw [decide_eq_false this]
    simp [h]
theorem hr_eq (hT : TP L B σ τ) (a : Nat) {k : Nat} (hk : k < 256) : (hrI L B a = nI k) = (a < L ∧ B a = k) := by
  unfold hrI
  by_cases h : a < L
  · have := (hT.2.2.2 a h).1
    rw [if_pos h, eqN (by omega) (by omega)]
    simp [h]
  · rw [if_neg h]
    have : ¬ (-nI 1 = nI k) := fun e => by
      have := m1_eq (a := k) (by omega)
      rw [e] at this
      simp at this
    simp [h, this]
theorem M_faultOf (hT : TP L B σ τ) : F_X9_faultOf τ = some (gg L B 0, τ) := by
  have hT' := hT
  obtain ⟨t1, t2, t3, t4⟩ := hT
  have lp : ∀ (d n l : Nat), l + d = 12 → d < n → 4 * l ≤ L → zl2 Fb_X9_faultOf_4 n (nI (4 * l)) (nI l) τ = some (gg L B (4 * l), τ) := by
    intro d
    induction d with
    | zero =>
      intro n l hl hn hL
      obtain ⟨n, rfl⟩ : ∃ m, n = m + 1 := ⟨n - 1, by omega⟩
      have e : l = 12 := by omega
      subst e
      rw [zl2_s]
      generalize zl2 Fb_X9_faultOf_4 n = K
      unfold Fb_X9_faultOf_4
      rw [M_here hT' (by omega), bdE, M_inL hT', bdE, li12, if_pos rfl]
      have e2 : gg L B (4 * 12) = nI (4 * 12) := by
        by_cases h : 4 * 12 < L
        · rw [gg_lt h, if_neg (by simp [fit])]
        · rw [show L = 4 * 12 by omega, gg_L, if_neg (by decide)]
      rw [e2]
      split <;> rfl
    | succ d ih =>
      intro n l hl hn hL
      obtain ⟨n, rfl⟩ : ∃ m, n = m + 1 := ⟨n - 1, by omega⟩
      have ihn := ih n (l + 1) (by omega) (by omega)
      rw [zl2_s]
      generalize zl2 Fb_X9_faultOf_4 n = K at ihn ⊢
      have q0 : (4 * l) % 4 = 0 := by omega
      have q1 : (4 * l + 1) % 4 = 1 := by omega
      have q2 : (4 * l + 2) % 4 = 2 := by omega
      have q3 : (4 * l + 3) % 4 = 3 := by omega
      have w0 : fit B (4 * l) = ltr (B (4 * l)) := by unfold fit; rw [if_pos q0, decide_eq_true (show 4 * l / 4 < 12 by omega), Bool.and_true]
      have w1 : fit B (4 * l + 1) = sgn (B (4 * l + 1)) := by unfold fit; rw [if_neg (by omega), if_pos q1]
      have w2 : fit B (4 * l + 2) = (ltr (B (4 * l + 2)) && !decide (B (4 * l + 2) = B (4 * l))) := by unfold fit; rw [if_neg (by omega), if_neg (by omega), if_pos q2, show 4 * l + 2 - 2 = 4 * l by omega]
      have w3 : fit B (4 * l + 3) = decide (B (4 * l + 3) = 44) := by unfold fit; rw [if_neg (by omega), if_neg (by omega), if_neg (by omega)]
      have h57 : 4 * l + 1 < L → F_X9_faultOf_57 K (nI (4 * l)) (nI l) τ = some (gg L B (4 * l + 2), τ) := by
        intro hlt
        unfold F_X9_faultOf_57
        rw [li2, nI_add, M_here hT' (by omega), bdE, M_inL hT', bdE]
        by_cases c2 : 4 * l + 2 < L
        · have b2 := (t4 _ c2).1
          have b0 := (t4 (4 * l) (by omega)).1
          rw [decide_eq_true c2, Bool.true_and, gg_lt c2, w2]
          cases hlt2 : ltr (B (4 * l + 2))
          · rw [show b2i false = nI 0 from rfl, li0, if_pos rfl, Bool.false_and]; rfl
          · rw [show b2i true = nI 1 from rfl, li0, if_neg n1_0, Bool.true_and, M_here hT' (by omega), bdE, M_here hT' (by omega), bdE]
            have e2 : hrI L B (4 * l + 2) = nI (B (4 * l + 2)) := if_pos c2
            have e0 : hrI L B (4 * l) = nI (B (4 * l)) := if_pos (by omega)
            rw [e2, e0]
            simp only [eqN (show B (4 * l + 2) < 2147483648 by omega) (show B (4 * l) < 2147483648 by omega)]
            by_cases c : B (4 * l + 2) = B (4 * l)
            · rw [if_pos c, decide_eq_true c]; rfl
            · rw [if_neg c, decide_eq_false c, nmE, show (3 : Int32) = nI 3 from rfl, nI_add, t3, if_pos (show (!false) = true from rfl)]
              by_cases c3 : 4 * l + 3 = L
              · rw [if_pos (show nI (4 * l + 3) = nI L by rw [c3]), show gg L B (4 * l + 2 + 1) = gg L B L by rw [← c3], gg_L, if_pos (by omega), m1]
              · rw [if_neg (show ¬ nI (4 * l + 3) = nI L by rw [eqN (by omega) (by omega)]; exact c3), M_here hT' (by omega), bdE, gg_lt (show 4 * l + 2 + 1 < L by omega), show 4 * l + 2 + 1 = 4 * l + 3 by omega, w3, li44]
                by_cases c4 : B (4 * l + 3) = 44
                · rw [if_pos (show hrI L B (4 * l + 3) = nI 44 by rw [hr_eq hT' _ (by omega)]; exact ⟨by omega, c4⟩), decide_eq_true c4, nmE, nmE, li1, nI_add, nI_add, if_pos rfl, show 4 * l + 3 + 1 = 4 * (l + 1) by omega]
                  exact ihn (by omega)
                · rw [if_neg (show ¬ hrI L B (4 * l + 3) = nI 44 by rw [hr_eq hT' _ (by omega)]; exact fun h => c4 h.2), decide_eq_false c4]; rfl
        · have e : L = 4 * l + 2 := by omega
          rw [decide_eq_false c2, Bool.false_and, show b2i false = nI 0 from rfl, li0, if_pos rfl, ← e, gg_L, if_neg (by omega)]
      unfold Fb_X9_faultOf_4
      rw [M_here hT' (by omega), bdE, M_inL hT', bdE, li12, if_neg (show ¬ nI l = nI 12 by rw [eqN (by omega) (by omega)]; omega)]
      by_cases c0 : 4 * l < L
      · have b0 := (t4 _ c0).1
        rw [decide_eq_true c0, Bool.true_and, gg_lt c0, w0]
        cases hl0 : ltr (B (4 * l))
        · rw [show b2i false = nI 0 from rfl, li0, if_pos rfl]; rfl
        · rw [show b2i true = nI 1 from rfl, li0, if_neg n1_0, if_pos rfl, li1, nI_add, M_here hT' (by omega), bdE, li45, li62, li60]
          simp only [hr_eq hT' (4 * l + 1) (show 45 < 256 by omega), hr_eq hT' (4 * l + 1) (show 62 < 256 by omega), hr_eq hT' (4 * l + 1) (show 60 < 256 by omega)]
          by_cases c1 : 4 * l + 1 < L
          · rw [h57 c1, gg_lt c1, w1]
            unfold sgn
            by_cases d1 : B (4 * l + 1) = 45
            · simp [c1, d1]
            · by_cases d2 : B (4 * l + 1) = 62
              · simp [c1, d2]
              · by_cases d3 : B (4 * l + 1) = 60
                · simp [c1, d3]
                · simp [c1, d1, d2, d3]
          · have e : L = 4 * l + 1 := by omega
            have hno : ∀ k, ¬ (4 * l + 1 < L ∧ B (4 * l + 1) = k) := fun k h => c1 h.1
            rw [if_neg (hno 45), if_neg (hno 62), if_neg (hno 60), ← e, gg_L, if_neg (by omega)]
      · have e : L = 4 * l := by omega
        rw [decide_eq_false c0, Bool.false_and, show b2i false = nI 0 from rfl, li0, if_pos rfl, ← e, gg_L, if_neg (by omega)]
  unfold F_X9_faultOf F_X9_faultOf_4
  exact lp 12 zF 0 (by omega) (zfl (by omega)) (by omega)
end
