/-! PURE: kernels -/
/-- a way from p leads to q -/
def ldsT (N : Nt) (p q : Nat) : Prop := ∃ l, l < nk N ∧ atB N l p = true ∧ ldB N l p = true ∧ oth N l p = q
theorem ahd_tb {N : Nt} (hw : nwf N) (p q : Nat) : (ahd N p).testBit q = true ↔ ldsT N p q := by
  unfold ahd
  rw [bset_tb, Bool.and_eq_true, anyB_iff]
  constructor
  · rintro ⟨_, l, h1, h2⟩
    simp at h2
    exact ⟨l, h1, h2.1.1, h2.1.2, h2.2⟩
  · rintro ⟨l, h1, h2, h4, h3⟩
    have := oth_lt hw h1 h2
    have hn := hw.2.1
    exact ⟨by simp; omega, l, h1, by simp [h2, h3, h4]⟩
def into (N : Nt) (v p : Nat) : Bool := anyB (nk N) (fun l => atB N l p && ldB N l p && v.testBit (oth N l p))
theorem into_iff {N : Nt} {v p : Nat} : into N v p = true ↔ ∃ q, ldsT N p q ∧ v.testBit q = true := by
  unfold into
  rw [anyB_iff]
  constructor
  · rintro ⟨l, h1, h2⟩
    simp at h2
    exact ⟨_, ⟨l, h1, h2.1.1, h2.1.2, rfl⟩, h2.2⟩
  · rintro ⟨q, ⟨l, h1, h2, h3, h4⟩, h5⟩
    exact ⟨l, h1, by simp [h2, h3, h4, h5]⟩
def kerB (N : Nt) (v : Nat) : Nat → Bool
  | 0 => true
  | i + 1 => kerB N v i && (v.testBit i != into N v i)
theorem ker_iff {N : Nt} {v : Nat} : ∀ m, kerB N v m = true ↔ ∀ p, p < m → (v.testBit p != into N v p) = true
  | 0 => by simp [kerB]
  | m + 1 => by
    rw [kerB, Bool.and_eq_true, ker_iff m]
    constructor
    · rintro ⟨h1, h2⟩ p hp
      by_cases e : p = m
      · subst e; exact h2
      · exact h1 p (by omega)
    · intro h
      exact ⟨fun p hp => h p (by omega), h m (by omega)⟩
theorem ahd_and {N : Nt} (hw : nwf N) (v p : Nat) : (ahd N p &&& v = 0) = (into N v p = false) := by
  apply propext
  constructor
  · intro h
    cases hi : into N v p
    · rfl
    · obtain ⟨q, h1, h2⟩ := into_iff.mp hi
      have := congrArg (fun x => x.testBit q) h
      simp only [Nat.testBit_and, Nat.zero_testBit, (ahd_tb hw p q).mpr h1, h2] at this
      cases this
  · intro h
    apply Nat.eq_of_testBit_eq
    intro q
    rw [Nat.testBit_and, Nat.zero_testBit]
    cases h1 : (ahd N p).testBit q
    · rfl
    · cases h2 : v.testBit q
      · rfl
      · rw [into_iff.mpr ⟨q, (ahd_tb hw p q).mp h1, h2⟩] at h; cases h
theorem X_isKernel {N : Nt} {σ : S3} (hw : nwf N) (h : RX 1 N σ) {v : Nat} (hv : v < 2147483648) : F_X2_isKernel 1 (nI v) σ = some (b2i (kerB N v (nn N)), σ) := by
  have hn := hw.2.1
  have lp : ∀ (d n i : Nat), i + d = nn N → d < n → kerB N v i = true → zl1 (Fb_X2_isKernel_2 1 (nI v)) n (nI i) σ = some (b2i (kerB N v (nn N)), σ) := by
    intro d
    induction d with
    | zero =>
      intro n i hi hn' hk
      obtain ⟨n, rfl⟩ : ∃ m, n = m + 1 := ⟨n - 1, by omega⟩
      have e : i = nn N := by omega
      subst e
      rw [zl1_s]
      generalize zl1 (Fb_X2_isKernel_2 1 (nI v)) n = K
      unfold Fb_X2_isKernel_2
      rw [hk]
      simp (disch := omega) only [ckN, ixN, nI_add, subN, mulN, eqN, leN, ltN, bdE, nmE, hasN, shl1, orN, andN, b2i_0, b2i_1, ↓reduceIte, Nat.reduceEqDiff, Nat.reduceLeDiff, li0, li1, li2, li3, li4, li5, li6, li7, li8, li9, li10, li12, li13, li15, li16, li20, li24, li32, li60, li63, li255, li300, li511, li1000, li1023, li4095, li8191, h.1, Nat.le_refl]
      rfl
    | succ d ih =>
      intro n i hi hn' hk
      obtain ⟨n, rfl⟩ : ∃ m, n = m + 1 := ⟨n - 1, by omega⟩
      have ih' := ih n (i + 1) (by omega) (by omega)
      rw [kerB, hk, Bool.true_and] at ih'
      have hfin : (v.testBit i != into N v i) = false → kerB N v (nn N) = false := by
        intro hf
        cases hx : kerB N v (nn N)
        · rfl
        · have := (ker_iff (nn N)).mp hx i (by omega)
          rw [hf] at this; cases this
      have hal : ahd N i &&& v < 2147483648 := Nat.lt_of_le_of_lt Nat.and_le_right hv
      rw [zl1_s]
      generalize zl1 (Fb_X2_isKernel_2 1 (nI v)) n = K at ih' ⊢
      unfold Fb_X2_isKernel_2 F_X2_isKernel_23 F_X2_isKernel_40
      simp (disch := omega) only [ckN, ixN, nI_add, subN, mulN, eqN, leN, ltN, bdE, nmE, hasN, shl1, orN, andN, b2i_0, b2i_1, ↓reduceIte, Nat.reduceEqDiff, Nat.reduceLeDiff, li0, li1, li2, li3, li4, li5, li6, li7, li8, li9, li10, li12, li13, li15, li16, li20, li24, li32, li60, li63, li255, li300, li511, li1000, li1023, li4095, li8191, h.1, show ¬ nn N ≤ i by omega, (h.2.2.2 i (show i < 16 by omega)).2.2.2.2, ahd_and hw]
      cases h1 : v.testBit i <;> cases h2 : into N v i <;> rw [h1, h2] at ih' hfin
      · rw [hfin rfl]; simp (disch := omega) only [ckN, ixN, nI_add, subN, mulN, eqN, leN, ltN, bdE, nmE, hasN, shl1, orN, andN, b2i_0, b2i_1, ↓reduceIte, Nat.reduceEqDiff, Nat.reduceLeDiff, li0, li1, li2, li3, li4, li5, li6, li7, li8, li9, li10, li12, li13, li15, li16, li20, li24, li32, li60, li63, li255, li300, li511, li1000, li1023, li4095, li8191, Bool.false_eq_true, Bool.true_eq_false]; rfl
      · simp only [if_true, Bool.true_eq_false, if_false, n0_1]; exact ih' rfl
      · simp only [if_true, Bool.true_eq_false, if_false, n1_0]; exact ih' rfl
      · rw [hfin rfl]; simp (disch := omega) only [ckN, ixN, nI_add, subN, mulN, eqN, leN, ltN, bdE, nmE, hasN, shl1, orN, andN, b2i_0, b2i_1, ↓reduceIte, Nat.reduceEqDiff, Nat.reduceLeDiff, li0, li1, li2, li3, li4, li5, li6, li7, li8, li9, li10, li12, li13, li15, li16, li20, li24, li32, li60, li63, li255, li300, li511, li1000, li1023, li4095, li8191, Bool.false_eq_true, Bool.true_eq_false]; rfl
  unfold F_X2_isKernel F_X2_isKernel_2
  exact lp (nn N) zF 0 (by omega) (zfl (by omega)) rfl
/-- the points of the first lines that lead into v -/
def kin (N : Nt) (v : Nat) : Nat → Nat
  | 0 => 0
  | i + 1 => (kin N v i ||| (if ldB N i (nf N i) && v.testBit (nt N i) then 2 ^ nf N i else 0)) ||| (if ldB N i (nt N i) && v.testBit (nf N i) then 2 ^ nt N i else 0)
def kbad (N : Nt) (v i : Nat) : Bool := v.testBit (nf N i) && v.testBit (nt N i) && (ldB N i (nf N i) || ldB N i (nt N i))
theorem kin_tb {N : Nt} (v p : Nat) : ∀ i, (kin N v i).testBit p = true ↔ ∃ l, l < i ∧ atB N l p = true ∧ ldB N l p = true ∧ v.testBit (oth N l p) = true
  | 0 => by simp [kin]
  | i + 1 => by
    rw [kin, Nat.testBit_or, Nat.testBit_or, Bool.or_eq_true, Bool.or_eq_true, kin_tb v p i]
    have hif : ∀ (b : Bool) (x : Nat), (if b = true then 2 ^ x else 0).testBit p = true ↔ b = true ∧ x = p := by
      intro b x
      cases b
      · simp
      · simp [Nat.testBit_two_pow]
    rw [hif, hif]
    constructor
    · rintro ((⟨l, h1, h2⟩ | ⟨h1, h2⟩) | ⟨h1, h2⟩)
      · exact ⟨l, by omega, h2⟩
      · simp at h1
        subst h2
        exact ⟨i, by omega, atB_iff.mpr (Or.inl rfl), h1.1, by rw [oth_f rfl]; exact h1.2⟩
      · simp at h1
        subst h2
        exact ⟨i, by omega, atB_iff.mpr (Or.inr rfl), h1.1, by rw [oth_t rfl]; exact h1.2⟩
    · rintro ⟨l, h1, h2, h3, h4⟩
      by_cases e : l = i
      · subst e
        rcases atB_iff.mp h2 with e | e
        · subst e
          rw [oth_f rfl] at h4
          exact Or.inl (Or.inr ⟨by simp [h3, h4], rfl⟩)
        · subst e
          rw [oth_t rfl] at h4
          exact Or.inr ⟨by simp [h3, h4], rfl⟩
      · exact Or.inl (Or.inl ⟨l, by omega, h2, h3, h4⟩)
theorem kin_lt {N : Nt} (hw : nwf N) (v : Nat) : ∀ i, i ≤ nk N → kin N v i < 2 ^ nn N := by
  intro i hi
  apply lt_of_tb
  intro p hp
  obtain ⟨l, h1, h2, _⟩ := (kin_tb v p i).mp hp
  exact at_lt hw (by omega) h2
theorem M_k76 {τ : S3} {K : Int32 → Int32 → S3 → R3} {v V i a b : Nat} {L1 L2 : Bool} (hv : v < 2147483648) (ha : a < 32) (hb : b < 32) : F_X9_isKernel_76 K (nI v) (nI V) (nI i) (nI a) (nI b) (b2i L1) (b2i L2) τ = K (nI ((V ||| (if L1 && v.testBit b then 2 ^ a else 0)) ||| (if L2 && v.testBit a then 2 ^ b else 0))) (nI (i + 1)) τ := by
  have h99 : ∀ s0 : Nat, F_X9_isKernel_99 K (nI v) (nI i) (nI a) (nI b) (b2i L2) (nI s0) (nI V) τ = K (nI ((V ||| s0) ||| (if L2 && v.testBit a then 2 ^ b else 0))) (nI (i + 1)) τ := by
    intro s0
    unfold F_X9_isKernel_99
    rw [nmE, M_has hv ha, bdE]
    simp (disch := omega) only [ckN, ixN, nI_add, subN, mulN, eqN, leN, ltN, bdE, nmE, hasN, shl1, orN, andN, b2i_0, b2i_1, ↓reduceIte, Nat.reduceEqDiff, Nat.reduceLeDiff, li0, li1, li2, li3, li4, li5, li6, li7, li8, li9, li10, li12, li13, li15, li16, li20, li24, li32, li60, li63, li255, li300, li511, li1000, li1023, li4095, li8191]
    cases L2 <;> cases v.testBit a <;> simp
  unfold F_X9_isKernel_76
  rw [M_has hv hb, bdE, li0, li1, shl1 ha, h99, h99]
  cases L1 <;> cases v.testBit b <;> simp [b2i_0]
theorem M_isKernel {N : Nt} {τ : S3} (hw : nwf N) (h : RM N τ) {v : Nat} (hv : v < 2 ^ nn N) : F_X9_isKernel (nI v) τ = some (b2i (kerB N v (nn N)), τ) := by
  have hn := hw.2.1
  have hk := hw.2.2.1
  have hv2 := p10 hw hv
  have lp : ∀ (d n i : Nat), i + d = nk N → d < n → (∀ l, l < i → kbad N v l = false) → zl2 (Fb_X9_isKernel_4 (nI v)) n (nI (kin N v i)) (nI i) τ = some (b2i (kerB N v (nn N)), τ) := by
    intro d
    induction d with
    | zero =>
      intro n i hi hn' hb
      obtain ⟨n, rfl⟩ : ∃ m, n = m + 1 := ⟨n - 1, by omega⟩
      have e : i = nk N := by omega
      subst e
      rw [zl2_s]
      generalize zl2 (Fb_X9_isKernel_4 (nI v)) n = K
      unfold Fb_X9_isKernel_4
      have hkl := kin_lt hw v (nk N) (Nat.le_refl _)
      have hor := p10 hw (or_lt hkl hv)
      have hal := all_lt hw
      have hq : (kin N v (nk N) ||| v = 2 ^ nn N - 1) = (kerB N v (nn N) = true) := by
        apply propext
        rw [ker_iff]
        have hi : ∀ p, into N v p = (kin N v (nk N)).testBit p := by
          intro p
          rw [Bool.eq_iff_iff, into_iff, kin_tb]
          constructor
          · rintro ⟨q, ⟨l, h1, h2, h3, h4⟩, h5⟩; exact ⟨l, h1, h2, h3, by rw [h4]; exact h5⟩
          · rintro ⟨l, h1, h2, h3, h4⟩; exact ⟨_, ⟨l, h1, h2, h3, rfl⟩, h4⟩
        have hx : ∀ p, v.testBit p = true → (kin N v (nk N)).testBit p = false := by
          intro p hp
          cases hz : (kin N v (nk N)).testBit p
          · rfl
          · obtain ⟨l, h1, h2, h3, h4⟩ := (kin_tb v p (nk N)).mp hz
            have := hb l h1
            unfold kbad at this
            rcases atB_iff.mp h2 with e | e
            · subst e
              rw [oth_f rfl] at h4
              rw [hp, h4, h3] at this
              simp at this
            · subst e
              rw [oth_t rfl] at h4
              rw [hp, h4, h3] at this
              simp at this
        constructor
        · intro he p hp
          have := congrArg (fun x => x.testBit p) he
          simp only [Nat.testBit_or, Nat.testBit_two_pow_sub_one, hp, decide_true] at this
          rw [hi p]
          cases h1 : v.testBit p
          · rw [h1] at this
            rw [Bool.or_false] at this
            rw [this]; rfl
          · rw [hx p h1]; rfl
        · intro ha
          apply set_ext (or_lt hkl hv) (by have := Nat.two_pow_pos (nn N); omega)
          intro p hp
          rw [Nat.testBit_or, Nat.testBit_two_pow_sub_one]
          have := ha p hp
          rw [hi p] at this
          simp only [hp, decide_true]
          cases h1 : v.testBit p
          · rw [h1] at this
            cases h2 : (kin N v (nk N)).testBit p
            · rw [h2] at this; cases this
            · rfl
          · simp
      simp (disch := omega) only [ckN, ixN, nI_add, subN, mulN, eqN, leN, ltN, bdE, nmE, hasN, shl1, orN, andN, b2i_0, b2i_1, ↓reduceIte, Nat.reduceEqDiff, Nat.reduceLeDiff, li0, li1, li2, li3, li4, li5, li6, li7, li8, li9, li10, li12, li13, li15, li16, li20, li24, li32, li60, li63, li255, li300, li511, li1000, li1023, li4095, li8191, h.2.1, Nat.le_refl, M_all h hw, hq]
      cases kerB N v (nn N) <;> rfl
    | succ d ih =>
      intro n i hi hn' hb
      obtain ⟨n, rfl⟩ : ∃ m, n = m + 1 := ⟨n - 1, by omega⟩
      have hil : i < nk N := by omega
      have h1 := hw.2.2.2 i hil
      have h2 := h.2.2 i hil
      have ih' := ih n (i + 1) (by omega) (by omega)
      rw [kin] at ih'
      have hgo : kbad N v i = false → ∀ l, l < i + 1 → kbad N v l = false := by
        intro hf l hl
        by_cases e : l = i
        · subst e; exact hf
        · exact hb l (by omega)
      have hbad : kbad N v i = true → kerB N v (nn N) = false := by
        intro hf
        cases hx : kerB N v (nn N)
        · rfl
        · unfold kbad at hf
          simp at hf
          have a1 := (ker_iff (nn N)).mp hx (nf N i) h1.1
          have a2 := (ker_iff (nn N)).mp hx (nt N i) h1.2.1
          rw [hf.1.1] at a1
          rw [hf.1.2] at a2
          rcases hf.2 with e | e
          · rw [into_iff.mpr ⟨nt N i, ⟨i, hil, atB_iff.mpr (Or.inl rfl), e, oth_f rfl⟩, hf.1.2⟩] at a1; cases a1
          · rw [into_iff.mpr ⟨nf N i, ⟨i, hil, atB_iff.mpr (Or.inr rfl), e, oth_t rfl⟩, hf.1.1⟩] at a2; cases a2
      rw [zl2_s]
      generalize zl2 (Fb_X9_isKernel_4 (nI v)) n = K at ih' ⊢
      have L1 := M_leads hw h hil (show nf N i < 2147483648 by omega)
      have L2 := M_leads hw h hil (show nt N i < 2147483648 by omega)
      have H1 : F_X9_has (nI v) (nI (nf N i)) τ = _ := M_has (show v < 2147483648 by omega) (show nf N i < 32 by omega)
      have H2 : F_X9_has (nI v) (nI (nt N i)) τ = _ := M_has (show v < 2147483648 by omega) (show nt N i < 32 by omega)
      unfold Fb_X9_isKernel_4
      rw [if_neg (by rw [h.2.1, leN (by omega) (by omega)]; omega), ckN (by omega) (by omega), ixN (by omega), h2.1, nmE, ckN (by omega) (by omega), h2.2.1, nmE, L1, bdE, L2, bdE, H1, bdE, H2, bdE, M_k76 (show v < 2147483648 by omega) (show nf N i < 32 by omega) (show nt N i < 32 by omega)]
      cases hkb : kbad N v i
      · have hih := ih' (hgo hkb)
        unfold kbad at hkb
        cases c1 : v.testBit (nf N i) <;> cases c2 : v.testBit (nt N i) <;> cases c3 : ldB N i (nf N i) <;> cases c4 : ldB N i (nt N i) <;> rw [c1, c2, c3, c4] at hkb hih <;> first | exact hih | cases hkb
      · rw [hbad hkb]
        unfold kbad at hkb
        cases c1 : v.testBit (nf N i) <;> cases c2 : v.testBit (nt N i) <;> cases c3 : ldB N i (nf N i) <;> cases c4 : ldB N i (nt N i) <;> rw [c1, c2, c3, c4] at hkb <;> first | rfl | cases hkb
  unfold F_X9_isKernel F_X9_isKernel_4
  exact lp (nk N) zF 0 (by omega) (zfl (by omega)) (fun l hl => absurd hl (by omega))
/-- an answer, or error k -/
noncomputable def a8 (k : Int32) (e : Option Int32) (σ : S3) : R3 := match e with
  | some r => some (r, σ)
  | none => bd (F_X8_fail k σ) (fun r s => some (r, s))
noncomputable def a9 (k : Int32) (e : Option Int32) (τ : S3) : R3 := match e with
  | some r => some (r, τ)
  | none => bd (F_X9_no k τ) (fun r s => some (r, s))
theorem kern_pair {N : Nt} {σ τ : S3} (hw : nwf N) (hX : RX 1 N σ) (hM : RM N τ) (v1 : Int32) : ∀ (d n n' v : Nat) (c : Int32), v + d = 2 ^ nn N → d < n → d < n' → ∃ e, zl2 (Fb_X8_kernel_15 v1) n c (nI v) σ = a8 2 e σ ∧ zl2 (Fb_X9_kernel_15 v1) n' c (nI v) τ = a9 2 e τ := by
  have hal := all_lt hw
  have hpos := Nat.two_pow_pos (nn N)
  intro d
  induction d with
  | zero =>
    intro n n' v c hv hn hn'
    obtain ⟨n, rfl⟩ : ∃ m, n = m + 1 := ⟨n - 1, by omega⟩
    obtain ⟨n', rfl⟩ : ∃ m, n' = m + 1 := ⟨n' - 1, by omega⟩
    refine ⟨if v1 = -1 then some c else none, ?_, ?_⟩
    · rw [zl2_s]
      generalize zl2 (Fb_X8_kernel_15 v1) n = K
      unfold Fb_X8_kernel_15
      rw [X_everyPoint hw hX, bdE, if_pos (by rw [ltN (by omega) (by omega)]; omega)]
      by_cases e : v1 = -1
      · rw [if_pos e, if_pos e]; rfl
      · rw [if_neg e, if_neg e]; rfl
    · rw [zl2_s]
      generalize zl2 (Fb_X9_kernel_15 v1) n' = K
      unfold Fb_X9_kernel_15
      rw [M_all hM hw, bdE, if_pos (by rw [ltN (by omega) (by omega)]; omega)]
      by_cases e : v1 = -1
      · rw [if_pos e, if_pos e]; rfl
      · rw [if_neg e, if_neg e]; rfl
  | succ d ih =>
    intro n n' v c hv hn hn'
    obtain ⟨n, rfl⟩ : ∃ m, n = m + 1 := ⟨n - 1, by omega⟩
    obtain ⟨n', rfl⟩ : ∃ m, n' = m + 1 := ⟨n' - 1, by omega⟩
    have ihn := ih n n' (v + 1)
    rw [zl2_s, zl2_s]
    generalize zl2 (Fb_X8_kernel_15 v1) n = K at ihn ⊢
    generalize zl2 (Fb_X9_kernel_15 v1) n' = K' at ihn ⊢
    unfold Fb_X8_kernel_15 Fb_X9_kernel_15
    rw [X_everyPoint hw hX, bdE, M_all hM hw, bdE, if_neg (by rw [ltN (by omega) (by omega)]; omega), if_neg (by rw [ltN (by omega) (by omega)]; omega), X_isKernel hw hX (by omega), bdE, M_isKernel hw hM (by omega), bdE]
    cases kerB N v (nn N)
    · simp (disch := omega) only [ckN, ixN, nI_add, subN, mulN, eqN, leN, ltN, bdE, nmE, hasN, shl1, orN, andN, b2i_0, b2i_1, ↓reduceIte, Nat.reduceEqDiff, Nat.reduceLeDiff, li0, li1, li2, li3, li4, li5, li6, li7, li8, li9, li10, li12, li13, li15, li16, li20, li24, li32, li60, li63, li255, li300, li511, li1000, li1023, li4095, li8191, eq_self]
      exact ihn c (by omega) (by omega) (by omega)
    · by_cases e : c = v1
      · refine ⟨some (nI v), ?_, ?_⟩
        · simp (disch := omega) only [ckN, ixN, nI_add, subN, mulN, eqN, leN, ltN, bdE, nmE, hasN, shl1, orN, andN, b2i_0, b2i_1, ↓reduceIte, Nat.reduceEqDiff, Nat.reduceLeDiff, li0, li1, li2, li3, li4, li5, li6, li7, li8, li9, li10, li12, li13, li15, li16, li20, li24, li32, li60, li63, li255, li300, li511, li1000, li1023, li4095, li8191, e, Bool.true_eq_false]; rfl
        · simp (disch := omega) only [ckN, ixN, nI_add, subN, mulN, eqN, leN, ltN, bdE, nmE, hasN, shl1, orN, andN, b2i_0, b2i_1, ↓reduceIte, Nat.reduceEqDiff, Nat.reduceLeDiff, li0, li1, li2, li3, li4, li5, li6, li7, li8, li9, li10, li12, li13, li15, li16, li20, li24, li32, li60, li63, li255, li300, li511, li1000, li1023, li4095, li8191, e, Bool.true_eq_false]; rfl
      · obtain ⟨e', h1, h2⟩ := ihn (c + nI 1) (by omega) (by omega) (by omega)
        refine ⟨e', ?_, ?_⟩
        · simp (disch := omega) only [ckN, ixN, nI_add, subN, mulN, eqN, leN, ltN, bdE, nmE, hasN, shl1, orN, andN, b2i_0, b2i_1, ↓reduceIte, Nat.reduceEqDiff, Nat.reduceLeDiff, li0, li1, li2, li3, li4, li5, li6, li7, li8, li9, li10, li12, li13, li15, li16, li20, li24, li32, li60, li63, li255, li300, li511, li1000, li1023, li4095, li8191, e, Bool.true_eq_false]; exact h1
        · simp (disch := omega) only [ckN, ixN, nI_add, subN, mulN, eqN, leN, ltN, bdE, nmE, hasN, shl1, orN, andN, b2i_0, b2i_1, ↓reduceIte, Nat.reduceEqDiff, Nat.reduceLeDiff, li0, li1, li2, li3, li4, li5, li6, li7, li8, li9, li10, li12, li13, li15, li16, li20, li24, li32, li60, li63, li255, li300, li511, li1000, li1023, li4095, li8191, e, Bool.true_eq_false]; exact h2
theorem into0 (N : Nt) (p : Nat) : into N 0 p = false := by
  cases h : into N 0 p
  · rfl
  · obtain ⟨q, _, h2⟩ := into_iff.mp h
    simp at h2
theorem kern_all {N : Nt} {σ τ : S3} (hw : nwf N) (hX : RX 1 N σ) (hM : RM N τ) (v1 : Int32) : ∃ k e, F_X8_kernel v1 σ = a8 k e σ ∧ F_X9_kernel v1 τ = a9 k e τ ∧ (k = 1 ∨ k = 2) := by
  have hal := all_lt hw
  have hpos : 1 < 2 ^ nn N := Nat.one_lt_two_pow (by have := hw.1; omega)
  unfold F_X8_kernel F_X9_kernel
  by_cases e : (-1) ≤ v1
  · rw [if_pos e, if_pos e]
    have hz : zF = 99999 + 1 := rfl
    obtain ⟨e', h1, h2⟩ := kern_pair hw hX hM v1 (2 ^ nn N - 1) zF 99999 1 (nI 0) (by omega) (zfl (by omega)) (by omega)
    refine ⟨2, e', ?_, ?_, Or.inr rfl⟩
    · unfold F_X8_kernel_15
      exact h1
    · unfold F_X9_kernel_15
      rw [hz, zl2_s]
      generalize zl2 (Fb_X9_kernel_15 v1) 99999 = K' at h2 ⊢
      unfold Fb_X9_kernel_15
      have hk0 : kerB N 0 (nn N) = false := by
        cases hx : kerB N 0 (nn N)
        · rfl
        · have := (ker_iff (nn N)).mp hx 0 (by have := hw.1; omega)
          rw [into0] at this
          simp at this
      rw [li0, M_all hM hw, bdE, if_neg (by rw [ltN (by omega) (by omega)]; omega), M_isKernel hw hM (by omega), bdE, hk0]
      simp (disch := omega) only [ckN, ixN, nI_add, subN, mulN, eqN, leN, ltN, bdE, nmE, hasN, shl1, orN, andN, b2i_0, b2i_1, ↓reduceIte, Nat.reduceEqDiff, Nat.reduceLeDiff, li0, li1, li2, li3, li4, li5, li6, li7, li8, li9, li10, li12, li13, li15, li16, li20, li24, li32, li60, li63, li255, li300, li511, li1000, li1023, li4095, li8191, eq_self]
      exact h2
  · rw [if_neg e, if_neg e]
    exact ⟨1, none, rfl, rfl, Or.inl rfl⟩
