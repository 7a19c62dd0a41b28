/-! PURE: sides, the class -/
def adj (N : Nt) (p q : Nat) : Prop := ∃ l, l < nk N ∧ atB N l p = true ∧ oth N l p = q
theorem adj_sym {N : Nt} {p q : Nat} (h : adj N p q) : adj N q p := by
  obtain ⟨l, h1, h2, h3⟩ := h
  subst h3
  exact ⟨l, h1, at_oth h2, oth_oth h2⟩
theorem adj_lt {N : Nt} (hw : nwf N) {p q : Nat} (h : adj N p q) : p < nn N ∧ q < nn N := by
  obtain ⟨l, h1, h2, h3⟩ := h
  subst h3
  exact ⟨at_lt hw h1 h2, oth_lt hw h1 h2⟩
theorem bsd_tb {N : Nt} (hw : nwf N) (p q : Nat) : (bsd N p).testBit q = true ↔ adj N p q := by
  unfold bsd
  rw [bset_tb, Bool.and_eq_true, anyB_iff]
  constructor
  · rintro ⟨_, l, h1, h2⟩
    simp at h2
    exact ⟨l, h1, h2.1, h2.2⟩
  · intro h
    have := adj_lt hw h
    have hn := hw.2.1
    obtain ⟨l, h1, h2, h3⟩ := h
    exact ⟨by simp; omega, l, h1, by simp [h2, h3]⟩
def nbl (N : Nt) (S : Nat) : Nat → Nat
  | 0 => 0
  | i + 1 => if S.testBit i then nbl N S i ||| bsd N i else nbl N S i
def nb (N : Nt) (S : Nat) : Nat := nbl N S (nn N)
theorem nbl_tb {N : Nt} (hw : nwf N) (S q : Nat) : ∀ i, (nbl N S i).testBit q = true ↔ ∃ p, p < i ∧ S.testBit p = true ∧ adj N p q
  | 0 => by simp [nbl]
  | i + 1 => by
    rw [nbl]
    cases hS : S.testBit i
    · simp only [Bool.false_eq_true, if_false]
      rw [nbl_tb hw S q i]
      constructor
      · rintro ⟨p, h1, h2⟩; exact ⟨p, by omega, h2⟩
      · rintro ⟨p, h1, h2, h3⟩
        by_cases e : p = i
        · subst e; rw [hS] at h2; cases h2
        · exact ⟨p, by omega, h2, h3⟩
    · simp only [if_true]
      rw [Nat.testBit_or, Bool.or_eq_true, nbl_tb hw S q i, bsd_tb hw]
      constructor
      · rintro (⟨p, h1, h2⟩ | h)
        · exact ⟨p, by omega, h2⟩
        · exact ⟨i, by omega, hS, h⟩
      · rintro ⟨p, h1, h2, h3⟩
        by_cases e : p = i
        · subst e; exact Or.inr h3
        · exact Or.inl ⟨p, by omega, h2, h3⟩
theorem nb_tb {N : Nt} (hw : nwf N) (S q : Nat) : (nb N S).testBit q = true ↔ ∃ p, S.testBit p = true ∧ adj N p q := by
  unfold nb
  rw [nbl_tb hw]
  constructor
  · rintro ⟨p, _, h2⟩; exact ⟨p, h2⟩
  · rintro ⟨p, h2, h3⟩; exact ⟨p, (adj_lt hw h3).1, h2, h3⟩
theorem lt_of_tb {x m : Nat} (h : ∀ i, x.testBit i = true → i < m) : x < 2 ^ m := by
  apply Nat.lt_pow_two_of_testBit
  intro i hi
  cases hb : x.testBit i
  · rfl
  · have := h i hb; omega
theorem nb_lt {N : Nt} (hw : nwf N) (S : Nat) : nb N S < 2 ^ nn N := by
  apply lt_of_tb
  intro q hq
  rw [nb_tb hw] at hq
  obtain ⟨p, _, h⟩ := hq
  exact (adj_lt hw h).2
theorem p10 {N : Nt} (hw : nwf N) {x : Nat} (h : x < 2 ^ nn N) : x < 1024 := Nat.lt_of_lt_of_le h (Nat.pow_le_pow_right (n := 2) (j := 10) (by omega) hw.2.1)
def rd (N : Nt) (q : Nat × Nat) : Nat × Nat := (q.1 ||| nb N (q.2 ||| nb N q.1), q.2 ||| nb N q.1)
def rdn (N : Nt) : Nat → Nat × Nat → Nat × Nat
  | 0, q => q
  | r + 1, q => rdn N r (rd N q)
def so (N : Nt) : Nat → Nat × Nat
  | 0 => (0, 0)
  | v + 1 => rdn N (nn N) (if ((so N v).1 ||| (so N v).2).testBit v then so N v else ((so N v).1 ||| 2 ^ v, (so N v).2))
def bd2 (N : Nt) (q : Nat × Nat) : Prop := q.1 < 2 ^ nn N ∧ q.2 < 2 ^ nn N
theorem bd2_rd {N : Nt} (hw : nwf N) {q : Nat × Nat} (h : bd2 N q) : bd2 N (rd N q) := ⟨or_lt h.1 (nb_lt hw _), or_lt h.2 (nb_lt hw _)⟩
theorem bd2_rdn {N : Nt} (hw : nwf N) : ∀ r q, bd2 N q → bd2 N (rdn N r q)
  | 0, _, h => h
  | r + 1, q, h => bd2_rdn hw r _ (bd2_rd hw h)
theorem bd2_so {N : Nt} (hw : nwf N) : ∀ v, v ≤ nn N → bd2 N (so N v)
  | 0, _ => ⟨Nat.two_pow_pos _, Nat.two_pow_pos _⟩
  | v + 1, h => by
    have ih := bd2_so hw v (by omega)
    rw [so]
    apply bd2_rdn hw
    split
    · exact ih
    · exact ⟨or_lt ih.1 (p2_lt (by omega)), ih.2⟩
section
variable {c : Nat} {N : Nt} {σ : S3}
theorem X_neighbours (hw : nwf N) (h : RX c N σ) {S : Nat} (hS : S < 2147483648) : F_X2_neighbours c (nI S) σ = some (nI (nb N S), σ) := by
  have hn := hw.2.1
  have lp : ∀ (d n i : Nat), i + d = nn N → d < n → zl2 (Fb_X2_neighbours_4 c (nI S)) n (nI (nbl N S i)) (nI i) σ = some (nI (nb N S), σ) := by
    intro d
    induction d with
    | zero =>
      intro n i hi hn'
      obtain ⟨n, rfl⟩ : ∃ m, n = m + 1 := ⟨n - 1, by omega⟩
      have e : i = nn N := by omega
      subst e
      rw [zl2_s]
      generalize zl2 (Fb_X2_neighbours_4 c (nI S)) n = K
      unfold Fb_X2_neighbours_4
      simp (disch := omega) only [ckN, ixN, nI_add, subN, mulN, eqN, leN, ltN, bdE, nmE, hasN, shl1, orN, andN, b2i_0, b2i_1, ↓reduceIte, Nat.reduceEqDiff, Nat.reduceLeDiff, li0, li1, li2, li3, li4, li5, li6, li7, li8, li9, li10, li12, li13, li15, li16, li20, li24, li32, li60, li63, li255, li300, li511, li1000, li1023, li4095, li8191, h.1, Nat.le_refl]
      rfl
    | succ d ih =>
      intro n i hi hn'
      obtain ⟨n, rfl⟩ : ∃ m, n = m + 1 := ⟨n - 1, by omega⟩
      have ih' := ih n (i + 1) (by omega) (by omega)
      rw [nbl] at ih'
      rw [zl2_s]
      generalize zl2 (Fb_X2_neighbours_4 c (nI S)) n = K at ih' ⊢
      unfold Fb_X2_neighbours_4
      simp (disch := omega) only [ckN, ixN, nI_add, subN, mulN, eqN, leN, ltN, bdE, nmE, hasN, shl1, orN, andN, b2i_0, b2i_1, ↓reduceIte, Nat.reduceEqDiff, Nat.reduceLeDiff, li0, li1, li2, li3, li4, li5, li6, li7, li8, li9, li10, li12, li13, li15, li16, li20, li24, li32, li60, li63, li255, li300, li511, li1000, li1023, li4095, li8191, h.1, show ¬ nn N ≤ i by omega, (h.2.2.2 i (show i < 16 by omega)).2.2.2.1]
      cases hb : S.testBit i
      · rw [hb] at ih'
        simp only [if_true, Bool.false_eq_true, if_false] at ih' ⊢
        exact ih'
      · rw [hb] at ih'
        simp only [if_true, Bool.true_eq_false, if_false] at ih' ⊢
        exact ih'
  unfold F_X2_neighbours F_X2_neighbours_4
  exact lp (nn N) zF 0 (by omega) (zfl (by omega))
theorem X_sz33 (hw : nwf N) (h : RX c N σ) (K6 : Int32 → Int32 → Int32 → S3 → R3) (v : Nat) : ∀ (d n i : Nat) (q : Nat × Nat), i + d = nn N → d < n → bd2 N q → zl3 (Fb_X2_sideZero_33 c K6 (nI v)) n (nI q.1) (nI q.2) (nI i) σ = K6 (nI (rdn N d q).1) (nI (rdn N d q).2) (nI (v + 1)) σ := by
  have hn := hw.2.1
  intro d
  induction d with
  | zero =>
    intro n i q hi hn' hb
    obtain ⟨n, rfl⟩ : ∃ m, n = m + 1 := ⟨n - 1, by omega⟩
    have e : i = nn N := by omega
    subst e
    rw [zl3_s]
    generalize zl3 (Fb_X2_sideZero_33 c K6 (nI v)) n = K
    unfold Fb_X2_sideZero_33
    simp (disch := omega) only [ckN, ixN, nI_add, subN, mulN, eqN, leN, ltN, bdE, nmE, hasN, shl1, orN, andN, b2i_0, b2i_1, ↓reduceIte, Nat.reduceEqDiff, Nat.reduceLeDiff, li0, li1, li2, li3, li4, li5, li6, li7, li8, li9, li10, li12, li13, li15, li16, li20, li24, li32, li60, li63, li255, li300, li511, li1000, li1023, li4095, li8191, h.1, Nat.le_refl]
    rfl
  | succ d ih =>
    intro n i q hi hn' hb
    obtain ⟨n, rfl⟩ : ∃ m, n = m + 1 := ⟨n - 1, by omega⟩
    have ih' := ih n (i + 1) (rd N q) (by omega) (by omega) (bd2_rd hw hb)
    have h1 := p10 hw hb.1
    have h2 := p10 hw (bd2_rd hw hb).2
    have h2' : q.2 ||| nb N q.1 < 1024 := h2
    rw [zl3_s]
    generalize zl3 (Fb_X2_sideZero_33 c K6 (nI v)) n = K at ih' ⊢
    unfold Fb_X2_sideZero_33
    simp (disch := omega) only [ckN, ixN, nI_add, subN, mulN, eqN, leN, ltN, bdE, nmE, hasN, shl1, orN, andN, b2i_0, b2i_1, ↓reduceIte, Nat.reduceEqDiff, Nat.reduceLeDiff, li0, li1, li2, li3, li4, li5, li6, li7, li8, li9, li10, li12, li13, li15, li16, li20, li24, li32, li60, li63, li255, li300, li511, li1000, li1023, li4095, li8191, h.1, show ¬ nn N ≤ i by omega, X_neighbours hw h (show q.1 < 2147483648 by omega), X_neighbours hw h (show q.2 ||| nb N q.1 < 2147483648 by omega)]
    exact ih'
theorem X_sideZero (hw : nwf N) (h : RX c N σ) : F_X2_sideZero c σ = some (if (so N (nn N)).1 &&& (so N (nn N)).2 = 0 then nI (so N (nn N)).1 else -nI 1, σ) := by
  have hn := hw.2.1
  have lp : ∀ (d n v : Nat), v + d = nn N → d < n → zl3 (Fb_X2_sideZero_6 c) n (nI (so N v).1) (nI (so N v).2) (nI v) σ = some (if (so N (nn N)).1 &&& (so N (nn N)).2 = 0 then nI (so N (nn N)).1 else -nI 1, σ) := by
    intro d
    induction d with
    | zero =>
      intro n v hi hn'
      obtain ⟨n, rfl⟩ : ∃ m, n = m + 1 := ⟨n - 1, by omega⟩
      have e : v = nn N := by omega
      subst e
      have hb := bd2_so hw (nn N) (Nat.le_refl _)
      have h1 := p10 hw hb.1
      have hA : (so N (nn N)).1 &&& (so N (nn N)).2 < 2147483648 := Nat.lt_of_le_of_lt Nat.and_le_left (by omega)
      rw [zl3_s]
      generalize zl3 (Fb_X2_sideZero_6 c) n = K
      unfold Fb_X2_sideZero_6
      simp (disch := omega) only [ckN, ixN, nI_add, subN, mulN, eqN, leN, ltN, bdE, nmE, hasN, shl1, orN, andN, b2i_0, b2i_1, ↓reduceIte, Nat.reduceEqDiff, Nat.reduceLeDiff, li0, li1, li2, li3, li4, li5, li6, li7, li8, li9, li10, li12, li13, li15, li16, li20, li24, li32, li60, li63, li255, li300, li511, li1000, li1023, li4095, li8191, h.1, Nat.le_refl, m1]
      split <;> rfl
    | succ d ih =>
      intro n v hi hn'
      obtain ⟨n, rfl⟩ : ∃ m, n = m + 1 := ⟨n - 1, by omega⟩
      have ih' := ih n (v + 1) (by omega) (by omega)
      have hb := bd2_so hw v (by omega)
      have hor := p10 hw (or_lt hb.1 hb.2)
      rw [so] at ih'
      rw [zl3_s]
      generalize zl3 (Fb_X2_sideZero_6 c) n = K at ih' ⊢
      unfold Fb_X2_sideZero_6 F_X2_sideZero_33
      simp (disch := omega) only [ckN, ixN, nI_add, subN, mulN, eqN, leN, ltN, bdE, nmE, hasN, shl1, orN, andN, b2i_0, b2i_1, ↓reduceIte, Nat.reduceEqDiff, Nat.reduceLeDiff, li0, li1, li2, li3, li4, li5, li6, li7, li8, li9, li10, li12, li13, li15, li16, li20, li24, li32, li60, li63, li255, li300, li511, li1000, li1023, li4095, li8191, h.1, show ¬ nn N ≤ v by omega]
      cases ht : ((so N v).1 ||| (so N v).2).testBit v
      · rw [ht] at ih'
        simp only [if_true, Bool.false_eq_true, if_false] at ih' ⊢
        have := X_sz33 hw h K v (nn N) zF 0 ((so N v).1 ||| 2 ^ v, (so N v).2) (by omega) (zfl (by omega)) ⟨or_lt hb.1 (p2_lt (by omega)), hb.2⟩
        exact this.trans ih'
      · rw [ht] at ih'
        simp only [if_true, Bool.true_eq_false, if_false] at ih' ⊢
        have := X_sz33 hw h K v (nn N) zF 0 (so N v) (by omega) (zfl (by omega)) hb
        exact this.trans ih'
  unfold F_X2_sideZero F_X2_sideZero_6
  exact lp (nn N) zF 0 (by omega) (zfl (by omega))
end
theorem pc_sub {A B : Nat} (h : ∀ i, A.testBit i = true → B.testBit i = true) : ∀ m, pc A m ≤ pc B m ∧ (∀ j, j < m → A.testBit j = false → B.testBit j = true → pc A m + 1 ≤ pc B m)
  | 0 => ⟨Nat.le_refl _, fun j hj => absurd hj (Nat.not_lt_zero j)⟩
  | m + 1 => by
    have ih := pc_sub h m
    rw [pc, pc]
    have hm : (A.testBit m).toNat ≤ (B.testBit m).toNat := by
      cases ha : A.testBit m
      · simp
      · rw [h m ha]; simp
    refine ⟨by omega, fun j hj ha hb => ?_⟩
    by_cases e : j = m
    · subst e
      rw [ha, hb]
      simp
      omega
    · have := ih.2 j (by omega) ha hb
      omega
def cls (N : Nt) (q : Nat × Nat) : Prop := ∀ p r, adj N p r → (q.1.testBit p = true → q.2.testBit r = true) ∧ (q.2.testBit p = true → q.1.testBit r = true)
def hcl (N : Nt) (q : Nat × Nat) : Prop := ∀ p r, adj N p r → q.2.testBit p = true → q.1.testBit r = true
section
variable {N : Nt}
theorem rd_2 (hw : nwf N) (q : Nat × Nat) (j : Nat) : (rd N q).2.testBit j = true ↔ q.2.testBit j = true ∨ ∃ p, q.1.testBit p = true ∧ adj N p j := by
  show (q.2 ||| nb N q.1).testBit j = true ↔ _
  rw [Nat.testBit_or, Bool.or_eq_true, nb_tb hw]
theorem rd_1 (hw : nwf N) (q : Nat × Nat) (j : Nat) : (rd N q).1.testBit j = true ↔ q.1.testBit j = true ∨ ∃ p, (rd N q).2.testBit p = true ∧ adj N p j := by
  show (q.1 ||| nb N (rd N q).2).testBit j = true ↔ _
  rw [Nat.testBit_or, Bool.or_eq_true, nb_tb hw]
theorem hcl_rd (hw : nwf N) (q : Nat × Nat) : hcl N (rd N q) := fun p r ha h => (rd_1 hw q r).mpr (Or.inr ⟨p, h, ha⟩)
theorem cls_rd (hw : nwf N) {q : Nat × Nat} (h : cls N q) : rd N q = q := by
  have e2 : (rd N q).2 = q.2 := by
    apply Nat.eq_of_testBit_eq
    intro j
    rw [Bool.eq_iff_iff, rd_2 hw]
    constructor
    · rintro (a | ⟨p, a, b⟩)
      · exact a
      · exact (h p j b).1 a
    · exact Or.inl
  have e1 : (rd N q).1 = q.1 := by
    apply Nat.eq_of_testBit_eq
    intro j
    rw [Bool.eq_iff_iff, rd_1 hw, e2]
    constructor
    · rintro (a | ⟨p, a, b⟩)
      · exact a
      · exact (h p j b).2 a
    · exact Or.inl
  exact Prod.ext e1 e2
theorem cls_rdn (hw : nwf N) : ∀ r q, cls N q → rdn N r q = q
  | 0, _, _ => rfl
  | r + 1, q, h => by rw [rdn, cls_rd hw h, cls_rdn hw r q h]
theorem rd_grow (hw : nwf N) {q : Nat × Nat} (hb : bd2 N q) (h : hcl N q) (hn : ¬ cls N (rd N q)) : pc q.1 10 + pc q.2 10 + 2 ≤ pc (rd N q).1 10 + pc (rd N q).2 10 := by
  have hb' := bd2_rd hw hb
  have s1 := pc_sub (A := q.1) (B := (rd N q).1) (fun i hi => (rd_1 hw q i).mpr (Or.inl hi)) 10
  have s2 := pc_sub (A := q.2) (B := (rd N q).2) (fun i hi => (rd_2 hw q i).mpr (Or.inl hi)) 10
  have lt10 : ∀ x j, x < 2 ^ nn N → x.testBit j = true → j < 10 := by
    intro x j hx hj
    rcases Nat.lt_or_ge j 10 with h1 | h1
    · exact h1
    · rw [Nat.testBit_lt_two_pow (Nat.lt_of_lt_of_le (p10 hw hx) (Nat.pow_le_pow_right (n := 2) (i := 10) (by omega) h1))] at hj; cases hj
  have key1 : ∃ j, q.1.testBit j = false ∧ (rd N q).1.testBit j = true := by
    apply Classical.byContradiction
    intro hno
    apply hn
    intro p r ha
    refine ⟨fun hp => ?_, hcl_rd hw q p r ha⟩
    rw [rd_2 hw]
    refine Or.inr ⟨p, ?_, ha⟩
    cases hx : q.1.testBit p
    · exact absurd ⟨p, hx, hp⟩ hno
    · rfl
  obtain ⟨j, j1, j2⟩ := key1
  have key2 : ∃ i, q.2.testBit i = false ∧ (rd N q).2.testBit i = true := by
    rw [rd_1 hw] at j2
    rcases j2 with a | ⟨p, a, b⟩
    · rw [j1] at a; cases a
    · cases hx : q.2.testBit p
      · exact ⟨p, hx, a⟩
      · rw [h p j b hx] at j1; cases j1
  obtain ⟨i, i1, i2⟩ := key2
  have a1 := s1.2 j (lt10 _ _ hb'.1 j2) j1 j2
  have a2 := s2.2 i (lt10 _ _ hb'.2 i2) i1 i2
  omega
theorem rdn_cls (hw : nwf N) : ∀ r q, bd2 N q → hcl N q → cls N (rdn N r q) ∨ pc q.1 10 + pc q.2 10 + 2 * r ≤ pc (rdn N r q).1 10 + pc (rdn N r q).2 10
  | 0, q, _, _ => Or.inr (Nat.le_refl _)
  | r + 1, q, hb, h => by
    rw [rdn]
    by_cases hc : cls N (rd N q)
    · rw [cls_rdn hw r _ hc]; exact Or.inl hc
    · have g := rd_grow hw hb h hc
      rcases rdn_cls hw r (rd N q) (bd2_rd hw hb) (hcl_rd hw q) with a | a
      · exact Or.inl a
      · exact Or.inr (by omega)
theorem pc_n {x : Nat} (hw : nwf N) (h : x < 2 ^ nn N) : pc x 10 ≤ nn N := by
  have hn := hw.2.1
  have e := pc_x h (10 - nn N)
  rw [show nn N + (10 - nn N) = 10 by omega] at e
  rw [e]
  exact pc_le x (nn N)
theorem rdn_mono (hw : nwf N) : ∀ r q j, (q.1.testBit j = true → (rdn N r q).1.testBit j = true) ∧ (q.2.testBit j = true → (rdn N r q).2.testBit j = true)
  | 0, _, _ => ⟨id, id⟩
  | r + 1, q, j => ⟨fun h => (rdn_mono hw r (rd N q) j).1 ((rd_1 hw q j).mpr (Or.inl h)), fun h => (rdn_mono hw r (rd N q) j).2 ((rd_2 hw q j).mpr (Or.inl h))⟩
theorem so_cls (hw : nwf N) : ∀ v, v ≤ nn N → cls N (so N v) ∧ ∀ u, u < v → ((so N v).1 ||| (so N v).2).testBit u = true
  | 0, _ => ⟨fun p r _ => by simp [so], fun u hu => absurd hu (Nat.not_lt_zero u)⟩
  | v + 1, hv => by
    obtain ⟨ih1, ih2⟩ := so_cls hw v (by omega)
    have hb := bd2_so hw v (by omega)
    rw [so]
    cases ht : ((so N v).1 ||| (so N v).2).testBit v
    · simp only [Bool.false_eq_true, if_false]
      have hb2 : bd2 N ((so N v).1 ||| 2 ^ v, (so N v).2) := ⟨or_lt hb.1 (p2_lt (by omega)), hb.2⟩
      have hh : hcl N ((so N v).1 ||| 2 ^ v, (so N v).2) := by
        intro p r ha hp
        show ((so N v).1 ||| 2 ^ v).testBit r = true
        rw [tb_or2, (ih1 p r ha).2 hp]
        rfl
      have h1 : 1 ≤ pc ((so N v).1 ||| 2 ^ v) 10 := by
        have hn := hw.2.1
        have := (pc_sub (A := 0) (B := (so N v).1 ||| 2 ^ v) (fun i hi => by simp at hi) 10).2 v (by omega) (by simp) (by rw [tb_or2]; simp)
        omega
      refine ⟨?_, ?_⟩
      · rcases rdn_cls hw (nn N) _ hb2 hh with a | a
        · exact a
        · have hb3 := bd2_rdn hw (nn N) _ hb2
          have b1 := pc_n hw hb3.1
          have b2 := pc_n hw hb3.2
          simp only at a
          omega
      · intro u hu
        rw [Nat.testBit_or, Bool.or_eq_true]
        have hm := rdn_mono hw (nn N) ((so N v).1 ||| 2 ^ v, (so N v).2) u
        simp only at hm
        by_cases e : u = v
        · subst e
          exact Or.inl (hm.1 (by rw [tb_or2]; simp))
        · have := ih2 u (by omega)
          rw [Nat.testBit_or, Bool.or_eq_true] at this
          rcases this with a | a
          · exact Or.inl (hm.1 (by rw [tb_or2, a]; rfl))
          · exact Or.inr (hm.2 a)
    · simp only [if_true]
      rw [cls_rdn hw _ _ ih1]
      refine ⟨ih1, fun u hu => ?_⟩
      by_cases e : u = v
      · subst e; exact ht
      · exact ih2 u (by omega)
/-- two sides, told by who is on side 1 -/
def prop2 (N : Nt) (χ : Nat → Bool) : Prop := ∀ p r, adj N p r → χ p = !χ r
def firstZ (N : Nt) (χ : Nat → Bool) : Prop := ∀ v, v < nn N → χ v = false ∨ ∀ D : Nat → Prop, (∀ p r, adj N p r → D p → D r) → (∀ u, u < v → D u) → D v
def snd2 (χ : Nat → Bool) (q : Nat × Nat) : Prop := ∀ p, (q.1.testBit p = true → χ p = false) ∧ (q.2.testBit p = true → χ p = true)
theorem snd_rd (hw : nwf N) {χ : Nat → Bool} (hχ : prop2 N χ) {q : Nat × Nat} (h : snd2 χ q) : snd2 χ (rd N q) := by
  have h2 : ∀ p, (rd N q).2.testBit p = true → χ p = true := by
    intro p hp
    rw [rd_2 hw] at hp
    rcases hp with a | ⟨r, a, b⟩
    · exact (h p).2 a
    · have := hχ r p b
      rw [(h r).1 a] at this
      cases hx : χ p
      · rw [hx] at this; cases this
      · rfl
  intro p
  refine ⟨fun hp => ?_, h2 p⟩
  rw [rd_1 hw] at hp
  rcases hp with a | ⟨r, a, b⟩
  · exact (h p).1 a
  · have := hχ r p b
    rw [h2 r a] at this
    cases hx : χ p
    · rfl
    · rw [hx] at this; cases this
theorem snd_rdn (hw : nwf N) {χ : Nat → Bool} (hχ : prop2 N χ) : ∀ r q, snd2 χ q → snd2 χ (rdn N r q)
  | 0, _, h => h
  | r + 1, _, h => snd_rdn hw hχ r _ (snd_rd hw hχ h)
theorem snd_so (hw : nwf N) {χ : Nat → Bool} (hχ : prop2 N χ) (hf : firstZ N χ) : ∀ v, v ≤ nn N → snd2 χ (so N v)
  | 0, _ => fun p => by simp [so]
  | v + 1, hv => by
    have ih := snd_so hw hχ hf v (by omega)
    obtain ⟨c1, c2⟩ := so_cls hw v (by omega)
    rw [so]
    apply snd_rdn hw hχ
    cases ht : ((so N v).1 ||| (so N v).2).testBit v
    · simp only [Bool.false_eq_true, if_false]
      have hv0 : χ v = false := by
        rcases hf v (by omega) with a | a
        · exact a
        · have := a (fun p => ((so N v).1 ||| (so N v).2).testBit p = true) (fun p r hpr hp => by
            rw [Nat.testBit_or, Bool.or_eq_true] at hp ⊢
            rcases hp with x | x
            · exact Or.inr ((c1 p r hpr).1 x)
            · exact Or.inl ((c1 p r hpr).2 x)) c2
          rw [ht] at this; cases this
      intro p
      refine ⟨fun hp => ?_, (ih p).2⟩
      simp only at hp
      rw [tb_or2, Bool.or_eq_true] at hp
      rcases hp with a | a
      · exact (ih p).1 a
      · simp at a; rw [← a]; exact hv0
    · simp only [if_true]; exact ih
theorem X_sides_yes (hw : nwf N) {c : Nat} {σ : S3} (h : RX c N σ) {χ : Nat → Bool} (hχ : prop2 N χ) (hf : firstZ N χ) : F_X2_sideZero c σ = some (nI (bset (nn N) (fun p => !χ p)), σ) := by
  have hs := snd_so hw hχ hf (nn N) (Nat.le_refl _)
  obtain ⟨c1, c2⟩ := so_cls hw (nn N) (Nat.le_refl _)
  have hb := bd2_so hw (nn N) (Nat.le_refl _)
  rw [X_sideZero hw h]
  have h0 : (so N (nn N)).1 &&& (so N (nn N)).2 = 0 := by
    apply Nat.eq_of_testBit_eq
    intro j
    rw [Nat.testBit_and, Nat.zero_testBit]
    cases h1 : (so N (nn N)).1.testBit j
    · rfl
    · cases h2 : (so N (nn N)).2.testBit j
      · rfl
      · have a := (hs j).1 h1
        rw [(hs j).2 h2] at a; cases a
  rw [if_pos h0]
  congr 3
  apply set_ext hb.1 (bset_lt _ _)
  intro i hi
  rw [bset_tb]
  have := c2 i hi
  rw [Nat.testBit_or] at this
  cases h1 : (so N (nn N)).1.testBit i
  · rw [h1] at this
    rw [(hs i).2 (by simpa using this)]
    simp
  · rw [(hs i).1 h1]
    simp [hi]
theorem X_sides_no (hw : nwf N) {c : Nat} {σ : S3} (h : RX c N σ) (hno : ∀ χ, ¬ prop2 N χ) : F_X2_sideZero c σ = some (-nI 1, σ) := by
  obtain ⟨c1, c2⟩ := so_cls hw (nn N) (Nat.le_refl _)
  rw [X_sideZero hw h, if_neg]
  intro h0
  have hd : ∀ j, (so N (nn N)).1.testBit j = true → (so N (nn N)).2.testBit j = false := by
    intro j hj
    have := congrArg (fun x => x.testBit j) h0
    simp only [Nat.testBit_and, Nat.zero_testBit, hj, Bool.true_and] at this
    exact this
  apply hno (fun p => (so N (nn N)).2.testBit p)
  intro p r ha
  simp only
  cases hp : (so N (nn N)).2.testBit p
  · have := c2 p (adj_lt hw ha).1
    rw [Nat.testBit_or, hp, Bool.or_false] at this
    rw [(c1 p r ha).1 this]
    rfl
  · rw [hd r ((c1 p r ha).2 hp)]
    rfl
end
