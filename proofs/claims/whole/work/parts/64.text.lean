/-! PURE: a network told in a text -/
def mE (B : Nat → Nat) : Nat → Nat
  | 0 => 0
  | j + 1 => max (mE B j) (B (2 * j) - 97)
theorem mE_le {B : Nat → Nat} : ∀ j, (∀ q, q < j → B (2 * q) ≤ 106) → mE B j ≤ 9
  | 0, _ => Nat.zero_le _
  | j + 1, h => by
    have h1 := mE_le j (fun q hq => h q (by omega))
    have h2 := h j (by omega)
    rw [mE]
    omega
theorem mE_ge {B : Nat → Nat} : ∀ j q, q < j → B (2 * q) - 97 ≤ mE B j
  | 0, q, h => absurd h (Nat.not_lt_zero q)
  | j + 1, q, h => by
    rw [mE]
    by_cases e : q = j
    · subst e; omega
    · have := mE_ge (B := B) j q (by omega)
      omega
theorem mE_m {B : Nat → Nat} : ∀ d j, mE B j ≤ mE B (j + d)
  | 0, j => Nat.le_refl _
  | d + 1, j => by
    have := mE_m (B := B) d j
    show mE B j ≤ mE B (j + d + 1)
    rw [mE]
    omega
def wy (b : Nat) : Nat := if b = 62 then 1 else if b = 60 then 2 else 0
def NTp (B : Nat → Nat) (n i : Nat) : Nt := (n, i, fun j => B (4 * j) - 97, fun j => B (4 * j + 2) - 97, fun j => wy (B (4 * j + 1)))
def good (L : Nat) (B : Nat → Nat) (k : Nat) : Prop := L + 1 = 4 * k ∧ 1 ≤ k ∧ k ≤ 12 ∧ ∀ i, i < k → (97 ≤ B (4 * i) ∧ B (4 * i) ≤ 106) ∧ (97 ≤ B (4 * i + 2) ∧ B (4 * i + 2) ≤ 106) ∧ B (4 * i + 2) ≠ B (4 * i) ∧ (B (4 * i + 1) = 45 ∨ B (4 * i + 1) = 62 ∨ B (4 * i + 1) = 60)
theorem good_of {L : Nat} {B : Nat → Nat} (h3 : L % 4 = 3) (hf : ∀ i, i < L → fit B i = true) : ∃ k, good L B k := by
  refine ⟨(L + 1) / 4, by omega, by omega, ?_, fun i hi => ?_⟩
  · have := hf (4 * ((L + 1) / 4 - 1)) (by omega)
    unfold fit at this
    rw [if_pos (by omega)] at this
    simp at this
    omega
  · have a0 := hf (4 * i) (by omega)
    have a1 := hf (4 * i + 1) (by omega)
    have a2 := hf (4 * i + 2) (by omega)
    unfold fit at a0 a1 a2
    rw [if_pos (by omega)] at a0
    rw [if_neg (by omega), if_pos (by omega)] at a1
    rw [if_neg (by omega), if_neg (by omega), if_pos (by omega), show 4 * i + 2 - 2 = 4 * i by omega] at a2
    unfold ltr at a0 a2
    unfold sgn at a1
    simp at a0 a1 a2
    exact ⟨a0.1, a2.1, a2.2, a1⟩
theorem good_e {L : Nat} {B : Nat → Nat} {k : Nat} (h : good L B k) {q : Nat} (hq : q < 2 * k) : 97 ≤ B (2 * q) ∧ B (2 * q) ≤ 106 := by
  have := h.2.2.2 (q / 2) (by omega)
  rcases (show q % 2 = 0 ∨ q % 2 = 1 by omega) with e | e
  · rw [show 2 * q = 4 * (q / 2) by omega]; exact this.1
  · rw [show 2 * q = 4 * (q / 2) + 2 by omega]; exact this.2.1
theorem NT_wf {L : Nat} {B : Nat → Nat} {k : Nat} (h : good L B k) {i : Nat} (hi : i ≤ k) : nwf (NTp B (mE B (2 * k) + 1) i) := by
  have hle := mE_le (B := B) (2 * k) (fun q hq => (good_e h hq).2)
  refine ⟨by show 1 ≤ mE B (2 * k) + 1; omega, by show mE B (2 * k) + 1 ≤ 10; omega, by show i ≤ 12; have := h.2.2.1; omega, fun j hj => ?_⟩
  have hj' : j < i := hj
  have g := h.2.2.2 j (by omega)
  have m1 := mE_ge (B := B) (2 * k) (2 * j) (by omega)
  have m2 := mE_ge (B := B) (2 * k) (2 * j + 1) (by omega)
  rw [show 2 * (2 * j) = 4 * j by omega] at m1
  rw [show 2 * (2 * j + 1) = 4 * j + 2 by omega] at m2
  show B (4 * j) - 97 < mE B (2 * k) + 1 ∧ B (4 * j + 2) - 97 < mE B (2 * k) + 1 ∧ B (4 * j) - 97 ≠ B (4 * j + 2) - 97 ∧ wy (B (4 * j + 1)) < 3
  refine ⟨by omega, by omega, by omega, ?_⟩
  unfold wy
  split
  · omega
  · split <;> omega
theorem NT_jn (B : Nat → Nat) (n i : Nat) : N_jn (NTp B n i) (B (4 * i) - 97) (B (4 * i + 2) - 97) (wy (B (4 * i + 1))) = NTp B n (i + 1) := by
  have e : ∀ (f : Nat → Nat), ex f i (f i) = f := by
    intro f
    funext j
    unfold ex
    by_cases h : j = i
    · rw [if_pos h, h]
    · rw [if_neg h]
  unfold N_jn
  show (n, i + 1, ex (fun j => B (4 * j) - 97) i ((fun j => B (4 * j) - 97) i), ex (fun j => B (4 * j + 2) - 97) i ((fun j => B (4 * j + 2) - 97) i), ex (fun j => wy (B (4 * j + 1))) i ((fun j => wy (B (4 * j + 1))) i)) = _
  rw [e, e, e]
  rfl
section
variable {L : Nat} {B : Nat → Nat} {k : Nat} {σ τ : S3}
theorem X_wayOf {b : Nat} (hb : b < 256) : F_X6_wayOf (nI b) σ = some (nI (wy b), σ) := by
  unfold F_X6_wayOf wy
  rw [li62, li60]
  simp only [eqN (show b < 2147483648 by omega) (show 62 < 2147483648 by omega), eqN (show b < 2147483648 by omega) (show 60 < 2147483648 by omega)]
  by_cases c1 : b = 62
  · rw [if_pos c1, if_pos c1, li1]
  · rw [if_neg c1, if_neg c1]
    by_cases c2 : b = 60
    · rw [if_pos c2, if_pos c2, li2]
    · rw [if_neg c2, if_neg c2, li0]
theorem X_tell (hT : TP L B σ τ) (hg : good L B k) : ∃ σ', F_X6_tell σ = some (nI 0, σ') ∧ RX 1 (NTp B (mE B (2 * k) + 1) k) σ' ∧ ∀ c, c ≠ 1 → σ' c = σ c := by
  obtain ⟨t1, t2, t3, t4⟩ := hT
  obtain ⟨hL, hk1, hk12, hb⟩ := hg
  have hg : good L B k := ⟨hL, hk1, hk12, hb⟩
  have hle := mE_le (B := B) (2 * k) (fun q hq => (good_e hg hq).2)
  have l2 : ∀ (d n i : Nat) (s : S3), i + d = k → d < n → RX 1 (NTp B (mE B (2 * k) + 1) i) s → (∀ c, c ≠ 1 → s c = σ c) → ∃ σ', zl1 Fb_X6_tell_54 n (nI (4 * i)) s = some (nI 0, σ') ∧ RX 1 (NTp B (mE B (2 * k) + 1) k) σ' ∧ ∀ c, c ≠ 1 → σ' c = σ c := by
    intro d
    induction d with
    | zero =>
      intro n i s hi hn hX hc
      obtain ⟨n, rfl⟩ : ∃ m, n = m + 1 := ⟨n - 1, by omega⟩
      have e : i = k := by omega
      subst e
      refine ⟨s, ?_, hX, hc⟩
      rw [zl1_s]
      generalize zl1 Fb_X6_tell_54 n = K
      unfold Fb_X6_tell_54
      rw [hc 7 (by decide), t2, li2, nI_add, if_pos (by rw [leN (by omega) (by omega)]; omega), li0]
    | succ d ih =>
      intro n i s hi hn hX hc
      obtain ⟨n, rfl⟩ : ∃ m, n = m + 1 := ⟨n - 1, by omega⟩
      have hwf := NT_wf hg (show i ≤ k by omega)
      have hwf1 := NT_wf hg (show i + 1 ≤ k by omega)
      have hl := hwf1.2.2.2 i (by show i < i + 1; omega)
      have gi := hb i (by omega)
      have b0 := t4 (4 * i) (by omega)
      have b1 := t4 (4 * i + 1) (by omega)
      have b2 := t4 (4 * i + 2) (by omega)
      obtain ⟨s', e1, hX', hc'⟩ := X_join (c := 1) (σ := s) hwf (RB_of hX) (a := B (4 * i) - 97) (b := B (4 * i + 2) - 97) (w := wy (B (4 * i + 1))) (by show i < 12; omega) hl.1 hl.2.1 hl.2.2.1 hl.2.2.2
      rw [NT_jn] at hX'
      obtain ⟨σ', e2, r1, r2⟩ := ih n (i + 1) s' (by omega) (by omega) hX' (fun c h => by rw [hc' c h, hc c h])
      refine ⟨σ', ?_, r1, r2⟩
      rw [zl1_s]
      generalize zl1 Fb_X6_tell_54 n = K at e2 ⊢
      unfold Fb_X6_tell_54
      rw [hc 7 (by decide), t2, li2, nI_add, if_neg (by rw [leN (by omega) (by omega)]; omega), ckN (by omega) (by omega), ckN (by omega) (by omega), li1, nI_add, ckN (by omega) (by omega), ixN (by omega), ixN (by omega), ixN (by omega), b0.2.1, b1.2.1, b2.2.1, X_wayOf b1.1, bdE, li97, subN (by omega), subN (by omega), e1, bdE, nmE, li4, nI_add, show 4 * i + 4 = 4 * (i + 1) by omega]
      exact e2
  have l1 : ∀ (d n j : Nat), j + d = 2 * k → d < n → ∃ σ', zl2 Fb_X6_tell_5 n (nI (97 + mE B j)) (nI (2 * j)) σ = some (nI 0, σ') ∧ RX 1 (NTp B (mE B (2 * k) + 1) k) σ' ∧ ∀ c, c ≠ 1 → σ' c = σ c := by
    intro d
    induction d with
    | zero =>
      intro n j hj hn
      obtain ⟨n, rfl⟩ : ∃ m, n = m + 1 := ⟨n - 1, by omega⟩
      have e : j = 2 * k := by omega
      subst e
      obtain ⟨s', e1, hX', hc'⟩ := X_clear (c := 1) (σ := σ) (n := mE B (2 * k) + 1) (by omega) (by omega)
      obtain ⟨σ', e2, r1, r2⟩ := l2 k zF 0 s' (by omega) (zfl (by omega)) (by
        obtain ⟨x1, x2, x3, x4⟩ := hX'
        refine ⟨x1, x2, fun i hi => absurd hi (Nat.not_lt_zero i), fun p hp => ?_⟩
        have := x4 p hp
        exact this) hc'
      refine ⟨σ', ?_, r1, r2⟩
      rw [zl2_s]
      generalize zl2 Fb_X6_tell_5 n = K
      unfold Fb_X6_tell_5 F_X6_tell_54
      rw [t2, if_pos (by rw [leN (by omega) (by omega)]; omega), li97, subN (by omega), li1, nI_add, show 97 + mE B (2 * k) - 97 + 1 = mE B (2 * k) + 1 by omega, e1, bdE, li0]
      exact e2
    | succ d ih =>
      intro n j hj hn
      obtain ⟨n, rfl⟩ : ∃ m, n = m + 1 := ⟨n - 1, by omega⟩
      have bj := t4 (2 * j) (by omega)
      have gj := good_e hg (show j < 2 * k by omega)
      have mj : mE B j ≤ 9 := mE_le j (fun q hq => (good_e hg (by omega)).2)
      obtain ⟨σ', e2, r1, r2⟩ := ih n (j + 1) (by omega) (by omega)
      refine ⟨σ', ?_, r1, r2⟩
      rw [zl2_s]
      generalize zl2 Fb_X6_tell_5 n = K at e2 ⊢
      unfold Fb_X6_tell_5
      have hlt : ltr (B (2 * j)) = true := by unfold ltr; simp [gj.1, gj.2]
      rw [t2, if_neg (by rw [leN (by omega) (by omega)]; omega), ckN (by omega) (by omega), ixN (by omega), bj.2.1, X_isLetter bj.1, bdE, hlt, show b2i true = nI 1 from rfl, li0, if_neg n1_0, ckN (by omega) (by omega), bj.2.1, nmE, nmE, li2, nI_add, show 2 * j + 2 = 2 * (j + 1) by omega]
      rw [mE] at e2
      by_cases c : 97 + mE B j < B (2 * j)
      · rw [if_pos (by rw [ltN (by omega) (by omega)]; exact c)]
        rw [show 97 + max (mE B j) (B (2 * j) - 97) = B (2 * j) by omega] at e2
        exact e2
      · rw [if_neg (by rw [ltN (by omega) (by omega)]; exact c)]
        rw [show 97 + max (mE B j) (B (2 * j) - 97) = 97 + mE B j by omega] at e2
        exact e2
  unfold F_X6_tell F_X6_tell_5
  exact l1 (2 * k) zF 0 (by omega) (zfl (by omega))
theorem M_comes {i : Nat} (h : τ 0 2 0 = nI i) (hi : i < 12) (a b w : Int32) : F_X9_comes a b w τ = some (nI 0, up (up (up (up τ 0 3 i a) 0 4 i b) 0 5 i w) 0 2 0 (nI (i + 1))) := by
  unfold F_X9_comes
  have k1 : ∀ (s : S3) v x, up s 0 3 v x 0 2 0 = s 0 2 0 := fun s v x => by rw [up_f (by decide)]
  have k2 : ∀ (s : S3) v x, up s 0 4 v x 0 2 0 = s 0 2 0 := fun s v x => by rw [up_f (by decide)]
  have k3 : ∀ (s : S3) v x, up s 0 5 v x 0 2 0 = s 0 2 0 := fun s v x => by rw [up_f (by decide)]
  simp only [nmE, k1, k2, k3, h, ckN hi (show 12 < 2147483648 by omega), ixN (show i < 2147483648 by omega), li1, nI_add, li0]
theorem M_tell (hT : TP L B σ τ) (hg : good L B k) : ∀ (d n i : Nat) (s : S3), i + d = k → d < n → s 0 2 0 = nI i → (∀ j, j < i → s 0 3 j = nI (B (4 * j) - 97) ∧ s 0 4 j = nI (B (4 * j + 2) - 97) ∧ s 0 5 j = nI (wy (B (4 * j + 1)))) → s 0 9 = τ 0 9 → ∃ τ', zl2 (Fb_X9_network_35 (nI L)) n (nI (mE B (2 * i))) (nI (4 * i)) s = some (nI k, τ') ∧ RM (NTp B (mE B (2 * k) + 1) k) τ' ∧ τ' 0 11 0 = nI 0 ∧ τ' 0 22 0 = -nI 1 ∧ ∀ f, f = 0 ∨ 5 < f → f ≠ 11 → f ≠ 22 → τ' 0 f = s 0 f := by
  obtain ⟨t1, t2, t3, t4⟩ := hT
  obtain ⟨hL, hk1, hk12, hb⟩ := hg
  have hg : good L B k := ⟨hL, hk1, hk12, hb⟩
  intro d
  induction d with
  | zero =>
    intro n i s hi hn h2 hrow h9
    obtain ⟨n, rfl⟩ : ∃ m, n = m + 1 := ⟨n - 1, by omega⟩
    have e : i = k := by omega
    subst e
    refine ⟨up (up (up s 0 1 0 (nI (mE B (2 * i) + 1))) 0 11 0 (nI 0)) 0 22 0 (-nI 1), ?_, ⟨?_, ?_, ?_⟩, ?_, ?_, ?_⟩
    · rw [zl2_s]
      generalize zl2 (Fb_X9_network_35 (nI L)) n = K
      unfold Fb_X9_network_35 F_X9_isNew
      rw [if_pos (by rw [leN (by omega) (by omega)]; omega), nmE, nmE, nmE, bdE, li1, nI_add, li0, up_f (show 2 ≠ 22 by decide), up_f (show 2 ≠ 11 by decide), up_f (show 2 ≠ 1 by decide), h2]
    · rw [up_f (by decide), up_f (by decide), up_at]; rfl
    · rw [up_f (by decide), up_f (by decide), up_f (by decide)]; exact h2
    · intro j hj
      rw [up_f (by decide), up_f (by decide), up_f (by decide), up_f (by decide), up_f (by decide), up_f (by decide), up_f (by decide), up_f (by decide), up_f (by decide)]
      exact hrow j hj
    · rw [up_f (by decide), up_at]
    · rw [up_at]
    · intro f h h11 h22
      rw [up_f h22, up_f h11, up_f (by omega)]
  | succ d ih =>
    intro n i s hi hn h2 hrow h9
    obtain ⟨n, rfl⟩ : ∃ m, n = m + 1 := ⟨n - 1, by omega⟩
    have gi := hb i (by omega)
    have b0 := t4 (4 * i) (by omega)
    have b1 := t4 (4 * i + 1) (by omega)
    have b2 := t4 (4 * i + 2) (by omega)
    have m0 : mE B (2 * i) ≤ 9 := mE_le _ (fun q hq => (good_e hg (by omega)).2)
    have hmx : mE B (2 * (i + 1)) = max (max (mE B (2 * i)) (B (4 * i) - 97)) (B (4 * i + 2) - 97) := by
      show mE B (2 * i + 1 + 1) = _
      rw [mE, mE, show 2 * (2 * i) = 4 * i by omega, show 2 * (2 * i + 1) = 4 * i + 2 by omega]
    obtain ⟨τ', e2, r1, r2, r3, r4⟩ := ih n (i + 1) (up (up (up (up s 0 3 i (nI (B (4 * i) - 97))) 0 4 i (nI (B (4 * i + 2) - 97))) 0 5 i (nI (wy (B (4 * i + 1))))) 0 2 0 (nI (i + 1))) (by omega) (by omega) (by rw [up_at]) (by
      intro j hj
      rw [up_f (show 3 ≠ 2 by decide), up_f (show 3 ≠ 5 by decide), up_f (show 3 ≠ 4 by decide), up_s, up_f (show 4 ≠ 2 by decide), up_f (show 4 ≠ 5 by decide), up_s, up_f (show 4 ≠ 3 by decide), up_f (show 5 ≠ 2 by decide), up_s, up_f (show 5 ≠ 4 by decide), up_f (show 5 ≠ 3 by decide)]
      by_cases e : j = i
      · subst e; rw [upd_s, upd_s, upd_s]; exact ⟨rfl, rfl, rfl⟩
      · rw [upd_n e, upd_n e, upd_n e]; exact hrow j (by omega)) (by rw [up_f (by decide), up_f (by decide), up_f (by decide), up_f (by decide)]; exact h9)
    refine ⟨τ', ?_, r1, r2, r3, fun f h h11 h22 => by rw [r4 f h h11 h22, up_f (by omega), up_f (by omega), up_f (by omega), up_f (by omega)]⟩
    rw [zl2_s]
    generalize zl2 (Fb_X9_network_35 (nI L)) n = K at e2 ⊢
    have h92 : ∀ x, F_X9_network_92 K (nI L) (nI (4 * i)) (nI (B (4 * i) - 97)) (nI (B (4 * i + 2) - 97)) x s = K x (nI (4 * (i + 1))) (up (up (up (up s 0 3 i (nI (B (4 * i) - 97))) 0 4 i (nI (B (4 * i + 2) - 97))) 0 5 i (nI (wy (B (4 * i + 1))))) 0 2 0 (nI (i + 1))) := by
      intro x
      unfold F_X9_network_92
      rw [li1, nI_add, ckN (by omega) (by omega), ckN (by omega) (by omega), ixN (by omega), h9, b1.2.2, li45, li62, li0, li2, li4, nI_add, M_comes h2 (by omega), M_comes h2 (by omega), M_comes h2 (by omega), bdE, bdE, bdE, nmE, nmE, nmE, show 4 * i + 4 = 4 * (i + 1) by omega]
      rcases gi.2.2.2 with e | e | e
      · rw [e, if_pos rfl]; rfl
      · rw [e, if_neg (by decide), if_pos rfl]; rfl
      · rw [e, if_neg (by decide), if_neg (by decide)]; rfl
    unfold Fb_X9_network_35 F_X9_network_79
    rw [if_neg (by rw [leN (by omega) (by omega)]; omega), ckN (by omega) (by omega), nmE, li2, nI_add, ckN (by omega) (by omega), nmE, ixN (by omega), ixN (by omega), h9, b0.2.2, b2.2.2, li97, subN (by omega), subN (by omega), h92, h92, h92]
    rw [hmx] at e2
    by_cases c1 : B (4 * i) - 97 ≤ mE B (2 * i)
    · rw [if_pos (show nI (B (4 * i) - 97) ≤ nI (mE B (2 * i)) by rw [leN (by omega) (by omega)]; exact c1)]
      by_cases c2 : B (4 * i + 2) - 97 ≤ mE B (2 * i)
      · rw [if_pos (show nI (B (4 * i + 2) - 97) ≤ nI (mE B (2 * i)) by rw [leN (by omega) (by omega)]; exact c2)]
        rw [show max (max (mE B (2 * i)) (B (4 * i) - 97)) (B (4 * i + 2) - 97) = mE B (2 * i) by omega] at e2
        exact e2
      · rw [if_neg (show ¬ nI (B (4 * i + 2) - 97) ≤ nI (mE B (2 * i)) by rw [leN (by omega) (by omega)]; exact c2)]
        rw [show max (max (mE B (2 * i)) (B (4 * i) - 97)) (B (4 * i + 2) - 97) = B (4 * i + 2) - 97 by omega] at e2
        exact e2
    · rw [if_neg (show ¬ nI (B (4 * i) - 97) ≤ nI (mE B (2 * i)) by rw [leN (by omega) (by omega)]; exact c1)]
      by_cases c2 : B (4 * i + 2) - 97 ≤ B (4 * i) - 97
      · rw [if_pos (show nI (B (4 * i + 2) - 97) ≤ nI (B (4 * i) - 97) by rw [leN (by omega) (by omega)]; exact c2)]
        rw [show max (max (mE B (2 * i)) (B (4 * i) - 97)) (B (4 * i + 2) - 97) = B (4 * i) - 97 by omega] at e2
        exact e2
      · rw [if_neg (show ¬ nI (B (4 * i + 2) - 97) ≤ nI (B (4 * i) - 97) by rw [leN (by omega) (by omega)]; exact c2)]
        rw [show max (max (mE B (2 * i)) (B (4 * i) - 97)) (B (4 * i + 2) - 97) = B (4 * i + 2) - 97 by omega] at e2
        exact e2
end
