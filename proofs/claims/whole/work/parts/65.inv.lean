/-! PURE: what holds between two calls -/
def gp (N : Nt) (p0 : Nat) (mv : Nat → Nat) : Nat → Nat × Nat × Nat
  | 0 => (p0, 2 ^ p0, 0)
  | i + 1 => (oth N (mv i) (gp N p0 mv i).1, (gp N p0 mv i).2.1 ||| 2 ^ oth N (mv i) (gp N p0 mv i).1, (gp N p0 mv i).2.2 ||| 2 ^ mv i)
abbrev gS (N : Nt) (ru p0 : Nat) (mv : Nat → Nat) (i : Nat) : Nat := S_ ru (gp N p0 mv i).2.1 (gp N p0 mv i).2.2
def GL (N : Nt) (ru p0 : Nat) (mv : Nat → Nat) (k : Nat) : Prop := ∀ i, i < k → mv i < nk N ∧ mvB N ru (mv i) (gp N p0 mv i).1 (gS N ru p0 mv i) = true
abbrev stt (q : Nat × Nat × Nat) : Nat := st q.1 q.2.1 q.2.2
theorem xs0 (N : Nt) : ∀ m, xs N 0 m = 0
  | 0 => rfl
  | m + 1 => by rw [xs, Nat.zero_testBit, if_neg Bool.false_ne_true, xs0 N m]
theorem gp_jok {N : Nt} (hw : nwf N) {ru p0 : Nat} {mv : Nat → Nat} (hp : p0 < nn N) : ∀ k, GL N ru p0 mv k → jok N ru p0 (gp N p0 mv k).1 (gp N p0 mv k).2.1 (gp N p0 mv k).2.2
  | 0, _ => by
    have hn := hw.2.1
    refine ⟨hp, p2_lt (m := 10) (by show p0 < 10; omega), by show 0 < 4096; omega, fun _ => ?_, fun _ => ?_⟩
    · show p0 = pt N p0 0
      unfold pt
      rw [xs0, Nat.xor_zero]
    · show (2 ^ p0).testBit p0 = true
      rw [Nat.testBit_two_pow_self]
  | k + 1, h => by
    have ih := gp_jok hw (ru := ru) (mv := mv) hp k (fun i hi => h i (by omega))
    exact jok_mv hw ih (h k (by omega)).1 (h k (by omega)).2
theorem gS_s {N : Nt} {ru p0 : Nat} {mv : Nat → Nat} {k : Nat} : gS N ru p0 mv (k + 1) = nxt N ru (mv k) (gp N p0 mv k).1 (gS N ru p0 mv k) := S_mv
theorem GL_rm {N : Nt} (hw : nwf N) {ru p0 : Nat} {mv : Nat → Nat} : ∀ k, GL N ru p0 mv k → rm N ru (gS N ru p0 mv k) + k ≤ 12
  | 0, _ => by have := rm12 hw ru (gS N ru p0 mv 0); omega
  | k + 1, h => by
    have ih := GL_rm hw k (fun i hi => h i (by omega))
    have := rm_mv hw (h k (by omega)).1 (h k (by omega)).2
    rw [gS_s]
    omega
theorem gp_c {N : Nt} {p0 : Nat} {mv mv' : Nat → Nat} : ∀ k, (∀ i, i < k → mv i = mv' i) → gp N p0 mv k = gp N p0 mv' k
  | 0, _ => rfl
  | k + 1, h => by
    have ih := gp_c (N := N) (p0 := p0) k (fun i hi => h i (by omega))
    rw [gp, gp, ih, h k (by omega)]
theorem GL_c {N : Nt} {ru p0 : Nat} {mv mv' : Nat → Nat} {k : Nat} (h : ∀ i, i < k → mv i = mv' i) (hG : GL N ru p0 mv k) : GL N ru p0 mv' k := by
  intro i hi
  have := hG i hi
  unfold gS at this ⊢
  rw [← h i hi, ← gp_c i (fun j hj => h j (by omega))]
  exact this
def ER (σ τ : S3) : Prop := ∀ k, k < 7 → σ 0 8 k = τ 0 0 k
def SH (σ τ : S3) : Prop := ∀ k, k < 4 → ∃ b n, (b = 0 ∨ b = 8 ∨ b = 16 ∨ b = 32) ∧ n ≤ 24 ∧ σ (8 + k) 0 0 = nI b ∧ τ 0 28 k = nI b ∧ σ (8 + k) 1 0 = nI n ∧ τ 0 29 k = nI n ∧ ∀ i, i < 24 → σ (8 + k) 2 i = τ 0 30 (24 * k + i)
def IM (σ τ : S3) : Prop := (σ 0 9 0 = nI 0 ∧ τ 0 32 0 = nI 0) ∨ (σ 0 9 0 = nI 1 ∧ τ 0 32 0 = nI 1 ∧ σ 0 10 0 = τ 0 31 2 ∧ ∃ K, nwf K ∧ RB 2 K σ ∧ τ 0 31 0 = nI (nn K) ∧ τ 0 31 1 = nI (nk K) ∧ ∀ i, i < nk K → τ 0 31 (3 + 3 * i) = nI (nf K i) ∧ τ 0 31 (4 + 3 * i) = nI (nt K i) ∧ τ 0 31 (5 + 3 * i) = nI (nw K i))
def JF (σ : S3) : Prop := ∃ t, σ 3 2 0 = nI t ∧ t < 1048576 ∧ JB t (σ 3 1)
def IV (N : Nt) (L : Nat) (B : Nat → Nat) (σ τ : S3) : Prop := nwf N ∧ RX 1 N σ ∧ RM N τ ∧ MT N τ ∧ TP L B σ τ ∧ ER σ τ ∧ σ 4 2 0 = τ 0 17 0 ∧ SH σ τ ∧ IM σ τ
def GF (ru : Nat) (σ τ : S3) : Prop := ru < 5 ∧ σ 6 1 0 = nI ru ∧ τ 0 12 0 = nI ru ∧ σ 6 0 0 = nI 0 ∧ τ 0 11 0 = nI 0 ∧ JF σ
def GO (N : Nt) (ru p0 : Nat) (mv : Nat → Nat) (k : Nat) (σ τ : S3) : Prop := ru < 5 ∧ p0 < nn N ∧ GL N ru p0 mv k ∧ (σ 6 1 0 = nI ru ∧ σ 6 0 0 = nI 1 ∧ σ 6 2 0 = nI k ∧ (∀ i, i < k → σ 6 3 i = nI (mv i)) ∧ ∀ i, i ≤ k → σ 6 4 i = nI (stt (gp N p0 mv i))) ∧ τ 0 11 0 = nI 1 ∧ τ 0 13 0 = nI p0 ∧ MP ru (gp N p0 mv k).1 (gp N p0 mv k).2.1 (gp N p0 mv k).2.2 τ ∧ τ 0 19 0 = nI k ∧ ∀ i, i < k → τ 0 18 i = nI (mv i)
def Inv (σ τ : S3) : Prop := ∃ N L B, IV N L B σ τ ∧ ((∃ ru, GF ru σ τ) ∨ ∃ ru p0 mv k, JT N ru p0 σ ∧ GO N ru p0 mv k σ τ)
theorem JT_JF {N : Nt} {ru p0 : Nat} {σ : S3} (h : JT N ru p0 σ) : JF σ := by
  obtain ⟨t, h1, h2, _, h4, _⟩ := h
  exact ⟨t, h1, h2, h4⟩
theorem JF_c {σ σ' : S3} (h : JF σ) (e : σ' 3 = σ 3) : JF σ' := by
  unfold JF at h ⊢
  rw [e]
  exact h
theorem MT_m1 {N : Nt} {τ : S3} (h : τ 0 22 0 = -nI 1) : MT N τ := by
  intro ru hr e
  rw [h] at e
  have := m1_eq (a := ru) (by omega)
  rw [← e] at this
  simp at this
section
variable {N : Nt} {L : Nat} {B : Nat → Nat} {σ τ σ' τ' : S3} {ru p0 k : Nat} {mv : Nat → Nat}
theorem TP_fr (h : TP L B σ τ) (a : σ' 7 = σ 7) (b : τ' 0 9 = τ 0 9) (c : τ' 0 10 = τ 0 10) : TP L B σ' τ' := by
  unfold TP at h ⊢
  rw [a, b, c]
  exact h
theorem ER_fr (h : ER σ τ) (a : σ' 0 8 = σ 0 8) (b : τ' 0 0 = τ 0 0) : ER σ' τ' := by
  unfold ER at h ⊢
  rw [a, b]
  exact h
theorem SH_fr (h : SH σ τ) (a : ∀ k, k < 4 → σ' (8 + k) = σ (8 + k)) (b : τ' 0 28 = τ 0 28) (c : τ' 0 29 = τ 0 29) (d : τ' 0 30 = τ 0 30) : SH σ' τ' := by
  intro k hk
  have := h k hk
  rw [a k hk, b, c, d]
  exact this
theorem IM_fr (h : IM σ τ) (a : σ' 0 9 = σ 0 9) (a' : σ' 0 10 = σ 0 10) (b : σ' 2 = σ 2) (c : τ' 0 31 = τ 0 31) (d : τ' 0 32 = τ 0 32) : IM σ' τ' := by
  unfold IM RB at h ⊢
  rw [a, a', b, c, d]
  exact h
theorem RM_fr (h : RM N τ) (a : ∀ f, 1 ≤ f → f ≤ 5 → τ' 0 f = τ 0 f) : RM N τ' := by
  unfold RM at h ⊢
  rw [a 1 (by decide) (by decide), a 2 (by decide) (by decide), a 3 (by decide) (by decide), a 4 (by decide) (by decide), a 5 (by decide) (by decide)]
  exact h
/-- the outer part, where nothing of it changed -/
theorem IV_fr (h : IV N L B σ τ) (hs : ∀ c, c ≠ 3 → c ≠ 4 → c ≠ 5 → c ≠ 6 → σ' c = σ c) (ht : ∀ f, f < 6 ∨ f = 9 ∨ f = 10 ∨ 27 < f → τ' 0 f = τ 0 f) (hz : σ' 4 2 0 = τ' 0 17 0) (hM : MT N τ') : IV N L B σ' τ' := by
  obtain ⟨a, b, c, d, e, f, g, i, j⟩ := h
  have h0 := hs 0 (by decide) (by decide) (by decide) (by decide)
  refine ⟨a, RX_c (hs 1 (by decide) (by decide) (by decide) (by decide)) b, RM_fr c (fun f _ h => ht f (by omega)), hM, TP_fr e (hs 7 (by decide) (by decide) (by decide) (by decide)) (ht 9 (by omega)) (ht 10 (by omega)), ER_fr f (by rw [h0]) (ht 0 (by omega)), hz, SH_fr i (fun k hk => hs (8 + k) (by omega) (by omega) (by omega) (by omega)) (ht 28 (by omega)) (ht 29 (by omega)) (ht 30 (by omega)), IM_fr j (by rw [h0]) (by rw [h0]) (hs 2 (by decide) (by decide) (by decide) (by decide)) (ht 31 (by omega)) (ht 32 (by omega))⟩
theorem GO_fr (h : GO N ru p0 mv k σ τ) (hs : σ' 6 = σ 6) (ht : ∀ f, 10 < f → f < 20 → f ≠ 17 → τ' 0 f = τ 0 f) : GO N ru p0 mv k σ' τ' := by
  unfold GO MP at h ⊢
  rw [hs, ht 11 (by omega) (by omega) (by omega), ht 12 (by omega) (by omega) (by omega), ht 13 (by omega) (by omega) (by omega), ht 14 (by omega) (by omega) (by omega), ht 15 (by omega) (by omega) (by omega), ht 16 (by omega) (by omega) (by omega), ht 18 (by omega) (by omega) (by omega), ht 19 (by omega) (by omega) (by omega)]
  exact h
theorem GF_fr (h : GF ru σ τ) (hs : σ' 6 = σ 6) (h3 : JF σ') (h11 : τ' 0 11 = τ 0 11) (h12 : τ' 0 12 = τ 0 12) : GF ru σ' τ' := by
  unfold GF at h ⊢
  rw [hs, h11, h12]
  exact ⟨h.1, h.2.1, h.2.2.1, h.2.2.2.1, h.2.2.2.2.1, h3⟩
/-- where the judge is as it was, and the game -/
theorem Inv_fr (h : Inv σ τ) (hs : ∀ c, c ≠ 4 → c ≠ 5 → σ' c = σ c) (ht : ∀ f, f < 6 ∨ (8 < f ∧ f < 23 ∧ f ≠ 17) ∨ 27 < f → τ' 0 f = τ 0 f) (hz : σ' 4 2 0 = τ' 0 17 0) : Inv σ' τ' := by
  obtain ⟨N, L, B, hI, hG⟩ := h
  refine ⟨N, L, B, IV_fr hI (fun c _ a b _ => hs c a b) (fun f h => ht f (by omega)) hz (MT_f hI.2.2.2.1 (ht 20 (by omega)) (ht 21 (by omega)) (ht 22 (by omega))), ?_⟩
  rcases hG with ⟨ru, h⟩ | ⟨ru, p0, mv, k, h1, h2⟩
  · exact Or.inl ⟨ru, GF_fr h (hs 6 (by decide) (by decide)) (JF_c h.2.2.2.2.2 (hs 3 (by decide) (by decide))) (ht 11 (by omega)) (ht 12 (by omega))⟩
  · exact Or.inr ⟨ru, p0, mv, k, JT_c h1 (hs 3 (by decide) (by decide)), GO_fr h2 (hs 6 (by decide) (by decide)) (fun f a b c => ht f (by omega))⟩
theorem Inv_z (h : Inv σ τ) : σ 4 2 0 = τ 0 17 0 := by
  obtain ⟨N, L, B, hI, _⟩ := h
  exact hI.2.2.2.2.2.2.1
/-- where a game is on: the tables may be others -/
theorem Inv_g (hI : IV N L B σ τ) (hG : GO N ru p0 mv k σ τ) (hJ : JT N ru p0 σ') (hM : MT N τ') (hs : ∀ c, c ≠ 3 → c ≠ 4 → c ≠ 5 → σ' c = σ c) (ht : ∀ f, f < 6 ∨ (8 < f ∧ f < 20 ∧ f ≠ 17) ∨ 27 < f → τ' 0 f = τ 0 f) (hz : σ' 4 2 0 = τ' 0 17 0) : Inv σ' τ' :=
  ⟨N, L, B, IV_fr hI (fun c a b d _ => hs c a b d) (fun f h => ht f (by omega)) hz hM, Or.inr ⟨ru, p0, mv, k, hJ, GO_fr hG (hs 6 (by decide) (by decide) (by decide)) (fun f a b c => ht f (by omega))⟩⟩
theorem GO_PS (hI : IV N L B σ τ) (hJ : JT N ru p0 σ) (hG : GO N ru p0 mv k σ τ) : PS N ru p0 (gp N p0 mv k).1 (gp N p0 mv k).2.1 (gp N p0 mv k).2.2 σ τ :=
  ⟨hI.2.1, hJ, gp_jok hI.1 hG.2.1 k hG.2.2.1, hI.2.2.1, hI.2.2.2.1, hG.2.2.2.2.2.2.1, hI.2.2.2.2.2.2.1⟩
/-! errors -/
theorem X_fail {j : Nat} (hj : j < 7) : F_X8_fail (nI j) σ = some ((-1100000000) - nI j, up σ 0 8 j (σ 0 8 j + 1)) := by
  unfold F_X8_fail
  rw [ckN hj (by omega), ckN hj (by omega), ixN (by omega), nmE]
theorem M_no {j : Nat} (hj : j < 7) : F_X9_no (nI j) τ = some ((-1100000000) - nI j, up τ 0 0 j (τ 0 0 j + 1)) := by
  unfold F_X9_no
  rw [ckN hj (by omega), ckN hj (by omega), ixN (by omega), nmE]
theorem Inv_er (h : Inv σ τ) {j : Nat} (hj : j < 7) : Inv (up σ 0 8 j (σ 0 8 j + 1)) (up τ 0 0 j (τ 0 0 j + 1)) := by
  obtain ⟨N, L, B, ⟨a, b, c, d, e, f, g, i, jm⟩, hG⟩ := h
  have hs : ∀ x, x ≠ 0 → up σ 0 8 j (σ 0 8 j + 1) x = σ x := fun x hx => up_c hx
  have ht : ∀ x, x ≠ 0 → up τ 0 0 j (τ 0 0 j + 1) 0 x = τ 0 x := fun x hx => up_f hx
  refine ⟨N, L, B, ⟨a, RX_c (hs 1 (by decide)) b, RM_fr c (fun f h _ => ht f (by omega)), MT_f d (ht 20 (by decide)) (ht 21 (by decide)) (ht 22 (by decide)), TP_fr e (hs 7 (by decide)) (ht 9 (by decide)) (ht 10 (by decide)), ?_, ?_, SH_fr i (fun k hk => hs (8 + k) (by omega)) (ht 28 (by decide)) (ht 29 (by decide)) (ht 30 (by decide)), IM_fr jm (up_f (by decide)) (up_f (by decide)) (hs 2 (by decide)) (ht 31 (by decide)) (ht 32 (by decide))⟩, ?_⟩
  · intro k hk
    rw [up_s, up_s]
    by_cases e : k = j
    · subst e; rw [upd_s, upd_s, f k hk]
    · rw [upd_n e, upd_n e]; exact f k hk
  · rw [hs 4 (by decide), ht 17 (by decide)]; exact g
  · rcases hG with ⟨ru, h⟩ | ⟨ru, p0, mv, k, h1, h2⟩
    · exact Or.inl ⟨ru, GF_fr h (hs 6 (by decide)) (JF_c h.2.2.2.2.2 (hs 3 (by decide))) (ht 11 (by decide)) (ht 12 (by decide))⟩
    · exact Or.inr ⟨ru, p0, mv, k, JT_c h1 (hs 3 (by decide)), GO_fr h2 (hs 6 (by decide)) (fun f a b c => ht f (by omega))⟩
theorem err_b (h : Inv σ τ) {j : Nat} (hj : j < 7) : zst Inv (bd (F_X8_fail (nI j) σ) (fun r s => some (r, s))) (bd (F_X9_no (nI j) τ) (fun r s => some (r, s))) := by
  rw [X_fail hj, M_no hj, bdE, bdE]
  exact ⟨_, _, _, rfl, rfl, Inv_er h hj⟩
theorem ret_b (h : Inv σ τ) (r : Int32) : zst Inv (some (r, σ)) (some (r, τ)) := ⟨r, σ, τ, rfl, rfl, h⟩
/-! arguments -/
def inB (v : Int32) (n : Nat) : Bool := decide (0 ≤ v ∧ v < nI n)
def in1B (v : Int32) (n : Nat) : Bool := decide (1 ≤ v ∧ v ≤ nI n)
theorem inB_t {v : Int32} {n : Nat} (hn : n < 2147483648) (h : inB v n = true) : ∃ j, j < n ∧ v = nI j := by
  unfold inB at h
  have h := of_decide_eq_true h
  obtain ⟨j, hj, e⟩ := nI_of (show ¬ v < 0 by rw [i_nlt]; exact h.1)
  subst e
  rw [ltN (by omega) hn] at h
  exact ⟨j, h.2, rfl⟩
theorem in1B_t {v : Int32} {n : Nat} (hn : n < 2147483648) (h : in1B v n = true) : ∃ j, 1 ≤ j ∧ j ≤ n ∧ v = nI j := by
  unfold in1B at h
  have h := of_decide_eq_true h
  obtain ⟨j, hj, e⟩ := nI_of (show ¬ v < 0 by rw [i_nlt]; exact Int32.le_trans (by decide) h.1)
  subst e
  rw [leN (by omega) hn, li1, leN (by omega) (by omega)] at h
  exact ⟨j, h.1, h.2, rfl⟩
theorem inB_N {j n : Nat} (hj : j < 2147483648) (hn : n < 2147483648) : inB (nI j) n = decide (j < n) := by
  unfold inB
  have h0 : (0 : Int32) ≤ nI j := by rw [li0, leN (by omega) hj]; omega
  by_cases h : j < n
  · rw [decide_eq_true h, decide_eq_true ⟨h0, by rw [ltN hj hn]; exact h⟩]
  · rw [decide_eq_false h, decide_eq_false (fun x => h (by rw [ltN hj hn] at x; exact x.2))]
theorem inB_le {v : Int32} {n : Nat} (hn : n < 2147483647) : inB v (n + 1) = decide (0 ≤ v ∧ v ≤ nI n) := by
  by_cases h0 : 0 ≤ v
  · obtain ⟨j, hj, e⟩ := nI_of (show ¬ v < 0 by rw [i_nlt]; exact h0)
    subst e
    rw [inB_N (by omega) (by omega)]
    by_cases h : j < n + 1
    · rw [decide_eq_true h, decide_eq_true ⟨h0, by rw [leN (by omega) (by omega)]; omega⟩]
    · rw [decide_eq_false h, decide_eq_false (fun x => h (by rw [leN (by omega) (by omega)] at x; omega))]
  · unfold inB
    rw [decide_eq_false (fun x => h0 x.1), decide_eq_false (fun x => h0 x.1)]
theorem inB_0 (v : Int32) : inB v 0 = false := by
  unfold inB
  apply decide_eq_false
  rintro ⟨h1, h2⟩
  exact Int32.lt_irrefl (Int32.lt_of_le_of_lt h1 h2)
theorem M_in0 (v : Int32) {n : Nat} (hn : n < 2147483647) : F_X9_in v 0 (nI n) τ = some (b2i (inB v (n + 1)), τ) := by rw [M_in, inB_le hn]
theorem M_in1 (v : Int32) (n : Nat) : F_X9_in v 1 (nI n) τ = some (b2i (in1B v n), τ) := by rw [M_in]; rfl
theorem M_inS (v : Int32) {n : Nat} (hn : n < 2147483647) : F_X9_in v 0 (nI n - 1) τ = some (b2i (inB v n), τ) := by
  cases n with
  | zero =>
    rw [M_in, inB_0, decide_eq_false]
    rintro ⟨h1, h2⟩
    exact Int32.lt_irrefl (Int32.lt_of_le_of_lt (Int32.le_trans h1 h2) (by decide))
  | succ n => rw [li1, subN (by omega), Nat.add_sub_cancel, M_in0 v (by omega)]
theorem ifr {α : Type} (v : Int32) {n : Nat} (hn : n < 2147483647) (A C : α) : (if v < 0 then A else if v ≤ nI n then C else A) = if inB v (n + 1) = true then C else A := by
  rw [inB_le hn]
  by_cases h0 : v < 0
  · rw [if_pos h0, if_neg (by simp; intro h; exact absurd (Int32.lt_of_le_of_lt h h0) Int32.lt_irrefl)]
  · rw [if_neg h0]
    rw [i_nlt] at h0
    by_cases h : v ≤ nI n
    · rw [if_pos h, if_pos (by simp [h0, h])]
    · rw [if_neg h, if_neg (by simp [h])]
theorem ifr1 {α : Type} (v : Int32) (n : Nat) (A C : α) : (if v < 1 then A else if v ≤ nI n then C else A) = if in1B v n = true then C else A := by
  unfold in1B
  by_cases h0 : v < 1
  · rw [if_pos h0, if_neg (by simp; intro h; exact absurd (Int32.lt_of_le_of_lt h h0) Int32.lt_irrefl)]
  · rw [if_neg h0]
    rw [i_nlt] at h0
    by_cases h : v ≤ nI n
    · rw [if_pos h, if_pos (by simp [h0, h])]
    · rw [if_neg h, if_neg (by simp [h])]
theorem ifs {α : Type} (v : Int32) (n : Nat) (A C : α) : (if v < 0 then A else if nI n ≤ v then A else C) = if inB v n = true then C else A := by
  unfold inB
  by_cases h0 : v < 0
  · rw [if_pos h0, if_neg (by simp; intro h; exact absurd (Int32.lt_of_le_of_lt h h0) Int32.lt_irrefl)]
  · rw [if_neg h0]
    rw [i_nlt] at h0
    by_cases h : nI n ≤ v
    · rw [if_pos h, if_neg (by simp [h0]; exact h)]
    · rw [if_neg h, if_pos (by simp [h0]; rw [← i_nlt] at h; exact Classical.not_not.mp h)]
theorem b2f (b : Bool) (σ : S3) : (if b = true then (some ((1 : Int32), σ) : R3) else some ((0 : Int32), σ)) = some (b2i b, σ) := by cases b <;> rfl
theorem X_hasPoint {c : Nat} (h : RX c N σ) (v : Int32) : F_X2_hasPoint c v σ = some (b2i (inB v (nn N)), σ) := by
  unfold F_X2_hasPoint
  rw [h.1, ifs, b2f]
theorem X_hasLine {c : Nat} (h : RX c N σ) (v : Int32) : F_X2_hasLine c v σ = some (b2i (inB v (nk N)), σ) := by
  unfold F_X2_hasLine
  rw [h.2.1, ifs, b2f]
theorem X_isRule (v : Int32) : F_X8_isRule v σ = some (b2i (inB v 5), σ) := by
  unfold F_X8_isRule
  rw [show (5 : Int32) = nI 5 from rfl, ifs, b2f]
theorem X_isSheet (v : Int32) : F_X8_isSheet v σ = some (b2i (inB v 4), σ) := by
  unfold F_X8_isSheet
  rw [show (4 : Int32) = nI 4 from rfl, ifs, b2f]
theorem X_isWay (v : Int32) : F_X8_isWay v σ = some (b2i (inB v 3), σ) := by
  unfold F_X8_isWay
  have h := ifr (α := R3) v (n := 2) (by omega) (some (0, σ)) (some (1, σ))
  rw [b2f] at h
  rw [← h, show (2 : Int32) = nI 2 from rfl]
  by_cases h0 : v < 0
  · rw [if_pos h0, if_pos h0]
  · rw [if_neg h0, if_neg h0]
    by_cases h1 : nI 2 < v
    · rw [if_pos h1, if_neg (fun h => Int32.lt_irrefl (Int32.lt_of_le_of_lt h h1))]
    · rw [if_neg h1, if_pos (by rw [i_nlt] at h1; exact h1)]
theorem M_isPoint (hw : nwf N) (h : RM N τ) (v : Int32) : F_X9_isPoint v τ = some (b2i (inB v (nn N)), τ) := by
  have hn := hw.2.1
  unfold F_X9_isPoint
  rw [h.1, M_inS v (by omega), bdE, ckb_b]
theorem M_isLine (hw : nwf N) (h : RM N τ) (v : Int32) : F_X9_isLine v τ = some (b2i (inB v (nk N)), τ) := by
  have hn := hw.2.2.1
  unfold F_X9_isLine
  rw [h.2.1, M_inS v (by omega), bdE, ckb_b]
theorem M_isSheet (v : Int32) : F_X9_isSheet v τ = some (b2i (inB v 4), τ) := by
  unfold F_X9_isSheet
  rw [show (3 : Int32) = nI 3 from rfl, M_in0 v (by omega), bdE, ckb_b]
theorem bt0 : ¬ b2i true = (0 : Int32) := by decide
theorem bf0 : b2i false = (0 : Int32) := rfl
theorem i_ge {v : Int32} {n : Nat} : (v < nI n) = ¬ (nI n ≤ v) := by rw [← i_nlt]; simp
/-! a network told anew -/
theorem Inv_new {N' : Nt} (h : Inv σ τ) (hw' : nwf N') (hX : RX 1 N' σ') (hM : RM N' τ') (hc : ∀ c, c ≠ 1 → c ≠ 4 → c ≠ 6 → c ≠ 7 → σ' c = σ c) (h60 : σ' 6 0 0 = nI 0) (h61 : σ' 6 1 0 = σ 6 1 0) (hT : ∃ L B, TP L B σ' τ') (hz : σ' 4 2 0 = τ' 0 17 0) (h11 : τ' 0 11 0 = nI 0) (h22 : τ' 0 22 0 = -nI 1) (hf : ∀ f, f = 0 ∨ f = 12 ∨ 27 < f → τ' 0 f = τ 0 f) : Inv σ' τ' := by
  obtain ⟨N, L0, B0, ⟨a, b, c, d, e, f, g, i, jm⟩, hG⟩ := h
  obtain ⟨L, B, hT⟩ := hT
  have h0 := hc 0 (by decide) (by decide) (by decide) (by decide)
  have h3 := hc 3 (by decide) (by decide) (by decide) (by decide)
  refine ⟨N', L, B, ⟨hw', hX, hM, MT_m1 h22, hT, ER_fr f (by rw [h0]) (hf 0 (by omega)), hz, SH_fr i (fun k hk => hc (8 + k) (by omega) (by omega) (by omega) (by omega)) (hf 28 (by omega)) (hf 29 (by omega)) (hf 30 (by omega)), IM_fr jm (by rw [h0]) (by rw [h0]) (hc 2 (by decide) (by decide) (by decide) (by decide)) (hf 31 (by omega)) (hf 32 (by omega))⟩, Or.inl ?_⟩
  rcases hG with ⟨ru, h⟩ | ⟨ru, p0, mv, k, h1, h2⟩
  · exact ⟨ru, h.1, by rw [h61]; exact h.2.1, by rw [hf 12 (by omega)]; exact h.2.2.1, h60, h11, JF_c h.2.2.2.2.2 h3⟩
  · exact ⟨ru, h2.1, by rw [h61]; exact h2.2.2.2.1.1, by rw [hf 12 (by omega)]; exact h2.2.2.2.2.2.2.1.1, h60, h11, JF_c (JT_JF h1) h3⟩
end
