/-! PURE: the least number not in a set; the reference's nims; its tables -/
theorem tb_half (s j : Nat) : (s / 2).testBit j = s.testBit (j + 1) := by rw [Nat.testBit_succ]
theorem mex_in : ∀ (m s j : Nat), j < mex s m → s.testBit j = true
  | 0, s, j, h => absurd h (Nat.not_lt_zero j)
  | m + 1, s, j, h => by
    rw [mex] at h
    by_cases h0 : s.testBit 0 = true
    · rw [if_pos h0] at h
      cases j with
      | zero => exact h0
      | succ j => rw [← tb_half]; exact mex_in m (s / 2) j (by omega)
    · rw [if_neg h0] at h; exact absurd h (Nat.not_lt_zero j)
theorem mex_out : ∀ (m s : Nat), mex s m < m → s.testBit (mex s m) = false
  | 0, s, h => absurd h (Nat.not_lt_zero _)
  | m + 1, s, h => by
    rw [mex] at h ⊢
    by_cases h0 : s.testBit 0 = true
    · rw [if_pos h0] at h ⊢
      rw [Nat.add_comm, ← tb_half]
      exact mex_out m (s / 2) (by omega)
    · rw [if_neg h0]; simpa using h0
theorem mex_le {s b m : Nat} (h : s < 2 ^ b) (hb : b < m) : mex s m ≤ b := by
  rcases Nat.lt_or_ge b (mex s m) with h1 | h1
  · have := mex_in m s b h1
    rw [Nat.testBit_lt_two_pow h] at this
    cases this
  · exact h1
theorem nst_cong {N : Nt} {ru p S : Nat} {c1 c2 : Nat → Nat → Nat} : ∀ m, (∀ l, l < m → mvB N ru l p S = true → c1 (oth N l p) (nxt N ru l p S) = c2 (oth N l p) (nxt N ru l p S)) → nst N ru c1 p S m = nst N ru c2 p S m
  | 0, _ => rfl
  | m + 1, h => by
    have ih := nst_cong (c1 := c1) (c2 := c2) m (fun l hl => h l (by omega))
    rw [nst, nst, ih]
    by_cases hm : mvB N ru m p S = true
    · rw [h m (by omega) hm]
    · rw [if_neg hm, if_neg hm]
theorem nst_lt {N : Nt} {ru p S B : Nat} {ch : Nat → Nat → Nat} : ∀ m, (∀ l, l < m → mvB N ru l p S = true → ch (oth N l p) (nxt N ru l p S) < B) → nst N ru ch p S m < 2 ^ B
  | 0, _ => Nat.two_pow_pos B
  | m + 1, h => by
    have ih := nst_lt (ch := ch) m (fun l hl => h l (by omega))
    rw [nst]
    by_cases hm : mvB N ru m p S = true
    · rw [if_pos hm]; exact or_lt ih (p2_lt (h m (by omega) hm))
    · rw [if_neg hm]; exact ih
theorem gN_le {N : Nt} (hw : nwf N) (ru : Nat) : ∀ (d p S : Nat), gN N ru d p S ≤ rm N ru S
  | 0, _, _ => Nat.zero_le _
  | d + 1, p, S => by
    rw [gN]
    have h12 := rm12 hw ru S
    exact mex_le (nst_lt _ (fun l hl hm => by
      have h1 := rm_mv hw hl hm
      have h2 := gN_le hw ru d (oth N l p) (nxt N ru l p S)
      omega)) (by omega)
theorem gN_stab {N : Nt} (hw : nwf N) (ru : Nat) : ∀ (d1 d2 p S : Nat), rm N ru S < d1 → rm N ru S < d2 → gN N ru d1 p S = gN N ru d2 p S
  | 0, _, _, _, h, _ => absurd h (by omega)
  | _, 0, _, _, _, h => absurd h (by omega)
  | d1 + 1, d2 + 1, p, S, h1, h2 => by
    rw [gN, gN]
    congr 1
    apply nst_cong
    intro l hl hm
    have := rm_mv hw hl hm
    exact gN_stab hw ru d1 d2 _ _ (by omega) (by omega)
theorem nim_eq {N : Nt} (hw : nwf N) (ru p S : Nat) : nim N ru p S = mex (nst N ru (nim N ru) p S (nk N)) 14 := by
  show gN N ru 13 p S = _
  rw [gN]
  congr 1
  apply nst_cong
  intro l hl hm
  have := rm_mv hw hl hm
  have := rm12 hw ru S
  exact gN_stab hw ru 12 13 _ _ (by omega) (by omega)
theorem nim_le {N : Nt} (hw : nwf N) (ru p S : Nat) : nim N ru p S ≤ 12 := Nat.le_trans (gN_le hw ru 13 p S) (rm12 hw ru S)
theorem nst_nim_lt {N : Nt} (hw : nwf N) (ru p S m : Nat) (hm : m ≤ nk N) : nst N ru (nim N ru) p S m < 2 ^ 12 := nst_lt m (fun l hl h => by
  have h1 := rm_mv hw (show l < nk N by omega) h
  have h2 := gN_le hw ru 13 (oth N l p) (nxt N ru l p S)
  have h3 := rm12 hw ru S
  show gN N ru 13 _ _ < 12
  omega)
def MemoN (N : Nt) (ru : Nat) (g : Nat → Int32) : Prop := ∀ p, p < nn N → ∀ S, S < 4096 → g (4096 * p + S) = nI 0 ∨ g (4096 * p + S) = nI (nim N ru p S + 1)
theorem MemoN_upd {N : Nt} {ru : Nat} {g : Nat → Int32} (h : MemoN N ru g) {p S : Nat} (hS : S < 4096) : MemoN N ru (upd g (4096 * p + S) (nI (nim N ru p S + 1))) := by
  intro p' hp' S' hS'
  by_cases e : 4096 * p' + S' = 4096 * p + S
  · have e1 : p' = p := by omega
    have e2 : S' = S := by omega
    subst e1 e2
    exact Or.inr upd_s
  · rw [upd_n e]
    exact h p' hp' S' hS'
set_option maxHeartbeats 4000000 in
theorem M_nimAt {N : Nt} {τ : S3} {ru : Nat} (hw : nwf N) (h : RM N τ) (hu : τ 0 12 0 = nI ru) (hr : ru < 5) : ∀ (k p S : Nat) (g : Nat → Int32), p < nn N → S < 4096 → rm N ru S < k → MemoN N ru g → ∃ g', zl2 F_X9_nimAt_0 k (nI p) (nI S) (upA τ 0 21 g) = some (nI (nim N ru p S), upA τ 0 21 g') ∧ MemoN N ru g' := by
  have hk := hw.2.2.1
  have hn := hw.2.1
  intro k
  induction k with
  | zero => intro p S g _ _ h0; exact absurd h0 (by omega)
  | succ k ihk =>
    generalize hRc : zl2 F_X9_nimAt_0 k = Rc at ihk
    intro p S g hp hS hrm hg
    have hR : ∀ g, RM N (upA τ 0 21 g) := fun g => RM_upA h (by omega)
    have hU : ∀ g, (upA τ 0 21 g) 0 12 0 = nI ru := fun g => by rw [upA_f (by decide)]; exact hu
    have hT : ∀ g, (upA τ 0 21 g) 0 21 = g := fun g => upA_s
    have hv := nim_le hw ru p S
    have hve := nim_eq hw ru p S
    have hlt := nst_nim_lt hw ru p S (nk N) (Nat.le_refl _)
    have loop2 : ∀ (d n j : Nat) (g : Nat → Int32), j + d = nim N ru p S → d < n → MemoN N ru g → ∃ g', zl1 (Fb_X9_nimAt_91 Rc (nI (4096 * p + S)) (nI (nst N ru (nim N ru) p S (nk N)))) n (nI j) (upA τ 0 21 g) = some (nI (nim N ru p S), upA τ 0 21 g') ∧ MemoN N ru g' := by
      intro d
      induction d with
      | zero =>
        intro n j g hj hn' hg
        obtain ⟨n, rfl⟩ : ∃ m, n = m + 1 := ⟨n - 1, by omega⟩
        rw [zl1_s]
        generalize zl1 (Fb_X9_nimAt_91 Rc (nI (4096 * p + S)) (nI (nst N ru (nim N ru) p S (nk N)))) n = K
        have e : j = nim N ru p S := by omega
        have hb : (nst N ru (nim N ru) p S (nk N)).testBit j = false := by
          rw [e, hve]
          exact mex_out 14 _ (by rw [← hve]; omega)
        refine ⟨upd g (4096 * p + S) (nI (nim N ru p S + 1)), ?_, MemoN_upd hg hS⟩
        subst e
        unfold Fb_X9_nimAt_91
        simp (disch := omega) only [ckN, ixN, nI_add, subN, mulN, eqN, leN, ltN, bdE, nmE, hasN, shl1, orN, andN, b2i_0, b2i_1, ↓reduceIte, Nat.reduceEqDiff, Nat.reduceLeDiff, li0, li1, li2, li3, li4, li5, li6, li7, li8, li9, li10, li12, li13, li15, li16, li20, li24, li32, li60, li63, li255, li300, li511, li1000, li1023, li4095, li8191, M_has (show nst N ru (nim N ru) p S (nk N) < 2147483648 by omega) (show nim N ru p S < 32 by omega), hb, up_upA, hT]
      | succ d ih =>
        intro n j g hj hn' hg
        obtain ⟨n, rfl⟩ : ∃ m, n = m + 1 := ⟨n - 1, by omega⟩
        have ihn := ih n
        rw [zl1_s]
        generalize zl1 (Fb_X9_nimAt_91 Rc (nI (4096 * p + S)) (nI (nst N ru (nim N ru) p S (nk N)))) n = K at ihn ⊢
        have hb : (nst N ru (nim N ru) p S (nk N)).testBit j = true := mex_in 14 _ j (by rw [← hve]; omega)
        unfold Fb_X9_nimAt_91
        simp (disch := omega) only [ckN, ixN, nI_add, subN, mulN, eqN, leN, ltN, bdE, nmE, hasN, shl1, orN, andN, b2i_0, b2i_1, ↓reduceIte, Nat.reduceEqDiff, Nat.reduceLeDiff, li0, li1, li2, li3, li4, li5, li6, li7, li8, li9, li10, li12, li13, li15, li16, li20, li24, li32, li60, li63, li255, li300, li511, li1000, li1023, li4095, li8191, M_has (show nst N ru (nim N ru) p S (nk N) < 2147483648 by omega) (show j < 32 by omega), hb, Bool.true_eq_false]
        exact ihn (j + 1) g (by omega) (by omega) hg
    have loop : ∀ (d n i : Nat) (g : Nat → Int32), i + d = nk N → d < n → MemoN N ru g → ∃ g', zl2 (Fb_X9_nimAt_32 Rc (nI p) (nI S) (nI (4096 * p + S))) n (nI (nst N ru (nim N ru) p S i)) (nI i) (upA τ 0 21 g) = some (nI (nim N ru p S), upA τ 0 21 g') ∧ MemoN N ru g' := by
      intro d
      induction d with
      | zero =>
        intro n i g hi hn' hg
        obtain ⟨n, rfl⟩ : ∃ m, n = m + 1 := ⟨n - 1, by omega⟩
        have e : i = nk N := by omega
        subst e
        rw [zl2_s]
        generalize zl2 (Fb_X9_nimAt_32 Rc (nI p) (nI S) (nI (4096 * p + S))) n = K
        unfold Fb_X9_nimAt_32 F_X9_nimAt_91
        simp (disch := omega) only [ckN, ixN, nI_add, subN, mulN, eqN, leN, ltN, bdE, nmE, hasN, shl1, orN, andN, b2i_0, b2i_1, ↓reduceIte, Nat.reduceEqDiff, Nat.reduceLeDiff, li0, li1, li2, li3, li4, li5, li6, li7, li8, li9, li10, li12, li13, li15, li16, li20, li24, li32, li60, li63, li255, li300, li511, li1000, li1023, li4095, li8191, (hR g).2.1, Nat.le_refl]
        exact loop2 _ zF 0 g (Nat.zero_add _) (zfl (by omega)) hg
      | succ d ih =>
        intro n i g hi hn' hg
        obtain ⟨n, rfl⟩ : ∃ m, n = m + 1 := ⟨n - 1, by omega⟩
        have hil : i < nk N := by omega
        have ihn := ih n
        rw [zl2_s]
        generalize zl2 (Fb_X9_nimAt_32 Rc (nI p) (nI S) (nI (4096 * p + S))) n = K at ihn ⊢
        unfold Fb_X9_nimAt_32
        simp (disch := omega) only [ckN, ixN, nI_add, subN, mulN, eqN, leN, ltN, bdE, nmE, hasN, shl1, orN, andN, b2i_0, b2i_1, ↓reduceIte, Nat.reduceEqDiff, Nat.reduceLeDiff, li0, li1, li2, li3, li4, li5, li6, li7, li8, li9, li10, li12, li13, li15, li16, li20, li24, li32, li60, li63, li255, li300, li511, li1000, li1023, li4095, li8191, (hR g).2.1, show ¬ nk N ≤ i by omega, M_isMove hw (hR g) (hU g) hr hil (show p < 2147483648 by omega) (show S < 2147483648 by omega)]
        cases hm : mvB N ru i p S
        · have ih' := ihn (i + 1) g (by omega) (by omega) hg
          rw [nst, hm] at ih'
          simp at ih' ⊢
          exact ih'
        · have ha := mvB_at hm
          have ho := oth_lt hw hil ha
          have hx := nxt_lt (ru := ru) hw hil ha hS
          have hrm' := rm_mv hw hil hm
          obtain ⟨g1, hg1, hM1⟩ := ihk (oth N i p) (nxt N ru i p S) g ho hx (by omega) hg
          have ih' := ihn (i + 1) g1 (by omega) (by omega) hM1
          rw [nst, if_pos hm] at ih'
          have hcv := nim_le hw ru (oth N i p) (nxt N ru i p S)
          simp (disch := omega) only [ckN, ixN, nI_add, subN, mulN, eqN, leN, ltN, bdE, nmE, hasN, shl1, orN, andN, b2i_0, b2i_1, ↓reduceIte, Nat.reduceEqDiff, Nat.reduceLeDiff, li0, li1, li2, li3, li4, li5, li6, li7, li8, li9, li10, li12, li13, li15, li16, li20, li24, li32, li60, li63, li255, li300, li511, li1000, li1023, li4095, li8191, M_otherOf hw (hR g) hil ha, M_setBehind hw (hR g) (hU g) hr hil ha, hg1, Bool.true_eq_false]
          exact ih'
    have h4 : (4096 : Int32) * nI p + nI S = nI (4096 * p + S) := by
      rw [show (4096 : Int32) = nI 4096 from rfl, mulN, nI_add]
    rw [zl2_s, hRc]
    unfold F_X9_nimAt_0 F_X9_nimAt_32
    simp (disch := omega) only [ckN, ixN, nI_add, subN, mulN, eqN, leN, ltN, bdE, nmE, hasN, shl1, orN, andN, b2i_0, b2i_1, ↓reduceIte, Nat.reduceEqDiff, Nat.reduceLeDiff, li0, li1, li2, li3, li4, li5, li6, li7, li8, li9, li10, li12, li13, li15, li16, li20, li24, li32, li60, li63, li255, li300, li511, li1000, li1023, li4095, li8191, h4, hT]
    rcases hg p hp S hS with e | e
    · simp (disch := omega) only [ckN, ixN, nI_add, subN, mulN, eqN, leN, ltN, bdE, nmE, hasN, shl1, orN, andN, b2i_0, b2i_1, ↓reduceIte, Nat.reduceEqDiff, Nat.reduceLeDiff, li0, li1, li2, li3, li4, li5, li6, li7, li8, li9, li10, li12, li13, li15, li16, li20, li24, li32, li60, li63, li255, li300, li511, li1000, li1023, li4095, li8191, e]
      exact loop (nk N) zF 0 g (by omega) (zfl (by omega)) hg
    · refine ⟨g, ?_, hg⟩
      simp (disch := omega) only [ckN, ixN, nI_add, subN, mulN, eqN, leN, ltN, bdE, nmE, hasN, shl1, orN, andN, b2i_0, b2i_1, ↓reduceIte, Nat.reduceEqDiff, Nat.reduceLeDiff, li0, li1, li2, li3, li4, li5, li6, li7, li8, li9, li10, li12, li13, li15, li16, li20, li24, li32, li60, li63, li255, li300, li511, li1000, li1023, li4095, li8191, e, show ¬ (nim N ru p S + 1 = 0) by omega]
      rfl
/-- the tables may differ -/
def ag (τ τ' : S3) : Prop := ∀ f, f ≠ 20 → f ≠ 21 → f ≠ 22 → τ' 0 f = τ 0 f
theorem ag_rf (τ : S3) : ag τ τ := fun _ _ _ _ => rfl
theorem ag_tr {a b c : S3} (h1 : ag a b) (h2 : ag b c) : ag a c := fun f x y z => (h2 f x y z).trans (h1 f x y z)
theorem RM_ag {N : Nt} {τ τ' : S3} (h : ag τ τ') (hr : RM N τ) : RM N τ' := by
  unfold RM at hr ⊢
  rw [h 1 (by decide) (by decide) (by decide), h 2 (by decide) (by decide) (by decide), h 3 (by decide) (by decide) (by decide), h 4 (by decide) (by decide) (by decide), h 5 (by decide) (by decide) (by decide)]
  exact hr
def MT (N : Nt) (τ : S3) : Prop := ∀ ru, ru < 5 → τ 0 22 0 = nI ru → MemoW N ru (τ 0 20) ∧ MemoN N ru (τ 0 21)
theorem M_tables_loop {τ : S3} {ru C : Nat} (hC : C = 40960) : ∀ (d n i : Nat) (s : S3), i + d = C → d < n → ag τ s → s 0 22 0 = nI ru → (∀ j, j < i → s 0 20 j = nI 0 ∧ s 0 21 j = nI 0) → ∃ τ', zl1 Fb_X9_tables_22 n (nI i) s = some (nI 0, τ') ∧ ag τ τ' ∧ τ' 0 22 0 = nI ru ∧ ∀ j, j < C → τ' 0 20 j = nI 0 ∧ τ' 0 21 j = nI 0 := by
    have hI : (40960 : Int32) = nI C := by rw [hC]; exact Eq.trans rfl rfl
    have hck : ∀ (β : Type) (i : Nat) (x : Option β), i < C → ck (nI i) 40960 x = x := fun β i x h => ckN (by omega) (by omega)
    intro d
    induction d with
    | zero =>
      intro n i s hi hn' h1 h2 h3
      obtain ⟨n, rfl⟩ : ∃ m, n = m + 1 := ⟨n - 1, by omega⟩
      have e : i = C := by omega
      subst e
      refine ⟨s, ?_, h1, h2, h3⟩
      rw [zl1_s]
      generalize zl1 Fb_X9_tables_22 n = K
      unfold Fb_X9_tables_22
      simp (disch := omega) only [ckN, ixN, nI_add, subN, mulN, eqN, leN, ltN, bdE, nmE, hasN, shl1, orN, andN, b2i_0, b2i_1, ↓reduceIte, Nat.reduceEqDiff, Nat.reduceLeDiff, li0, li1, li2, li3, li4, li5, li6, li7, li8, li9, li10, li12, li13, li15, li16, li20, li24, li32, li60, li63, li255, li300, li511, li1000, li1023, li4095, li8191, hI, Nat.le_refl]
    | succ d ih =>
      intro n i s hi hn' h1 h2 h3
      obtain ⟨n, rfl⟩ : ∃ m, n = m + 1 := ⟨n - 1, by omega⟩
      have ihn := ih n
      rw [zl1_s]
      generalize zl1 Fb_X9_tables_22 n = K at ihn ⊢
      unfold Fb_X9_tables_22
      simp (disch := omega) only [ixN, nI_add, subN, mulN, eqN, leN, ltN, bdE, nmE, hasN, shl1, orN, andN, b2i_0, b2i_1, ↓reduceIte, Nat.reduceEqDiff, Nat.reduceLeDiff, li0, li1, li2, li3, li4, li5, li6, li7, li8, li9, li10, li12, li13, li15, li16, li20, li24, li32, li60, li63, li255, li300, li511, li1000, li1023, li4095, li8191, hI, show ¬ C ≤ i by omega, hck _ i _ (show i < C by omega)]
      refine ihn (i + 1) _ (by omega) (by omega) ?_ ?_ ?_
      · intro f f1 f2 f3
        rw [up_f f2, up_f f1]
        exact h1 f f1 f2 f3
      · rw [up_f (by decide), up_f (by decide)]; exact h2
      · intro j hj
        rw [up_s, up_f (by decide), up_f (show 21 ≠ 20 by decide), up_s]
        by_cases e : j = i
        · subst e; exact ⟨upd_s, upd_s⟩
        · rw [upd_n e, upd_n e]; exact h3 j (by omega)
theorem M_tables {N : Nt} {τ : S3} {ru : Nat} (hn : nn N ≤ 10) (hu : τ 0 12 0 = nI ru) (hr : ru < 5) (hM : MT N τ) : ∃ τ', F_X9_tables τ = some (nI 0, τ') ∧ ag τ τ' ∧ τ' 0 22 0 = nI ru ∧ MemoW N ru (τ' 0 20) ∧ MemoN N ru (τ' 0 21) := by
  unfold F_X9_tables
  by_cases e : τ 0 22 0 = τ 0 12 0
  · rw [if_pos e]
    refine ⟨τ, rfl, ag_rf τ, by rw [e, hu], ?_⟩
    exact hM ru hr (by rw [e, hu])
  · rw [if_neg e]
    unfold F_X9_tables_22
    simp (disch := omega) only [ckN, ixN, nI_add, subN, mulN, eqN, leN, ltN, bdE, nmE, hasN, shl1, orN, andN, b2i_0, b2i_1, ↓reduceIte, Nat.reduceEqDiff, Nat.reduceLeDiff, li0, li1, li2, li3, li4, li5, li6, li7, li8, li9, li10, li12, li13, li15, li16, li20, li24, li32, li60, li63, li255, li300, li511, li1000, li1023, li4095, li8191]
    obtain ⟨C, hC⟩ : ∃ C, C = 40960 := ⟨_, rfl⟩
    have hz2 : C < zF := zfl (by omega)
    obtain ⟨τ', h1, h2, h3, h4⟩ := M_tables_loop (τ := τ) (ru := ru) hC C zF 0 (up τ 0 22 0 (τ 0 12 0)) (by omega) hz2 (fun f _ _ f3 => up_f f3) (by rw [up_s, upd_s, hu]) (fun j hj => absurd hj (by omega))
    refine ⟨τ', h1, h2, h3, fun p hp S hS => Or.inl (h4 (4096 * p + S) (by omega)).1, fun p hp S hS => Or.inl (h4 (4096 * p + S) (by omega)).2⟩
section
variable {N : Nt} {τ : S3} {ru : Nat}
theorem M_worth20 (hw : nwf N) (h : RM N τ) (hu : τ 0 12 0 = nI ru) (hr : ru < 5) (hM : MT N τ) {p S : Nat} (hp : p < nn N) (hS : S < 4096) : ∃ τ1 τ', F_X9_tables τ = some (nI 0, τ1) ∧ F_X9_worthAt 20 (nI p) (nI S) τ1 = some (nI (wc (val N ru p S)), τ') ∧ ag τ τ' ∧ MT N τ' := by
  obtain ⟨τ1, h1, h2, h3, h4, h5⟩ := M_tables hw.2.1 hu hr hM
  have h12 := rm12 hw ru S
  obtain ⟨g', hg, hg'⟩ := M_worthAt hw (RM_ag h2 h) (by rw [h2 12 (by decide) (by decide) (by decide)]; exact hu) hr 20 p S (τ1 0 20) hp hS (by omega) h4
  rw [upA_self] at hg
  refine ⟨τ1, upA τ1 0 20 g', h1, hg, ag_tr h2 (fun f f1 _ _ => upA_f f1), ?_⟩
  intro r' hr' e
  rw [upA_f (by decide), h3, eqN (by omega) (by omega)] at e
  subst e
  rw [upA_s, upA_f (by decide)]
  exact ⟨hg', h5⟩
theorem M_winsAt (hw : nwf N) (h : RM N τ) (hu : τ 0 12 0 = nI ru) (hr : ru < 5) (hM : MT N τ) {p S : Nat} (hp : p < nn N) (hS : S < 4096) : ∃ τ', F_X9_winsAt (nI p) (nI S) τ = some (b2i (val N ru p S).1, τ') ∧ ag τ τ' ∧ MT N τ' := by
  obtain ⟨τ1, τ', h1, h2, h3, h4⟩ := M_worth20 hw h hu hr hM hp hS
  refine ⟨τ', ?_, h3, h4⟩
  have hv := val_le hw ru p S
  unfold F_X9_winsAt
  simp (disch := omega) only [ckN, ixN, nI_add, subN, mulN, eqN, leN, ltN, bdE, nmE, hasN, shl1, orN, andN, b2i_0, b2i_1, ↓reduceIte, Nat.reduceEqDiff, Nat.reduceLeDiff, li0, li1, li2, li3, li4, li5, li6, li7, li8, li9, li10, li12, li13, li15, li16, li20, li24, li32, li60, li63, li255, li300, li511, li1000, li1023, li4095, li8191, h1, h2]
  unfold wc
  have e1 : nI (1 + 2 * (val N ru p S).2 + (val N ru p S).1.toNat) - nI 1 = nI (2 * (val N ru p S).2 + (val N ru p S).1.toNat) := by
    rw [subN (by omega)]
    congr 1
    omega
  rw [e1, bitN]
  cases (val N ru p S).1
  · rw [show (2 * (val N ru p S).2 + false.toNat) % 2 = 0 by simp]; rfl
  · rw [show (2 * (val N ru p S).2 + true.toNat) % 2 = 1 by simp]; rfl
theorem M_longAt (hw : nwf N) (h : RM N τ) (hu : τ 0 12 0 = nI ru) (hr : ru < 5) (hM : MT N τ) {p S : Nat} (hp : p < nn N) (hS : S < 4096) : ∃ τ', F_X9_longAt (nI p) (nI S) τ = some (nI (val N ru p S).2, τ') ∧ ag τ τ' ∧ MT N τ' := by
  obtain ⟨τ1, τ', h1, h2, h3, h4⟩ := M_worth20 hw h hu hr hM hp hS
  refine ⟨τ', ?_, h3, h4⟩
  have hv := val_le hw ru p S
  have hb : (val N ru p S).1.toNat ≤ 1 := by cases (val N ru p S).1 <;> simp
  unfold F_X9_longAt
  simp (disch := omega) only [ckN, ixN, nI_add, subN, mulN, eqN, leN, ltN, bdE, nmE, hasN, shl1, orN, andN, b2i_0, b2i_1, ↓reduceIte, Nat.reduceEqDiff, Nat.reduceLeDiff, li0, li1, li2, li3, li4, li5, li6, li7, li8, li9, li10, li12, li13, li15, li16, li20, li24, li32, li60, li63, li255, li300, li511, li1000, li1023, li4095, li8191, h1, h2]
  unfold wc
  have e1 : nI (1 + 2 * (val N ru p S).2 + (val N ru p S).1.toNat) - nI 1 = nI (2 * (val N ru p S).2 + (val N ru p S).1.toNat) := by
    rw [subN (by omega)]
    congr 1
    omega
  rw [e1, shrN (by omega) (by omega)]
  congr 3
  omega
theorem M_nim20 (hw : nwf N) (h : RM N τ) (hu : τ 0 12 0 = nI ru) (hr : ru < 5) (h3 : τ 0 22 0 = nI ru) (hM : MT N τ) {p S : Nat} (hp : p < nn N) (hS : S < 4096) : ∃ τ', F_X9_nimAt 20 (nI p) (nI S) τ = some (nI (nim N ru p S), τ') ∧ ag τ τ' ∧ MT N τ' := by
  have h12 := rm12 hw ru S
  obtain ⟨h4, h5⟩ := hM ru hr h3
  obtain ⟨g', hg, hg'⟩ := M_nimAt hw h hu hr 20 p S (τ 0 21) hp hS (by omega) h5
  rw [upA_self] at hg
  refine ⟨upA τ 0 21 g', hg, fun f _ f2 _ => upA_f f2, ?_⟩
  intro r' hr' e
  rw [upA_f (by decide), h3, eqN (by omega) (by omega)] at e
  subst e
  rw [upA_s, upA_f (by decide)]
  exact ⟨h4, hg'⟩
end
