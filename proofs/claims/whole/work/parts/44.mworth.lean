/-! PURE: the reference's tables of worths -/
theorem m1_eq {a : Nat} (h : a < 2147483648) : (nI a = -nI 1) = False := by
  apply eq_false
  intro e
  have h1 := congrArg Int32.toInt e
  rw [nI_toInt h] at h1
  have h2 : (-nI 1).toInt = -1 := rfl
  omega
theorem m1_le {a : Nat} (h : a < 2147483648) : (nI a ≤ -nI 1) = False := by
  apply eq_false
  intro e
  rw [Int32.le_iff_toInt_le, nI_toInt h] at e
  have h2 : (-nI 1).toInt = -1 := rfl
  omega
theorem m1_lt {a : Nat} (h : a < 2147483648) : (-nI 1 < nI a) = True := by
  apply eq_true
  rw [Int32.lt_iff_toInt_lt, nI_toInt h]
  have h2 : (-nI 1).toInt = -1 := rfl
  omega
theorem up_upA (τ : S3) (c f : Nat) (g : Nat → Int32) (j : Nat) (v : Int32) : up (upA τ c f g) c f j v = upA τ c f (upd g j v) := by
  unfold up
  rw [upA_s, upA_twice]
def wc (v : Bool × Nat) : Nat := 1 + 2 * v.2 + v.1.toNat
def eS (s : Nat) : Int32 := if s < 1000 then nI s else -nI 1
def eL (a : Nat) : Int32 := if a = 0 then -nI 1 else nI (a - 1)
def MemoW (N : Nt) (ru : Nat) (g : Nat → Int32) : Prop := ∀ p, p < nn N → ∀ S, S < 4096 → g (4096 * p + S) = nI 0 ∨ g (4096 * p + S) = nI (wc (val N ru p S))
theorem nxt_lt {N : Nt} (hw : nwf N) {ru l p S : Nat} (hl : l < nk N) (ha : atB N l p = true) (hS : S < 4096) : nxt N ru l p S < 4096 := or_lt (m := 12) hS (p2_lt (key12 hw hl ha))
theorem wc_lt {N : Nt} (hw : nwf N) (ru p S : Nat) : wc (val N ru p S) < 27 ∧ 0 < wc (val N ru p S) := by
  have := val_le hw ru p S
  unfold wc
  cases (val N ru p S).1 <;> simp <;> omega
theorem MemoW_upd {N : Nt} {ru : Nat} {g : Nat → Int32} (h : MemoW N ru g) {p S : Nat} (hS : S < 4096) : MemoW N ru (upd g (4096 * p + S) (nI (wc (val N ru p S)))) := by
  intro p' hp' S' hS'
  by_cases e : 4096 * p' + S' = 4096 * p + S
  · have e1 : p' = p := by omega
    have e2 : S' = S := by omega
    subst e1 e2
    exact Or.inr upd_s
  · rw [upd_n e]
    exact h p' hp' S' hS'
set_option maxHeartbeats 4000000 in
theorem M_worthAt {N : Nt} {τ : S3} {ru : Nat} (hw : nwf N) (h : RM N τ) (hu : τ 0 12 0 = nI ru) (hr : ru < 5) : ∀ (k p S : Nat) (g : Nat → Int32), p < nn N → S < 4096 → rm N ru S < k → MemoW N ru g → ∃ g', zl2 F_X9_worthAt_0 k (nI p) (nI S) (upA τ 0 20 g) = some (nI (wc (val N ru p S)), upA τ 0 20 g') ∧ MemoW N ru g' := by
  have hk := hw.2.2.1
  have hn := hw.2.1
  intro k
  induction k with
  | zero => intro p S g _ _ h0; exact absurd h0 (by omega)
  | succ k ihk =>
    generalize hRc : zl2 F_X9_worthAt_0 k = Rc at ihk
    intro p S g hp hS hrm hg
    have hR : ∀ g, RM N (upA τ 0 20 g) := fun g => RM_upA h (by omega)
    have hU : ∀ g, (upA τ 0 20 g) 0 12 0 = nI ru := fun g => by rw [upA_f (by decide)]; exact hu
    have hT : ∀ g, (upA τ 0 20 g) 0 20 = g := fun g => upA_s
    have hv := wc_lt hw ru p S
    have loop : ∀ (d n i : Nat) (g : Nat → Int32), i + d = nk N → d < n → MemoW N ru g → ∃ g', zl3 (Fb_X9_worthAt_33 Rc (nI p) (nI S) (nI (4096 * p + S))) n (eS (gst N ru (val N ru) p S i).1) (eL (gst N ru (val N ru) p S i).2) (nI i) (upA τ 0 20 g) = some (nI (wc (val N ru p S)), upA τ 0 20 g') ∧ MemoW N ru g' := by
      intro d
      induction d with
      | zero =>
        intro n i g hi hn' hg
        obtain ⟨n, rfl⟩ : ∃ m, n = m + 1 := ⟨n - 1, by omega⟩
        have e : i = nk N := by omega
        subst e
        rw [zl3_s]
        generalize zl3 (Fb_X9_worthAt_33 Rc (nI p) (nI S) (nI (4096 * p + S))) n = K
        have hb := gst_bd (N := N) (ru := ru) (p := p) (S := S) (B := 12) (ch := val N ru) (nk N) (fun l hl hm => val_le hw ru _ _)
        have hve := val_eq hw ru p S
        generalize hq : gst N ru (val N ru) p S (nk N) = q at hb hve ⊢
        obtain ⟨sh, la⟩ := q
        simp only at hb hve ⊢
        refine ⟨upd g (4096 * p + S) (nI (wc (val N ru p S))), ?_, MemoW_upd hg hS⟩
        unfold Fb_X9_worthAt_33 F_X9_worthAt_169 F_X9_worthAt_195 F_X9_worthAt_218
        simp (disch := omega) only [ckN, ixN, nI_add, subN, mulN, eqN, leN, ltN, bdE, nmE, hasN, shl1, orN, andN, b2i_0, b2i_1, ↓reduceIte, Nat.reduceEqDiff, Nat.reduceLeDiff, li0, li1, li2, li3, li4, li5, li6, li7, li8, li9, li10, li12, li13, li15, li16, li20, li24, li32, li60, li63, li255, li300, li511, li1000, li1023, li4095, li8191, (hR g).2.1, Nat.le_refl, hU g]
        unfold gfin at hve
        by_cases hla : la = 0
        · have hsh := hb.2.2 hla
          subst hla
          rw [if_pos rfl] at hve
          have e1 : eL 0 = -nI 1 := rfl
          by_cases h4 : ru = 4
          · rw [hve]
            simp (disch := omega) only [ckN, ixN, nI_add, subN, mulN, eqN, leN, ltN, bdE, nmE, hasN, shl1, orN, andN, b2i_0, b2i_1, ↓reduceIte, Nat.reduceEqDiff, Nat.reduceLeDiff, li0, li1, li2, li3, li4, li5, li6, li7, li8, li9, li10, li12, li13, li15, li16, li20, li24, li32, li60, li63, li255, li300, li511, li1000, li1023, li4095, li8191, e1, h4, up_upA, hT]
            simp [upd_s, wc]
          · simp (disch := omega) only [ckN, ixN, nI_add, subN, mulN, eqN, leN, ltN, bdE, nmE, hasN, shl1, orN, andN, b2i_0, b2i_1, ↓reduceIte, Nat.reduceEqDiff, Nat.reduceLeDiff, li0, li1, li2, li3, li4, li5, li6, li7, li8, li9, li10, li12, li13, li15, li16, li20, li24, li32, li60, li63, li255, li300, li511, li1000, li1023, li4095, li8191, e1, h4, up_upA, hT]
            rw [hve]
            simp [upd_s, wc, h4]
        · rw [if_neg hla] at hve
          have e1 : eL la = nI (la - 1) := if_neg hla
          by_cases hsh : sh < 1000
          · rw [if_pos hsh] at hve
            have e2 : eS sh = nI sh := if_pos hsh
            simp (disch := omega) only [ckN, ixN, nI_add, subN, mulN, eqN, leN, ltN, bdE, nmE, hasN, shl1, orN, andN, b2i_0, b2i_1, ↓reduceIte, Nat.reduceEqDiff, Nat.reduceLeDiff, li0, li1, li2, li3, li4, li5, li6, li7, li8, li9, li10, li12, li13, li15, li16, li20, li24, li32, li60, li63, li255, li300, li511, li1000, li1023, li4095, li8191, e1, e2, m1_eq, up_upA, hT, show ¬ (1 = 0) by omega]
            rw [hve]
            simp [upd_s, wc, Nat.add_comm]
          · rw [if_neg hsh] at hve
            have e2 : eS sh = -nI 1 := if_neg hsh
            simp (disch := omega) only [ckN, ixN, nI_add, subN, mulN, eqN, leN, ltN, bdE, nmE, hasN, shl1, orN, andN, b2i_0, b2i_1, ↓reduceIte, Nat.reduceEqDiff, Nat.reduceLeDiff, li0, li1, li2, li3, li4, li5, li6, li7, li8, li9, li10, li12, li13, li15, li16, li20, li24, li32, li60, li63, li255, li300, li511, li1000, li1023, li4095, li8191, e1, e2, m1_eq, up_upA, hT]
            rw [hve]
            have e3 : 1 + (la - 1) = la := by omega
            simp [upd_s, wc, e3]
      | succ d ih =>
        intro n i g hi hn' hg
        obtain ⟨n, rfl⟩ : ∃ m, n = m + 1 := ⟨n - 1, by omega⟩
        have hil : i < nk N := by omega
        have hb := gst_bd (N := N) (ru := ru) (p := p) (S := S) (B := 12) (ch := val N ru) i (fun l hl hm => val_le hw ru _ _)
        have hst : gst N ru (val N ru) p S (i + 1) = if mvB N ru i p S then (if (val N ru (oth N i p) (nxt N ru i p S)).1 then (gst N ru (val N ru) p S i).1 else min (gst N ru (val N ru) p S i).1 (val N ru (oth N i p) (nxt N ru i p S)).2, max (gst N ru (val N ru) p S i).2 ((val N ru (oth N i p) (nxt N ru i p S)).2 + 1)) else gst N ru (val N ru) p S i := rfl
        have ihn := ih n
        rw [zl3_s]
        generalize zl3 (Fb_X9_worthAt_33 Rc (nI p) (nI S) (nI (4096 * p + S))) n = K at ihn ⊢
        unfold Fb_X9_worthAt_33
        simp (disch := omega) only [ckN, ixN, nI_add, subN, mulN, eqN, leN, ltN, bdE, nmE, hasN, shl1, orN, andN, b2i_0, b2i_1, ↓reduceIte, Nat.reduceEqDiff, Nat.reduceLeDiff, li0, li1, li2, li3, li4, li5, li6, li7, li8, li9, li10, li12, li13, li15, li16, li20, li24, li32, li60, li63, li255, li300, li511, li1000, li1023, li4095, li8191, (hR g).2.1, show ¬ nk N ≤ i by omega, M_isMove hw (hR g) (hU g) hr hil (show p < 2147483648 by omega) (show S < 2147483648 by omega)]
        cases hm : mvB N ru i p S
        · have ih' := ihn (i + 1) g (by omega) (by omega) hg
          rw [hst, hm] at ih'
          simp at ih' ⊢
          exact ih'
        · have ha := mvB_at hm
          have ho := oth_lt hw hil ha
          have hx := nxt_lt (ru := ru) hw hil ha hS
          have hrm' := rm_mv hw hil hm
          obtain ⟨g1, hg1, hM1⟩ := ihk (oth N i p) (nxt N ru i p S) g ho hx (by omega) hg
          have ih' := ihn (i + 1) g1 (by omega) (by omega) hM1
          rw [hst, if_pos hm] at ih'
          have hcv := val_le hw ru (oth N i p) (nxt N ru i p S)
          simp (disch := omega) only [ckN, ixN, nI_add, subN, mulN, eqN, leN, ltN, bdE, nmE, hasN, shl1, orN, andN, b2i_0, b2i_1, ↓reduceIte, Nat.reduceEqDiff, Nat.reduceLeDiff, li0, li1, li2, li3, li4, li5, li6, li7, li8, li9, li10, li12, li13, li15, li16, li20, li24, li32, li60, li63, li255, li300, li511, li1000, li1023, li4095, li8191, M_otherOf hw (hR g) hil ha, M_setBehind hw (hR g) (hU g) hr hil ha, hg1]
          generalize gst N ru (val N ru) p S i = q at hb ih' ⊢
          obtain ⟨sh, la⟩ := q
          generalize val N ru (oth N i p) (nxt N ru i p S) = c at hcv ih' ⊢
          obtain ⟨b, hh⟩ := c
          simp only at hb ih' hcv ⊢
          have hbn : b.toNat ≤ 1 := by cases b <;> simp
          have e0 : 1 + 2 * hh + b.toNat - 1 = 2 * hh + b.toNat := by omega
          have e1 : (2 * hh + b.toNat) / 2 ^ 1 = hh := by omega
          have e2 : nI (2 * hh + b.toNat) &&& nI 1 = nI b.toNat := by
            rw [bitN]
            congr 1
            omega
          have e3 : nI (wc (b, hh)) - nI 1 = nI (2 * hh + b.toNat) := by show nI (1 + 2 * hh + b.toNat) - nI 1 = _; rw [subN (by omega), e0]
          have e4 : nI (2 * hh + b.toNat) >>> (nI 1 &&& 31) = nI hh := by rw [shrN (by omega) (by omega), e1]
          unfold F_X9_worthAt_99 F_X9_worthAt_121
          simp only [nmE, bdE, e3, e4, e2, li0, li1]
          by_cases hla : la = 0
          · have hsh := hb.2.2 hla
            subst hla
            have f1 : eL 0 = -nI 1 := rfl
            have f2 : eS sh = -nI 1 := if_neg (by omega)
            have f3 : eL (max 0 (hh + 1)) = nI hh := by unfold eL; rw [if_neg (by omega), show max 0 (hh + 1) - 1 = hh by omega]
            rw [f3] at ih'
            cases b
            · have f4 : eS (min sh hh) = nI hh := by unfold eS; rw [if_pos (by omega), show min sh hh = hh by omega]
              simp only [Bool.false_eq_true, if_false, f4] at ih'
              simp (disch := omega) only [ckN, ixN, nI_add, subN, mulN, eqN, leN, ltN, bdE, nmE, hasN, shl1, orN, andN, b2i_0, b2i_1, ↓reduceIte, Nat.reduceEqDiff, Nat.reduceLeDiff, li0, li1, li2, li3, li4, li5, li6, li7, li8, li9, li10, li12, li13, li15, li16, li20, li24, li32, li60, li63, li255, li300, li511, li1000, li1023, li4095, li8191, f1, f2, m1_le, Bool.toNat_false]
              exact ih'
            · simp only [if_true, f2] at ih'
              simp (disch := omega) only [ckN, ixN, nI_add, subN, mulN, eqN, leN, ltN, bdE, nmE, hasN, shl1, orN, andN, b2i_0, b2i_1, ↓reduceIte, Nat.reduceEqDiff, Nat.reduceLeDiff, li0, li1, li2, li3, li4, li5, li6, li7, li8, li9, li10, li12, li13, li15, li16, li20, li24, li32, li60, li63, li255, li300, li511, li1000, li1023, li4095, li8191, f1, f2, m1_le, Bool.toNat_true, show ¬ (1 = 0) by omega]
              exact ih'
          · have f1 : eL la = nI (la - 1) := if_neg hla
            by_cases hc : hh ≤ la - 1
            · have f3 : eL (max la (hh + 1)) = nI (la - 1) := by unfold eL; rw [if_neg (by omega), show max la (hh + 1) - 1 = la - 1 by omega]
              rw [f3] at ih'
              cases b
              · simp only [Bool.false_eq_true, if_false] at ih'
                by_cases hs : sh < 1000
                · have f2 : eS sh = nI sh := if_pos hs
                  have f4 : eS (min sh hh) = nI (min sh hh) := if_pos (by omega)
                  rw [f4] at ih'
                  by_cases hs2 : sh ≤ hh
                  · rw [show min sh hh = sh by omega] at ih'
                    simp (disch := omega) only [ckN, ixN, nI_add, subN, mulN, eqN, leN, ltN, bdE, nmE, hasN, shl1, orN, andN, b2i_0, b2i_1, ↓reduceIte, Nat.reduceEqDiff, Nat.reduceLeDiff, li0, li1, li2, li3, li4, li5, li6, li7, li8, li9, li10, li12, li13, li15, li16, li20, li24, li32, li60, li63, li255, li300, li511, li1000, li1023, li4095, li8191, f1, f2, hc, hs2, m1_eq, Bool.toNat_false]
                    exact ih'
                  · rw [show min sh hh = hh by omega] at ih'
                    simp (disch := omega) only [ckN, ixN, nI_add, subN, mulN, eqN, leN, ltN, bdE, nmE, hasN, shl1, orN, andN, b2i_0, b2i_1, ↓reduceIte, Nat.reduceEqDiff, Nat.reduceLeDiff, li0, li1, li2, li3, li4, li5, li6, li7, li8, li9, li10, li12, li13, li15, li16, li20, li24, li32, li60, li63, li255, li300, li511, li1000, li1023, li4095, li8191, f1, f2, hc, hs2, m1_eq, Bool.toNat_false]
                    exact ih'
                · have f2 : eS sh = -nI 1 := if_neg hs
                  have f4 : eS (min sh hh) = nI hh := by unfold eS; rw [if_pos (by omega), show min sh hh = hh by omega]
                  rw [f4] at ih'
                  simp (disch := omega) only [ckN, ixN, nI_add, subN, mulN, eqN, leN, ltN, bdE, nmE, hasN, shl1, orN, andN, b2i_0, b2i_1, ↓reduceIte, Nat.reduceEqDiff, Nat.reduceLeDiff, li0, li1, li2, li3, li4, li5, li6, li7, li8, li9, li10, li12, li13, li15, li16, li20, li24, li32, li60, li63, li255, li300, li511, li1000, li1023, li4095, li8191, f1, f2, hc, Bool.toNat_false]
                  exact ih'
              · simp only [if_true] at ih'
                simp (disch := omega) only [ckN, ixN, nI_add, subN, mulN, eqN, leN, ltN, bdE, nmE, hasN, shl1, orN, andN, b2i_0, b2i_1, ↓reduceIte, Nat.reduceEqDiff, Nat.reduceLeDiff, li0, li1, li2, li3, li4, li5, li6, li7, li8, li9, li10, li12, li13, li15, li16, li20, li24, li32, li60, li63, li255, li300, li511, li1000, li1023, li4095, li8191, f1, hc, Bool.toNat_true, show ¬ (1 = 0) by omega]
                exact ih'
            · have f3 : eL (max la (hh + 1)) = nI hh := by unfold eL; rw [if_neg (by omega), show max la (hh + 1) - 1 = hh by omega]
              rw [f3] at ih'
              cases b
              · simp only [Bool.false_eq_true, if_false] at ih'
                by_cases hs : sh < 1000
                · have f2 : eS sh = nI sh := if_pos hs
                  have f4 : eS (min sh hh) = nI (min sh hh) := if_pos (by omega)
                  rw [f4] at ih'
                  by_cases hs2 : sh ≤ hh
                  · rw [show min sh hh = sh by omega] at ih'
                    simp (disch := omega) only [ckN, ixN, nI_add, subN, mulN, eqN, leN, ltN, bdE, nmE, hasN, shl1, orN, andN, b2i_0, b2i_1, ↓reduceIte, Nat.reduceEqDiff, Nat.reduceLeDiff, li0, li1, li2, li3, li4, li5, li6, li7, li8, li9, li10, li12, li13, li15, li16, li20, li24, li32, li60, li63, li255, li300, li511, li1000, li1023, li4095, li8191, f1, f2, hc, hs2, m1_eq, Bool.toNat_false]
                    exact ih'
                  · rw [show min sh hh = hh by omega] at ih'
                    simp (disch := omega) only [ckN, ixN, nI_add, subN, mulN, eqN, leN, ltN, bdE, nmE, hasN, shl1, orN, andN, b2i_0, b2i_1, ↓reduceIte, Nat.reduceEqDiff, Nat.reduceLeDiff, li0, li1, li2, li3, li4, li5, li6, li7, li8, li9, li10, li12, li13, li15, li16, li20, li24, li32, li60, li63, li255, li300, li511, li1000, li1023, li4095, li8191, f1, f2, hc, hs2, m1_eq, Bool.toNat_false]
                    exact ih'
                · have f2 : eS sh = -nI 1 := if_neg hs
                  have f4 : eS (min sh hh) = nI hh := by unfold eS; rw [if_pos (by omega), show min sh hh = hh by omega]
                  rw [f4] at ih'
                  simp (disch := omega) only [ckN, ixN, nI_add, subN, mulN, eqN, leN, ltN, bdE, nmE, hasN, shl1, orN, andN, b2i_0, b2i_1, ↓reduceIte, Nat.reduceEqDiff, Nat.reduceLeDiff, li0, li1, li2, li3, li4, li5, li6, li7, li8, li9, li10, li12, li13, li15, li16, li20, li24, li32, li60, li63, li255, li300, li511, li1000, li1023, li4095, li8191, f1, f2, hc, Bool.toNat_false]
                  exact ih'
              · simp only [if_true] at ih'
                simp (disch := omega) only [ckN, ixN, nI_add, subN, mulN, eqN, leN, ltN, bdE, nmE, hasN, shl1, orN, andN, b2i_0, b2i_1, ↓reduceIte, Nat.reduceEqDiff, Nat.reduceLeDiff, li0, li1, li2, li3, li4, li5, li6, li7, li8, li9, li10, li12, li13, li15, li16, li20, li24, li32, li60, li63, li255, li300, li511, li1000, li1023, li4095, li8191, f1, hc, Bool.toNat_true, show ¬ (1 = 0) by omega]
                exact ih'
    have h4 : (4096 : Int32) * nI p + nI S = nI (4096 * p + S) := by
      rw [show (4096 : Int32) = nI 4096 from rfl, mulN, nI_add]
    rw [zl2_s, hRc]
    unfold F_X9_worthAt_0 F_X9_worthAt_33
    simp (disch := omega) only [ckN, ixN, nI_add, subN, mulN, eqN, leN, ltN, bdE, nmE, hasN, shl1, orN, andN, b2i_0, b2i_1, ↓reduceIte, Nat.reduceEqDiff, Nat.reduceLeDiff, li0, li1, li2, li3, li4, li5, li6, li7, li8, li9, li10, li12, li13, li15, li16, li20, li24, li32, li60, li63, li255, li300, li511, li1000, li1023, li4095, li8191, h4, hT]
    rcases hg p hp S hS with e | e
    · simp (disch := omega) only [ckN, ixN, nI_add, subN, mulN, eqN, leN, ltN, bdE, nmE, hasN, shl1, orN, andN, b2i_0, b2i_1, ↓reduceIte, Nat.reduceEqDiff, Nat.reduceLeDiff, li0, li1, li2, li3, li4, li5, li6, li7, li8, li9, li10, li12, li13, li15, li16, li20, li24, li32, li60, li63, li255, li300, li511, li1000, li1023, li4095, li8191, e]
      exact loop (nk N) zF 0 g (by omega) (zfl (by omega)) hg
    · refine ⟨g, ?_, hg⟩
      simp (disch := omega) only [ckN, ixN, nI_add, subN, mulN, eqN, leN, ltN, bdE, nmE, hasN, shl1, orN, andN, b2i_0, b2i_1, ↓reduceIte, Nat.reduceEqDiff, Nat.reduceLeDiff, li0, li1, li2, li3, li4, li5, li6, li7, li8, li9, li10, li12, li13, li15, li16, li20, li24, li32, li60, li63, li255, li300, li511, li1000, li1023, li4095, li8191, e, show ¬ (wc (val N ru p S) = 0) by omega]
