/-! PURE: the reference's pairings -/
theorem and0 {N : Nt} {l V : Nat} : (V &&& en N l = 0) = (V.testBit (nf N l) = false ∧ V.testBit (nt N l) = false) := by
  apply propext
  constructor
  · intro h
    have h1 := congrArg (fun x => x.testBit (nf N l)) h
    have h2 := congrArg (fun x => x.testBit (nt N l)) h
    simp only [Nat.testBit_and, en_tb, Nat.zero_testBit] at h1 h2
    simp at h1 h2
    exact ⟨h1, h2⟩
  · rintro ⟨h1, h2⟩
    apply Nat.eq_of_testBit_eq
    intro j
    rw [Nat.testBit_and, en_tb, Nat.zero_testBit]
    by_cases e1 : nf N l = j
    · subst e1; simp [h1]
    · by_cases e2 : nt N l = j
      · subst e2; simp [h2]
      · simp [e1, e2]
theorem un_lt {N : Nt} (hw : nwf N) (U : Nat) : ∀ i, i ≤ nk N → un N U i < 1024
  | 0, _ => by simp [un]
  | i + 1, h => by
    have ih := un_lt hw U i (by omega)
    rw [un]
    cases U.testBit i
    · simpa using ih
    · simp only [if_true]
      exact or_lt (m := 10) ih (en_lt hw (by omega))
theorem pc_x {U m : Nat} (h : U < 2 ^ m) : ∀ d, pc U (m + d) = pc U m
  | 0 => rfl
  | d + 1 => by
    rw [show m + (d + 1) = (m + d) + 1 from rfl, pc, pc_x h d, Nat.testBit_lt_two_pow (Nat.lt_of_lt_of_le h (Nat.pow_le_pow_right (by omega) (by omega)))]
    rfl
theorem pc12 {N : Nt} (hw : nwf N) {U : Nat} (h : U < 2 ^ nk N) : pc U 12 = pc U (nk N) := by
  have := hw.2.2.1
  have e := pc_x h (12 - nk N)
  rw [show nk N + (12 - nk N) = 12 by omega] at e
  exact e
section
variable {N : Nt} {τ : S3}
theorem M_metBy (hw : nwf N) (h : RM N τ) {U P : Nat} (hU : U < 4096) (hP : P < 4096) : F_X9_metBy (nI U) (nI P) τ = some (if mt N (nk N) P U = true then nI (un N U (nk N)) else -nI 1, τ) := by
  have hk := hw.2.2.1
  have hn := hw.2.1
  have lp : ∀ (d n i : Nat), i + d = nk N → d < n → av N P U i = true → zl2 (Fb_X9_metBy_5 (nI U) (nI P)) n (nI (un N U i)) (nI i) τ = some (if av N P U (nk N) = true then nI (un N U (nk N)) else -nI 1, τ) := by
    intro d
    induction d with
    | zero =>
      intro n i hi hn' ha
      obtain ⟨n, rfl⟩ : ∃ m, n = m + 1 := ⟨n - 1, by omega⟩
      have e : i = nk N := by omega
      subst e
      rw [zl2_s]
      generalize zl2 (Fb_X9_metBy_5 (nI U) (nI P)) n = K
      unfold Fb_X9_metBy_5
      rw [if_pos ha]
      simp (disch := omega) only [ckN, ixN, nI_add, subN, mulN, eqN, leN, ltN, bdE, nmE, hasN, shl1, orN, andN, b2i_0, b2i_1, ↓reduceIte, Nat.reduceEqDiff, Nat.reduceLeDiff, li0, li1, li2, li3, li4, li5, li6, li7, li8, li9, li10, li12, li13, li15, li16, li20, li24, li32, li60, li63, li255, li300, li511, li1000, li1023, li4095, li8191, h.2.1, Nat.le_refl]
    | succ d ih =>
      intro n i hi hn' ha
      obtain ⟨n, rfl⟩ : ∃ m, n = m + 1 := ⟨n - 1, by omega⟩
      have hil : i < nk N := by omega
      have h1 := hw.2.2.2 i hil
      have h2 := h.2.2 i hil
      have hul := un_lt hw U i (by omega)
      have hel := en_lt hw hil
      have ihn := ih n (i + 1) (by omega) (by omega)
      rw [av_s, un] at ihn
      have hfin : av N P U (i + 1) = false → av N P U (nk N) = false := by
        intro hf
        cases hx : av N P U (nk N)
        · rfl
        · have := av_mono (i := i + 1) (nk N - (i + 1)) (by rw [show i + 1 + (nk N - (i + 1)) = nk N by omega]; exact hx)
          rw [hf] at this; cases this
      have hav := av_s (N := N) (P := P) (U := U) (i := i)
      rw [zl2_s]
      generalize zl2 (Fb_X9_metBy_5 (nI U) (nI P)) n = K at ihn ⊢
      unfold Fb_X9_metBy_5
      simp (disch := omega) only [ckN, ixN, nI_add, subN, mulN, eqN, leN, ltN, bdE, nmE, hasN, shl1, orN, andN, b2i_0, b2i_1, ↓reduceIte, Nat.reduceEqDiff, Nat.reduceLeDiff, li0, li1, li2, li3, li4, li5, li6, li7, li8, li9, li10, li12, li13, li15, li16, li20, li24, li32, li60, li63, li255, li300, li511, li1000, li1023, li4095, li8191, h.2.1, show ¬ nk N ≤ i by omega, M_has (show U < 2147483648 by omega) (show i < 32 by omega), h2.1, h2.2.1, m1]
      have hen : 2 ^ nf N i ||| 2 ^ nt N i = en N i := rfl
      cases hb : U.testBit i
      · rw [hb] at ihn
        simp only [if_true]
        exact ihn ⟨ha, fun hx => by cases hx⟩
      · rw [hb] at ihn hav
        simp only [Bool.true_eq_false, if_false, if_true] at ihn ⊢
        rw [hen, difN]
        have hA : un N U i &&& en N i < 2147483648 := Nat.lt_of_le_of_lt Nat.and_le_left (by omega)
        have hD : dif (en N i) P < 2147483648 := dif_lt (by omega) P
        simp (disch := omega) only [ckN, ixN, nI_add, subN, mulN, eqN, leN, ltN, bdE, nmE, hasN, shl1, orN, andN, b2i_0, b2i_1, ↓reduceIte, Nat.reduceEqDiff, Nat.reduceLeDiff, li0, li1, li2, li3, li4, li5, li6, li7, li8, li9, li10, li12, li13, li15, li16, li20, li24, li32, li60, li63, li255, li300, li511, li1000, li1023, li4095, li8191, and0, sb_dif]
        by_cases c1 : (un N U i).testBit (nf N i) = false ∧ (un N U i).testBit (nt N i) = false
        · rw [if_pos c1]
          by_cases c2 : sb N i P = true
          · rw [if_pos c2]
            exact ihn ⟨ha, fun _ => ⟨c2, c1⟩⟩
          · rw [if_neg c2, hfin, if_neg Bool.false_ne_true]
            cases hx : av N P U (i + 1)
            · rfl
            · exact absurd ((hav.mp hx).2 rfl).1 c2
        · rw [if_neg c1, hfin, if_neg Bool.false_ne_true]
          cases hx : av N P U (i + 1)
          · rfl
          · exact absurd ((hav.mp hx).2 rfl).2 c1
  have e := lp (nk N) zF 0 (by omega) (zfl (by omega)) rfl
  unfold F_X9_metBy F_X9_metBy_5
  rw [show (if mt N (nk N) P U = true then nI (un N U (nk N)) else -nI 1) = (if av N P U (nk N) = true then nI (un N U (nk N)) else -nI 1) from by
    by_cases hx : mt N (nk N) P U = true
    · rw [if_pos hx, if_pos ((mt_av _ _).mp hx)]
    · rw [if_neg hx, if_neg (fun h => hx ((mt_av _ _).mpr h))]]
  exact e
/-- but fields 7 and 8 -/
def pg (τ τ' : S3) : Prop := ∀ f, f ≠ 7 → f ≠ 8 → τ' 0 f = τ 0 f
theorem RM_pg {τ' : S3} (h : pg τ τ') (hr : RM N τ) : RM N τ' := by
  unfold RM at hr ⊢
  rw [h 1 (by decide) (by decide), h 2 (by decide) (by decide), h 3 (by decide) (by decide), h 4 (by decide) (by decide), h 5 (by decide) (by decide)]
  exact hr
def pI (N : Nt) (P T c b ne : Nat) : Prop := (∀ U, U < T → mt N (nk N) P U = true → pc U (nk N) ≤ c) ∧ mt N (nk N) P b = true ∧ pc b (nk N) = c ∧ (b < 2 ^ nk N ∧ b ≤ T) ∧ (∀ U, U < T → mt N (nk N) P U = true → pc U (nk N) = c → b ≤ U) ∧ ∀ q, ne.testBit q = true ↔ (0 < c ∧ ∀ U, U < T → mt N (nk N) P U = true → pc U (nk N) = c → (un N U (nk N)).testBit q = true)
theorem mt0 (N : Nt) : ∀ i P, mt N i P 0 = true
  | 0, _ => rfl
  | i + 1, P => by rw [mt, Nat.zero_testBit]; simp [mt0 N i P]
theorem pc0 : ∀ i, pc 0 i = 0
  | 0 => rfl
  | i + 1 => by rw [pc, pc0 i, Nat.zero_testBit]; rfl
set_option maxHeartbeats 1000000 in
theorem M_pairingOf (hw : nwf N) (h : RM N τ) {P : Nat} (hP : P < 4096) : ∃ τ' ne, F_X9_pairingOf (nI P) τ = some (nI (lst N (nk N) P), τ') ∧ pg τ τ' ∧ τ' 0 7 0 = nI (mm N (nk N) P) ∧ τ' 0 8 0 = nI ne ∧ ∀ q, ne.testBit q = true ↔ (0 < mm N (nk N) P ∧ ∀ U, U < 2 ^ nk N → mt N (nk N) P U = true → pc U (nk N) = mm N (nk N) P → (un N U (nk N)).testBit q = true) := by
  have hk := hw.2.2.1
  have hpw : 2 ^ nk N ≤ 4096 := Nat.pow_le_pow_right (n := 2) (by omega) hk
  have lp : ∀ (d n T : Nat) (s : S3) (c b ne : Nat), T + d = 2 ^ nk N → d < n → pg τ s → s 0 7 0 = nI c → s 0 8 0 = nI ne → pI N P T c b ne → ∃ τ' c' b' ne', zl2 (Fb_X9_pairingOf_14 (nI P)) n (nI b) (nI T) s = some (nI b', τ') ∧ pg τ τ' ∧ τ' 0 7 0 = nI c' ∧ τ' 0 8 0 = nI ne' ∧ pI N P (2 ^ nk N) c' b' ne' := by
    intro d
    induction d with
    | zero =>
      intro n T s c b ne hT hn' hg h7 h8 hI
      obtain ⟨n, rfl⟩ : ∃ m, n = m + 1 := ⟨n - 1, by omega⟩
      have e : T = 2 ^ nk N := by omega
      subst e
      refine ⟨s, c, b, ne, ?_, hg, h7, h8, hI⟩
      rw [zl2_s]
      generalize zl2 (Fb_X9_pairingOf_14 (nI P)) n = K
      unfold Fb_X9_pairingOf_14
      simp (disch := omega) only [ckN, ixN, nI_add, subN, mulN, eqN, leN, ltN, bdE, nmE, hasN, shl1, orN, andN, b2i_0, b2i_1, ↓reduceIte, Nat.reduceEqDiff, Nat.reduceLeDiff, li0, li1, li2, li3, li4, li5, li6, li7, li8, li9, li10, li12, li13, li15, li16, li20, li24, li32, li60, li63, li255, li300, li511, li1000, li1023, li4095, li8191, (RM_pg hg h).2.1, Nat.le_refl]
    | succ d ih =>
      intro n T s c b ne hT hn' hg h7 h8 hI
      obtain ⟨n, rfl⟩ : ∃ m, n = m + 1 := ⟨n - 1, by omega⟩
      have ihn := ih n
      have hTl : T < 2 ^ nk N := by omega
      have hTp := pc12 hw hTl
      have hpl := pc_le T 12
      have hbp := pc_le b (nk N)
      have hcl : c ≤ 12 := by have := hI.2.2.1; omega
      have hul := un_lt hw T (nk N) (Nat.le_refl _)
      obtain ⟨i1, i2, i3, i4, i5, i6⟩ := hI
      rw [zl2_s]
      generalize zl2 (Fb_X9_pairingOf_14 (nI P)) n = K at ihn ⊢
      unfold Fb_X9_pairingOf_14 F_X9_pairingOf_45 F_X9_pairingOf_83
      simp (disch := omega) only [ckN, ixN, nI_add, subN, mulN, eqN, leN, ltN, bdE, nmE, hasN, shl1, orN, andN, b2i_0, b2i_1, ↓reduceIte, Nat.reduceEqDiff, Nat.reduceLeDiff, li0, li1, li2, li3, li4, li5, li6, li7, li8, li9, li10, li12, li13, li15, li16, li20, li24, li32, li60, li63, li255, li300, li511, li1000, li1023, li4095, li8191, (RM_pg hg h).2.1, show ¬ 2 ^ nk N ≤ T by omega, M_ones (show T < 4096 by omega), h7, M_metBy hw (RM_pg hg h) (show T < 4096 by omega) hP, m1]
      have hskip : ¬ (mt N (nk N) P T = true ∧ c ≤ pc T (nk N)) → pI N P (T + 1) c b ne := by
        intro hx
        refine ⟨?_, i2, i3, ⟨i4.1, by omega⟩, ?_, ?_⟩
        · intro U hU hm
          by_cases e : U = T
          · subst e
            rcases Nat.lt_or_ge (pc U (nk N)) c with hl | hl
            · omega
            · exact absurd ⟨hm, hl⟩ hx
          · exact i1 U (by omega) hm
        · intro U hU hm hp
          by_cases e : U = T
          · subst e; exact absurd ⟨hm, by omega⟩ hx
          · exact i5 U (by omega) hm hp
        · intro q
          rw [i6 q]
          constructor
          · rintro ⟨a1, a2⟩
            refine ⟨a1, fun U hU hm hp => ?_⟩
            by_cases e : U = T
            · subst e; exact absurd ⟨hm, by omega⟩ hx
            · exact a2 U (by omega) hm hp
          · rintro ⟨a1, a2⟩
            exact ⟨a1, fun U hU hm hp => a2 U (by omega) hm hp⟩
      by_cases hc : c ≤ pc T 12
      · rw [if_pos hc]
        by_cases hm : mt N (nk N) P T = true
        · rw [if_pos hm]
          simp (disch := omega) only [ckN, ixN, nI_add, subN, mulN, eqN, leN, ltN, bdE, nmE, hasN, shl1, orN, andN, b2i_0, b2i_1, ↓reduceIte, Nat.reduceEqDiff, Nat.reduceLeDiff, li0, li1, li2, li3, li4, li5, li6, li7, li8, li9, li10, li12, li13, li15, li16, li20, li24, li32, li60, li63, li255, li300, li511, li1000, li1023, li4095, li8191, m1_eq, h7, h8]
          by_cases hc2 : pc T 12 ≤ c
          · rw [if_pos hc2]
            refine ihn (T + 1) _ c b (ne &&& un N T (nk N)) (by omega) (by omega) ?_ ?_ ?_ ?_
            · intro f f1 f2
              rw [up_f f2]; exact hg f f1 f2
            · rw [up_f (by decide)]; exact h7
            · rw [up_s, upd_s]
            · refine ⟨?_, i2, i3, ⟨i4.1, by omega⟩, ?_, ?_⟩
              · intro U hU hm'
                by_cases e : U = T
                · subst e; omega
                · exact i1 U (by omega) hm'
              · intro U hU hm' hp
                by_cases e : U = T
                · subst e; exact i4.2
                · exact i5 U (by omega) hm' hp
              · intro q
                rw [Nat.testBit_and, Bool.and_eq_true, i6 q]
                constructor
                · rintro ⟨⟨a1, a2⟩, a3⟩
                  refine ⟨a1, fun U hU hm' hp => ?_⟩
                  by_cases e : U = T
                  · subst e; exact a3
                  · exact a2 U (by omega) hm' hp
                · rintro ⟨a1, a2⟩
                  exact ⟨⟨a1, fun U hU hm' hp => a2 U (by omega) hm' hp⟩, a2 T (by omega) hm (by omega)⟩
          · rw [if_neg hc2]
            refine ihn (T + 1) _ (pc T 12) T (un N T (nk N) &&& un N T (nk N)) (by omega) (by omega) ?_ ?_ ?_ ?_
            · intro f f1 f2
              rw [up_f f2, up_f f2, up_f f1]; exact hg f f1 f2
            · rw [up_f (by decide), up_f (by decide), up_s, upd_s]
            · rw [up_s, upd_s, up_s, upd_s, andN]
            · refine ⟨?_, hm, by omega, ⟨hTl, by omega⟩, ?_, ?_⟩
              · intro U hU hm'
                by_cases e : U = T
                · subst e; omega
                · have := i1 U (by omega) hm'; omega
              · intro U hU hm' hp
                by_cases e : U = T
                · omega
                · have := i1 U (by omega) hm'; omega
              · intro q
                rw [Nat.and_self]
                constructor
                · intro a
                  refine ⟨by omega, fun U hU hm' hp => ?_⟩
                  by_cases e : U = T
                  · subst e; exact a
                  · have := i1 U (by omega) hm'; omega
                · rintro ⟨a1, a2⟩
                  exact a2 T (by omega) hm (by omega)
        · rw [if_neg hm]
          simp (disch := omega) only [ckN, ixN, nI_add, subN, mulN, eqN, leN, ltN, bdE, nmE, hasN, shl1, orN, andN, b2i_0, b2i_1, ↓reduceIte, Nat.reduceEqDiff, Nat.reduceLeDiff, li0, li1, li2, li3, li4, li5, li6, li7, li8, li9, li10, li12, li13, li15, li16, li20, li24, li32, li60, li63, li255, li300, li511, li1000, li1023, li4095, li8191]
          exact ihn (T + 1) s c b ne (by omega) (by omega) hg h7 h8 (hskip (fun hx => hm hx.1))
      · rw [if_neg hc]
        exact ihn (T + 1) s c b ne (by omega) (by omega) hg h7 h8 (hskip (fun hx => hc (by omega)))
  unfold F_X9_pairingOf F_X9_pairingOf_14
  simp (disch := omega) only [ckN, ixN, nI_add, subN, mulN, eqN, leN, ltN, bdE, nmE, hasN, shl1, orN, andN, b2i_0, b2i_1, ↓reduceIte, Nat.reduceEqDiff, Nat.reduceLeDiff, li0, li1, li2, li3, li4, li5, li6, li7, li8, li9, li10, li12, li13, li15, li16, li20, li24, li32, li60, li63, li255, li300, li511, li1000, li1023, li4095, li8191]
  obtain ⟨τ', c, b, ne, e, g1, g2, g3, i1, i2, i3, i4, i5, i6⟩ := lp (2 ^ nk N) zF 0 (up (up τ 0 7 0 (nI 0)) 0 8 0 (nI 0)) 0 0 0 (by omega) (zfl (by omega)) (fun f f1 f2 => by rw [up_f f2, up_f f1]) (by rw [up_f (by decide), up_s, upd_s]) (by rw [up_s, upd_s]) ⟨fun U hU => absurd hU (by omega), mt0 N _ P, pc0 _, ⟨Nat.two_pow_pos _, Nat.le_refl _⟩, fun U hU => absurd hU (by omega), fun q => by rw [Nat.zero_testBit]; simp⟩
  obtain ⟨l1, l2, l3, l4⟩ := lst_spec (N := N) (nk N) P
  have hc : c = mm N (nk N) P := by
    have a1 := mt_le _ _ i2
    have a2 := i1 _ l1 l2
    omega
  subst hc
  have hb : b = lst N (nk N) P := Nat.le_antisymm (i5 _ l1 l2 l3) (l4 b i4.1 i2 i3)
  subst hb
  exact ⟨τ', ne, e, g1, g2, g3, i6⟩
theorem M_all (h : RM N τ) (hw : nwf N) : F_X9_all τ = some (nI (2 ^ nn N - 1), τ) := by
  have hn := hw.2.1
  have := Nat.two_pow_pos (nn N)
  unfold F_X9_all
  simp (disch := omega) only [ckN, ixN, nI_add, subN, mulN, eqN, leN, ltN, bdE, nmE, hasN, shl1, orN, andN, b2i_0, b2i_1, ↓reduceIte, Nat.reduceEqDiff, Nat.reduceLeDiff, li0, li1, li2, li3, li4, li5, li6, li7, li8, li9, li10, li12, li13, li15, li16, li20, li24, li32, li60, li63, li255, li300, li511, li1000, li1023, li4095, li8191, h.1]
theorem X_everyPoint {c : Nat} {σ : S3} (hw : nwf N) (h : RX c N σ) : F_X2_everyPoint c σ = some (nI (2 ^ nn N - 1), σ) := by
  have hn := hw.2.1
  have := Nat.two_pow_pos (nn N)
  unfold F_X2_everyPoint
  simp (disch := omega) only [ckN, ixN, nI_add, subN, mulN, eqN, leN, ltN, bdE, nmE, hasN, shl1, orN, andN, b2i_0, b2i_1, ↓reduceIte, Nat.reduceEqDiff, Nat.reduceLeDiff, li0, li1, li2, li3, li4, li5, li6, li7, li8, li9, li10, li12, li13, li15, li16, li20, li24, li32, li60, li63, li255, li300, li511, li1000, li1023, li4095, li8191, h.1]
theorem all_lt (hw : nwf N) : 2 ^ nn N - 1 < 1024 := by
  have h1 := hw.2.1
  have h2 : 2 ^ nn N ≤ 2 ^ 10 := Nat.pow_le_pow_right (by omega) h1
  have h3 := Nat.two_pow_pos (nn N)
  omega
theorem X_neededPoints {σ : S3} (hw : nwf N) (h : RX 1 N σ) : F_X2_neededPoints 1 σ = some (nI (bset (nn N) (fun q => !decide (mm N (nk N) (2 ^ nn N - 1) ≤ mm N (nk N) (dif (2 ^ nn N - 1) (2 ^ q))))), σ) := by
  have hk := hw.2.2.1
  have hn := hw.2.1
  have hal := all_lt hw
  have hmA := mm_le hw (nk N) (2 ^ nn N - 1) (Nat.le_refl _)
  have hpA := pc_le (2 ^ nn N - 1) 12
  have lp : ∀ (d n i : Nat), i + d = nn N → d < n → zl2 (Fb_X2_neededPoints_13 1 (nI (mm N (nk N) (2 ^ nn N - 1)))) n (nI (bset i (fun q => !decide (mm N (nk N) (2 ^ nn N - 1) ≤ mm N (nk N) (dif (2 ^ nn N - 1) (2 ^ q)))))) (nI i) σ = some (nI (bset (nn N) (fun q => !decide (mm N (nk N) (2 ^ nn N - 1) ≤ mm N (nk N) (dif (2 ^ nn N - 1) (2 ^ q))))), σ) := by
    intro d
    induction d with
    | zero =>
      intro n i hi hn'
      obtain ⟨n, rfl⟩ : ∃ m, n = m + 1 := ⟨n - 1, by omega⟩
      have e : i = nn N := by omega
      subst e
      rw [zl2_s]
      generalize zl2 (Fb_X2_neededPoints_13 1 (nI (mm N (nk N) (2 ^ nn N - 1)))) n = K
      unfold Fb_X2_neededPoints_13
      simp (disch := omega) only [ckN, ixN, nI_add, subN, mulN, eqN, leN, ltN, bdE, nmE, hasN, shl1, orN, andN, b2i_0, b2i_1, ↓reduceIte, Nat.reduceEqDiff, Nat.reduceLeDiff, li0, li1, li2, li3, li4, li5, li6, li7, li8, li9, li10, li12, li13, li15, li16, li20, li24, li32, li60, li63, li255, li300, li511, li1000, li1023, li4095, li8191, h.1, Nat.le_refl]
    | succ d ih =>
      intro n i hi hn'
      obtain ⟨n, rfl⟩ : ∃ m, n = m + 1 := ⟨n - 1, by omega⟩
      have ih' := ih n (i + 1) (by omega) (by omega)
      rw [bset] at ih'
      have hmD := mm_le hw (nk N) (dif (2 ^ nn N - 1) (2 ^ i)) (Nat.le_refl _)
      have hpD := pc_le (dif (2 ^ nn N - 1) (2 ^ i)) 12
      have hdl := dif_lt hal (2 ^ i)
      rw [zl2_s]
      generalize zl2 (Fb_X2_neededPoints_13 1 (nI (mm N (nk N) (2 ^ nn N - 1)))) n = K at ih' ⊢
      unfold Fb_X2_neededPoints_13
      simp (disch := omega) only [ckN, ixN, nI_add, subN, mulN, eqN, leN, ltN, bdE, nmE, hasN, shl1, orN, andN, b2i_0, b2i_1, ↓reduceIte, Nat.reduceEqDiff, Nat.reduceLeDiff, li0, li1, li2, li3, li4, li5, li6, li7, li8, li9, li10, li12, li13, li15, li16, li20, li24, li32, li60, li63, li255, li300, li511, li1000, li1023, li4095, li8191, h.1, show ¬ nn N ≤ i by omega, X_everyPoint hw h, m1, difN, X_mostPairs hw h (show dif (2 ^ nn N - 1) (2 ^ i) < 4096 by omega)]
      by_cases hc : mm N (nk N) (2 ^ nn N - 1) ≤ mm N (nk N) (dif (2 ^ nn N - 1) (2 ^ i))
      · rw [if_pos hc]
        simp only [hc, decide_true, Bool.not_true, Bool.false_eq_true, if_false, Nat.or_zero] at ih'
        exact ih'
      · rw [if_neg hc]
        simp only [hc, decide_false, Bool.not_false, if_true] at ih'
        exact ih'
  unfold F_X2_neededPoints F_X2_neededPoints_13
  rw [X_everyPoint hw h, bdE, X_mostPairs hw h (by omega), bdE]
  exact lp (nn N) zF 0 (by omega) (zfl (by omega))
theorem av_rm {P U q : Nat} : ∀ i, av N P U i = true → (un N U i).testBit q = false → av N (dif P (2 ^ q)) U i = true
  | 0, _, _ => rfl
  | i + 1, h, hq => by
    rw [av_s] at h ⊢
    rw [un] at hq
    cases hU : U.testBit i
    · rw [hU] at hq
      simp at hq
      exact ⟨av_rm i h.1 hq, fun hx => by cases hx⟩
    · rw [hU] at hq
      simp only [if_true, Nat.testBit_or, en_tb, Bool.or_eq_false_iff, decide_eq_false_iff_not] at hq
      have h2 := h.2 hU
      refine ⟨av_rm i h.1 hq.1, fun _ => ⟨?_, h2.2⟩⟩
      have h3 := h2.1
      unfold sb at h3 ⊢
      rw [dif_tb, dif_tb, Nat.testBit_two_pow, Nat.testBit_two_pow]
      simp at h3 ⊢
      exact ⟨⟨h3.1, fun e => hq.2.1 e.symm⟩, h3.2, fun e => hq.2.2 e.symm⟩
theorem av_up {P Q U : Nat} (hs : ∀ j, P.testBit j = true → Q.testBit j = true) : ∀ i, av N P U i = true → av N Q U i = true
  | 0, _ => rfl
  | i + 1, h => by
    rw [av_s] at h ⊢
    refine ⟨av_up hs i h.1, fun hx => ?_⟩
    have h2 := h.2 hx
    refine ⟨?_, h2.2⟩
    have h3 := h2.1
    unfold sb at h3 ⊢
    simp at h3 ⊢
    exact ⟨hs _ h3.1, hs _ h3.2⟩
theorem un_sub {P U q : Nat} : ∀ i, av N P U i = true → (un N U i).testBit q = true → P.testBit q = true
  | 0, _, h => by simp [un] at h
  | i + 1, h, hq => by
    rw [av_s] at h
    rw [un] at hq
    cases hU : U.testBit i
    · rw [hU] at hq
      simp at hq
      exact un_sub i h.1 hq
    · rw [hU] at hq
      have h2 := (h.2 hU).1
      unfold sb at h2
      simp only [if_true, Nat.testBit_or, en_tb, Bool.or_eq_true, decide_eq_true_eq] at hq
      simp at h2
      rcases hq with a | a | a
      · exact un_sub i h.1 a
      · rw [← a]; exact h2.1
      · rw [← a]; exact h2.2
theorem M_needed (hw : nwf N) (h : RM N τ) : ∃ τ', F_X9_needed τ = some (nI (bset (nn N) (fun q => !decide (mm N (nk N) (2 ^ nn N - 1) ≤ mm N (nk N) (dif (2 ^ nn N - 1) (2 ^ q))))), τ') ∧ pg τ τ' := by
  have hal := all_lt hw
  obtain ⟨τ', ne, e, g1, g2, g3, g4⟩ := M_pairingOf hw h (show 2 ^ nn N - 1 < 4096 by omega)
  refine ⟨τ', ?_, g1⟩
  unfold F_X9_needed
  rw [M_all h hw, bdE, e, bdE, g3]
  congr 3
  apply Nat.eq_of_testBit_eq
  intro q
  rw [bset_tb, Bool.eq_iff_iff, g4 q]
  obtain ⟨l1, l2, l3, _⟩ := lst_spec (N := N) (nk N) (2 ^ nn N - 1)
  constructor
  · rintro ⟨a1, a2⟩
    have hq := un_sub _ ((mt_av _ _).mp l2) (a2 _ l1 l2 l3)
    rw [Nat.testBit_two_pow_sub_one] at hq
    rw [hq]
    simp
    obtain ⟨d1, d2, d3, _⟩ := lst_spec (N := N) (nk N) (dif (2 ^ nn N - 1) (2 ^ q))
    rcases Nat.lt_or_ge (mm N (nk N) (dif (2 ^ nn N - 1) (2 ^ q))) (mm N (nk N) (2 ^ nn N - 1)) with hl | hl
    · exact hl
    · have hv := av_up (N := N) (P := dif (2 ^ nn N - 1) (2 ^ q)) (Q := 2 ^ nn N - 1) (fun j hj => by rw [dif_tb] at hj; simp at hj ⊢; exact hj.1) _ ((mt_av _ _).mp d2)
      have hle := mt_le _ _ ((mt_av _ _).mpr hv)
      have hin := a2 _ d1 ((mt_av _ _).mpr hv) (by omega)
      have := un_sub _ ((mt_av _ _).mp d2) hin
      rw [dif_tb, Nat.testBit_two_pow_self] at this
      simp at this
  · intro hx
    simp at hx
    refine ⟨by omega, fun U hU hm hp => ?_⟩
    cases hb : (un N U (nk N)).testBit q
    · have := mt_le _ _ ((mt_av _ _).mpr (av_rm _ ((mt_av _ _).mp hm) hb))
      omega
    · rfl
end
