/-! PURE: the class's network and its stands -/
def anyB : Nat → (Nat → Bool) → Bool
  | 0, _ => false
  | m + 1, P => anyB m P || P m
theorem anyB_iff (P : Nat → Bool) : ∀ m, anyB m P = true ↔ ∃ l, l < m ∧ P l = true
  | 0 => by simp [anyB]
  | m + 1 => by
    rw [anyB, Bool.or_eq_true, anyB_iff P m]
    constructor
    · rintro (⟨l, h1, h2⟩ | h)
      · exact ⟨l, by omega, h2⟩
      · exact ⟨m, by omega, h⟩
    · rintro ⟨l, h1, h2⟩
      by_cases e : l = m
      · subst e; exact Or.inr h2
      · exact Or.inl ⟨l, by omega, h2⟩
def tch (N : Nt) (p : Nat) : Nat := bset (nk N) (fun l => atB N l p)
def lvg (N : Nt) (p : Nat) : Nat := bset (nk N) (fun l => atB N l p && ldB N l p)
def cmg (N : Nt) (p : Nat) : Nat := bset (nk N) (fun l => atB N l p && ldB N l (oth N l p))
def bsd (N : Nt) (p : Nat) : Nat := bset 10 (fun q => anyB (nk N) (fun l => atB N l p && decide (oth N l p = q)))
def ahd (N : Nt) (p : Nat) : Nat := bset 10 (fun q => anyB (nk N) (fun l => atB N l p && ldB N l p && decide (oth N l p = q)))
def RX (c : Nat) (N : Nt) (σ : S3) : Prop := σ c 0 0 = nI (nn N) ∧ σ c 1 0 = nI (nk N) ∧ (∀ i, i < nk N → σ c 2 i = nI (nf N i) ∧ σ c 3 i = nI (nt N i) ∧ σ c 4 i = nI (nw N i)) ∧ ∀ p, p < 16 → σ c 5 p = nI (tch N p) ∧ σ c 6 p = nI (lvg N p) ∧ σ c 7 p = nI (cmg N p) ∧ σ c 8 p = nI (bsd N p) ∧ σ c 9 p = nI (ahd N p)
theorem RX_c {c : Nat} {N : Nt} {σ σ' : S3} (h : σ' c = σ c) (hr : RX c N σ) : RX c N σ' := by
  unfold RX at hr ⊢
  rw [h]
  exact hr
theorem bs12 {N : Nt} (hw : nwf N) (P : Nat → Bool) : bset (nk N) P < 4096 := Nat.lt_of_lt_of_le (bset_lt P (nk N)) (Nat.pow_le_pow_right (n := 2) (by omega) hw.2.2.1)
def st (p m g : Nat) : Nat := p + 16 * m + 16384 * g
theorem st_lt {p m g : Nat} (hp : p < 16) (hm : m < 1024) (hg : g < 4096) : st p m g < 67108864 := by unfold st; omega
theorem st_tb {p m g : Nat} (hp : p < 16) (hm : m < 1024) (i : Nat) : (st p m g).testBit i = if i < 4 then p.testBit i else if i < 14 then m.testBit (i - 4) else g.testBit (i - 14) := by
  have e : st p m g = 2 ^ 4 * (2 ^ 10 * g + m) + p := by unfold st; omega
  rw [e, Nat.testBit_two_pow_mul_add _ (by omega), Nat.testBit_two_pow_mul_add _ (by omega)]
  by_cases h1 : i < 4
  · rw [if_pos h1, if_pos h1]
  · rw [if_neg h1, if_neg h1]
    by_cases h2 : i < 14
    · rw [if_pos h2, if_pos (by omega)]
    · rw [if_neg h2, if_neg (by omega), show i - 4 - 10 = i - 14 by omega]
theorem and_p1 (x n : Nat) : x &&& (2 ^ n - 1) = x % 2 ^ n := Nat.and_two_pow_sub_one_eq_mod x n
section
variable {c : Nat} {N : Nt} {σ : S3} {p m g : Nat}
theorem X_marker (hp : p < 16) : F_X5_marker (nI (st p m g)) σ = some (nI p, σ) := by
  unfold F_X5_marker
  rw [li15, andN, show 15 = 2 ^ 4 - 1 from rfl, and_p1]
  congr 3
  unfold st
  omega
theorem X_met (hp : p < 16) (hm : m < 1024) (hg : g < 4096) : F_X5_met (nI (st p m g)) σ = some (nI m, σ) := by
  have := st_lt hp hm hg
  unfold F_X5_met
  rw [li1023, li4, ushrN (by omega) (by omega), andN, show 1023 = 2 ^ 10 - 1 from rfl, and_p1]
  congr 3
  unfold st
  omega
theorem X_gone (hp : p < 16) (hm : m < 1024) (hg : g < 4096) : F_X5_gone (nI (st p m g)) σ = some (nI g, σ) := by
  have := st_lt hp hm hg
  unfold F_X5_gone
  rw [li4095, show (14 : Int32) = nI 14 from rfl, ushrN (by omega) (by omega), andN, show 4095 = 2 ^ 12 - 1 from rfl, and_p1]
  congr 3
  unfold st
  omega
theorem m16 : (-16 : Int32) = nI 15 ^^^ -nI 1 := by decide +kernel
theorem hi_f {q i : Nat} (hq : q < 16) (hi : ¬ i < 4) : q.testBit i = false := Nat.testBit_lt_two_pow (Nat.lt_of_lt_of_le hq (Nat.pow_le_pow_right (n := 2) (i := 4) (j := i) (by omega) (show 4 ≤ i by omega)))
theorem X_behind5 (hp : p < 16) (hm : m < 1024) (hg : g < 4096) {l q : Nat} (hq : q < 10) (hl : l < 12) : F_X5_behind (nI (st p m g)) (nI l) (nI q) σ = some (nI (st q (m ||| 2 ^ q) (g ||| 2 ^ l)), σ) := by
  unfold F_X5_behind
  rw [m16, difN, li1, li4, show (14 : Int32) = nI 14 from rfl, nI_add, nI_add, shl1 (by omega), shl1 (by omega), orN, orN, orN]
  congr 3
  apply Nat.eq_of_testBit_eq
  intro i
  have hm' : m ||| 2 ^ q < 1024 := or_lt (m := 10) hm (p2_lt hq)
  rw [st_tb (by omega) hm', Nat.testBit_or, Nat.testBit_or, Nat.testBit_or, dif_tb, st_tb hp hm, Nat.testBit_two_pow, Nat.testBit_two_pow, show 15 = 2 ^ 4 - 1 from rfl, Nat.testBit_two_pow_sub_one]
  by_cases h1 : i < 4
  · rw [if_pos h1, if_pos h1]
    have e1 : ¬ q + 4 = i := by omega
    have e2 : ¬ l + 14 = i := by omega
    simp [h1, e1, e2]
  · rw [if_neg h1, if_neg h1, hi_f (show q < 16 by omega) h1]
    by_cases h2 : i < 14
    · rw [if_pos h2, if_pos h2, tb_or2]
      have e2 : ¬ l + 14 = i := by omega
      have e3 : (q + 4 = i) = (q = i - 4) := propext ⟨fun h => by omega, fun h => by omega⟩
      simp [h1, e2, e3]
    · rw [if_neg h2, if_neg h2, tb_or2]
      have e2 : ¬ q + 4 = i := by omega
      have e3 : (l + 14 = i) = (l = i - 14) := propext ⟨fun h => by omega, fun h => by omega⟩
      simp [h1, e2, e3]
theorem X_withMarker (hp : p < 16) (hm : m < 1024) {q : Nat} (hq : q < 16) : F_X5_withMarker (nI (st p m g)) (nI q) σ = some (nI (st q m g), σ) := by
  unfold F_X5_withMarker
  rw [m16, difN, orN]
  congr 3
  apply Nat.eq_of_testBit_eq
  intro i
  rw [st_tb hq hm, Nat.testBit_or, dif_tb, st_tb hp hm, show 15 = 2 ^ 4 - 1 from rfl, Nat.testBit_two_pow_sub_one]
  by_cases h1 : i < 4
  · rw [if_pos h1, if_pos h1]
    simp [h1]
  · rw [if_neg h1, if_neg h1, hi_f hq h1]
    simp [h1]
theorem X_atFirst (hp : p < 10) : F_X5_atFirst (nI p) σ = some (nI (st p (2 ^ p) 0), σ) := by
  unfold F_X5_atFirst
  rw [li1, li4, nI_add, shl1 (by omega), orN]
  congr 3
  apply Nat.eq_of_testBit_eq
  intro i
  rw [st_tb (by omega) (p2_lt (m := 10) hp), Nat.testBit_or, Nat.testBit_two_pow, Nat.zero_testBit]
  by_cases h1 : i < 4
  · rw [if_pos h1]
    have e1 : ¬ p + 4 = i := by omega
    simp [e1]
  · rw [if_neg h1, hi_f (show p < 16 by omega) h1]
    by_cases h2 : i < 14
    · rw [if_pos h2, Nat.testBit_two_pow]
      have e3 : (p + 4 = i) = (p = i - 4) := propext ⟨fun h => by omega, fun h => by omega⟩
      simp [e3]
    · rw [if_neg h2]
      have e2 : ¬ p + 4 = i := by omega
      simp [e2]
theorem X_otherEnd (hw : nwf N) (h : RX c N σ) {l p : Nat} (hl : l < nk N) (ha : atB N l p = true) : F_X2_otherEnd c (nI l) (nI p) σ = some (nI (oth N l p), σ) := by
  have hk := hw.2.2.1
  have h2 := h.2.2.1 l hl
  unfold F_X2_otherEnd
  simp (disch := omega) only [ckN, ixN, nI_add, subN, mulN, eqN, leN, ltN, bdE, nmE, hasN, shl1, orN, andN, b2i_0, b2i_1, ↓reduceIte, Nat.reduceEqDiff, Nat.reduceLeDiff, li0, li1, li2, li3, li4, li5, li6, li7, li8, li9, li10, li12, li13, li15, li16, li20, li24, li32, li60, li63, li255, li300, li511, li1000, li1023, li4095, li8191, h2.1, h2.2.1, xorN]
  congr 3
  rcases atB_iff.mp ha with e | e
  · rw [oth_f e, ← e, Nat.xor_comm (nf N l), Nat.xor_assoc, Nat.xor_self, Nat.xor_zero]
  · rw [oth_t e, ← e, Nat.xor_assoc, Nat.xor_self, Nat.xor_zero]
theorem X_overLines {ru : Nat} (h : σ 3 3 0 = nI ru) (hr : ru < 5) : F_X1_overLines σ = some (b2i (byL ru), σ) := by
  unfold F_X1_overLines
  simp (disch := omega) only [ckN, ixN, nI_add, subN, mulN, eqN, leN, ltN, bdE, nmE, hasN, shl1, orN, andN, b2i_0, b2i_1, ↓reduceIte, Nat.reduceEqDiff, Nat.reduceLeDiff, li0, li1, li2, li3, li4, li5, li6, li7, li8, li9, li10, li12, li13, li15, li16, li20, li24, li32, li60, li63, li255, li300, li511, li1000, li1023, li4095, li8191, h]
  unfold byL
  rcases (show ru = 0 ∨ ru = 1 ∨ ru = 2 ∨ ru = 3 ∨ ru = 4 by omega) with e | e | e | e | e <;> subst e <;> simp [b2i]
/-- the set that counts -/
def S_ (ru m g : Nat) : Nat := if byL ru then g else m
theorem X_mv52 {ru : Nat} (hw : nwf N) (h : RX 1 N σ) (hu : σ 3 3 0 = nI ru) (hr : ru < 5) (hp : p < 10) (hm : m < 1024) (hg : g < 4096) (P : Nat → Bool) : F_X1_movesFrom_52 (nI (st p m g)) (nI p) (nI (bset (nk N) (fun l => atB N l p && P l))) σ = some (nI (bset (nk N) (fun l => atB N l p && P l && !(S_ ru m g).testBit (key N ru l p))), σ) := by
  have hk := hw.2.2.1
  have hn := hw.2.1
  have hb := bs12 hw (fun l => atB N l p && P l)
  unfold F_X1_movesFrom_52 S_ key
  simp (disch := omega) only [ckN, ixN, nI_add, subN, mulN, eqN, leN, ltN, bdE, nmE, hasN, shl1, orN, andN, b2i_0, b2i_1, ↓reduceIte, Nat.reduceEqDiff, Nat.reduceLeDiff, li0, li1, li2, li3, li4, li5, li6, li7, li8, li9, li10, li12, li13, li15, li16, li20, li24, li32, li60, li63, li255, li300, li511, li1000, li1023, li4095, li8191, X_overLines hu hr, X_met (show p < 16 by omega) hm hg, X_gone (show p < 16 by omega) hm hg]
  cases hL : byL ru
  · simp only [if_true, Bool.false_eq_true, if_false]
    have lp : ∀ (d n i : Nat), i + d = nk N → d < n → zl2 (Fb_X1_movesFrom_83 (nI p) (nI (bset (nk N) (fun l => atB N l p && P l))) (nI m)) n (nI (bset i (fun l => atB N l p && P l && !m.testBit (oth N l p)))) (nI i) σ = some (nI (bset (nk N) (fun l => atB N l p && P l && !m.testBit (oth N l p))), σ) := by
      intro d
      induction d with
      | zero =>
        intro n i hi hn
        obtain ⟨n, rfl⟩ : ∃ m, n = m + 1 := ⟨n - 1, by omega⟩
        have e : i = nk N := by omega
        subst e
        rw [zl2_s]
        generalize zl2 (Fb_X1_movesFrom_83 (nI p) (nI (bset (nk N) (fun l => atB N l p && P l))) (nI m)) n = K
        unfold Fb_X1_movesFrom_83
        simp (disch := omega) only [ckN, ixN, nI_add, subN, mulN, eqN, leN, ltN, bdE, nmE, hasN, shl1, orN, andN, b2i_0, b2i_1, ↓reduceIte, Nat.reduceEqDiff, Nat.reduceLeDiff, li0, li1, li2, li3, li4, li5, li6, li7, li8, li9, li10, li12, li13, li15, li16, li20, li24, li32, li60, li63, li255, li300, li511, li1000, li1023, li4095, li8191, h.2.1, Nat.le_refl]
      | succ d ih =>
        intro n i hi hn
        obtain ⟨n, rfl⟩ : ∃ m, n = m + 1 := ⟨n - 1, by omega⟩
        have ih' := ih n (i + 1) (by omega) (by omega)
        rw [bset] at ih'
        rw [zl2_s]
        generalize zl2 (Fb_X1_movesFrom_83 (nI p) (nI (bset (nk N) (fun l => atB N l p && P l))) (nI m)) n = K at ih' ⊢
        unfold Fb_X1_movesFrom_83
        simp (disch := omega) only [ckN, ixN, nI_add, subN, mulN, eqN, leN, ltN, bdE, nmE, hasN, shl1, orN, andN, b2i_0, b2i_1, ↓reduceIte, Nat.reduceEqDiff, Nat.reduceLeDiff, li0, li1, li2, li3, li4, li5, li6, li7, li8, li9, li10, li12, li13, li15, li16, li20, li24, li32, li60, li63, li255, li300, li511, li1000, li1023, li4095, li8191, h.2.1, show ¬ nk N ≤ i by omega, bset_tb, show i < nk N by omega, decide_true, Bool.true_and]
        cases ha : atB N i p
        · rw [ha] at ih'
          simp at ih' ⊢
          exact ih'
        · have ho := oth_lt hw (show i < nk N by omega) ha
          rw [ha] at ih'
          cases hP : P i
          · rw [hP] at ih'
            simp at ih' ⊢
            exact ih'
          · rw [hP] at ih'
            simp (disch := omega) only [ckN, ixN, nI_add, subN, mulN, eqN, leN, ltN, bdE, nmE, hasN, shl1, orN, andN, b2i_0, b2i_1, ↓reduceIte, Nat.reduceEqDiff, Nat.reduceLeDiff, li0, li1, li2, li3, li4, li5, li6, li7, li8, li9, li10, li12, li13, li15, li16, li20, li24, li32, li60, li63, li255, li300, li511, li1000, li1023, li4095, li8191, X_otherEnd hw h (show i < nk N by omega) ha, Bool.true_and, Bool.true_eq_false]
            cases ho : m.testBit (oth N i p)
            · rw [ho] at ih'
              simp at ih' ⊢
              exact ih'
            · rw [ho] at ih'
              simp at ih' ⊢
              exact ih'
    unfold F_X1_movesFrom_83
    exact lp (nk N) zF 0 (by omega) (zfl (by omega))
  · simp only [if_true, Bool.true_eq_false, if_false, m1, difN]
    congr 3
    apply set_ext (m := nk N) (Nat.lt_of_le_of_lt (dif_le _ _) (bset_lt _ _)) (bset_lt _ _)
    intro i hi
    rw [dif_tb, bset_tb, bset_tb]
    simp [hi]
theorem X_movesFrom {ru : Nat} (hw : nwf N) (h : RX 1 N σ) (hu : σ 3 3 0 = nI ru) (hr : ru < 5) (hp : p < 10) (hm : m < 1024) (hg : g < 4096) : F_X1_movesFrom (nI (st p m g)) σ = some (nI (bset (nk N) (fun l => mvB N ru l p (S_ ru m g))), σ) := by
  have h5 := h.2.2.2 p (by omega)
  have e1 := X_mv52 hw h hu hr hp hm hg (fun l => !byW ru || ldB N l p)
  unfold F_X1_movesFrom F_X1_movesFrom_21 F_X1_movesFrom_26
  simp (disch := omega) only [ckN, ixN, nI_add, subN, mulN, eqN, leN, ltN, bdE, nmE, hasN, shl1, orN, andN, b2i_0, b2i_1, ↓reduceIte, Nat.reduceEqDiff, Nat.reduceLeDiff, li0, li1, li2, li3, li4, li5, li6, li7, li8, li9, li10, li12, li13, li15, li16, li20, li24, li32, li60, li63, li255, li300, li511, li1000, li1023, li4095, li8191, X_marker (show p < 16 by omega), hu, h5.1, h5.2.1]
  rcases (show byW ru = false ∨ byW ru = true by cases byW ru <;> simp) with hW | hW
  · have e2 : tch N p = bset (nk N) (fun l => atB N l p && (!byW ru || ldB N l p)) := bset_cong (fun i _ => by simp [hW])
    have hx : ¬ ru = 2 ∧ ¬ ru = 3 := by unfold byW at hW; simp at hW; exact hW
    rw [if_neg hx.1, if_neg hx.2, e2]
    exact e1
  · have e2 : lvg N p = bset (nk N) (fun l => atB N l p && (!byW ru || ldB N l p)) := bset_cong (fun i _ => by simp [hW])
    rw [e2, e1]
    unfold byW at hW
    simp at hW
    rcases hW with e | e
    · rw [if_pos e]; rfl
    · rw [if_neg (by omega), if_pos e]; rfl
theorem X_hasLineN (hw : nwf N) (h : RX c N σ) {l : Nat} (hl : l < nk N) : F_X2_hasLine c (nI l) σ = some (nI 1, σ) := by
  have hk := hw.2.2.1
  unfold F_X2_hasLine
  simp (disch := omega) only [ckN, ixN, nI_add, subN, mulN, eqN, leN, ltN, bdE, nmE, hasN, shl1, orN, andN, b2i_0, b2i_1, ↓reduceIte, Nat.reduceEqDiff, Nat.reduceLeDiff, li0, li1, li2, li3, li4, li5, li6, li7, li8, li9, li10, li12, li13, li15, li16, li20, li24, li32, li60, li63, li255, li300, li511, li1000, li1023, li4095, li8191, h.2.1, show ¬ l < 0 by omega, show ¬ nk N ≤ l by omega]
theorem X_behind (hw : nwf N) (h : RX 1 N σ) (hp : p < 10) (hm : m < 1024) (hg : g < 4096) {l : Nat} (hl : l < nk N) (ha : atB N l p = true) : F_X1_behind (nI (st p m g)) (nI l) σ = some (nI (st (oth N l p) (m ||| 2 ^ oth N l p) (g ||| 2 ^ l)), σ) := by
  have hk := hw.2.2.1
  have hn := hw.2.1
  have ho := oth_lt hw hl ha
  unfold F_X1_behind
  simp (disch := omega) only [ckN, ixN, nI_add, subN, mulN, eqN, leN, ltN, bdE, nmE, hasN, shl1, orN, andN, b2i_0, b2i_1, ↓reduceIte, Nat.reduceEqDiff, Nat.reduceLeDiff, li0, li1, li2, li3, li4, li5, li6, li7, li8, li9, li10, li12, li13, li15, li16, li20, li24, li32, li60, li63, li255, li300, li511, li1000, li1023, li4095, li8191, X_hasLineN hw h hl, X_marker (show p < 16 by omega), X_otherEnd hw h hl ha, X_behind5 (show p < 16 by omega) hm hg (show oth N l p < 10 by omega) (show l < 12 by omega)]
end
