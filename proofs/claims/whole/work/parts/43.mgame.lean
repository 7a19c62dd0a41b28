/-! PURE: the reference's moves and worths -/
theorem zfl {d : Nat} (h : d < 100000) : d < zF := h
theorem RM_upA {N : Nt} {τ : S3} {f : Nat} {g : Nat → Int32} (h : RM N τ) (hf : 5 < f ∨ f = 0) : RM N (upA τ 0 f g) := by
  unfold RM at h ⊢
  rw [upA_f (show 1 ≠ f by omega), upA_f (show 2 ≠ f by omega), upA_f (show 3 ≠ f by omega), upA_f (show 4 ≠ f by omega), upA_f (show 5 ≠ f by omega)]
  exact h
section
variable {N : Nt} {τ : S3} {ru : Nat}
theorem M_isByLines (h : τ 0 12 0 = nI ru) (hr : ru < 5) : F_X9_isByLines τ = some (b2i (byL ru), τ) := by
  unfold F_X9_isByLines
  simp (disch := omega) only [ckN, ixN, nI_add, subN, mulN, eqN, leN, ltN, bdE, nmE, hasN, shl1, orN, andN, b2i_0, b2i_1, ↓reduceIte, Nat.reduceEqDiff, Nat.reduceLeDiff, li0, li1, li2, li3, li4, li5, li6, li7, li8, li9, li10, li12, li13, li15, li16, li20, li24, li32, li60, li63, li255, li300, li511, li1000, li1023, li4095, li8191, h]
  unfold byL
  rcases (show ru = 0 ∨ ru = 1 ∨ ru = 2 ∨ ru = 3 ∨ ru = 4 by omega) with e | e | e | e | e <;> subst e <;> simp [b2i]
theorem M_isByWays (h : τ 0 12 0 = nI ru) (hr : ru < 5) : F_X9_isByWays τ = some (b2i (byW ru), τ) := by
  unfold F_X9_isByWays
  simp (disch := omega) only [ckN, ixN, nI_add, subN, mulN, eqN, leN, ltN, bdE, nmE, hasN, shl1, orN, andN, b2i_0, b2i_1, ↓reduceIte, Nat.reduceEqDiff, Nat.reduceLeDiff, li0, li1, li2, li3, li4, li5, li6, li7, li8, li9, li10, li12, li13, li15, li16, li20, li24, li32, li60, li63, li255, li300, li511, li1000, li1023, li4095, li8191, h]
  unfold byW
  rcases (show ru = 0 ∨ ru = 1 ∨ ru = 2 ∨ ru = 3 ∨ ru = 4 by omega) with e | e | e | e | e <;> subst e <;> simp [b2i]
theorem M_isMove (hw : nwf N) (h : RM N τ) (hu : τ 0 12 0 = nI ru) (hr : ru < 5) {l p S : Nat} (hl : l < nk N) (hp : p < 2147483648) (hS : S < 2147483648) : F_X9_isMove (nI l) (nI p) (nI S) τ = some (b2i (mvB N ru l p S), τ) := by
  have hk := hw.2.2.1
  have hn := hw.2.1
  unfold F_X9_isMove F_X9_isMove_27 F_X9_isMove_45
  unfold mvB key
  cases ha : atB N l p
  · simp (disch := omega) only [ckN, ixN, nI_add, subN, mulN, eqN, leN, ltN, bdE, nmE, hasN, shl1, orN, andN, b2i_0, b2i_1, ↓reduceIte, Nat.reduceEqDiff, Nat.reduceLeDiff, li0, li1, li2, li3, li4, li5, li6, li7, li8, li9, li10, li12, li13, li15, li16, li20, li24, li32, li60, li63, li255, li300, li511, li1000, li1023, li4095, li8191, M_isAt hw h hl hp, ha, Bool.false_and]
    rfl
  · have ho := oth_lt hw hl ha
    simp (disch := omega) only [ckN, ixN, nI_add, subN, mulN, eqN, leN, ltN, bdE, nmE, hasN, shl1, orN, andN, b2i_0, b2i_1, ↓reduceIte, Nat.reduceEqDiff, Nat.reduceLeDiff, li0, li1, li2, li3, li4, li5, li6, li7, li8, li9, li10, li12, li13, li15, li16, li20, li24, li32, li60, li63, li255, li300, li511, li1000, li1023, li4095, li8191, M_isAt hw h hl hp, ha, M_isByWays hu hr, M_isByLines hu hr, M_leads hw h hl hp, M_otherOf hw h hl ha, M_has hS (show oth N l p < 32 by omega), M_has hS (show l < 32 by omega)]
    have e : S.testBit (if byL ru = true then l else oth N l p) = if byL ru = true then S.testBit l else S.testBit (oth N l p) := by cases byL ru <;> rfl
    rw [e]
    cases byW ru <;> cases byL ru <;> cases ldB N l p <;> cases S.testBit l <;> cases S.testBit (oth N l p) <;> rfl
theorem M_setBehind (hw : nwf N) (h : RM N τ) (hu : τ 0 12 0 = nI ru) (hr : ru < 5) {l p S : Nat} (hl : l < nk N) (ha : atB N l p = true) : F_X9_setBehind (nI l) (nI p) (nI S) τ = some (nI (nxt N ru l p S), τ) := by
  have hk := hw.2.2.1
  have hn := hw.2.1
  have ho := oth_lt hw hl ha
  unfold F_X9_setBehind
  rw [M_isByLines hu hr, bd_some, M_otherOf hw h hl ha, bd_some]
  unfold nxt key
  cases byL ru
  · show some (nI S ||| (1 : Int32) <<< (nI (oth N l p) &&& 31), τ) = _
    simp (disch := omega) only [ckN, ixN, nI_add, subN, mulN, eqN, leN, ltN, bdE, nmE, hasN, shl1, orN, andN, b2i_0, b2i_1, ↓reduceIte, Nat.reduceEqDiff, Nat.reduceLeDiff, li0, li1, li2, li3, li4, li5, li6, li7, li8, li9, li10, li12, li13, li15, li16, li20, li24, li32, li60, li63, li255, li300, li511, li1000, li1023, li4095, li8191]
    rfl
  · show some (nI S ||| (1 : Int32) <<< (nI l &&& 31), τ) = _
    simp (disch := omega) only [ckN, ixN, nI_add, subN, mulN, eqN, leN, ltN, bdE, nmE, hasN, shl1, orN, andN, b2i_0, b2i_1, ↓reduceIte, Nat.reduceEqDiff, Nat.reduceLeDiff, li0, li1, li2, li3, li4, li5, li6, li7, li8, li9, li10, li12, li13, li15, li16, li20, li24, li32, li60, li63, li255, li300, li511, li1000, li1023, li4095, li8191]
theorem M_movesAt (hw : nwf N) (h : RM N τ) (hu : τ 0 12 0 = nI ru) (hr : ru < 5) {p S : Nat} (hp : p < 2147483648) (hS : S < 2147483648) : F_X9_movesAt (nI p) (nI S) τ = some (nI (bset (nk N) (fun l => mvB N ru l p S)), τ) := by
  have hk := hw.2.2.1
  have key : ∀ (d n i : Nat), i + d = nk N → d < n → zl2 (Fb_X9_movesAt_5 (nI p) (nI S)) n (nI (bset i (fun l => mvB N ru l p S))) (nI i) τ = some (nI (bset (nk N) (fun l => mvB N ru l p S)), τ) := by
    intro d
    induction d with
    | zero =>
      intro n i hi hn
      obtain ⟨n, rfl⟩ : ∃ m, n = m + 1 := ⟨n - 1, by omega⟩
      have e : i = nk N := by omega
      subst e
      rw [zl2_s]
      unfold Fb_X9_movesAt_5
      simp (disch := omega) only [ckN, ixN, nI_add, subN, mulN, eqN, leN, ltN, bdE, nmE, hasN, shl1, orN, andN, b2i_0, b2i_1, ↓reduceIte, Nat.reduceEqDiff, Nat.reduceLeDiff, li0, li1, li2, li3, li4, li5, li6, li7, li8, li9, li10, li12, li13, li15, li16, li20, li24, li32, li60, li63, li255, li300, li511, li1000, li1023, li4095, li8191, h.2.1, Nat.le_refl]
    | succ d ih =>
      intro n i hi hn
      obtain ⟨n, rfl⟩ : ∃ m, n = m + 1 := ⟨n - 1, by omega⟩
      rw [zl2_s]
      unfold Fb_X9_movesAt_5
      rw [M_isMove hw h hu hr (show i < nk N by omega) hp hS]
      simp (disch := omega) only [ckN, ixN, nI_add, subN, mulN, eqN, leN, ltN, bdE, nmE, hasN, shl1, orN, andN, b2i_0, b2i_1, ↓reduceIte, Nat.reduceEqDiff, Nat.reduceLeDiff, li0, li1, li2, li3, li4, li5, li6, li7, li8, li9, li10, li12, li13, li15, li16, li20, li24, li32, li60, li63, li255, li300, li511, li1000, li1023, li4095, li8191, h.2.1, show ¬ nk N ≤ i by omega]
      have ih' := ih n (i + 1) (by omega) (by omega)
      rw [bset] at ih'
      cases hm : mvB N ru i p S
      · rw [hm] at ih'
        simp at ih' ⊢
        exact ih'
      · rw [hm] at ih'
        simp at ih' ⊢
        exact ih'
  unfold F_X9_movesAt F_X9_movesAt_5
  exact key (nk N) zF 0 (by omega) (zfl (by omega))
end
