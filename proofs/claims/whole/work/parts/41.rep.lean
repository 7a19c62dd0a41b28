/-! PURE: the network, in our words: points, lines, from, to, way -/
abbrev Nt : Type := Nat × Nat × (Nat → Nat) × (Nat → Nat) × (Nat → Nat)
abbrev nn (N : Nt) : Nat := N.1
abbrev nk (N : Nt) : Nat := N.2.1
abbrev nf (N : Nt) : Nat → Nat := N.2.2.1
abbrev nt (N : Nt) : Nat → Nat := N.2.2.2.1
abbrev nw (N : Nt) : Nat → Nat := N.2.2.2.2
def nwf (N : Nt) : Prop := 1 ≤ nn N ∧ nn N ≤ 10 ∧ nk N ≤ 12 ∧ ∀ i, i < nk N → nf N i < nn N ∧ nt N i < nn N ∧ nf N i ≠ nt N i ∧ nw N i < 3
def atB (N : Nt) (l p : Nat) : Bool := decide (nf N l = p) || decide (nt N l = p)
def oth (N : Nt) (l p : Nat) : Nat := nf N l + nt N l - p
def ldB (N : Nt) (l p : Nat) : Bool := decide (nw N l = 0) || (decide (nw N l = 1) && decide (nf N l = p)) || (decide (nw N l = 2) && decide (nt N l = p))
theorem oth_f {N : Nt} {l p : Nat} (h : nf N l = p) : oth N l p = nt N l := by unfold oth; omega
theorem oth_t {N : Nt} {l p : Nat} (h : nt N l = p) : oth N l p = nf N l := by unfold oth; omega
theorem atB_iff {N : Nt} {l p : Nat} : atB N l p = true ↔ nf N l = p ∨ nt N l = p := by simp [atB]
theorem oth_lt {N : Nt} (h : nwf N) {l p : Nat} (hl : l < nk N) (ha : atB N l p = true) : oth N l p < nn N := by
  have := h.2.2.2 l hl
  rcases atB_iff.mp ha with e | e
  · rw [oth_f e]; omega
  · rw [oth_t e]; omega
theorem at_lt {N : Nt} (h : nwf N) {l p : Nat} (hl : l < nk N) (ha : atB N l p = true) : p < nn N := by
  have := h.2.2.2 l hl
  rcases atB_iff.mp ha with e | e <;> omega
theorem at_oth {N : Nt} {l p : Nat} (ha : atB N l p = true) : atB N l (oth N l p) = true := by
  rcases atB_iff.mp ha with e | e
  · rw [oth_f e]; exact atB_iff.mpr (Or.inr rfl)
  · rw [oth_t e]; exact atB_iff.mpr (Or.inl rfl)
theorem oth_oth {N : Nt} {l p : Nat} (ha : atB N l p = true) : oth N l (oth N l p) = p := by
  rcases atB_iff.mp ha with e | e
  · rw [oth_f e, oth_t rfl]; exact e
  · rw [oth_t e, oth_f rfl]; exact e
theorem oth_ne {N : Nt} (h : nwf N) {l p : Nat} (hl : l < nk N) (ha : atB N l p = true) : oth N l p ≠ p := by
  have := h.2.2.2 l hl
  rcases atB_iff.mp ha with e | e
  · rw [oth_f e]; omega
  · rw [oth_t e]; omega
/-- the reference's network -/
def RM (N : Nt) (τ : S3) : Prop := τ 0 1 0 = nI (nn N) ∧ τ 0 2 0 = nI (nk N) ∧ ∀ i, i < nk N → τ 0 3 i = nI (nf N i) ∧ τ 0 4 i = nI (nt N i) ∧ τ 0 5 i = nI (nw N i)
section
variable {N : Nt} {τ : S3}
theorem i_nlt {a b : Int32} : (¬ a < b) = (b ≤ a) := propext ⟨fun h => fa_of_nlt h, fun h1 h2 => Int32.lt_irrefl (Int32.lt_of_lt_of_le h2 h1)⟩
theorem M_in (v a b : Int32) : F_X9_in v a b τ = some (b2i (decide (a ≤ v ∧ v ≤ b)), τ) := by
  unfold F_X9_in
  by_cases h1 : v < a
  · have h1' : ¬ a ≤ v := by rw [← i_nlt]; exact fun h => h h1
    simp [h1, h1', b2i]; rfl
  · have h1' := h1
    rw [i_nlt] at h1'
    by_cases h2 : b < v
    · have h2' : ¬ v ≤ b := by rw [← i_nlt]; exact fun h => h h2
      simp [h1, h1', h2, h2', b2i]; rfl
    · have h2' := h2
      rw [i_nlt] at h2'
      simp [h1, h1', h2, h2', b2i]; rfl
theorem M_has {m l : Nat} (hm : m < 2147483648) (hl : l < 32) : F_X9_has (nI m) (nI l) τ = some (b2i (m.testBit l), τ) := by
  unfold F_X9_has
  simp (disch := omega) only [ckN, ixN, nI_add, subN, mulN, eqN, leN, ltN, bdE, nmE, hasN, shl1, orN, andN, b2i_0, b2i_1, ↓reduceIte, Nat.reduceEqDiff, Nat.reduceLeDiff, li0, li1, li2, li3, li4, li5, li6, li7, li8, li9, li10, li12, li13, li15, li16, li20, li24, li32, li60, li63, li255, li300, li511, li1000, li1023, li4095, li8191]
  cases m.testBit l <;> rfl
theorem M_isAt (hw : nwf N) (h : RM N τ) {l p : Nat} (hl : l < nk N) (hp : p < 2147483648) : F_X9_isAt (nI l) (nI p) τ = some (b2i (atB N l p), τ) := by
  have hk := hw.2.2.1
  have h1 := hw.2.2.2 l hl
  have h2 := h.2.2 l hl
  have hn := hw.2.1
  unfold F_X9_isAt
  simp (disch := omega) only [ckN, ixN, nI_add, subN, mulN, eqN, leN, ltN, bdE, nmE, hasN, shl1, orN, andN, b2i_0, b2i_1, ↓reduceIte, Nat.reduceEqDiff, Nat.reduceLeDiff, li0, li1, li2, li3, li4, li5, li6, li7, li8, li9, li10, li12, li13, li15, li16, li20, li24, li32, li60, li63, li255, li300, li511, li1000, li1023, li4095, li8191, h2.1, h2.2.1]
  unfold atB
  by_cases e1 : nf N l = p <;> by_cases e2 : nt N l = p <;> simp [e1, e2, b2i]
theorem M_otherOf (hw : nwf N) (h : RM N τ) {l p : Nat} (hl : l < nk N) (ha : atB N l p = true) : F_X9_otherOf (nI l) (nI p) τ = some (nI (oth N l p), τ) := by
  have hk := hw.2.2.1
  have h1 := hw.2.2.2 l hl
  have h2 := h.2.2 l hl
  have hn := hw.2.1
  have h3 : p ≤ nf N l + nt N l := by rcases atB_iff.mp ha with e | e <;> omega
  unfold F_X9_otherOf
  simp (disch := omega) only [ckN, ixN, nI_add, subN, mulN, eqN, leN, ltN, bdE, nmE, hasN, shl1, orN, andN, b2i_0, b2i_1, ↓reduceIte, Nat.reduceEqDiff, Nat.reduceLeDiff, li0, li1, li2, li3, li4, li5, li6, li7, li8, li9, li10, li12, li13, li15, li16, li20, li24, li32, li60, li63, li255, li300, li511, li1000, li1023, li4095, li8191, h2.1, h2.2.1]
  rfl
theorem M_leads (hw : nwf N) (h : RM N τ) {l p : Nat} (hl : l < nk N) (hp : p < 2147483648) : F_X9_leads (nI l) (nI p) τ = some (b2i (ldB N l p), τ) := by
  have hk := hw.2.2.1
  have h1 := hw.2.2.2 l hl
  have h2 := h.2.2 l hl
  have hn := hw.2.1
  unfold F_X9_leads F_X9_leads_29
  simp (disch := omega) only [ckN, ixN, nI_add, subN, mulN, eqN, leN, ltN, bdE, nmE, hasN, shl1, orN, andN, b2i_0, b2i_1, ↓reduceIte, Nat.reduceEqDiff, Nat.reduceLeDiff, li0, li1, li2, li3, li4, li5, li6, li7, li8, li9, li10, li12, li13, li15, li16, li20, li24, li32, li60, li63, li255, li300, li511, li1000, li1023, li4095, li8191, h2.1, h2.2.1, h2.2.2]
  unfold ldB
  rcases (show nw N l = 0 ∨ nw N l = 1 ∨ nw N l = 2 by omega) with e | e | e <;> by_cases e1 : nf N l = p <;> by_cases e2 : nt N l = p <;> simp [e, e1, e2, b2i]
end
