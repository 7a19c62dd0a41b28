/-! PURE: sides, the reference -/
def cvl (N : Nt) (g : Nat → Int32) : Prop := ∀ q, q < nn N → g q = -nI 1 ∨ g q = nI 0 ∨ g q = nI 1
def opp (g : Nat → Int32) (q r : Nat) : Prop := (g q = nI 0 ∧ g r = nI 1) ∨ (g q = nI 1 ∧ g r = nI 0)
def cext (N : Nt) (χ : Nat → Bool) (g : Nat → Int32) : Prop := ∀ q, q < nn N → (g q = nI 0 → χ q = false) ∧ (g q = nI 1 → χ q = true)
def ckp (N : Nt) (g g' : Nat → Int32) : Prop := ∀ q, q < nn N → g q ≠ -nI 1 → g' q = g q
def uc (g : Nat → Int32) : Nat → Nat
  | 0 => 0
  | m + 1 => uc g m + (if g m = -nI 1 then 1 else 0)
theorem n01 : ¬ (nI 0 = -nI 1) := by decide
theorem n11 : ¬ (nI 1 = -nI 1) := by decide
theorem n0_1 : ¬ (nI 0 = nI 1) := by decide
theorem n1_0 : ¬ (nI 1 = nI 0) := by decide
theorem uc_le {g g' : Nat → Int32} : ∀ m, (∀ q, q < m → g q ≠ -nI 1 → g' q ≠ -nI 1) → uc g' m ≤ uc g m ∧ (∀ j, j < m → g j = -nI 1 → g' j ≠ -nI 1 → uc g' m + 1 ≤ uc g m)
  | 0, _ => ⟨Nat.le_refl _, fun j hj => absurd hj (Nat.not_lt_zero j)⟩
  | m + 1, h => by
    have ih := uc_le (g := g) (g' := g') m (fun q hq => h q (by omega))
    rw [uc, uc]
    have hm : (if g' m = -nI 1 then 1 else 0) ≤ (if g m = -nI 1 then 1 else 0) := by
      by_cases h1 : g m = -nI 1
      · rw [if_pos h1]; split <;> omega
      · rw [if_neg h1, if_neg (h m (by omega) h1)]; exact Nat.le_refl _
    refine ⟨by omega, fun j hj ha hb => ?_⟩
    by_cases e : j = m
    · subst e
      rw [if_pos ha, if_neg hb]
      omega
    · have := ih.2 j (by omega) ha hb
      omega
theorem uc_m (g : Nat → Int32) : ∀ m, uc g m ≤ m
  | 0 => Nat.le_refl _
  | m + 1 => by
    have := uc_m g m
    rw [uc]
    split <;> omega
def sP (N : Nt) (p s : Nat) (g g' : Nat → Int32) (ok : Bool) : Prop :=
  cvl N g' ∧ ckp N g g' ∧ (ok = true → g' p = nI s ∧ ∀ q, q < nn N → g q = -nI 1 → g' q ≠ -nI 1 → ∀ r, adj N q r → opp g' q r) ∧ (∀ χ, prop2 N χ → cext N χ g → χ p = decide (s = 1) → ok = true ∧ cext N χ g') ∧ ∀ D : Nat → Prop, (∀ p r, adj N p r → D p → D r) → D p → ∀ q, q < nn N → g q = -nI 1 → g' q ≠ -nI 1 → D q
theorem opp_k {N : Nt} {g g' : Nat → Int32} (hk : ckp N g g') {q r : Nat} (hq : q < nn N) (hr : r < nn N) (h : opp g q r) : opp g' q r := by
  rcases h with ⟨a, b⟩ | ⟨a, b⟩
  · exact Or.inl ⟨by rw [hk q hq (by rw [a]; exact n01), a], by rw [hk r hr (by rw [b]; exact n11), b]⟩
  · exact Or.inr ⟨by rw [hk q hq (by rw [a]; exact n11), a], by rw [hk r hr (by rw [b]; exact n01), b]⟩
theorem RM_6 {N : Nt} {τ : S3} (h : RM N τ) (g : Nat → Int32) : RM N (upA τ 0 6 g) := RM_upA h (by omega)
set_option maxHeartbeats 1000000 in
theorem M_sidesFrom {N : Nt} {τ : S3} (hw : nwf N) (h : RM N τ) : ∀ (k p s : Nat) (g : Nat → Int32), p < nn N → s < 2 → cvl N g → uc g (nn N) < k → ∃ ok g', zl2 F_X9_sidesFrom_0 k (nI p) (nI s) (upA τ 0 6 g) = some (b2i ok, upA τ 0 6 g') ∧ sP N p s g g' ok := by
  have hk := hw.2.2.1
  have hn := hw.2.1
  intro k
  induction k with
  | zero => intro p s g _ _ _ h0; exact absurd h0 (by omega)
  | succ k ihk =>
    generalize hRc : zl2 F_X9_sidesFrom_0 k = Rc at ihk
    intro p s g hp hs hv hu
    have hS : ∀ g, (upA τ 0 6 g) 0 6 = g := fun g => upA_s
    rw [zl2_s, hRc]
    unfold F_X9_sidesFrom_0
    simp (disch := omega) only [ckN, ixN, nI_add, subN, mulN, eqN, leN, ltN, bdE, nmE, hasN, shl1, orN, andN, b2i_0, b2i_1, ↓reduceIte, Nat.reduceEqDiff, Nat.reduceLeDiff, li0, li1, li2, li3, li4, li5, li6, li7, li8, li9, li10, li12, li13, li15, li16, li20, li24, li32, li60, li63, li255, li300, li511, li1000, li1023, li4095, li8191, hS, m1]
    by_cases hc : g p = -nI 1
    · rw [if_pos hc]
      simp (disch := omega) only [ckN, ixN, nI_add, subN, mulN, eqN, leN, ltN, bdE, nmE, hasN, shl1, orN, andN, b2i_0, b2i_1, ↓reduceIte, Nat.reduceEqDiff, Nat.reduceLeDiff, li0, li1, li2, li3, li4, li5, li6, li7, li8, li9, li10, li12, li13, li15, li16, li20, li24, li32, li60, li63, li255, li300, li511, li1000, li1023, li4095, li8191, up_upA]
      have hsn : nI s ≠ -nI 1 := by rcases (show s = 0 ∨ s = 1 by omega) with e | e <;> subst e <;> decide
      have hg0 : ∀ q, q ≠ p → upd g p (nI s) q = g q := fun q hq => upd_n hq
      have hk0 : ckp N g (upd g p (nI s)) := by
        intro q _ hx
        by_cases e : q = p
        · subst e; exact absurd hc hx
        · exact hg0 q e
      have hv0 : cvl N (upd g p (nI s)) := by
        intro q hq
        by_cases e : q = p
        · subst e; rw [upd_s]; rcases (show s = 0 ∨ s = 1 by omega) with e | e <;> subst e <;> simp
        · rw [hg0 q e]; exact hv q hq
      have hu0 : uc (upd g p (nI s)) (nn N) + 1 ≤ uc g (nn N) := (uc_le (nn N) (fun q hq hx => by rw [hk0 q hq hx]; exact hx)).2 p hp hc (by rw [upd_s]; exact hsn)
      have lp : ∀ (d n i : Nat) (b : Bool) (g1 : Nat → Int32), i + d = nk N → d < n → cvl N g1 → ckp N (upd g p (nI s)) g1 → (b = true → (∀ l, l < i → atB N l p = true → opp g1 p (oth N l p)) ∧ ∀ q, q < nn N → q ≠ p → g q = -nI 1 → g1 q ≠ -nI 1 → ∀ r, adj N q r → opp g1 q r) → (∀ χ, prop2 N χ → cext N χ g → χ p = decide (s = 1) → b = true ∧ cext N χ g1) → (∀ D : Nat → Prop, (∀ p r, adj N p r → D p → D r) → D p → ∀ q, q < nn N → g q = -nI 1 → g1 q ≠ -nI 1 → D q) → ∃ ok g', zl2 (Fb_X9_sidesFrom_38 Rc (nI p) (nI s)) n (b2i b) (nI i) (upA τ 0 6 g1) = some (b2i ok, upA τ 0 6 g') ∧ sP N p s g g' ok := by
        intro d
        induction d with
        | zero =>
          intro n i b g1 hi hn' a1 a2 a3 a4 a5
          obtain ⟨n, rfl⟩ : ∃ m, n = m + 1 := ⟨n - 1, by omega⟩
          have e : i = nk N := by omega
          subst e
          refine ⟨b, g1, ?_, a1, ?_, ?_, a4, a5⟩
          · rw [zl2_s]
            generalize zl2 (Fb_X9_sidesFrom_38 Rc (nI p) (nI s)) n = K
            unfold Fb_X9_sidesFrom_38
            simp (disch := omega) only [ckN, ixN, nI_add, subN, mulN, eqN, leN, ltN, bdE, nmE, hasN, shl1, orN, andN, b2i_0, b2i_1, ↓reduceIte, Nat.reduceEqDiff, Nat.reduceLeDiff, li0, li1, li2, li3, li4, li5, li6, li7, li8, li9, li10, li12, li13, li15, li16, li20, li24, li32, li60, li63, li255, li300, li511, li1000, li1023, li4095, li8191, (RM_6 h g1).2.1, Nat.le_refl, ckb_b]
          · intro q hq hx
            rw [a2 q hq (by rw [hk0 q hq hx]; exact hx), hk0 q hq hx]
          · intro hb
            have hgp : g1 p = nI s := by rw [a2 p hp (by rw [upd_s]; exact hsn), upd_s]
            refine ⟨hgp, fun q hq hx hy r ha => ?_⟩
            by_cases e : q = p
            · subst e
              obtain ⟨l, l1, l2, l3⟩ := ha
              subst l3
              exact (a3 hb).1 l l1 l2
            · exact (a3 hb).2 q hq e hx hy r ha
        | succ d ih =>
          intro n i b g1 hi hn' a1 a2 a3 a4 a5
          obtain ⟨n, rfl⟩ : ∃ m, n = m + 1 := ⟨n - 1, by omega⟩
          have hil : i < nk N := by omega
          have ihn := ih n
          rw [zl2_s]
          generalize zl2 (Fb_X9_sidesFrom_38 Rc (nI p) (nI s)) n = K at ihn ⊢
          unfold Fb_X9_sidesFrom_38
          cases b
          · refine ⟨false, g1, ?_, a1, ?_, (fun hx => by cases hx), a4, a5⟩
            · simp (disch := omega) only [ckN, ixN, nI_add, subN, mulN, eqN, leN, ltN, bdE, nmE, hasN, shl1, orN, andN, b2i_0, b2i_1, ↓reduceIte, Nat.reduceEqDiff, Nat.reduceLeDiff, li0, li1, li2, li3, li4, li5, li6, li7, li8, li9, li10, li12, li13, li15, li16, li20, li24, li32, li60, li63, li255, li300, li511, li1000, li1023, li4095, li8191, (RM_6 h g1).2.1, show ¬ nk N ≤ i by omega, ckb_b]
            · intro q hq hx
              rw [a2 q hq (by rw [hk0 q hq hx]; exact hx), hk0 q hq hx]
          · simp (disch := omega) only [ckN, ixN, nI_add, subN, mulN, eqN, leN, ltN, bdE, nmE, hasN, shl1, orN, andN, b2i_0, b2i_1, ↓reduceIte, Nat.reduceEqDiff, Nat.reduceLeDiff, li0, li1, li2, li3, li4, li5, li6, li7, li8, li9, li10, li12, li13, li15, li16, li20, li24, li32, li60, li63, li255, li300, li511, li1000, li1023, li4095, li8191, (RM_6 h g1).2.1, show ¬ nk N ≤ i by omega, Bool.true_eq_false, M_isAt hw (RM_6 h g1) hil (show p < 2147483648 by omega)]
            cases ha : atB N i p
            · simp only [if_true]
              refine ihn (i + 1) true g1 (by omega) (by omega) a1 a2 (fun _ => ⟨fun l hl hat => ?_, (a3 rfl).2⟩) a4 a5
              by_cases e : l = i
              · subst e; rw [ha] at hat; cases hat
              · exact (a3 rfl).1 l (by omega) hat
            · simp only [Bool.true_eq_false, if_false]
              have ho := oth_lt hw hil ha
              have hadj : adj N p (oth N i p) := ⟨i, hil, ha, rfl⟩
              have hu1 : uc g1 (nn N) ≤ uc (upd g p (nI s)) (nn N) := (uc_le (nn N) (fun q hq hx => by rw [a2 q hq hx]; exact hx)).1
              obtain ⟨ok, g2, e2, b1, b2, b3, b4, b5⟩ := ihk (oth N i p) (1 - s) g1 ho (by omega) a1 (by omega)
              simp (disch := omega) only [ckN, ixN, nI_add, subN, mulN, eqN, leN, ltN, bdE, nmE, hasN, shl1, orN, andN, b2i_0, b2i_1, ↓reduceIte, Nat.reduceEqDiff, Nat.reduceLeDiff, li0, li1, li2, li3, li4, li5, li6, li7, li8, li9, li10, li12, li13, li15, li16, li20, li24, li32, li60, li63, li255, li300, li511, li1000, li1023, li4095, li8191, M_otherOf hw (RM_6 h g1) hil ha, e2]
              have hgp : g1 p = nI s := by rw [a2 p hp (by rw [upd_s]; exact hsn), upd_s]
              have hgp2 : g2 p = nI s := by rw [b2 p hp (by rw [hgp]; exact hsn), hgp]
              have n2 : ckp N (upd g p (nI s)) g2 := by
                intro q hq hx
                have e1 := a2 q hq hx
                rw [b2 q hq (by rw [e1]; exact hx), e1]
              have n3 : ok = true → (∀ l, l < i + 1 → atB N l p = true → opp g2 p (oth N l p)) ∧ ∀ q, q < nn N → q ≠ p → g q = -nI 1 → g2 q ≠ -nI 1 → ∀ r, adj N q r → opp g2 q r := by
                intro hok
                obtain ⟨c1, c2⟩ := b3 hok
                refine ⟨fun l hl hat => ?_, fun q hq hqp hx hy r hadj' => ?_⟩
                · by_cases e : l = i
                  · subst e
                    unfold opp
                    rw [hgp2, c1]
                    rcases (show s = 0 ∨ s = 1 by omega) with e | e <;> subst e <;> simp
                  · exact opp_k b2 hp (oth_lt hw (by omega) hat) ((a3 rfl).1 l (by omega) hat)
                · by_cases hz : g1 q = -nI 1
                  · exact c2 q hq hz hy r hadj'
                  · exact opp_k b2 hq (adj_lt hw hadj').2 ((a3 rfl).2 q hq hqp hx hz r hadj')
              have n4 : ∀ χ, prop2 N χ → cext N χ g → χ p = decide (s = 1) → ok = true ∧ cext N χ g2 := by
                intro χ h1 h2 h3
                have h4 := (a4 χ h1 h2 h3).2
                apply b4 χ h1 h4
                have := h1 p (oth N i p) hadj
                rw [h3] at this
                rcases (show s = 0 ∨ s = 1 by omega) with e | e <;> subst e
                · cases hx : χ (oth N i p)
                  · rw [hx] at this; simp at this
                  · simp
                · cases hx : χ (oth N i p)
                  · simp
                  · rw [hx] at this; simp at this
              have n5 : ∀ D : Nat → Prop, (∀ p r, adj N p r → D p → D r) → D p → ∀ q, q < nn N → g q = -nI 1 → g2 q ≠ -nI 1 → D q := by
                intro D h1 h2 q hq hx hy
                by_cases hz : g1 q = -nI 1
                · exact b5 D h1 (h1 p _ hadj h2) q hq hz hy
                · exact a5 D h1 h2 q hq hx hz
              cases ok
              · simp only [if_true]
                exact ihn (i + 1) false g2 (by omega) (by omega) b1 n2 (fun hx => by cases hx) n4 n5
              · simp only [Bool.true_eq_false, if_false]
                exact ihn (i + 1) true g2 (by omega) (by omega) b1 n2 n3 n4 n5
      unfold F_X9_sidesFrom_38
      refine lp (nk N) zF 0 true (upd g p (nI s)) (by omega) (zfl (by omega)) hv0 (fun _ _ _ => rfl) (fun _ => ⟨fun l hl => absurd hl (by omega), fun q hq hqp hx hy => ?_⟩) ?_ ?_
      · rw [hg0 q hqp] at hy; exact absurd hx hy
      · intro χ h1 h2 h3
        refine ⟨rfl, fun q hq => ?_⟩
        by_cases e : q = p
        · subst e
          rw [upd_s, h3]
          rcases (show s = 0 ∨ s = 1 by omega) with e | e <;> subst e
          · exact ⟨fun _ => by simp, fun hx => absurd hx n0_1⟩
          · exact ⟨fun hx => absurd hx n1_0, fun _ => by simp⟩
        · rw [hg0 q e]; exact h2 q hq
      · intro D h1 h2 q hq hx hy
        by_cases e : q = p
        · subst e; exact h2
        · rw [hg0 q e] at hy; exact absurd hx hy
    · rw [if_neg hc]
      refine ⟨decide (g p = nI s), g, ?_, hv, fun _ _ _ => rfl, ?_, ?_, fun D _ _ q _ hx hy => absurd hx hy⟩
      · by_cases e : g p = nI s
        · rw [if_pos e]; simp [e, b2i]
        · rw [if_neg e]; simp [e, b2i]
      · intro hx
        simp at hx
        exact ⟨hx, fun q _ hx hy => absurd hx hy⟩
      · intro χ h1 h2 h3
        refine ⟨?_, h2⟩
        simp
        rcases hv p hp with e | e | e
        · exact absurd e hc
        · have := (h2 p hp).1 e
          rw [h3] at this
          simp at this
          rw [e, show s = 0 by omega]
        · have := (h2 p hp).2 e
          rw [h3] at this
          simp at this
          rw [e, this]
/-- all told points are told rightly -/
def cdone (N : Nt) (g : Nat → Int32) : Prop := ∀ q, q < nn N → g q ≠ -nI 1 → ∀ r, adj N q r → opp g q r
theorem M_sides {N : Nt} {τ : S3} (hw : nwf N) (h : RM N τ) : (∃ χ g, prop2 N χ ∧ firstZ N χ ∧ F_X9_sides τ = some (nI (bset (nn N) (fun p => !χ p)), upA τ 0 6 g)) ∨ ((∀ χ, ¬ prop2 N χ) ∧ ∃ g, F_X9_sides τ = bd (F_X9_no 2 (upA τ 0 6 g)) (fun r s => some (r, s))) := by
  have hk := hw.2.2.1
  have hn := hw.2.1
  have hS : ∀ g, (upA τ 0 6 g) 0 6 = g := fun g => upA_s
  have l68 : ∀ (g : Nat → Int32) (d n i : Nat), i + d = nn N → d < n → zl2 Fb_X9_sides_68 n (nI (bset i (fun p => decide (g p = nI 0)))) (nI i) (upA τ 0 6 g) = some (nI (bset (nn N) (fun p => decide (g p = nI 0))), upA τ 0 6 g) := by
    intro g d
    induction d with
    | zero =>
      intro n i hi hn'
      obtain ⟨n, rfl⟩ : ∃ m, n = m + 1 := ⟨n - 1, by omega⟩
      have e : i = nn N := by omega
      subst e
      rw [zl2_s]
      generalize zl2 Fb_X9_sides_68 n = K
      unfold Fb_X9_sides_68
      simp (disch := omega) only [ckN, ixN, nI_add, subN, mulN, eqN, leN, ltN, bdE, nmE, hasN, shl1, orN, andN, b2i_0, b2i_1, ↓reduceIte, Nat.reduceEqDiff, Nat.reduceLeDiff, li0, li1, li2, li3, li4, li5, li6, li7, li8, li9, li10, li12, li13, li15, li16, li20, li24, li32, li60, li63, li255, li300, li511, li1000, li1023, li4095, li8191, (RM_6 h g).1, Nat.le_refl]
    | succ d ih =>
      intro n i hi hn'
      obtain ⟨n, rfl⟩ : ∃ m, n = m + 1 := ⟨n - 1, by omega⟩
      have ih' := ih n (i + 1) (by omega) (by omega)
      rw [bset] at ih'
      rw [zl2_s]
      generalize zl2 Fb_X9_sides_68 n = K at ih' ⊢
      unfold Fb_X9_sides_68
      simp (disch := omega) only [ckN, ixN, nI_add, subN, mulN, eqN, leN, ltN, bdE, nmE, hasN, shl1, orN, andN, b2i_0, b2i_1, ↓reduceIte, Nat.reduceEqDiff, Nat.reduceLeDiff, li0, li1, li2, li3, li4, li5, li6, li7, li8, li9, li10, li12, li13, li15, li16, li20, li24, li32, li60, li63, li255, li300, li511, li1000, li1023, li4095, li8191, (RM_6 h g).1, show ¬ nn N ≤ i by omega, hS]
      by_cases e : g i = nI 0
      · rw [if_pos e]
        simp only [e, decide_true, if_true] at ih'
        exact ih'
      · rw [if_neg e]
        simp only [e, decide_false, Bool.false_eq_true, if_false] at ih'
        exact ih'
  have l27 : ∀ (d n v : Nat) (g : Nat → Int32), v + d = nn N → d < n → cvl N g → cdone N g → (∀ u, u < v → g u ≠ -nI 1) → (∀ u, u < v → g u = nI 0 ∨ ∀ D : Nat → Prop, (∀ p r, adj N p r → D p → D r) → (∀ w, w < u → D w) → D u) → (∀ D : Nat → Prop, (∀ p r, adj N p r → D p → D r) → (∀ u, u < v → D u) → ∀ q, q < nn N → g q ≠ -nI 1 → D q) → (∃ χ g', prop2 N χ ∧ firstZ N χ ∧ zl1 (Fb_X9_sides_27 (nI 0)) n (nI v) (upA τ 0 6 g) = some (nI (bset (nn N) (fun p => !χ p)), upA τ 0 6 g')) ∨ ((∀ χ, ¬ prop2 N χ) ∧ ∃ g', zl1 (Fb_X9_sides_27 (nI 0)) n (nI v) (upA τ 0 6 g) = bd (F_X9_no 2 (upA τ 0 6 g')) (fun r s => some (r, s))) := by
    intro d
    induction d with
    | zero =>
      intro n v g hi hn' a1 a2 a3 a4 a5
      obtain ⟨n, rfl⟩ : ∃ m, n = m + 1 := ⟨n - 1, by omega⟩
      have e : v = nn N := by omega
      subst e
      refine Or.inl ⟨fun q => decide (g q = nI 1), g, ?_, ?_, ?_⟩
      · intro p r ha
        have hpr := adj_lt hw ha
        rcases a2 p hpr.1 (a3 p hpr.1) r ha with ⟨x, y⟩ | ⟨x, y⟩
        · simp only [x, y, n0_1, decide_false, decide_true, Bool.not_true]
        · simp only [x, y, n0_1, decide_false, decide_true, Bool.not_false]
      · intro v hv
        rcases a4 v hv with x | x
        · exact Or.inl (by simp only [x, n0_1, decide_false])
        · exact Or.inr x
      · rw [zl1_s]
        generalize zl1 (Fb_X9_sides_27 (nI 0)) n = K
        unfold Fb_X9_sides_27 F_X9_sides_68
        simp (disch := omega) only [ckN, ixN, nI_add, subN, mulN, eqN, leN, ltN, bdE, nmE, hasN, shl1, orN, andN, b2i_0, b2i_1, ↓reduceIte, Nat.reduceEqDiff, Nat.reduceLeDiff, li0, li1, li2, li3, li4, li5, li6, li7, li8, li9, li10, li12, li13, li15, li16, li20, li24, li32, li60, li63, li255, li300, li511, li1000, li1023, li4095, li8191, (RM_6 h g).1, Nat.le_refl]
        have := l68 g (nn N) zF 0 (by omega) (zfl (by omega))
        rw [bset_cong (P := fun p => !decide (g p = nI 1)) (Q := fun p => decide (g p = nI 0)) (fun i hi => by
          rcases a1 i hi with x | x | x
          · exact absurd x (a3 i hi)
          · simp only [x, n0_1, decide_false, decide_true, Bool.not_false]
          · simp only [x, n1_0, decide_false, decide_true, Bool.not_true])]
        exact this
    | succ d ih =>
      intro n v g hi hn' a1 a2 a3 a4 a5
      obtain ⟨n, rfl⟩ : ∃ m, n = m + 1 := ⟨n - 1, by omega⟩
      have hvl : v < nn N := by omega
      have ihn := ih n
      rw [zl1_s]
      generalize zl1 (Fb_X9_sides_27 (nI 0)) n = K at ihn ⊢
      unfold Fb_X9_sides_27 F_X9_sidesFrom
      simp (disch := omega) only [ckN, ixN, nI_add, subN, mulN, eqN, leN, ltN, bdE, nmE, hasN, shl1, orN, andN, b2i_0, b2i_1, ↓reduceIte, Nat.reduceEqDiff, Nat.reduceLeDiff, li0, li1, li2, li3, li4, li5, li6, li7, li8, li9, li10, li12, li13, li15, li16, li20, li24, li32, li60, li63, li255, li300, li511, li1000, li1023, li4095, li8191, (RM_6 h g).1, show ¬ nn N ≤ v by omega, hS, m1]
      by_cases hc : g v = -nI 1
      · rw [if_pos hc]
        have hum := uc_m g (nn N)
        obtain ⟨ok, g', e, b1, b2, b3, b4, b5⟩ := M_sidesFrom hw h 20 v 0 g hvl (by omega) a1 (by omega)
        rw [e, bdE]
        cases ok
        · right
          refine ⟨fun χ hχ => ?_, g', by simp only [b2i_0, if_true]⟩
          have hx := b4 (fun q => if g q = nI 0 then false else if g q = nI 1 then true else (χ q != χ v)) ?_ ?_ ?_
          · cases hx.1
          · intro p r ha
            have hpr := adj_lt hw ha
            by_cases hz : g p = -nI 1
            · have hz2 : g r = -nI 1 := by
                apply Classical.byContradiction
                intro hne
                rcases a2 r hpr.2 hne p (adj_sym ha) with ⟨_, y⟩ | ⟨_, y⟩
                · rw [hz] at y; exact n11 y.symm
                · rw [hz] at y; exact n01 y.symm
              simp only [hz, hz2, Ne.symm (Ne.symm n01), Ne.symm n11, Ne.symm n01, if_false]
              rw [hχ p r ha]
              cases χ r <;> cases χ v <;> rfl
            · rcases a2 p hpr.1 hz r ha with ⟨x, y⟩ | ⟨x, y⟩
              · simp only [x, y, n1_0, if_true, if_false, Bool.not_true]
              · simp only [x, y, n1_0, if_true, if_false, Bool.not_false]
          · intro q hq
            refine ⟨fun hx => ?_, fun hx => ?_⟩
            · simp only [hx, if_true]
            · simp only [hx, n1_0, if_true, if_false]
          · simp only [hc, Ne.symm n01, Ne.symm n11, if_false]
            cases χ v <;> rfl
        · simp only [b2i_0, Bool.true_eq_false, if_false]
          obtain ⟨c1, c2⟩ := b3 rfl
          refine ihn (v + 1) g' (by omega) (by omega) b1 ?_ ?_ ?_ ?_
          · intro q hq hx r ha
            by_cases hz : g q = -nI 1
            · exact c2 q hq hz hx r ha
            · exact opp_k b2 hq (adj_lt hw ha).2 (a2 q hq hz r ha)
          · intro u hu
            by_cases e : u = v
            · subst e; rw [c1]; exact n01
            · rw [b2 u (by omega) (a3 u (by omega))]; exact a3 u (by omega)
          · intro u hu
            by_cases e : u = v
            · subst e; exact Or.inl c1
            · rw [b2 u (by omega) (a3 u (by omega))]; exact a4 u (by omega)
          · intro D h1 h2 q hq hx
            by_cases hz : g q = -nI 1
            · exact b5 D h1 (h2 v (by omega)) q hq hz hx
            · exact a5 D h1 (fun u hu => h2 u (by omega)) q hq hz
      · rw [if_neg hc]
        refine ihn (v + 1) g (by omega) (by omega) a1 a2 ?_ ?_ ?_
        · intro u hu
          by_cases e : u = v
          · subst e; exact hc
          · exact a3 u (by omega)
        · intro u hu
          by_cases e : u = v
          · subst e
            exact Or.inr (fun D h1 h2 => a5 D h1 h2 u hvl hc)
          · exact a4 u (by omega)
        · intro D h1 h2
          exact a5 D h1 (fun u hu => h2 u (by omega))
  have l2 : ∀ (d n i : Nat) (g : Nat → Int32), i + d = nn N → d < n → (∀ u, u < i → g u = -nI 1) → (∃ χ g', prop2 N χ ∧ firstZ N χ ∧ zl1 Fb_X9_sides_2 n (nI i) (upA τ 0 6 g) = some (nI (bset (nn N) (fun p => !χ p)), upA τ 0 6 g')) ∨ ((∀ χ, ¬ prop2 N χ) ∧ ∃ g', zl1 Fb_X9_sides_2 n (nI i) (upA τ 0 6 g) = bd (F_X9_no 2 (upA τ 0 6 g')) (fun r s => some (r, s))) := by
    intro d
    induction d with
    | zero =>
      intro n i g hi hn' a
      obtain ⟨n, rfl⟩ : ∃ m, n = m + 1 := ⟨n - 1, by omega⟩
      have e : i = nn N := by omega
      subst e
      rw [zl1_s]
      generalize zl1 Fb_X9_sides_2 n = K
      unfold Fb_X9_sides_2 F_X9_sides_27
      simp (disch := omega) only [ckN, ixN, nI_add, subN, mulN, eqN, leN, ltN, bdE, nmE, hasN, shl1, orN, andN, b2i_0, b2i_1, ↓reduceIte, Nat.reduceEqDiff, Nat.reduceLeDiff, li0, li1, li2, li3, li4, li5, li6, li7, li8, li9, li10, li12, li13, li15, li16, li20, li24, li32, li60, li63, li255, li300, li511, li1000, li1023, li4095, li8191, (RM_6 h g).1, Nat.le_refl]
      exact l27 (nn N) zF 0 g (by omega) (zfl (by omega)) (fun q hq => Or.inl (a q hq)) (fun q hq hx => absurd (a q hq) hx) (fun u hu => absurd hu (by omega)) (fun u hu => absurd hu (by omega)) (fun D _ _ q hq hx => absurd (a q hq) hx)
    | succ d ih =>
      intro n i g hi hn' a
      obtain ⟨n, rfl⟩ : ∃ m, n = m + 1 := ⟨n - 1, by omega⟩
      have ihn := ih n
      rw [zl1_s]
      generalize zl1 Fb_X9_sides_2 n = K at ihn ⊢
      unfold Fb_X9_sides_2
      simp (disch := omega) only [ckN, ixN, nI_add, subN, mulN, eqN, leN, ltN, bdE, nmE, hasN, shl1, orN, andN, b2i_0, b2i_1, ↓reduceIte, Nat.reduceEqDiff, Nat.reduceLeDiff, li0, li1, li2, li3, li4, li5, li6, li7, li8, li9, li10, li12, li13, li15, li16, li20, li24, li32, li60, li63, li255, li300, li511, li1000, li1023, li4095, li8191, (RM_6 h g).1, show ¬ nn N ≤ i by omega, m1, up_upA]
      apply ihn (i + 1) _ (by omega) (by omega)
      intro u hu
      by_cases e : u = i
      · subst e; exact upd_s
      · rw [upd_n e]; exact a u (by omega)
  have := l2 (nn N) zF 0 (τ 0 6) (by omega) (zfl (by omega)) (fun u hu => absurd hu (by omega))
  rw [upA_self] at this
  unfold F_X9_sides F_X9_sides_2
  exact this
