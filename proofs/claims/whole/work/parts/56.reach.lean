/-! PURE: reach -/
def mstep (N : Nt) (ru : Nat) (a b : Nat × Nat) : Prop := ∃ l, l < nk N ∧ mvB N ru l a.1 a.2 = true ∧ b = (oth N l a.1, nxt N ru l a.1 a.2)
def mreach (N : Nt) (ru : Nat) (s a : Nat × Nat) : Prop := ∀ D : Nat × Nat → Prop, (∀ a b, mstep N ru a b → D a → D b) → D s → D a
def sstep (N : Nt) (ru S x y : Nat) : Prop := ∃ l, l < nk N ∧ mvB N ru l x S = true ∧ oth N l x = y
def sreach (N : Nt) (ru S x y : Nat) : Prop := ∀ D : Nat → Prop, (∀ x y, sstep N ru S x y → D x → D y) → D x → D y
theorem mr_rf {N : Nt} {ru : Nat} (s : Nat × Nat) : mreach N ru s s := fun _ _ h => h
theorem mr_st {N : Nt} {ru : Nat} {s a b : Nat × Nat} (h : mreach N ru s a) (hs : mstep N ru a b) : mreach N ru s b := fun D h1 h2 => h1 a b hs (h D h1 h2)
theorem sr_rf {N : Nt} {ru S : Nat} (x : Nat) : sreach N ru S x x := fun _ _ h => h
theorem sr_st {N : Nt} {ru S x y z : Nat} (h : sreach N ru S x y) (hs : sstep N ru S y z) : sreach N ru S x z := fun D h1 h2 => h1 y z hs (h D h1 h2)
theorem mvB_sub {N : Nt} {ru l x S T : Nat} (hs : ∀ j, S.testBit j = true → T.testBit j = true) (h : mvB N ru l x T = true) : mvB N ru l x S = true := by
  unfold mvB at h ⊢
  simp at h ⊢
  refine ⟨h.1, ?_⟩
  cases hb : S.testBit (key N ru l x)
  · rfl
  · rw [hs _ hb] at h; cases h.2
/-- what both find -/
def RS (N : Nt) (ru p S q : Nat) : Prop := ∃ l, l < nk N ∧ mvB N ru l p S = true ∧ sreach N ru (nxt N ru l p S) (oth N l p) q
def Wd (N : Nt) (ru S q0 : Nat) : Nat → Nat → Prop
  | 0, x => x = q0
  | d + 1, x => Wd N ru S q0 d x ∨ ∃ y, Wd N ru S q0 d y ∧ sstep N ru S y x
theorem RS_of {N : Nt} {ru p S q : Nat} {a b : Nat × Nat} (ha : mreach N ru (p, S) a) (hb : mstep N ru a b) (hq : b.1 = q) : RS N ru p S q := by
  let D : Nat × Nat → Prop := fun b => ∃ l, l < nk N ∧ mvB N ru l p S = true ∧ sreach N ru (nxt N ru l p S) (oth N l p) b.1 ∧ ∀ j, (nxt N ru l p S).testBit j = true → b.2.testBit j = true
  have step : ∀ a b, mstep N ru a b → (a = (p, S) ∨ D a) → D b := by
    intro a b hs h
    obtain ⟨l', h1, h2, h3⟩ := hs
    rcases h with e | ⟨l, g1, g2, g3, g4⟩
    · subst e
      subst h3
      exact ⟨l', h1, h2, sr_rf _, fun j hj => hj⟩
    · subst h3
      refine ⟨l, g1, g2, sr_st g3 ⟨l', h1, mvB_sub g4 h2, rfl⟩, fun j hj => ?_⟩
      show (a.2 ||| 2 ^ key N ru l' a.1).testBit j = true
      rw [tb_or2, g4 j hj]
      rfl
  have hD : a = (p, S) ∨ D a := ha (fun a => a = (p, S) ∨ D a) (fun a b hs h => Or.inr (step a b hs h)) (Or.inl rfl)
  obtain ⟨l, g1, g2, g3, _⟩ := step a b hb hD
  subst hq
  exact ⟨l, g1, g2, g3⟩
theorem of_RS {N : Nt} {ru p S q : Nat} (h : RS N ru p S q) : ∃ a b, mreach N ru (p, S) a ∧ mstep N ru a b ∧ b.1 = q := by
  obtain ⟨l, h1, h2, h3⟩ := h
  have hP : ∀ d x, Wd N ru (nxt N ru l p S) (oth N l p) d x → ∃ T, (∃ a, mreach N ru (p, S) a ∧ mstep N ru a (x, T)) ∧ (∀ j, (nxt N ru l p S).testBit j = true → T.testBit j = true) ∧ ∀ j, T.testBit j = true → (nxt N ru l p S).testBit j = false → (byL ru = true → Wd N ru (nxt N ru l p S) (oth N l p) d (nf N j) ∧ Wd N ru (nxt N ru l p S) (oth N l p) d (nt N j)) ∧ (byL ru = false → Wd N ru (nxt N ru l p S) (oth N l p) d j) := by
    intro d
    induction d with
    | zero =>
      intro x hx
      have hx' : x = oth N l p := hx
      subst hx'
      refine ⟨nxt N ru l p S, ⟨(p, S), mr_rf _, l, h1, h2, rfl⟩, fun j hj => hj, fun j hj hn => ?_⟩
      rw [hj] at hn; cases hn
    | succ d ih =>
      intro x hx
      by_cases hd : Wd N ru (nxt N ru l p S) (oth N l p) d x
      · obtain ⟨T, a1, a2, a3⟩ := ih x hd
        exact ⟨T, a1, a2, fun j hj hn => ⟨fun hb => ⟨Or.inl ((a3 j hj hn).1 hb).1, Or.inl ((a3 j hj hn).1 hb).2⟩, fun hb => Or.inl ((a3 j hj hn).2 hb)⟩⟩
      · rcases hx with hx | ⟨y, hy, l', g1, g2, g3⟩
        · exact absurd hx hd
        · obtain ⟨T, ⟨a, a1, a1'⟩, a2, a3⟩ := ih y hy
          have hat := mvB_at g2
          have hnew := mvB_new g2
          have hato := at_oth hat
          rw [g3] at hato
          have hends : (nf N l' = y ∧ nt N l' = x) ∨ (nt N l' = y ∧ nf N l' = x) := by
            rcases atB_iff.mp hat with e | e
            · left; exact ⟨e, by rw [← g3, oth_f e]⟩
            · right; exact ⟨e, by rw [← g3, oth_t e]⟩
          have hT : T.testBit (key N ru l' y) = false := by
            cases hc : T.testBit (key N ru l' y)
            · rfl
            · exfalso
              have hi := a3 _ hc hnew
              cases hb : byL ru
              · have := hi.2 hb
                unfold key at this
                rw [hb] at this
                simp only [Bool.false_eq_true, if_false] at this
                rw [g3] at this
                exact hd this
              · have := hi.1 hb
                unfold key at this
                rw [hb] at this
                simp only [if_true] at this
                rcases hends with e | e
                · rw [e.2] at this; exact hd this.2
                · rw [e.2] at this; exact hd this.1
          have hmv : mvB N ru l' y T = true := by
            unfold mvB at g2 ⊢
            rw [hT]
            simp at g2 ⊢
            exact g2.1
          refine ⟨nxt N ru l' y T, ⟨(y, T), mr_st a1 a1', l', g1, hmv, by rw [← g3]⟩, fun j hj => ?_, fun j hj hn => ?_⟩
          · show (T ||| 2 ^ key N ru l' y).testBit j = true
            rw [tb_or2, a2 j hj]; rfl
          · have hj' : (T ||| 2 ^ key N ru l' y).testBit j = true := hj
            rw [tb_or2, Bool.or_eq_true] at hj'
            rcases hj' with c | c
            · exact ⟨fun hb => ⟨Or.inl ((a3 j c hn).1 hb).1, Or.inl ((a3 j c hn).1 hb).2⟩, fun hb => Or.inl ((a3 j c hn).2 hb)⟩
            · simp at c
              have hxW : Wd N ru (nxt N ru l p S) (oth N l p) (d + 1) x := Or.inr ⟨y, hy, l', g1, g2, g3⟩
              refine ⟨fun hb => ?_, fun hb => ?_⟩
              · unfold key at c
                rw [hb] at c
                simp only [if_true] at c
                subst c
                rcases hends with e | e
                · rw [e.1, e.2]; exact ⟨Or.inl hy, hxW⟩
                · rw [e.1, e.2]; exact ⟨hxW, Or.inl hy⟩
              · unfold key at c
                rw [hb] at c
                simp only [Bool.false_eq_true, if_false] at c
                rw [← c, g3]
                exact hxW
  obtain ⟨d, hd⟩ := h3 (fun x => ∃ d, Wd N ru (nxt N ru l p S) (oth N l p) d x) (fun x y hs ⟨d, hd⟩ => ⟨d + 1, Or.inr ⟨x, hd, hs⟩⟩) ⟨0, rfl⟩
  obtain ⟨T, ⟨a, a1, a2⟩, _⟩ := hP d q hd
  exact ⟨a, (q, T), a1, a2, rfl⟩
/-! the reference -/
def vis (g : Nat → Int32) (a : Nat × Nat) : Prop := g (4096 * a.1 + a.2) = nI 1
def inr (N : Nt) (a : Nat × Nat) : Prop := a.1 < nn N ∧ a.2 < 4096
def bvv (N : Nt) (g : Nat → Int32) : Prop := ∀ a, inr N a → g (4096 * a.1 + a.2) = nI 0 ∨ vis g a
theorem ms_in {N : Nt} (hw : nwf N) {ru : Nat} {a b : Nat × Nat} (ha : inr N a) (h : mstep N ru a b) : inr N b := by
  obtain ⟨l, h1, h2, h3⟩ := h
  subst h3
  exact ⟨oth_lt hw h1 (mvB_at h2), nxt_lt hw h1 (mvB_at h2) ha.2⟩
def rP (N : Nt) (ru : Nat) (s : Nat × Nat) (R : Nat) (g g' : Nat → Int32) : Prop :=
  bvv N g' ∧ (∀ a, inr N a → vis g a → vis g' a) ∧ vis g' s ∧ R < 1024 ∧ (∀ a, inr N a → ¬ vis g a → vis g' a → ∀ b, mstep N ru a b → vis g' b) ∧ (∀ q, R.testBit q = true ↔ ∃ a b, inr N a ∧ ¬ vis g a ∧ vis g' a ∧ mstep N ru a b ∧ b.1 = q) ∧ ∀ D : Nat × Nat → Prop, (∀ a b, mstep N ru a b → D a → D b) → D s → ∀ a, inr N a → ¬ vis g a → vis g' a → D a
set_option maxHeartbeats 2000000 in
theorem M_reaches {N : Nt} {τ : S3} {ru : Nat} (hw : nwf N) (h : RM N τ) (hu : τ 0 12 0 = nI ru) (hr : ru < 5) : ∀ (k p S : Nat) (g : Nat → Int32), p < nn N → S < 4096 → rm N ru S < k → bvv N g → ∃ R g', zl2 F_X9_reaches_0 k (nI p) (nI S) (upA τ 0 23 g) = some (nI R, upA τ 0 23 g') ∧ rP N ru (p, S) R g g' := by
  have hk := hw.2.2.1
  have hn := hw.2.1
  intro k
  induction k with
  | zero => intro p S g _ _ h0; exact absurd h0 (by omega)
  | succ k ihk =>
    generalize hRc : zl2 F_X9_reaches_0 k = Rc at ihk
    intro p S g hp hS hrm hg
    have hR : ∀ g, RM N (upA τ 0 23 g) := fun g => RM_upA h (by omega)
    have hU : ∀ g, (upA τ 0 23 g) 0 12 0 = nI ru := fun g => by rw [upA_f (by decide)]; exact hu
    have hT : ∀ g, (upA τ 0 23 g) 0 23 = g := fun g => upA_s
    have hin : inr N (p, S) := ⟨hp, hS⟩
    have h4 : (4096 : Int32) * nI p + nI S = nI (4096 * p + S) := by
      rw [show (4096 : Int32) = nI 4096 from rfl, mulN, nI_add]
    rw [zl2_s, hRc]
    unfold F_X9_reaches_0
    simp (disch := omega) only [ckN, ixN, nI_add, subN, mulN, eqN, leN, ltN, bdE, nmE, hasN, shl1, orN, andN, b2i_0, b2i_1, ↓reduceIte, Nat.reduceEqDiff, Nat.reduceLeDiff, li0, li1, li2, li3, li4, li5, li6, li7, li8, li9, li10, li12, li13, li15, li16, li20, li24, li32, li60, li63, li255, li300, li511, li1000, li1023, li4095, li8191, h4, hT]
    rcases hg (p, S) hin with e | e
    · have hnv : ¬ vis g (p, S) := by unfold vis; rw [e]; exact n0_1
      rw [show g (4096 * p + S) = nI 0 from e]
      simp (disch := omega) only [ckN, ixN, nI_add, subN, mulN, eqN, leN, ltN, bdE, nmE, hasN, shl1, orN, andN, b2i_0, b2i_1, ↓reduceIte, Nat.reduceEqDiff, Nat.reduceLeDiff, li0, li1, li2, li3, li4, li5, li6, li7, li8, li9, li10, li12, li13, li15, li16, li20, li24, li32, li60, li63, li255, li300, li511, li1000, li1023, li4095, li8191, up_upA, eq_self]
      have g0 : ∀ a, inr N a → (vis (upd g (4096 * p + S) (nI 1)) a ↔ vis g a ∨ a = (p, S)) := by
        intro a ha
        unfold vis
        by_cases e : 4096 * a.1 + a.2 = 4096 * p + S
        · have e1 : a = (p, S) := Prod.ext (by have := ha.2; show a.1 = p; omega) (by have := ha.2; show a.2 = S; omega)
          subst e1
          rw [upd_s]
          simp
        · rw [upd_n e]
          constructor
          · exact Or.inl
          · rintro (x | x)
            · exact x
            · subst x; exact absurd rfl e
      have lp : ∀ (d n i : Nat) (acc : Nat) (g1 : Nat → Int32), i + d = nk N → d < n → bvv N g1 → acc < 1024 → (∀ a, inr N a → vis g a ∨ a = (p, S) → vis g1 a) → (∀ l, l < i → mvB N ru l p S = true → vis g1 (oth N l p, nxt N ru l p S)) → (∀ a, inr N a → ¬ vis g a → a ≠ (p, S) → vis g1 a → ∀ b, mstep N ru a b → vis g1 b) → (∀ q, acc.testBit q = true ↔ (∃ l, l < i ∧ mvB N ru l p S = true ∧ oth N l p = q) ∨ ∃ a b, inr N a ∧ ¬ vis g a ∧ a ≠ (p, S) ∧ vis g1 a ∧ mstep N ru a b ∧ b.1 = q) → (∀ D : Nat × Nat → Prop, (∀ a b, mstep N ru a b → D a → D b) → D (p, S) → ∀ a, inr N a → ¬ vis g a → vis g1 a → D a) → ∃ R g', zl2 (Fb_X9_reaches_32 Rc (nI p) (nI S)) n (nI acc) (nI i) (upA τ 0 23 g1) = some (nI R, upA τ 0 23 g') ∧ rP N ru (p, S) R g g' := by
        intro d
        induction d with
        | zero =>
          intro n i acc g1 hi hn' c1 c2 c3 c4 c5 c6 c7
          obtain ⟨n, rfl⟩ : ∃ m, n = m + 1 := ⟨n - 1, by omega⟩
          have e : i = nk N := by omega
          subst e
          refine ⟨acc, g1, ?_, c1, fun a ha hv => c3 a ha (Or.inl hv), c3 _ hin (Or.inr rfl), c2, ?_, ?_, c7⟩
          · rw [zl2_s]
            generalize zl2 (Fb_X9_reaches_32 Rc (nI p) (nI S)) n = K
            unfold Fb_X9_reaches_32
            simp (disch := omega) only [ckN, ixN, nI_add, subN, mulN, eqN, leN, ltN, bdE, nmE, hasN, shl1, orN, andN, b2i_0, b2i_1, ↓reduceIte, Nat.reduceEqDiff, Nat.reduceLeDiff, li0, li1, li2, li3, li4, li5, li6, li7, li8, li9, li10, li12, li13, li15, li16, li20, li24, li32, li60, li63, li255, li300, li511, li1000, li1023, li4095, li8191, (hR g1).2.1, Nat.le_refl]
          · intro a ha hx hy b hb
            by_cases e : a = (p, S)
            · subst e
              obtain ⟨l, l1, l2, l3⟩ := hb
              subst l3
              exact c4 l l1 l2
            · exact c5 a ha hx e hy b hb
          · intro q
            rw [c6 q]
            constructor
            · rintro (⟨l, l1, l2, l3⟩ | ⟨a, b, x1, x2, x3, x4, x5, x6⟩)
              · exact ⟨(p, S), (oth N l p, nxt N ru l p S), hin, hnv, c3 _ hin (Or.inr rfl), ⟨l, l1, l2, rfl⟩, l3⟩
              · exact ⟨a, b, x1, x2, x4, x5, x6⟩
            · rintro ⟨a, b, x1, x2, x4, x5, x6⟩
              by_cases e : a = (p, S)
              · subst e
                obtain ⟨l, l1, l2, l3⟩ := x5
                subst l3
                exact Or.inl ⟨l, l1, l2, x6⟩
              · exact Or.inr ⟨a, b, x1, x2, e, x4, x5, x6⟩
        | succ d ih =>
          intro n i acc g1 hi hn' c1 c2 c3 c4 c5 c6 c7
          obtain ⟨n, rfl⟩ : ∃ m, n = m + 1 := ⟨n - 1, by omega⟩
          have hil : i < nk N := by omega
          have ihn := ih n
          rw [zl2_s]
          generalize zl2 (Fb_X9_reaches_32 Rc (nI p) (nI S)) n = K at ihn ⊢
          unfold Fb_X9_reaches_32
          simp (disch := omega) only [ckN, ixN, nI_add, subN, mulN, eqN, leN, ltN, bdE, nmE, hasN, shl1, orN, andN, b2i_0, b2i_1, ↓reduceIte, Nat.reduceEqDiff, Nat.reduceLeDiff, li0, li1, li2, li3, li4, li5, li6, li7, li8, li9, li10, li12, li13, li15, li16, li20, li24, li32, li60, li63, li255, li300, li511, li1000, li1023, li4095, li8191, (hR g1).2.1, show ¬ nk N ≤ i by omega, M_isMove hw (hR g1) (hU g1) hr hil (show p < 2147483648 by omega) (show S < 2147483648 by omega)]
          cases hm : mvB N ru i p S
          · simp only [if_true]
            refine ihn (i + 1) acc g1 (by omega) (by omega) c1 c2 c3 ?_ c5 ?_ c7
            · intro l hl hv
              by_cases e : l = i
              · subst e; rw [hm] at hv; cases hv
              · exact c4 l (by omega) hv
            · intro q
              rw [c6 q]
              constructor
              · rintro (⟨l, l1, l2⟩ | x)
                · exact Or.inl ⟨l, by omega, l2⟩
                · exact Or.inr x
              · rintro (⟨l, l1, l2, l3⟩ | x)
                · by_cases e : l = i
                  · subst e; rw [hm] at l2; cases l2
                  · exact Or.inl ⟨l, by omega, l2, l3⟩
                · exact Or.inr x
          · simp only [Bool.true_eq_false, if_false]
            have ha := mvB_at hm
            have ho := oth_lt hw hil ha
            have hx := nxt_lt (ru := ru) hw hil ha hS
            have hrm' := rm_mv hw hil hm
            obtain ⟨R, g2, e2, d1, d2, d3, d4, d5, d6, d7⟩ := ihk (oth N i p) (nxt N ru i p S) g1 ho hx (by omega) c1
            have hch : mstep N ru (p, S) (oth N i p, nxt N ru i p S) := ⟨i, hil, hm, rfl⟩
            simp (disch := omega) only [ckN, ixN, nI_add, subN, mulN, eqN, leN, ltN, bdE, nmE, hasN, shl1, orN, andN, b2i_0, b2i_1, ↓reduceIte, Nat.reduceEqDiff, Nat.reduceLeDiff, li0, li1, li2, li3, li4, li5, li6, li7, li8, li9, li10, li12, li13, li15, li16, li20, li24, li32, li60, li63, li255, li300, li511, li1000, li1023, li4095, li8191, M_otherOf hw (hR g1) hil ha, M_setBehind hw (hR g1) (hU g1) hr hil ha, e2]
            refine ihn (i + 1) _ g2 (by omega) (by omega) d1 (or_lt (m := 10) c2 (or_lt (m := 10) (p2_lt (by omega)) d4)) ?_ ?_ ?_ ?_ ?_
            · intro a ha' hv; exact d2 a ha' (c3 a ha' hv)
            · intro l hl hv
              by_cases e : l = i
              · subst e; exact d3
              · exact d2 _ ⟨oth_lt hw (by omega) (mvB_at hv), nxt_lt hw (by omega) (mvB_at hv) hS⟩ (c4 l (by omega) hv)
            · intro a ha' hx1 hx2 hy b hb
              by_cases hz : vis g1 a
              · exact d2 b (ms_in hw ha' hb) (c5 a ha' hx1 hx2 hz b hb)
              · exact d5 a ha' hz hy b hb
            · intro q
              rw [Nat.testBit_or, Nat.testBit_or, Nat.testBit_two_pow, Bool.or_eq_true, Bool.or_eq_true, c6 q, d6 q, decide_eq_true_eq]
              constructor
              · rintro ((⟨l, l1, l2⟩ | ⟨a, b, x1, x2, x3, x4, x5⟩) | x | ⟨a, b, x1, x2, x3, x4⟩)
                · exact Or.inl ⟨l, by omega, l2⟩
                · exact Or.inr ⟨a, b, x1, x2, x3, d2 a x1 x4, x5⟩
                · exact Or.inl ⟨i, by omega, hm, x⟩
                · have nps : a ≠ (p, S) := fun e => x2 (by rw [e]; exact c3 _ hin (Or.inr rfl))
                  exact Or.inr ⟨a, b, x1, fun hv => x2 (c3 a x1 (Or.inl hv)), nps, x3, x4⟩
              · rintro (⟨l, l1, l2, l3⟩ | ⟨a, b, x1, x2, x3, x4, x5⟩)
                · by_cases e : l = i
                  · subst e; exact Or.inr (Or.inl l3)
                  · exact Or.inl (Or.inl ⟨l, by omega, l2, l3⟩)
                · by_cases hz : vis g1 a
                  · exact Or.inl (Or.inr ⟨a, b, x1, x2, x3, hz, x5⟩)
                  · exact Or.inr (Or.inr ⟨a, b, x1, hz, x4, x5⟩)
            · intro D h1 h2 a ha' hx1 hy
              by_cases hz : vis g1 a
              · exact c7 D h1 h2 a ha' hx1 hz
              · exact d7 D h1 (h1 _ _ hch h2) a ha' hz hy
      unfold F_X9_reaches_32
      refine lp (nk N) zF 0 0 _ (by omega) (zfl (by omega)) ?_ (by omega) (fun a ha hv => (g0 a ha).mpr hv) (fun l hl => absurd hl (by omega)) ?_ ?_ ?_
      · intro a ha
        by_cases e : a = (p, S)
        · exact Or.inr ((g0 a ha).mpr (Or.inr e))
        · rcases hg a ha with x | x
          · left
            rw [upd_n]
            · exact x
            · intro e2
              apply e
              exact Prod.ext (by have := ha.2; show a.1 = p; omega) (by have := ha.2; show a.2 = S; omega)
          · exact Or.inr ((g0 a ha).mpr (Or.inl x))
      · intro a ha hx1 hx2 hy
        rcases (g0 a ha).mp hy with x | x
        · exact absurd x hx1
        · exact absurd x hx2
      · intro q
        rw [Nat.zero_testBit]
        constructor
        · intro x; cases x
        · rintro (⟨l, l1, _⟩ | ⟨a, b, x1, x2, x3, x4, _⟩)
          · exact absurd l1 (by omega)
          · rcases (g0 a x1).mp x4 with x | x
            · exact absurd x x2
            · exact absurd x x3
      · intro D _ h2 a ha hx1 hy
        rcases (g0 a ha).mp hy with x | x
        · exact absurd x hx1
        · subst x; exact h2
    · have e' : g (4096 * p + S) = nI 1 := e
      rw [e', if_neg n1_0]
      refine ⟨0, g, rfl, hg, fun _ _ h => h, e, by omega, fun a _ hx hy => absurd hy hx, fun q => ?_, fun D _ _ a _ hx hy => absurd hy hx⟩
      rw [Nat.zero_testBit]
      constructor
      · intro x; cases x
      · rintro ⟨a, b, _, x2, x3, _⟩; exact absurd x3 x2
