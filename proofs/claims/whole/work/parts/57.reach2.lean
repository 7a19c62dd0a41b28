/-! PURE: reach, both sides -/
theorem M_reach_loop {τ : S3} {C : Nat} (hC : C = 40960) : ∀ (d n i : Nat) (g : Nat → Int32), i + d = C → d < n → (∀ j, j < i → g j = nI 0) → ∃ g', (∀ j, j < C → g' j = nI 0) ∧ zl1 Fb_X9_reach_15 n (nI i) (upA τ 0 23 g) = bd (F_X9_setNow (upA τ 0 23 g')) (fun r s => bd (F_X9_reaches 20 ((upA τ 0 23 g') 0 14 0) r s) (fun r s => some (r, s))) := by
  have hI : (40960 : Int32) = nI C := by rw [hC]; exact Eq.trans rfl rfl
  have hck : ∀ (β : Type) (i : Nat) (x : Option β), i < C → ck (nI i) 40960 x = x := fun β i x h => ckN (by omega) (by omega)
  intro d
  induction d with
  | zero =>
    intro n i g hi hn' h3
    obtain ⟨n, rfl⟩ : ∃ m, n = m + 1 := ⟨n - 1, by omega⟩
    have e : i = C := by omega
    subst e
    refine ⟨g, h3, ?_⟩
    rw [zl1_s]
    generalize zl1 Fb_X9_reach_15 n = K
    unfold Fb_X9_reach_15
    rw [hI, if_pos (by rw [leN (by omega) (by omega)]; omega)]
  | succ d ih =>
    intro n i g hi hn' h3
    obtain ⟨n, rfl⟩ : ∃ m, n = m + 1 := ⟨n - 1, by omega⟩
    have ihn := ih n
    rw [zl1_s]
    generalize zl1 Fb_X9_reach_15 n = K at ihn ⊢
    unfold Fb_X9_reach_15
    rw [hI, if_neg (by rw [leN (by omega) (by omega)]; omega), hck _ i _ (by omega), nmE, nmE, li1, nI_add, li0, ixN (by omega), up_upA]
    refine ihn (i + 1) _ (by omega) (by omega) ?_
    intro j hj
    by_cases e : j = i
    · subst e; exact upd_s
    · rw [upd_n e]; exact h3 j (by omega)
theorem M_reach {N : Nt} {τ : S3} {ru p m g : Nat} (hw : nwf N) (h : RM N τ) (hr : ru < 5) (hP : MP ru p m g τ) (hp : p < nn N) (hm : m < 1024) (hg : g < 4096) : ∃ R g', F_X9_reach_15 zF 0 τ = some (nI R, upA τ 0 23 g') ∧ R < 1024 ∧ ∀ q, R.testBit q = true ↔ RS N ru p (S_ ru m g) q := by
  obtain ⟨C, hC⟩ : ∃ C, C = 40960 := ⟨_, rfl⟩
  have hz2 : C < zF := zfl (by omega)
  obtain ⟨g0, h0, e0⟩ := M_reach_loop (τ := τ) hC C zF 0 (τ 0 23) (by omega) hz2 (fun j hj => absurd hj (by omega))
  rw [upA_self] at e0
  have hn := hw.2.1
  have hS := S_lt (ru := ru) hm hg
  have hP2 : MP ru p m g (upA τ 0 23 g0) := by
    unfold MP at hP ⊢
    rw [upA_f (by decide), upA_f (by decide), upA_f (by decide), upA_f (by decide)]
    exact hP
  have hnv : ∀ a, inr N a → ¬ vis g0 a := by
    intro a ha hv
    unfold vis at hv
    have := ha.1
    have := ha.2
    rw [h0 _ (by omega)] at hv
    exact n0_1 hv
  have h12 := rm12 hw ru (S_ ru m g)
  obtain ⟨R, g', e1, d1, d2, d3, d4, d5, d6, d7⟩ := M_reaches hw h hP.1 hr 20 p (S_ ru m g) g0 hp hS (by omega) (fun a ha => Or.inl (by have := ha.1; have := ha.2; exact h0 _ (by omega)))
  refine ⟨R, g', ?_, d4, ?_⟩
  · unfold F_X9_reach_15
    rw [li0, e0, M_setNow hr hP2, bdE, hP2.2.1]
    unfold F_X9_reaches
    rw [e1, bdE]
  · intro q
    rw [d6 q]
    have hin : inr N (p, S_ ru m g) := ⟨hp, hS⟩
    constructor
    · rintro ⟨a, b, x1, x2, x3, x4, x5⟩
      exact RS_of (d7 (mreach N ru (p, S_ ru m g)) (fun a b hs hh => mr_st hh hs) (mr_rf _) a x1 x2 x3) x4 x5
    · intro hx
      obtain ⟨a, b, x1, x2, x3⟩ := of_RS hx
      obtain ⟨y1, y2⟩ := x1 (fun a => inr N a ∧ vis g' a) (fun a b hs hh => ⟨ms_in hw hh.1 hs, d5 a hh.1 (hnv a hh.1) hh.2 b hs⟩) ⟨hin, d3⟩
      exact ⟨a, b, y1, hnv a y1, y2, x2, x3⟩
/-! the class -/
def fel (N : Nt) (ru S x : Nat) : Nat → Nat
  | 0 => 0
  | i + 1 => if mvB N ru i x S then fel N ru S x i ||| 2 ^ oth N i x else fel N ru S x i
theorem fel_tb {N : Nt} {ru S x q : Nat} : ∀ i, (fel N ru S x i).testBit q = true ↔ ∃ l, l < i ∧ mvB N ru l x S = true ∧ oth N l x = q
  | 0 => by simp [fel]
  | i + 1 => by
    rw [fel]
    cases hm : mvB N ru i x S
    · rw [if_neg (by simp), fel_tb i]
      constructor
      · rintro ⟨l, h1, h2⟩; exact ⟨l, by omega, h2⟩
      · rintro ⟨l, h1, h2, h3⟩
        by_cases e : l = i
        · subst e; rw [hm] at h2; cases h2
        · exact ⟨l, by omega, h2, h3⟩
    · rw [if_pos rfl, tb_or2, Bool.or_eq_true, fel_tb i, decide_eq_true_eq]
      constructor
      · rintro (⟨l, h1, h2⟩ | h1)
        · exact ⟨l, by omega, h2⟩
        · exact ⟨i, by omega, hm, h1⟩
      · rintro ⟨l, h1, h2, h3⟩
        by_cases e : l = i
        · subst e; exact Or.inr h3
        · exact Or.inl ⟨l, by omega, h2, h3⟩
theorem fe_st {N : Nt} {ru S x q : Nat} : (fel N ru S x (nk N)).testBit q = true ↔ sstep N ru S x q := fel_tb (nk N)
theorem ss_lt {N : Nt} (hw : nwf N) {ru S x q : Nat} (h : sstep N ru S x q) : x < nn N ∧ q < nn N := by
  obtain ⟨l, h1, h2, h3⟩ := h
  subst h3
  exact ⟨at_lt hw h1 (mvB_at h2), oth_lt hw h1 (mvB_at h2)⟩
theorem fe_lt {N : Nt} (hw : nwf N) {ru S x : Nat} : fel N ru S x (nk N) < 2 ^ nn N := lt_of_tb (fun _ hi => (ss_lt hw (fe_st.mp hi)).2)
def sp1 (N : Nt) (ru S R x : Nat) : Nat := if R.testBit x then R ||| fel N ru S x (nk N) else R
def spl (N : Nt) (ru S R : Nat) : Nat → Nat
  | 0 => R
  | i + 1 => sp1 N ru S (spl N ru S R i) i
def spr (N : Nt) (ru S p : Nat) : Nat → Nat
  | 0 => 2 ^ p
  | r + 1 => spl N ru S (spr N ru S p r) (nn N)
section
variable {N : Nt} {ru S : Nat}
theorem sp1_tb {R x q : Nat} : (sp1 N ru S R x).testBit q = true ↔ R.testBit q = true ∨ (R.testBit x = true ∧ sstep N ru S x q) := by
  unfold sp1
  cases hx : R.testBit x
  · simp
  · rw [if_pos rfl, Nat.testBit_or, Bool.or_eq_true, fe_st]
    simp
theorem spl_mono {R q : Nat} (h : R.testBit q = true) : ∀ i, (spl N ru S R i).testBit q = true
  | 0 => h
  | i + 1 => by
    rw [spl, sp1_tb]
    exact Or.inl (spl_mono h i)
theorem spl_mon2 {R q i : Nat} (h : (spl N ru S R i).testBit q = true) : ∀ d, (spl N ru S R (i + d)).testBit q = true
  | 0 => h
  | d + 1 => by
    show (spl N ru S R (i + d + 1)).testBit q = true
    rw [spl, sp1_tb]
    exact Or.inl (spl_mon2 h d)
theorem spl_step (hw : nwf N) {R x q : Nat} (h : R.testBit x = true) (hs : sstep N ru S x q) : (spl N ru S R (nn N)).testBit q = true := by
  have hx := (ss_lt hw hs).1
  have h1 : (spl N ru S R (x + 1)).testBit q = true := by
    rw [spl, sp1_tb]
    exact Or.inr ⟨spl_mono h x, hs⟩
  have := spl_mon2 h1 (nn N - (x + 1))
  rw [show x + 1 + (nn N - (x + 1)) = nn N by omega] at this
  exact this
theorem spl_snd {p R : Nat} (h : ∀ q, R.testBit q = true → sreach N ru S p q) : ∀ i q, (spl N ru S R i).testBit q = true → sreach N ru S p q
  | 0, q, hq => h q hq
  | i + 1, q, hq => by
    rw [spl, sp1_tb] at hq
    rcases hq with hq | ⟨hq, hs⟩
    · exact spl_snd h i q hq
    · exact sr_st (spl_snd h i _ hq) hs
theorem spr_snd {p : Nat} : ∀ r q, (spr N ru S p r).testBit q = true → sreach N ru S p q
  | 0, q, hq => by
    rw [spr, Nat.testBit_two_pow, decide_eq_true_eq] at hq
    subst hq
    exact sr_rf _
  | r + 1, q, hq => spl_snd (spr_snd r) (nn N) q hq
def clo (N : Nt) (ru S R : Nat) : Prop := ∀ x y, sstep N ru S x y → R.testBit x = true → R.testBit y = true
theorem clo_spl {R : Nat} (h : clo N ru S R) : ∀ i, spl N ru S R i = R
  | 0 => rfl
  | i + 1 => by
    rw [spl, clo_spl h i]
    apply Nat.eq_of_testBit_eq
    intro q
    rw [Bool.eq_iff_iff, sp1_tb]
    constructor
    · rintro (a | ⟨a, b⟩)
      · exact a
      · exact h _ _ b a
    · exact Or.inl
theorem sr_lt (hw : nwf N) {p q : Nat} (hp : p < nn N) (h : sreach N ru S p q) : q < nn N := h (fun x => x < nn N) (fun _ _ hs _ => (ss_lt hw hs).2) hp
theorem spr_lt (hw : nwf N) {p : Nat} (hp : p < nn N) (r : Nat) : spr N ru S p r < 2 ^ nn N := lt_of_tb (fun q hq => sr_lt hw hp (spr_snd r q hq))
theorem spr_cl (hw : nwf N) {p : Nat} (hp : p < nn N) : ∀ r, clo N ru S (spr N ru S p r) ∨ r + 1 ≤ pc (spr N ru S p r) 10
  | 0 => by
    right
    have hn := hw.2.1
    have := (pc_sub (A := 0) (B := spr N ru S p 0) (fun i h => by simp at h) 10).2 p (by omega) (by simp) (by rw [spr, Nat.testBit_two_pow_self])
    omega
  | r + 1 => by
    by_cases hc : clo N ru S (spr N ru S p r)
    · left
      rw [spr, clo_spl hc]
      exact hc
    · right
      rcases spr_cl hw hp r with h | h
      · exact absurd h hc
      · have hex : ∃ x y, sstep N ru S x y ∧ (spr N ru S p r).testBit x = true ∧ (spr N ru S p r).testBit y = false := by
          apply Classical.byContradiction
          intro hne
          apply hc
          intro x y hs hx
          cases hy : (spr N ru S p r).testBit y
          · exact absurd ⟨x, y, hs, hx, hy⟩ hne
          · rfl
        obtain ⟨x, y, hs, hx, hy⟩ := hex
        have hn := hw.2.1
        have hyl := (ss_lt hw hs).2
        have := (pc_sub (A := spr N ru S p r) (B := spr N ru S p (r + 1)) (fun i h => spl_mono h (nn N)) 10).2 y (by omega) hy (spl_step hw hx hs)
        omega
theorem spr_iff (hw : nwf N) {p : Nat} (hp : p < nn N) (q : Nat) : (spr N ru S p (nn N - 1)).testBit q = true ↔ sreach N ru S p q := by
  constructor
  · exact spr_snd _ q
  · intro h
    have h0 : ∀ r, (spr N ru S p r).testBit p = true := by
      intro r
      induction r with
      | zero => rw [spr, Nat.testBit_two_pow_self]
      | succ r ih => exact spl_mono ih (nn N)
    have hcl : clo N ru S (spr N ru S p (nn N - 1)) := by
      rcases spr_cl (ru := ru) (S := S) hw hp (nn N - 1) with hc | hc
      · exact hc
      · intro x y hs _
        cases hy : (spr N ru S p (nn N - 1)).testBit y
        · have hyl := (ss_lt hw hs).2
          have hn := hw.2.1
          have h1 := hw.1
          have hpos := Nat.two_pow_pos (nn N)
          have := (pc_sub (A := spr N ru S p (nn N - 1)) (B := 2 ^ nn N - 1) (fun i hi => by
            rw [Nat.testBit_two_pow_sub_one, decide_eq_true_eq]
            exact sr_lt hw hp (spr_snd _ i hi)) 10).2 y (by omega) hy (by rw [Nat.testBit_two_pow_sub_one, decide_eq_true_eq]; exact hyl)
          have h2 := pc_n hw (show 2 ^ nn N - 1 < 2 ^ nn N by omega)
          omega
        · rfl
    exact h (fun x => (spr N ru S p (nn N - 1)).testBit x = true) hcl (h0 _)
variable {σ : S3}
theorem X_farEnds (hw : nwf N) (h : RX 1 N σ) {x : Nat} : F_X1_farEnds (nI (bset (nk N) (fun l => mvB N ru l x S))) (nI x) σ = some (nI (fel N ru S x (nk N)), σ) := by
  have hk := hw.2.2.1
  have hn := hw.2.1
  have hb := bs12 hw (fun l => mvB N ru l x S)
  have lp : ∀ (d n i : Nat), i + d = nk N → d < n → zl2 (Fb_X1_farEnds_5 (nI (bset (nk N) (fun l => mvB N ru l x S))) (nI x)) n (nI (fel N ru S x i)) (nI i) σ = some (nI (fel N ru S x (nk N)), σ) := by
    intro d
    induction d with
    | zero =>
      intro n i hi hn'
      obtain ⟨n, rfl⟩ : ∃ m, n = m + 1 := ⟨n - 1, by omega⟩
      have e : i = nk N := by omega
      subst e
      rw [zl2_s]
      generalize zl2 (Fb_X1_farEnds_5 (nI (bset (nk N) (fun l => mvB N ru l x S))) (nI x)) n = K
      unfold Fb_X1_farEnds_5
      simp (disch := omega) only [ckN, ixN, nI_add, subN, mulN, eqN, leN, ltN, bdE, nmE, hasN, shl1, orN, andN, b2i_0, b2i_1, ↓reduceIte, Nat.reduceEqDiff, Nat.reduceLeDiff, li0, li1, li2, li3, li4, li5, li6, li7, li8, li9, li10, li12, li13, li15, li16, li20, li24, li32, li60, li63, li255, li300, li511, li1000, li1023, li4095, li8191, h.2.1, Nat.le_refl]
    | succ d ih =>
      intro n i hi hn'
      obtain ⟨n, rfl⟩ : ∃ m, n = m + 1 := ⟨n - 1, by omega⟩
      have hil : i < nk N := by omega
      have ih' := ih n (i + 1) (by omega) (by omega)
      rw [fel] at ih'
      rw [zl2_s]
      generalize zl2 (Fb_X1_farEnds_5 (nI (bset (nk N) (fun l => mvB N ru l x S))) (nI x)) n = K at ih' ⊢
      unfold Fb_X1_farEnds_5
      simp (disch := omega) only [ckN, ixN, nI_add, subN, mulN, eqN, leN, ltN, bdE, nmE, hasN, shl1, orN, andN, b2i_0, b2i_1, ↓reduceIte, Nat.reduceEqDiff, Nat.reduceLeDiff, li0, li1, li2, li3, li4, li5, li6, li7, li8, li9, li10, li12, li13, li15, li16, li20, li24, li32, li60, li63, li255, li300, li511, li1000, li1023, li4095, li8191, h.2.1, show ¬ nk N ≤ i by omega, bset_tb, hil, decide_true, Bool.true_and]
      cases hm : mvB N ru i x S
      · rw [hm] at ih'
        simp at ih' ⊢
        exact ih'
      · rw [hm] at ih'
        have ho := oth_lt hw hil (mvB_at hm)
        simp (disch := omega) only [ckN, ixN, nI_add, subN, mulN, eqN, leN, ltN, bdE, nmE, hasN, shl1, orN, andN, b2i_0, b2i_1, ↓reduceIte, Nat.reduceEqDiff, Nat.reduceLeDiff, li0, li1, li2, li3, li4, li5, li6, li7, li8, li9, li10, li12, li13, li15, li16, li20, li24, li32, li60, li63, li255, li300, li511, li1000, li1023, li4095, li8191, X_otherEnd hw h hil (mvB_at hm), Bool.true_eq_false]
        exact ih'
  unfold F_X1_farEnds F_X1_farEnds_5
  exact lp (nk N) zF 0 (by omega) (zfl (by omega))
theorem spl_lt (hw : nwf N) {R : Nat} (hR : R < 2 ^ nn N) : ∀ i, spl N ru S R i < 2 ^ nn N
  | 0 => hR
  | i + 1 => by
    rw [spl, sp1]
    cases (spl N ru S R i).testBit i
    · exact spl_lt hw hR i
    · exact or_lt (spl_lt hw hR i) (fe_lt hw)
theorem X_spread {p m g : Nat} (hw : nwf N) (h : RX 1 N σ) (hu : σ 3 3 0 = nI ru) (hr : ru < 5) (hp : p < nn N) (hm : m < 1024) (hg : g < 4096) : F_X1_spread (nI (st p m g)) σ = some (nI (spr N ru (S_ ru m g) p (nn N - 1)), σ) := by
  have hn := hw.2.1
  have h1 := hw.1
  have l2 : ∀ (K9 : Int32 → Int32 → S3 → R3) (v R : Nat), R < 2 ^ nn N → ∀ (d n i : Nat), i + d = nn N → d < n → zl2 (Fb_X1_spread_23 K9 (nI (st p m g)) (nI v)) n (nI (spl N ru (S_ ru m g) R i)) (nI i) σ = K9 (nI (spl N ru (S_ ru m g) R (nn N))) (nI (v + 1)) σ := by
    intro K9 v R hR d
    induction d with
    | zero =>
      intro n i hi hn'
      obtain ⟨n, rfl⟩ : ∃ m, n = m + 1 := ⟨n - 1, by omega⟩
      have e : i = nn N := by omega
      subst e
      rw [zl2_s]
      generalize zl2 (Fb_X1_spread_23 K9 (nI (st p m g)) (nI v)) n = K
      unfold Fb_X1_spread_23
      simp (disch := omega) only [ckN, ixN, nI_add, subN, mulN, eqN, leN, ltN, bdE, nmE, hasN, shl1, orN, andN, b2i_0, b2i_1, ↓reduceIte, Nat.reduceEqDiff, Nat.reduceLeDiff, li0, li1, li2, li3, li4, li5, li6, li7, li8, li9, li10, li12, li13, li15, li16, li20, li24, li32, li60, li63, li255, li300, li511, li1000, li1023, li4095, li8191, h.1, Nat.le_refl]
    | succ d ih =>
      intro n i hi hn'
      obtain ⟨n, rfl⟩ : ∃ m, n = m + 1 := ⟨n - 1, by omega⟩
      have hil : i < nn N := by omega
      have ih' := ih n (i + 1) (by omega) (by omega)
      rw [spl, sp1] at ih'
      have hsl := p10 hw (spl_lt (ru := ru) (S := S_ ru m g) hw hR i)
      rw [zl2_s]
      generalize zl2 (Fb_X1_spread_23 K9 (nI (st p m g)) (nI v)) n = K at ih' ⊢
      unfold Fb_X1_spread_23
      simp (disch := omega) only [ckN, ixN, nI_add, subN, mulN, eqN, leN, ltN, bdE, nmE, hasN, shl1, orN, andN, b2i_0, b2i_1, ↓reduceIte, Nat.reduceEqDiff, Nat.reduceLeDiff, li0, li1, li2, li3, li4, li5, li6, li7, li8, li9, li10, li12, li13, li15, li16, li20, li24, li32, li60, li63, li255, li300, li511, li1000, li1023, li4095, li8191, h.1, show ¬ nn N ≤ i by omega]
      cases hb : (spl N ru (S_ ru m g) R i).testBit i
      · rw [hb] at ih'
        simp at ih' ⊢
        exact ih'
      · rw [hb] at ih'
        simp only [Bool.true_eq_false, if_false, if_true] at ih' ⊢
        rw [X_withMarker (by omega) hm (by omega), bdE, X_movesFrom hw h hu hr (by omega) hm hg, bdE, X_farEnds hw h, bdE, orN]
        exact ih'
  have l1 : ∀ (d n r : Nat), r + d = nn N - 1 → d < n → zl2 (Fb_X1_spread_9 (nI (st p m g))) n (nI (spr N ru (S_ ru m g) p r)) (nI (r + 1)) σ = some (nI (spr N ru (S_ ru m g) p (nn N - 1)), σ) := by
    intro d
    induction d with
    | zero =>
      intro n r hr' hn'
      obtain ⟨n, rfl⟩ : ∃ m, n = m + 1 := ⟨n - 1, by omega⟩
      have e : r = nn N - 1 := by omega
      subst e
      rw [zl2_s]
      generalize zl2 (Fb_X1_spread_9 (nI (st p m g))) n = K
      unfold Fb_X1_spread_9
      simp (disch := omega) only [ckN, ixN, nI_add, subN, mulN, eqN, leN, ltN, bdE, nmE, hasN, shl1, orN, andN, b2i_0, b2i_1, ↓reduceIte, Nat.reduceEqDiff, Nat.reduceLeDiff, li0, li1, li2, li3, li4, li5, li6, li7, li8, li9, li10, li12, li13, li15, li16, li20, li24, li32, li60, li63, li255, li300, li511, li1000, li1023, li4095, li8191, h.1, show nn N ≤ nn N - 1 + 1 by omega]
    | succ d ih =>
      intro n r hr' hn'
      obtain ⟨n, rfl⟩ : ∃ m, n = m + 1 := ⟨n - 1, by omega⟩
      have ih' := ih n (r + 1) (by omega) (by omega)
      rw [zl2_s]
      generalize zl2 (Fb_X1_spread_9 (nI (st p m g))) n = K at ih' ⊢
      unfold Fb_X1_spread_9 F_X1_spread_23
      rw [h.1, if_neg (by rw [leN (by omega) (by omega)]; omega), li0]
      have := l2 K (r + 1) (spr N ru (S_ ru m g) p r) (spr_lt hw hp r) (nn N) zF 0 (by omega) (zfl (by omega))
      rw [spl] at this
      rw [this]
      exact ih'
  unfold F_X1_spread F_X1_spread_9
  rw [X_marker (by omega), bdE, li1, shl1 (by omega), nmE]
  exact l1 (nn N - 1) zF 0 (by omega) (zfl (by omega))
def rfl_ (N : Nt) (ru p S : Nat) : Nat → Nat
  | 0 => 0
  | i + 1 => if mvB N ru i p S then rfl_ N ru p S i ||| spr N ru (nxt N ru i p S) (oth N i p) (nn N - 1) else rfl_ N ru p S i
theorem rf_tb (hw : nwf N) {p q : Nat} : ∀ i, i ≤ nk N → ((rfl_ N ru p S i).testBit q = true ↔ ∃ l, l < i ∧ mvB N ru l p S = true ∧ sreach N ru (nxt N ru l p S) (oth N l p) q)
  | 0, _ => by simp [rfl_]
  | i + 1, hi => by
    rw [rfl_]
    cases hm : mvB N ru i p S
    · rw [if_neg (by simp), rf_tb hw i (by omega)]
      constructor
      · rintro ⟨l, h1, h2⟩; exact ⟨l, by omega, h2⟩
      · rintro ⟨l, h1, h2, h3⟩
        by_cases e : l = i
        · subst e; rw [hm] at h2; cases h2
        · exact ⟨l, by omega, h2, h3⟩
    · rw [if_pos rfl, Nat.testBit_or, Bool.or_eq_true, rf_tb hw i (by omega), spr_iff hw (oth_lt hw (by omega) (mvB_at hm))]
      constructor
      · rintro (⟨l, h1, h2⟩ | h1)
        · exact ⟨l, by omega, h2⟩
        · exact ⟨i, by omega, hm, h1⟩
      · rintro ⟨l, h1, h2, h3⟩
        by_cases e : l = i
        · subst e; exact Or.inr h3
        · exact Or.inl ⟨l, by omega, h2, h3⟩
theorem X_reachFrom {p m g : Nat} (hw : nwf N) (h : RX 1 N σ) (hu : σ 3 3 0 = nI ru) (hr : ru < 5) (hp : p < nn N) (hm : m < 1024) (hg : g < 4096) : ∃ R, F_X1_reachFrom (nI (st p m g)) σ = some (nI R, σ) ∧ ∀ q, R.testBit q = true ↔ RS N ru p (S_ ru m g) q := by
  have hk := hw.2.2.1
  have hn := hw.2.1
  have hb := bs12 hw (fun l => mvB N ru l p (S_ ru m g))
  refine ⟨rfl_ N ru p (S_ ru m g) (nk N), ?_, fun q => rf_tb hw (nk N) (Nat.le_refl _)⟩
  have lp : ∀ (d n i : Nat), i + d = nk N → d < n → zl2 (Fb_X1_reachFrom_11 (nI (st p m g)) (nI (bset (nk N) (fun l => mvB N ru l p (S_ ru m g))))) n (nI (rfl_ N ru p (S_ ru m g) i)) (nI i) σ = some (nI (rfl_ N ru p (S_ ru m g) (nk N)), σ) := by
    intro d
    induction d with
    | zero =>
      intro n i hi hn'
      obtain ⟨n, rfl⟩ : ∃ m, n = m + 1 := ⟨n - 1, by omega⟩
      have e : i = nk N := by omega
      subst e
      rw [zl2_s]
      generalize zl2 (Fb_X1_reachFrom_11 (nI (st p m g)) (nI (bset (nk N) (fun l => mvB N ru l p (S_ ru m g))))) n = K
      unfold Fb_X1_reachFrom_11
      simp (disch := omega) only [ckN, ixN, nI_add, subN, mulN, eqN, leN, ltN, bdE, nmE, hasN, shl1, orN, andN, b2i_0, b2i_1, ↓reduceIte, Nat.reduceEqDiff, Nat.reduceLeDiff, li0, li1, li2, li3, li4, li5, li6, li7, li8, li9, li10, li12, li13, li15, li16, li20, li24, li32, li60, li63, li255, li300, li511, li1000, li1023, li4095, li8191, h.2.1, Nat.le_refl]
    | succ d ih =>
      intro n i hi hn'
      obtain ⟨n, rfl⟩ : ∃ m, n = m + 1 := ⟨n - 1, by omega⟩
      have hil : i < nk N := by omega
      have ih' := ih n (i + 1) (by omega) (by omega)
      rw [rfl_] at ih'
      rw [zl2_s]
      generalize zl2 (Fb_X1_reachFrom_11 (nI (st p m g)) (nI (bset (nk N) (fun l => mvB N ru l p (S_ ru m g))))) n = K at ih' ⊢
      unfold Fb_X1_reachFrom_11
      simp (disch := omega) only [ckN, ixN, nI_add, subN, mulN, eqN, leN, ltN, bdE, nmE, hasN, shl1, orN, andN, b2i_0, b2i_1, ↓reduceIte, Nat.reduceEqDiff, Nat.reduceLeDiff, li0, li1, li2, li3, li4, li5, li6, li7, li8, li9, li10, li12, li13, li15, li16, li20, li24, li32, li60, li63, li255, li300, li511, li1000, li1023, li4095, li8191, h.2.1, show ¬ nk N ≤ i by omega, bset_tb, hil, decide_true, Bool.true_and]
      cases hmv : mvB N ru i p (S_ ru m g)
      · rw [hmv] at ih'
        simp at ih' ⊢
        exact ih'
      · rw [hmv] at ih'
        have ha := mvB_at hmv
        have ho := oth_lt hw hil ha
        simp only [Bool.true_eq_false, if_false, if_true] at ih' ⊢
        rw [X_behind hw h (by omega) hm hg hil ha, bdE, X_spread hw h hu hr ho (or_lt (m := 10) hm (p2_lt (by omega))) (or_lt (m := 12) hg (p2_lt (by omega))), bdE, S_mv, orN]
        exact ih'
  unfold F_X1_reachFrom F_X1_reachFrom_11
  rw [X_movesFrom hw h hu hr (by omega) hm hg, bdE, li0]
  exact lp (nk N) zF 0 (by omega) (zfl (by omega))
end
