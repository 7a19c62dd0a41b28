/-! PURE: the calls, one by one: a game -/
section
variable {N : Nt} {L : Nat} {B : Nat → Nat} {σ τ σ' τ' : S3} {ru p0 k : Nat} {mv : Nat → Nat}
theorem gcase (h : Inv σ τ) {C C' : R3} (hc : ∀ N L B ru p0 mv k, IV N L B σ τ → JT N ru p0 σ → GO N ru p0 mv k σ τ → zst Inv C C') : zst Inv (if σ 6 0 0 = (0 : Int32) then bd (F_X8_fail 3 σ) (fun r s => some (r, s)) else C) (if τ 0 11 0 = (0 : Int32) then bd (F_X9_no 3 τ) (fun r s => some (r, s)) else C') := by
  have hi := h
  obtain ⟨N, L, B, hI, hG⟩ := h
  rcases hG with ⟨ru, h⟩ | ⟨ru, p0, mv, k, h1, h2⟩
  · rw [h.2.2.2.1, h.2.2.2.2.1, li0, if_pos rfl, if_pos rfl]
    exact err_b (j := 3) hi (by decide)
  · rw [h2.2.2.2.1.2.1, h2.2.2.2.2.1, li0, if_neg n1_0, if_neg n1_0]
    exact hc N L B ru p0 mv k hI h1 h2
theorem Inv_x (hI : IV N L B σ τ) (hG : GO N ru p0 mv k σ τ) (hx : xg σ σ') (hJ : JT N ru p0 σ') (ha : ag τ τ') (hM : MT N τ') : Inv σ' τ' :=
  Inv_g hI hG hJ hM (fun c h3 _ _ => xg_c hx h3) (fun f hf => ha f (by omega) (by omega) (by omega)) (by rw [hx 4 2 (by omega), ha 17 (by decide) (by decide) (by decide)]; exact hI.2.2.2.2.2.2.1)
theorem k12 (hI : IV N L B σ τ) (hG : GO N ru p0 mv k σ τ) : k ≤ 12 := by
  have := GL_rm hI.1 k hG.2.2.1
  omega
theorem X_stand (hk : k ≤ 12) (hG : GO N ru p0 mv k σ τ) : F_X0_stand σ = some (nI (stt (gp N p0 mv k)), σ) := by
  unfold F_X0_stand
  rw [hG.2.2.2.1.2.2.1, ckN (by omega) (by omega), ixN (by omega), hG.2.2.2.1.2.2.2.2 k (Nat.le_refl k)]
theorem X_isOver (hI : IV N L B σ τ) (hJ : JT N ru p0 σ) (hG : GO N ru p0 mv k σ τ) : F_X8_isOver σ = some (b2i (decide (oM N ru (gp N p0 mv k).1 (gp N p0 mv k).2.1 (gp N p0 mv k).2.2 = 0)), σ) := by
  have hP := GO_PS hI hJ hG
  have hj := hP.2.2.1
  have hn := hI.1.2.1
  have hb : bset (nk N) (fun l => mvB N ru l (gp N p0 mv k).1 (S_ ru (gp N p0 mv k).2.1 (gp N p0 mv k).2.2)) < 4096 := bs12 hI.1 _
  unfold F_X8_isOver
  rw [X_stand (k12 hI hG) hG, bdE, X_movesFrom hI.1 hI.2.1 (JT_ru hJ) hG.1 (by have := hj.1; omega) hj.2.1 hj.2.2.1, bdE]
  by_cases e : oM N ru (gp N p0 mv k).1 (gp N p0 mv k).2.1 (gp N p0 mv k).2.2 = 0
  · rw [if_pos (by rw [show bset (nk N) (fun l => mvB N ru l (gp N p0 mv k).1 (S_ ru (gp N p0 mv k).2.1 (gp N p0 mv k).2.2)) = 0 from e]; rfl), decide_eq_true e]; rfl
  · rw [if_neg (by rw [li0, eqN (by omega) (by omega)]; exact e), decide_eq_false e]; rfl
theorem X_turnTo {r : Nat} (h : JF σ) : ∃ σ', F_X1_turnTo (nI r) σ = some (nI 0, σ') ∧ (∀ N p0, nwf N → JT N r p0 σ') ∧ ∀ c, c ≠ 3 → σ' c = σ c := by
  obtain ⟨t, h1, h2, h3⟩ := h
  unfold F_X1_turnTo
  rw [nmE, up_f (show 2 ≠ 3 by decide), h1, nmE, li1, nI_add]
  have e32 : (up (up σ 3 3 0 (nI r)) 3 2 0 (nI (t + 1))) 3 2 0 = nI (t + 1) := up_at
  rw [e32, show (1048576 : Int32) = nI 1048576 from rfl]
  by_cases c : t + 1 < 1048576
  · rw [if_pos (by rw [ltN (by omega) (by omega)]; exact c)]
    refine ⟨_, by rw [li0], ?_, fun c h => by rw [up_c h, up_c h]⟩
    intro N p0 hw
    refine ⟨t + 1, up_at, c, by rw [up_f (by decide), up_at], ?_, ?_⟩
    · rw [up_f (by decide), up_f (by decide)]
      intro k hk
      obtain ⟨w, e, hl⟩ := h3 k hk
      exact ⟨w, e, by omega⟩
    · rw [up_f (by decide), up_f (by decide)]
      intro p m g hj
      obtain ⟨w, e, hl⟩ := h3 _ (jk_lt hw hj)
      exact Or.inr ⟨w, e, hl⟩
  · rw [if_neg (by rw [ltN (by omega) (by omega)]; exact c), nmE, nmE]
    refine ⟨_, by rw [li0], ?_, fun c h => by unfold fillA; rw [up_c h, upA_c h, up_c h, up_c h]⟩
    intro N p0 hw
    refine ⟨1, up_at, by omega, by unfold fillA; rw [up_f (by decide), upA_f (by decide), up_f (by decide), up_at], ?_, ?_⟩
    · unfold fillA
      rw [up_f (by decide), upA_s]
      intro k hk
      exact ⟨0, by simp [hk], by omega⟩
    · unfold fillA
      rw [up_f (by decide), upA_s]
      intro p m g hj
      exact Or.inr ⟨0, by simp [jk_lt hw hj], by omega⟩
def goT (N : Nt) (l p m g k : Nat) (τ : S3) : S3 := up (up (up (up (up τ 0 14 0 (nI (oth N l p))) 0 15 0 (nI (m ||| 2 ^ oth N l p))) 0 16 0 (nI (g ||| 2 ^ l))) 0 18 k (nI l)) 0 19 0 (nI (k + 1))
theorem M_goes {l p m g : Nat} (hw : nwf N) (hM : RM N τ) (h14 : τ 0 14 0 = nI p) (h15 : τ 0 15 0 = nI m) (h16 : τ 0 16 0 = nI g) (h19 : τ 0 19 0 = nI k) (hk : k < 12) (hl : l < nk N) (ha : atB N l p = true) : F_X9_goes (nI l) τ = some (nI 0, goT N l p m g k τ) := by
  have hn := hw.2.1
  have hk2 := hw.2.2.1
  have ho := oth_lt hw hl ha
  unfold F_X9_goes goT
  rw [h14, M_otherOf hw hM hl ha, bdE, nmE, up_f (show 15 ≠ 14 by decide), h15, up_at, li1, shl1 (by omega), orN, nmE, up_f (show 16 ≠ 15 by decide), up_f (show 16 ≠ 14 by decide), h16, shl1 (by omega), orN, nmE, up_f (show 19 ≠ 16 by decide), up_f (show 19 ≠ 15 by decide), up_f (show 19 ≠ 14 by decide), h19, ckN (by omega) (by omega), ixN (by omega), nmE, up_f (show 19 ≠ 18 by decide), up_f (show 19 ≠ 16 by decide), up_f (show 19 ≠ 15 by decide), up_f (show 19 ≠ 14 by decide), h19, nI_add, nmE, li0]
theorem goT_f {l p m g k f : Nat} (h : f ≠ 14 ∧ f ≠ 15 ∧ f ≠ 16 ∧ f ≠ 18 ∧ f ≠ 19) : goT N l p m g k τ 0 f = τ 0 f := by
  unfold goT
  rw [up_f h.2.2.2.2, up_f h.2.2.2.1, up_f h.2.2.1, up_f h.2.1, up_f h.1]
theorem goT_18 {l p m g k : Nat} : goT N l p m g k τ 0 18 = upd (τ 0 18) k (nI l) := by
  unfold goT
  rw [up_f (by decide), up_s, up_f (by decide), up_f (by decide), up_f (by decide)]
/-- the reference's game -/
def GRf (N : Nt) (ru p0 : Nat) (mv : Nat → Nat) (k : Nat) (τ : S3) : Prop := τ 0 13 0 = nI p0 ∧ MP ru (gp N p0 mv k).1 (gp N p0 mv k).2.1 (gp N p0 mv k).2.2 τ ∧ τ 0 19 0 = nI k ∧ ∀ i, i < k → τ 0 18 i = nI (mv i)
theorem ex_lt {mv : Nat → Nat} {k l i : Nat} (h : i < k) : ex mv k l i = mv i := by unfold ex; rw [if_neg (by omega)]
theorem ex_at {mv : Nat → Nat} {k l : Nat} : ex mv k l k = l := by unfold ex; rw [if_pos rfl]
theorem gp_ex {l : Nat} : gp N p0 (ex mv k l) k = gp N p0 mv k := gp_c k (fun i hi => ex_lt hi)
theorem gp_ex1 {l : Nat} : gp N p0 (ex mv k l) (k + 1) = (oth N l (gp N p0 mv k).1, (gp N p0 mv k).2.1 ||| 2 ^ oth N l (gp N p0 mv k).1, (gp N p0 mv k).2.2 ||| 2 ^ l) := by rw [gp, gp_ex, ex_at]
theorem GL_ex {l : Nat} (h : GL N ru p0 mv k) (hl : l < nk N) (hm : mvB N ru l (gp N p0 mv k).1 (gS N ru p0 mv k) = true) : GL N ru p0 (ex mv k l) (k + 1) := by
  intro i hi
  by_cases e : i = k
  · subst e
    unfold gS
    rw [gp_ex, ex_at]
    exact ⟨hl, hm⟩
  · have := GL_c (mv' := ex mv k l) (fun i hi => (ex_lt hi).symm) h i (by omega)
    exact this
theorem GRf_go {l : Nat} (hG : GRf N ru p0 mv k τ) : GRf N ru p0 (ex mv k l) (k + 1) (goT N l (gp N p0 mv k).1 (gp N p0 mv k).2.1 (gp N p0 mv k).2.2 k τ) := by
  refine ⟨by rw [goT_f (by decide)]; exact hG.1, ⟨by rw [goT_f (by decide)]; exact hG.2.1.1, ?_, ?_, ?_⟩, ?_, ?_⟩
  · rw [gp_ex1]; unfold goT; rw [up_f (by decide), up_f (by decide), up_f (by decide), up_f (by decide), up_at]
  · rw [gp_ex1]; unfold goT; rw [up_f (by decide), up_f (by decide), up_f (by decide), up_at]
  · rw [gp_ex1]; unfold goT; rw [up_f (by decide), up_f (by decide), up_at]
  · unfold goT; rw [up_at]
  · intro i hi
    rw [goT_18]
    by_cases e : i = k
    · subst e; rw [upd_s, ex_at]
    · rw [upd_n e, ex_lt (by omega)]; exact hG.2.2.2 i (by omega)
theorem M_go (hw : nwf N) (hM : RM N τ) (hG : GRf N ru p0 mv k τ) {l : Nat} (hk : k < 12) (hl : l < nk N) (ha : atB N l (gp N p0 mv k).1 = true) : ∃ τ', F_X9_goes (nI l) τ = some (nI 0, τ') ∧ GRf N ru p0 (ex mv k l) (k + 1) τ' ∧ (∀ f, f ≠ 14 ∧ f ≠ 15 ∧ f ≠ 16 ∧ f ≠ 18 ∧ f ≠ 19 → τ' 0 f = τ 0 f) ∧ τ' 0 18 = upd (τ 0 18) k (nI l) :=
  ⟨_, M_goes hw hM hG.2.1.2.1 hG.2.1.2.2.1 hG.2.1.2.2.2 hG.2.2.1 hk hl ha, GRf_go hG, fun _ h => goT_f h, goT_18⟩
theorem ex_id {i : Nat} : ex mv i (mv i) = mv := by
  funext j
  unfold ex
  by_cases h : j = i
  · rw [if_pos h, h]
  · rw [if_neg h]
theorem M_goesBack (hw : nwf N) (hM : RM N τ) (hp : p0 < nn N) (hL : GL N ru p0 mv (k + 1)) (hk : k + 1 ≤ 12) (hG : GRf N ru p0 mv (k + 1) τ) : ∃ τ', F_X9_goesBack τ = some (nI 0, τ') ∧ GRf N ru p0 mv k τ' ∧ ∀ f, f < 12 ∨ f = 17 ∨ 19 < f → τ' 0 f = τ 0 f := by
  have hn := hw.2.1
  have lp : ∀ (d n i : Nat) (s : S3), i + d = k → d < n → RM N s → GRf N ru p0 mv i s → (∀ j, j < k → s 0 18 j = nI (mv j)) → ∃ τ', zl1 (Fb_X9_goesBack_21 (nI k)) n (nI i) s = some (nI 0, τ') ∧ GRf N ru p0 mv k τ' ∧ ∀ f, f < 12 ∨ f = 17 ∨ 19 < f → τ' 0 f = s 0 f := by
    intro d
    induction d with
    | zero =>
      intro n i s hi hn' hM2 hG2 h18
      obtain ⟨n, rfl⟩ : ∃ m, n = m + 1 := ⟨n - 1, by omega⟩
      have e : i = k := by omega
      subst e
      refine ⟨s, ?_, hG2, fun _ _ => rfl⟩
      rw [zl1_s]
      generalize zl1 (Fb_X9_goesBack_21 (nI i)) n = K
      unfold Fb_X9_goesBack_21
      rw [if_pos (Int32.le_refl _), li0]
    | succ d ih =>
      intro n i s hi hn' hM2 hG2 h18
      obtain ⟨n, rfl⟩ : ∃ m, n = m + 1 := ⟨n - 1, by omega⟩
      have hl := hL i (by omega)
      obtain ⟨s', e1, e2, e3, e4⟩ := M_go hw hM2 hG2 (l := mv i) (by omega) hl.1 (mvB_at hl.2)
      rw [ex_id] at e2
      obtain ⟨τ', f1, f2, f3⟩ := ih n (i + 1) s' (by omega) (by omega) (RM_fr hM2 (fun f _ _ => e3 f (by omega))) e2 (by
        intro j hj
        rw [e4]
        by_cases e : j = i
        · subst e; rw [upd_s]
        · rw [upd_n e]; exact h18 j hj)
      refine ⟨τ', ?_, f2, fun f hf => by rw [f3 f hf, e3 f (by omega)]⟩
      rw [zl1_s]
      generalize zl1 (Fb_X9_goesBack_21 (nI k)) n = K at f1 ⊢
      unfold Fb_X9_goesBack_21
      rw [if_neg (by rw [leN (by omega) (by omega)]; omega), ckN (by omega) (by omega), ixN (by omega), h18 i (by omega), e1, bdE, nmE, li1, nI_add]
      exact f1
  obtain ⟨τ', f1, f2, f3⟩ := lp k zF 0 (up (up (up (up (up (up τ 0 12 0 (nI ru)) 0 13 0 (nI p0)) 0 14 0 (nI p0)) 0 15 0 (nI (2 ^ p0))) 0 16 0 (nI 0)) 0 19 0 (nI 0)) (by omega) (zfl (by omega)) (RM_fr hM (fun f _ _ => by rw [up_f (by omega), up_f (by omega), up_f (by omega), up_f (by omega), up_f (by omega), up_f (by omega)])) ⟨by rw [up_f (by decide), up_f (by decide), up_f (by decide), up_f (by decide), up_at], ⟨by rw [up_f (by decide), up_f (by decide), up_f (by decide), up_f (by decide), up_f (by decide), up_at], by rw [up_f (by decide), up_f (by decide), up_f (by decide), up_at]; rfl, by rw [up_f (by decide), up_f (by decide), up_at]; rfl, by rw [up_f (by decide), up_at]; rfl⟩, by rw [up_at], fun i hi => absurd hi (by omega)⟩ (by
    intro j hj
    rw [up_f (by decide), up_f (by decide), up_f (by decide), up_f (by decide), up_f (by decide), up_f (by decide)]
    exact hG.2.2.2 j (by omega))
  refine ⟨τ', ?_, f2, fun f hf => by rw [f3 f hf, up_f (by omega), up_f (by omega), up_f (by omega), up_f (by omega), up_f (by omega), up_f (by omega)]⟩
  unfold F_X9_goesBack F_X9_beginsAt F_X9_goesBack_21
  rw [hG.2.2.1, hG.2.1.1, hG.1, li1, subN (by omega), Nat.add_sub_cancel, shl1 (by omega)]
  simp only [nmE, bdE]
  rw [li0]
  exact f1
theorem o_begin (h : Inv σ τ) (a0 a1 : Int32) : zst Inv (F_X8_begin a0 a1 σ) (F_X9_begin a0 a1 τ) := by
  have hi := h
  obtain ⟨N, L, B, hI, hG⟩ := h
  have hw := hI.1
  have hX := hI.2.1
  have hM := hI.2.2.1
  have hn := hw.2.1
  have hJF : JF σ := by
    rcases hG with ⟨ru, h⟩ | ⟨ru, p0, mv, k, h1, h2⟩
    · exact h.2.2.2.2.2
    · exact JT_JF h1
  unfold F_X8_begin F_X9_begin
  rw [X_isRule, bdE, show (4 : Int32) = nI 4 from rfl, M_in0 _ (by omega), bdE]
  cases hb : inB a0 (4 + 1)
  · rw [bf0, if_pos rfl, if_pos rfl]; exact err_b (j := 1) hi (by decide)
  · rw [if_neg bt0, if_neg bt0, X_hasPoint hX, bdE, M_isPoint hw hM, bdE]
    cases hb1 : inB a1 (nn N)
    · rw [bf0, if_pos rfl, if_pos rfl]; exact err_b (j := 1) hi (by decide)
    · rw [if_neg bt0, if_neg bt0]
      obtain ⟨r, hr, er⟩ := inB_t (by omega) hb
      obtain ⟨p, hp, ep⟩ := inB_t (by omega) hb1
      subst er ep
      obtain ⟨σ1, x1, x2, x3⟩ := X_turnTo (r := r) hJF
      have hr5 : r < 5 := hr
      -- the new states
      have hI1 : IV N L B (up (up (up (up σ1 6 0 0 1) 6 1 0 (nI r)) 6 2 0 0) 6 4 0 (nI (st p (2 ^ p) 0))) (up (up (up (up (up (up (up τ 0 11 0 1) 0 12 0 (nI r)) 0 13 0 (nI p)) 0 14 0 (nI p)) 0 15 0 (nI (2 ^ p))) 0 16 0 0) 0 19 0 0) := by
        have ht : ∀ f, f ≠ 11 → f ≠ 12 → f ≠ 13 → f ≠ 14 → f ≠ 15 → f ≠ 16 → f ≠ 19 → (up (up (up (up (up (up (up τ 0 11 0 1) 0 12 0 (nI r)) 0 13 0 (nI p)) 0 14 0 (nI p)) 0 15 0 (nI (2 ^ p))) 0 16 0 0) 0 19 0 0) 0 f = τ 0 f := fun f a b c d e g i => by rw [up_f i, up_f g, up_f e, up_f d, up_f c, up_f b, up_f a]
        refine IV_fr hI (fun c h3 _ _ h6 => by rw [up_c h6, up_c h6, up_c h6, up_c h6, x3 c h3]) (fun f hf => ht f (by omega) (by omega) (by omega) (by omega) (by omega) (by omega) (by omega)) ?_ (MT_f hI.2.2.2.1 (ht 20 (by decide) (by decide) (by decide) (by decide) (by decide) (by decide) (by decide)) (ht 21 (by decide) (by decide) (by decide) (by decide) (by decide) (by decide) (by decide)) (ht 22 (by decide) (by decide) (by decide) (by decide) (by decide) (by decide) (by decide)))
        rw [ht 17 (by decide) (by decide) (by decide) (by decide) (by decide) (by decide) (by decide), up_c (by decide), up_c (by decide), up_c (by decide), up_c (by decide), x3 4 (by decide)]
        exact hI.2.2.2.2.2.2.1
      have hJ1 : JT N r p (up (up (up (up σ1 6 0 0 1) 6 1 0 (nI r)) 6 2 0 0) 6 4 0 (nI (st p (2 ^ p) 0))) := JT_c (x2 N p hw) (by rw [up_c (by decide), up_c (by decide), up_c (by decide), up_c (by decide)])
      have hG1 : GO N r p (fun _ => 0) 0 (up (up (up (up σ1 6 0 0 1) 6 1 0 (nI r)) 6 2 0 0) 6 4 0 (nI (st p (2 ^ p) 0))) (up (up (up (up (up (up (up τ 0 11 0 1) 0 12 0 (nI r)) 0 13 0 (nI p)) 0 14 0 (nI p)) 0 15 0 (nI (2 ^ p))) 0 16 0 0) 0 19 0 0) := by
        refine ⟨hr5, hp, fun i hi => absurd hi (Nat.not_lt_zero i), ⟨?_, ?_, ?_, fun i hi => absurd hi (Nat.not_lt_zero i), ?_⟩, ?_, ?_, ⟨?_, ?_, ?_, ?_⟩, ?_, fun i hi => absurd hi (Nat.not_lt_zero i)⟩
        · rw [up_f (by decide), up_f (by decide), up_at]
        · rw [up_f (by decide), up_f (by decide), up_f (by decide), up_at]; rfl
        · rw [up_f (by decide), up_at]; rfl
        · intro i hi
          have : i = 0 := by omega
          subst this
          rw [up_at]; rfl
        · rw [up_f (by decide), up_f (by decide), up_f (by decide), up_f (by decide), up_f (by decide), up_f (by decide), up_at]; rfl
        · rw [up_f (by decide), up_f (by decide), up_f (by decide), up_f (by decide), up_at]
        · rw [up_f (by decide), up_f (by decide), up_f (by decide), up_f (by decide), up_f (by decide), up_at]
        · rw [up_f (by decide), up_f (by decide), up_f (by decide), up_at]; rfl
        · rw [up_f (by decide), up_f (by decide), up_at]; rfl
        · rw [up_f (by decide), up_at]; rfl
        · rw [up_at]; rfl
      have hP := GO_PS hI1 hJ1 hG1
      obtain ⟨σ2, a1, a2, a3⟩ := X_wins hw hP.1 hr5 hJ1 hP.2.2.1
      obtain ⟨τ2, b1, b2, b3⟩ := M_winsAt hw hP.2.2.2.1 hP.2.2.2.2.2.1.1 hr5 hP.2.2.2.2.1 (p := p) (S := S_ r (2 ^ p) 0) hp (S_lt (p2_lt (m := 10) (by omega)) (by omega))
      have hfin := Inv_x hI1 hG1 a2 a3 b2 b3
      have hst := X_stand (by omega) hG1
      have hset := M_setNow hr5 hP.2.2.2.2.2.1
      rw [x1, bdE, X_atFirst (by omega), bdE]
      unfold F_X0_start F_X9_beginsAt
      simp only [nmE]
      rw [show ck (0 : Int32) 13 = ck (nI 0) 13 from rfl, ckN (by omega) (by omega), show ix (0 : Int32) = 0 from rfl, li1, shl1 (by omega), bdE, bdE]
      have hst' : F_X0_stand (up (up (up (up σ1 6 0 0 (nI 1)) 6 1 0 (nI r)) 6 2 0 0) 6 4 0 (nI (st p (2 ^ p) 0))) = some (nI (st p (2 ^ p) 0), up (up (up (up σ1 6 0 0 (nI 1)) 6 1 0 (nI r)) 6 2 0 0) 6 4 0 (nI (st p (2 ^ p) 0))) := hst
      have a1' : F_X1_wins (nI (st p (2 ^ p) 0)) (up (up (up (up σ1 6 0 0 (nI 1)) 6 1 0 (nI r)) 6 2 0 0) 6 4 0 (nI (st p (2 ^ p) 0))) = some (b2i (val N r p (S_ r (2 ^ p) 0)).1, σ2) := a1
      have hset' : F_X9_setNow (up (up (up (up (up (up (up τ 0 11 0 (nI 1)) 0 12 0 (nI r)) 0 13 0 (nI p)) 0 14 0 (nI p)) 0 15 0 (nI (2 ^ p))) 0 16 0 0) 0 19 0 0) = some (nI (S_ r (2 ^ p) 0), up (up (up (up (up (up (up τ 0 11 0 (nI 1)) 0 12 0 (nI r)) 0 13 0 (nI p)) 0 14 0 (nI p)) 0 15 0 (nI (2 ^ p))) 0 16 0 0) 0 19 0 0) := hset
      have h14 : (up (up (up (up (up (up (up τ 0 11 0 (nI 1)) 0 12 0 (nI r)) 0 13 0 (nI p)) 0 14 0 (nI p)) 0 15 0 (nI (2 ^ p))) 0 16 0 0) 0 19 0 0) 0 14 0 = nI p := hP.2.2.2.2.2.1.2.1
      have b1' : F_X9_winsAt (nI p) (nI (S_ r (2 ^ p) 0)) (up (up (up (up (up (up (up τ 0 11 0 (nI 1)) 0 12 0 (nI r)) 0 13 0 (nI p)) 0 14 0 (nI p)) 0 15 0 (nI (2 ^ p))) 0 16 0 0) 0 19 0 0) = some (b2i (val N r p (S_ r (2 ^ p) 0)).1, τ2) := b1
      rw [hst', bdE, a1', bdE, hset', bdE, h14, b1', bdE]
      cases (val N r p (S_ r (2 ^ p) 0)).1
      · rw [bf0, if_pos rfl, if_pos rfl]; exact ret_b hfin _
      · rw [if_neg bt0, if_neg bt0]; exact ret_b hfin _
/-- a move is made on both sides -/
theorem adv_b (hI : IV N L B σ τ) (hJ : JT N ru p0 σ) (hG : GO N ru p0 mv k σ τ) {l : Nat} (hl : l < nk N) (hm : mvB N ru l (gp N p0 mv k).1 (gS N ru p0 mv k) = true) : ∃ σ' τ', F_X0_advance (nI l) (nI (st (oth N l (gp N p0 mv k).1) ((gp N p0 mv k).2.1 ||| 2 ^ oth N l (gp N p0 mv k).1) ((gp N p0 mv k).2.2 ||| 2 ^ l))) σ = some (nI 0, σ') ∧ F_X9_goes (nI l) τ = some (nI 0, τ') ∧ IV N L B σ' τ' ∧ JT N ru p0 σ' ∧ GO N ru p0 (ex mv k l) (k + 1) σ' τ' := by
  have hw := hI.1
  have hrm := GL_rm hw k hG.2.2.1
  have hmv := rm_mv hw hl hm
  have hk : k < 12 := by omega
  obtain ⟨g1, g2, g3, ⟨g4, g5, g6, g7, g8⟩, g9, gR⟩ := hG
  obtain ⟨τ', e1, e2, e3, e4⟩ := M_go hw hI.2.2.1 gR hk hl (mvB_at hm)
  refine ⟨up (up (up σ 6 3 k (nI l)) 6 2 0 (nI (k + 1))) 6 4 (k + 1) (nI (stt (gp N p0 (ex mv k l) (k + 1)))), τ', ?_, e1, ?_, ?_, ?_⟩
  · unfold F_X0_advance
    rw [g6, li12, if_neg (by rw [leN (by omega) (by omega)]; omega), ckN (by omega) (by omega), ixN (by omega), nmE, up_f (show 2 ≠ 3 by decide), g6, li1, nI_add, nmE, up_at, ckN (by omega) (by omega), ixN (by omega), nmE, li0, gp_ex1]
  · refine IV_fr hI (fun c _ _ _ h6 => by rw [up_c h6, up_c h6, up_c h6]) (fun f hf => e3 f (by omega)) ?_ (MT_f hI.2.2.2.1 (e3 20 (by decide)) (e3 21 (by decide)) (e3 22 (by decide)))
    rw [up_c (by decide), up_c (by decide), up_c (by decide), e3 17 (by decide)]
    exact hI.2.2.2.2.2.2.1
  · exact JT_c hJ (by rw [up_c (by decide), up_c (by decide), up_c (by decide)])
  · refine ⟨g1, g2, GL_ex g3 hl hm, ⟨?_, ?_, ?_, ?_, ?_⟩, ?_, e2⟩
    · rw [up_f (by decide), up_f (by decide), up_f (by decide)]; exact g4
    · rw [up_f (by decide), up_f (by decide), up_f (by decide)]; exact g5
    · rw [up_f (by decide), up_at]
    · intro i hi
      rw [up_f (by decide), up_f (by decide), up_s]
      by_cases e : i = k
      · subst e; rw [upd_s, ex_at]
      · rw [upd_n e, ex_lt (by omega)]; exact g7 i (by omega)
    · intro i hi
      rw [up_s, up_f (by decide), up_f (by decide)]
      by_cases e : i = k + 1
      · subst e; rw [upd_s]
      · rw [upd_n e, gp_c (mv' := mv) i (fun j hj => ex_lt (by omega))]
        exact g8 i (by omega)
    · rw [e3 11 (by decide)]; exact g9
theorem o_go (h : Inv σ τ) (a0 : Int32) : zst Inv (F_X8_go a0 σ) (F_X9_go a0 τ) := by
  have hi := h
  unfold F_X8_go F_X9_go
  refine gcase h ?_
  intro N L B ru p0 mv k hI hJ hG
  have hw := hI.1
  have hn := hw.2.1
  have hk2 := hw.2.2.1
  have hP := GO_PS hI hJ hG
  have hj := hP.2.2.1
  have hob : bset (nk N) (fun l => mvB N ru l (gp N p0 mv k).1 (S_ ru (gp N p0 mv k).2.1 (gp N p0 mv k).2.2)) < 4096 := bs12 hw _
  rw [X_isOver hI hJ hG, bdE, M_isOver hw hI.2.2.1 hG.1 hP.2.2.2.2.2.1 hj.1 hj.2.1 hj.2.2.1, bdE]
  cases hov : decide (oM N ru (gp N p0 mv k).1 (gp N p0 mv k).2.1 (gp N p0 mv k).2.2 = 0)
  · rw [bf0, if_pos rfl, if_pos rfl, X_hasLine hI.2.1, bdE, M_isLine hw hI.2.2.1, bdE]
    cases hb : inB a0 (nk N)
    · rw [bf0, if_pos rfl, if_pos rfl]; exact err_b (j := 1) hi (by decide)
    · obtain ⟨l, hl, el⟩ := inB_t (by omega) hb
      subst el
      rw [if_neg bt0, if_neg bt0, X_stand (k12 hI hG) hG, bdE, X_movesFrom hw hI.2.1 (JT_ru hJ) hG.1 (by have := hj.1; omega) hj.2.1 hj.2.2.1, bdE, M_movesNow hw hI.2.2.1 hG.1 hP.2.2.2.2.2.1 hj.1 hj.2.1 hj.2.2.1, bdE, M_has (by omega) (by omega), bdE, li1, hasN (by omega) (by omega), bset_tb]
      simp only [hl, decide_true, Bool.true_and]
      cases hmv : mvB N ru l (gp N p0 mv k).1 (S_ ru (gp N p0 mv k).2.1 (gp N p0 mv k).2.2)
      · rw [bf0, if_pos rfl, if_pos rfl]; exact err_b (j := 2) hi (by decide)
      · obtain ⟨σ', τ', e1, e2, e3, e4, e5⟩ := adv_b hI hJ hG hl hmv
        have hP' := GO_PS e3 e4 e5
        have hj' := hP'.2.2.1
        rw [if_neg bt0, if_neg bt0, X_stand (k12 hI hG) hG, bdE, X_behind hw hI.2.1 (by have := hj.1; omega) hj.2.1 hj.2.2.1 hl (mvB_at hmv), bdE, e1, bdE, X_isOver e3 e4 e5, bdE, e2, bdE, M_isOver hw e3.2.2.1 hG.1 hP'.2.2.2.2.2.1 hj'.1 hj'.2.1 hj'.2.2.1, bdE]
        have hfin : Inv σ' τ' := ⟨N, L, B, e3, Or.inr ⟨ru, p0, _, _, e4, e5⟩⟩
        cases decide (oM N ru (gp N p0 (ex mv k l) (k + 1)).1 (gp N p0 (ex mv k l) (k + 1)).2.1 (gp N p0 (ex mv k l) (k + 1)).2.2 = 0)
        · rw [bf0, if_pos rfl, if_pos rfl]; exact ret_b hfin _
        · rw [if_neg bt0, if_neg bt0]; exact ret_b hfin _
  · rw [if_neg bt0, if_neg bt0]; exact err_b (j := 3) hi (by decide)
theorem o_back (h : Inv σ τ) : zst Inv (F_X8_back σ) (F_X9_back τ) := by
  have hi := h
  unfold F_X8_back F_X9_back
  refine gcase h ?_
  intro N L B ru p0 mv k hI hJ hG
  have hw := hI.1
  have hk := k12 hI hG
  obtain ⟨g1, g2, g3, ⟨g4, g5, g6, g7, g8⟩, g9, gR⟩ := hG
  rw [g6, gR.2.2.1, li0]
  cases k with
  | zero => rw [if_pos rfl, if_pos rfl]; exact err_b (j := 2) hi (by decide)
  | succ k =>
    obtain ⟨τ', e1, e2, e3⟩ := M_goesBack hw hI.2.2.1 g2 g3 hk gR
    have hne : ¬ nI (k + 1) = nI 0 := by rw [eqN (by omega) (by omega)]; omega
    rw [if_neg hne, if_neg hne, nmE, li1, subN (by omega), Nat.add_sub_cancel, up_at, e1, bdE, e2.2.2.1]
    refine ⟨_, _, _, rfl, rfl, N, L, B, ?_, Or.inr ⟨ru, p0, mv, k, JT_c hJ (up_c (by decide)), g1, g2, fun i hi => g3 i (by omega), ⟨?_, ?_, ?_, ?_, ?_⟩, ?_, e2⟩⟩
    · refine IV_fr hI (fun c _ _ _ h6 => up_c h6) (fun f hf => e3 f (by omega)) ?_ (MT_f hI.2.2.2.1 (e3 20 (by omega)) (e3 21 (by omega)) (e3 22 (by omega)))
      rw [up_c (by decide), e3 17 (by omega)]
      exact hI.2.2.2.2.2.2.1
    · rw [up_f (by decide)]; exact g4
    · rw [up_f (by decide)]; exact g5
    · rw [up_at]
    · intro i hi; rw [up_f (by decide)]; exact g7 i (by omega)
    · intro i hi; rw [up_f (by decide)]; exact g8 i (by omega)
    · rw [e3 11 (by omega)]; exact g9
theorem M_mover (h : τ 0 19 0 = nI k) (hk : k ≤ 12) : F_X9_mover τ = some (nI (k % 2), τ) := by
  unfold F_X9_mover
  rw [h, li2, pk_rem (by omega) (by omega) (by omega)]
/-- who wins, by both -/
theorem winner_b {p m g : Nat} (hw : nwf N) (hr : ru < 5) (hs : PS N ru p0 p m g σ τ) (h19 : τ 0 19 0 = nI k) (hk : k ≤ 12) : ∃ r σ' τ', F_X1_winner (nI (st p m g)) (nI (k % 2)) σ = some (r, σ') ∧ F_X9_winner τ = some (r, τ') ∧ xg σ σ' ∧ ag τ τ' ∧ PS N ru p0 p m g σ' τ' := by
  obtain ⟨hX, hJ, hj, hM, hT, hP, hz⟩ := hs
  have hs : PS N ru p0 p m g σ τ := ⟨hX, hJ, hj, hM, hT, hP, hz⟩
  obtain ⟨σ2, a1, a2, a3⟩ := X_wins hw hX hr hJ hj
  obtain ⟨τ2, b1, b2, b3⟩ := M_winsAt hw hM hP.1 hr hT (p := p) (S := S_ ru m g) hj.1 (S_lt hj.2.1 hj.2.2.1)
  have h19' : τ2 0 19 0 = nI k := by rw [b2 19 (by decide) (by decide) (by decide)]; exact h19
  refine ⟨if (val N ru p (S_ ru m g)).1 then nI (k % 2) else 1 - nI (k % 2), σ2, τ2, ?_, ?_, a2, b2, PS_m (PS_x hs a2 a3) b2 b3⟩
  · unfold F_X1_winner
    rw [a1, bdE]
    cases (val N ru p (S_ ru m g)).1
    · rw [bf0, if_pos rfl]; rfl
    · rw [if_neg bt0]; rfl
  · unfold F_X9_winner
    rw [M_setNow hr hP, bdE, hP.2.1, b1, bdE, M_mover h19' hk, bdE, bdE]
    cases (val N ru p (S_ ru m g)).1
    · rw [bf0, if_pos rfl]; rfl
    · rw [if_neg bt0]; rfl
end
