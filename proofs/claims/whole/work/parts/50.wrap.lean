/-! PURE: what the judge says, what the reference says -/
def JT (N : Nt) (ru p0 : Nat) (σ : S3) : Prop := ∃ t, σ 3 2 0 = nI t ∧ t < 1048576 ∧ σ 3 3 0 = nI ru ∧ JB t (σ 3 1) ∧ JM N ru p0 t (σ 3 1)
theorem JT_ru {N : Nt} {ru p0 : Nat} {σ : S3} (h : JT N ru p0 σ) : σ 3 3 0 = nI ru := by obtain ⟨t, _, _, h, _⟩ := h; exact h
theorem JT_c {N : Nt} {ru p0 : Nat} {σ σ' : S3} (h : JT N ru p0 σ) (e : σ' 3 = σ 3) : JT N ru p0 σ' := by
  unfold JT at h ⊢
  rw [e]
  exact h
/-- the judge's findings may differ -/
def xg (σ σ' : S3) : Prop := ∀ c f, ¬ (c = 3 ∧ f = 1) → σ' c f = σ c f
theorem xg_rf (σ : S3) : xg σ σ := fun _ _ _ => rfl
theorem xg_tr {a b c : S3} (h1 : xg a b) (h2 : xg b c) : xg a c := fun x f h => (h2 x f h).trans (h1 x f h)
theorem xg_up (σ : S3) (F : Nat → Int32) : xg σ (upA σ 3 1 F) := by
  intro c f h
  by_cases e : c = 3
  · subst e
    exact upA_f (fun e => h ⟨rfl, e⟩)
  · rw [upA_c e]
theorem xg_c {σ σ' : S3} (h : xg σ σ') {c : Nat} (hc : c ≠ 3) : σ' c = σ c := funext (fun f => h c f (fun e => hc e.1))
theorem RX_g {c : Nat} {N : Nt} {σ σ' : S3} (h : xg σ σ') (hc : c ≠ 3) (hr : RX c N σ) : RX c N σ' := RX_c (xg_c h hc) hr
section
variable {N : Nt} {σ τ : S3} {ru p0 p m g : Nat}
theorem X_weigh12 (hw : nwf N) (h : RX 1 N σ) (hr : ru < 5) (hJ : JT N ru p0 σ) (hj : jok N ru p0 p m g) : ∃ σ', F_X1_weigh 20 (nI (st p m g)) 12 σ = some (nI (jcv N ru p (S_ ru m g)), σ') ∧ xg σ σ' ∧ JT N ru p0 σ' := by
  obtain ⟨t, h1, h2, h3, h4, h5⟩ := hJ
  obtain ⟨F', e, h6, h7⟩ := X_weigh hw h h3 hr h1 h2 20 p m g 12 (σ 3 1) hj (rm12 hw ru _) (by omega) (by omega) h4 h5
  rw [upA_self] at e
  refine ⟨upA σ 3 1 F', e, xg_up σ F', t, ?_, h2, ?_, ?_, ?_⟩
  · rw [upA_f (by decide)]; exact h1
  · rw [upA_f (by decide)]; exact h3
  · rw [upA_s]; exact h6
  · rw [upA_s]; exact h7
theorem ckb_b {β : Type} (b : Bool) (x : Option β) : ckb (b2i b) x = x := by cases b <;> rfl
theorem X_wins (hw : nwf N) (h : RX 1 N σ) (hr : ru < 5) (hJ : JT N ru p0 σ) (hj : jok N ru p0 p m g) : ∃ σ', F_X1_wins (nI (st p m g)) σ = some (b2i (val N ru p (S_ ru m g)).1, σ') ∧ xg σ σ' ∧ JT N ru p0 σ' := by
  obtain ⟨σ', e, h1, h2⟩ := X_weigh12 hw h hr hJ hj
  refine ⟨σ', ?_, h1, h2⟩
  have hv := val_le hw ru p (S_ ru m g)
  have hx := nim_le hw ru p (S_ ru m g)
  unfold F_X1_wins
  rw [e, bdE]
  unfold jcv
  rw [X_winsAs (by omega) (by omega), bdE, ckb_b]
theorem X_lengthFrom (hw : nwf N) (h : RX 1 N σ) (hr : ru < 5) (hJ : JT N ru p0 σ) (hj : jok N ru p0 p m g) : ∃ σ', F_X1_lengthFrom (nI (st p m g)) σ = some (nI (val N ru p (S_ ru m g)).2, σ') ∧ xg σ σ' ∧ JT N ru p0 σ' := by
  obtain ⟨σ', e, h1, h2⟩ := X_weigh12 hw h hr hJ hj
  refine ⟨σ', ?_, h1, h2⟩
  have hv := val_le hw ru p (S_ ru m g)
  have hx := nim_le hw ru p (S_ ru m g)
  unfold F_X1_lengthFrom
  rw [e, bdE]
  unfold jcv
  rw [X_lengthAs (by omega) (by omega), bdE]
theorem X_nimFrom (hw : nwf N) (h : RX 1 N σ) (hr : ru < 5) (hJ : JT N ru p0 σ) (hj : jok N ru p0 p m g) : ∃ σ', F_X1_nimFrom (nI (st p m g)) σ = some (nI (nim N ru p (S_ ru m g)), σ') ∧ xg σ σ' ∧ JT N ru p0 σ' := by
  obtain ⟨σ', e, h1, h2⟩ := X_weigh12 hw h hr hJ hj
  refine ⟨σ', ?_, h1, h2⟩
  have hv := val_le hw ru p (S_ ru m g)
  have hx := nim_le hw ru p (S_ ru m g)
  unfold F_X1_nimFrom
  rw [e, bdE]
  unfold jcv
  rw [X_nimAs (by omega) (by omega), bdE]
/-- the moves that win -/
def wmv (N : Nt) (ru p S : Nat) : Nat := bset (nk N) (fun l => mvB N ru l p S && !(val N ru (oth N l p) (nxt N ru l p S)).1)
theorem X_winningFrom (hw : nwf N) (h : RX 1 N σ) (hr : ru < 5) (hJ : JT N ru p0 σ) (hj : jok N ru p0 p m g) : ∃ σ', F_X1_winningFrom (nI (st p m g)) σ = some (nI (wmv N ru p (S_ ru m g)), σ') ∧ xg σ σ' ∧ JT N ru p0 σ' := by
  have hk := hw.2.2.1
  have hn := hw.2.1
  have hp := hj.1
  have hb := bs12 hw (fun l => mvB N ru l p (S_ ru m g))
  have lp : ∀ (d n i : Nat) (σ : S3), i + d = nk N → d < n → RX 1 N σ → JT N ru p0 σ → ∃ σ', zl2 (Fb_X1_winningFrom_11 (nI (st p m g)) (nI (bset (nk N) (fun l => mvB N ru l p (S_ ru m g))))) n (nI (bset i (fun l => mvB N ru l p (S_ ru m g) && !(val N ru (oth N l p) (nxt N ru l p (S_ ru m g))).1))) (nI i) σ = some (nI (wmv N ru p (S_ ru m g)), σ') ∧ xg σ σ' ∧ JT N ru p0 σ' := by
    intro d
    induction d with
    | zero =>
      intro n i σ hi hn' h hJ
      obtain ⟨n, rfl⟩ : ∃ m, n = m + 1 := ⟨n - 1, by omega⟩
      have e : i = nk N := by omega
      subst e
      refine ⟨σ, ?_, xg_rf σ, hJ⟩
      rw [zl2_s]
      generalize zl2 (Fb_X1_winningFrom_11 (nI (st p m g)) (nI (bset (nk N) (fun l => mvB N ru l p (S_ ru m g))))) n = K
      unfold Fb_X1_winningFrom_11
      simp (disch := omega) only [ckN, ixN, nI_add, subN, mulN, eqN, leN, ltN, bdE, nmE, hasN, shl1, orN, andN, b2i_0, b2i_1, ↓reduceIte, Nat.reduceEqDiff, Nat.reduceLeDiff, li0, li1, li2, li3, li4, li5, li6, li7, li8, li9, li10, li12, li13, li15, li16, li20, li24, li32, li60, li63, li255, li300, li511, li1000, li1023, li4095, li8191, h.2.1, Nat.le_refl]
      rfl
    | succ d ih =>
      intro n i σ hi hn' h hJ
      obtain ⟨n, rfl⟩ : ∃ m, n = m + 1 := ⟨n - 1, by omega⟩
      have hil : i < nk N := by omega
      have ihn := ih n
      have hbs : ∀ P : Nat → Bool, bset (i + 1) P = bset i P ||| (if P i then 2 ^ i else 0) := fun P => rfl
      rw [zl2_s]
      generalize zl2 (Fb_X1_winningFrom_11 (nI (st p m g)) (nI (bset (nk N) (fun l => mvB N ru l p (S_ ru m g))))) n = K at ihn ⊢
      unfold Fb_X1_winningFrom_11
      simp (disch := omega) only [ckN, ixN, nI_add, subN, mulN, eqN, leN, ltN, bdE, nmE, hasN, shl1, orN, andN, b2i_0, b2i_1, ↓reduceIte, Nat.reduceEqDiff, Nat.reduceLeDiff, li0, li1, li2, li3, li4, li5, li6, li7, li8, li9, li10, li12, li13, li15, li16, li20, li24, li32, li60, li63, li255, li300, li511, li1000, li1023, li4095, li8191, h.2.1, show ¬ nk N ≤ i by omega, bset_tb, hil, decide_true, Bool.true_and]
      cases hmb : mvB N ru i p (S_ ru m g)
      · have ih' := ihn (i + 1) σ (by omega) (by omega) h hJ
        rw [hbs, hmb] at ih'
        simp at ih' ⊢
        exact ih'
      · have ha := mvB_at hmb
        have hj2 := jok_mv hw hj hil hmb
        obtain ⟨σ1, e1, g1, J1⟩ := X_weigh12 hw h hr hJ hj2
        obtain ⟨σ2, e2, g2, J2⟩ := ihn (i + 1) σ1 (by omega) (by omega) (RX_g g1 (by decide) h) J1
        refine ⟨σ2, ?_, xg_tr g1 g2, J2⟩
        rw [hbs, hmb] at e2
        rw [X_behind hw h (by omega) hj.2.1 hj.2.2.1 hil ha, bdE, ← show (12 : Int32) = nI 12 from li12, e1, bdE]
        unfold jcv
        have hv := val_le hw ru (oth N i p) (S_ ru (m ||| 2 ^ oth N i p) (g ||| 2 ^ i))
        have hx := nim_le hw ru (oth N i p) (S_ ru (m ||| 2 ^ oth N i p) (g ||| 2 ^ i))
        rw [X_winsAs (by omega) (by omega), bdE, S_mv]
        cases hvv : (val N ru (oth N i p) (nxt N ru i p (S_ ru m g))).1
        · rw [hvv] at e2
          simp only [b2i_0, if_true, Bool.true_eq_false, if_false]
          simp at e2
          exact e2
        · rw [hvv] at e2
          simp only [b2i_0, if_true, Bool.true_eq_false, if_false]
          simp at e2
          exact e2
  obtain ⟨σ', e, g1, J1⟩ := lp (nk N) zF 0 σ (by omega) (zfl (by omega)) h hJ
  refine ⟨σ', ?_, g1, J1⟩
  unfold F_X1_winningFrom F_X1_winningFrom_11
  rw [X_movesFrom hw h (JT_ru hJ) hr (by omega) hj.2.1 hj.2.2.1, bdE]
  exact e
/-- where the reference's game stands -/
def MP (ru p m g : Nat) (τ : S3) : Prop := τ 0 12 0 = nI ru ∧ τ 0 14 0 = nI p ∧ τ 0 15 0 = nI m ∧ τ 0 16 0 = nI g
theorem MP_ag {τ' : S3} (h : ag τ τ') (hp : MP ru p m g τ) : MP ru p m g τ' := by
  unfold MP at hp ⊢
  rw [h 12 (by decide) (by decide) (by decide), h 14 (by decide) (by decide) (by decide), h 15 (by decide) (by decide) (by decide), h 16 (by decide) (by decide) (by decide)]
  exact hp
theorem M_setNow (hr : ru < 5) (hP : MP ru p m g τ) : F_X9_setNow τ = some (nI (S_ ru m g), τ) := by
  unfold F_X9_setNow S_
  rw [M_isByLines hP.1 hr, bdE, hP.2.2.1, hP.2.2.2]
  cases byL ru <;> rfl
theorem M_movesNow (hw : nwf N) (h : RM N τ) (hr : ru < 5) (hP : MP ru p m g τ) (hp : p < nn N) (hm : m < 1024) (hg : g < 4096) : F_X9_movesNow τ = some (nI (bset (nk N) (fun l => mvB N ru l p (S_ ru m g))), τ) := by
  have hn := hw.2.1
  have := S_lt (ru := ru) hm hg
  unfold F_X9_movesNow
  rw [M_setNow hr hP, bdE, hP.2.1, M_movesAt hw h hP.1 hr (by omega) (by omega), bdE]
theorem M_isOver (hw : nwf N) (h : RM N τ) (hr : ru < 5) (hP : MP ru p m g τ) (hp : p < nn N) (hm : m < 1024) (hg : g < 4096) : F_X9_isOver τ = some (b2i (decide (bset (nk N) (fun l => mvB N ru l p (S_ ru m g)) = 0)), τ) := by
  have hb := bs12 hw (fun l => mvB N ru l p (S_ ru m g))
  unfold F_X9_isOver
  rw [M_movesNow hw h hr hP hp hm hg]
  simp (disch := omega) only [ckN, ixN, nI_add, subN, mulN, eqN, leN, ltN, bdE, nmE, hasN, shl1, orN, andN, b2i_0, b2i_1, ↓reduceIte, Nat.reduceEqDiff, Nat.reduceLeDiff, li0, li1, li2, li3, li4, li5, li6, li7, li8, li9, li10, li12, li13, li15, li16, li20, li24, li32, li60, li63, li255, li300, li511, li1000, li1023, li4095, li8191]
  by_cases e : bset (nk N) (fun l => mvB N ru l p (S_ ru m g)) = 0 <;> simp [e, b2i]
theorem M_winsBehind (hw : nwf N) (h : RM N τ) (hr : ru < 5) (hM : MT N τ) (hP : MP ru p m g τ) (hp : p < nn N) (hm : m < 1024) (hg : g < 4096) {l : Nat} (hl : l < nk N) (ha : atB N l p = true) : ∃ τ', F_X9_winsBehind (nI l) τ = some (b2i (!(val N ru (oth N l p) (nxt N ru l p (S_ ru m g))).1), τ') ∧ ag τ τ' ∧ MT N τ' := by
  have hS := S_lt (ru := ru) hm hg
  obtain ⟨τ', e, h1, h2⟩ := M_winsAt hw h hP.1 hr hM (oth_lt hw hl ha) (nxt_lt (ru := ru) hw hl ha hS)
  refine ⟨τ', ?_, h1, h2⟩
  unfold F_X9_winsBehind
  rw [hP.2.1, M_otherOf hw h hl ha, bdE, M_setNow hr hP, bdE, hP.2.1, M_setBehind hw h hP.1 hr hl ha, bdE, e, bdE]
  cases (val N ru (oth N l p) (nxt N ru l p (S_ ru m g))).1 <;> rfl
theorem M_winning (hw : nwf N) (h : RM N τ) (hr : ru < 5) (hM : MT N τ) (hP : MP ru p m g τ) (hp : p < nn N) (hm : m < 1024) (hg : g < 4096) : ∃ τ', F_X9_winning τ = some (nI (wmv N ru p (S_ ru m g)), τ') ∧ ag τ τ' ∧ MT N τ' := by
  have hk := hw.2.2.1
  have hb := bs12 hw (fun l => mvB N ru l p (S_ ru m g))
  have lp : ∀ (d n i : Nat) (τ : S3), i + d = nk N → d < n → RM N τ → MT N τ → MP ru p m g τ → ∃ τ', zl2 (Fb_X9_winning_9 (nI (bset (nk N) (fun l => mvB N ru l p (S_ ru m g))))) n (nI (bset i (fun l => mvB N ru l p (S_ ru m g) && !(val N ru (oth N l p) (nxt N ru l p (S_ ru m g))).1))) (nI i) τ = some (nI (wmv N ru p (S_ ru m g)), τ') ∧ ag τ τ' ∧ MT N τ' := by
    intro d
    induction d with
    | zero =>
      intro n i τ hi hn' h hM hP
      obtain ⟨n, rfl⟩ : ∃ m, n = m + 1 := ⟨n - 1, by omega⟩
      have e : i = nk N := by omega
      subst e
      refine ⟨τ, ?_, ag_rf τ, hM⟩
      rw [zl2_s]
      generalize zl2 (Fb_X9_winning_9 (nI (bset (nk N) (fun l => mvB N ru l p (S_ ru m g))))) n = K
      unfold Fb_X9_winning_9
      simp (disch := omega) only [ckN, ixN, nI_add, subN, mulN, eqN, leN, ltN, bdE, nmE, hasN, shl1, orN, andN, b2i_0, b2i_1, ↓reduceIte, Nat.reduceEqDiff, Nat.reduceLeDiff, li0, li1, li2, li3, li4, li5, li6, li7, li8, li9, li10, li12, li13, li15, li16, li20, li24, li32, li60, li63, li255, li300, li511, li1000, li1023, li4095, li8191, h.2.1, Nat.le_refl]
      rfl
    | succ d ih =>
      intro n i τ hi hn' h hM hP
      obtain ⟨n, rfl⟩ : ∃ m, n = m + 1 := ⟨n - 1, by omega⟩
      have hil : i < nk N := by omega
      have ihn := ih n
      have hbs : ∀ P : Nat → Bool, bset (i + 1) P = bset i P ||| (if P i then 2 ^ i else 0) := fun P => rfl
      rw [zl2_s]
      generalize zl2 (Fb_X9_winning_9 (nI (bset (nk N) (fun l => mvB N ru l p (S_ ru m g))))) n = K at ihn ⊢
      unfold Fb_X9_winning_9
      simp (disch := omega) only [ckN, ixN, nI_add, subN, mulN, eqN, leN, ltN, bdE, nmE, hasN, shl1, orN, andN, b2i_0, b2i_1, ↓reduceIte, Nat.reduceEqDiff, Nat.reduceLeDiff, li0, li1, li2, li3, li4, li5, li6, li7, li8, li9, li10, li12, li13, li15, li16, li20, li24, li32, li60, li63, li255, li300, li511, li1000, li1023, li4095, li8191, h.2.1, show ¬ nk N ≤ i by omega, M_has (show bset (nk N) (fun l => mvB N ru l p (S_ ru m g)) < 2147483648 by omega) (show i < 32 by omega), bset_tb, hil, decide_true, Bool.true_and]
      cases hmb : mvB N ru i p (S_ ru m g)
      · have ih' := ihn (i + 1) τ (by omega) (by omega) h hM hP
        rw [hbs, hmb] at ih'
        simp at ih' ⊢
        exact ih'
      · have ha := mvB_at hmb
        obtain ⟨τ1, e1, g1, M1⟩ := M_winsBehind hw h hr hM hP hp hm hg hil ha
        obtain ⟨τ2, e2, g2, M2⟩ := ihn (i + 1) τ1 (by omega) (by omega) (RM_ag g1 h) M1 (MP_ag g1 hP)
        refine ⟨τ2, ?_, ag_tr g1 g2, M2⟩
        rw [hbs, hmb] at e2
        rw [e1, bdE]
        cases hvv : (val N ru (oth N i p) (nxt N ru i p (S_ ru m g))).1
        · rw [hvv] at e2
          simp only [b2i_0, if_true, Bool.true_eq_false, if_false]
          simp at e2 ⊢
          exact e2
        · rw [hvv] at e2
          simp only [b2i_0, if_true, Bool.true_eq_false, if_false]
          simp at e2 ⊢
          exact e2
  obtain ⟨τ', e, g1, J1⟩ := lp (nk N) zF 0 τ (by omega) (zfl (by omega)) h hM hP
  refine ⟨τ', ?_, g1, J1⟩
  unfold F_X9_winning F_X9_winning_9
  rw [M_movesNow hw h hr hP hp hm hg, bdE]
  exact e
end
