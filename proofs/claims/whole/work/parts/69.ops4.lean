/-! PURE: the calls, one by one: plans at work -/
section
variable {N : Nt} {L : Nat} {B : Nat → Nat} {σ τ σ' τ' : S3} {ru p0 k : Nat} {mv : Nat → Nat}
theorem cdB_t {v : Int32} (h : cdB v = true) : ∃ C, C ≤ 7777 ∧ v = nI C ∧ vd 4 C = true := by
  unfold cdB at h
  rw [Bool.and_eq_true, decide_eq_true_eq] at h
  have h0 : ¬ v < 0 := by
    intro hl
    rw [Int32.lt_iff_toInt_lt] at hl
    have h1 : v.toInt < 0 := hl
    have h2 := h.1
    unfold Int32.toNatClampNeg at h2
    omega
  obtain ⟨j, hj, e⟩ := nI_of h0
  subst e
  have hix : (nI j).toNatClampNeg = j := ixN (by omega)
  rw [hix] at h
  exact ⟨j, vd_le j h.2, rfl, h.2⟩
theorem plan_b {p m g : Nat} (hw : nwf N) (hr : ru < 5) (hs : PS N ru p0 p m g σ τ) {v : Int32} (hv : cdB v = true) (o : Int32) : ∃ x σ' τ', F_X3_advice v (nI (st p m g)) o σ = some (if x = -nI 1 then o else x, σ') ∧ F_X9_planned v τ = some (x, τ') ∧ xz σ σ' ∧ mz τ τ' ∧ PS N ru p0 p m g σ' τ' ∧ MvR N ru p (S_ ru m g) x := by
  obtain ⟨C, hC, e, hd⟩ := cdB_t hv
  subst e
  unfold F_X3_advice F_X3_advice_6 F_X9_planned F_X9_planned_4
  exact advice_b hw hr o 4 zF zF 0 C σ τ (by omega) (zfl (by omega)) (zfl (by omega)) (by omega) hd hs
theorem IV_z (hI : IV N L B σ τ) (hx : xz σ σ') (hm : mz τ τ') (hM : MT N τ') (hz : σ' 4 2 0 = τ' 0 17 0) : IV N L B σ' τ' :=
  IV_fr hI (fun _ h3 h4 _ _ => xz_c hx h3 h4) (fun f h => hm f (by omega) (by omega) (by omega) (by omega) (by omega) (by omega)) hz hM
theorem GO_z (hG : GO N ru p0 mv k σ τ) (hx : xz σ σ') (hm : mz τ τ') : GO N ru p0 mv k σ' τ' :=
  GO_fr hG (xz_c hx (by decide) (by decide)) (fun f a b c => hm f (by omega) (by omega) c (by omega) (by omega) (by omega))
theorem PS_z {p m g : Nat} (h : PS N ru p0 p m g σ τ) : σ 4 2 0 = τ 0 17 0 := h.2.2.2.2.2.2
theorem o_tells (h : Inv σ τ) (a0 : Int32) : zst Inv (F_X8_tells a0 σ) (F_X9_tells a0 τ) := by
  have hi := h
  unfold F_X8_tells F_X9_tells
  rw [X_isCode, bdE, M_isCode, bdE]
  cases hb : cdB a0
  · rw [bf0, if_pos rfl, if_pos rfl]; exact err_b (j := 1) hi (by decide)
  · rw [if_neg bt0, if_neg bt0]
    refine gcase hi ?_
    intro N L B ru p0 mv k hI hJ hG
    have hw := hI.1
    have hP := GO_PS hI hJ hG
    obtain ⟨x, σ', τ', x1, x2, x3, x4, x5, x6⟩ := plan_b hw hG.1 hP hb (-1)
    have hI' := IV_z hI x3 x4 x5.2.2.2.2.1 (PS_z x5)
    have hfin : Inv σ' τ' := ⟨N, L, B, hI', Or.inr ⟨ru, p0, mv, k, x5.2.1, GO_z hG x3 x4⟩⟩
    rw [X_stand (k12 hI hG) hG, bdE, x1, bdE, x2, bdE]
    rcases x6 with e | ⟨l, e, hl, hm⟩
    · rw [e, if_pos rfl, if_neg (show ¬ (0 : Int32) ≤ -1 by decide), if_pos (show -nI 1 = -1 from rfl)]
      exact err_b (j := 2) hfin (by decide)
    · have hk := hw.2.2.1
      rw [e, if_neg (ng_1 l (by omega)), if_pos (by rw [li0, leN (by omega) (by omega)]; omega), if_neg (show ¬ nI l = -1 by rw [m1]; exact ng_1 l (by omega))]
      exact ret_b hfin _
theorem step_b {p m g : Nat} (hw : nwf N) (hr : ru < 5) (hs : PS N ru p0 p m g σ τ) {v : Int32} (hv : cdB v = true) (ho : oM N ru p m g ≠ 0) : ∃ l σ' τ', F_X3_advice v (nI (st p m g)) (lsI (oM N ru p m g)) σ = some (nI l, σ') ∧ (∀ (K : Int32 → S3 → R3) a b c d, F_X9_plays_29 K a b c d v τ = bd (F_X9_goes (nI l) τ') (fun _ s => K (d + 1) s)) ∧ l < nk N ∧ mvB N ru l p (S_ ru m g) = true ∧ xz σ σ' ∧ mz τ τ' ∧ PS N ru p0 p m g σ' τ' := by
  have hk := hw.2.2.1
  have hob : oM N ru p m g < 4096 := bs12 hw _
  obtain ⟨x, σ', τ', x1, x2, x3, x4, x5, x6⟩ := plan_b hw hr hs hv (lsI (oM N ru p m g))
  rcases x6 with e | ⟨l, e, hl, hm⟩
  · have h1 := mv_in.mp (lob_at 12 _ (lob12 hob ho))
    have hls : lsI (oM N ru p m g) = nI (lob (oM N ru p m g) 12) := by unfold lsI; rw [if_neg ho]
    refine ⟨lob (oM N ru p m g) 12, σ', τ', by rw [x1, e, if_pos rfl, hls], ?_, h1.1, h1.2, x3, x4, x5⟩
    intro K a b c d
    have hj := x5.2.2.1
    unfold F_X9_plays_29
    rw [x2, bdE, e, if_pos (show -nI 1 = -1 from rfl), M_movesNow hw x5.2.2.2.1 hr x5.2.2.2.2.2.1 hj.1 hj.2.1 hj.2.2.1, bdE, M_least hob, bdE, hls]
    rfl
  · refine ⟨l, σ', τ', by rw [x1, e, if_neg (ng_1 l (by omega))], ?_, hl, hm, x3, x4, x5⟩
    intro K a b c d
    unfold F_X9_plays_29
    rw [x2, bdE, e, if_neg (show ¬ nI l = -1 by rw [m1]; exact ng_1 l (by omega))]
    rfl
theorem par (k : Nat) : (nI k &&& (1 : Int32) = 0) = (k % 2 = 0) := by
  rw [show nI k &&& (1 : Int32) = nI (k % 2) from bitN k, li0, eqN (by omega) (by omega)]
theorem play_b {n0 k0 : Nat} (hn0 : n0 ≤ 20) {v1 v2 : Int32} (hv1 : cdB v1 = true) (hv2 : cdB v2 = true) : ∀ (d n n' i : Nat) (σ τ : S3) (mv : Nat → Nat) (k : Nat), i + d = n0 → d < n → d < n' → k = k0 + i → IV N L B σ τ → JT N ru p0 σ → GO N ru p0 mv k σ τ → ∃ r σ' τ', zl2 (Fb_X8_play_75 v1 v2 (nI n0) (nI k0)) n (nI (oM N ru (gp N p0 mv k).1 (gp N p0 mv k).2.1 (gp N p0 mv k).2.2)) (nI i) σ = some (r, σ') ∧ zl1 (Fb_X9_plays_3 v1 v2 (nI n0)) n' (nI i) τ = some (r, τ') ∧ Inv σ' τ' := by
  intro d
  induction d with
  | zero =>
    intro n n' i σ τ mv k hi h1 h2 hk hI hJ hG
    obtain ⟨n, rfl⟩ : ∃ m, n = m + 1 := ⟨n - 1, by omega⟩
    obtain ⟨n', rfl⟩ : ∃ m, n' = m + 1 := ⟨n' - 1, by omega⟩
    have e : i = n0 := by omega
    subst e
    refine ⟨nI i, σ, τ, ?_, ?_, N, L, B, hI, Or.inr ⟨ru, p0, mv, k, hJ, hG⟩⟩
    · rw [zl2_s]
      generalize zl2 (Fb_X8_play_75 v1 v2 (nI i) (nI k0)) n = K
      unfold Fb_X8_play_75
      rw [if_pos (Int32.le_refl _), hG.2.2.2.1.2.2.1, subN (by omega), hk, show k0 + i - k0 = i by omega]
    · rw [zl1_s]
      generalize zl1 (Fb_X9_plays_3 v1 v2 (nI i)) n' = K
      unfold Fb_X9_plays_3
      rw [if_pos (Int32.le_refl _)]
  | succ d ih =>
    intro n n' i σ τ mv k hi h1 h2 hk hI hJ hG
    obtain ⟨n, rfl⟩ : ∃ m, n = m + 1 := ⟨n - 1, by omega⟩
    obtain ⟨n', rfl⟩ : ∃ m, n' = m + 1 := ⟨n' - 1, by omega⟩
    have hw := hI.1
    have hn := hw.2.1
    have hk12 := k12 hI hG
    have hP := GO_PS hI hJ hG
    have hj := hP.2.2.1
    have hMP := hG.2.2.2.2.2.2.1
    have hob : oM N ru (gp N p0 mv k).1 (gp N p0 mv k).2.1 (gp N p0 mv k).2.2 < 4096 := bs12 hw _
    have ihn := ih n n' (i + 1)
    rw [zl2_s, zl1_s]
    generalize zl2 (Fb_X8_play_75 v1 v2 (nI n0) (nI k0)) n = K at ihn ⊢
    generalize zl1 (Fb_X9_plays_3 v1 v2 (nI n0)) n' = K' at ihn ⊢
    have hnle : ¬ nI n0 ≤ nI i := by rw [leN (by omega) (by omega)]; omega
    unfold Fb_X8_play_75 Fb_X9_plays_3
    rw [if_neg hnle, if_neg hnle, M_isOver hw hI.2.2.1 hG.1 hMP hj.1 hj.2.1 hj.2.2.1, bdE]
    by_cases hov : oM N ru (gp N p0 mv k).1 (gp N p0 mv k).2.1 (gp N p0 mv k).2.2 = 0
    · refine ⟨nI i, σ, τ, ?_, ?_, N, L, B, hI, Or.inr ⟨ru, p0, mv, k, hJ, hG⟩⟩
      · rw [if_pos (by rw [hov]; rfl), hG.2.2.2.1.2.2.1, subN (by omega), hk, show k0 + i - k0 = i by omega]
      · rw [decide_eq_true hov, if_neg bt0]
    · rw [if_neg (show ¬ nI (oM N ru (gp N p0 mv k).1 (gp N p0 mv k).2.1 (gp N p0 mv k).2.2) = 0 by rw [li0, eqN (by omega) (by omega)]; exact hov), decide_eq_false hov, bf0, if_pos rfl, M_mover hG.2.2.2.2.2.2.2.1 hk12, bdE, hG.2.2.2.1.2.2.1]
      have main : ∀ v, cdB v = true → ∃ r σ' τ', F_X8_play_103 K v1 v2 (nI n0) (nI k0) (nI (oM N ru (gp N p0 mv k).1 (gp N p0 mv k).2.1 (gp N p0 mv k).2.2)) (nI i) v σ = some (r, σ') ∧ F_X9_plays_29 K' v1 v2 (nI n0) (nI i) v τ = some (r, τ') ∧ Inv σ' τ' := by
        intro v hv
        obtain ⟨l, σ1, τ1, s1, s2, s3, s4, s5, s6, s7⟩ := step_b hw hG.1 hP hv hov
        have hI1 := IV_z hI s5 s6 s7.2.2.2.2.1 (PS_z s7)
        have hG1 := GO_z hG s5 s6
        obtain ⟨σ2, τ2, e1, e2, e3, e4, e5⟩ := adv_b hI1 s7.2.1 hG1 s3 s4
        have hP2 := GO_PS e3 e4 e5
        have hj2 := hP2.2.2.1
        obtain ⟨r, σ', τ', f1, f2, f3⟩ := ihn σ2 τ2 (ex mv k l) (k + 1) (by omega) (by omega) (by omega) (by omega) e3 e4 e5
        refine ⟨r, σ', τ', ?_, ?_, f3⟩
        · unfold F_X8_play_103
          rw [X_stand hk12 hG, bdE, X_least hob, bdE, s1, bdE, X_stand hk12 hG1, bdE, X_behind hw hI1.2.1 (by have := hj.1; omega) hj.2.1 hj.2.2.1 s3 (mvB_at s4), bdE, e1, bdE, X_stand (k12 e3 e5) e5, bdE, X_movesFrom hw e3.2.1 (JT_ru e4) hG.1 (by have := hj2.1; omega) hj2.2.1 hj2.2.2.1, bdE, nmE, li1, nI_add]
          exact f1
        · rw [s2, e2, bdE, li1, nI_add]
          exact f2
      by_cases hpar : k % 2 = 0
      · rw [if_pos (show nI k &&& (1 : Int32) = 0 by rw [par]; exact hpar), hpar, if_pos (show nI 0 = 0 from rfl)]
        exact main v1 hv1
      · rw [if_neg (show ¬ nI k &&& (1 : Int32) = 0 by rw [par]; exact hpar), if_neg (show ¬ nI (k % 2) = 0 by rw [li0, eqN (by omega) (by omega)]; exact hpar)]
        exact main v2 hv2
theorem o_play (h : Inv σ τ) (a0 a1 a2 : Int32) : zst Inv (F_X8_play a0 a1 a2 σ) (F_X9_play a0 a1 a2 τ) := by
  have hi := h
  unfold F_X8_play F_X9_play
  rw [X_isCode, bdE, M_isCode, bdE]
  cases hb : cdB a0
  · rw [bf0, if_pos rfl, if_pos rfl]; exact err_b (j := 1) hi (by decide)
  · rw [if_neg bt0, if_neg bt0, X_isCode, bdE, M_isCode, bdE]
    cases hb1 : cdB a1
    · rw [bf0, if_pos rfl, if_pos rfl]; exact err_b (j := 1) hi (by decide)
    · rw [if_neg bt0, if_neg bt0, li20, ifr1, M_in1, bdE]
      cases hb2 : in1B a2 20
      · rw [if_neg Bool.false_ne_true, bf0, if_pos rfl]; exact err_b (j := 1) hi (by decide)
      · rw [if_pos rfl, if_neg bt0]
        obtain ⟨n0, h1, h2, e⟩ := in1B_t (by omega) hb2
        subst e
        refine gcase hi ?_
        intro N L B ru p0 mv k hI hJ hG
        have hw := hI.1
        have hn := hw.2.1
        have hP := GO_PS hI hJ hG
        have hj := hP.2.2.1
        obtain ⟨r, σ', τ', f1, f2, f3⟩ := play_b (k0 := k) h2 hb hb1 n0 zF zF 0 σ τ mv k (by omega) (zfl (by omega)) (zfl (by omega)) (by omega) hI hJ hG
        unfold F_X8_play_75 F_X9_plays F_X9_plays_3
        rw [nmE, X_stand (k12 hI hG) hG, bdE, X_movesFrom hw hI.2.1 (JT_ru hJ) hG.1 (by have := hj.1; omega) hj.2.1 hj.2.2.1, bdE, hG.2.2.2.1.2.2.1]
        have f1' : zl2 (Fb_X8_play_75 a0 a1 (nI n0) (nI k)) zF (nI (bset (nk N) (fun l => mvB N ru l (gp N p0 mv k).1 (S_ ru (gp N p0 mv k).2.1 (gp N p0 mv k).2.2)))) 0 σ = some (r, σ') := f1
        have f2' : zl1 (Fb_X9_plays_3 a0 a1 (nI n0)) zF 0 τ = some (r, τ') := f2
        rw [f1', f2', bdE]
        exact ⟨r, σ', τ', rfl, rfl, f3⟩
/-! in thought -/
def mw (τ τ' : S3) : Prop := ∀ f, f < 7 ∨ (8 < f ∧ f < 14) ∨ 22 < f → τ' 0 f = τ 0 f
theorem mw_rf (τ : S3) : mw τ τ := fun _ _ => rfl
theorem mw_tr {a b c : S3} (h1 : mw a b) (h2 : mw b c) : mw a c := fun f h => (h2 f h).trans (h1 f h)
theorem mw_z {τ τ' : S3} (h : mz τ τ') : mw τ τ' := fun f hf => h f (by omega) (by omega) (by omega) (by omega) (by omega) (by omega)
theorem mw_a {τ τ' : S3} (h : ag τ τ') : mw τ τ' := fun f hf => h f (by omega) (by omega) (by omega)
theorem GRf_z (h : GRf N ru p0 mv k τ) (hm : mz τ τ') : GRf N ru p0 mv k τ' := by
  unfold GRf MP at h ⊢
  rw [hm 12 (by decide) (by decide) (by decide) (by decide) (by decide) (by decide), hm 13 (by decide) (by decide) (by decide) (by decide) (by decide) (by decide), hm 14 (by decide) (by decide) (by decide) (by decide) (by decide) (by decide), hm 15 (by decide) (by decide) (by decide) (by decide) (by decide) (by decide), hm 16 (by decide) (by decide) (by decide) (by decide) (by decide) (by decide), hm 18 (by decide) (by decide) (by decide) (by decide) (by decide) (by decide), hm 19 (by decide) (by decide) (by decide) (by decide) (by decide) (by decide)]
  exact h
/-- one move in thought: the reference goes, the class's stand is behind it -/
theorem PS_go (hw : nwf N) (hL : GL N ru p0 mv k) (hk : k < 12) (hs : PS N ru p0 (gp N p0 mv k).1 (gp N p0 mv k).2.1 (gp N p0 mv k).2.2 σ τ) (hG : GRf N ru p0 mv k τ) {l : Nat} (hl : l < nk N) (hm : mvB N ru l (gp N p0 mv k).1 (gS N ru p0 mv k) = true) : ∃ τ', F_X9_goes (nI l) τ = some (nI 0, τ') ∧ GL N ru p0 (ex mv k l) (k + 1) ∧ PS N ru p0 (gp N p0 (ex mv k l) (k + 1)).1 (gp N p0 (ex mv k l) (k + 1)).2.1 (gp N p0 (ex mv k l) (k + 1)).2.2 σ τ' ∧ GRf N ru p0 (ex mv k l) (k + 1) τ' ∧ mw τ τ' ∧ τ' 0 17 = τ 0 17 := by
  obtain ⟨hX, hJ, hj, hM, hT, hP, hz⟩ := hs
  obtain ⟨τ', e1, e2, e3, e4⟩ := M_go hw hM hG hk hl (mvB_at hm)
  refine ⟨τ', e1, GL_ex hL hl hm, ⟨hX, hJ, ?_, RM_fr hM (fun f _ _ => e3 f (by omega)), MT_f hT (e3 20 (by decide)) (e3 21 (by decide)) (e3 22 (by decide)), e2.2.1, by rw [e3 17 (by decide)]; exact hz⟩, e2, fun f hf => e3 f (by omega), e3 17 (by decide)⟩
  rw [gp_ex1]
  exact jok_mv hw hj hl hm
theorem fight_l {k0 : Nat} {mv0 : Nat → Nat} {σ0 τ0 : S3} (hw : nwf N) (hr : ru < 5) {v1 v2 : Int32} (v3 z0 : Int32) (hv1 : cdB v1 = true) (hv2 : cdB v2 = true) : ∀ (d n n' i : Nat) (σ τ : S3) (mv : Nat → Nat) (k : Nat), i + d = 12 → d < n → d + 1 < n' → k = k0 + i → GL N ru p0 mv k → PS N ru p0 (gp N p0 mv k).1 (gp N p0 mv k).2.1 (gp N p0 mv k).2.2 σ τ → GRf N ru p0 mv k τ → xz σ0 σ → mw τ0 τ → (∀ j, j < k0 → mv j = mv0 j) → ∃ i' mv' σ' τ', zl4 (Fb_X8_fight_86 v1 v2 v3 z0) n (nI (stt (gp N p0 mv k))) (nI k) (nI (oM N ru (gp N p0 mv k).1 (gp N p0 mv k).2.1 (gp N p0 mv k).2.2)) (nI i) σ = F_X8_fight_159 v3 z0 (nI (stt (gp N p0 mv' (k0 + i')))) (nI (k0 + i')) σ' ∧ zl1 (Fb_X9_plays_3 v1 v2 (nI 13)) n' (nI i) τ = some (nI i', τ') ∧ GL N ru p0 mv' (k0 + i') ∧ PS N ru p0 (gp N p0 mv' (k0 + i')).1 (gp N p0 mv' (k0 + i')).2.1 (gp N p0 mv' (k0 + i')).2.2 σ' τ' ∧ GRf N ru p0 mv' (k0 + i') τ' ∧ xz σ0 σ' ∧ mw τ0 τ' ∧ ∀ j, j < k0 → mv' j = mv0 j := by
  have hn := hw.2.1
  intro d
  induction d with
  | zero =>
    intro n n' i σ τ mv k hi h1 h2 hk hL hs hG hx hm ha
    obtain ⟨n, rfl⟩ : ∃ m, n = m + 1 := ⟨n - 1, by omega⟩
    obtain ⟨n', rfl⟩ : ∃ m, n' = m + 1 := ⟨n' - 1, by omega⟩
    subst hk
    have hj := hs.2.2.1
    have hrm : rm N ru (S_ ru (gp N p0 mv (k0 + i)).2.1 (gp N p0 mv (k0 + i)).2.2) + (k0 + i) ≤ 12 := GL_rm hw (k0 + i) hL
    have hov : oM N ru (gp N p0 mv (k0 + i)).1 (gp N p0 mv (k0 + i)).2.1 (gp N p0 mv (k0 + i)).2.2 = 0 := by
      apply set_ext (bset_lt _ (nk N)) (Nat.two_pow_pos _)
      intro l hl
      rw [bset_tb, Nat.zero_testBit]
      cases hmv : mvB N ru l (gp N p0 mv (k0 + i)).1 (S_ ru (gp N p0 mv (k0 + i)).2.1 (gp N p0 mv (k0 + i)).2.2)
      · simp
      · have := rm_mv hw hl hmv
        omega
    refine ⟨i, mv, σ, τ, ?_, ?_, hL, hs, hG, hx, hm, ha⟩
    · rw [zl4_s]
      generalize zl4 (Fb_X8_fight_86 v1 v2 v3 z0) n = K
      unfold Fb_X8_fight_86
      rw [li12, if_pos (by rw [leN (by omega) (by omega)]; omega)]
    · rw [zl1_s]
      generalize zl1 (Fb_X9_plays_3 v1 v2 (nI 13)) n' = K
      unfold Fb_X9_plays_3
      rw [if_neg (show ¬ nI 13 ≤ nI i by rw [leN (by omega) (by omega)]; omega), M_isOver hw hs.2.2.2.1 hr hs.2.2.2.2.2.1 hj.1 hj.2.1 hj.2.2.1, bdE, decide_eq_true hov, if_neg bt0]
  | succ d ih =>
    intro n n' i σ τ mv k hi h1 h2 hk hL hs hG hx hm ha
    obtain ⟨n, rfl⟩ : ∃ m, n = m + 1 := ⟨n - 1, by omega⟩
    obtain ⟨n', rfl⟩ : ∃ m, n' = m + 1 := ⟨n' - 1, by omega⟩
    have hj := hs.2.2.1
    have hrm : rm N ru (S_ ru (gp N p0 mv k).2.1 (gp N p0 mv k).2.2) + k ≤ 12 := GL_rm hw k hL
    have hob : oM N ru (gp N p0 mv k).1 (gp N p0 mv k).2.1 (gp N p0 mv k).2.2 < 4096 := bs12 hw _
    have ihn := ih n n' (i + 1)
    rw [zl4_s, zl1_s]
    generalize zl4 (Fb_X8_fight_86 v1 v2 v3 z0) n = K at ihn ⊢
    generalize zl1 (Fb_X9_plays_3 v1 v2 (nI 13)) n' = K' at ihn ⊢
    unfold Fb_X8_fight_86 Fb_X9_plays_3
    rw [li12, if_neg (show ¬ nI 12 ≤ nI i by rw [leN (by omega) (by omega)]; omega), if_neg (show ¬ nI 13 ≤ nI i by rw [leN (by omega) (by omega)]; omega), M_isOver hw hs.2.2.2.1 hr hs.2.2.2.2.2.1 hj.1 hj.2.1 hj.2.2.1, bdE]
    by_cases hov : oM N ru (gp N p0 mv k).1 (gp N p0 mv k).2.1 (gp N p0 mv k).2.2 = 0
    · refine ⟨i, mv, σ, τ, ?_, ?_, by rw [← hk]; exact hL, by rw [← hk]; exact hs, by rw [← hk]; exact hG, hx, hm, ha⟩
      · rw [if_pos (show nI (oM N ru (gp N p0 mv k).1 (gp N p0 mv k).2.1 (gp N p0 mv k).2.2) = 0 by rw [hov]; rfl), hk]
      · rw [decide_eq_true hov, if_neg bt0]
    · rw [if_neg (show ¬ nI (oM N ru (gp N p0 mv k).1 (gp N p0 mv k).2.1 (gp N p0 mv k).2.2) = 0 by rw [li0, eqN (by omega) (by omega)]; exact hov), decide_eq_false hov, bf0, if_pos rfl, M_mover hG.2.2.1 (by omega), bdE]
      have main : ∀ v, cdB v = true → ∃ i' mv' σ' τ', F_X8_fight_110 K v1 v2 v3 z0 (nI (stt (gp N p0 mv k))) (nI k) (nI (oM N ru (gp N p0 mv k).1 (gp N p0 mv k).2.1 (gp N p0 mv k).2.2)) (nI i) v σ = F_X8_fight_159 v3 z0 (nI (stt (gp N p0 mv' (k0 + i')))) (nI (k0 + i')) σ' ∧ F_X9_plays_29 K' v1 v2 (nI 13) (nI i) v τ = some (nI i', τ') ∧ GL N ru p0 mv' (k0 + i') ∧ PS N ru p0 (gp N p0 mv' (k0 + i')).1 (gp N p0 mv' (k0 + i')).2.1 (gp N p0 mv' (k0 + i')).2.2 σ' τ' ∧ GRf N ru p0 mv' (k0 + i') τ' ∧ xz σ0 σ' ∧ mw τ0 τ' ∧ ∀ j, j < k0 → mv' j = mv0 j := by
        intro v hv
        obtain ⟨l, σ1, τ1, s1, s2, s3, s4, s5, s6, s7⟩ := step_b hw hr hs hv hov
        have hmv := rm_mv hw s3 s4
        obtain ⟨τ2, e1, e2, e3, e4, e5, _⟩ := PS_go hw hL (by omega) s7 (GRf_z hG s6) s3 s4
        have hj2 := e3.2.2.1
        obtain ⟨i', mv', σ', τ', f1, f2, f3⟩ := ihn σ1 τ2 (ex mv k l) (k + 1) (by omega) (by omega) (by omega) (by omega) e2 e3 e4 (xz_tr hx s5) (mw_tr hm (mw_tr (mw_z s6) e5)) (fun j hj => by rw [ex_lt (by omega)]; exact ha j hj)
        refine ⟨i', mv', σ', τ', ?_, ?_, f3⟩
        · unfold F_X8_fight_110
          rw [X_least hob, bdE, show stt (gp N p0 mv k) = st (gp N p0 mv k).1 (gp N p0 mv k).2.1 (gp N p0 mv k).2.2 from rfl, s1, bdE, X_behind hw s7.1 (by have := hj.1; omega) hj.2.1 hj.2.2.1 s3 (mvB_at s4), bdE, nmE]
          have hmf := X_movesFrom (p := (gp N p0 (ex mv k l) (k + 1)).1) (m := (gp N p0 (ex mv k l) (k + 1)).2.1) (g := (gp N p0 (ex mv k l) (k + 1)).2.2) hw e3.1 (JT_ru e3.2.1) hr (by have := hj2.1; omega) hj2.2.1 hj2.2.2.1
          rw [gp_ex1] at hmf
          rw [hmf, bdE, nmE, li1, nI_add, nI_add]
          rw [gp_ex1] at f1
          exact f1
        · rw [s2, e1, bdE, li1, nI_add]
          exact f2
      by_cases hpar : k % 2 = 0
      · rw [if_pos (show nI k &&& (1 : Int32) = 0 by rw [par]; exact hpar), hpar, if_pos (show nI 0 = 0 from rfl)]
        exact main v1 hv1
      · rw [if_neg (show ¬ nI k &&& (1 : Int32) = 0 by rw [par]; exact hpar), if_neg (show ¬ nI (k % 2) = 0 by rw [li0, eqN (by omega) (by omega)]; exact hpar)]
        exact main v2 hv2
def wnr (N : Nt) (ru p S k : Nat) : Int32 := if (val N ru p S).1 then nI (k % 2) else 1 - nI (k % 2)
theorem X_winner {p m g : Nat} (hw : nwf N) (hr : ru < 5) (hX : RX 1 N σ) (hJ : JT N ru p0 σ) (hj : jok N ru p0 p m g) : ∃ σ', F_X1_winner (nI (st p m g)) (nI (k % 2)) σ = some (wnr N ru p (S_ ru m g) k, σ') ∧ xg σ σ' ∧ JT N ru p0 σ' := by
  obtain ⟨σ2, a1, a2, a3⟩ := X_wins hw hX hr hJ hj
  refine ⟨σ2, ?_, a2, a3⟩
  unfold F_X1_winner wnr
  rw [a1, bdE]
  cases (val N ru p (S_ ru m g)).1
  · rw [bf0, if_pos rfl]; rfl
  · rw [if_neg bt0]; rfl
theorem M_winner {p m g : Nat} (hw : nwf N) (hr : ru < 5) (hM : RM N τ) (hT : MT N τ) (hP : MP ru p m g τ) (hp : p < nn N) (hm : m < 1024) (hg : g < 4096) (h19 : τ 0 19 0 = nI k) (hk : k ≤ 12) : ∃ τ', F_X9_winner τ = some (wnr N ru p (S_ ru m g) k, τ') ∧ ag τ τ' ∧ MT N τ' := by
  obtain ⟨τ2, b1, b2, b3⟩ := M_winsAt hw hM hP.1 hr hT (p := p) (S := S_ ru m g) hp (S_lt hm hg)
  have h19' : τ2 0 19 0 = nI k := by rw [b2 19 (by decide) (by decide) (by decide)]; exact h19
  refine ⟨τ2, ?_, b2, b3⟩
  unfold F_X9_winner wnr
  rw [M_setNow hr hP, bdE, hP.2.1, b1, bdE, M_mover h19' hk, bdE, bdE]
  cases (val N ru p (S_ ru m g)).1
  · rw [bf0, if_pos rfl]; rfl
  · rw [if_neg bt0]; rfl
/-- all that was gone in thought is taken back -/
theorem back_l {k0 : Nat} (hw : nwf N) (hp : p0 < nn N) {b : (S3 → R3) → S3 → R3} {E : S3 → R3} (hb : ∀ K s, b K s = if s 0 19 0 ≤ nI k0 then E s else bd (F_X9_goesBack s) (fun _ s' => K s')) : ∀ (d n : Nat) (s : S3), d < n → k0 + d ≤ 12 → RM N s → GL N ru p0 mv (k0 + d) → GRf N ru p0 mv (k0 + d) s → ∃ τ', zl0 b n s = E τ' ∧ GRf N ru p0 mv k0 τ' ∧ ∀ f, f < 12 ∨ f = 17 ∨ 19 < f → τ' 0 f = s 0 f := by
  intro d
  induction d with
  | zero =>
    intro n s h1 h2 hM hL hG
    obtain ⟨n, rfl⟩ : ∃ m, n = m + 1 := ⟨n - 1, by omega⟩
    refine ⟨s, ?_, hG, fun _ _ => rfl⟩
    rw [zl0_s, hb, hG.2.2.1, if_pos (by rw [leN (by omega) (by omega)]; omega)]
  | succ d ih =>
    intro n s h1 h2 hM hL hG
    obtain ⟨n, rfl⟩ : ∃ m, n = m + 1 := ⟨n - 1, by omega⟩
    obtain ⟨s', e1, e2, e3⟩ := M_goesBack hw hM hp (k := k0 + d) hL (by omega) hG
    obtain ⟨τ', f1, f2, f3⟩ := ih n s' (by omega) (by omega) (RM_fr hM (fun f _ _ => e3 f (by omega))) (fun i hi => hL i (by omega)) e2
    refine ⟨τ', ?_, f2, fun f hf => by rw [f3 f hf, e3 f hf]⟩
    rw [zl0_s, hb, hG.2.2.1, if_neg (by rw [leN (by omega) (by omega)]; omega), e1, bdE]
    exact f1
theorem GRf_c {mv' : Nat → Nat} (h : ∀ j, j < k → mv j = mv' j) (hG : GRf N ru p0 mv k τ) : GRf N ru p0 mv' k τ := by
  obtain ⟨a, b, c, d⟩ := hG
  rw [gp_c k h] at b
  exact ⟨a, b, c, fun i hi => by rw [← h i hi]; exact d i hi⟩
/-- back at the table, after thinking -/
theorem Inv_th (hI : IV N L B σ τ) (hG : GO N ru p0 mv k σ τ) (hs : ∀ c, c ≠ 3 → c ≠ 4 → σ' c = σ c) (hz : σ' 4 2 0 = τ' 0 17 0) (hJ : JT N ru p0 σ') (hM : MT N τ') (hR : GRf N ru p0 mv k τ') (ht : ∀ f, f < 7 ∨ (8 < f ∧ f < 12) ∨ 22 < f → τ' 0 f = τ 0 f) : Inv σ' τ' := by
  obtain ⟨g1, g2, g3, g4, g5, _⟩ := hG
  exact ⟨N, L, B, IV_fr hI (fun c h3 h4 _ _ => hs c h3 h4) (fun f h => ht f (by omega)) hz hM, Or.inr ⟨ru, p0, mv, k, hJ, g1, g2, g3, by rw [hs 6 (by decide) (by decide)]; exact g4, by rw [ht 11 (by omega)]; exact g5, hR⟩⟩
theorem o_fight (h : Inv σ τ) (a0 a1 a2 : Int32) : zst Inv (F_X8_fight a0 a1 a2 σ) (F_X9_fight a0 a1 a2 τ) := by
  have hi := h
  unfold F_X8_fight F_X9_fight
  rw [X_isCode, bdE, M_isCode, bdE]
  cases hb : cdB a0
  · rw [bf0, if_pos rfl, if_pos rfl]; exact err_b (j := 1) hi (by decide)
  · rw [if_neg bt0, if_neg bt0, X_isCode, bdE, M_isCode, bdE]
    cases hb1 : cdB a1
    · rw [bf0, if_pos rfl, if_pos rfl]; exact err_b (j := 1) hi (by decide)
    · rw [if_neg bt0, if_neg bt0, show (1 : Int32) = nI 1 from rfl, ifr _ (by omega), M_in0 _ (by omega), bdE]
      cases hb2 : inB a2 (1 + 1)
      · rw [if_neg Bool.false_ne_true, bf0, if_pos rfl]; exact err_b (j := 1) hi (by decide)
      · rw [if_pos rfl, if_neg bt0]
        refine gcase hi ?_
        intro N L B ru p0 mv k hI hJ hG
        have hw := hI.1
        have hn := hw.2.1
        have hk12 := k12 hI hG
        have hP := GO_PS hI hJ hG
        have hj := hP.2.2.1
        have hR : GRf N ru p0 mv k τ := hG.2.2.2.2.2
        obtain ⟨i', mv', σ1, τ1, f1, f2, f3, f4, f5, f6, f7, f8⟩ := fight_l (k0 := k) (mv0 := mv) (σ0 := σ) (τ0 := τ) hw hG.1 a2 (σ 4 2 0) hb hb1 12 zF zF 0 σ τ mv k (by omega) (zfl (by omega)) (zfl (by omega)) (by omega) hG.2.2.1 hP hR (xz_rf σ) (mw_rf τ) (fun _ _ => rfl)
        have hj1 := f4.2.2.1
        have hk' := GL_rm hw _ f3
        obtain ⟨τ2, y1, y2, y3⟩ := M_winner hw hG.1 f4.2.2.2.1 f4.2.2.2.2.1 f5.2.1 hj1.1 hj1.2.1 hj1.2.2.1 f5.2.2.1 (by omega)
        have hag : GRf N ru p0 mv' (k + i') τ2 := GRf_z f5 (mz_a y2)
        obtain ⟨τ3, b1, b2, b3⟩ := back_l (k0 := k) hw hG.2.1 (b := Fb_X9_fight_70 a2 (nI k) (σ 4 2 0) (nI i') (wnr N ru (gp N p0 mv' (k + i')).1 (S_ ru (gp N p0 mv' (k + i')).2.1 (gp N p0 mv' (k + i')).2.2) (k + i'))) (E := fun s => nm (up s 0 17 0 (σ 4 2 0)) (fun s2505 => if a2 = (0 : Int32) then (some (wnr N ru (gp N p0 mv' (k + i')).1 (S_ ru (gp N p0 mv' (k + i')).2.1 (gp N p0 mv' (k + i')).2.2) (k + i'), s2505)) else (some (nI i', s2505)))) (fun K s => rfl) i' zF τ2 (zfl (by omega)) (by omega) (RM_ag y2 f4.2.2.2.1) f3 hag
        have hR3 : GRf N ru p0 mv k τ3 := GRf_c f8 b2
        have hu : ∀ f, f ≠ 17 → (up τ3 0 17 0 (σ 4 2 0)) 0 f = τ3 0 f := fun f hf => up_f hf
        have hR4 : GRf N ru p0 mv k (up τ3 0 17 0 (σ 4 2 0)) := by
          unfold GRf MP at hR3 ⊢
          rw [hu 12 (by decide), hu 13 (by decide), hu 14 (by decide), hu 15 (by decide), hu 16 (by decide), hu 18 (by decide), hu 19 (by decide)]
          exact hR3
        have ht : ∀ f, f < 7 ∨ (8 < f ∧ f < 12) ∨ 22 < f → (up τ3 0 17 0 (σ 4 2 0)) 0 f = τ 0 f := fun f hf => by rw [hu f (by omega), b3 f (by omega), y2 f (by omega) (by omega) (by omega), f7 f (by omega)]
        have hM3 : MT N (up τ3 0 17 0 (σ 4 2 0)) := MT_f (MT_f y3 (b3 20 (by omega)) (b3 21 (by omega)) (b3 22 (by omega))) (hu 20 (by decide)) (hu 21 (by decide)) (hu 22 (by decide))
        have hJ1 : JT N ru p0 (up σ1 4 2 0 (σ 4 2 0)) := JT_c f4.2.1 (up_c (by decide))
        have hX1 : RX 1 N (up σ1 4 2 0 (σ 4 2 0)) := RX_c (up_c (by decide)) f4.1
        unfold F_X8_fight_86 F_X9_plays F_X9_plays_3 F_X9_fight_70
        rw [nmE, X_stand hk12 hG, bdE, nmE, X_movesFrom hw hI.2.1 (JT_ru hJ) hG.1 (by have := hj.1; omega) hj.2.1 hj.2.2.1, bdE, hG.2.2.2.1.2.2.1, hR.2.2.1, ← Inv_z hi, nmE, nmE]
        have f1' : zl4 (Fb_X8_fight_86 a0 a1 a2 (σ 4 2 0)) zF (nI (stt (gp N p0 mv k))) (nI k) (nI (bset (nk N) (fun l => mvB N ru l (gp N p0 mv k).1 (S_ ru (gp N p0 mv k).2.1 (gp N p0 mv k).2.2)))) 0 σ = _ := f1
        have f2' : zl1 (Fb_X9_plays_3 a0 a1 13) zF 0 τ = some (nI i', τ1) := f2
        rw [f1', f2', bdE, y1, bdE, b1]
        unfold F_X8_fight_159
        rw [nmE, nmE, show nI (k + i') &&& (1 : Int32) = nI ((k + i') % 2) from bitN _]
        by_cases e0 : a2 = 0
        · rw [if_pos e0, if_pos e0]
          obtain ⟨σ2, x1, x2, x3⟩ := X_winner (k := k + i') hw hG.1 hX1 hJ1 hj1
          rw [show stt (gp N p0 mv' (k + i')) = st (gp N p0 mv' (k + i')).1 (gp N p0 mv' (k + i')).2.1 (gp N p0 mv' (k + i')).2.2 from rfl, x1, bdE]
          refine ⟨_, _, _, rfl, rfl, Inv_th hI hG (fun c h3 h4 => by rw [xg_c x2 h3, up_c h4, xz_c f6 h3 h4]) (by rw [x2 4 2 (by omega), up_at, up_at]) x3 hM3 hR4 ht⟩
        · rw [if_neg e0, if_neg e0, up_c (show 6 ≠ 4 by decide), xz_c f6 (by decide) (by decide), hG.2.2.2.1.2.2.1, subN (by omega), show k + i' - k = i' by omega]
          exact ⟨_, _, _, rfl, rfl, Inv_th hI hG (fun c h3 h4 => by rw [up_c h4, xz_c f6 h3 h4]) (by rw [up_at, up_at]) hJ1 hM3 hR4 ht⟩
end
