/-! PURE: the calls, one by one: what a game shows -/
section
variable {N : Nt} {L : Nat} {B : Nat → Nat} {σ τ σ' τ' : S3} {ru p0 k : Nat} {mv : Nat → Nat}
theorem ifl {α : Type} (v : Int32) (n : Nat) (A C : α) : (if v < 0 then A else if v < nI n then C else A) = if inB v n = true then C else A := by
  rw [← ifs v n A C]
  by_cases h0 : v < 0
  · rw [if_pos h0, if_pos h0]
  · rw [if_neg h0, if_neg h0]
    by_cases h : nI n ≤ v
    · rw [if_pos h, if_neg (fun x => Int32.lt_irrefl (Int32.lt_of_le_of_lt h x))]
    · rw [if_neg h, if_pos (by rw [i_ge]; exact h)]
theorem o_game (h : Inv σ τ) (a0 : Int32) : zst Inv (F_X8_game a0 σ) (F_X9_game a0 τ) := by
  have hi := h
  unfold F_X8_game F_X9_game
  rw [show (7 : Int32) = nI 7 from rfl, ifr _ (by omega), M_in0 _ (by omega), bdE]
  cases hb : inB a0 (7 + 1)
  · rw [if_neg Bool.false_ne_true, bf0, if_pos rfl]; exact err_b (j := 1) hi (by decide)
  · rw [if_pos rfl, if_neg bt0]
    refine gcase hi ?_
    intro N L B ru p0 mv k hI hJ hG
    have hw := hI.1
    have hn := hw.2.1
    have hk := k12 hI hG
    have hP := GO_PS hI hJ hG
    have hj := hP.2.2.1
    have hp16 : (gp N p0 mv k).1 < 16 := by have := hj.1; omega
    have hMP := hG.2.2.2.2.2.2.1
    rw [X_stand hk hG, bdE, hG.2.2.2.1.1, hMP.1, X_marker hp16, bdE, hMP.2.1, X_met hp16 hj.2.1 hj.2.2.1, bdE, hMP.2.2.1, X_gone hp16 hj.2.1 hj.2.2.1, bdE, hMP.2.2.2, hG.2.2.2.1.2.2.1, hG.2.2.2.2.2.2.2.1, M_mover hG.2.2.2.2.2.2.2.1 hk, bdE, X_isOver hI hJ hG, bdE, M_isOver hw hI.2.2.1 hG.1 hMP hj.1 hj.2.1 hj.2.2.1, bdE]
    by_cases e0 : a0 = 0
    · rw [if_pos e0, if_pos e0]; exact ret_b hi _
    · rw [if_neg e0, if_neg e0]
      by_cases e1 : a0 = 1
      · rw [if_pos e1, if_pos e1]; exact ret_b hi _
      · rw [if_neg e1, if_neg e1]
        by_cases e2 : a0 = 2
        · rw [if_pos e2, if_pos e2]; exact ret_b hi _
        · rw [if_neg e2, if_neg e2]
          by_cases e3 : a0 = 3
          · rw [if_pos e3, if_pos e3]; exact ret_b hi _
          · rw [if_neg e3, if_neg e3]
            by_cases e4 : a0 = 4
            · rw [if_pos e4, if_pos e4]; exact ret_b hi _
            · rw [if_neg e4, if_neg e4]
              have hbit : nI k &&& (1 : Int32) = nI (k % 2) := bitN k
              rw [hbit]
              by_cases e5 : a0 = 5
              · rw [if_pos e5, if_pos e5]; exact ret_b hi _
              · rw [if_neg e5, if_neg e5]
                by_cases e6 : a0 = 6
                · rw [if_pos e6, if_pos e6]
                  cases decide (oM N ru (gp N p0 mv k).1 (gp N p0 mv k).2.1 (gp N p0 mv k).2.2 = 0)
                  · rw [bf0, if_pos rfl, if_pos rfl]; exact ret_b hi _
                  · rw [if_neg bt0, if_neg bt0]; exact ret_b hi _
                · rw [if_neg e6, if_neg e6]
                  obtain ⟨r, σ', τ', x1, x2, x3, x4, x5⟩ := winner_b hw hG.1 hP hG.2.2.2.2.2.2.2.1 hk
                  rw [show stt (gp N p0 mv k) = st (gp N p0 mv k).1 (gp N p0 mv k).2.1 (gp N p0 mv k).2.2 from rfl, x1, bdE, x2, bdE]
                  exact ⟨_, _, _, rfl, rfl, Inv_x hI hG x3 x5.2.1 x4 x5.2.2.2.2.1⟩
theorem o_moved (h : Inv σ τ) (a0 : Int32) : zst Inv (F_X8_moved a0 σ) (F_X9_moved a0 τ) := by
  have hi := h
  unfold F_X8_moved F_X9_moved
  refine gcase hi ?_
  intro N L B ru p0 mv k hI hJ hG
  have hk := k12 hI hG
  rw [hG.2.2.2.1.2.2.1, hG.2.2.2.2.2.2.2.1, ifl, M_inS _ (by omega), bdE]
  cases hb : inB a0 k
  · rw [if_neg Bool.false_ne_true, bf0, if_pos rfl]; exact err_b (j := 2) hi (by decide)
  · rw [if_pos rfl, if_neg bt0]
    obtain ⟨i, hil, e⟩ := inB_t (by omega) hb
    subst e
    rw [ckN (by omega) (by omega), ckN (by omega) (by omega), ixN (by omega), hG.2.2.2.1.2.2.2.1 i hil, hG.2.2.2.2.2.2.2.2 i hil]
    exact ret_b hi _
theorem o_moves (h : Inv σ τ) (a0 : Int32) : zst Inv (F_X8_moves a0 σ) (F_X9_moves a0 τ) := by
  have hi := h
  unfold F_X8_moves F_X9_moves
  rw [show (1 : Int32) = nI 1 from rfl, ifr _ (by omega), M_in0 _ (by omega), bdE]
  cases hb : inB a0 (1 + 1)
  · rw [if_neg Bool.false_ne_true, bf0, if_pos rfl]; exact err_b (j := 1) hi (by decide)
  · rw [if_pos rfl, if_neg bt0]
    refine gcase hi ?_
    intro N L B ru p0 mv k hI hJ hG
    have hw := hI.1
    have hn := hw.2.1
    have hP := GO_PS hI hJ hG
    have hj := hP.2.2.1
    have hMP := hG.2.2.2.2.2.2.1
    rw [X_stand (k12 hI hG) hG, bdE, bdE, X_movesFrom hw hI.2.1 (JT_ru hJ) hG.1 (by have := hj.1; omega) hj.2.1 hj.2.2.1, bdE, M_movesNow hw hI.2.2.1 hG.1 hMP hj.1 hj.2.1 hj.2.2.1, bdE]
    by_cases e0 : a0 = 0
    · rw [if_pos e0, if_pos e0]; exact ret_b hi _
    · rw [if_neg e0, if_neg e0]
      obtain ⟨σ1, x1, x2, x3⟩ := X_winningFrom hw hI.2.1 hG.1 hJ hj
      obtain ⟨τ1, y1, y2, y3⟩ := M_winning hw hI.2.2.1 hG.1 hI.2.2.2.1 hMP hj.1 hj.2.1 hj.2.2.1
      rw [x1, bdE, y1, bdE]
      exact ⟨_, _, _, rfl, rfl, Inv_x hI hG x2 x3 y2 y3⟩
theorem M_tabs (hn : nn N ≤ 10) (hu : τ 0 12 0 = nI ru) (hr : ru < 5) (hM : MT N τ) : ∃ τ', F_X9_tables τ = some (nI 0, τ') ∧ ag τ τ' ∧ τ' 0 22 0 = nI ru ∧ MT N τ' := by
  obtain ⟨τ', e1, e2, e3, e4, e5⟩ := M_tables hn hu hr hM
  refine ⟨τ', e1, e2, e3, ?_⟩
  intro r' hr' e
  rw [e3, eqN (by omega) (by omega)] at e
  subst e
  exact ⟨e4, e5⟩
theorem o_worth (h : Inv σ τ) (a0 : Int32) : zst Inv (F_X8_worth a0 σ) (F_X9_worth a0 τ) := by
  have hi := h
  unfold F_X8_worth F_X9_worth
  rw [show (1 : Int32) = nI 1 from rfl, ifr _ (by omega), M_in0 _ (by omega), bdE]
  cases hb : inB a0 (1 + 1)
  · rw [if_neg Bool.false_ne_true, bf0, if_pos rfl]; exact err_b (j := 1) hi (by decide)
  · rw [if_pos rfl, if_neg bt0]
    refine gcase hi ?_
    intro N L B ru p0 mv k hI hJ hG
    have hw := hI.1
    have hn := hw.2.1
    have hP := GO_PS hI hJ hG
    have hj := hP.2.2.1
    have hMP := hG.2.2.2.2.2.2.1
    have main : zst Inv (F_X8_worth_53 a0 σ) (F_X9_worth_47 a0 τ) := by
      unfold F_X8_worth_53 F_X9_worth_47
      obtain ⟨τ1, y1, y2, y3, y4⟩ := M_tabs hw.2.1 hMP.1 hG.1 hI.2.2.2.1
      have hMP1 := MP_ag y2 hMP
      have hM1 := RM_ag y2 hI.2.2.1
      have hSl := S_lt (ru := ru) hj.2.1 hj.2.2.1
      rw [X_stand (k12 hI hG) hG, bdE, bdE, y1, bdE, M_setNow hG.1 hMP1, bdE, bdE, hMP1.2.1]
      by_cases e0 : a0 = 0
      · rw [if_pos e0, if_pos e0]
        obtain ⟨σ2, x1, x2, x3⟩ := X_lengthFrom hw hI.2.1 hG.1 hJ hj
        obtain ⟨τ2, z1, z2, z3⟩ := M_longAt hw hM1 hMP1.1 hG.1 y4 hj.1 hSl
        rw [x1, bdE, z1, bdE]
        exact ⟨_, _, _, rfl, rfl, Inv_x hI hG x2 x3 (ag_tr y2 z2) z3⟩
      · rw [if_neg e0, if_neg e0]
        obtain ⟨σ2, x1, x2, x3⟩ := X_nimFrom hw hI.2.1 hG.1 hJ hj
        obtain ⟨τ2, z1, z2, z3⟩ := M_nim20 hw hM1 hMP1.1 hG.1 y3 y4 hj.1 hSl
        rw [x1, bdE, z1, bdE]
        exact ⟨_, _, _, rfl, rfl, Inv_x hI hG x2 x3 (ag_tr y2 z2) z3⟩
    rw [hG.2.2.2.1.1, hMP.1]
    by_cases e1 : a0 = nI 1
    · rw [if_pos e1, if_pos e1]
      by_cases e4 : nI ru = 4
      · rw [if_pos e4, if_pos e4]; exact err_b (j := 5) hi (by decide)
      · rw [if_neg e4, if_neg e4]; exact main
    · rw [if_neg e1, if_neg e1]; exact main
theorem o_reach (h : Inv σ τ) : zst Inv (F_X8_reach σ) (F_X9_reach τ) := by
  have hi := h
  unfold F_X8_reach F_X9_reach
  refine gcase hi ?_
  intro N L B ru p0 mv k hI hJ hG
  have hw := hI.1
  have hP := GO_PS hI hJ hG
  have hj := hP.2.2.1
  obtain ⟨R, x1, x2⟩ := X_reachFrom hw hI.2.1 (JT_ru hJ) hG.1 hj.1 hj.2.1 hj.2.2.1
  obtain ⟨R', g', y1, y2, y3⟩ := M_reach hw hI.2.2.1 hG.1 hG.2.2.2.2.2.2.1 hj.1 hj.2.1 hj.2.2.1
  have e : R = R' := by
    apply Nat.eq_of_testBit_eq
    intro q
    rw [Bool.eq_iff_iff, x2 q, y3 q]
  subst e
  rw [X_stand (k12 hI hG) hG, bdE, x1, bdE, y1]
  exact ⟨_, _, _, rfl, rfl, Inv_fr hi (fun _ _ _ => rfl) (fun f hf => by rw [upA_f (by omega)]) (by rw [upA_f (by decide)]; exact Inv_z hi)⟩
theorem starts_b {r : Nat} (hw : nwf N) (hr : r < 5) {was : Int32} : ∀ (d n1 n2 i : Nat) (σ τ : S3), i + d = nn N → d < n1 → d < n2 → RX 1 N σ → JF σ → RM N τ → MT N τ → τ 0 12 0 = nI r → ∃ σ' τ', zl2 (Fb_X8_starts_17 (nI r)) n1 (nI (bset i (fun p => (val N r p (S_ r (2 ^ p) 0)).1))) (nI i) σ = bd (F_X1_turnTo (σ' 6 1 0) σ') (fun _ s => some (nI (bset (nn N) (fun p => (val N r p (S_ r (2 ^ p) 0)).1)), s)) ∧ zl2 (Fb_X9_starts_30 was) n2 (nI (bset i (fun p => (val N r p (S_ r (2 ^ p) 0)).1))) (nI i) τ = some (nI (bset (nn N) (fun p => (val N r p (S_ r (2 ^ p) 0)).1)), up τ' 0 12 0 was) ∧ (∀ c, c ≠ 3 → σ' c = σ c) ∧ JF σ' ∧ ag τ τ' ∧ MT N τ' := by
  have hn := hw.2.1
  intro d
  induction d with
  | zero =>
    intro n1 n2 i σ τ hi h1 h2 hX hJ hM hT hu
    obtain ⟨n1, rfl⟩ : ∃ m, n1 = m + 1 := ⟨n1 - 1, by omega⟩
    obtain ⟨n2, rfl⟩ : ∃ m, n2 = m + 1 := ⟨n2 - 1, by omega⟩
    have e : i = nn N := by omega
    subst e
    refine ⟨σ, τ, ?_, ?_, fun _ _ => rfl, hJ, ag_rf τ, hT⟩
    · rw [zl2_s]
      generalize zl2 (Fb_X8_starts_17 (nI r)) n1 = K
      unfold Fb_X8_starts_17
      rw [hX.1, if_pos (Int32.le_refl _)]
    · rw [zl2_s]
      generalize zl2 (Fb_X9_starts_30 was) n2 = K
      unfold Fb_X9_starts_30
      rw [hM.1, if_pos (Int32.le_refl _), nmE]
  | succ d ih =>
    intro n1 n2 i σ τ hi h1 h2 hX hJ hM hT hu
    obtain ⟨n1, rfl⟩ : ∃ m, n1 = m + 1 := ⟨n1 - 1, by omega⟩
    obtain ⟨n2, rfl⟩ : ∃ m, n2 = m + 1 := ⟨n2 - 1, by omega⟩
    have hil : i < nn N := by omega
    have hnle : ¬ nI (nn N) ≤ nI i := by rw [leN (by omega) (by omega)]; omega
    obtain ⟨σ1, x1, x2, x3⟩ := X_turnTo (r := r) hJ
    have hj : jok N r i i (2 ^ i) 0 := gp_jok hw (p0 := i) (mv := fun _ => 0) hil 0 (fun j hj => absurd hj (Nat.not_lt_zero j))
    obtain ⟨σ2, a1, a2, a3⟩ := X_wins hw (RX_c (x3 1 (by decide)) hX) hr (x2 N i hw) hj
    obtain ⟨τ2, b1, b2, b3⟩ := M_winsAt hw hM hu hr hT (p := i) (S := S_ r (2 ^ i) 0) hil (S_lt (p2_lt (m := 10) (by omega)) (by omega))
    have ihn := ih n1 n2 (i + 1) σ2 τ2 (by omega) (by omega) (by omega) (RX_g a2 (by decide) (RX_c (x3 1 (by decide)) hX)) (JT_JF a3) (RM_ag b2 hM) b3 (by rw [b2 12 (by decide) (by decide) (by decide)]; exact hu)
    have hbs : bset (i + 1) (fun p => (val N r p (S_ r (2 ^ p) 0)).1) = bset i (fun p => (val N r p (S_ r (2 ^ p) 0)).1) ||| (if (val N r i (S_ r (2 ^ i) 0)).1 then 2 ^ i else 0) := rfl
    rw [hbs] at ihn
    obtain ⟨σ', τ', f1, f2, f3, f4, f5, f6⟩ := ihn
    refine ⟨σ', τ', ?_, ?_, fun c hc => by rw [f3 c hc, xg_c a2 hc, x3 c hc], f4, ag_tr b2 f5, f6⟩
    · rw [zl2_s]
      generalize zl2 (Fb_X8_starts_17 (nI r)) n1 = K at f1 ⊢
      unfold Fb_X8_starts_17
      rw [hX.1, if_neg hnle, x1, bdE, X_atFirst (by omega), bdE, a1, bdE, li1, shl1 (by omega), orN, nI_add, nmE, nmE, nmE]
      cases hv : (val N r i (S_ r (2 ^ i) 0)).1
      · rw [hv] at f1
        rw [bf0, if_pos rfl]
        simp at f1
        exact f1
      · rw [hv] at f1
        rw [if_neg bt0]
        exact f1
    · rw [zl2_s]
      generalize zl2 (Fb_X9_starts_30 was) n2 = K at f2 ⊢
      unfold Fb_X9_starts_30
      rw [hM.1, if_neg hnle, M_isByLines hu hr, bdE]
      have h58 : F_X9_starts_58 K was (nI i) (nI (S_ r (2 ^ i) 0)) (nI i) (nI (bset i (fun p => (val N r p (S_ r (2 ^ p) 0)).1))) τ = some (nI (bset (nn N) (fun p => (val N r p (S_ r (2 ^ p) 0)).1)), up τ' 0 12 0 was) := by
        unfold F_X9_starts_58
        rw [b1, bdE, li1, shl1 (by omega), li0, orN, orN, nI_add, nmE, nmE, nmE, nmE]
        cases hv : (val N r i (S_ r (2 ^ i) 0)).1
        · rw [hv] at f2
          rw [show b2i false = nI 0 from rfl, if_pos rfl]
          exact f2
        · rw [hv] at f2
          rw [show b2i true = nI 1 from rfl, if_neg n1_0]
          exact f2
      cases hL : byL r
      · have hS : S_ r (2 ^ i) 0 = 2 ^ i := by unfold S_; rw [hL]; rfl
        rw [hS] at h58
        rw [bf0, if_pos rfl, li1, shl1 (by omega)]
        exact h58
      · have hS : S_ r (2 ^ i) 0 = 0 := by unfold S_; rw [hL]; rfl
        rw [hS] at h58
        rw [if_neg bt0]
        exact h58
theorem o_starts (h : Inv σ τ) (a0 : Int32) : zst Inv (F_X8_starts a0 σ) (F_X9_starts a0 τ) := by
  have hi := h
  obtain ⟨N, L, B, hI, hG⟩ := h
  have hw := hI.1
  have hn := hw.2.1
  have hJF : JF σ := by
    rcases hG with ⟨ru, h⟩ | ⟨ru, p0, mv, k, h1, h2⟩
    · exact h.2.2.2.2.2
    · exact JT_JF h1
  have hru : ∃ ru, ru < 5 ∧ σ 6 1 0 = nI ru ∧ τ 0 12 0 = nI ru := by
    rcases hG with ⟨ru, h⟩ | ⟨ru, p0, mv, k, h1, h2⟩
    · exact ⟨ru, h.1, h.2.1, h.2.2.1⟩
    · exact ⟨ru, h2.1, h2.2.2.2.1.1, h2.2.2.2.2.2.2.1.1⟩
  unfold F_X8_starts F_X9_starts
  rw [X_isRule, bdE, show (4 : Int32) = nI 4 from rfl, M_in0 _ (by omega), bdE]
  cases hb : inB a0 (4 + 1)
  · rw [bf0, if_pos rfl, if_pos rfl]; exact err_b (j := 1) hi (by decide)
  · rw [if_neg bt0, if_neg bt0, nmE, nmE]
    obtain ⟨r, hr, er⟩ := inB_t (by omega) hb
    subst er
    obtain ⟨ru, hru5, h61, h12⟩ := hru
    have hu2 : ∀ f, f ≠ 12 → up τ 0 12 0 (nI r) 0 f = τ 0 f := fun f hf => up_f hf
    obtain ⟨σ1, τ1, e1, e2, e3, e4, e5, e6⟩ := starts_b (was := nI ru) hw (show r < 5 from hr) (nn N) zF zF 0 σ (up τ 0 12 0 (nI r)) (by omega) (zfl (by omega)) (zfl (by omega)) hI.2.1 hJF (RM_fr hI.2.2.1 (fun f _ _ => hu2 f (by omega))) (MT_f hI.2.2.2.1 (hu2 20 (by decide)) (hu2 21 (by decide)) (hu2 22 (by decide))) up_at
    obtain ⟨σ2, x1, x2, x3⟩ := X_turnTo (r := ru) e4
    have h61' : σ1 6 1 0 = nI ru := by rw [e3 6 (by decide)]; exact h61
    unfold F_X8_starts_17 F_X9_starts_30
    have e1' : zl2 (Fb_X8_starts_17 (nI r)) zF 0 0 σ = _ := e1
    have e2' : zl2 (Fb_X9_starts_30 (nI ru)) zF 0 0 (up τ 0 12 0 (nI r)) = _ := e2
    rw [h12, e1', e2', h61', x1, bdE]
    have ht : ∀ f, f ≠ 20 → f ≠ 21 → f ≠ 22 → (up τ1 0 12 0 (nI ru)) 0 f 0 = τ 0 f 0 ∨ f ≠ 12 ∧ (up τ1 0 12 0 (nI ru)) 0 f = τ 0 f := by
      intro f f0 f1 f2
      by_cases e : f = 12
      · subst e; left; rw [up_at, h12]
      · right; exact ⟨e, by rw [up_f e, e5 f f0 f1 f2, hu2 f e]⟩
    have hf : ∀ f, f ≠ 12 → f ≠ 20 → f ≠ 21 → f ≠ 22 → (up τ1 0 12 0 (nI ru)) 0 f = τ 0 f := fun f e f0 f1 f2 => by rw [up_f e, e5 f f0 f1 f2, hu2 f e]
    have hs : ∀ c, c ≠ 3 → σ2 c = σ c := fun c hc => by rw [x3 c hc, e3 c hc]
    have hI2 : IV N L B σ2 (up τ1 0 12 0 (nI ru)) := IV_fr hI (fun c h3 _ _ _ => hs c h3) (fun f h => hf f (by omega) (by omega) (by omega) (by omega)) (by rw [hs 4 (by decide), hf 17 (by decide) (by decide) (by decide) (by decide)]; exact hI.2.2.2.2.2.2.1) (MT_f e6 (up_f (by decide)) (up_f (by decide)) (up_f (by decide)))
    refine ⟨_, _, _, rfl, rfl, N, L, B, hI2, ?_⟩
    rcases hG with ⟨ru', h⟩ | ⟨ru', p0, mv, k, h1, h2⟩
    · refine Or.inl ⟨ru, hru5, by rw [hs 6 (by decide)]; exact h61, up_at, by rw [hs 6 (by decide)]; exact h.2.2.2.1, by rw [hf 11 (by decide) (by decide) (by decide) (by decide)]; exact h.2.2.2.2.1, JT_JF (x2 N 0 hw)⟩
    · have : ru' = ru := by
        have := h2.2.2.2.1.1
        rw [h61, eqN (by omega) (by have := h2.1; omega)] at this
        omega
      subst this
      refine Or.inr ⟨ru', p0, mv, k, x2 N p0 hw, ?_⟩
      obtain ⟨g1, g2, g3, g4, g5, g6, ⟨m1, m2, m3, m4⟩, g8, g9⟩ := h2
      refine ⟨g1, g2, g3, by rw [hs 6 (by decide)]; exact g4, by rw [hf 11 (by decide) (by decide) (by decide) (by decide)]; exact g5, by rw [hf 13 (by decide) (by decide) (by decide) (by decide)]; exact g6, ⟨up_at, by rw [hf 14 (by decide) (by decide) (by decide) (by decide)]; exact m2, by rw [hf 15 (by decide) (by decide) (by decide) (by decide)]; exact m3, by rw [hf 16 (by decide) (by decide) (by decide) (by decide)]; exact m4⟩, by rw [hf 19 (by decide) (by decide) (by decide) (by decide)]; exact g8, by rw [hf 18 (by decide) (by decide) (by decide) (by decide)]; exact g9⟩
/-! the tree -/
theorem grown_b (hI : IV N L B σ τ) (hJ : JT N ru p0 σ) (hG : GO N ru p0 mv k σ τ) : ∃ b σ' τ', F_X7_build (nI (stt (gp N p0 mv k))) σ = some (b2i b, σ') ∧ F_X9_isGrown τ = some (b2i b, τ') ∧ Inv σ' τ' ∧ (b = true → ∃ n, TR n σ' τ') := by
  have hw := hI.1
  have hP := GO_PS hI hJ hG
  have hj := hP.2.2.1
  have hMP := hG.2.2.2.2.2.2.1
  have hTS : TS N ru p0 (up (up (up (up σ 5 3 0 0) 5 4 0 0) 5 5 0 0) 5 6 0 0) (up (up (up τ 0 24 0 0) 0 25 0 0) 0 26 0 0) := TS_u (TS_u (TS_u (TS_u (TS_v (by omega) (TS_v (by omega) (TS_v (by omega) ⟨hI.2.1, hJ, hI.2.2.1, hI.2.2.2.1, hMP.1⟩))))))
  have hTR : TR 0 (up (up (up (up σ 5 3 0 0) 5 4 0 0) 5 5 0 0) 5 6 0 0) (up (up (up τ 0 24 0 0) 0 25 0 0) 0 26 0 0) := by
    refine ⟨by omega, ?_, ?_, ?_, ?_, ?_, fun i hi => absurd hi (Nat.not_lt_zero i)⟩
    · rw [up_f (by decide), up_f (by decide), up_f (by decide), up_at]; rfl
    · rw [up_f (by decide), up_f (by decide), up_at]; rfl
    · rw [up_at]; rfl
    · rw [up_f (by decide), up_f (by decide), up_at, up_f (by decide), up_at]
    · rw [up_f (by decide), up_at, up_at]
  have hxq : xq σ (up (up (up (up σ 5 3 0 0) 5 4 0 0) 5 5 0 0) 5 6 0 0) := xq_tr (xq_tr (xq_tr (xq_up σ _ _ _) (xq_up _ _ _ _)) (xq_up _ _ _ _)) (xq_up _ _ _ _)
  have hmq : mq τ (up (up (up τ 0 24 0 0) 0 25 0 0) 0 26 0 0) := mq_tr (mq_tr (mq_up τ (by omega) 0 _) (mq_up _ (by omega) 0 _)) (mq_up _ (by omega) 0 _)
  have hMP1 : MP ru (gp N p0 mv k).1 (gp N p0 mv k).2.1 (gp N p0 mv k).2.2 (up (up (up τ 0 24 0 0) 0 25 0 0) 0 26 0 0) := by
    unfold MP at hMP ⊢
    rw [hmq 12 (by decide) (by decide) (by decide) (by omega), hmq 14 (by decide) (by decide) (by decide) (by omega), hmq 15 (by decide) (by decide) (by decide) (by omega), hmq 16 (by decide) (by decide) (by decide) (by omega)]
    exact hMP
  obtain ⟨τ1, y1, y2, y3⟩ := M_winsAt hw hTS.2.2.1 hMP1.1 hG.1 hTS.2.2.2.1 hj.1 (S_lt (ru := ru) hj.2.1 hj.2.2.1)
  have h12 := rm12 hw ru (S_ ru (gp N p0 mv k).2.1 (gp N p0 mv k).2.2)
  obtain ⟨σ', τ', c1, c2, c3, c4, c5, c6⟩ := grow_b hw hG.1 20 (gp N p0 mv k).1 (gp N p0 mv k).2.1 (gp N p0 mv k).2.2 0 (-1) 0 _ τ1 hj (by omega) (by omega) (TS_m hTS y2 y3) (TR_m hTR y2)
  have hI' : Inv σ' τ' := by
    have hx := xq_tr hxq c4
    have hm := mq_tr hmq (mq_tr (mq_a y2) c5)
    exact Inv_g hI hG c3.2.1 c3.2.2.2.1 (fun c h3 h4 h5 => funext (fun f => hx c f h5 (by omega))) (fun f hf => hm f (by omega) (by omega) (by omega) (by omega)) (by rw [hx 4 2 (by decide) (by omega), hm 17 (by decide) (by decide) (by decide) (by omega)]; exact hI.2.2.2.2.2.2.1)
  have hb1 : F_X7_build (nI (stt (gp N p0 mv k))) σ = if σ' 5 6 0 = 0 then some (1, σ') else some (0, σ') := by
    unfold F_X7_build F_X7_grow
    simp only [nmE]
    have c1' : zl3 F_X7_grow_0 20 (nI (stt (gp N p0 mv k))) (-1) 0 (up (up (up (up σ 5 3 0 0) 5 4 0 0) 5 5 0 0) 5 6 0 0) = some (nI 0, σ') := c1
    rw [c1', bdE]
  have hb2 : F_X9_isGrown τ = if (300 : Int32) < τ' 0 24 0 then some (0, τ') else some (1, τ') := by
    unfold F_X9_isGrown F_X9_grows
    simp only [nmE]
    have c2' : zl5 F_X9_grows_0 20 (nI (gp N p0 mv k).1) (nI (S_ ru (gp N p0 mv k).2.1 (gp N p0 mv k).2.2)) (b2i (val N ru (gp N p0 mv k).1 (S_ ru (gp N p0 mv k).2.1 (gp N p0 mv k).2.2)).1) (-1) 0 τ1 = some (nI 0, τ') := c2
    rw [M_setNow hG.1 hMP1, bdE, M_setNow hG.1 hMP1, bdE, hMP1.2.1, y1, bdE, c2', bdE]
  rcases c6 with ⟨n, hT⟩ | hO
  · refine ⟨true, σ', τ', ?_, ?_, hI', fun _ => ⟨n, hT⟩⟩
    · rw [hb1, hT.2.2.2.1, li0, if_pos rfl]; rfl
    · rw [hb2, hT.2.2.1, li300, if_neg (by have := hT.1; rw [ltN (by omega) (by omega)]; omega)]; rfl
  · refine ⟨false, σ', τ', ?_, ?_, hI', fun h => by cases h⟩
    · rw [hb1, hO.1, li0, if_neg n1_0]; rfl
    · rw [hb2, hO.2, li300, if_pos (by rw [ltN (by omega) (by omega)]; omega)]; rfl
theorem o_tree (h : Inv σ τ) (a0 : Int32) : zst Inv (F_X8_tree a0 σ) (F_X9_tree a0 τ) := by
  have hi := h
  unfold F_X8_tree F_X9_tree
  rw [show (2 : Int32) = nI 2 from rfl, ifr _ (by omega), M_in0 _ (by omega), bdE]
  cases hb : inB a0 (2 + 1)
  · rw [if_neg Bool.false_ne_true, bf0, if_pos rfl]; exact err_b (j := 1) hi (by decide)
  · rw [if_pos rfl, if_neg bt0]
    refine gcase hi ?_
    intro N L B ru p0 mv k hI hJ hG
    obtain ⟨b, σ', τ', x1, x2, x3, x4⟩ := grown_b hI hJ hG
    rw [X_stand (k12 hI hG) hG, bdE, x1, bdE, x2, bdE]
    cases b
    · rw [bf0, if_pos rfl, if_pos rfl]; exact err_b (j := 4) x3 (by decide)
    · obtain ⟨n, hT⟩ := x4 rfl
      rw [if_neg bt0, if_neg bt0, hT.2.1, hT.2.2.1, hT.2.2.2.2.1, hT.2.2.2.2.2.1]
      by_cases e0 : a0 = 0
      · rw [if_pos e0, if_pos e0]; exact ret_b x3 _
      · rw [if_neg e0, if_neg e0]
        by_cases e1 : a0 = 1
        · rw [if_pos e1, if_pos e1]; exact ret_b x3 _
        · rw [if_neg e1, if_neg e1]; exact ret_b x3 _
theorem o_node (h : Inv σ τ) (a0 : Int32) : zst Inv (F_X8_node a0 σ) (F_X9_node a0 τ) := by
  have hi := h
  unfold F_X8_node F_X9_node
  refine gcase hi ?_
  intro N L B ru p0 mv k hI hJ hG
  obtain ⟨b, σ', τ', x1, x2, x3, x4⟩ := grown_b hI hJ hG
  rw [X_stand (k12 hI hG) hG, bdE, x1, bdE, x2, bdE]
  cases b
  · rw [bf0, if_pos rfl, if_pos rfl]; exact err_b (j := 4) x3 (by decide)
  · obtain ⟨n, hT⟩ := x4 rfl
    have hn := hT.1
    rw [if_neg bt0, if_neg bt0, hT.2.1, hT.2.2.1]
    have hr : F_X9_in a0 1 (nI n - 1) τ' = some (b2i (decide (1 ≤ a0 ∧ a0 < nI n)), τ') := by
      have hiff : (1 ≤ a0 ∧ a0 ≤ nI n - 1) ↔ (1 ≤ a0 ∧ a0 < nI n) := by
        constructor
        · rintro ⟨h1, h3⟩
          refine ⟨h1, ?_⟩
          obtain ⟨j, hj, e⟩ := nI_of (show ¬ a0 < 0 by rw [i_nlt]; exact Int32.le_trans (by decide) h1)
          subst e
          by_cases h0 : n = 0
          · subst h0
            rw [show nI 0 - 1 = -nI 1 from rfl, m1_le (by omega)] at h3
            exact h3.elim
          · rw [li1, subN (by omega), leN (by omega) (by omega)] at h3
            rw [ltN (by omega) (by omega)]
            omega
        · rintro ⟨h1, h3⟩
          refine ⟨h1, ?_⟩
          obtain ⟨j, hj, e⟩ := nI_of (show ¬ a0 < 0 by rw [i_nlt]; exact Int32.le_trans (by decide) h1)
          subst e
          rw [ltN (by omega) (by omega)] at h3
          rw [li1, subN (by omega), leN (by omega) (by omega)]
          omega
      rw [M_in, decide_eq_decide.mpr hiff]
    rw [hr, bdE]
    by_cases c : 1 ≤ a0 ∧ a0 < nI n
    · rw [decide_eq_true c, if_neg bt0, if_neg (by rw [i_nlt]; exact c.1), if_pos c.2]
      obtain ⟨j, hj, e⟩ := nI_of (show ¬ a0 < 0 by rw [i_nlt]; exact Int32.le_trans (by decide) c.1)
      subst e
      have hjn : j < n := by have := c.2; rw [ltN (by omega) (by omega)] at this; exact this
      rw [ckN (by omega) (by omega), ckN (by omega) (by omega), ixN (by omega), hT.2.2.2.2.2.2 j hjn]
      exact ret_b x3 _
    · rw [decide_eq_false c, bf0, if_pos rfl]
      by_cases c1 : a0 < 1
      · rw [if_pos c1]; exact err_b (j := 2) x3 (by decide)
      · rw [if_neg c1, if_neg (fun h => c ⟨by rw [i_nlt] at c1; exact c1, h⟩)]
        exact err_b (j := 2) x3 (by decide)
end
