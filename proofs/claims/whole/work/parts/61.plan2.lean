/-! PURE: plans, on -/
theorem ng_le : ∀ a, a < 14 → ∀ b, b < 14 → ((-nI a ≤ -nI b) ↔ b ≤ a) := by decide +kernel
theorem ng_1 : ∀ a, a < 14 → ¬ (nI a = -nI 1) := by decide +kernel
section
variable {N : Nt} {ru p0 p m g : Nat} {σ τ : S3}
theorem M_inN {v a b : Nat} (hv : v < 2147483648) (ha : a < 2147483648) (hb : b < 2147483648) : F_X9_in (nI v) (nI a) (nI b) τ = some (b2i (decide (a ≤ v ∧ v ≤ b)), τ) := by
  rw [M_in]
  by_cases h : a ≤ v ∧ v ≤ b
  · rw [decide_eq_true h, decide_eq_true (show nI a ≤ nI v ∧ nI v ≤ nI b by rw [leN ha hv, leN hv hb]; exact h)]
  · rw [decide_eq_false h, decide_eq_false (show ¬ (nI a ≤ nI v ∧ nI v ≤ nI b) by rw [leN ha hv, leN hv hb]; exact h)]
/-- what has been chosen: none, or a line with how many -/
def chs (N : Nt) (ru p S : Nat) (q : Option (Nat × Nat)) : Prop := match q with
  | none => True
  | some (l, v) => l < nk N ∧ mvB N ru l p S = true ∧ v ≤ 12
def chl (q : Option (Nat × Nat)) : Int32 := match q with
  | none => -nI 1
  | some (l, _) => nI l
def chw (d : Int32) (f : Nat → Int32) (q : Option (Nat × Nat)) : Int32 := match q with
  | none => d
  | some (_, v) => f v
theorem chs_mv {S : Nat} {q : Option (Nat × Nat)} (h : chs N ru p S q) : MvR N ru p S (chl q) := by
  cases q with
  | none => exact Or.inl rfl
  | some x => obtain ⟨l, v⟩ := x; exact Or.inr ⟨l, rfl, h.1, h.2.1⟩
theorem narrow_b (hw : nwf N) (hr : ru < 5) (hs : PS N ru p0 p m g σ τ) : bth N ru p0 p m g σ τ (bd (F_X3_narrowest (nI (oM N ru p m g)) (nI (st p m g)) σ) (fun r s => some (r, s))) (bd (F_X9_bestBy (nI (oM N ru p m g)) 1 τ) (fun r s => some (r, s))) := by
  have hk := hw.2.2.1
  have hn := hw.2.1
  have hob : oM N ru p m g < 4096 := bs12 hw (fun l => mvB N ru l p (S_ ru m g))
  obtain ⟨hX, hJ, hj, hM, hT, hP, hz⟩ := hs
  have hs : PS N ru p0 p m g σ τ := ⟨hX, hJ, hj, hM, hT, hP, hz⟩
  have hu := JT_ru hJ
  have hp := hj.1
  have hm := hj.2.1
  have hg := hj.2.2.1
  have hS := S_lt (ru := ru) hm hg
  have lp : ∀ (d n n' i : Nat) (q : Option (Nat × Nat)), i + d = nk N → d < n → d < n' → chs N ru p (S_ ru m g) q → ∃ q', zl3 (Fb_X3_narrowest_9 (nI (oM N ru p m g)) (nI (st p m g))) n (chl q) (chw (nI 13) nI q) (nI i) σ = some (chl q', σ) ∧ zl3 (Fb_X9_bestBy_8 (nI (oM N ru p m g)) (nI 1)) n' (chl q) (chw (nI 0) (fun v => -nI v) q) (nI i) τ = some (chl q', τ) ∧ chs N ru p (S_ ru m g) q' := by
    intro d
    induction d with
    | zero =>
      intro n n' i q hi hn1 hn2 hq
      obtain ⟨n, rfl⟩ : ∃ m, n = m + 1 := ⟨n - 1, by omega⟩
      obtain ⟨n', rfl⟩ : ∃ m, n' = m + 1 := ⟨n' - 1, by omega⟩
      have e : i = nk N := by omega
      subst e
      refine ⟨q, ?_, ?_, hq⟩
      · rw [zl3_s]
        generalize zl3 (Fb_X3_narrowest_9 (nI (oM N ru p m g)) (nI (st p m g))) n = K
        unfold Fb_X3_narrowest_9
        rw [hX.2.1, if_pos (by rw [leN (by omega) (by omega)]; omega)]
      · rw [zl3_s]
        generalize zl3 (Fb_X9_bestBy_8 (nI (oM N ru p m g)) (nI 1)) n' = K
        unfold Fb_X9_bestBy_8
        rw [hM.2.1, if_pos (by rw [leN (by omega) (by omega)]; omega)]
    | succ d ih =>
      intro n n' i q hi hn1 hn2 hq
      obtain ⟨n, rfl⟩ : ∃ m, n = m + 1 := ⟨n - 1, by omega⟩
      obtain ⟨n', rfl⟩ : ∃ m, n' = m + 1 := ⟨n' - 1, by omega⟩
      have hil : i < nk N := by omega
      have ihn := ih n n' (i + 1)
      rw [zl3_s, zl3_s]
      generalize zl3 (Fb_X3_narrowest_9 (nI (oM N ru p m g)) (nI (st p m g))) n = K at ihn ⊢
      generalize zl3 (Fb_X9_bestBy_8 (nI (oM N ru p m g)) (nI 1)) n' = K' at ihn ⊢
      unfold Fb_X3_narrowest_9 Fb_X9_bestBy_8
      have hnle : ¬ nI (nk N) ≤ nI i := by rw [leN (by omega) (by omega)]; omega
      rw [hX.2.1, hM.2.1, if_neg hnle, if_neg hnle, li1, hasN (by omega) (by omega), M_has (by omega) (by omega), bdE, bset_tb]
      simp only [hil, decide_true, Bool.true_and]
      cases hmv : mvB N ru i p (S_ ru m g)
      · rw [show b2i false = nI 0 from rfl, li0, if_pos rfl, if_pos rfl, nmE, nmE, nI_add]
        exact ihn q (by omega) (by omega) (by omega) hq
      · have ha := mvB_at hmv
        have ho := oth_lt hw hil ha
        rw [show b2i true = nI 1 from rfl, li0, if_neg n1_0, if_neg n1_0, X_behind hw hX (by omega) hm hg hil ha, bdE, X_movesFrom hw hX hu hr (by omega) (or_lt (m := 10) hm (p2_lt (by omega))) (or_lt (m := 12) hg (p2_lt (by omega))), bdE, S_mv, X_bitCount (bs12 hw _), bdE, hP.2.1, M_otherOf hw hM hil ha, bdE, M_setNow hr hP, bdE, hP.2.1, M_setBehind hw hM hP.1 hr hil ha, bdE, if_neg n1_0, M_movesAt hw hM hP.1 hr (by omega) (by have := nxt_lt (ru := ru) hw hil ha hS; omega), bdE, M_ones (bs12 hw _), bdE]
        have hpl := pc_le (bset (nk N) fun l => mvB N ru l (oth N i p) (nxt N ru i p (S_ ru m g))) 12
        generalize pc (bset (nk N) fun l => mvB N ru l (oth N i p) (nxt N ru i p (S_ ru m g))) 12 = v at hpl ⊢
        unfold F_X9_bestBy_84 F_X9_bestBy_98
        simp only [nmE, li1, nI_add, m1]
        have htake := ihn (some (i, v)) (by omega) (by omega) (by omega) ⟨hil, hmv, hpl⟩
        cases q with
        | none =>
          show ∃ q', (if nI 13 ≤ nI v then _ else _) = _ ∧ (if -nI 1 = -nI 1 then _ else _) = _ ∧ _
          rw [if_neg (by rw [leN (by omega) (by omega)]; omega), if_pos rfl]
          exact htake
        | some x =>
          obtain ⟨l, w⟩ := x
          have hskip := ihn (some (l, w)) (by omega) (by omega) (by omega) hq
          obtain ⟨q1, q2, q3⟩ := hq
          show ∃ q', (if nI w ≤ nI v then _ else _) = _ ∧ (if nI l = -nI 1 then _ else if -nI v ≤ -nI w then _ else _) = _ ∧ _
          rw [if_neg (ng_1 l (by omega))]
          by_cases hc : w ≤ v
          · rw [if_pos (by rw [leN (by omega) (by omega)]; exact hc), if_pos ((ng_le v (by omega) w (by omega)).mpr hc)]
            exact hskip
          · rw [if_neg (by rw [leN (by omega) (by omega)]; exact hc), if_neg (fun h => hc ((ng_le v (by omega) w (by omega)).mp h))]
            exact htake
  obtain ⟨q', e1, e2, hq⟩ := lp (nk N) zF zF 0 none (by omega) (zfl (by omega)) (zfl (by omega)) trivial
  refine ⟨chl q', σ, τ, ?_, ?_, xz_rf σ, mz_rf τ, hs, chs_mv hq⟩
  · unfold F_X3_narrowest F_X3_narrowest_9
    rw [m1, li0, li13]
    rw [show zl3 (Fb_X3_narrowest_9 (nI (oM N ru p m g)) (nI (st p m g))) zF (-nI 1) (nI 13) (nI 0) σ = _ from e1, bdE]
  · unfold F_X9_bestBy F_X9_bestBy_8
    rw [m1, li0, li1]
    rw [show zl3 (Fb_X9_bestBy_8 (nI (oM N ru p m g)) (nI 1)) zF (-nI 1) (nI 0) (nI 0) τ = _ from e2, bdE]
theorem slow_b (hw : nwf N) (hr : ru < 5) (hs : PS N ru p0 p m g σ τ) : bth N ru p0 p m g σ τ (bd (F_X3_slowest (nI (oM N ru p m g)) (nI (st p m g)) σ) (fun r s => some (r, s))) (bd (F_X9_bestBy (nI (oM N ru p m g)) 0 τ) (fun r s => some (r, s))) := by
  have hk := hw.2.2.1
  have hn := hw.2.1
  have hob : oM N ru p m g < 4096 := bs12 hw (fun l => mvB N ru l p (S_ ru m g))
  have lp : ∀ (d n n' i : Nat) (q : Option (Nat × Nat)) (σ τ : S3), i + d = nk N → d < n → d < n' → chs N ru p (S_ ru m g) q → PS N ru p0 p m g σ τ → ∃ q' σ' τ', zl3 (Fb_X3_slowest_8 (nI (oM N ru p m g)) (nI (st p m g))) n (chl q) (chw (-nI 1) nI q) (nI i) σ = some (chl q', σ') ∧ zl3 (Fb_X9_bestBy_8 (nI (oM N ru p m g)) (nI 0)) n' (chl q) (chw (nI 0) nI q) (nI i) τ = some (chl q', τ') ∧ chs N ru p (S_ ru m g) q' ∧ xg σ σ' ∧ ag τ τ' ∧ PS N ru p0 p m g σ' τ' := by
    intro d
    induction d with
    | zero =>
      intro n n' i q σ τ hi hn1 hn2 hq hs
      obtain ⟨n, rfl⟩ : ∃ m, n = m + 1 := ⟨n - 1, by omega⟩
      obtain ⟨n', rfl⟩ : ∃ m, n' = m + 1 := ⟨n' - 1, by omega⟩
      have e : i = nk N := by omega
      subst e
      refine ⟨q, σ, τ, ?_, ?_, hq, xg_rf σ, ag_rf τ, hs⟩
      · rw [zl3_s]
        generalize zl3 (Fb_X3_slowest_8 (nI (oM N ru p m g)) (nI (st p m g))) n = K
        unfold Fb_X3_slowest_8
        rw [hs.1.2.1, if_pos (by rw [leN (by omega) (by omega)]; omega)]
      · rw [zl3_s]
        generalize zl3 (Fb_X9_bestBy_8 (nI (oM N ru p m g)) (nI 0)) n' = K
        unfold Fb_X9_bestBy_8
        rw [hs.2.2.2.1.2.1, if_pos (by rw [leN (by omega) (by omega)]; omega)]
    | succ d ih =>
      intro n n' i q σ τ hi hn1 hn2 hq hs
      obtain ⟨n, rfl⟩ : ∃ m, n = m + 1 := ⟨n - 1, by omega⟩
      obtain ⟨n', rfl⟩ : ∃ m, n' = m + 1 := ⟨n' - 1, by omega⟩
      have hil : i < nk N := by omega
      have ihn := ih n n' (i + 1)
      obtain ⟨hX, hJ, hj, hM, hT, hP, hz⟩ := hs
      have hs : PS N ru p0 p m g σ τ := ⟨hX, hJ, hj, hM, hT, hP, hz⟩
      have hu := JT_ru hJ
      have hp := hj.1
      have hm := hj.2.1
      have hg := hj.2.2.1
      have hS := S_lt (ru := ru) hm hg
      rw [zl3_s, zl3_s]
      generalize zl3 (Fb_X3_slowest_8 (nI (oM N ru p m g)) (nI (st p m g))) n = K at ihn ⊢
      generalize zl3 (Fb_X9_bestBy_8 (nI (oM N ru p m g)) (nI 0)) n' = K' at ihn ⊢
      unfold Fb_X3_slowest_8 Fb_X9_bestBy_8
      have hnle : ¬ nI (nk N) ≤ nI i := by rw [leN (by omega) (by omega)]; omega
      rw [hX.2.1, hM.2.1, if_neg hnle, if_neg hnle, li1, hasN (by omega) (by omega), M_has (by omega) (by omega), bdE, bset_tb]
      simp only [hil, decide_true, Bool.true_and]
      cases hmv : mvB N ru i p (S_ ru m g)
      · rw [show b2i false = nI 0 from rfl, li0, if_pos rfl, if_pos rfl, nmE, nmE, nI_add]
        exact ihn q σ τ (by omega) (by omega) (by omega) hq hs
      · have ha := mvB_at hmv
        have ho := oth_lt hw hil ha
        have hj2 := jok_mv hw hj hil hmv
        obtain ⟨σ1, x1, x2, x3⟩ := X_lengthFrom hw hX hr hJ hj2
        obtain ⟨τ1, y1, y2, y3⟩ := M_longAt hw hM hP.1 hr hT ho (nxt_lt (ru := ru) hw hil ha hS)
        have hs1 := PS_m (PS_x hs x2 x3) y2 y3
        rw [S_mv] at x1
        rw [show b2i true = nI 1 from rfl, li0, if_neg n1_0, if_neg n1_0, X_behind hw hX (by omega) hm hg hil ha, bdE, x1, bdE, hP.2.1, M_otherOf hw hM hil ha, bdE, M_setNow hr hP, bdE, hP.2.1, M_setBehind hw hM hP.1 hr hil ha, bdE, if_pos rfl, y1, bdE]
        have hpl := val_le hw ru (oth N i p) (nxt N ru i p (S_ ru m g))
        generalize (val N ru (oth N i p) (nxt N ru i p (S_ ru m g))).2 = v at hpl ⊢
        unfold F_X9_bestBy_84 F_X9_bestBy_98
        simp only [nmE, li1, nI_add, m1]
        have wrap : ∀ {A B : R3}, (∃ q' σ' τ', A = some (chl q', σ') ∧ B = some (chl q', τ') ∧ chs N ru p (S_ ru m g) q' ∧ xg σ1 σ' ∧ ag τ1 τ' ∧ PS N ru p0 p m g σ' τ') → ∃ q' σ' τ', A = some (chl q', σ') ∧ B = some (chl q', τ') ∧ chs N ru p (S_ ru m g) q' ∧ xg σ σ' ∧ ag τ τ' ∧ PS N ru p0 p m g σ' τ' := by
          rintro A B ⟨q', σ', τ', a, b, c, d, e, f⟩
          exact ⟨q', σ', τ', a, b, c, xg_tr x2 d, ag_tr y2 e, f⟩
        have htake := wrap (ihn (some (i, v)) σ1 τ1 (by omega) (by omega) (by omega) ⟨hil, hmv, hpl⟩ hs1)
        cases q with
        | none =>
          show ∃ q' σ' τ', (if nI v ≤ -nI 1 then _ else _) = _ ∧ (if -nI 1 = -nI 1 then _ else _) = _ ∧ _
          rw [if_neg (by rw [m1_le (by omega)]; exact fun h => h), if_pos rfl]
          exact htake
        | some x =>
          obtain ⟨l, w⟩ := x
          have hskip := wrap (ihn (some (l, w)) σ1 τ1 (by omega) (by omega) (by omega) hq hs1)
          obtain ⟨q1, q2, q3⟩ := hq
          show ∃ q' σ' τ', (if nI v ≤ nI w then _ else _) = _ ∧ (if nI l = -nI 1 then _ else if nI v ≤ nI w then _ else _) = _ ∧ _
          rw [if_neg (ng_1 l (by omega))]
          by_cases hc : v ≤ w
          · rw [if_pos (by rw [leN (by omega) (by omega)]; exact hc), if_pos (by rw [leN (by omega) (by omega)]; exact hc)]
            exact hskip
          · rw [if_neg (by rw [leN (by omega) (by omega)]; exact hc), if_neg (by rw [leN (by omega) (by omega)]; exact hc)]
            exact htake
  obtain ⟨q', σ', τ', e1, e2, hq, h1, h2, h3⟩ := lp (nk N) zF zF 0 none σ τ (by omega) (zfl (by omega)) (zfl (by omega)) trivial hs
  refine ⟨chl q', σ', τ', ?_, ?_, xz_g h1, mz_a h2, h3, chs_mv hq⟩
  · unfold F_X3_slowest F_X3_slowest_8
    rw [m1, li0]
    rw [show zl3 (Fb_X3_slowest_8 (nI (oM N ru p m g)) (nI (st p m g))) zF (-nI 1) (-nI 1) (nI 0) σ = _ from e1, bdE]
  · unfold F_X9_bestBy F_X9_bestBy_8
    rw [m1, li0]
    rw [show zl3 (Fb_X9_bestBy_8 (nI (oM N ru p m g)) (nI 0)) zF (-nI 1) (nI 0) (nI 0) τ = _ from e2, bdE]
theorem wmv_sub {l : Nat} (h : (wmv N ru p (S_ ru m g)).testBit l = true) : (oM N ru p m g).testBit l = true := by
  unfold wmv at h
  rw [bset_tb] at h ⊢
  simp at h ⊢
  exact ⟨h.1, h.2.1⟩
theorem simple_b (hw : nwf N) (hr : ru < 5) (hs : PS N ru p0 p m g σ τ) {d : Nat} (h1 : 1 ≤ d) (h7 : d ≤ 7) : bth N ru p0 p m g σ τ (F_X3_simple (nI d) (nI (st p m g)) σ) (F_X9_simple (nI d) τ) := by
  have hn := hw.2.1
  have hob : oM N ru p m g < 4096 := bs12 hw (fun l => mvB N ru l p (S_ ru m g))
  obtain ⟨hX, hJ, hj, hM, hT, hP, hz⟩ := hs
  have hs : PS N ru p0 p m g σ τ := ⟨hX, hJ, hj, hM, hT, hP, hz⟩
  have hp := hj.1
  unfold F_X3_simple F_X9_simple
  rw [X_movesFrom hw hX (JT_ru hJ) hr (by omega) hj.2.1 hj.2.2.1, bdE, M_movesNow hw hM hr hP hp hj.2.1 hj.2.2.1, bdE]
  have hlt : (show Int32 from 7) = nI 7 := rfl
  rcases (show d = 1 ∨ d = 2 ∨ d = 3 ∨ d = 4 ∨ d = 5 ∨ d = 6 ∨ d = 7 by omega) with e | e | e | e | e | e | e <;> subst e
  · rw [if_neg (by decide), if_neg (by decide), if_neg (by decide), if_neg (by decide), if_neg (by decide), if_neg (by decide), if_pos (by decide), X_least hob, bdE, M_least hob, bdE]
    exact ⟨_, σ, τ, rfl, rfl, xz_rf σ, mz_rf τ, hs, lsI_mv hob (fun _ h => h)⟩
  · rw [if_pos (by decide), if_neg (by decide), if_pos (by decide), X_greatest hob, bdE, M_greatest hob, bdE]
    exact ⟨_, σ, τ, rfl, rfl, xz_rf σ, mz_rf τ, hs, gsI_mv⟩
  · rw [if_neg (by decide), if_pos (by decide), if_neg (by decide), if_neg (by decide), if_pos (by decide)]
    obtain ⟨σ1, x1, x2, x3⟩ := X_winningFrom hw hX hr hJ hj
    obtain ⟨τ1, y1, y2, y3⟩ := M_winning hw hM hr hT hP hp hj.2.1 hj.2.2.1
    have hwl : wmv N ru p (S_ ru m g) < 4096 := bs12 hw _
    rw [x1, bdE, y1, bdE, X_least hwl, bdE, M_least hwl, bdE]
    exact ⟨_, σ1, τ1, rfl, rfl, xz_g x2, mz_a y2, PS_m (PS_x hs x2 x3) y2 y3, lsI_mv hwl (fun _ h => wmv_sub h)⟩
  · rw [if_neg (by decide), if_neg (by decide), if_pos (by decide), if_neg (by decide), if_neg (by decide), if_neg (by decide), if_pos (by decide)]
    exact pair_b hw hr hs
  · rw [if_neg (by decide), if_neg (by decide), if_neg (by decide), if_pos (by decide), if_neg (by decide), if_neg (by decide), if_neg (by decide), if_neg (by decide), if_pos (by decide)]
    exact draw_b hw hs
  · rw [if_neg (by decide), if_neg (by decide), if_neg (by decide), if_neg (by decide), if_pos (by decide), if_neg (by decide), if_neg (by decide), if_neg (by decide), if_neg (by decide), if_neg (by decide), if_pos (by decide)]
    exact narrow_b hw hr hs
  · rw [if_neg (by decide), if_neg (by decide), if_neg (by decide), if_neg (by decide), if_neg (by decide), if_pos (by decide), if_neg (by decide), if_neg (by decide), if_neg (by decide), if_neg (by decide), if_neg (by decide), if_neg (by decide)]
    exact slow_b hw hr hs
/-! codes -/
def vd : Nat → Nat → Bool
  | 0, r => decide (r = 0)
  | d + 1, r => decide (r = 0) || (decide (1 ≤ r % 10) && decide (r % 10 ≤ 7) && vd d (r / 10))
theorem vd_le : ∀ r, vd 4 r = true → r ≤ 7777 := by
  intro r h
  simp [vd] at h
  omega
/-- advice and plan: the same line, or none -/
theorem advice_b (hw : nwf N) (hr : ru < 5) (oth' : Int32) : ∀ (d n n' i r : Nat) (σ τ : S3), i + d = 4 → d < n → d + 1 < n' → r < 100000 → vd d r = true → PS N ru p0 p m g σ τ → ∃ x σ' τ', zl2 (Fb_X3_advice_6 (nI (st p m g)) oth') n (nI r) (nI i) σ = some (if x = -nI 1 then oth' else x, σ') ∧ zl2 Fb_X9_planned_4 n' (-nI 1) (nI r) τ = some (x, τ') ∧ xz σ σ' ∧ mz τ τ' ∧ PS N ru p0 p m g σ' τ' ∧ MvR N ru p (S_ ru m g) x := by
  intro d
  induction d with
  | zero =>
    intro n n' i r σ τ hi hn1 hn2 hrl hv hs
    obtain ⟨n, rfl⟩ : ∃ m, n = m + 1 := ⟨n - 1, by omega⟩
    obtain ⟨n', rfl⟩ : ∃ m, n' = m + 1 := ⟨n' - 1, by omega⟩
    simp [vd] at hv
    subst hv
    refine ⟨-nI 1, σ, τ, ?_, ?_, xz_rf σ, mz_rf τ, hs, Or.inl rfl⟩
    · rw [zl2_s]
      generalize zl2 (Fb_X3_advice_6 (nI (st p m g)) oth') n = K
      unfold Fb_X3_advice_6
      rw [li4, if_pos (by rw [leN (by omega) (by omega)]; omega), if_pos rfl]
    · rw [zl2_s]
      generalize zl2 Fb_X9_planned_4 n' = K
      unfold Fb_X9_planned_4
      rw [li0, if_pos (by decide)]
  | succ d ih =>
    intro n n' i r σ τ hi hn1 hn2 hrl hv hs
    obtain ⟨n, rfl⟩ : ∃ m, n = m + 1 := ⟨n - 1, by omega⟩
    obtain ⟨n', rfl⟩ : ∃ m, n' = m + 1 := ⟨n' - 1, by omega⟩
    by_cases h0 : r = 0
    · subst h0
      refine ⟨-nI 1, σ, τ, ?_, ?_, xz_rf σ, mz_rf τ, hs, Or.inl rfl⟩
      · rw [zl2_s]
        generalize zl2 (Fb_X3_advice_6 (nI (st p m g)) oth') n = K
        unfold Fb_X3_advice_6
        rw [li4, if_neg (by rw [leN (by omega) (by omega)]; omega), li0, if_pos (by decide), if_pos rfl]
      · rw [zl2_s]
        generalize zl2 Fb_X9_planned_4 n' = K
        unfold Fb_X9_planned_4
        rw [li0, if_pos (by decide)]
    · simp [vd, h0] at hv
      have ihn := ih n n' (i + 1) (r / 10)
      obtain ⟨x, σ1, τ1, x1, y1, x2, y2, hs1, hx⟩ := simple_b hw hr hs hv.1.1 hv.1.2
      rw [zl2_s, zl2_s]
      have hK2 : ∀ l, l < 12 → ∀ s, zl2 Fb_X9_planned_4 n' (nI l) (nI (r / 10)) s = some (nI l, s) := by
        intro l hl s
        obtain ⟨n', rfl⟩ : ∃ m, n' = m + 1 := ⟨n' - 1, by omega⟩
        rw [zl2_s]
        generalize zl2 Fb_X9_planned_4 n' = K
        unfold Fb_X9_planned_4
        rw [if_neg (show ¬ nI l = -1 by rw [m1]; exact ng_1 l (by omega))]
        split <;> rfl
      generalize zl2 (Fb_X3_advice_6 (nI (st p m g)) oth') n = K at ihn ⊢
      generalize zl2 Fb_X9_planned_4 n' = K' at ihn hK2 ⊢
      unfold Fb_X3_advice_6 Fb_X9_planned_4
      have h10 : (10 : Int32) = nI 10 := rfl
      rw [li4, if_neg (by rw [leN (by omega) (by omega)]; omega), li0, if_neg (by rw [leN (by omega) (by omega)]; omega), if_neg (by rw [leN (by omega) (by omega)]; omega), h10, pk_rem (by omega) (by omega) (by omega), pk_div (by omega) (by omega) (by omega), x1, bdE, y1, bdE, m1, if_pos rfl, nmE, nmE, nmE, li1, nI_add]
      rcases hx with e | ⟨l, e, hl, hmv⟩
      · rw [e, if_pos (by decide)]
        obtain ⟨x', σ2, τ2, a, b, c, d', e', f⟩ := ihn σ1 τ1 (by omega) (by omega) (by omega) (by omega) hv.2 hs1
        exact ⟨x', σ2, τ2, a, b, xz_tr x2 c, mz_tr y2 d', e', f⟩
      · have hk := hw.2.2.1
        refine ⟨nI l, σ1, τ1, ?_, ?_, x2, y2, hs1, Or.inr ⟨l, rfl, hl, hmv⟩⟩
        · rw [e, if_neg (by rw [ltN (by omega) (by omega)]; omega), if_neg (ng_1 l (by omega))]
        · rw [e]; exact hK2 l (by omega) τ1
def cdB (v : Int32) : Bool := decide (0 < v.toNatClampNeg) && vd 4 v.toNatClampNeg
theorem X_isCode (v : Int32) : F_X8_isCode v σ = some (b2i (cdB v), σ) := by
  have lp : ∀ (d n i r : Nat), i + d = 4 → d < n → r < 10 ^ d → zl2 Fb_X8_isCode_18 n (nI r) (nI i) σ = some (b2i (vd d r), σ) := by
    intro d
    induction d with
    | zero =>
      intro n i r hi hn1 hrl
      obtain ⟨n, rfl⟩ : ∃ m, n = m + 1 := ⟨n - 1, by omega⟩
      rw [zl2_s]
      generalize zl2 Fb_X8_isCode_18 n = K
      unfold Fb_X8_isCode_18
      rw [li4, if_pos (by rw [leN (by omega) (by omega)]; omega), li1]
      have : r = 0 := by simpa using hrl
      subst this
      rfl
    | succ d ih =>
      intro n i r hi hn1 hrl
      obtain ⟨n, rfl⟩ : ∃ m, n = m + 1 := ⟨n - 1, by omega⟩
      have hd4 : 10 ^ (d + 1) ≤ 10 ^ 4 := Nat.pow_le_pow_right (by omega) (by omega)
      have ihn := ih n (i + 1) (r / 10) (by omega) (by omega) (by rw [Nat.pow_succ] at hrl; omega)
      rw [zl2_s]
      generalize zl2 Fb_X8_isCode_18 n = K at ihn ⊢
      unfold Fb_X8_isCode_18
      have h10 : (10 : Int32) = nI 10 := rfl
      rw [li4, if_neg (by rw [leN (by omega) (by omega)]; omega), li0, h10, vd, li7, li1]
      by_cases h0 : r = 0
      · subst h0
        rw [if_pos (by decide)]
        rfl
      · rw [if_neg (by rw [leN (by omega) (by omega)]; omega), pk_rem (by omega) (by omega) (by omega), pk_div (by omega) (by omega) (by omega)]
        simp only [nmE, nI_add]
        by_cases c1 : 1 ≤ r % 10
        · rw [if_neg (by rw [ltN (by omega) (by omega)]; omega)]
          by_cases c2 : r % 10 ≤ 7
          · rw [if_pos (by rw [leN (by omega) (by omega)]; omega), ihn]
            simp [h0, c1, c2]
          · rw [if_neg (by rw [leN (by omega) (by omega)]; omega)]
            simp [h0, c2]
            rfl
        · rw [if_pos (by rw [ltN (by omega) (by omega)]; omega)]
          simp [h0, c1]
          rfl
  unfold F_X8_isCode F_X8_isCode_18
  by_cases h1 : v < 1
  · rw [if_pos h1]
    have : cdB v = false := by
      unfold cdB
      by_cases h0 : v < 0
      · have : v.toNatClampNeg = 0 := by
          rw [Int32.lt_iff_toInt_lt] at h0
          unfold Int32.toNatClampNeg
          have : v.toInt < 0 := h0
          omega
        simp [this]
      · obtain ⟨j, hj, e⟩ := nI_of h0
        subst e
        rw [li1, ltN (by omega) (by omega)] at h1
        have : j = 0 := by omega
        subst this
        rfl
    rw [this]
    rfl
  · have h0 : ¬ v < 0 := fun h => h1 (Int32.lt_trans h (by decide))
    obtain ⟨j, hj, e⟩ := nI_of h0
    subst e
    rw [li1, ltN (by omega) (by omega)] at h1
    rw [if_neg (by rw [li1, ltN (by omega) (by omega)]; exact h1)]
    have hix : (nI j).toNatClampNeg = j := ixN (by omega)
    unfold cdB
    rw [hix]
    have h77 : (7777 : Int32) = nI 7777 := rfl
    by_cases h2 : j ≤ 7777
    · rw [if_pos (by rw [h77, leN (by omega) (by omega)]; exact h2), li0, lp 4 zF 0 j (by omega) (zfl (by omega)) (by omega)]
      simp [show 0 < j by omega]
    · rw [if_neg (by rw [h77, leN (by omega) (by omega)]; exact h2)]
      have : vd 4 j = false := by
        cases hv : vd 4 j
        · rfl
        · exact absurd (vd_le j hv) h2
      rw [this, Bool.and_false]
      rfl
theorem M_isCode (v : Int32) : F_X9_isCode v τ = some (b2i (cdB v), τ) := by
  have lf : ∀ n r, zl2 Fb_X9_isCode_11 (n + 1) (nI 0) r τ = some (nI 0, τ) := by
    intro n r
    rw [zl2_s]
    generalize zl2 Fb_X9_isCode_11 n = K
    unfold Fb_X9_isCode_11
    rw [li0, if_pos rfl]
    have : ckb (nI 0) (some (nI 0, τ)) = some (nI 0, τ) := ckb_b false _
    rw [this]
    split <;> rfl
  have lp : ∀ (d n r : Nat), d + 1 < n → d ≤ 4 → r < 10 ^ d → zl2 Fb_X9_isCode_11 n (nI 1) (nI r) τ = some (b2i (vd d r), τ) := by
    intro d
    induction d with
    | zero =>
      intro n r hn1 _ hrl
      obtain ⟨n, rfl⟩ : ∃ m, n = m + 1 := ⟨n - 1, by omega⟩
      have : r = 0 := by simpa using hrl
      subst this
      rw [zl2_s]
      generalize zl2 Fb_X9_isCode_11 n = K
      unfold Fb_X9_isCode_11
      rw [li0, if_pos (by decide)]
      exact ckb_b true _
    | succ d ih =>
      intro n r hn1 hd hrl
      obtain ⟨n, rfl⟩ : ∃ m, n = m + 1 := ⟨n - 1, by omega⟩
      obtain ⟨n, rfl⟩ : ∃ m, n = m + 1 := ⟨n - 1, by omega⟩
      have hd4 : 10 ^ (d + 1) ≤ 10 ^ 4 := Nat.pow_le_pow_right (by omega) (by omega)
      have ihn := ih (n + 1) (r / 10) (by omega) (by omega) (by rw [Nat.pow_succ] at hrl; omega)
      have hf := lf n (nI (r / 10))
      rw [zl2_s]
      generalize zl2 Fb_X9_isCode_11 (n + 1) = K at ihn hf ⊢
      unfold Fb_X9_isCode_11
      have h10 : (10 : Int32) = nI 10 := rfl
      rw [li0, h10, vd]
      by_cases h0 : r = 0
      · subst h0
        rw [if_pos (by decide)]
        exact ckb_b true _
      · rw [if_neg (by rw [leN (by omega) (by omega)]; omega), if_neg n1_0, pk_rem (by omega) (by omega) (by omega), pk_div (by omega) (by omega) (by omega), li1, li7, M_inN (by omega) (by omega) (by omega), bdE, nmE]
        by_cases c1 : 1 ≤ r % 10 ∧ r % 10 ≤ 7
        · rw [decide_eq_true c1, show b2i true = nI 1 from rfl, ihn]
          simp [h0, c1.1, c1.2]
        · rw [decide_eq_false c1, show b2i false = nI 0 from rfl, hf]
          have : (decide (1 ≤ r % 10) && decide (r % 10 ≤ 7)) = false := by
            by_cases a : 1 ≤ r % 10
            · have : ¬ r % 10 ≤ 7 := fun b => c1 ⟨a, b⟩
              simp [this]
            · simp [a]
          rw [this]
          simp [h0]
          rfl
  unfold F_X9_isCode F_X9_isCode_11
  rw [M_in, bdE]
  have h99 : (9999 : Int32) = nI 9999 := rfl
  have hz : zF = 99999 + 1 := rfl
  by_cases h1 : (1 : Int32) ≤ v ∧ v ≤ 9999
  · rw [decide_eq_true h1]
    have h0 : ¬ v < 0 := fun h => Int32.lt_irrefl (Int32.lt_of_lt_of_le h (Int32.le_trans (by decide) h1.1))
    obtain ⟨j, hj, e⟩ := nI_of h0
    subst e
    rw [li1, h99, leN (by omega) (by omega), leN (by omega) (by omega)] at h1
    have hix : (nI j).toNatClampNeg = j := ixN (by omega)
    unfold cdB
    rw [hix, show b2i true = nI 1 from rfl, lp 4 zF j (zfl (by omega)) (by omega) (by omega)]
    simp [show 0 < j by omega]
  · rw [decide_eq_false h1, show b2i false = nI 0 from rfl, hz, lf]
    have : cdB v = false := by
      unfold cdB
      by_cases h0 : v < 0
      · have : v.toNatClampNeg = 0 := by
          rw [Int32.lt_iff_toInt_lt] at h0
          unfold Int32.toNatClampNeg
          have : v.toInt < 0 := h0
          omega
        simp [this]
      · obtain ⟨j, hj, e⟩ := nI_of h0
        subst e
        rw [li1, h99, leN (by omega) (by omega), leN (by omega) (by omega)] at h1
        have hix : (nI j).toNatClampNeg = j := ixN (by omega)
        rw [hix]
        cases hv : vd 4 j
        · simp
        · have := vd_le j hv
          have : j = 0 := by omega
          subst this
          rfl
    rw [this]
    rfl
end
