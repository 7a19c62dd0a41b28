/-! PURE: the calls, one by one: walks, images, what is told -/
section
variable {N : Nt} {L : Nat} {B : Nat → Nat} {σ τ σ' τ' : S3} {ru p0 k : Nat} {mv : Nat → Nat}
theorem walks_l {k0 s n0 : Nat} {mv0 : Nat → Nat} {τ0 : S3} (hw : nwf N) (hr : ru < 5) (hs4 : s < 4) (hn0 : n0 ≤ 24) (v2 : Int32) (h1 : σ (8 + s) 1 0 = nI n0) (h29 : τ0 0 29 s = nI n0) (hrow : ∀ i, i < 24 → σ (8 + s) 2 i = τ0 0 30 (24 * s + i)) : ∀ (d n n' i : Nat) (τ : S3) (mv : Nat → Nat) (k : Nat), i + d = n0 → d < n → d < n' → k = k0 + i → GL N ru p0 mv k → PS N ru p0 (gp N p0 mv k).1 (gp N p0 mv k).2.1 (gp N p0 mv k).2.2 σ τ → GRf N ru p0 mv k τ → mw τ0 τ → τ 0 17 = τ0 0 17 → (∀ j, j < k0 → mv j = mv0 j) → ∃ i' mv' τ', zl3 (Fb_X8_walks_71 (nI s) v2) n (nI (stt (gp N p0 mv k))) (nI i) (nI i) σ = F_X8_walks_150 v2 (nI (stt (gp N p0 mv' (k0 + i')))) (nI i') σ ∧ zl1 (Fb_X9_walks_59 (nI s) v2 (nI k0)) n' (nI i) τ = F_X9_walks_133 v2 (nI k0) (nI i') τ' ∧ GL N ru p0 mv' (k0 + i') ∧ PS N ru p0 (gp N p0 mv' (k0 + i')).1 (gp N p0 mv' (k0 + i')).2.1 (gp N p0 mv' (k0 + i')).2.2 σ τ' ∧ GRf N ru p0 mv' (k0 + i') τ' ∧ mw τ0 τ' ∧ τ' 0 17 = τ0 0 17 ∧ ∀ j, j < k0 → mv' j = mv0 j := by
  have hn := hw.2.1
  have hk2 := hw.2.2.1
  intro d
  induction d with
  | zero =>
    intro n n' i τ mv k hi h1' h2' hk hL hs hG hm h17 ha
    obtain ⟨n, rfl⟩ : ∃ m, n = m + 1 := ⟨n - 1, by omega⟩
    obtain ⟨n', rfl⟩ : ∃ m, n' = m + 1 := ⟨n' - 1, by omega⟩
    subst hk
    have e : i = n0 := by omega
    subst e
    refine ⟨i, mv, τ, ?_, ?_, hL, hs, hG, hm, h17, ha⟩
    · rw [zl3_s]
      generalize zl3 (Fb_X8_walks_71 (nI s) v2) n = K
      unfold Fb_X8_walks_71
      rw [ckN hs4 (by omega), ixN (by omega), h1, if_pos (Int32.le_refl _)]
    · rw [zl1_s]
      generalize zl1 (Fb_X9_walks_59 (nI s) v2 (nI k0)) n' = K
      unfold Fb_X9_walks_59
      rw [ckN hs4 (by omega), ixN (by omega), hm 29 (by omega), h29, if_pos (Int32.le_refl _)]
  | succ d ih =>
    intro n n' i τ mv k hi h1' h2' hk hL hs hG hm h17 ha
    obtain ⟨n, rfl⟩ : ∃ m, n = m + 1 := ⟨n - 1, by omega⟩
    obtain ⟨n', rfl⟩ : ∃ m, n' = m + 1 := ⟨n' - 1, by omega⟩
    have hj := hs.2.2.1
    have hrm : rm N ru (S_ ru (gp N p0 mv k).2.1 (gp N p0 mv k).2.2) + k ≤ 12 := GL_rm hw k hL
    have hob : bset (nk N) (fun l => mvB N ru l (gp N p0 mv k).1 (S_ ru (gp N p0 mv k).2.1 (gp N p0 mv k).2.2)) < 4096 := bs12 hw _
    have ihn := ih n n' (i + 1)
    rw [zl3_s, zl1_s]
    generalize zl3 (Fb_X8_walks_71 (nI s) v2) n = K at ihn ⊢
    generalize zl1 (Fb_X9_walks_59 (nI s) v2 (nI k0)) n' = K' at ihn ⊢
    unfold Fb_X8_walks_71 Fb_X9_walks_59
    have hnle : ¬ nI n0 ≤ nI i := by rw [leN (by omega) (by omega)]; omega
    have h30 : τ 0 30 (24 * s + i) = σ (8 + s) 2 i := by rw [hm 30 (by omega), hrow i (by omega)]
    rw [ckN hs4 (by omega), ckN hs4 (by omega), ixN (by omega), h1, if_neg hnle, ckN hs4 (by omega), ckN (by omega) (by omega), ixN (by omega), nmE, hm 29 (by omega), h29, if_neg hnle, li24, mulN, nI_add, ckN (by omega) (by omega), ixN (by omega), h30, X_hasLine hs.1, bdE, M_isLine hw hs.2.2.2.1, bdE]
    have stop : ∃ i' mv' τ', F_X8_walks_150 v2 (nI (stt (gp N p0 mv k))) (nI i) σ = F_X8_walks_150 v2 (nI (stt (gp N p0 mv' (k0 + i')))) (nI i') σ ∧ F_X9_walks_133 v2 (nI k0) (nI i) τ = F_X9_walks_133 v2 (nI k0) (nI i') τ' ∧ GL N ru p0 mv' (k0 + i') ∧ PS N ru p0 (gp N p0 mv' (k0 + i')).1 (gp N p0 mv' (k0 + i')).2.1 (gp N p0 mv' (k0 + i')).2.2 σ τ' ∧ GRf N ru p0 mv' (k0 + i') τ' ∧ mw τ0 τ' ∧ τ' 0 17 = τ0 0 17 ∧ ∀ j, j < k0 → mv' j = mv0 j :=
      ⟨i, mv, τ, by rw [hk], rfl, by rw [← hk]; exact hL, by rw [← hk]; exact hs, by rw [← hk]; exact hG, hm, h17, ha⟩
    cases hb : inB (σ (8 + s) 2 i) (nk N)
    · rw [bf0, if_pos rfl, if_pos rfl]; exact stop
    · obtain ⟨l, hl, el⟩ := inB_t (by omega) hb
      rw [if_neg bt0, if_neg bt0, X_movesFrom hw hs.1 (JT_ru hs.2.1) hr (by have := hj.1; omega) hj.2.1 hj.2.2.1, bdE, M_movesNow hw hs.2.2.2.1 hr hs.2.2.2.2.2.1 hj.1 hj.2.1 hj.2.2.1, bdE, ckN (by omega) (by omega), h30, el, M_has (by omega) (by omega), bdE, li1, hasN (by omega) (by omega), bset_tb]
      simp only [hl, decide_true, Bool.true_and]
      cases hmv : mvB N ru l (gp N p0 mv k).1 (S_ ru (gp N p0 mv k).2.1 (gp N p0 mv k).2.2)
      · rw [bf0, if_pos rfl, if_pos rfl]; exact stop
      · have hrm2 := rm_mv hw hl hmv
        obtain ⟨τ2, e1, e2, e3, e4, e5, e6⟩ := PS_go hw hL (by omega) hs hG hl hmv
        obtain ⟨i', mv', τ', f1, f2, f3⟩ := ihn τ2 (ex mv k l) (k + 1) (by omega) (by omega) (by omega) (by omega) e2 e3 e4 (mw_tr hm e5) (by rw [e6, h17]) (fun j hj => by rw [ex_lt (by omega)]; exact ha j hj)
        refine ⟨i', mv', τ', ?_, ?_, f3⟩
        · rw [if_neg bt0, show stt (gp N p0 mv k) = st (gp N p0 mv k).1 (gp N p0 mv k).2.1 (gp N p0 mv k).2.2 from rfl, X_behind hw hs.1 (by have := hj.1; omega) hj.2.1 hj.2.2.1 hl (mvB_at hmv), bdE, nmE, nmE, nI_add]
          rw [gp_ex1] at f1
          exact f1
        · rw [if_neg bt0, ckN (by omega) (by omega), h30, el, e1, bdE, nmE, nI_add]
          exact f2
theorem o_walks (h : Inv σ τ) (a0 a1 : Int32) : zst Inv (F_X8_walks a0 a1 σ) (F_X9_walks a0 a1 τ) := by
  have hi := h
  have hS := Inv_SH h
  unfold F_X8_walks F_X9_walks F_X4_isMissing
  rw [X_isSheet, bdE, M_isSheet, bdE]
  cases hb : inB a0 4
  · rw [bf0, if_pos rfl, if_pos rfl]; exact err_b (j := 1) hi (by decide)
  · rw [if_neg bt0, if_neg bt0, show (1 : Int32) = nI 1 from rfl, ifr _ (by omega), M_in0 _ (by omega), bdE]
    cases hb2 : inB a1 (1 + 1)
    · rw [if_neg Bool.false_ne_true, bf0, if_pos rfl]; exact err_b (j := 1) hi (by decide)
    · rw [if_pos rfl, if_neg bt0]
      obtain ⟨s, hs4, e⟩ := inB_t (by omega) hb
      subst e
      obtain ⟨b, n0, q1, q2, q3, q4, q5, q6, q7⟩ := hS s hs4
      rw [ckN hs4 (by omega), ckN hs4 (by omega), ixN (by omega), q3, q4]
      by_cases c : b = 0
      · have c' : nI b = 0 := by rw [c]; rfl
        rw [if_pos c', bdE, if_neg (show ¬ nI 1 = (0 : Int32) by decide), if_pos c']
        exact err_b (j := 6) hi (by decide)
      · have c' : ¬ nI b = 0 := by rw [li0, eqN (by omega) (by omega)]; exact c
        rw [if_neg c', bdE, if_pos rfl, if_neg c']
        refine gcase hi ?_
        intro N L B ru p0 mv k hI hJ hG
        have hw := hI.1
        have hP := GO_PS hI hJ hG
        have hR : GRf N ru p0 mv k τ := hG.2.2.2.2.2
        obtain ⟨i', mv', τ1, f1, f2, f3, f4, f5, f6, f7, f8⟩ := walks_l (k0 := k) (mv0 := mv) (τ0 := τ) hw hG.1 hs4 q2 a1 q5 q6 q7 n0 zF zF 0 τ mv k (by omega) (zfl (by omega)) (zfl (by omega)) (by omega) hG.2.2.1 hP hR (mw_rf τ) rfl (fun _ _ => rfl)
        have hj1 := f4.2.2.1
        have hk' := GL_rm hw _ f3
        obtain ⟨τ2, y1, y2, y3⟩ := M_winsAt hw f4.2.2.2.1 f5.2.1.1 hG.1 f4.2.2.2.2.1 hj1.1 (S_lt (ru := ru) hj1.2.1 hj1.2.2.1)
        have hag : GRf N ru p0 mv' (k + i') τ2 := GRf_z f5 (mz_a y2)
        obtain ⟨τ3, b1, b2, b3⟩ := back_l (k0 := k) hw hG.2.1 (b := Fb_X9_walks_147 a1 (nI k) (nI i') (b2i (val N ru (gp N p0 mv' (k + i')).1 (S_ ru (gp N p0 mv' (k + i')).2.1 (gp N p0 mv' (k + i')).2.2)).1)) (E := fun s => if a1 = (0 : Int32) then (some (nI i', s)) else (if b2i (val N ru (gp N p0 mv' (k + i')).1 (S_ ru (gp N p0 mv' (k + i')).2.1 (gp N p0 mv' (k + i')).2.2)).1 = (0 : Int32) then (some ((0 : Int32), s)) else (some ((1 : Int32), s)))) (fun K s => rfl) i' zF τ2 (zfl (by omega)) (by omega) (RM_ag y2 f4.2.2.2.1) f3 hag
        have hR3 : GRf N ru p0 mv k τ3 := GRf_c f8 b2
        have ht : ∀ f, f < 7 ∨ (8 < f ∧ f < 12) ∨ 22 < f → τ3 0 f = τ 0 f := fun f hf => by rw [b3 f (by omega), y2 f (by omega) (by omega) (by omega), f6 f (by omega)]
        have h17 : τ3 0 17 = τ 0 17 := by rw [b3 17 (by omega), y2 17 (by decide) (by decide) (by decide), f7]
        have hM3 : MT N τ3 := MT_f y3 (b3 20 (by omega)) (b3 21 (by omega)) (b3 22 (by omega))
        have hz := Inv_z hi
        unfold F_X8_walks_71 F_X9_walks_59
        have f1' : zl3 (Fb_X8_walks_71 (nI s) a1) zF (nI (stt (gp N p0 mv k))) 0 0 σ = _ := f1
        have f2' : zl1 (Fb_X9_walks_59 (nI s) a1 (nI k)) zF 0 τ = _ := f2
        rw [X_stand (k12 hI hG) hG, bdE, f1', nmE, hR.2.2.1, f2']
        unfold F_X8_walks_150 F_X9_walks_133 F_X9_walks_147
        rw [M_setNow hG.1 f5.2.1, bdE, f5.2.1.2.1, y1, bdE, b1]
        by_cases e0 : a1 = 0
        · rw [if_pos e0, if_pos e0]
          exact ⟨_, _, _, rfl, rfl, Inv_th hI hG (fun _ _ _ => rfl) (by rw [h17]; exact hz) hJ hM3 hR3 ht⟩
        · rw [if_neg e0, if_neg e0]
          obtain ⟨σ2, x1, x2, x3⟩ := X_wins hw f4.1 hG.1 f4.2.1 hj1
          have hfin : Inv σ2 τ3 := Inv_th hI hG (fun c h3 _ => xg_c x2 h3) (by rw [x2 4 2 (by omega), h17]; exact hz) x3 hM3 hR3 ht
          rw [show stt (gp N p0 mv' (k + i')) = st (gp N p0 mv' (k + i')).1 (gp N p0 mv' (k + i')).2.1 (gp N p0 mv' (k + i')).2.2 from rfl, x1, bdE]
          cases (val N ru (gp N p0 mv' (k + i')).1 (S_ ru (gp N p0 mv' (k + i')).2.1 (gp N p0 mv' (k + i')).2.2)).1
          · rw [bf0, if_pos rfl, if_pos rfl]; exact ret_b hfin _
          · rw [if_neg bt0, if_neg bt0]; exact ret_b hfin _
theorem o_seed (h : Inv σ τ) (a0 : Int32) : zst Inv (F_X8_seed a0 σ) (F_X9_seed a0 τ) := by
  unfold F_X8_seed F_X9_seed
  rw [nmE, nmE, nmE, nmE, Inv_z h]
  exact ⟨_, _, _, rfl, rfl, Inv_fr h (fun c h4 _ => up_c h4) (fun f hf => up_f (by omega)) (by rw [up_at, up_at])⟩
theorem image_l : ∀ (d n i : Nat) (g : Nat → Int32), i + d = 12 → d < n → (∀ j, j < i → g (3 + 3 * j) = τ 0 3 j ∧ g (4 + 3 * j) = τ 0 4 j ∧ g (5 + 3 * j) = τ 0 5 j) → ∃ g', zl1 Fb_X9_image_37 n (nI i) (upA τ 0 31 g) = some (τ 0 2 0, upA τ 0 31 g') ∧ (∀ j, j < 3 → g' j = g j) ∧ ∀ j, j < 12 → g' (3 + 3 * j) = τ 0 3 j ∧ g' (4 + 3 * j) = τ 0 4 j ∧ g' (5 + 3 * j) = τ 0 5 j := by
  intro d
  induction d with
  | zero =>
    intro n i g hi hn hg
    obtain ⟨n, rfl⟩ : ∃ m, n = m + 1 := ⟨n - 1, by omega⟩
    refine ⟨g, ?_, fun _ _ => rfl, fun j hj => hg j (by omega)⟩
    rw [zl1_s]
    generalize zl1 Fb_X9_image_37 n = K
    unfold Fb_X9_image_37
    rw [li12, if_pos (by rw [leN (by omega) (by omega)]; omega), upA_f (by decide)]
  | succ d ih =>
    intro n i g hi hn hg
    obtain ⟨n, rfl⟩ : ∃ m, n = m + 1 := ⟨n - 1, by omega⟩
    obtain ⟨g', e1, e2, e3⟩ := ih n (i + 1) (upd (upd (upd g (3 + 3 * i) (τ 0 3 i)) (4 + 3 * i) (τ 0 4 i)) (5 + 3 * i) (τ 0 5 i)) (by omega) (by omega) (by
      intro j hj
      by_cases e : j = i
      · subst e
        refine ⟨?_, ?_, upd_s⟩
        · rw [upd_n (by omega), upd_n (by omega), upd_s]
        · rw [upd_n (by omega), upd_s]
      · rw [upd_n (by omega), upd_n (by omega), upd_n (by omega), upd_n (by omega), upd_n (by omega), upd_n (by omega), upd_n (by omega), upd_n (by omega), upd_n (by omega)]
        exact hg j (by omega))
    refine ⟨g', ?_, fun j hj => by rw [e2 j hj, upd_n (by omega), upd_n (by omega), upd_n (by omega)], e3⟩
    rw [zl1_s]
    generalize zl1 Fb_X9_image_37 n = K at e1 ⊢
    unfold Fb_X9_image_37
    rw [li12, if_neg (by rw [leN (by omega) (by omega)]; omega)]
    simp only [nmE, show (3 : Int32) = nI 3 from rfl, show (4 : Int32) = nI 4 from rfl, show (5 : Int32) = nI 5 from rfl, mulN, nI_add, ckN (show i < 12 by omega) (show 12 < 2147483648 by omega), ckN (show 3 + 3 * i < 39 by omega) (show 39 < 2147483648 by omega), ckN (show 4 + 3 * i < 39 by omega) (show 39 < 2147483648 by omega), ckN (show 5 + 3 * i < 39 by omega) (show 39 < 2147483648 by omega), ixN (show i < 2147483648 by omega), ixN (show 3 + 3 * i < 2147483648 by omega), ixN (show 4 + 3 * i < 2147483648 by omega), ixN (show 5 + 3 * i < 2147483648 by omega), up_upA, upA_f (show 3 ≠ 31 by decide), upA_f (show 4 ≠ 31 by decide), upA_f (show 5 ≠ 31 by decide), li1]
    exact e1
theorem o_image (h : Inv σ τ) : zst Inv (F_X8_image σ) (F_X9_image τ) := by
  obtain ⟨N, L, B, ⟨hw, hX, hM, hMT, hT, hE, hz, hS, hIm⟩, hG⟩ := h
  have hk := hw.2.2.1
  obtain ⟨σ1, x1, x2, x3⟩ := X_become (c := 2) (c2 := 1) (σ := σ) (by decide) hw (RB_of hX)
  have hr1 : ∀ f, f ≠ 31 → f ≠ 32 → (up τ 0 32 0 1) 0 f = τ 0 f := fun f _ h => up_f h
  obtain ⟨g', y1, y2, y3⟩ := image_l (τ := up τ 0 32 0 1) 12 zF 0 (upd (upd (upd ((up τ 0 32 0 1) 0 31) 0 (nI (nn N))) 1 (nI (nk N))) 2 (τ 0 17 0)) (by omega) (zfl (by omega)) (fun j hj => absurd hj (by omega))
  have hY : F_X9_image τ = some (nI (nk N), upA (up τ 0 32 0 1) 0 31 g') := by
    unfold F_X9_image F_X9_image_37
    have i0 : ix (0 : Int32) = 0 := rfl
    have i1 : ix (1 : Int32) = 1 := rfl
    have i2 : ix (2 : Int32) = 2 := rfl
    have c0 : ∀ (β : Type) (x : Option β), ck (0 : Int32) 39 x = x := fun β x => ckN (j := 0) (by omega) (by omega)
    have c1 : ∀ (β : Type) (x : Option β), ck (1 : Int32) 39 x = x := fun β x => ckN (j := 1) (by omega) (by omega)
    have c2 : ∀ (β : Type) (x : Option β), ck (2 : Int32) 39 x = x := fun β x => ckN (j := 2) (by omega) (by omega)
    have u : ∀ (s : S3) (j : Nat) (v : Int32), up s 0 31 j v = upA s 0 31 (upd (s 0 31) j v) := fun _ _ _ => rfl
    simp only [nmE, i0, i1, i2, c0, c1, c2]
    rw [u (up τ 0 32 0 1) 0, up_upA, up_upA, upA_f (show 2 ≠ 31 by decide), upA_f (show 17 ≠ 31 by decide), hr1 1 (by decide) (by decide), hr1 2 (by decide) (by decide), hr1 17 (by decide) (by decide), hM.1, hM.2.1]
    have y1' : zl1 Fb_X9_image_37 zF 0 (upA (up τ 0 32 0 1) 0 31 (upd (upd (upd ((up τ 0 32 0 1) 0 31) 0 (nI (nn N))) 1 (nI (nk N))) 2 (τ 0 17 0))) = _ := y1
    rw [y1', hr1 2 (by decide) (by decide), hM.2.1]
  unfold F_X8_image
  rw [x1, bdE, nmE, nmE, hY, up_c (show 2 ≠ 0 by decide), up_c (show 2 ≠ 0 by decide), x2.2.1]
  have hs : ∀ c, c ≠ 0 → c ≠ 2 → (up (up σ1 0 10 0 (σ1 4 2 0)) 0 9 0 1) c = σ c := fun c h0 h2 => by rw [up_c h0, up_c h0, x3 c h2]
  have ht : ∀ f, f ≠ 31 → f ≠ 32 → (upA (up τ 0 32 0 1) 0 31 g') 0 f = τ 0 f := fun f h1 h2 => by rw [upA_f h1, up_f h2]
  refine ⟨_, _, _, rfl, rfl, N, L, B, ⟨hw, RX_c (hs 1 (by decide) (by decide)) hX, RM_fr hM (fun f _ _ => ht f (by omega) (by omega)), MT_f hMT (ht 20 (by decide) (by decide)) (ht 21 (by decide) (by decide)) (ht 22 (by decide) (by decide)), TP_fr hT (hs 7 (by decide) (by decide)) (ht 9 (by decide) (by decide)) (ht 10 (by decide) (by decide)), ER_fr hE (by rw [up_f (by decide), up_f (by decide), x3 0 (by decide)]) (ht 0 (by decide) (by decide)), by rw [hs 4 (by decide) (by decide), ht 17 (by decide) (by decide)]; exact hz, SH_fr hS (fun k _ => hs (8 + k) (by omega) (by omega)) (ht 28 (by decide) (by decide)) (ht 29 (by decide) (by decide)) (ht 30 (by decide) (by decide)), Or.inr ⟨by rw [up_at]; rfl, by rw [upA_f (by decide), up_at]; rfl, ?_, N, hw, ?_, ?_, ?_, ?_⟩⟩, ?_⟩
  · rw [up_f (by decide), up_at, upA_s, y2 2 (by omega), upd_s, x3 4 (by decide)]
    exact hz
  · exact RB_c (by rw [up_c (by decide), up_c (by decide)]) (RB_of x2)
  · rw [upA_s, y2 0 (by omega), upd_n (by decide), upd_n (by decide), upd_s]
  · rw [upA_s, y2 1 (by omega), upd_n (by decide), upd_s]
  · intro i hi
    have := y3 i (by omega)
    rw [hr1 3 (by decide) (by decide), hr1 4 (by decide) (by decide), hr1 5 (by decide) (by decide)] at this
    have hm := hM.2.2 i hi
    rw [upA_s, this.1, this.2.1, this.2.2]
    exact hm
  · rcases hG with ⟨ru, h⟩ | ⟨ru, p0, mv, k, h1, h2⟩
    · exact Or.inl ⟨ru, GF_fr h (hs 6 (by decide) (by decide)) (JF_c h.2.2.2.2.2 (hs 3 (by decide) (by decide))) (ht 11 (by decide) (by decide)) (ht 12 (by decide) (by decide))⟩
    · exact Or.inr ⟨ru, p0, mv, k, JT_c h1 (hs 3 (by decide) (by decide)), GO_fr h2 (hs 6 (by decide) (by decide)) (fun f a b c => ht f (by omega) (by omega))⟩
theorem restore_l {τ0 : S3} : ∀ (d n i : Nat) (s : S3), i + d = 12 → d < n → (∀ j, j < i → s 0 3 j = τ0 0 31 (3 + 3 * j) ∧ s 0 4 j = τ0 0 31 (4 + 3 * j) ∧ s 0 5 j = τ0 0 31 (5 + 3 * j)) → s 0 31 = τ0 0 31 → ∃ τ1, zl1 Fb_X9_restore_45 n (nI i) s = some (s 0 2 0, up (up τ1 0 11 0 0) 0 22 0 (-1)) ∧ (∀ j, j < 12 → τ1 0 3 j = τ0 0 31 (3 + 3 * j) ∧ τ1 0 4 j = τ0 0 31 (4 + 3 * j) ∧ τ1 0 5 j = τ0 0 31 (5 + 3 * j)) ∧ ∀ f, f ≠ 3 → f ≠ 4 → f ≠ 5 → τ1 0 f = s 0 f := by
  intro d
  induction d with
  | zero =>
    intro n i s hi hn hg h31
    obtain ⟨n, rfl⟩ : ∃ m, n = m + 1 := ⟨n - 1, by omega⟩
    refine ⟨s, ?_, fun j hj => hg j (by omega), fun _ _ _ _ => rfl⟩
    rw [zl1_s]
    generalize zl1 Fb_X9_restore_45 n = K
    unfold Fb_X9_restore_45
    rw [li12, if_pos (by rw [leN (by omega) (by omega)]; omega), M_isNew, bdE, up_f (show 2 ≠ 22 by decide), up_f (show 2 ≠ 11 by decide)]
  | succ d ih =>
    intro n i s hi hn hg h31
    obtain ⟨n, rfl⟩ : ∃ m, n = m + 1 := ⟨n - 1, by omega⟩
    obtain ⟨τ1, e1, e2, e3⟩ := ih n (i + 1) (up (up (up s 0 3 i (τ0 0 31 (3 + 3 * i))) 0 4 i (τ0 0 31 (4 + 3 * i))) 0 5 i (τ0 0 31 (5 + 3 * i))) (by omega) (by omega) (by
      intro j hj
      rw [up_f (show 3 ≠ 5 by decide), up_f (show 3 ≠ 4 by decide), up_s, up_f (show 4 ≠ 5 by decide), up_s, up_f (show 4 ≠ 3 by decide), up_s, up_f (show 5 ≠ 4 by decide), up_f (show 5 ≠ 3 by decide)]
      by_cases e : j = i
      · subst e; rw [upd_s, upd_s, upd_s]; exact ⟨rfl, rfl, rfl⟩
      · rw [upd_n e, upd_n e, upd_n e]; exact hg j (by omega)) (by rw [up_f (by decide), up_f (by decide), up_f (by decide)]; exact h31)
    refine ⟨τ1, ?_, e2, fun f a b c => by rw [e3 f a b c, up_f c, up_f b, up_f a]⟩
    rw [up_f (show 2 ≠ 5 by decide), up_f (show 2 ≠ 4 by decide), up_f (show 2 ≠ 3 by decide)] at e1
    rw [zl1_s]
    generalize zl1 Fb_X9_restore_45 n = K at e1 ⊢
    unfold Fb_X9_restore_45
    rw [li12, if_neg (by rw [leN (by omega) (by omega)]; omega)]
    simp only [nmE, show (3 : Int32) = nI 3 from rfl, show (4 : Int32) = nI 4 from rfl, show (5 : Int32) = nI 5 from rfl, mulN, nI_add, ckN (show i < 12 by omega) (show 12 < 2147483648 by omega), ckN (show 3 + 3 * i < 39 by omega) (show 39 < 2147483648 by omega), ckN (show 4 + 3 * i < 39 by omega) (show 39 < 2147483648 by omega), ckN (show 5 + 3 * i < 39 by omega) (show 39 < 2147483648 by omega), ixN (show i < 2147483648 by omega), ixN (show 3 + 3 * i < 2147483648 by omega), ixN (show 4 + 3 * i < 2147483648 by omega), ixN (show 5 + 3 * i < 2147483648 by omega), up_f (show 31 ≠ 3 by decide), up_f (show 31 ≠ 4 by decide), h31, li1]
    exact e1
theorem o_restore (h : Inv σ τ) : zst Inv (F_X8_restore σ) (F_X9_restore τ) := by
  have hi := h
  obtain ⟨N, L, B, ⟨hw, hX, hM, hMT, hT, hE, hz, hS, hIm⟩, hG⟩ := h
  unfold F_X8_restore F_X9_restore
  rcases hIm with ⟨h9, h32⟩ | ⟨h9, h32, h10, K, hwK, hB, hk0, hk1, hkr⟩
  · rw [h9, h32, li0, if_pos rfl, if_pos rfl]
    exact err_b (j := 2) hi (by decide)
  · have hkk := hwK.2.2.1
    obtain ⟨σ1, x1, x2, x3⟩ := X_become (c := 1) (c2 := 2) (σ := σ) (by decide) hwK hB
    obtain ⟨τ1, y1, y2, y3⟩ := restore_l (τ0 := τ) 12 zF 0 (up (up (up τ 0 1 0 (nI (nn K))) 0 2 0 (nI (nk K))) 0 17 0 (τ 0 31 2)) (by omega) (zfl (by omega)) (fun j hj => absurd hj (by omega)) (by rw [up_f (by decide), up_f (by decide), up_f (by decide)])
    have i0 : ix (0 : Int32) = 0 := rfl
    have i1 : ix (1 : Int32) = 1 := rfl
    have i2 : ix (2 : Int32) = 2 := rfl
    have c0 : ∀ (β : Type) (x : Option β), ck (0 : Int32) 39 x = x := fun β x => ckN (j := 0) (by omega) (by omega)
    have c1 : ∀ (β : Type) (x : Option β), ck (1 : Int32) 39 x = x := fun β x => ckN (j := 1) (by omega) (by omega)
    have c2 : ∀ (β : Type) (x : Option β), ck (2 : Int32) 39 x = x := fun β x => ckN (j := 2) (by omega) (by omega)
    have hn0 : ¬ nI 1 = (0 : Int32) := by decide
    rw [h9, h32, if_neg hn0, if_neg hn0, x1, bdE]
    unfold F_X9_restore_45
    simp only [nmE, i0, i1, i2, c0, c1, c2]
    rw [hk0, up_f (show 31 ≠ 1 by decide), hk1, up_f (show 31 ≠ 2 by decide), up_f (show 31 ≠ 1 by decide)]
    have y1' : zl1 Fb_X9_restore_45 zF 0 (up (up (up τ 0 1 0 (nI (nn K))) 0 2 0 (nI (nk K))) 0 17 0 (τ 0 31 2)) = _ := y1
    have r2 : (up (up (up τ 0 1 0 (nI (nn K))) 0 2 0 (nI (nk K))) 0 17 0 (τ 0 31 2)) 0 2 0 = nI (nk K) := by rw [up_f (by decide), up_at]
    have r1 : (up (up (up τ 0 1 0 (nI (nn K))) 0 2 0 (nI (nk K))) 0 17 0 (τ 0 31 2)) 0 1 0 = nI (nn K) := by rw [up_f (by decide), up_f (by decide), up_at]
    rw [y1', r2, up_c (show 1 ≠ 6 by decide), up_c (show 1 ≠ 4 by decide), x2.2.1]
    have hf : ∀ f, f = 0 ∨ 5 < f ∧ f ≠ 17 → τ1 0 f = τ 0 f := fun f hf => by rw [y3 f (by omega) (by omega) (by omega), up_f (by omega), up_f (by omega), up_f (by omega)]
    have hu : ∀ f, f ≠ 11 → f ≠ 22 → (up (up τ1 0 11 0 0) 0 22 0 (-1)) 0 f = τ1 0 f := fun f h1 h2 => by rw [up_f h2, up_f h1]
    have hMK : RM K τ1 := ⟨by rw [y3 1 (by decide) (by decide) (by decide)]; exact r1, by rw [y3 2 (by decide) (by decide) (by decide)]; exact r2, fun i hi => by
      have a := y2 i (by omega)
      rw [a.1, a.2.1, a.2.2]
      exact hkr i hi⟩
    refine ⟨_, _, _, rfl, rfl, Inv_new hi hwK (RX_c (by rw [up_c (by decide), up_c (by decide)]) x2) (RM_fr hMK (fun f _ _ => hu f (by omega) (by omega))) (fun c h1 h4 h6 _ => by rw [up_c h6, up_c h4, x3 c h1]) (by rw [up_at]; rfl) (by rw [up_f (by decide), up_c (by decide), x3 6 (by decide)]) ⟨L, B, TP_fr hT (by rw [up_c (by decide), up_c (by decide), x3 7 (by decide)]) (by rw [hu 9 (by decide) (by decide), hf 9 (by omega)]) (by rw [hu 10 (by decide) (by decide), hf 10 (by omega)])⟩ ?_ (by rw [up_f (by decide), up_at]; rfl) (by rw [up_at]; exact m1) (fun f h => by rw [hu f (by omega) (by omega), hf f (by omega)])⟩
    rw [up_c (by decide), up_at, x3 0 (by decide), hu 17 (by decide) (by decide), y3 17 (by decide) (by decide) (by decide), up_at]
    exact h10
theorem there_l (hS : SH σ τ) : ∀ (d n n' i c : Nat), i + d = 4 → d < n → d < n' → ∃ r, zl2 Fb_X8_sheetsThere_4 n (nI c) (nI i) σ = some (r, σ) ∧ zl2 Fb_X9_sheetsThere_4 n' (nI c) (nI i) τ = some (r, τ) := by
  intro d
  induction d with
  | zero =>
    intro n n' i c hi h1 h2
    obtain ⟨n, rfl⟩ : ∃ m, n = m + 1 := ⟨n - 1, by omega⟩
    obtain ⟨n', rfl⟩ : ∃ m, n' = m + 1 := ⟨n' - 1, by omega⟩
    refine ⟨nI c, ?_, ?_⟩
    · rw [zl2_s]
      generalize zl2 Fb_X8_sheetsThere_4 n = K
      unfold Fb_X8_sheetsThere_4
      rw [li4, if_pos (by rw [leN (by omega) (by omega)]; omega)]
    · rw [zl2_s]
      generalize zl2 Fb_X9_sheetsThere_4 n' = K
      unfold Fb_X9_sheetsThere_4
      rw [li4, if_pos (by rw [leN (by omega) (by omega)]; omega)]
  | succ d ih =>
    intro n n' i c hi h1 h2
    obtain ⟨n, rfl⟩ : ∃ m, n = m + 1 := ⟨n - 1, by omega⟩
    obtain ⟨n', rfl⟩ : ∃ m, n' = m + 1 := ⟨n' - 1, by omega⟩
    have ihn := ih n n' (i + 1)
    obtain ⟨b, m, q1, q2, q3, q4, _⟩ := hS i (by omega)
    have hnle : ¬ nI 4 ≤ nI i := by rw [leN (by omega) (by omega)]; omega
    rw [zl2_s, zl2_s]
    generalize zl2 Fb_X8_sheetsThere_4 n = K at ihn ⊢
    generalize zl2 Fb_X9_sheetsThere_4 n' = K' at ihn ⊢
    unfold Fb_X8_sheetsThere_4 Fb_X9_sheetsThere_4 F_X4_isMissing
    rw [li4, if_neg hnle, if_neg hnle, ckN (by omega) (by omega), ckN (by omega) (by omega), ixN (by omega), q3, q4]
    simp only [nmE, li1, nI_add, li0]
    by_cases e : b = 0
    · have e' : nI b = nI 0 := by rw [e]
      rw [if_pos e', if_pos e', bdE, if_neg n1_0]
      exact ihn c (by omega) (by omega) (by omega)
    · have e' : ¬ nI b = nI 0 := by rw [eqN (by omega) (by omega)]; exact e
      rw [if_neg e', if_neg e', bdE, if_pos rfl]
      exact ihn (c + 1) (by omega) (by omega) (by omega)
theorem o_count (h : Inv σ τ) (a0 : Int32) : zst Inv (F_X8_count a0 σ) (F_X9_count a0 τ) := by
  have hi := h
  obtain ⟨N, L, B, ⟨hw, hX, hM, hMT, hT, hE, hz, hS, hIm⟩, hG⟩ := h
  have hg : σ 6 0 0 = τ 0 11 0 := by
    rcases hG with ⟨ru, h⟩ | ⟨ru, p0, mv, k, h1, h2⟩
    · rw [h.2.2.2.1, h.2.2.2.2.1]
    · rw [h2.2.2.2.1.2.1, h2.2.2.2.2.1]
  unfold F_X8_count F_X9_count
  rw [hX.1, hM.1, hX.2.1, hM.2.1, hT.2.1, hT.2.2.1, hz, hg]
  by_cases e0 : a0 = 0
  · rw [if_pos e0, if_pos e0]; exact ret_b hi _
  · rw [if_neg e0, if_neg e0]
    by_cases e1 : a0 = 1
    · rw [if_pos e1, if_pos e1]; exact ret_b hi _
    · rw [if_neg e1, if_neg e1]
      by_cases e2 : a0 = 2
      · rw [if_pos e2, if_pos e2]; exact ret_b hi _
      · rw [if_neg e2, if_neg e2]
        by_cases e3 : a0 = 3
        · rw [if_pos e3, if_pos e3]
          by_cases c : τ 0 11 0 = 0
          · rw [if_pos c, if_pos c]; exact ret_b hi _
          · rw [if_neg c, if_neg c]; exact ret_b hi _
        · rw [if_neg e3, if_neg e3]
          by_cases e4 : a0 = 4
          · rw [if_pos e4, if_pos e4]; exact ret_b hi _
          · rw [if_neg e4, if_neg e4]
            by_cases e5 : a0 = 5
            · rw [if_pos e5, if_pos e5]
              obtain ⟨r, x1, x2⟩ := there_l hS 4 zF zF 0 0 (by omega) (zfl (by omega)) (zfl (by omega))
              unfold F_X8_sheetsThere F_X8_sheetsThere_4 F_X9_sheetsThere F_X9_sheetsThere_4
              have x1' : zl2 Fb_X8_sheetsThere_4 zF 0 0 σ = _ := x1
              have x2' : zl2 Fb_X9_sheetsThere_4 zF 0 0 τ = _ := x2
              rw [x1', x2', bdE, bdE]
              exact ret_b hi _
            · rw [if_neg e5, if_neg e5]
              exact err_b (j := 1) hi (by decide)
theorem o_told (h : Inv σ τ) (a0 : Int32) : zst Inv (F_X8_told a0 σ) (F_X9_told a0 τ) := by
  have hi := h
  obtain ⟨N, L, B, ⟨hw, hX, hM, hMT, hT, hE, _⟩, hG⟩ := h
  unfold F_X8_told F_X9_told
  rw [show (6 : Int32) = nI 6 from rfl, ifr1, M_in1, bdE]
  cases hb : in1B a0 6
  · rw [if_neg Bool.false_ne_true, bf0, if_pos rfl]; exact err_b (j := 1) hi (by decide)
  · rw [if_pos rfl, if_neg bt0]
    obtain ⟨j, h1, h2, e⟩ := in1B_t (by omega) hb
    subst e
    rw [ckN (by omega) (by omega), ckN (by omega) (by omega), ixN (by omega), hE j (by omega)]
    exact ret_b hi _
/-! the start -/
theorem Inv_0 : Inv sg0 tu0 := by
  have wf : nwf (N_cl 4) := N_cl_wf (by omega) (by omega)
  refine ⟨N_cl 4, 0, fun _ => 0, ⟨wf, ?_, ?_, MT_m1 rfl, ⟨by omega, rfl, rfl, fun i hi => absurd hi (Nat.not_lt_zero i)⟩, fun k _ => rfl, rfl, ?_, Or.inl ⟨rfl, rfl⟩⟩, Or.inl ⟨0, by omega, rfl, rfl, rfl, rfl, 0, rfl, by omega, fun k _ => ⟨0, rfl, by omega⟩⟩⟩
  · refine ⟨rfl, rfl, fun i hi => absurd hi (Nat.not_lt_zero i), fun p hp => ?_⟩
    have hz : ∀ P : Nat → Bool, (∀ q, P q = false) → bset 10 P = 0 := by
      intro P hP
      apply Nat.eq_of_testBit_eq
      intro q
      rw [bset_tb, hP, Nat.zero_testBit, Bool.and_false]
    have h8 : bsd (N_cl 4) p = 0 := hz _ (fun _ => rfl)
    have h9 : ahd (N_cl 4) p = 0 := hz _ (fun _ => rfl)
    rw [h8, h9]
    exact ⟨rfl, rfl, rfl, rfl, rfl⟩
  · exact ⟨rfl, rfl, fun i hi => absurd hi (Nat.not_lt_zero i)⟩
  · intro k hk
    refine ⟨0, 0, Or.inl rfl, by omega, ?_, rfl, ?_, rfl, fun i _ => ?_⟩
    · show sg0 (8 + k) 0 0 = nI 0
      unfold sg0
      rw [if_neg (by omega), if_neg (by omega)]
      rfl
    · show sg0 (8 + k) 1 0 = nI 0
      unfold sg0
      rw [if_neg (by omega), if_neg (by omega)]
      rfl
    · show sg0 (8 + k) 2 i = tu0 0 30 (24 * k + i)
      unfold sg0
      rw [if_neg (by omega), if_neg (by omega)]
      rfl
theorem Inv_ok : zOK Inv := by
  refine ⟨fun σ τ h => o_points h, fun σ τ h => o_line h, fun σ τ h => o_way h, fun σ τ h => o_cut h, fun σ τ h => o_ends h, fun σ τ h => o_at h, fun σ τ h => o_sides h, fun σ τ h => o_pairing h, fun σ τ h => o_needed h, fun σ τ h => o_kernel h, fun σ τ h => o_feed h, fun σ τ h => o_network h, fun σ τ h => o_begin h, fun σ τ h => o_go h, fun σ τ h => o_back h, fun σ τ h => o_game h, fun σ τ h => o_moved h, fun σ τ h => o_moves h, fun σ τ h => o_worth h, fun σ τ h => o_reach h, fun σ τ h => o_starts h, fun σ τ h => o_tells h, fun σ τ h => o_play h, fun σ τ h => o_fight h, fun σ τ h => o_tree h, fun σ τ h => o_node h, fun σ τ h => o_sheet h, fun σ τ h => o_put h, fun σ τ h => o_number h, fun σ τ h => o_copy h, fun σ τ h => o_degrees h, fun σ τ h => o_walks h, fun σ τ h => o_seed h, fun σ τ h => o_image h, fun σ τ h => o_restore h, fun σ τ h => o_count h, fun σ τ h => o_told h⟩
end
