/-! PURE: the calls, one by one: the network -/
section
variable {N : Nt} {L : Nat} {B : Nat → Nat} {σ τ σ1 τ1 : S3}
theorem M_isNew : F_X9_isNew τ = some (0, up (up τ 0 11 0 0) 0 22 0 (-1)) := by
  unfold F_X9_isNew
  rw [nmE, nmE]
theorem Inv_net {N' : Nt} (h : Inv σ τ) (hw' : nwf N') (hX : RX 1 N' σ1) (hc : ∀ c, c ≠ 1 → σ1 c = σ c) (hM : RM N' τ1) (hf : ∀ f, f = 0 ∨ 5 < f → τ1 0 f = τ 0 f) : Inv (up σ1 6 0 0 0) (up (up τ1 0 11 0 0) 0 22 0 (-1)) := by
  have hi := h
  obtain ⟨N, L, B, ⟨a, b, c, d, e, f, g, i, jm⟩, hG⟩ := h
  have hu : ∀ f, f ≠ 11 → f ≠ 22 → (up (up τ1 0 11 0 0) 0 22 0 (-1)) 0 f = τ1 0 f := fun f h1 h2 => by rw [up_f h2, up_f h1]
  refine Inv_new hi hw' (RX_c (up_c (by decide)) hX) (RM_fr hM (fun f h1 h2 => hu f (by omega) (by omega))) (fun c h1 _ h6 _ => by rw [up_c h6, hc c h1]) (by rw [up_at]; rfl) (by rw [up_f (by decide), hc 6 (by decide)]) ⟨L, B, TP_fr e (by rw [up_c (by decide), hc 7 (by decide)]) (by rw [hu 9 (by decide) (by decide), hf 9 (by omega)]) (by rw [hu 10 (by decide) (by decide), hf 10 (by omega)])⟩ ?_ (by rw [up_f (by decide), up_at]; rfl) (by rw [up_at]; exact m1) (fun f h => by rw [hu f (by omega) (by omega), hf f (by omega)])
  rw [up_c (by decide), hc 4 (by decide), hu 17 (by decide) (by decide), hf 17 (by omega)]
  exact g
theorem o_points (h : Inv σ τ) (a0 : Int32) : zst Inv (F_X8_points a0 σ) (F_X9_points a0 τ) := by
  have hi := h
  obtain ⟨N, L, B, ⟨hw, hX, hM, _⟩, _⟩ := h
  unfold F_X8_points F_X9_points
  rw [li10, ifr1, M_in1, bdE]
  cases hb : in1B a0 10
  · rw [if_neg Bool.false_ne_true, bf0, if_pos rfl]
    exact err_b (j := 1) hi (by decide)
  · rw [if_pos rfl, if_neg bt0]
    obtain ⟨j, h1, h2, e⟩ := in1B_t (by omega) hb
    subst e
    obtain ⟨σ1, x1, x2, x3⟩ := X_clear (c := 1) (σ := σ) h1 h2
    simp only [nmE]
    rw [x1, bdE, M_isNew, bdE, hX.1, hM.1]
    exact ⟨_, _, _, rfl, rfl, Inv_net hi (N_cl_wf h1 h2) x2 x3 ⟨by rw [up_f (by decide), up_at]; rfl, by rw [up_at]; rfl, fun i hi => absurd hi (Nat.not_lt_zero i)⟩ (fun f hf => by rw [up_f (by omega), up_f (by omega)])⟩
theorem RM_jn (h : RM N τ) {a b w : Nat} : RM (N_jn N a b w) (up (up (up (up τ 0 3 (nk N) (nI a)) 0 4 (nk N) (nI b)) 0 5 (nk N) (nI w)) 0 2 0 (nI (nk N + 1))) := by
  refine ⟨?_, ?_, ?_⟩
  · rw [up_f (by decide), up_f (by decide), up_f (by decide), up_f (by decide)]; exact h.1
  · rw [up_at]; rfl
  · intro i hi
    have hi' : i < nk N + 1 := hi
    rw [up_f (show 3 ≠ 2 by decide), up_f (show 3 ≠ 5 by decide), up_f (show 3 ≠ 4 by decide), up_s, up_f (show 4 ≠ 2 by decide), up_f (show 4 ≠ 5 by decide), up_s, up_f (show 4 ≠ 3 by decide), up_f (show 5 ≠ 2 by decide), up_s, up_f (show 5 ≠ 4 by decide), up_f (show 5 ≠ 3 by decide)]
    show _ = nI (ex (nf N) (nk N) a i) ∧ _ = nI (ex (nt N) (nk N) b i) ∧ _ = nI (ex (nw N) (nk N) w i)
    unfold ex
    by_cases e : i = nk N
    · subst e; simp only [if_true, upd_s]; exact ⟨trivial, trivial, trivial⟩
    · rw [upd_n e, upd_n e, upd_n e, if_neg e, if_neg e, if_neg e]; exact h.2.2 i (by omega)
theorem o_line (h : Inv σ τ) (a0 a1 a2 : Int32) : zst Inv (F_X8_line a0 a1 a2 σ) (F_X9_line a0 a1 a2 τ) := by
  have hi := h
  obtain ⟨N, L, B, ⟨hw, hX, hM, _⟩, _⟩ := h
  have hn := hw.2.1
  have hk := hw.2.2.1
  unfold F_X8_line F_X9_line
  rw [X_hasPoint hX, bdE, M_isPoint hw hM, bdE]
  cases hb : inB a0 (nn N)
  · rw [bf0, if_pos rfl, if_pos rfl]; exact err_b (j := 1) hi (by decide)
  · rw [if_neg bt0, if_neg bt0, X_hasPoint hX, bdE, M_isPoint hw hM, bdE]
    cases hb1 : inB a1 (nn N)
    · rw [bf0, if_pos rfl, if_pos rfl]; exact err_b (j := 1) hi (by decide)
    · rw [if_neg bt0, if_neg bt0, X_isWay, bdE, show (2 : Int32) = nI 2 from rfl, M_in0 _ (by omega), bdE]
      cases hb2 : inB a2 (2 + 1)
      · rw [bf0, if_pos rfl, if_pos rfl]; exact err_b (j := 1) hi (by decide)
      · rw [if_neg bt0, if_neg bt0]
        by_cases e : a0 = a1
        · rw [if_pos e, if_pos e]; exact err_b (j := 5) hi (by decide)
        · rw [if_neg e, if_neg e, hX.2.1, hM.2.1, li12]
          obtain ⟨x, hx, ex⟩ := inB_t (by omega) hb
          obtain ⟨y, hy, ey⟩ := inB_t (by omega) hb1
          obtain ⟨w, hww, ew⟩ := inB_t (by omega) hb2
          subst ex ey ew
          have hxy : x ≠ y := fun h => e (by rw [h])
          by_cases hf : nk N = 12
          · rw [if_neg (show ¬ nI (nk N) < nI 12 by rw [ltN (by omega) (by omega)]; omega), if_pos (show nI (nk N) = nI 12 by rw [hf])]
            exact err_b (j := 4) hi (by decide)
          · obtain ⟨σ1, x1, x2, x3⟩ := X_join hw (RB_of hX) (show nk N < 12 by omega) hx hy hxy hww
            rw [if_pos (show nI (nk N) < nI 12 by rw [ltN (by omega) (by omega)]; omega), if_neg (show ¬ nI (nk N) = nI 12 by rw [eqN (by omega) (by omega)]; exact hf), x1, bdE, nmE, M_comes hM.2.1 (by omega), bdE, M_isNew, bdE]
            have r1 : (up σ1 6 0 0 0) 1 1 0 = nI (nk N + 1) := by rw [up_c (by decide)]; exact x2.2.1
            have r2 : (up (up (up (up (up (up τ 0 3 (nk N) (nI x)) 0 4 (nk N) (nI y)) 0 5 (nk N) (nI w)) 0 2 0 (nI (nk N + 1))) 0 11 0 0) 0 22 0 (-1)) 0 2 0 = nI (nk N + 1) := by rw [up_f (by decide), up_f (by decide), up_at]
            rw [r1, r2]
            exact ⟨_, _, _, rfl, rfl, Inv_net hi (N_jn_wf hw (by omega) hx hy hxy hww) x2 x3 (RM_jn hM) (fun f hf => by rw [up_f (by omega), up_f (by omega), up_f (by omega), up_f (by omega)])⟩
theorem o_way (h : Inv σ τ) (a0 a1 : Int32) : zst Inv (F_X8_way a0 a1 σ) (F_X9_way a0 a1 τ) := by
  have hi := h
  obtain ⟨N, L, B, ⟨hw, hX, hM, _⟩, _⟩ := h
  have hk := hw.2.2.1
  unfold F_X8_way F_X9_way
  rw [X_hasLine hX, bdE, M_isLine hw hM, bdE]
  cases hb : inB a0 (nk N)
  · rw [bf0, if_pos rfl, if_pos rfl]; exact err_b (j := 1) hi (by decide)
  · rw [if_neg bt0, if_neg bt0, X_isWay, bdE, show (2 : Int32) = nI 2 from rfl, M_in0 _ (by omega), bdE]
    cases hb2 : inB a1 (2 + 1)
    · rw [bf0, if_pos rfl, if_pos rfl]; exact err_b (j := 1) hi (by decide)
    · rw [if_neg bt0, if_neg bt0]
      obtain ⟨l, hl, el⟩ := inB_t (by omega) hb
      obtain ⟨w, hww, ew⟩ := inB_t (by omega) hb2
      subst el ew
      have c1 := hX.2.2.1 l hl
      have c2 := hM.2.2 l hl
      obtain ⟨σ1, x1, x2, x3⟩ := X_turn hw (RB_of hX) hl hww
      rw [ckN (by omega) (by omega), ckN (by omega) (by omega), ixN (by omega), c1.2.2, c2.2.2, nmE, nmE, x1, bdE, nmE, ckN (by omega) (by omega), nmE, M_isNew, bdE]
      refine ⟨_, _, _, rfl, rfl, Inv_net hi (N_tn_wf (l := l) hw hww) x2 x3 ⟨?_, ?_, ?_⟩ (fun f hf => by rw [up_f (by omega)])⟩
      · rw [up_f (by decide)]; exact hM.1
      · rw [up_f (by decide)]; exact hM.2.1
      · intro i hi2
        have h2 := hM.2.2 i hi2
        rw [up_f (by decide), up_f (by decide), up_s]
        refine ⟨h2.1, h2.2.1, ?_⟩
        show _ = nI (ex (nw N) l w i)
        unfold ex
        by_cases e : i = l
        · subst e; rw [upd_s, if_pos rfl]
        · rw [upd_n e, if_neg e]; exact h2.2.2
theorem M_cut (hw : nwf N) (hM : RM N τ) {l : Nat} (hl : l < nk N) : ∀ (d n i : Nat) (s : S3), i + d = nk N - 1 → d < n → l ≤ i → s 0 1 0 = nI (nn N) → s 0 2 0 = nI (nk N - 1) → (∀ j, j < i → s 0 3 j = nI (sk (nf N) l j) ∧ s 0 4 j = nI (sk (nt N) l j) ∧ s 0 5 j = nI (sk (nw N) l j)) → (∀ j, i ≤ j → j < nk N → s 0 3 j = nI (nf N j) ∧ s 0 4 j = nI (nt N j) ∧ s 0 5 j = nI (nw N j)) → (∀ f, f = 0 ∨ 5 < f → s 0 f = τ 0 f) → ∃ τ1, zl1 Fb_X9_cut_26 n (nI i) s = some (nI (nk N - 1), up (up τ1 0 11 0 0) 0 22 0 (-1)) ∧ RM (N_ct N l) τ1 ∧ ∀ f, f = 0 ∨ 5 < f → τ1 0 f = τ 0 f := by
  have hk := hw.2.2.1
  intro d
  induction d with
  | zero =>
    intro n i s hi hn hli h1 h2 h3 h4 h5
    obtain ⟨n, rfl⟩ : ∃ m, n = m + 1 := ⟨n - 1, by omega⟩
    refine ⟨s, ?_, ⟨h1, h2, fun j hj => h3 j (by have : j < nk N - 1 := hj; omega)⟩, h5⟩
    rw [zl1_s]
    generalize zl1 Fb_X9_cut_26 n = K
    unfold Fb_X9_cut_26
    rw [h2, if_pos (by rw [leN (by omega) (by omega)]; omega), M_isNew, bdE, up_f (show 2 ≠ 22 by decide), up_f (show 2 ≠ 11 by decide), h2]
  | succ d ih =>
    intro n i s hi hn hli h1 h2 h3 h4 h5
    obtain ⟨n, rfl⟩ : ∃ m, n = m + 1 := ⟨n - 1, by omega⟩
    have c1 := h4 (i + 1) (by omega) (by omega)
    obtain ⟨τ1, e1, e2, e3⟩ := ih n (i + 1) (up (up (up s 0 3 i (nI (nf N (i + 1)))) 0 4 i (nI (nt N (i + 1)))) 0 5 i (nI (nw N (i + 1)))) (by omega) (by omega) (by omega) (by rw [up_f (by decide), up_f (by decide), up_f (by decide)]; exact h1) (by rw [up_f (by decide), up_f (by decide), up_f (by decide)]; exact h2) (by
      intro j hj
      rw [up_f (show 3 ≠ 5 by decide), up_f (show 3 ≠ 4 by decide), up_s, up_f (show 4 ≠ 5 by decide), up_s, up_f (show 4 ≠ 3 by decide), up_s, up_f (show 5 ≠ 4 by decide), up_f (show 5 ≠ 3 by decide)]
      by_cases e : j = i
      · subst e
        have : ¬ j < l := by omega
        unfold sk
        rw [upd_s, upd_s, upd_s, if_neg this, if_neg this, if_neg this]
        exact ⟨rfl, rfl, rfl⟩
      · rw [upd_n e, upd_n e, upd_n e]; exact h3 j (by omega)) (by
      intro j hj hj2
      rw [up_f (show 3 ≠ 5 by decide), up_f (show 3 ≠ 4 by decide), up_s, up_f (show 4 ≠ 5 by decide), up_s, up_f (show 4 ≠ 3 by decide), up_s, up_f (show 5 ≠ 4 by decide), up_f (show 5 ≠ 3 by decide)]
      have e : j ≠ i := by omega
      rw [upd_n e, upd_n e, upd_n e]; exact h4 j (by omega) hj2) (fun f hf => by rw [up_f (by omega), up_f (by omega), up_f (by omega)]; exact h5 f hf)
    refine ⟨τ1, ?_, e2, e3⟩
    rw [zl1_s]
    generalize zl1 Fb_X9_cut_26 n = K at e1 ⊢
    unfold Fb_X9_cut_26
    rw [h2, if_neg (show ¬ nI (nk N - 1) ≤ nI i by rw [leN (by omega) (by omega)]; omega)]
    simp only [nmE, li1, nI_add, ckN (show i + 1 < 12 by omega) (show 12 < 2147483648 by omega), ckN (show i < 12 by omega) (show 12 < 2147483648 by omega), ixN (show i < 2147483648 by omega), ixN (show i + 1 < 2147483648 by omega), up_f (show 4 ≠ 3 by decide), up_f (show 5 ≠ 4 by decide), up_f (show 5 ≠ 3 by decide), c1.1, c1.2.1, c1.2.2]
    exact e1
theorem o_cut (h : Inv σ τ) (a0 : Int32) : zst Inv (F_X8_cut a0 σ) (F_X9_cut a0 τ) := by
  have hi := h
  obtain ⟨N, L, B, ⟨hw, hX, hM, _⟩, _⟩ := h
  have hk := hw.2.2.1
  unfold F_X8_cut F_X9_cut
  rw [X_hasLine hX, bdE, M_isLine hw hM, bdE]
  cases hb : inB a0 (nk N)
  · rw [bf0, if_pos rfl, if_pos rfl]; exact err_b (j := 1) hi (by decide)
  · rw [if_neg bt0, if_neg bt0]
    obtain ⟨l, hl, el⟩ := inB_t (by omega) hb
    subst el
    obtain ⟨σ1, x1, x2, x3⟩ := X_remove hw (RB_of hX) hl
    obtain ⟨τ1, y1, y2, y3⟩ := M_cut hw hM hl (nk N - 1 - l) zF l (up τ 0 2 0 (nI (nk N - 1))) (by omega) (zfl (by omega)) (Nat.le_refl _) (by rw [up_f (by decide)]; exact hM.1) (by rw [up_at]) (by
      intro j hj
      rw [up_f (by decide), up_f (by decide), up_f (by decide)]
      unfold sk
      rw [if_pos hj, if_pos hj, if_pos hj]
      exact hM.2.2 j (by omega)) (by
      intro j _ hj
      rw [up_f (by decide), up_f (by decide), up_f (by decide)]
      exact hM.2.2 j hj) (fun f hf => by rw [up_f (by omega)])
    unfold F_X9_cut_26
    rw [x1, bdE, nmE, nmE, hM.2.1, li1, subN (by omega), y1, up_c (show 1 ≠ 6 by decide), x2.2.1]
    exact ⟨_, _, _, rfl, rfl, Inv_net hi (N_ct_wf hw hl) x2 x3 y2 y3⟩
theorem o_ends (h : Inv σ τ) (a0 a1 : Int32) : zst Inv (F_X8_ends a0 a1 σ) (F_X9_ends a0 a1 τ) := by
  have hi := h
  obtain ⟨N, L, B, ⟨hw, hX, hM, _⟩, _⟩ := h
  have hk := hw.2.2.1
  unfold F_X8_ends F_X9_ends
  rw [X_hasLine hX, bdE, M_isLine hw hM, bdE]
  cases hb : inB a0 (nk N)
  · rw [bf0, if_pos rfl, if_pos rfl]; exact err_b (j := 1) hi (by decide)
  · rw [if_neg bt0, if_neg bt0, show (2 : Int32) = nI 2 from rfl, ifr _ (by omega), M_in0 _ (by omega), bdE]
    cases hb2 : inB a1 (2 + 1)
    · rw [if_neg Bool.false_ne_true, bf0, if_pos rfl]; exact err_b (j := 1) hi (by decide)
    · rw [if_pos rfl, if_neg bt0]
      obtain ⟨l, hl, el⟩ := inB_t (by omega) hb
      subst el
      have c1 := hX.2.2.1 l hl
      have c2 := hM.2.2 l hl
      simp only [ckN (show l < 12 by omega) (show 12 < 2147483648 by omega), ixN (show l < 2147483648 by omega), c1.1, c1.2.1, c1.2.2, c2.1, c2.2.1, c2.2.2]
      by_cases e0 : a1 = 0
      · rw [if_pos e0, if_pos e0]; exact ret_b hi _
      · rw [if_neg e0, if_neg e0]
        by_cases e1 : a1 = 1
        · rw [if_pos e1, if_pos e1]; exact ret_b hi _
        · rw [if_neg e1, if_neg e1]; exact ret_b hi _
theorem o_at (h : Inv σ τ) (a0 a1 : Int32) : zst Inv (F_X8_at a0 a1 σ) (F_X9_at a0 a1 τ) := by
  have hi := h
  obtain ⟨N, L, B, ⟨hw, hX, hM, _⟩, _⟩ := h
  have hn := hw.2.1
  unfold F_X8_at F_X9_at F_X9_at_26
  rw [X_hasPoint hX, bdE, M_isPoint hw hM, bdE]
  cases hb : inB a0 (nn N)
  · rw [bf0, if_pos rfl, if_pos rfl]; exact err_b (j := 1) hi (by decide)
  · rw [if_neg bt0, if_neg bt0, show (2 : Int32) = nI 2 from rfl, ifr _ (by omega), M_in0 _ (by omega), bdE]
    cases hb2 : inB a1 (2 + 1)
    · rw [if_neg Bool.false_ne_true, bf0, if_pos rfl]; exact err_b (j := 1) hi (by decide)
    · rw [if_pos rfl, if_neg bt0]
      obtain ⟨p, hp, ep⟩ := inB_t (by omega) hb
      obtain ⟨w, hww, ew⟩ := inB_t (by omega) hb2
      subst ep ew
      rw [X_degree hw hX hp (by omega), bdE, M_degree hw hM hp (by omega), bdE]
      exact ret_b hi _
theorem o_sides (h : Inv σ τ) : zst Inv (F_X8_sides σ) (F_X9_sides τ) := by
  have hi := h
  obtain ⟨N, L, B, ⟨hw, hX, hM, _⟩, _⟩ := h
  have hfr : ∀ g, Inv σ (upA τ 0 6 g) := fun g => Inv_fr hi (fun _ _ _ => rfl) (fun f hf => by rw [upA_f (by omega)]) (by rw [upA_f (by decide)]; exact Inv_z hi)
  unfold F_X8_sides
  rcases M_sides hw hM with ⟨χ, g, h1, h2, h3⟩ | ⟨h1, g, h2⟩
  · have hb : bset (nn N) (fun p => !χ p) < 1024 := p10 hw (bset_lt _ _)
    rw [X_sides_yes hw hX h1 h2, bdE, h3, if_pos (by rw [li0, leN (by omega) (by omega)]; omega)]
    exact ⟨_, _, _, rfl, rfl, hfr g⟩
  · rw [X_sides_no hw hX h1, bdE, h2, if_neg (by decide)]
    exact err_b (j := 2) (hfr g) (by decide)
theorem neg31 {v : Int32} (h : v < 0) : bt v 31 = true := by
  rw [Int32.lt_iff_toInt_lt] at h
  have h2 : v.toBitVec.toInt < 0 := h
  have : v.toBitVec.msb = true := by
    rw [BitVec.msb_eq_toInt]
    exact decide_eq_true h2
  rw [BitVec.msb_eq_getLsbD_last] at this
  exact this
theorem set_in {v : Int32} {n : Nat} (hn : n ≤ 10) : (v &&& (nI (2 ^ n - 1) ^^^ (-1)) = 0) = (inB v (2 ^ n) = true) := by
  have hp : 2 ^ n ≤ 2 ^ 10 := Nat.pow_le_pow_right (by omega) hn
  have hpos := Nat.two_pow_pos n
  apply propext
  by_cases h0 : v < 0
  · have h31 := neg31 h0
    constructor
    · intro h
      have := congrArg (fun x => bt x 31) h
      simp only [b_and, b_xor, h31, m1, b_m1 31 (by omega), b_nI _ (show 31 < 32 by omega)] at this
      rw [Nat.testBit_lt_two_pow (show 2 ^ n - 1 < 2 ^ 31 by omega)] at this
      have h3 : bt 0 31 = false := by decide
      rw [h3] at this
      cases this
    · intro h
      obtain ⟨j, hj, e⟩ := inB_t (by omega) h
      subst e
      rw [li0, ltN (by omega) (by omega)] at h0
      omega
  · obtain ⟨j, hj, e⟩ := nI_of h0
    subst e
    rw [m1, difN, inB_N (by omega) (by omega), decide_eq_true_eq, li0]
    have hd : dif j (2 ^ n - 1) < 2147483648 := Nat.lt_of_le_of_lt (dif_le _ _) (by omega)
    rw [eqN hd (by omega)]
    constructor
    · intro h
      apply lt_of_tb
      intro i hi
      have := congrArg (fun x => x.testBit i) h
      simp only [dif_tb, hi, Nat.testBit_two_pow_sub_one, Nat.zero_testBit, Bool.true_and] at this
      simpa using this
    · intro h
      apply Nat.eq_of_testBit_eq
      intro i
      rw [dif_tb, Nat.zero_testBit, Nat.testBit_two_pow_sub_one]
      by_cases c : i < n
      · simp [c]
      · rw [Nat.testBit_lt_two_pow (Nat.lt_of_lt_of_le h (Nat.pow_le_pow_right (by omega) (by omega)))]; rfl
theorem o_pairing (h : Inv σ τ) (a0 a1 : Int32) : zst Inv (F_X8_pairing a0 a1 σ) (F_X9_pairing a0 a1 τ) := by
  have hi := h
  obtain ⟨N, L, B, ⟨hw, hX, hM, _⟩, _⟩ := h
  have hal := all_lt hw
  have hn := hw.2.1
  have hpos := Nat.two_pow_pos (nn N)
  have hsi := set_in (v := a0) hn
  unfold F_X8_pairing F_X9_pairing
  rw [X_everyPoint hw hX, bdE, M_all hM hw, bdE]
  have hcl : ∀ (A C : R3), (if a0 < 0 then A else if nI (2 ^ nn N - 1) < a0 then A else C) = if inB a0 (2 ^ nn N) = true then C else A := by
    intro A C
    have := ifr (α := R3) a0 (n := 2 ^ nn N - 1) (by omega) A C
    rw [show 2 ^ nn N - 1 + 1 = 2 ^ nn N by omega] at this
    rw [← this]
    by_cases h0 : a0 < 0
    · rw [if_pos h0, if_pos h0]
    · rw [if_neg h0, if_neg h0]
      by_cases h1 : nI (2 ^ nn N - 1) < a0
      · rw [if_pos h1, if_neg (fun h => Int32.lt_irrefl (Int32.lt_of_le_of_lt h h1))]
      · rw [if_neg h1, if_pos (by rw [i_nlt] at h1; exact h1)]
  rw [hcl]
  cases hb : inB a0 (2 ^ nn N)
  · rw [if_neg Bool.false_ne_true, if_neg (show ¬ (a0 &&& (nI (2 ^ nn N - 1) ^^^ -1) = 0) from by rw [hsi, hb]; exact Bool.false_ne_true)]
    exact err_b (j := 1) hi (by decide)
  · rw [if_pos rfl, if_pos (show a0 &&& (nI (2 ^ nn N - 1) ^^^ -1) = 0 from by rw [hsi]; exact hb), show (1 : Int32) = nI 1 from rfl, ifr _ (by omega), M_in0 _ (by omega), bdE]
    cases hb2 : inB a1 (1 + 1)
    · rw [if_neg Bool.false_ne_true, bf0, if_pos rfl]; exact err_b (j := 1) hi (by decide)
    · rw [if_pos rfl, if_neg bt0]
      obtain ⟨P, hP, eP⟩ := inB_t (by omega) hb
      subst eP
      obtain ⟨τ', ne, e1, g1, g2, _⟩ := M_pairingOf hw hM (show P < 4096 by omega)
      have hI2 : Inv σ τ' := Inv_fr hi (fun _ _ _ => rfl) (fun f hf => g1 f (by omega) (by omega)) (by rw [g1 17 (by decide) (by decide)]; exact Inv_z hi)
      rw [X_mostPairs hw hX (by omega), bdE, X_leastPairing hw hX (by omega), bdE, e1, bdE, g2]
      by_cases e0 : a1 = 0
      · rw [if_pos e0, if_pos e0]; exact ⟨_, _, _, rfl, rfl, hI2⟩
      · rw [if_neg e0, if_neg e0]; exact ⟨_, _, _, rfl, rfl, hI2⟩
theorem o_needed (h : Inv σ τ) : zst Inv (F_X8_needed σ) (F_X9_needed τ) := by
  have hi := h
  obtain ⟨N, L, B, ⟨hw, hX, hM, _⟩, _⟩ := h
  obtain ⟨τ', e1, g1⟩ := M_needed hw hM
  unfold F_X8_needed
  rw [X_neededPoints hw hX, bdE, e1]
  exact ⟨_, _, _, rfl, rfl, Inv_fr hi (fun _ _ _ => rfl) (fun f hf => g1 f (by omega) (by omega)) (by rw [g1 17 (by decide) (by decide)]; exact Inv_z hi)⟩
theorem o_kernel (h : Inv σ τ) (a0 : Int32) : zst Inv (F_X8_kernel a0 σ) (F_X9_kernel a0 τ) := by
  have hi := h
  obtain ⟨N, L, B, ⟨hw, hX, hM, _⟩, _⟩ := h
  obtain ⟨k, e, h1, h2, h3⟩ := kern_all hw hX hM a0
  rw [h1, h2]
  cases e with
  | some r => exact ret_b hi r
  | none =>
    rcases h3 with e | e
    · subst e; exact err_b (j := 1) hi (by decide)
    · subst e; exact err_b (j := 2) hi (by decide)
theorem o_feed (h : Inv σ τ) (a0 : Int64) (a1 : Int32) : zst Inv (F_X8_feed a0 a1 σ) (F_X9_feed a0 a1 τ) := by
  have hi := h
  obtain ⟨N, L, B, ⟨hw, hX, hM, hMT, hT, hE, hz, hS, hIm⟩, hG⟩ := h
  unfold F_X8_feed F_X9_feed
  rw [show (8 : Int32) = nI 8 from rfl, ifr1, M_in1, bdE]
  cases hb : in1B a1 8
  · rw [if_neg Bool.false_ne_true, bf0, if_pos rfl]
    exact err_b (j := 1) hi (by decide)
  · rw [if_pos rfl, if_neg bt0]
    obtain ⟨n, h1, h2, e⟩ := in1B_t (by omega) hb
    subst e
    have hL := hT.1
    rw [hT.2.1, hT.2.2.1, nI_add, li60]
    by_cases hf : L + n ≤ 60
    · rw [if_pos (by rw [leN (by omega) (by omega)]; exact hf), if_pos (by rw [leN (by omega) (by omega)]; exact hf)]
      obtain ⟨σ', τ', B', e1, e2, e3, e4, e5⟩ := feed_b a0 h2 n zF zF 0 L B σ τ (by omega) (zfl (by omega)) (zfl (by omega)) hf hT
      unfold F_X6_add F_X6_add_3 F_X9_feed_36
      rw [li0, e1, bdE, e2, e3.2.1]
      refine ⟨_, _, _, rfl, rfl, N, L + n, B', ⟨hw, RX_c (e4 1 (by decide)) hX, RM_fr hM (fun f _ _ => e5 f (by omega) (by omega)), MT_f hMT (e5 20 (by decide) (by decide)) (e5 21 (by decide) (by decide)) (e5 22 (by decide) (by decide)), e3, ER_fr hE (by rw [e4 0 (by decide)]) (e5 0 (by decide) (by decide)), by rw [e4 4 (by decide), e5 17 (by decide) (by decide)]; exact hz, SH_fr hS (fun k _ => e4 (8 + k) (by omega)) (e5 28 (by decide) (by decide)) (e5 29 (by decide) (by decide)) (e5 30 (by decide) (by decide)), IM_fr hIm (by rw [e4 0 (by decide)]) (by rw [e4 0 (by decide)]) (e4 2 (by decide)) (e5 31 (by decide) (by decide)) (e5 32 (by decide) (by decide))⟩, ?_⟩
      rcases hG with ⟨ru, h⟩ | ⟨ru, p0, mv, k, h1, h2⟩
      · exact Or.inl ⟨ru, GF_fr h (e4 6 (by decide)) (JF_c h.2.2.2.2.2 (e4 3 (by decide))) (e5 11 (by decide) (by decide)) (e5 12 (by decide) (by decide))⟩
      · exact Or.inr ⟨ru, p0, mv, k, JT_c h1 (e4 3 (by decide)), GO_fr h2 (e4 6 (by decide)) (fun f a b c => e5 f (by omega) (by omega))⟩
    · rw [if_neg (by rw [leN (by omega) (by omega)]; exact hf), if_neg (by rw [leN (by omega) (by omega)]; exact hf)]
      exact err_b (j := 4) hi (by decide)
theorem o_network (h : Inv σ τ) : zst Inv (F_X8_network σ) (F_X9_network τ) := by
  have hi := h
  obtain ⟨N, L, B, ⟨hw, hX, hM, hMT, hT, hE, hz, hS, hIm⟩, hG⟩ := h
  unfold F_X8_network F_X9_network F_X8_network_31
  rw [X_fault hT, bdE, M_faultOf hT, bdE]
  have hL := hT.1
  rcases gg_no (B := B) hL L 0 (by omega) with e | ⟨i, hi60, e⟩
  · obtain ⟨h3, hfit⟩ := gg_ok hL L 0 (by omega) e
    obtain ⟨k, hg⟩ := good_of h3 (fun i hi => hfit i (by omega) hi)
    have hk12 := hg.2.2.1
    obtain ⟨σ', x1, x2, x3⟩ := X_tell hT hg
    obtain ⟨τ', y1, y2, y3, y4, y5⟩ := M_tell hT hg k zF 0 (up (up τ 0 10 0 0) 0 2 0 0) (by omega) (zfl (by omega)) (by rw [up_at]; rfl) (fun j hj => absurd hj (by omega)) (by rw [up_f (by decide), up_f (by decide)])
    rw [e, if_neg (show ¬ (0 : Int32) ≤ -nI 1 by decide), x1, bdE, nmE, nmE, nmE, nmE, nmE, hT.2.2.1]
    unfold F_X9_network_35
    rw [if_pos (show -nI 1 = -1 from rfl), if_neg (show ¬ (0 : Int32) ≤ -nI 1 by decide)]
    have y1' : zl2 (Fb_X9_network_35 (nI L)) zF 0 0 (up (up τ 0 10 0 0) 0 2 0 0) = some (nI k, τ') := y1
    rw [y1', up_c (show 1 ≠ 7 by decide), up_c (show 1 ≠ 6 by decide), x2.2.1]
    refine ⟨_, _, _, rfl, rfl, Inv_new hi (NT_wf hg (Nat.le_refl k)) (RX_c (by rw [up_c (by decide), up_c (by decide)]) x2) y2 ?_ ?_ ?_ ⟨0, fun _ => 0, ?_⟩ ?_ y3 y4 ?_⟩
    · intro c h1 _ h6 h7
      rw [up_c h7, up_c h6, x3 c h1]
    · rw [up_c (by decide), up_at]; rfl
    · rw [up_c (by decide), up_f (by decide), x3 6 (by decide)]
    · exact ⟨by omega, by rw [up_at]; rfl, by rw [y5 10 (by omega) (by decide) (by decide), up_f (by decide), up_at]; rfl, fun i hi => absurd hi (Nat.not_lt_zero i)⟩
    · rw [up_c (by decide), up_c (by decide), x3 4 (by decide), y5 17 (by omega) (by decide) (by decide), up_f (by decide), up_f (by decide)]; exact hz
    · intro f hf
      rw [y5 f (by omega) (by omega) (by omega), up_f (by omega), up_f (by omega)]
  · rw [e, if_pos (show (0 : Int32) ≤ nI i by rw [li0, leN (by omega) (by omega)]; omega), nmE, nmE, nmE, if_pos (show (0 : Int32) ≤ nI i by rw [li0, leN (by omega) (by omega)]; omega), if_neg (show ¬ nI i = -1 by rw [m1, m1_eq (by omega)]; exact fun h => h)]
    have s7 : ∀ c, c ≠ 7 → up σ 7 0 0 0 c = σ c := fun c hc => up_c hc
    have t10 : ∀ f, f ≠ 10 → up τ 0 10 0 0 0 f = τ 0 f := fun f hf => up_f hf
    refine ⟨_, _, _, rfl, rfl, N, 0, fun _ => 0, ⟨hw, RX_c (s7 1 (by decide)) hX, RM_fr hM (fun f _ _ => t10 f (by omega)), MT_f hMT (t10 20 (by decide)) (t10 21 (by decide)) (t10 22 (by decide)), ⟨by omega, by rw [up_at]; rfl, by rw [up_at]; rfl, fun i hi => absurd hi (Nat.not_lt_zero i)⟩, ER_fr hE (by rw [s7 0 (by decide)]) (t10 0 (by decide)), by rw [s7 4 (by decide), t10 17 (by decide)]; exact hz, SH_fr hS (fun k _ => s7 (8 + k) (by omega)) (t10 28 (by decide)) (t10 29 (by decide)) (t10 30 (by decide)), IM_fr hIm (by rw [s7 0 (by decide)]) (by rw [s7 0 (by decide)]) (s7 2 (by decide)) (t10 31 (by decide)) (t10 32 (by decide))⟩, ?_⟩
    rcases hG with ⟨ru, h⟩ | ⟨ru, p0, mv, k, h1, h2⟩
    · exact Or.inl ⟨ru, GF_fr h (s7 6 (by decide)) (JF_c h.2.2.2.2.2 (s7 3 (by decide))) (t10 11 (by decide)) (t10 12 (by decide))⟩
    · exact Or.inr ⟨ru, p0, mv, k, JT_c h1 (s7 3 (by decide)), GO_fr h2 (s7 6 (by decide)) (fun f a b c => t10 f (by omega))⟩
end
