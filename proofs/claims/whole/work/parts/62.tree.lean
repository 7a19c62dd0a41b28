/-! PURE: the tree -/
theorem gst_win {N : Nt} {ru p S : Nat} {ch : Nat → Nat → Bool × Nat} : ∀ m, (∀ l, l < m → mvB N ru l p S = true → (ch (oth N l p) (nxt N ru l p S)).2 ≤ 12) → ((gst N ru ch p S m).1 < 1000 ↔ ∃ l, l < m ∧ mvB N ru l p S = true ∧ (ch (oth N l p) (nxt N ru l p S)).1 = false)
  | 0, _ => by simp [gst]
  | m + 1, h => by
    have ih := gst_win (ch := ch) m (fun l hl => h l (by omega))
    rw [gst]
    by_cases hm : mvB N ru m p S = true
    · have hb := h m (by omega) hm
      rw [if_pos hm]
      simp only
      cases hc : (ch (oth N m p) (nxt N ru m p S)).1
      · simp only [Bool.false_eq_true, if_false]
        constructor
        · intro _; exact ⟨m, by omega, hm, hc⟩
        · intro _; omega
      · simp only [if_true]
        rw [ih]
        constructor
        · rintro ⟨l, h1, h2⟩; exact ⟨l, by omega, h2⟩
        · rintro ⟨l, h1, h2, h3⟩
          by_cases e : l = m
          · subst e; rw [hc] at h3; cases h3
          · exact ⟨l, by omega, h2, h3⟩
    · rw [if_neg hm, ih]
      constructor
      · rintro ⟨l, h1, h2⟩; exact ⟨l, by omega, h2⟩
      · rintro ⟨l, h1, h2, h3⟩
        by_cases e : l = m
        · subst e; exact absurd h2 hm
        · exact ⟨l, by omega, h2, h3⟩
section
variable {N : Nt} {ru p S : Nat}
theorem val_f (hw : nwf N) (h : (val N ru p S).1 = false) {l : Nat} (hl : l < nk N) (hm : mvB N ru l p S = true) : (val N ru (oth N l p) (nxt N ru l p S)).1 = true := by
  have hg := gst_win (N := N) (ru := ru) (p := p) (S := S) (ch := val N ru) (nk N) (fun l _ _ => val_le hw ru _ _)
  have hno := gst_no (N := N) (ru := ru) (p := p) (S := S) (ch := val N ru) (nk N)
  rw [val_eq hw] at h
  unfold gfin at h
  cases hc : (val N ru (oth N l p) (nxt N ru l p S)).1
  · have h1 := hg.mpr ⟨l, hl, hm, hc⟩
    have h2 : ¬ (gst N ru (val N ru) p S (nk N)).2 = 0 := fun e => by
      rw [hno.mp e l hl] at hm; cases hm
    rw [if_neg h2, if_pos h1] at h
    cases h
  · rfl
theorem val_t (hw : nwf N) (h : (val N ru p S).1 = true) (hm : bset (nk N) (fun l => mvB N ru l p S) ≠ 0) : wmv N ru p S ≠ 0 := by
  have hg := gst_win (N := N) (ru := ru) (p := p) (S := S) (ch := val N ru) (nk N) (fun l _ _ => val_le hw ru _ _)
  have hno := gst_no (N := N) (ru := ru) (p := p) (S := S) (ch := val N ru) (nk N)
  rw [val_eq hw] at h
  unfold gfin at h
  by_cases h2 : (gst N ru (val N ru) p S (nk N)).2 = 0
  · exfalso
    apply hm
    apply set_ext (bset_lt _ (nk N)) (Nat.two_pow_pos _)
    intro i hi
    rw [bset_tb, hno.mp h2 i hi, Nat.zero_testBit]
    simp
  · rw [if_neg h2] at h
    by_cases h1 : (gst N ru (val N ru) p S (nk N)).1 < 1000
    · obtain ⟨l, a, b, c⟩ := hg.mp h1
      intro e
      have := congrArg (fun x => x.testBit l) e
      unfold wmv at this
      simp [bset_tb, a, b, c] at this
    · rw [if_neg h1] at h; cases h
theorem wmv_in {l : Nat} : (wmv N ru p S).testBit l = true ↔ l < nk N ∧ mvB N ru l p S = true ∧ (val N ru (oth N l p) (nxt N ru l p S)).1 = false := by
  unfold wmv
  rw [bset_tb]
  simp
end
def xq (σ σ' : S3) : Prop := ∀ c f, c ≠ 5 → ¬ (c = 3 ∧ f = 1) → σ' c f = σ c f
def mq (τ τ' : S3) : Prop := ∀ f, f ≠ 20 → f ≠ 21 → f ≠ 22 → f < 24 ∨ 27 < f → τ' 0 f = τ 0 f
theorem xq_rf (σ : S3) : xq σ σ := fun _ _ _ _ => rfl
theorem mq_rf (τ : S3) : mq τ τ := fun _ _ _ _ _ => rfl
theorem xq_tr {a b c : S3} (h1 : xq a b) (h2 : xq b c) : xq a c := fun x f h h' => (h2 x f h h').trans (h1 x f h h')
theorem mq_tr {a b c : S3} (h1 : mq a b) (h2 : mq b c) : mq a c := fun f a b c d => (h2 f a b c d).trans (h1 f a b c d)
theorem xq_g {σ σ' : S3} (h : xg σ σ') : xq σ σ' := fun c f _ a => h c f a
theorem mq_a {τ τ' : S3} (h : ag τ τ') : mq τ τ' := fun f a b c _ => h f a b c
theorem xq_up (σ : S3) (f j : Nat) (v : Int32) : xq σ (up σ 5 f j v) := fun c f' h _ => by rw [up_c h]
theorem mq_up (τ : S3) {f : Nat} (hf : 24 ≤ f ∧ f ≤ 27) (j : Nat) (v : Int32) : mq τ (up τ 0 f j v) := fun f' _ _ _ h => by rw [up_f (by omega)]
theorem RM_mq {N : Nt} {τ τ' : S3} (h : mq τ τ') (hr : RM N τ) : RM N τ' := by
  unfold RM at hr ⊢
  rw [h 1 (by decide) (by decide) (by decide) (by decide), h 2 (by decide) (by decide) (by decide) (by decide), h 3 (by decide) (by decide) (by decide) (by decide), h 4 (by decide) (by decide) (by decide) (by decide), h 5 (by decide) (by decide) (by decide) (by decide)]
  exact hr
def TS (N : Nt) (ru p0 : Nat) (σ τ : S3) : Prop := RX 1 N σ ∧ JT N ru p0 σ ∧ RM N τ ∧ MT N τ ∧ τ 0 12 0 = nI ru
def TR (n : Nat) (σ τ : S3) : Prop := n ≤ 300 ∧ σ 5 3 0 = nI n ∧ τ 0 24 0 = nI n ∧ σ 5 6 0 = nI 0 ∧ σ 5 4 0 = τ 0 25 0 ∧ σ 5 5 0 = τ 0 26 0 ∧ ∀ i, i < n → σ 5 2 i = τ 0 27 i
def TO (σ τ : S3) : Prop := σ 5 6 0 = nI 1 ∧ τ 0 24 0 = nI 301
def TRO (σ τ : S3) : Prop := (∃ n, TR n σ τ) ∨ TO σ τ
section
variable {N : Nt} {ru p0 : Nat} {σ τ : S3}
theorem TS_x {σ' : S3} (h : TS N ru p0 σ τ) (hx : xg σ σ') (hJ : JT N ru p0 σ') : TS N ru p0 σ' τ := ⟨RX_g hx (by decide) h.1, hJ, h.2.2⟩
theorem TS_m {τ' : S3} (h : TS N ru p0 σ τ) (hx : ag τ τ') (hM : MT N τ') : TS N ru p0 σ τ' := ⟨h.1, h.2.1, RM_ag hx h.2.2.1, hM, by rw [hx 12 (by decide) (by decide) (by decide)]; exact h.2.2.2.2⟩
theorem TS_u {f j : Nat} {v : Int32} (h : TS N ru p0 σ τ) : TS N ru p0 (up σ 5 f j v) τ := ⟨RX_c (up_c (by decide)) h.1, JT_c h.2.1 (up_c (by decide)), h.2.2⟩
theorem TS_v {f j : Nat} {v : Int32} (hf : 24 ≤ f ∧ f ≤ 27) (h : TS N ru p0 σ τ) : TS N ru p0 σ (up τ 0 f j v) := ⟨h.1, h.2.1, RM_mq (mq_up τ hf j v) h.2.2.1, MT_f h.2.2.2.1 (up_f (by omega)) (up_f (by omega)) (up_f (by omega)), by rw [up_f (by omega)]; exact h.2.2.2.2⟩
theorem TR_x {n : Nat} {σ' : S3} (h : TR n σ τ) (hx : xg σ σ') : TR n σ' τ := by
  unfold TR at h ⊢
  rw [xg_c hx (by decide)]
  exact h
theorem TR_m {n : Nat} {τ' : S3} (h : TR n σ τ) (hx : ag τ τ') : TR n σ τ' := by
  unfold TR at h ⊢
  rw [hx 24 (by decide) (by decide) (by decide), hx 25 (by decide) (by decide) (by decide), hx 26 (by decide) (by decide) (by decide), hx 27 (by decide) (by decide) (by decide)]
  exact h
theorem X_skip {Rc : Int32 → Int32 → Int32 → S3 → R3} {a b : Int32} {nx : Nat} (hw : nwf N) (h : RX 1 N σ) (hx : nx < 2147483648) : ∀ (d n i : Nat), i + d = nk N → d < n → (∀ j, i ≤ j → nx.testBit j = false) → zl1 (Fb_X7_grow_111 Rc a b (nI nx)) n (nI i) σ = some (nI 0, σ) := by
  have hk := hw.2.2.1
  intro d
  induction d with
  | zero =>
    intro n i hi hn hz
    obtain ⟨n, rfl⟩ : ∃ m, n = m + 1 := ⟨n - 1, by omega⟩
    rw [zl1_s]
    generalize zl1 (Fb_X7_grow_111 Rc a b (nI nx)) n = K
    unfold Fb_X7_grow_111
    rw [h.2.1, if_pos (by rw [leN (by omega) (by omega)]; omega), li0]
  | succ d ih =>
    intro n i hi hn hz
    obtain ⟨n, rfl⟩ : ∃ m, n = m + 1 := ⟨n - 1, by omega⟩
    have ih' := ih n (i + 1) (by omega) (by omega) (fun j hj => hz j (by omega))
    rw [zl1_s]
    generalize zl1 (Fb_X7_grow_111 Rc a b (nI nx)) n = K at ih' ⊢
    have hnle : ¬ nI (nk N) ≤ nI i := by rw [leN (by omega) (by omega)]; omega
    unfold Fb_X7_grow_111
    rw [h.2.1, if_neg hnle, li1, hasN hx (by omega), hz i (by omega), show b2i false = nI 0 from rfl, li0]
    by_cases e : σ 5 6 0 = nI 0
    · rw [if_pos e, if_pos rfl, nmE, nI_add]
      exact ih'
    · rw [if_neg e]
theorem M_over {Rc : Int32 → Int32 → Int32 → Int32 → Int32 → S3 → R3} {p S : Nat} {c e : Int32} (hw : nwf N) (hr : ru < 5) (hp : p < nn N) (hS : S < 4096) (hRc : (∃ l, l < nk N ∧ mvB N ru l p S = true) → ∀ a b c d e τ, τ 0 24 0 = nI 301 → Rc a b c d e τ = some (nI 0, τ)) : ∀ (d n i : Nat) (τ : S3), i + d = nk N → d < n → RM N τ → MT N τ → τ 0 12 0 = nI ru → τ 0 24 0 = nI 301 → ∃ τ', zl1 (Fb_X9_grows_84 Rc (nI p) (nI S) c e (nI (bset (nk N) (fun l => mvB N ru l p S)))) n (nI i) τ = some (nI 0, τ') ∧ ag τ τ' ∧ MT N τ' := by
  have hk := hw.2.2.1
  have hn := hw.2.1
  have hob := bs12 hw (fun l => mvB N ru l p S)
  intro d
  induction d with
  | zero =>
    intro n i τ hi hn hM hT hu h3
    obtain ⟨n, rfl⟩ : ∃ m, n = m + 1 := ⟨n - 1, by omega⟩
    refine ⟨τ, ?_, ag_rf τ, hT⟩
    rw [zl1_s]
    generalize zl1 (Fb_X9_grows_84 Rc (nI p) (nI S) c e (nI (bset (nk N) (fun l => mvB N ru l p S)))) n = K
    unfold Fb_X9_grows_84
    rw [hM.2.1, if_pos (by rw [leN (by omega) (by omega)]; omega), li0]
  | succ d ih =>
    intro n i τ hi hn' hM hT hu h3
    obtain ⟨n, rfl⟩ : ∃ m, n = m + 1 := ⟨n - 1, by omega⟩
    have hil : i < nk N := by omega
    have ihn := ih n (i + 1)
    rw [zl1_s]
    generalize zl1 (Fb_X9_grows_84 Rc (nI p) (nI S) c e (nI (bset (nk N) (fun l => mvB N ru l p S)))) n = K at ihn ⊢
    have hnle : ¬ nI (nk N) ≤ nI i := by rw [leN (by omega) (by omega)]; omega
    unfold Fb_X9_grows_84
    rw [hM.2.1, if_neg hnle, M_has (by omega) (by omega), bdE, bset_tb]
    simp only [hil, decide_true, Bool.true_and]
    cases hm : mvB N ru i p S
    · rw [show b2i false = nI 0 from rfl, li0, if_pos rfl, nmE, li1, nI_add]
      exact ihn τ (by omega) (by omega) hM hT hu h3
    · have ha := mvB_at hm
      have ho := oth_lt hw hil ha
      rw [show b2i true = nI 1 from rfl, li0, if_neg n1_0, M_otherOf hw hM hil ha, bdE, M_setBehind hw hM hu hr hil ha, bdE]
      have hR := hRc ⟨i, hil, hm⟩
      by_cases hc : c = nI 0
      · rw [if_pos hc, hR _ _ _ _ _ τ h3, bdE, nmE, li1, nI_add]
        exact ihn τ (by omega) (by omega) hM hT hu h3
      · rw [if_neg hc]
        obtain ⟨τ1, y1, y2, y3⟩ := M_winsAt hw hM hu hr hT ho (nxt_lt (ru := ru) hw hil ha hS)
        have h31 : τ1 0 24 0 = nI 301 := by rw [y2 24 (by decide) (by decide) (by decide)]; exact h3
        rw [y1, bdE, hR _ _ _ _ _ τ1 h31, bdE]
        by_cases hb : b2i (val N ru (oth N i p) (nxt N ru i p S)).1 = nI 0
        · rw [if_pos hb]
          exact ⟨τ1, rfl, y2, y3⟩
        · rw [if_neg hb, nmE, li1, nI_add]
          obtain ⟨τ2, z1, z2, z3⟩ := ihn τ1 (by omega) (by omega) (RM_ag y2 hM) y3 (by rw [y2 12 (by decide) (by decide) (by decide)]; exact hu) h31
          exact ⟨τ2, z1, ag_tr y2 z2, z3⟩
set_option maxHeartbeats 2000000 in
theorem grow_b (hw : nwf N) (hr : ru < 5) : ∀ (k p m g deep : Nat) (line : Int32) (n : Nat) (σ τ : S3), jok N ru p0 p m g → deep + rm N ru (S_ ru m g) ≤ 12 → rm N ru (S_ ru m g) < k → TS N ru p0 σ τ → TR n σ τ → ∃ σ' τ', zl3 F_X7_grow_0 k (nI (st p m g)) line (nI deep) σ = some (nI 0, σ') ∧ zl5 F_X9_grows_0 k (nI p) (nI (S_ ru m g)) (b2i (val N ru p (S_ ru m g)).1) line (nI deep) τ = some (nI 0, τ') ∧ TS N ru p0 σ' τ' ∧ xq σ σ' ∧ mq τ τ' ∧ TRO σ' τ' := by
  have hk := hw.2.2.1
  have hn := hw.2.1
  intro k
  induction k with
  | zero => intro p m g deep line n σ τ _ _ h0; exact absurd h0 (by omega)
  | succ k ihk =>
    intro p m g deep line n σ τ hj hdeep hrm hS hT
    have hRo : (∃ l, l < nk N ∧ mvB N ru l p (S_ ru m g) = true) → ∀ a b c d e τ, τ 0 24 0 = nI 301 → zl5 F_X9_grows_0 k a b c d e τ = some (nI 0, τ) := by
      rintro ⟨l, hl, hm⟩ a b c d e τ h3
      have := rm_mv hw hl hm
      obtain ⟨k', rfl⟩ : ∃ m, k = m + 1 := ⟨k - 1, by omega⟩
      rw [zl5_s]
      generalize zl5 F_X9_grows_0 k' = Rc
      unfold F_X9_grows_0
      rw [h3, li300, if_neg (by rw [leN (by omega) (by omega)]; omega), li0]
    rw [zl3_s, zl5_s]
    generalize hRx : zl3 F_X7_grow_0 k = Rx at ihk
    generalize hRm : zl5 F_X9_grows_0 k = Rm at ihk hRo
    have hp := hj.1
    have hm := hj.2.1
    have hg := hj.2.2.1
    have hSl := S_lt (ru := ru) hm hg
    have hob := bs12 hw (fun l => mvB N ru l p (S_ ru m g))
    obtain ⟨t1, t2, t3, t4, t5, t6, t7⟩ := hT
    unfold F_X7_grow_0 F_X9_grows_0
    rw [t2, t3, li300, if_pos (show nI n ≤ nI 300 by rw [leN (by omega) (by omega)]; exact t1), ckN (show n < 301 by omega) (by omega), ixN (by omega)]
    simp only [nmE]
    rw [li1, up_f (show 24 ≠ 27 by decide), t3, nI_add]
    obtain ⟨D, hD⟩ : ∃ D, D = if nI deep ≤ τ 0 26 0 then τ 0 26 0 else nI deep := ⟨_, rfl⟩
    have e26 : (up (up τ 0 27 n line) 0 24 0 (nI (n + 1))) 0 26 0 = τ 0 26 0 := by rw [up_f (by decide), up_f (by decide)]
    have eM : ∀ v, (if nI deep ≤ τ 0 26 0 then F_X9_grows_51 Rm (nI p) (nI (S_ ru m g)) v (nI deep) (τ 0 26 0) (up (up τ 0 27 n line) 0 24 0 (nI (n + 1))) else F_X9_grows_51 Rm (nI p) (nI (S_ ru m g)) v (nI deep) (nI deep) (up (up τ 0 27 n line) 0 24 0 (nI (n + 1)))) = F_X9_grows_51 Rm (nI p) (nI (S_ ru m g)) v (nI deep) D (up (up τ 0 27 n line) 0 24 0 (nI (n + 1))) := by
      intro v
      by_cases c : nI deep ≤ τ 0 26 0
      · rw [if_pos c, hD, if_pos c]
      · rw [if_neg c, hD, if_neg c]
    rw [e26, eM]
    have hTS1 : TS N ru p0 σ (up (up (up τ 0 27 n line) 0 24 0 (nI (n + 1))) 0 26 0 D) := TS_v (by omega) (TS_v (by omega) (TS_v (by omega) hS))
    unfold F_X9_grows_51
    rw [nmE, M_movesAt hw hTS1.2.2.1 hTS1.2.2.2.2 hr (by omega) (by omega), bdE]
    obtain ⟨Lf, hLf⟩ : ∃ Lf, Lf = if bset (nk N) (fun l => mvB N ru l p (S_ ru m g)) = 0 then τ 0 25 0 + nI 1 else τ 0 25 0 := ⟨_, rfl⟩
    have e25 : (up (up (up τ 0 27 n line) 0 24 0 (nI (n + 1))) 0 26 0 D) 0 25 0 = τ 0 25 0 := by rw [up_f (by decide), up_f (by decide), up_f (by decide)]
    have add0 : τ 0 25 0 + (0 : Int32) = τ 0 25 0 := Int32.add_zero _
    have eM2 : ∀ v, (if nI (bset (nk N) (fun l => mvB N ru l p (S_ ru m g))) = (0 : Int32) then (nm (up (up (up (up τ 0 27 n line) 0 24 0 (nI (n + 1))) 0 26 0 D) 0 25 0 (τ 0 25 0 + nI 1)) (fun s2551 => F_X9_grows_84 Rm (nI p) (nI (S_ ru m g)) v (nI deep) (nI (bset (nk N) (fun l => mvB N ru l p (S_ ru m g)))) zF (0 : Int32) s2551)) else (nm (up (up (up (up τ 0 27 n line) 0 24 0 (nI (n + 1))) 0 26 0 D) 0 25 0 (τ 0 25 0 + (0 : Int32))) (fun s2525 => F_X9_grows_84 Rm (nI p) (nI (S_ ru m g)) v (nI deep) (nI (bset (nk N) (fun l => mvB N ru l p (S_ ru m g)))) zF (0 : Int32) s2525))) = F_X9_grows_84 Rm (nI p) (nI (S_ ru m g)) v (nI deep) (nI (bset (nk N) (fun l => mvB N ru l p (S_ ru m g)))) zF (nI 0) (up (up (up (up τ 0 27 n line) 0 24 0 (nI (n + 1))) 0 26 0 D) 0 25 0 Lf) := by
      intro v
      by_cases c : bset (nk N) (fun l => mvB N ru l p (S_ ru m g)) = 0
      · rw [if_pos (by rw [c]; rfl), nmE, hLf, if_pos c, li0]
      · rw [if_neg (by rw [li0, eqN (by omega) (by omega)]; exact c), nmE, hLf, if_neg c, add0, li0]
    rw [e25]
    simp only [li1]
    rw [eM2]
    have hTS2 : TS N ru p0 σ (up (up (up (up τ 0 27 n line) 0 24 0 (nI (n + 1))) 0 26 0 D) 0 25 0 Lf) := TS_v (by omega) hTS1
    have hmq2 : mq τ (up (up (up (up τ 0 27 n line) 0 24 0 (nI (n + 1))) 0 26 0 D) 0 25 0 Lf) := mq_tr (mq_tr (mq_tr (mq_up τ (by omega) n line) (mq_up _ (by omega) 0 _)) (mq_up _ (by omega) 0 _)) (mq_up _ (by omega) 0 _)
    have f24 : (up (up (up (up τ 0 27 n line) 0 24 0 (nI (n + 1))) 0 26 0 D) 0 25 0 Lf) 0 24 0 = nI (n + 1) := by rw [up_f (by decide), up_f (by decide), up_at]
    have f25 : (up (up (up (up τ 0 27 n line) 0 24 0 (nI (n + 1))) 0 26 0 D) 0 25 0 Lf) 0 25 0 = Lf := by rw [up_at]
    have f26 : (up (up (up (up τ 0 27 n line) 0 24 0 (nI (n + 1))) 0 26 0 D) 0 25 0 Lf) 0 26 0 = D := by rw [up_f (by decide), up_at]
    have f27 : (up (up (up (up τ 0 27 n line) 0 24 0 (nI (n + 1))) 0 26 0 D) 0 25 0 Lf) 0 27 = upd (τ 0 27) n line := by rw [up_f (by decide), up_f (by decide), up_f (by decide), up_s]
    generalize (up (up (up (up τ 0 27 n line) 0 24 0 (nI (n + 1))) 0 26 0 D) 0 25 0 Lf) = τ1 at hTS2 hmq2 f24 f25 f26 f27 ⊢
    have over : ∀ v (n' : Nat) (i : Nat) (τ2 : S3), i ≤ nk N → nk N - i < n' → RM N τ2 → MT N τ2 → τ2 0 12 0 = nI ru → τ2 0 24 0 = nI 301 → ∃ τ', zl1 (Fb_X9_grows_84 Rm (nI p) (nI (S_ ru m g)) v (nI deep) (nI (bset (nk N) (fun l => mvB N ru l p (S_ ru m g))))) n' (nI i) τ2 = some (nI 0, τ') ∧ ag τ2 τ' ∧ MT N τ' := fun v n' i τ2 hi hn' a b c d => M_over hw hr hp hSl hRo (nk N - i) n' i τ2 (by omega) hn' a b c d
    by_cases hfull : n = 300
    · subst hfull
      rw [if_pos (show nI 300 ≤ nI 300 from Int32.le_refl _)]
      obtain ⟨τ', z1, z2, z3⟩ := over (b2i (val N ru p (S_ ru m g)).1) zF 0 τ1 (by omega) (zfl (by omega)) hTS2.2.2.1 hTS2.2.2.2.1 hTS2.2.2.2.2 f24
      refine ⟨_, τ', rfl, z1, TS_u (TS_m hTS2 z2 z3), xq_up σ _ _ _, mq_tr hmq2 (mq_a z2), Or.inr ⟨by rw [up_at], by rw [z2 24 (by decide) (by decide) (by decide)]; exact f24⟩⟩
    · rw [if_neg (show ¬ nI 300 ≤ nI n by rw [leN (by omega) (by omega)]; omega), if_pos (show nI deep ≤ 12 by rw [li12, leN (by omega) (by omega)]; omega), ckN (by omega) (by omega), up_f (show 3 ≠ 2 by decide), t2, nI_add, up_f (show 5 ≠ 3 by decide), up_f (show 5 ≠ 2 by decide), t6]
      have hD2 : (if τ 0 26 0 < nI deep then nI deep else τ 0 26 0) = D := by
        rw [hD]
        by_cases c : nI deep ≤ τ 0 26 0
        · rw [if_pos c, if_neg (by rw [i_nlt]; exact c)]
        · rw [if_neg c, if_pos (by apply Classical.byContradiction; intro h; rw [i_nlt] at h; exact c h)]
      rw [hD2]
      have hTS3 : TS N ru p0 (up (up (up σ 5 2 n line) 5 3 0 (nI (n + 1))) 5 5 0 D) τ1 := TS_u (TS_u (TS_u hTS2))
      have hxq3 : xq σ (up (up (up σ 5 2 n line) 5 3 0 (nI (n + 1))) 5 5 0 D) := xq_tr (xq_tr (xq_up σ _ _ _) (xq_up _ _ _ _)) (xq_up _ _ _ _)
      have s3 : (up (up (up σ 5 2 n line) 5 3 0 (nI (n + 1))) 5 5 0 D) 5 3 0 = nI (n + 1) := by rw [up_f (by decide), up_at]
      have s6 : (up (up (up σ 5 2 n line) 5 3 0 (nI (n + 1))) 5 5 0 D) 5 6 0 = nI 0 := by rw [up_f (by decide), up_f (by decide), up_f (by decide)]; exact t4
      have s4 : (up (up (up σ 5 2 n line) 5 3 0 (nI (n + 1))) 5 5 0 D) 5 4 0 = τ 0 25 0 := by rw [up_f (by decide), up_f (by decide), up_f (by decide)]; exact t5
      have s5 : (up (up (up σ 5 2 n line) 5 3 0 (nI (n + 1))) 5 5 0 D) 5 5 0 = D := by rw [up_at]
      have s2 : (up (up (up σ 5 2 n line) 5 3 0 (nI (n + 1))) 5 5 0 D) 5 2 = upd (σ 5 2) n line := by rw [up_f (by decide), up_f (by decide), up_s]
      generalize (up (up (up σ 5 2 n line) 5 3 0 (nI (n + 1))) 5 5 0 D) = σ1 at hTS3 hxq3 s2 s3 s4 s5 s6 ⊢
      obtain ⟨σ2, x1, x2, x3⟩ := X_wins hw hTS3.1 hr hTS3.2.1 hj
      rw [x1, bdE]
      have hTS4 := TS_x hTS3 x2 x3
      have hxq4 := xq_tr hxq3 (xq_g x2)
      have s5c := xg_c x2 (show 5 ≠ 3 by decide)
      rw [← s5c] at s2 s3 s4 s5 s6
      -- what both hold once the leaf is counted
      have fin : ∀ (nx : Nat) (σ3 : S3), nx < 4096 → (nx = 0 ↔ bset (nk N) (fun l => mvB N ru l p (S_ ru m g)) = 0) → TS N ru p0 σ3 τ1 → xq σ σ3 → σ3 5 = σ2 5 → ∃ σ4, F_X7_grow_91 Rx (nI (st p m g)) (nI deep) (nI nx) σ3 = F_X7_grow_111 Rx (nI (st p m g)) (nI deep) (nI nx) zF (nI 0) σ4 ∧ TS N ru p0 σ4 τ1 ∧ xq σ σ4 ∧ TR (n + 1) σ4 τ1 := by
        intro nx σ3 hnx hz hTS hxq h5
        rw [← h5] at s2 s3 s4 s5 s6
        unfold F_X7_grow_91
        have rows : ∀ i, i < n + 1 → upd (σ 5 2) n line i = upd (τ 0 27) n line i := by
          intro i hi
          by_cases e : i = n
          · subst e; rw [upd_s, upd_s]
          · rw [upd_n e, upd_n e]; exact t7 i (by omega)
        by_cases c : nx = 0
        · rw [if_pos (by rw [c]; rfl), nmE]
          refine ⟨up σ3 5 4 0 (σ3 5 4 0 + 1), by rw [li0], TS_u hTS, xq_tr hxq (xq_up _ _ _ _), by omega, ?_, f24, ?_, ?_, ?_, ?_⟩
          · rw [up_f (by decide)]; exact s3
          · rw [up_f (by decide)]; exact s6
          · rw [up_at, f25, hLf, if_pos (hz.mp c), s4, li1]
          · rw [up_f (by decide), s5, f26]
          · intro i hi
            rw [up_f (by decide), s2, f27]
            exact rows i hi
        · rw [if_neg (by rw [li0, eqN (by omega) (by omega)]; exact c)]
          refine ⟨σ3, by rw [li0], hTS, hxq, by omega, s3, f24, s6, ?_, ?_, ?_⟩
          · rw [f25, hLf, if_neg (fun e => c (hz.mpr e)), s4]
          · rw [s5, f26]
          · intro i hi
            rw [s2, f27]
            exact rows i hi
      cases hv : (val N ru p (S_ ru m g)).1
      · -- who moves loses: all moves
        rw [show b2i false = nI 0 from rfl, li0, if_pos rfl, X_movesFrom hw hTS4.1 (JT_ru hTS4.2.1) hr (by omega) hm hg, bdE]
        obtain ⟨σ4, g1, g2, g3, g4⟩ := fin _ σ2 hob Iff.rfl hTS4 hxq4 rfl
        rw [g1]
        have lp : ∀ (d n1 n2 i : Nat) (σ5 τ5 : S3), i + d = nk N → d < n1 → d < n2 → TS N ru p0 σ5 τ5 → xq σ σ5 → mq τ τ5 → TRO σ5 τ5 → ∃ σ' τ', zl1 (Fb_X7_grow_111 Rx (nI (st p m g)) (nI deep) (nI (bset (nk N) (fun l => mvB N ru l p (S_ ru m g))))) n1 (nI i) σ5 = some (nI 0, σ') ∧ zl1 (Fb_X9_grows_84 Rm (nI p) (nI (S_ ru m g)) (nI 0) (nI deep) (nI (bset (nk N) (fun l => mvB N ru l p (S_ ru m g))))) n2 (nI i) τ5 = some (nI 0, τ') ∧ TS N ru p0 σ' τ' ∧ xq σ σ' ∧ mq τ τ' ∧ TRO σ' τ' := by
          intro d
          induction d with
          | zero =>
            intro n1 n2 i σ5 τ5 hi h1 h2 a1 a2 a3 a4
            obtain ⟨n1, rfl⟩ : ∃ m, n1 = m + 1 := ⟨n1 - 1, by omega⟩
            obtain ⟨n2, rfl⟩ : ∃ m, n2 = m + 1 := ⟨n2 - 1, by omega⟩
            refine ⟨σ5, τ5, ?_, ?_, a1, a2, a3, a4⟩
            · rw [zl1_s]
              generalize zl1 (Fb_X7_grow_111 Rx (nI (st p m g)) (nI deep) (nI (bset (nk N) (fun l => mvB N ru l p (S_ ru m g))))) n1 = K
              unfold Fb_X7_grow_111
              rw [a1.1.2.1, if_pos (by rw [leN (by omega) (by omega)]; omega), li0]
            · rw [zl1_s]
              generalize zl1 (Fb_X9_grows_84 Rm (nI p) (nI (S_ ru m g)) (nI 0) (nI deep) (nI (bset (nk N) (fun l => mvB N ru l p (S_ ru m g))))) n2 = K
              unfold Fb_X9_grows_84
              rw [a1.2.2.1.2.1, if_pos (by rw [leN (by omega) (by omega)]; omega), li0]
          | succ d ih =>
            intro n1 n2 i σ5 τ5 hi h1 h2 a1 a2 a3 a4
            obtain ⟨n1, rfl⟩ : ∃ m, n1 = m + 1 := ⟨n1 - 1, by omega⟩
            have hnle : ¬ nI (nk N) ≤ nI i := by rw [leN (by omega) (by omega)]; omega
            rcases a4 with ⟨n5, hT5⟩ | hO
            · obtain ⟨n2, rfl⟩ : ∃ m, n2 = m + 1 := ⟨n2 - 1, by omega⟩
              have hil : i < nk N := by omega
              have ihn := ih n1 n2 (i + 1)
              rw [zl1_s, zl1_s]
              generalize zl1 (Fb_X7_grow_111 Rx (nI (st p m g)) (nI deep) (nI (bset (nk N) (fun l => mvB N ru l p (S_ ru m g))))) n1 = K at ihn ⊢
              generalize zl1 (Fb_X9_grows_84 Rm (nI p) (nI (S_ ru m g)) (nI 0) (nI deep) (nI (bset (nk N) (fun l => mvB N ru l p (S_ ru m g))))) n2 = K' at ihn ⊢
              unfold Fb_X7_grow_111 Fb_X9_grows_84
              rw [a1.1.2.1, if_neg hnle, a1.2.2.1.2.1, if_neg hnle, hT5.2.2.2.1, li0, if_pos rfl, li1, hasN (by omega) (by omega), M_has (by omega) (by omega), bdE, bset_tb]
              simp only [hil, decide_true, Bool.true_and]
              cases hmv : mvB N ru i p (S_ ru m g)
              · rw [show b2i false = nI 0 from rfl, if_pos rfl, if_pos rfl, nmE, nmE, nI_add]
                exact ihn σ5 τ5 (by omega) (by omega) (by omega) a1 a2 a3 (Or.inl ⟨n5, hT5⟩)
              · have ha := mvB_at hmv
                have hrm' := rm_mv hw hil hmv
                have hj2 := jok_mv hw hj hil hmv
                have hS2 : S_ ru (m ||| 2 ^ oth N i p) (g ||| 2 ^ i) = nxt N ru i p (S_ ru m g) := S_mv
                obtain ⟨σ6, τ6, c1, c2, c3, c4, c5, c6⟩ := ihk (oth N i p) (m ||| 2 ^ oth N i p) (g ||| 2 ^ i) (deep + 1) (nI i) n5 σ5 τ5 hj2 (by rw [hS2]; omega) (by rw [hS2]; omega) a1 hT5
                rw [hS2, val_f hw hv hil hmv, show b2i true = nI 1 from rfl] at c2
                rw [show b2i true = nI 1 from rfl, if_neg n1_0, if_neg n1_0, X_behind hw a1.1 (by omega) hm hg hil ha, bdE, nI_add, c1, bdE, nmE, nI_add, M_otherOf hw a1.2.2.1 hil ha, bdE, M_setBehind hw a1.2.2.1 a1.2.2.2.2 hr hil ha, bdE, if_pos trivial, c2, bdE, nmE]
                exact ihn σ6 τ6 (by omega) (by omega) (by omega) c3 (xq_tr a2 c4) (mq_tr a3 c5) c6
            · obtain ⟨τ', z1, z2, z3⟩ := over (nI 0) n2 i τ5 (by omega) (by omega) a1.2.2.1 a1.2.2.2.1 a1.2.2.2.2 hO.2
              refine ⟨σ5, τ', ?_, z1, TS_m a1 z2 z3, a2, mq_tr a3 (mq_a z2), Or.inr ⟨hO.1, by rw [z2 24 (by decide) (by decide) (by decide)]; exact hO.2⟩⟩
              rw [zl1_s]
              generalize zl1 (Fb_X7_grow_111 Rx (nI (st p m g)) (nI deep) (nI (bset (nk N) (fun l => mvB N ru l p (S_ ru m g))))) n1 = K
              unfold Fb_X7_grow_111
              rw [a1.1.2.1, if_neg hnle, hO.1, li0, if_neg n1_0]
        exact lp (nk N) zF zF 0 σ4 τ1 (by omega) (zfl (by omega)) (zfl (by omega)) g2 g3 hmq2 (Or.inl ⟨n + 1, g4⟩)
      · -- who moves wins: the least winning move
        obtain ⟨σ3, w1, w2, w3⟩ := X_winningFrom hw hTS4.1 hr hTS4.2.1 hj
        have hwl : wmv N ru p (S_ ru m g) < 4096 := bs12 hw _
        rw [show b2i true = nI 1 from rfl, li0, if_neg n1_0, w1, bdE, X_lowest hwl, bdE]
        have hTS5 := TS_x hTS4 w2 w3
        have hxq5 := xq_tr hxq4 (xq_g w2)
        have hz : ((if wmv N ru p (S_ ru m g) = 0 then 0 else 2 ^ lob (wmv N ru p (S_ ru m g)) 12) = 0 ↔ bset (nk N) (fun l => mvB N ru l p (S_ ru m g)) = 0) := by
          by_cases c : wmv N ru p (S_ ru m g) = 0
          · rw [if_pos c]
            refine ⟨fun _ => ?_, fun _ => rfl⟩
            apply Classical.byContradiction
            intro h
            exact val_t hw hv h c
          · rw [if_neg c]
            refine ⟨fun h => absurd h (Nat.ne_of_gt (Nat.two_pow_pos _)), fun h => ?_⟩
            exfalso
            have h1 := lob_at 12 _ (lob12 hwl c)
            have h2 := wmv_sub h1
            rw [show oM N ru p m g = 0 from h, Nat.zero_testBit] at h2
            cases h2
        have hnx : (if wmv N ru p (S_ ru m g) = 0 then 0 else 2 ^ lob (wmv N ru p (S_ ru m g)) 12) < 4096 := by
          by_cases c : wmv N ru p (S_ ru m g) = 0
          · rw [if_pos c]; omega
          · rw [if_neg c]; exact p2_lt (m := 12) (lob12 hwl c)
        obtain ⟨σ4, g1, g2, g3, g4⟩ := fin _ σ3 hnx hz hTS5 hxq5 (xg_c w2 (by decide))
        rw [g1]
        by_cases c : wmv N ru p (S_ ru m g) = 0
        · rw [if_pos c] at hz ⊢
          have ho0 := hz.mp rfl
          have lpm : ∀ (d n2 i : Nat), i + d = nk N → d < n2 → zl1 (Fb_X9_grows_84 Rm (nI p) (nI (S_ ru m g)) (nI 1) (nI deep) (nI (bset (nk N) (fun l => mvB N ru l p (S_ ru m g))))) n2 (nI i) τ1 = some (nI 0, τ1) := by
            intro d
            induction d with
            | zero =>
              intro n2 i hi h2
              obtain ⟨n2, rfl⟩ : ∃ m, n2 = m + 1 := ⟨n2 - 1, by omega⟩
              rw [zl1_s]
              generalize zl1 (Fb_X9_grows_84 Rm (nI p) (nI (S_ ru m g)) (nI 1) (nI deep) (nI (bset (nk N) (fun l => mvB N ru l p (S_ ru m g))))) n2 = K
              unfold Fb_X9_grows_84
              rw [hTS2.2.2.1.2.1, if_pos (by rw [leN (by omega) (by omega)]; omega), li0]
            | succ d ih =>
              intro n2 i hi h2
              obtain ⟨n2, rfl⟩ : ∃ m, n2 = m + 1 := ⟨n2 - 1, by omega⟩
              have ih' := ih n2 (i + 1) (by omega) (by omega)
              have hnle : ¬ nI (nk N) ≤ nI i := by rw [leN (by omega) (by omega)]; omega
              rw [zl1_s]
              generalize zl1 (Fb_X9_grows_84 Rm (nI p) (nI (S_ ru m g)) (nI 1) (nI deep) (nI (bset (nk N) (fun l => mvB N ru l p (S_ ru m g))))) n2 = K at ih' ⊢
              unfold Fb_X9_grows_84
              rw [hTS2.2.2.1.2.1, if_neg hnle, ho0, M_has (by omega) (by omega), bdE, Nat.zero_testBit, show b2i false = nI 0 from rfl, li0, if_pos rfl, nmE, li1, nI_add]
              exact ih'
          refine ⟨σ4, τ1, ?_, lpm (nk N) zF 0 (by omega) (zfl (by omega)), g2, g3, hmq2, Or.inl ⟨n + 1, g4⟩⟩
          exact X_skip hw g2.1 (by omega) (nk N) zF 0 (by omega) (zfl (by omega)) (fun j _ => Nat.zero_testBit j)
        · rw [if_neg c]
          have hl12 := lob12 hwl c
          have hl1 := lob_at 12 _ hl12
          obtain ⟨hlk, hlm, hlv⟩ := wmv_in.mp hl1
          have hlo : ∀ j, j < lob (wmv N ru p (S_ ru m g)) 12 → (wmv N ru p (S_ ru m g)).testBit j = false := fun j hj => lob_lo 12 _ j hj
          generalize lob (wmv N ru p (S_ ru m g)) 12 = L at hl12 hl1 hlk hlm hlv hlo ⊢
          have hpL : 2 ^ L < 4096 := p2_lt (m := 12) hl12
          have lp : ∀ (d n1 n2 i : Nat) (τ5 : S3), i + d = L → nk N - i < n1 → nk N - i < n2 → TS N ru p0 σ4 τ5 → mq τ τ5 → TR (n + 1) σ4 τ5 → ∃ σ' τ', zl1 (Fb_X7_grow_111 Rx (nI (st p m g)) (nI deep) (nI (2 ^ L))) n1 (nI i) σ4 = some (nI 0, σ') ∧ zl1 (Fb_X9_grows_84 Rm (nI p) (nI (S_ ru m g)) (nI 1) (nI deep) (nI (bset (nk N) (fun l => mvB N ru l p (S_ ru m g))))) n2 (nI i) τ5 = some (nI 0, τ') ∧ TS N ru p0 σ' τ' ∧ xq σ σ' ∧ mq τ τ' ∧ TRO σ' τ' := by
            intro d
            induction d with
            | zero =>
              intro n1 n2 i τ5 hi h1 h2 a1 a3 hT5
              obtain ⟨n1, rfl⟩ : ∃ m, n1 = m + 1 := ⟨n1 - 1, by omega⟩
              obtain ⟨n2, rfl⟩ : ∃ m, n2 = m + 1 := ⟨n2 - 1, by omega⟩
              have e : i = L := by omega
              subst e
              have ha := mvB_at hlm
              have ho := oth_lt hw hlk ha
              have hrm' := rm_mv hw hlk hlm
              have hj2 := jok_mv hw hj hlk hlm
              have hS2 : S_ ru (m ||| 2 ^ oth N i p) (g ||| 2 ^ i) = nxt N ru i p (S_ ru m g) := S_mv
              obtain ⟨τ6, y1, y2, y3⟩ := M_winsAt hw a1.2.2.1 a1.2.2.2.2 hr a1.2.2.2.1 ho (nxt_lt (ru := ru) hw hlk ha hSl)
              obtain ⟨σ7, τ7, c1, c2, c3, c4, c5, c6⟩ := ihk (oth N i p) (m ||| 2 ^ oth N i p) (g ||| 2 ^ i) (deep + 1) (nI i) (n + 1) σ4 τ6 hj2 (by rw [hS2]; omega) (by rw [hS2]; omega) (TS_m a1 y2 y3) (TR_m hT5 y2)
              rw [hS2, hlv, show b2i false = nI 0 from rfl] at c2
              have hnle : ¬ nI (nk N) ≤ nI i := by rw [leN (by omega) (by omega)]; omega
              have hsk := X_skip (Rc := Rx) (a := nI (st p m g)) (b := nI deep) (nx := 2 ^ i) hw c3.1 (by omega) (nk N - (i + 1)) n1 (i + 1) (by omega) (by omega) (fun j hj => by rw [Nat.testBit_two_pow]; simp; omega)
              refine ⟨σ7, τ7, ?_, ?_, c3, xq_tr g3 c4, mq_tr a3 (mq_tr (mq_a y2) c5), c6⟩
              · rw [zl1_s]
                generalize zl1 (Fb_X7_grow_111 Rx (nI (st p m g)) (nI deep) (nI (2 ^ i))) n1 = K at hsk ⊢
                unfold Fb_X7_grow_111
                rw [a1.1.2.1, if_neg hnle, hT5.2.2.2.1, li0, if_pos rfl, li1, hasN (by omega) (by omega), Nat.testBit_two_pow_self, show b2i true = nI 1 from rfl, if_neg n1_0, X_behind hw a1.1 (by omega) hm hg hlk ha, bdE, nI_add, c1, bdE, nmE, nI_add]
                exact hsk
              · rw [zl1_s]
                generalize zl1 (Fb_X9_grows_84 Rm (nI p) (nI (S_ ru m g)) (nI 1) (nI deep) (nI (bset (nk N) (fun l => mvB N ru l p (S_ ru m g))))) n2 = K
                unfold Fb_X9_grows_84
                rw [a1.2.2.1.2.1, if_neg hnle, M_has (by omega) (by omega), bdE, bset_tb]
                simp only [hlk, decide_true, Bool.true_and]
                rw [hlm, show b2i true = nI 1 from rfl, li0, if_neg n1_0, M_otherOf hw a1.2.2.1 hlk ha, bdE, M_setBehind hw a1.2.2.1 a1.2.2.2.2 hr hlk ha, bdE, if_neg n1_0, y1, bdE, hlv, show b2i false = nI 0 from rfl, if_pos rfl, li1, nI_add, c2, bdE]
            | succ d ih =>
              intro n1 n2 i τ5 hi h1 h2 a1 a3 hT5
              obtain ⟨n1, rfl⟩ : ∃ m, n1 = m + 1 := ⟨n1 - 1, by omega⟩
              obtain ⟨n2, rfl⟩ : ∃ m, n2 = m + 1 := ⟨n2 - 1, by omega⟩
              have hil : i < nk N := by omega
              have hnle : ¬ nI (nk N) ≤ nI i := by rw [leN (by omega) (by omega)]; omega
              have ihn := ih n1 n2 (i + 1)
              rw [zl1_s, zl1_s]
              generalize zl1 (Fb_X7_grow_111 Rx (nI (st p m g)) (nI deep) (nI (2 ^ L))) n1 = K at ihn ⊢
              generalize zl1 (Fb_X9_grows_84 Rm (nI p) (nI (S_ ru m g)) (nI 1) (nI deep) (nI (bset (nk N) (fun l => mvB N ru l p (S_ ru m g))))) n2 = K' at ihn ⊢
              unfold Fb_X7_grow_111 Fb_X9_grows_84
              have hLb : (2 ^ L).testBit i = false := by rw [Nat.testBit_two_pow]; simp; omega
              rw [a1.1.2.1, if_neg hnle, a1.2.2.1.2.1, if_neg hnle, hT5.2.2.2.1, li0, if_pos rfl, li1, hasN (by omega) (by omega), hLb, show b2i false = nI 0 from rfl, if_pos rfl, nmE, nI_add, M_has (by omega) (by omega), bdE, bset_tb]
              simp only [hil, decide_true, Bool.true_and]
              cases hmv : mvB N ru i p (S_ ru m g)
              · rw [show b2i false = nI 0 from rfl, if_pos rfl, nmE]
                exact ihn τ5 (by omega) (by omega) (by omega) a1 a3 hT5
              · have ha := mvB_at hmv
                have ho := oth_lt hw hil ha
                obtain ⟨τ6, y1, y2, y3⟩ := M_winsAt hw a1.2.2.1 a1.2.2.2.2 hr a1.2.2.2.1 ho (nxt_lt (ru := ru) hw hil ha hSl)
                have hvt : (val N ru (oth N i p) (nxt N ru i p (S_ ru m g))).1 = true := by
                  cases hx : (val N ru (oth N i p) (nxt N ru i p (S_ ru m g))).1
                  · have := wmv_in.mpr ⟨hil, hmv, hx⟩
                    rw [hlo i (by omega)] at this
                    cases this
                  · rfl
                rw [show b2i true = nI 1 from rfl, if_neg n1_0, M_otherOf hw a1.2.2.1 hil ha, bdE, M_setBehind hw a1.2.2.1 a1.2.2.2.2 hr hil ha, bdE, if_neg n1_0, y1, bdE, hvt, show b2i true = nI 1 from rfl, if_neg n1_0, nmE]
                exact ihn τ6 (by omega) (by omega) (by omega) (TS_m a1 y2 y3) (mq_tr a3 (mq_a y2)) (TR_m hT5 y2)
          exact lp L zF zF 0 τ1 (by omega) (zfl (by omega)) (zfl (by omega)) g2 hmq2 g4
end
