/-! PURE: plans -/
def xz (σ σ' : S3) : Prop := ∀ c f, ¬ (c = 3 ∧ f = 1) → ¬ (c = 4 ∧ f = 2) → σ' c f = σ c f
def mz (τ τ' : S3) : Prop := ∀ f, f ≠ 7 → f ≠ 8 → f ≠ 17 → f ≠ 20 → f ≠ 21 → f ≠ 22 → τ' 0 f = τ 0 f
theorem xz_rf (σ : S3) : xz σ σ := fun _ _ _ _ => rfl
theorem mz_rf (τ : S3) : mz τ τ := fun _ _ _ _ _ _ _ => rfl
theorem xz_tr {a b c : S3} (h1 : xz a b) (h2 : xz b c) : xz a c := fun x f h h' => (h2 x f h h').trans (h1 x f h h')
theorem mz_tr {a b c : S3} (h1 : mz a b) (h2 : mz b c) : mz a c := fun f a b c d e g => (h2 f a b c d e g).trans (h1 f a b c d e g)
theorem xz_g {σ σ' : S3} (h : xg σ σ') : xz σ σ' := fun c f a _ => h c f a
theorem mz_a {τ τ' : S3} (h : ag τ τ') : mz τ τ' := fun f _ _ _ a b c => h f a b c
theorem mz_p {τ τ' : S3} (h : pg τ τ') : mz τ τ' := fun f a b _ _ _ _ => h f a b
theorem xz_c {σ σ' : S3} (h : xz σ σ') {c : Nat} (h3 : c ≠ 3) (h4 : c ≠ 4) : σ' c = σ c := funext (fun f => h c f (fun e => h3 e.1) (fun e => h4 e.1))
def PS (N : Nt) (ru p0 p m g : Nat) (σ τ : S3) : Prop := RX 1 N σ ∧ JT N ru p0 σ ∧ jok N ru p0 p m g ∧ RM N τ ∧ MT N τ ∧ MP ru p m g τ ∧ σ 4 2 0 = τ 0 17 0
abbrev oM (N : Nt) (ru p m g : Nat) : Nat := bset (nk N) (fun l => mvB N ru l p (S_ ru m g))
def MvR (N : Nt) (ru p S : Nat) (r : Int32) : Prop := r = -nI 1 ∨ ∃ l, r = nI l ∧ l < nk N ∧ mvB N ru l p S = true
/-- both tell the same -/
def bth (N : Nt) (ru p0 p m g : Nat) (σ τ : S3) (x y : R3) : Prop := ∃ r σ' τ', x = some (r, σ') ∧ y = some (r, τ') ∧ xz σ σ' ∧ mz τ τ' ∧ PS N ru p0 p m g σ' τ' ∧ MvR N ru p (S_ ru m g) r
section
variable {N : Nt} {ru p0 p m g : Nat} {σ τ : S3}
theorem PS_x {σ' : S3} (h : PS N ru p0 p m g σ τ) (hx : xg σ σ') (hJ : JT N ru p0 σ') : PS N ru p0 p m g σ' τ := by
  obtain ⟨a, b, c, d, e, f, z⟩ := h
  exact ⟨RX_g hx (by decide) a, hJ, c, d, e, f, by rw [hx 4 2 (by omega)]; exact z⟩
theorem PS_m {τ' : S3} (h : PS N ru p0 p m g σ τ) (hx : ag τ τ') (hM : MT N τ') : PS N ru p0 p m g σ τ' := by
  obtain ⟨a, b, c, d, e, f, z⟩ := h
  exact ⟨a, b, c, RM_ag hx d, hM, MP_ag hx f, by rw [hx 17 (by decide) (by decide) (by decide)]; exact z⟩
theorem MT_f {τ' : S3} (h : MT N τ) (e0 : τ' 0 20 = τ 0 20) (e1 : τ' 0 21 = τ 0 21) (e2 : τ' 0 22 = τ 0 22) : MT N τ' := by
  unfold MT at h ⊢
  rw [e0, e1, e2]
  exact h
theorem PS_p {τ' : S3} (h : PS N ru p0 p m g σ τ) (hx : pg τ τ') : PS N ru p0 p m g σ τ' := by
  obtain ⟨a, b, c, d, e, f, z⟩ := h
  refine ⟨a, b, c, RM_pg hx d, MT_f e (hx 20 (by decide) (by decide)) (hx 21 (by decide) (by decide)) (hx 22 (by decide) (by decide)), ?_, by rw [hx 17 (by decide) (by decide)]; exact z⟩
  unfold MP at f ⊢
  rw [hx 12 (by decide) (by decide), hx 14 (by decide) (by decide), hx 15 (by decide) (by decide), hx 16 (by decide) (by decide)]
  exact f
theorem mv_in {l : Nat} : (oM N ru p m g).testBit l = true ↔ l < nk N ∧ mvB N ru l p (S_ ru m g) = true := by
  rw [bset_tb, Bool.and_eq_true, decide_eq_true_eq]
theorem lsI_mv {A : Nat} (hA : A < 4096) (hs : ∀ l, A.testBit l = true → (oM N ru p m g).testBit l = true) : MvR N ru p (S_ ru m g) (lsI A) := by
  unfold lsI
  by_cases e : A = 0
  · rw [if_pos e]; exact Or.inl rfl
  · rw [if_neg e]
    have h1 := lob_at 12 A (lob12 hA e)
    have h2 := mv_in.mp (hs _ h1)
    exact Or.inr ⟨_, rfl, h2.1, h2.2⟩
theorem gsI_mv : MvR N ru p (S_ ru m g) (gsI (oM N ru p m g)) := by
  unfold gsI
  by_cases e : hib (oM N ru p m g) 12 = 0
  · rw [if_pos e]; exact Or.inl rfl
  · rw [if_neg e]
    have h1 := (hib_at 12 _ e).1
    have h2 := mv_in.mp h1
    exact Or.inr ⟨_, rfl, h2.1, h2.2⟩
/-! PAIR -/
theorem av_at {P U q : Nat} : ∀ i, av N P U i = true → ∀ l, l < i → U.testBit l = true → atB N l q = true → (un N U i).testBit q = true
  | 0, _, l, hl, _, _ => absurd hl (Nat.not_lt_zero l)
  | i + 1, h, l, hl, hU, ha => by
    rw [av_s] at h
    rw [un]
    by_cases e : l = i
    · subst e
      rw [if_pos hU, Nat.testBit_or, en_tb]
      rcases atB_iff.mp ha with e | e <;> simp [e]
    · have := av_at i h.1 l (by omega) hU ha
      cases U.testBit i
      · simpa using this
      · simp [this]
theorem av_lt {P U q l l' : Nat} {k : Nat} (h : av N P U k = true) (hll : l < l') (hl' : l' < k) (hU : U.testBit l = true) (hU' : U.testBit l' = true) (ha : atB N l q = true) (ha' : atB N l' q = true) : False := by
  have h1 := av_mono (i := l' + 1) (k - (l' + 1)) (by rw [show l' + 1 + (k - (l' + 1)) = k by omega]; exact h)
  rw [av_s] at h1
  have h2 := (h1.2 hU').2
  have h3 := av_at l' h1.1 l hll hU ha
  rcases atB_iff.mp ha' with e | e
  · rw [e, h3] at h2; cases h2.1
  · rw [e, h3] at h2; cases h2.2
theorem av_un {P U q l l' : Nat} {k : Nat} (h : av N P U k = true) (hl : l < k) (hl' : l' < k) (hU : U.testBit l = true) (hU' : U.testBit l' = true) (ha : atB N l q = true) (ha' : atB N l' q = true) : l = l' := by
  rcases Nat.lt_trichotomy l l' with e | e | e
  · exact (av_lt h e hl' hU hU' ha ha').elim
  · exact e
  · exact (av_lt h e hl hU' hU ha' ha).elim
def pS (N : Nt) (p m : Nat) : Nat := dif (2 ^ nn N - 1) m ||| 2 ^ p
theorem pS_lt (hw : nwf N) (hp : p < nn N) : pS N p m < 1024 := by
  have := all_lt hw
  have hn := hw.2.1
  exact or_lt (m := 10) (dif_lt this m) (p2_lt (by omega))
theorem pair_b (hw : nwf N) (hr : ru < 5) (hs : PS N ru p0 p m g σ τ) : bth N ru p0 p m g σ τ (bd (F_X3_pairAtMarker (nI (st p m g)) σ) (fun r s => bd (F_X3_least (nI (oM N ru p m g) &&& r) s) (fun r s => some (r, s)))) (bd (F_X9_paired (nI (oM N ru p m g)) τ) (fun r s => some (r, s))) := by
  have hk := hw.2.2.1
  have hn := hw.2.1
  obtain ⟨hX, hJ, hj, hM, hT, hP, hz⟩ := hs
  have hs : PS N ru p0 p m g σ τ := ⟨hX, hJ, hj, hM, hT, hP, hz⟩
  have hp := hj.1
  have hpl := pS_lt (m := m) hw hp
  obtain ⟨τ', ne, e1, g1, _⟩ := M_pairingOf hw hM (show pS N p m < 4096 by omega)
  obtain ⟨l1, l2, l3, l4⟩ := lst_spec (N := N) (nk N) (pS N p m)
  have hav := (mt_av _ _).mp l2
  have hob : oM N ru p m g < 4096 := bs12 hw (fun l => mvB N ru l p (S_ ru m g))
  have hTl : lst N (nk N) (pS N p m) < 4096 := Nat.lt_of_lt_of_le l1 (Nat.pow_le_pow_right (n := 2) (j := 12) (by omega) hk)
  generalize hT0 : lst N (nk N) (pS N p m) = T at *
  have hAlt : oM N ru p m g &&& (T &&& tch N p) < 4096 := Nat.lt_of_le_of_lt Nat.and_le_left hob
  have hAt : ∀ l, (oM N ru p m g &&& (T &&& tch N p)).testBit l = ((oM N ru p m g).testBit l && (T.testBit l && (decide (l < nk N) && atB N l p))) := by
    intro l
    rw [Nat.testBit_and, Nat.testBit_and]
    unfold tch
    rw [bset_tb (fun l => atB N l p)]
  have hx : bd (F_X3_pairAtMarker (nI (st p m g)) σ) (fun r s => bd (F_X3_least (nI (oM N ru p m g) &&& r) s) (fun r s => some (r, s))) = some (lsI (oM N ru p m g &&& (T &&& tch N p)), σ) := by
    unfold F_X3_pairAtMarker
    rw [X_marker (by omega), bdE, X_everyPoint hw hX, bdE, X_met (by omega) hj.2.1 hj.2.2.1, bdE, m1, difN, li1, shl1 (by omega), orN, nmE, X_leastPairing hw hX (show dif (2 ^ nn N - 1) m ||| 2 ^ p < 4096 from by have := hpl; unfold pS at this; omega), bdE, ckN (by omega) (by omega), ixN (by omega), (hX.2.2.2 p (by omega)).1, andN]
    have : lst N (nk N) (dif (2 ^ nn N - 1) m ||| 2 ^ p) = T := hT0
    rw [this, bdE, andN, X_least hAlt, bdE]
  have hin : pg τ τ' := g1
  have hM' := RM_pg g1 hM
  have hP14 : τ' 0 14 0 = nI p := by rw [g1 14 (by decide) (by decide)]; exact hP.2.1
  have lp : ∀ (d n i : Nat), i + d = nk N → d < n → (∀ l, l < i → T.testBit l = true → atB N l p = false) → zl1 (Fb_X9_paired_25 (nI (oM N ru p m g)) (nI T)) n (nI i) τ' = some (lsI (oM N ru p m g &&& (T &&& tch N p)), τ') := by
    intro d
    induction d with
    | zero =>
      intro n i hi hn' hno
      obtain ⟨n, rfl⟩ : ∃ m, n = m + 1 := ⟨n - 1, by omega⟩
      have e : i = nk N := by omega
      subst e
      have hA0 : oM N ru p m g &&& (T &&& tch N p) = 0 := by
        apply Nat.eq_of_testBit_eq
        intro l
        rw [hAt l, Nat.zero_testBit]
        by_cases hl : l < nk N
        · cases hTb : T.testBit l
          · simp
          · simp [hno l hl hTb]
        · simp [hl]
      rw [zl1_s, hA0]
      generalize zl1 (Fb_X9_paired_25 (nI (oM N ru p m g)) (nI T)) n = K
      unfold Fb_X9_paired_25
      rw [hM'.2.1, if_pos (by rw [leN (by omega) (by omega)]; omega), m1]
      rfl
    | succ d ih =>
      intro n i hi hn' hno
      obtain ⟨n, rfl⟩ : ∃ m, n = m + 1 := ⟨n - 1, by omega⟩
      have hil : i < nk N := by omega
      have ih' := ih n (i + 1) (by omega) (by omega)
      rw [zl1_s]
      generalize zl1 (Fb_X9_paired_25 (nI (oM N ru p m g)) (nI T)) n = K at ih' ⊢
      unfold Fb_X9_paired_25
      rw [hM'.2.1, if_neg (by rw [leN (by omega) (by omega)]; omega), M_has (by omega) (by omega), bdE]
      have hgo : (T.testBit i = true → atB N i p = false) → ∀ l, l < i + 1 → T.testBit l = true → atB N l p = false := by
        intro hi0 l hl hTl
        by_cases e : l = i
        · subst e; exact hi0 hTl
        · exact hno l (by omega) hTl
      cases hTb : T.testBit i
      · rw [show b2i false = nI 0 from rfl, li0, if_pos rfl, nmE, li1, nI_add]
        exact ih' (hgo (fun h => by rw [hTb] at h; cases h))
      · rw [show b2i true = nI 1 from rfl, li0, if_neg n1_0, hP14, M_isAt hw hM' hil (by omega), bdE]
        cases ha : atB N i p
        · rw [show b2i false = nI 0 from rfl, if_pos rfl, nmE, li1, nI_add]
          exact ih' (hgo (fun _ => ha))
        · rw [show b2i true = nI 1 from rfl, if_neg n1_0, M_has (by omega) (by omega), bdE]
          cases hO : (oM N ru p m g).testBit i
          · have hA0 : oM N ru p m g &&& (T &&& tch N p) = 0 := by
              apply Nat.eq_of_testBit_eq
              intro l
              rw [hAt l, Nat.zero_testBit]
              cases hx1 : T.testBit l
              · simp
              · by_cases hl : l < nk N
                · cases hx2 : atB N l p
                  · simp
                  · have := av_un hav hil hl hTb hx1 ha hx2
                    subst this
                    rw [hO]; rfl
                · simp [hl]
            rw [hA0, show b2i false = nI 0 from rfl, if_pos rfl, m1]
            rfl
          · have hA1 : oM N ru p m g &&& (T &&& tch N p) ≠ 0 := by
              intro h0
              have := hAt i
              rw [h0, hO, hTb, ha] at this
              simp [hil] at this
            have hlo : lob (oM N ru p m g &&& (T &&& tch N p)) 12 = i := by
              apply lob_u (by omega)
              · rw [hAt i, hO, hTb, ha]; simp [hil]
              · intro j hj
                rw [hAt j]
                cases hx1 : T.testBit j
                · simp
                · rw [hno j hj hx1]; simp
            rw [show b2i true = nI 1 from rfl, if_neg n1_0]
            unfold lsI
            rw [if_neg hA1, hlo]
  refine ⟨_, σ, τ', hx, ?_, xz_rf σ, mz_p g1, PS_p hs g1, lsI_mv hAlt (fun l hl => by rw [hAt l] at hl; simp at hl; exact hl.1)⟩
  unfold F_X9_paired F_X9_paired_25
  rw [M_all hM hw, bdE, hP.2.2.1, m1, difN, hP.2.1, li1, shl1 (by omega), orN]
  rw [show dif (2 ^ nn N - 1) m ||| 2 ^ p = pS N p m from rfl, e1, bdE, li0, lp (nk N) zF 0 (by omega) (zfl (by omega)) (fun l hl => absurd hl (by omega)), bdE]
/-! DRAW -/
def dr (R : Nat) : Nat → Nat
  | 0 => R
  | j + 1 => dr R j &&& (dr R j - 1)
theorem dr_lt {R : Nat} (h : R < 4096) : ∀ j, dr R j < 4096
  | 0 => h
  | j + 1 => Nat.lt_of_le_of_lt Nat.and_le_left (dr_lt h j)
theorem dr_sub {R l : Nat} : ∀ j, (dr R j).testBit l = true → R.testBit l = true
  | 0, h => h
  | j + 1, h => by
    rw [dr, Nat.testBit_and, Bool.and_eq_true] at h
    exact dr_sub j h.1
theorem dr_pc {R : Nat} (h : R < 4096) : ∀ j, j ≤ pc R 12 → pc (dr R j) 12 + j = pc R 12
  | 0, _ => rfl
  | j + 1, hj => by
    have ih := dr_pc h j (by omega)
    have h0 : dr R j ≠ 0 := by
      intro e
      rw [e, pc0] at ih
      omega
    have := (pc_drop (dr_lt h j) h0).1
    rw [dr]
    omega
theorem dr_ne {R j : Nat} (h : R < 4096) (hj : j < pc R 12) : dr R j ≠ 0 := by
  intro e
  have := dr_pc h j (by omega)
  rw [e, pc0] at this
  omega
theorem ush8 (x : Int32) : ∃ w, w < 16777216 ∧ (Int32.toUInt32 x >>> (Int32.toUInt32 (8 : Int32) &&& Int32.toUInt32 31)).toInt32 = nI w := by
  have hx : x = nI x.toBitVec.toNat := by
    apply Int32.toBitVec_inj.mp
    show x.toBitVec = BitVec.ofNat 32 x.toBitVec.toNat
    simp
  have hl : x.toBitVec.toNat < 4294967296 := x.toBitVec.isLt
  refine ⟨x.toBitVec.toNat / 2 ^ 8, by omega, ?_⟩
  have := ushrN hl (show 8 < 32 by omega)
  rw [← hx, ← li8] at this
  exact this
theorem pc_z {R : Nat} (h : R < 4096) (h0 : pc R 12 = 0) : R = 0 := by
  apply Classical.byContradiction
  intro e
  have := (pc_drop h e).1
  omega
theorem draw_b (hw : nwf N) (hs : PS N ru p0 p m g σ τ) : bth N ru p0 p m g σ τ (bd (F_X3_drawn (nI (oM N ru p m g)) σ) (fun r s => some (r, s))) (bd (F_X9_drawn (nI (oM N ru p m g)) τ) (fun r s => some (r, s))) := by
  have hob : oM N ru p m g < 4096 := bs12 hw (fun l => mvB N ru l p (S_ ru m g))
  obtain ⟨hX, hJ, hj, hM, hT, hP, hz⟩ := hs
  have hs : PS N ru p0 p m g σ τ := ⟨hX, hJ, hj, hM, hT, hP, hz⟩
  have hpl := pc_le (oM N ru p m g) 12
  have hmv : ∀ j, MvR N ru p (S_ ru m g) (lsI (dr (oM N ru p m g) j)) := fun j => lsI_mv (dr_lt hob j) (fun l h => dr_sub j h)
  unfold F_X3_drawn F_X9_drawn
  rw [X_bitCount hob, bdE]
  by_cases h0 : oM N ru p m g = 0
  · refine ⟨-nI 1, σ, τ, ?_, ?_, xz_rf σ, mz_rf τ, hs, Or.inl rfl⟩
    · rw [h0, pc0, li0, if_pos rfl, bdE, m1]
    · rw [h0, li0, if_pos rfl, bdE, m1]
  · have hpz : pc (oM N ru p m g) 12 ≠ 0 := fun e => h0 (pc_z hob e)
    generalize oM N ru p m g = O at *
    have hcz : ∀ (β : Type) (x : Option β), ckz (nI (pc O 12)) x = x := fun β x => by
      unfold ckz
      rw [if_neg (by rw [li0, eqN (by omega) (by omega)]; exact hpz)]
    obtain ⟨z1, hz1⟩ : ∃ z1, z1 = σ 4 2 0 * (1103515245 : Int32) + (12345 : Int32) := ⟨_, rfl⟩
    obtain ⟨w, hwl, hwe⟩ := ush8 z1
    have hmod := Nat.mod_lt w (show 0 < pc O 12 by omega)
    have l1 : ∀ (s : S3) (d n j : Nat), j + d = w % pc O 12 → d < n → zl2 Fb_X3_drawn_39 n (nI (dr O j)) (nI d) s = some (lsI (dr O (w % pc O 12)), s) := by
      intro s d
      induction d with
      | zero =>
        intro n j hjd hn'
        obtain ⟨n, rfl⟩ : ∃ m, n = m + 1 := ⟨n - 1, by omega⟩
        rw [zl2_s]
        generalize zl2 Fb_X3_drawn_39 n = K
        unfold Fb_X3_drawn_39
        rw [li0, if_pos (by rw [leN (by omega) (by omega)]; omega), X_least (dr_lt hob j), bdE, show j = w % pc O 12 by omega]
      | succ d ih =>
        intro n j hjd hn'
        obtain ⟨n, rfl⟩ : ∃ m, n = m + 1 := ⟨n - 1, by omega⟩
        have ih' := ih n (j + 1) (by omega) (by omega)
        have hne := dr_ne (j := j) hob (by omega)
        rw [zl2_s]
        generalize zl2 Fb_X3_drawn_39 n = K at ih' ⊢
        unfold Fb_X3_drawn_39
        rw [li0, if_neg (by rw [leN (by omega) (by omega)]; omega), li1, subN (by omega), andN, nmE, eL_m, nmE]
        have e2 : eL (d + 1) = nI d := rfl
        rw [e2]
        exact ih'
    have l2 : ∀ (s : S3) (d n j : Nat), j + d = w % pc O 12 → d < n → zl3 (Fb_X9_drawn_45 (nI (w % pc O 12))) n (lsI (dr O j)) (nI (dr O j)) (nI j) s = some (lsI (dr O (w % pc O 12)), s) := by
      intro s d
      induction d with
      | zero =>
        intro n j hjd hn'
        obtain ⟨n, rfl⟩ : ∃ m, n = m + 1 := ⟨n - 1, by omega⟩
        rw [zl3_s]
        generalize zl3 (Fb_X9_drawn_45 (nI (w % pc O 12))) n = K
        unfold Fb_X9_drawn_45
        rw [if_pos (by rw [leN (by omega) (by omega)]; omega), show j = w % pc O 12 by omega]
      | succ d ih =>
        intro n j hjd hn'
        obtain ⟨n, rfl⟩ : ∃ m, n = m + 1 := ⟨n - 1, by omega⟩
        have ih' := ih n (j + 1) (by omega) (by omega)
        have hne := dr_ne (j := j) hob (by omega)
        rw [zl3_s]
        generalize zl3 (Fb_X9_drawn_45 (nI (w % pc O 12))) n = K at ih' ⊢
        unfold Fb_X9_drawn_45
        rw [if_neg (by rw [leN (by omega) (by omega)]; omega), li1, subN (by omega), andN, nmE, M_least (show dr O j &&& (dr O j - 1) < 4096 from dr_lt hob (j + 1)), bdE, nI_add, nmE]
        exact ih'
    refine ⟨lsI (dr O (w % pc O 12)), up σ 4 2 0 z1, up τ 0 17 0 z1, ?_, ?_, ?_, ?_, ?_, ?_⟩
    · rw [if_neg (by rw [li0, eqN (by omega) (by omega)]; exact hpz), nmE, hcz, ← hz1, up_at, hwe, pk_rem (by omega) (by omega) (by omega), nmE]
      unfold F_X3_drawn_39
      have := l1 (up σ 4 2 0 z1) (w % pc O 12) zF 0 (by omega) (zfl (by omega))
      rw [show dr O 0 = O from rfl] at this
      rw [this, bdE]
    · rw [if_neg (by rw [li0, eqN (by omega) (by omega)]; exact h0), nmE, M_ones hob, bdE, hcz, ← hz, ← hz1, up_at, hwe, pk_rem (by omega) (by omega) (by omega), nmE, M_least hob, bdE]
      unfold F_X9_drawn_45
      have := l2 (up τ 0 17 0 z1) (w % pc O 12) zF 0 (by omega) (zfl (by omega))
      rw [show dr O 0 = O from rfl] at this
      rw [li0, this, bdE]
    · intro c f _ h2
      by_cases hc : c = 4
      · subst hc; rw [up_f (fun e => h2 ⟨rfl, e⟩)]
      · rw [up_c hc]
    · intro f _ _ h17 _ _ _
      rw [up_f h17]
    · refine ⟨RX_c (up_c (by decide)) hX, JT_c hJ (up_c (by decide)), hj, ?_, MT_f hT (up_f (by decide)) (up_f (by decide)) (up_f (by decide)), ?_, by rw [up_at, up_at]⟩
      · unfold RM at hM ⊢
        rw [up_f (by decide), up_f (by decide), up_f (by decide), up_f (by decide), up_f (by decide)]
        exact hM
      · unfold MP at hP ⊢
        rw [up_f (by decide), up_f (by decide), up_f (by decide), up_f (by decide)]
        exact hP
    · exact hmv _
end
