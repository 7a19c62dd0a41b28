/-! PURE: the class's network told anew -/
def RB (c : Nat) (N : Nt) (σ : S3) : Prop := σ c 0 0 = nI (nn N) ∧ σ c 1 0 = nI (nk N) ∧ ∀ i, i < nk N → σ c 2 i = nI (nf N i) ∧ σ c 3 i = nI (nt N i) ∧ σ c 4 i = nI (nw N i)
theorem RB_of {c : Nat} {N : Nt} {σ : S3} (h : RX c N σ) : RB c N σ := ⟨h.1, h.2.1, h.2.2.1⟩
theorem RB_c {c : Nat} {N : Nt} {σ σ' : S3} (h : σ' c = σ c) (hr : RB c N σ) : RB c N σ' := by
  unfold RB at hr ⊢
  rw [h]
  exact hr
abbrev Rw : Type := Nat → Int32
def Wx (σ : S3) (c : Nat) (t l k b a : Rw) : S3 := upA (upA (upA (upA (upA σ c 5 t) c 6 l) c 7 k) c 8 b) c 9 a
def ou (f : Rw) (j v : Nat) : Rw := upd f j (f j ||| nI v)
theorem ou_p {f : Rw} {j v p A : Nat} (h : f p = nI A) : ou f j v p = nI (if p = j then A ||| v else A) := by
  unfold ou
  by_cases e : p = j
  · subst e; rw [upd_s, if_pos rfl, h, orN]
  · rw [upd_n e, if_neg e, h]
theorem upA_cm {σ : S3} {c f f' : Nat} {g g' : Rw} (h : f ≠ f') : upA (upA σ c f g) c f' g' = upA (upA σ c f' g') c f g := by
  funext a b
  unfold upA
  by_cases h1 : a = c
  · subst h1
    simp only [if_pos]
    by_cases h2 : b = f
    · subst h2; simp [h]
    · by_cases h3 : b = f'
      · subst h3; simp [h2]
      · simp [h2, h3]
  · simp [h1]
section
variable {σ : S3} {c : Nat} {t l k b a : Rw}
theorem Wx_o {c' : Nat} (h : c' ≠ c) : Wx σ c t l k b a c' = σ c' := by unfold Wx; rw [upA_c h, upA_c h, upA_c h, upA_c h, upA_c h]
theorem Wx_f {f : Nat} (h : f < 5) : Wx σ c t l k b a c f = σ c f := by unfold Wx; rw [upA_f (by omega), upA_f (by omega), upA_f (by omega), upA_f (by omega), upA_f (by omega)]
theorem Wx_5 : Wx σ c t l k b a c 5 = t := by unfold Wx; rw [upA_f (by omega), upA_f (by omega), upA_f (by omega), upA_f (by omega), upA_s]
theorem Wx_6 : Wx σ c t l k b a c 6 = l := by unfold Wx; rw [upA_f (by omega), upA_f (by omega), upA_f (by omega), upA_s]
theorem Wx_7 : Wx σ c t l k b a c 7 = k := by unfold Wx; rw [upA_f (by omega), upA_f (by omega), upA_s]
theorem Wx_8 : Wx σ c t l k b a c 8 = b := by unfold Wx; rw [upA_f (by omega), upA_s]
theorem Wx_9 : Wx σ c t l k b a c 9 = a := by unfold Wx; rw [upA_s]
theorem Wx_u5 {j : Nat} {v : Int32} : up (Wx σ c t l k b a) c 5 j v = Wx σ c (upd t j v) l k b a := by
  unfold up
  rw [Wx_5]
  unfold Wx
  rw [upA_cm (f := 9) (f' := 5) (by decide), upA_cm (f := 8) (f' := 5) (by decide), upA_cm (f := 7) (f' := 5) (by decide), upA_cm (f := 6) (f' := 5) (by decide), upA_twice]
theorem Wx_u6 {j : Nat} {v : Int32} : up (Wx σ c t l k b a) c 6 j v = Wx σ c t (upd l j v) k b a := by
  unfold up
  rw [Wx_6]
  unfold Wx
  rw [upA_cm (f := 9) (f' := 6) (by decide), upA_cm (f := 8) (f' := 6) (by decide), upA_cm (f := 7) (f' := 6) (by decide), upA_twice]
theorem Wx_u7 {j : Nat} {v : Int32} : up (Wx σ c t l k b a) c 7 j v = Wx σ c t l (upd k j v) b a := by
  unfold up
  rw [Wx_7]
  unfold Wx
  rw [upA_cm (f := 9) (f' := 7) (by decide), upA_cm (f := 8) (f' := 7) (by decide), upA_twice]
theorem Wx_u8 {j : Nat} {v : Int32} : up (Wx σ c t l k b a) c 8 j v = Wx σ c t l k (upd b j v) a := by
  unfold up
  rw [Wx_8]
  unfold Wx
  rw [upA_cm (f := 9) (f' := 8) (by decide), upA_twice]
theorem Wx_u9 {j : Nat} {v : Int32} : up (Wx σ c t l k b a) c 9 j v = Wx σ c t l k b (upd a j v) := by
  unfold up
  rw [Wx_9]
  unfold Wx
  rw [upA_twice]
theorem X_lead {i x y : Nat} (hi : i < 12) (hx : x < 16) (hy : y < 16) : F_X2_lead c (nI i) (nI x) (nI y) (Wx σ c t l k b a) = some (nI 0, Wx σ c t (ou l x (2 ^ i)) (ou k y (2 ^ i)) b (ou a x (2 ^ y))) := by
  unfold F_X2_lead
  simp only [ckN hx (show 16 < 2147483648 by omega), ckN hy (show 16 < 2147483648 by omega), nmE, ixN (show x < 2147483648 by omega), ixN (show y < 2147483648 by omega), Wx_6, Wx_u6, Wx_7, Wx_u7, Wx_9, Wx_u9, li1, li0, shl1 (show i < 32 by omega), shl1 (show y < 32 by omega)]
  rfl
end
def g5 (N : Nt) (i p : Nat) : Nat := bset i (fun l => atB N l p)
def g6 (N : Nt) (i p : Nat) : Nat := bset i (fun l => atB N l p && ldB N l p)
def g7 (N : Nt) (i p : Nat) : Nat := bset i (fun l => atB N l p && ldB N l (oth N l p))
def g8 (N : Nt) (i p : Nat) : Nat := bset 10 (fun q => anyB i (fun l => atB N l p && decide (oth N l p = q)))
def g9 (N : Nt) (i p : Nat) : Nat := bset 10 (fun q => anyB i (fun l => atB N l p && ldB N l p && decide (oth N l p = q)))
def GI (N : Nt) (i : Nat) (t l k b a : Rw) : Prop := ∀ p, p < 16 → t p = nI (g5 N i p) ∧ l p = nI (g6 N i p) ∧ k p = nI (g7 N i p) ∧ b p = nI (g8 N i p) ∧ a p = nI (g9 N i p)
theorem bany {i : Nat} {P : Nat → Bool} {o : Nat → Nat} (h : P i = true → o i < 10) : bset 10 (fun q => anyB (i + 1) (fun l => P l && decide (o l = q))) = bset 10 (fun q => anyB i (fun l => P l && decide (o l = q))) ||| (if P i then 2 ^ o i else 0) := by
  apply Nat.eq_of_testBit_eq
  intro q
  rw [Nat.testBit_or, bset_tb, bset_tb]
  cases hP : P i
  · simp [anyB, hP]
  · have := h hP
    simp only [anyB, hP, Bool.true_and, if_true, Nat.testBit_two_pow]
    by_cases e : o i = q
    · have : q < 10 := by omega
      simp [e, this]
    · simp [e]
section
variable {N : Nt} {i p : Nat}
theorem g5_s : g5 N (i + 1) p = g5 N i p ||| (if atB N i p then 2 ^ i else 0) := rfl
theorem g6_s : g6 N (i + 1) p = g6 N i p ||| (if atB N i p && ldB N i p then 2 ^ i else 0) := rfl
theorem g7_s : g7 N (i + 1) p = g7 N i p ||| (if atB N i p && ldB N i (oth N i p) then 2 ^ i else 0) := rfl
theorem g8_s (hw : nwf N) (hi : i < nk N) : g8 N (i + 1) p = g8 N i p ||| (if atB N i p then 2 ^ oth N i p else 0) := bany (P := fun l => atB N l p) (o := fun l => oth N l p) (fun ha => by
  have := oth_lt hw hi ha
  have hn := hw.2.1
  show oth N i p < 10
  omega)
theorem g9_s (hw : nwf N) (hi : i < nk N) : g9 N (i + 1) p = g9 N i p ||| (if atB N i p && ldB N i p then 2 ^ oth N i p else 0) := bany (P := fun l => atB N l p && ldB N l p) (o := fun l => oth N l p) (fun ha => by
  simp at ha
  have := oth_lt hw hi ha.1
  have hn := hw.2.1
  show oth N i p < 10
  omega)
end
theorem orz {A : Nat} : A ||| (if False then 1 else 0) = A := by simp
section
variable {c : Nat} {N : Nt} {σ : S3}
set_option maxHeartbeats 2000000 in
theorem X_gather (hw : nwf N) (h : RB c N σ) : ∃ σ', F_X2_gather c σ = some (nI 0, σ') ∧ RX c N σ' ∧ (∀ c', c' ≠ c → σ' c' = σ c') ∧ ∀ f, f < 5 → σ' c f = σ c f := by
  have hk := hw.2.2.1
  have hn := hw.2.1
  have lp : ∀ (d n i : Nat) (t l k b a : Rw), i + d = nk N → d < n → GI N i t l k b a → ∃ t' l' k' b' a', zl1 (Fb_X2_gather_42 c) n (nI i) (Wx σ c t l k b a) = some (nI 0, Wx σ c t' l' k' b' a') ∧ GI N (nk N) t' l' k' b' a' := by
    intro d
    induction d with
    | zero =>
      intro n i t l k b a hi hn' hG
      obtain ⟨n, rfl⟩ : ∃ m, n = m + 1 := ⟨n - 1, by omega⟩
      have e : i = nk N := by omega
      subst e
      refine ⟨t, l, k, b, a, ?_, hG⟩
      rw [zl1_s]
      generalize zl1 (Fb_X2_gather_42 c) n = K
      unfold Fb_X2_gather_42
      rw [Wx_f (by omega), h.2.1, if_pos (by rw [leN (by omega) (by omega)]; omega), li0]
    | succ d ih =>
      intro n i t l k b a hi hn' hG
      obtain ⟨n, rfl⟩ : ∃ m, n = m + 1 := ⟨n - 1, by omega⟩
      have hil : i < nk N := by omega
      have h1 := hw.2.2.2 i hil
      have h2 := h.2.2 i hil
      have ihn := ih n (i + 1)
      rw [zl1_s]
      generalize zl1 (Fb_X2_gather_42 c) n = K at ihn ⊢
      have F1 : ∀ t l k b a, Wx σ c t l k b a c 1 0 = nI (nk N) := fun t l k b a => by rw [Wx_f (by omega)]; exact h.2.1
      have F2 : ∀ t l k b a, Wx σ c t l k b a c 2 i = nI (nf N i) := fun t l k b a => by rw [Wx_f (by omega)]; exact h2.1
      have F3 : ∀ t l k b a, Wx σ c t l k b a c 3 i = nI (nt N i) := fun t l k b a => by rw [Wx_f (by omega)]; exact h2.2.1
      have F4 : ∀ t l k b a, Wx σ c t l k b a c 4 i = nI (nw N i) := fun t l k b a => by rw [Wx_f (by omega)]; exact h2.2.2
      unfold Fb_X2_gather_42 F_X2_gather_155
      simp only [F1, leN (show nk N < 2147483648 by omega) (show i < 2147483648 by omega), show ¬ nk N ≤ i by omega, if_false, ckN (show i < 12 by omega) (show 12 < 2147483648 by omega), ixN (show i < 2147483648 by omega), F2, F3, F4, ckN (show nf N i < 16 by omega) (show 16 < 2147483648 by omega), ckN (show nt N i < 16 by omega) (show 16 < 2147483648 by omega), ixN (show nf N i < 2147483648 by omega), ixN (show nt N i < 2147483648 by omega), nmE, Wx_5, Wx_u5, Wx_8, Wx_u8, li1, li2, shl1 (show i < 32 by omega), shl1 (show nf N i < 32 by omega), shl1 (show nt N i < 32 by omega), eqN (show nw N i < 2147483648 by omega) (show 1 < 2147483648 by omega), eqN (show nw N i < 2147483648 by omega) (show 2 < 2147483648 by omega), nI_add]
      rw [show upd t (nf N i) (t (nf N i) ||| nI (2 ^ i)) = ou t (nf N i) (2 ^ i) from rfl, show upd (ou t (nf N i) (2 ^ i)) (nt N i) (ou t (nf N i) (2 ^ i) (nt N i) ||| nI (2 ^ i)) = ou (ou t (nf N i) (2 ^ i)) (nt N i) (2 ^ i) from rfl, show upd b (nf N i) (b (nf N i) ||| nI (2 ^ nt N i)) = ou b (nf N i) (2 ^ nt N i) from rfl, show upd (ou b (nf N i) (2 ^ nt N i)) (nt N i) (ou b (nf N i) (2 ^ nt N i) (nt N i) ||| nI (2 ^ nf N i)) = ou (ou b (nf N i) (2 ^ nt N i)) (nt N i) (2 ^ nf N i) from rfl]
      have hne : nf N i ≠ nt N i := h1.2.2.1
      have p5 : ∀ p, p < 16 → ou (ou t (nf N i) (2 ^ i)) (nt N i) (2 ^ i) p = nI (g5 N (i + 1) p) := by
        intro p hp
        rw [ou_p (ou_p (hG p hp).1), g5_s]
        congr 1
        by_cases e1 : p = nf N i
        · have e2 : ¬ p = nt N i := by omega
          simp [e1, e2, hne, atB]
        · by_cases e2 : p = nt N i
          · have hne' := Ne.symm hne
            simp [e2, hne', atB]
          · simp [e1, e2, atB, Ne.symm e1, Ne.symm e2]
      have p8 : ∀ p, p < 16 → ou (ou b (nf N i) (2 ^ nt N i)) (nt N i) (2 ^ nf N i) p = nI (g8 N (i + 1) p) := by
        intro p hp
        rw [ou_p (ou_p (hG p hp).2.2.2.1), g8_s hw hil]
        congr 1
        by_cases e1 : p = nf N i
        · have e2 : ¬ p = nt N i := by omega
          simp [e1, hne, atB, oth_f]
        · by_cases e2 : p = nt N i
          · have hne' := Ne.symm hne
            simp [e2, hne', atB, oth_t]
          · simp [e1, e2, atB, Ne.symm e1, Ne.symm e2]
      have q6 : ∀ p, p < 16 → nw N i = 0 → ou (ou l (nf N i) (2 ^ i)) (nt N i) (2 ^ i) p = nI (g6 N (i + 1) p) := by
        intro p hp h0
        rw [ou_p (ou_p (hG p hp).2.1), g6_s]
        congr 1
        by_cases e1 : p = nf N i
        · have e2 : ¬ p = nt N i := by omega
          simp [e1, hne, atB, ldB, h0]
        · by_cases e2 : p = nt N i
          · have hne' := Ne.symm hne
            simp [e2, hne', atB, ldB, h0]
          · simp [e1, e2, atB, Ne.symm e1, Ne.symm e2]
      have q6f : ∀ p, p < 16 → nw N i = 1 → ou l (nf N i) (2 ^ i) p = nI (g6 N (i + 1) p) := by
        intro p hp h0
        rw [ou_p (hG p hp).2.1, g6_s]
        congr 1
        by_cases e1 : p = nf N i
        · simp [e1, atB, ldB, h0]
        · simp [e1, atB, ldB, h0, Ne.symm e1]
      have q6t : ∀ p, p < 16 → nw N i = 2 → ou l (nt N i) (2 ^ i) p = nI (g6 N (i + 1) p) := by
        intro p hp h0
        rw [ou_p (hG p hp).2.1, g6_s]
        congr 1
        by_cases e1 : p = nt N i
        · simp [e1, atB, ldB, h0]
        · simp [e1, atB, ldB, h0, Ne.symm e1]
      have q7 : ∀ p, p < 16 → nw N i = 0 → ou (ou k (nt N i) (2 ^ i)) (nf N i) (2 ^ i) p = nI (g7 N (i + 1) p) := by
        intro p hp h0
        rw [ou_p (ou_p (hG p hp).2.2.1), g7_s]
        congr 1
        by_cases e1 : p = nf N i
        · have e2 : ¬ p = nt N i := by omega
          simp [e1, hne, atB, ldB, h0]
        · by_cases e2 : p = nt N i
          · have hne' := Ne.symm hne
            simp [e2, hne', atB, ldB, h0]
          · simp [e1, e2, atB, Ne.symm e1, Ne.symm e2]
      have q7f : ∀ p, p < 16 → nw N i = 1 → ou k (nt N i) (2 ^ i) p = nI (g7 N (i + 1) p) := by
        intro p hp h0
        rw [ou_p (hG p hp).2.2.1, g7_s]
        congr 1
        by_cases e1 : p = nt N i
        · simp [e1, atB, ldB, h0, oth_t]
        · by_cases e2 : p = nf N i
          · have hne' := Ne.symm hne
            simp [e2, hne, hne', atB, ldB, h0, oth_f]
          · simp [e1, e2, atB, Ne.symm e1, Ne.symm e2]
      have q7t : ∀ p, p < 16 → nw N i = 2 → ou k (nf N i) (2 ^ i) p = nI (g7 N (i + 1) p) := by
        intro p hp h0
        rw [ou_p (hG p hp).2.2.1, g7_s]
        congr 1
        by_cases e1 : p = nf N i
        · simp [e1, atB, ldB, h0, oth_f]
        · by_cases e2 : p = nt N i
          · have hne' := Ne.symm hne
            simp [e2, hne, hne', atB, ldB, h0, oth_t]
          · simp [e1, e2, atB, Ne.symm e1, Ne.symm e2]
      have q9 : ∀ p, p < 16 → nw N i = 0 → ou (ou a (nf N i) (2 ^ nt N i)) (nt N i) (2 ^ nf N i) p = nI (g9 N (i + 1) p) := by
        intro p hp h0
        rw [ou_p (ou_p (hG p hp).2.2.2.2), g9_s hw hil]
        congr 1
        by_cases e1 : p = nf N i
        · have e2 : ¬ p = nt N i := by omega
          simp [e1, hne, atB, ldB, h0, oth_f]
        · by_cases e2 : p = nt N i
          · have hne' := Ne.symm hne
            simp [e2, hne', atB, ldB, h0, oth_t]
          · simp [e1, e2, atB, Ne.symm e1, Ne.symm e2]
      have q9f : ∀ p, p < 16 → nw N i = 1 → ou a (nf N i) (2 ^ nt N i) p = nI (g9 N (i + 1) p) := by
        intro p hp h0
        rw [ou_p (hG p hp).2.2.2.2, g9_s hw hil]
        congr 1
        by_cases e1 : p = nf N i
        · simp [e1, atB, ldB, h0, oth_f]
        · simp [e1, atB, ldB, h0, Ne.symm e1]
      have q9t : ∀ p, p < 16 → nw N i = 2 → ou a (nt N i) (2 ^ nf N i) p = nI (g9 N (i + 1) p) := by
        intro p hp h0
        rw [ou_p (hG p hp).2.2.2.2, g9_s hw hil]
        congr 1
        by_cases e1 : p = nt N i
        · simp [e1, atB, ldB, h0, oth_t]
        · simp [e1, atB, ldB, h0, Ne.symm e1]
      rcases (show nw N i = 0 ∨ nw N i = 1 ∨ nw N i = 2 by omega) with e | e | e
      · rw [if_neg (show ¬ nw N i = 2 by omega), X_lead (show i < 12 by omega) (show nf N i < 16 by omega) (show nt N i < 16 by omega), bdE]
        simp only [F2, F3, F4, eqN (show nw N i < 2147483648 by omega) (show 1 < 2147483648 by omega), show ¬ nw N i = 1 by omega, if_false]
        rw [X_lead (show i < 12 by omega) (show nt N i < 16 by omega) (show nf N i < 16 by omega), bdE]
        exact ihn _ _ _ _ _ (by omega) (by omega) (fun p hp => ⟨p5 p hp, q6 p hp e, q7 p hp e, p8 p hp, q9 p hp e⟩)
      · rw [if_neg (show ¬ nw N i = 2 by omega), X_lead (show i < 12 by omega) (show nf N i < 16 by omega) (show nt N i < 16 by omega), bdE]
        simp only [F2, F3, F4, eqN (show nw N i < 2147483648 by omega) (show 1 < 2147483648 by omega), e, if_true]
        exact ihn _ _ _ _ _ (by omega) (by omega) (fun p hp => ⟨p5 p hp, q6f p hp e, q7f p hp e, p8 p hp, q9f p hp e⟩)
      · rw [if_pos e, if_neg (show ¬ nw N i = 1 by omega), X_lead (show i < 12 by omega) (show nt N i < 16 by omega) (show nf N i < 16 by omega), bdE]
        exact ihn _ _ _ _ _ (by omega) (by omega) (fun p hp => ⟨p5 p hp, q6t p hp e, q7t p hp e, p8 p hp, q9t p hp e⟩)
  have e0 : ∃ t l k b a, fillA (fillA (fillA (fillA (fillA σ c 5 16 0) c 6 16 0) c 7 16 0) c 8 16 0) c 9 16 0 = Wx σ c t l k b a ∧ GI N 0 t l k b a := by
    refine ⟨fun j => if j < 16 then 0 else σ c 5 j, fun j => if j < 16 then 0 else σ c 6 j, fun j => if j < 16 then 0 else σ c 7 j, fun j => if j < 16 then 0 else σ c 8 j, fun j => if j < 16 then 0 else σ c 9 j, ?_, ?_⟩
    · unfold fillA Wx
      simp only [upA_f (show 6 ≠ 5 by decide), upA_f (show 7 ≠ 5 by decide), upA_f (show 8 ≠ 5 by decide), upA_f (show 9 ≠ 5 by decide), upA_f (show 7 ≠ 6 by decide), upA_f (show 8 ≠ 6 by decide), upA_f (show 9 ≠ 6 by decide), upA_f (show 8 ≠ 7 by decide), upA_f (show 9 ≠ 7 by decide), upA_f (show 9 ≠ 8 by decide)]
    · intro p hp
      have hz : ∀ P : Nat → Bool, (∀ q, P q = false) → bset 10 P = 0 := by
        intro P hP
        apply Nat.eq_of_testBit_eq
        intro q
        rw [bset_tb, hP, Nat.zero_testBit, Bool.and_false]
      have h8 : g8 N 0 p = 0 := hz _ (fun _ => rfl)
      have h9 : g9 N 0 p = 0 := hz _ (fun _ => rfl)
      rw [h8, h9]
      simp only [hp, if_true]
      exact ⟨rfl, rfl, rfl, rfl, rfl⟩
  obtain ⟨t, l, k, b, a, e1, hG⟩ := e0
  obtain ⟨t', l', k', b', a', e2, hG'⟩ := lp (nk N) zF 0 t l k b a (by omega) (zfl (by omega)) hG
  refine ⟨Wx σ c t' l' k' b' a', ?_, ?_, fun c' hc => Wx_o hc, fun f hf => Wx_f hf⟩
  · unfold F_X2_gather F_X2_gather_42
    simp only [nmE]
    rw [e1, li0]
    exact e2
  · refine ⟨by rw [Wx_f (by omega)]; exact h.1, by rw [Wx_f (by omega)]; exact h.2.1, fun i hi => ?_, fun p hp => ?_⟩
    · rw [Wx_f (by omega), Wx_f (by omega), Wx_f (by omega)]; exact h.2.2 i hi
    · rw [Wx_5, Wx_6, Wx_7, Wx_8, Wx_9]; exact hG' p hp
/-- no lines -/
def N_cl (n : Nat) : Nt := (n, 0, fun _ => 0, fun _ => 0, fun _ => 0)
theorem N_cl_wf {n : Nat} (h1 : 1 ≤ n) (h2 : n ≤ 10) : nwf (N_cl n) := ⟨h1, h2, Nat.zero_le _, fun i hi => absurd hi (Nat.not_lt_zero i)⟩
theorem up_at {s : S3} {f j : Nat} {v : Int32} : up s c f j v c f j = v := by rw [up_s, upd_s]
theorem X_clear {n : Nat} (h1 : 1 ≤ n) (h2 : n ≤ 10) : ∃ σ', F_X2_clear c (nI n) σ = some (nI 0, σ') ∧ RX c (N_cl n) σ' ∧ ∀ c', c' ≠ c → σ' c' = σ c' := by
  obtain ⟨σ', e, hX, hc, _⟩ := X_gather (N := N_cl n) (c := c) (σ := up (up σ c 0 0 (nI n)) c 1 0 0) (N_cl_wf h1 h2) ⟨by rw [up_f (by decide), up_at]; rfl, by rw [up_at]; rfl, fun i hi => absurd hi (Nat.not_lt_zero i)⟩
  refine ⟨σ', ?_, hX, fun c' h => by rw [hc c' h, up_c h, up_c h]⟩
  unfold F_X2_clear
  simp only [nmE]
  rw [e, bdE, li0]
def ex (f : Nat → Nat) (k v : Nat) : Nat → Nat := fun i => if i = k then v else f i
def N_jn (N : Nt) (a b w : Nat) : Nt := (nn N, nk N + 1, ex (nf N) (nk N) a, ex (nt N) (nk N) b, ex (nw N) (nk N) w)
theorem N_jn_wf (hw : nwf N) {a b w : Nat} (hk : nk N < 12) (ha : a < nn N) (hb : b < nn N) (hab : a ≠ b) (hww : w < 3) : nwf (N_jn N a b w) := by
  refine ⟨hw.1, hw.2.1, by show nk N + 1 ≤ 12; omega, fun i hi => ?_⟩
  have hi' : i < nk N + 1 := hi
  show ex (nf N) (nk N) a i < nn N ∧ ex (nt N) (nk N) b i < nn N ∧ ex (nf N) (nk N) a i ≠ ex (nt N) (nk N) b i ∧ ex (nw N) (nk N) w i < 3
  unfold ex
  by_cases e : i = nk N
  · simp only [if_pos e]; exact ⟨ha, hb, hab, hww⟩
  · simp only [if_neg e]; exact hw.2.2.2 i (by omega)
theorem X_join (hw : nwf N) (h : RB c N σ) {a b w : Nat} (hk : nk N < 12) (ha : a < nn N) (hb : b < nn N) (hab : a ≠ b) (hww : w < 3) : ∃ σ', F_X2_join c (nI a) (nI b) (nI w) σ = some (nI 0, σ') ∧ RX c (N_jn N a b w) σ' ∧ ∀ c', c' ≠ c → σ' c' = σ c' := by
  obtain ⟨σ', e, hX, hc, _⟩ := X_gather (N := N_jn N a b w) (c := c) (σ := up (up (up (up σ c 2 (nk N) (nI a)) c 3 (nk N) (nI b)) c 4 (nk N) (nI w)) c 1 0 (nI (nk N + 1))) (N_jn_wf hw hk ha hb hab hww) ⟨by rw [up_f (by decide), up_f (by decide), up_f (by decide), up_f (by decide)]; exact h.1, by rw [up_at]; rfl, fun i hi => by
    have hi' : i < nk N + 1 := hi
    rw [up_f (show 2 ≠ 1 by decide), up_f (show 2 ≠ 4 by decide), up_f (show 2 ≠ 3 by decide), up_s, up_f (show 3 ≠ 1 by decide), up_f (show 3 ≠ 4 by decide), up_s, up_f (show 3 ≠ 2 by decide), up_f (show 4 ≠ 1 by decide), up_s, up_f (show 4 ≠ 3 by decide), up_f (show 4 ≠ 2 by decide)]
    show _ = nI (ex (nf N) (nk N) a i) ∧ _ = nI (ex (nt N) (nk N) b i) ∧ _ = nI (ex (nw N) (nk N) w i)
    unfold ex
    by_cases e : i = nk N
    · subst e; simp only [if_true, upd_s]; exact ⟨trivial, trivial, trivial⟩
    · rw [upd_n e, upd_n e, upd_n e, if_neg e, if_neg e, if_neg e]; exact h.2.2 i (by omega)⟩
  refine ⟨σ', ?_, hX, fun c' h => by rw [hc c' h, up_c h, up_c h, up_c h, up_c h]⟩
  unfold F_X2_join
  have k1 : ∀ s : S3, ∀ v x, up s c 2 v x c 1 0 = s c 1 0 := fun s v x => by rw [up_f (by decide)]
  have k2 : ∀ s : S3, ∀ v x, up s c 3 v x c 1 0 = s c 1 0 := fun s v x => by rw [up_f (by decide)]
  have k3 : ∀ s : S3, ∀ v x, up s c 4 v x c 1 0 = s c 1 0 := fun s v x => by rw [up_f (by decide)]
  simp only [nmE, k1, k2, k3, h.2.1, ckN (show nk N < 12 by omega) (show 12 < 2147483648 by omega), ixN (show nk N < 2147483648 by omega), li1, nI_add, li12, leN (show 12 < 2147483648 by omega) (show nk N < 2147483648 by omega), show ¬ 12 ≤ nk N by omega, if_false]
  rw [e, bdE, li0]
def N_tn (N : Nt) (l w : Nat) : Nt := (nn N, nk N, nf N, nt N, ex (nw N) l w)
theorem N_tn_wf (hw : nwf N) {l w : Nat} (hww : w < 3) : nwf (N_tn N l w) := by
  refine ⟨hw.1, hw.2.1, hw.2.2.1, fun i hi => ?_⟩
  have h1 := hw.2.2.2 i hi
  refine ⟨h1.1, h1.2.1, h1.2.2.1, ?_⟩
  show ex (nw N) l w i < 3
  unfold ex
  by_cases e : i = l
  · rw [if_pos e]; exact hww
  · rw [if_neg e]; exact h1.2.2.2
theorem X_turn (hw : nwf N) (h : RB c N σ) {l w : Nat} (hl : l < nk N) (hww : w < 3) : ∃ σ', F_X2_turn c (nI l) (nI w) σ = some (nI 0, σ') ∧ RX c (N_tn N l w) σ' ∧ ∀ c', c' ≠ c → σ' c' = σ c' := by
  have hk := hw.2.2.1
  obtain ⟨σ', e, hX, hc, _⟩ := X_gather (N := N_tn N l w) (c := c) (σ := up σ c 4 l (nI w)) (N_tn_wf hw hww) ⟨by rw [up_f (by decide)]; exact h.1, by rw [up_f (by decide)]; exact h.2.1, fun i hi => by
    have hi' : i < nk N := hi
    rw [up_f (show 2 ≠ 4 by decide), up_f (show 3 ≠ 4 by decide), up_s]
    have h2 := h.2.2 i hi'
    refine ⟨h2.1, h2.2.1, ?_⟩
    show _ = nI (ex (nw N) l w i)
    unfold ex
    by_cases e : i = l
    · subst e; rw [upd_s, if_pos rfl]
    · rw [upd_n e, if_neg e]; exact h2.2.2⟩
  refine ⟨σ', ?_, hX, fun c' h => by rw [hc c' h, up_c h]⟩
  unfold F_X2_turn
  rw [ckN (by omega) (by omega), ixN (by omega), nmE, e, bdE, li0]
def sk (f : Nat → Nat) (l : Nat) : Nat → Nat := fun i => if i < l then f i else f (i + 1)
def N_ct (N : Nt) (l : Nat) : Nt := (nn N, nk N - 1, sk (nf N) l, sk (nt N) l, sk (nw N) l)
theorem N_ct_wf (hw : nwf N) {l : Nat} (hl : l < nk N) : nwf (N_ct N l) := by
  refine ⟨hw.1, hw.2.1, by show nk N - 1 ≤ 12; have := hw.2.2.1; omega, fun i hi => ?_⟩
  have hi' : i < nk N - 1 := hi
  show sk (nf N) l i < nn N ∧ sk (nt N) l i < nn N ∧ sk (nf N) l i ≠ sk (nt N) l i ∧ sk (nw N) l i < 3
  unfold sk
  by_cases e : i < l
  · simp only [if_pos e]; exact hw.2.2.2 i (by omega)
  · simp only [if_neg e]; exact hw.2.2.2 (i + 1) (by omega)
theorem ckcN {β : Type} {s d n a b : Nat} {x : Option β} (hs : s + n ≤ a) (hd : d + n ≤ b) (ha : a < 2147483648) (hb : b < 2147483648) : ckc (nI s) (nI d) (nI n) a b x = x := by
  unfold ckc
  have k : ∀ m : Nat, m < 2147483648 → ¬ nI m < 0 := fun m hm => by rw [li0, ltN hm (by omega)]; omega
  rw [if_pos ⟨k s (by omega), k d (by omega), k n (by omega), by rw [ixN (by omega), ixN (by omega)]; exact hs, by rw [ixN (by omega), ixN (by omega)]; exact hd⟩]
theorem X_remove (hw : nwf N) (h : RB c N σ) {l : Nat} (hl : l < nk N) : ∃ σ', F_X2_remove c (nI l) σ = some (nI 0, σ') ∧ RX c (N_ct N l) σ' ∧ ∀ c', c' ≠ c → σ' c' = σ c' := by
  have hk := hw.2.2.1
  have cp : ∀ (s : S3) (f : Nat), cpyA s c f c f (nI (l + 1)) (nI l) (nI (nk N - l - 1)) = upA s c f (fun j => if l ≤ j ∧ j < nk N - 1 then s c f (j + 1) else s c f j) := by
    intro s f
    unfold cpyA va_cpy
    rw [ixN (by omega), ixN (by omega), ixN (by omega)]
    congr 1
    funext j
    by_cases e : l ≤ j ∧ j < nk N - 1
    · rw [if_pos e, if_pos (by omega), show l + 1 + (j - l) = j + 1 by omega]
    · rw [if_neg e, if_neg (by omega)]
  obtain ⟨σ', e, hX, hc, _⟩ := X_gather (N := N_ct N l) (c := c) (σ := up (upA (upA (upA σ c 2 (fun j => if l ≤ j ∧ j < nk N - 1 then σ c 2 (j + 1) else σ c 2 j)) c 3 (fun j => if l ≤ j ∧ j < nk N - 1 then σ c 3 (j + 1) else σ c 3 j)) c 4 (fun j => if l ≤ j ∧ j < nk N - 1 then σ c 4 (j + 1) else σ c 4 j)) c 1 0 (nI (nk N - 1))) (N_ct_wf hw hl) ⟨by rw [up_f (by decide), upA_f (by decide), upA_f (by decide), upA_f (by decide)]; exact h.1, by rw [up_at]; rfl, fun i hi => by
    have hi' : i < nk N - 1 := hi
    rw [up_f (show 2 ≠ 1 by decide), upA_f (show 2 ≠ 4 by decide), upA_f (show 2 ≠ 3 by decide), upA_s, up_f (show 3 ≠ 1 by decide), upA_f (show 3 ≠ 4 by decide), upA_s, up_f (show 4 ≠ 1 by decide), upA_s]
    show _ = nI (sk (nf N) l i) ∧ _ = nI (sk (nt N) l i) ∧ _ = nI (sk (nw N) l i)
    unfold sk
    by_cases e : i < l
    · have e2 : ¬ (l ≤ i ∧ i < nk N - 1) := by omega
      simp only [if_pos e, if_neg e2]
      exact h.2.2 i (by omega)
    · have e2 : l ≤ i ∧ i < nk N - 1 := by omega
      simp only [if_neg e, if_pos e2]
      exact h.2.2 (i + 1) (by omega)⟩
  refine ⟨σ', ?_, hX, fun c' h => by rw [hc c' h, up_c h, upA_c h, upA_c h, upA_c h]⟩
  unfold F_X2_remove
  have k1 : ∀ (s : S3) g, upA s c 2 g c 1 0 = s c 1 0 := fun s g => by rw [upA_f (by decide)]
  have k2 : ∀ (s : S3) g, upA s c 3 g c 1 0 = s c 1 0 := fun s g => by rw [upA_f (by decide)]
  have k3 : ∀ (s : S3) g, upA s c 4 g c 1 0 = s c 1 0 := fun s g => by rw [upA_f (by decide)]
  simp only [nmE, h.2.1, li1, subN (show l ≤ nk N by omega), subN (show 1 ≤ nk N - l by omega), subN (show 1 ≤ nk N by omega), nI_add, cp, ckcN (show l + 1 + (nk N - l - 1) ≤ 12 by omega) (show l + (nk N - l - 1) ≤ 12 by omega) (show 12 < 2147483648 by omega) (show 12 < 2147483648 by omega), k1, k2, k3, upA_f (show 3 ≠ 2 by decide), upA_f (show 4 ≠ 3 by decide), upA_f (show 4 ≠ 2 by decide)]
  rw [e, bdE, li0]
theorem X_become {c2 : Nat} (hcc : c2 ≠ c) (hw : nwf N) (h : RB c2 N σ) : ∃ σ', F_X2_become c c2 σ = some (nI 0, σ') ∧ RX c N σ' ∧ ∀ c', c' ≠ c → σ' c' = σ c' := by
  have hk := hw.2.2.1
  have cp : ∀ (s : S3) (f : Nat), cpyA s c2 f c f 0 0 12 = upA s c f (fun j => if j < 12 then s c2 f j else s c f j) := by
    intro s f
    unfold cpyA va_cpy
    rw [li0, li12, ixN (by omega), ixN (by omega)]
    congr 1
    funext j
    by_cases e : j < 12
    · rw [if_pos e, if_pos (by omega), show 0 + (j - 0) = j by omega]
    · rw [if_neg e, if_neg (by omega)]
  obtain ⟨σ', e, hX, hc, _⟩ := X_gather (N := N) (c := c) (σ := upA (upA (upA (up (up σ c 0 0 (nI (nn N))) c 1 0 (nI (nk N))) c 2 (fun j => if j < 12 then σ c2 2 j else σ c 2 j)) c 3 (fun j => if j < 12 then σ c2 3 j else σ c 3 j)) c 4 (fun j => if j < 12 then σ c2 4 j else σ c 4 j)) hw ⟨by rw [upA_f (by decide), upA_f (by decide), upA_f (by decide), up_f (by decide), up_at], by rw [upA_f (by decide), upA_f (by decide), upA_f (by decide), up_at], fun i hi => by
    rw [upA_f (show 2 ≠ 4 by decide), upA_f (show 2 ≠ 3 by decide), upA_s, upA_f (show 3 ≠ 4 by decide), upA_s, upA_s]
    have e2 : i < 12 := by omega
    simp only [if_pos e2]
    exact h.2.2 i hi⟩
  refine ⟨σ', ?_, hX, fun c' h => by rw [hc c' h, upA_c h, upA_c h, upA_c h, up_c h, up_c h]⟩
  unfold F_X2_become
  have ck0 : ∀ (β : Type) (x : Option β), ckc (0 : Int32) (0 : Int32) (12 : Int32) 12 12 x = x := fun β x => by
    rw [li0, li12]; exact ckcN (by omega) (by omega) (by omega) (by omega)
  simp only [nmE, up_c hcc, h.1, h.2.1, cp, ck0, upA_c hcc, upA_f (show 3 ≠ 2 by decide), upA_f (show 4 ≠ 3 by decide), upA_f (show 4 ≠ 2 by decide), up_f (show 2 ≠ 1 by decide), up_f (show 2 ≠ 0 by decide), up_f (show 3 ≠ 1 by decide), up_f (show 3 ≠ 0 by decide), up_f (show 4 ≠ 1 by decide), up_f (show 4 ≠ 0 by decide)]
  rw [e, bdE, li0]
end
