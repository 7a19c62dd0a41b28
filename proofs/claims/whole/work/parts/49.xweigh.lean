/-! PURE: the class's weighing -/
set_option maxHeartbeats 4000000 in
theorem X_weigh {N : Nt} {σ : S3} {ru p0 t : Nat} (hw : nwf N) (h : RX 1 N σ) (hu : σ 3 3 0 = nI ru) (hr : ru < 5) (ht : σ 3 2 0 = nI t) (ht2 : t < 1048576) : ∀ (k p m g left : Nat) (F : Nat → Int32), jok N ru p0 p m g → rm N ru (S_ ru m g) ≤ left → left ≤ 12 → left < k → JB t F → JM N ru p0 t F → ∃ F', zl2 F_X1_weigh_0 k (nI (st p m g)) (nI left) (upA σ 3 1 F) = some (nI (jcv N ru p (S_ ru m g)), upA σ 3 1 F') ∧ JB t F' ∧ JM N ru p0 t F' := by
  have hk := hw.2.2.1
  have hn := hw.2.1
  intro k
  induction k with
  | zero => intro p m g left F _ _ _ h0; exact absurd h0 (by omega)
  | succ k ihk =>
    generalize hRc : zl2 F_X1_weigh_0 k = Rc at ihk
    intro p m g left F hj hrm hleft hlk hB hM
    have hX : ∀ F, RX 1 N (upA σ 3 1 F) := fun F => RX_c (upA_c (by decide)) h
    have hU : ∀ F, (upA σ 3 1 F) 3 3 0 = nI ru := fun F => by rw [upA_f (by decide)]; exact hu
    have hT : ∀ F, (upA σ 3 1 F) 3 2 0 = nI t := fun F => by rw [upA_f (by decide)]; exact ht
    have hF : ∀ F, (upA σ 3 1 F) 3 1 = F := fun F => upA_s
    have hp10 : p < 10 := by have := hj.1; omega
    have hp16 : p < 16 := by omega
    have hm := hj.2.1
    have hg := hj.2.2.1
    have hjk := jk_lt hw hj
    have hc := jcv_lt hw ru p (S_ ru m g)
    have hnim := nim_eq hw ru p (S_ ru m g)
    have hns := nst_nim_lt hw ru p (S_ ru m g) (nk N) (Nat.le_refl _)
    have hmv := bs12 hw (fun l => mvB N ru l p (S_ ru m g))
    generalize hS : S_ ru m g = S at *
    have loop : ∀ (e5 : Nat → Int32), ((e5 = fun i => nI (gst N ru (val N ru) p S i).1) ∧ ¬ (ru = 4 ∧ ∀ l, l < nk N → mvB N ru l p S = false) ∨ (e5 = fun _ => -nI 1) ∧ ru = 4 ∧ ∀ l, l < nk N → mvB N ru l p S = false) → ∀ (d n i : Nat) (F : Nat → Int32), i + d = nk N → d < n → JB t F → JM N ru p0 t F → ∃ F', zl4 (Fb_X1_weigh_92 Rc (nI (st p m g)) (nI left) (nI (jk ru p m g)) (nI (bset (nk N) (fun l => mvB N ru l p S)))) n (e5 i) (eL (gst N ru (val N ru) p S i).2) (nI (nst N ru (nim N ru) p S i)) (nI i) (upA σ 3 1 F) = some (nI (jcv N ru p S), upA σ 3 1 F') ∧ JB t F' ∧ JM N ru p0 t F' := by
      intro e5 he5 d
      induction d with
      | zero =>
        intro n i F hi hn' hB hM
        obtain ⟨n, rfl⟩ : ∃ m, n = m + 1 := ⟨n - 1, by omega⟩
        have e : i = nk N := by omega
        subst e
        rw [zl4_s]
        generalize zl4 (Fb_X1_weigh_92 Rc (nI (st p m g)) (nI left) (nI (jk ru p m g)) (nI (bset (nk N) (fun l => mvB N ru l p S)))) n = K
        have hb := gst_bd (N := N) (ru := ru) (p := p) (S := S) (B := 12) (ch := val N ru) (nk N) (fun l hl hm => val_le hw ru _ _)
        have hno := gst_no (N := N) (ru := ru) (p := p) (S := S) (ch := val N ru) (nk N)
        have hve := val_eq hw ru p S
        have hvl := val_le hw ru p S
        have hnl := nim_le hw ru p S
        refine ⟨upd F (jk ru p m g) (nI (512 * t + jcv N ru p S)), ?_, JB_upd hB hc, ?_⟩
        · unfold Fb_X1_weigh_92 F_X1_weigh_220
          simp (disch := omega) only [ckN, ixN, nI_add, subN, mulN, eqN, leN, ltN, bdE, nmE, hasN, shl1, orN, andN, b2i_0, b2i_1, ↓reduceIte, Nat.reduceEqDiff, Nat.reduceLeDiff, li0, li1, li2, li3, li4, li5, li6, li7, li8, li9, li10, li12, li13, li15, li16, li20, li24, li32, li60, li63, li255, li300, li511, li1000, li1023, li8191, (hX F).2.1, Nat.le_refl]
          rw [← m1, X_mexN (by omega), ← hnim, bdE]
          have fin : ∀ b hh, b < 2 → hh < 14 → jcv N ru p S = b + 2 * hh + 32 * nim N ru p S → bd (F_X1_joined (nI b) (nI hh) (nI (nim N ru p S)) (upA σ 3 1 F)) (fun r97 s98 => some (r97, up s98 3 1 (jk ru p m g) (s98 3 2 0 <<< (nI 9 &&& 31) ||| r97))) = some (nI (jcv N ru p S), upA σ 3 1 (upd F (jk ru p m g) (nI (512 * t + jcv N ru p S)))) := by
            intro b hh hb2 hh2 he
            rw [X_joined hb2 hh2 (by omega), bdE, hT F, ← li9, ← he, or9 ht2 hc, up_upA]
          generalize hq : gst N ru (val N ru) p S (nk N) = q at hb hno hve he5 ⊢
          obtain ⟨sh, la⟩ := q
          simp only at hb hno hve ⊢
          unfold gfin at hve
          simp only at hve
          rcases he5 with ⟨he, hx⟩ | ⟨he, h4, hx⟩
          · have he' : e5 (nk N) = nI sh := by rw [he]; show nI (gst N ru (val N ru) p S (nk N)).1 = _; rw [hq]
            rw [he']
            by_cases hsh : 1000 ≤ sh
            · simp (disch := omega) only [ckN, ixN, nI_add, subN, mulN, eqN, leN, ltN, bdE, nmE, hasN, shl1, orN, andN, b2i_0, b2i_1, ↓reduceIte, Nat.reduceEqDiff, Nat.reduceLeDiff, li0, li1, li2, li3, li4, li5, li6, li7, li8, li9, li10, li12, li13, li15, li16, li20, li24, li32, li60, li63, li255, li300, li511, li1000, li1023, li4095, li8191, hsh]
              have e6 : nI 1 + eL la = nI la := by
                unfold eL
                by_cases h0 : la = 0
                · rw [if_pos h0, h0]; rfl
                · rw [if_neg h0, nI_add]; congr 1; omega
              rw [e6]
              refine fin 0 la (by omega) (by omega) ?_
              unfold jcv jc
              rw [hve]
              by_cases h0 : la = 0
              · have h4 : ru ≠ 4 := fun h4 => hx ⟨h4, hno.mp h0⟩
                simp [h0, h4]
              · have : ¬ sh < 1000 := by omega
                simp [h0, this]
            · simp (disch := omega) only [ckN, ixN, nI_add, subN, mulN, eqN, leN, ltN, bdE, nmE, hasN, shl1, orN, andN, b2i_0, b2i_1, ↓reduceIte, Nat.reduceEqDiff, Nat.reduceLeDiff, li0, li1, li2, li3, li4, li5, li6, li7, li8, li9, li10, li12, li13, li15, li16, li20, li24, li32, li60, li63, li255, li300, li511, li1000, li1023, li4095, li8191, hsh]
              refine fin 1 (1 + sh) (by omega) (by omega) ?_
              unfold jcv jc
              rw [hve]
              have h0 : la ≠ 0 := by intro h0; have := hb.2.2 h0; omega
              have : sh < 1000 := by omega
              simp [h0, this]
          · have hl0 : la = 0 := hno.mpr hx
            have he' : e5 (nk N) = -nI 1 := by rw [he]
            rw [he', if_neg (show ¬ (nI 1000 ≤ -nI 1) by decide), show nI 1 + -nI 1 = nI 0 from by decide]
            refine fin 1 0 (by omega) (by omega) ?_
            unfold jcv jc
            rw [hve]
            simp [hl0, h4]
        · have := JM_upd hw hM hj
          rw [hS] at this
          exact this
      | succ d ih =>
        intro n i F hi hn' hB hM
        obtain ⟨n, rfl⟩ : ∃ m, n = m + 1 := ⟨n - 1, by omega⟩
        have hil : i < nk N := by omega
        have hb := gst_bd (N := N) (ru := ru) (p := p) (S := S) (B := 12) (ch := val N ru) i (fun l hl hm => val_le hw ru _ _)
        have hst : gst N ru (val N ru) p S (i + 1) = if mvB N ru i p S then (if (val N ru (oth N i p) (nxt N ru i p S)).1 then (gst N ru (val N ru) p S i).1 else min (gst N ru (val N ru) p S i).1 (val N ru (oth N i p) (nxt N ru i p S)).2, max (gst N ru (val N ru) p S i).2 ((val N ru (oth N i p) (nxt N ru i p S)).2 + 1)) else gst N ru (val N ru) p S i := rfl
        have hnt : nst N ru (nim N ru) p S (i + 1) = if mvB N ru i p S then nst N ru (nim N ru) p S i ||| 2 ^ nim N ru (oth N i p) (nxt N ru i p S) else nst N ru (nim N ru) p S i := rfl
        have ihn := ih n
        rw [zl4_s]
        generalize zl4 (Fb_X1_weigh_92 Rc (nI (st p m g)) (nI left) (nI (jk ru p m g)) (nI (bset (nk N) (fun l => mvB N ru l p S)))) n = K at ihn ⊢
        unfold Fb_X1_weigh_92 F_X1_weigh_150
        simp (disch := omega) only [ckN, ixN, nI_add, subN, mulN, eqN, leN, ltN, bdE, nmE, hasN, shl1, orN, andN, b2i_0, b2i_1, ↓reduceIte, Nat.reduceEqDiff, Nat.reduceLeDiff, li0, li1, li2, li3, li4, li5, li6, li7, li8, li9, li10, li12, li13, li15, li16, li20, li24, li32, li60, li63, li255, li300, li511, li1000, li1023, li4095, li8191, (hX F).2.1, show ¬ nk N ≤ i by omega, bset_tb, hil, decide_true, Bool.true_and]
        cases hmb : mvB N ru i p S
        · have ih' := ihn (i + 1) F (by omega) (by omega) hB hM
          rw [hst, hnt, hmb] at ih'
          have he : e5 (i + 1) = e5 i := by
            rcases he5 with ⟨he, hx⟩ | ⟨he, h4, hx⟩
            · rw [he]; show nI (gst N ru (val N ru) p S (i + 1)).1 = nI (gst N ru (val N ru) p S i).1; rw [hst, hmb]; rfl
            · rw [he]
          rw [he] at ih'
          simp at ih' ⊢
          exact ih'
        · have ha := mvB_at hmb
          have ho := oth_lt hw hil ha
          have hrm' := rm_mv hw hil hmb
          have hmb2 : mvB N ru i p (S_ ru m g) = true := by rw [hS]; exact hmb
          have hj2 := jok_mv hw hj hil hmb2
          have hS2 : S_ ru (m ||| 2 ^ oth N i p) (g ||| 2 ^ i) = nxt N ru i p S := by rw [S_mv, hS]
          obtain ⟨F1, hF1, hB1, hM1⟩ := ihk (oth N i p) (m ||| 2 ^ oth N i p) (g ||| 2 ^ i) (left - 1) F hj2 (by rw [hS2]; omega) (by omega) (by omega) hB hM
          rw [hS2] at hF1
          have ih' := ihn (i + 1) F1 (by omega) (by omega) hB1 hM1
          rw [hst, hnt, if_pos hmb, if_pos hmb] at ih'
          have hcv := val_le hw ru (oth N i p) (nxt N ru i p S)
          have hcn := nim_le hw ru (oth N i p) (nxt N ru i p S)
          have he : e5 i = nI (gst N ru (val N ru) p S i).1 := by
            rcases he5 with ⟨he, hx⟩ | ⟨he, h4, hx⟩
            · rw [he]
            · rw [hx i hil] at hmb; cases hmb
          have he2 : e5 (i + 1) = nI (if (val N ru (oth N i p) (nxt N ru i p S)).1 then (gst N ru (val N ru) p S i).1 else min (gst N ru (val N ru) p S i).1 (val N ru (oth N i p) (nxt N ru i p S)).2) := by
            rcases he5 with ⟨he, hx⟩ | ⟨he, h4, hx⟩
            · rw [he]; show nI (gst N ru (val N ru) p S (i + 1)).1 = _; rw [hst, if_pos hmb]
            · rw [hx i hil] at hmb; cases hmb
          rw [he2] at ih'
          rw [he]
          have hlf : nI left - nI 1 = nI (left - 1) := subN (by omega)
          rw [X_behind hw (hX F) hp10 hm hg hil ha]
          simp only [bdE, nmE, hlf]
          rw [hF1]
          unfold jcv
          simp only [bdE, nmE, X_winsAs (show (val N ru (oth N i p) (nxt N ru i p S)).2 < 14 by omega) (show nim N ru (oth N i p) (nxt N ru i p S) < 14 by omega), X_lengthAs (show (val N ru (oth N i p) (nxt N ru i p S)).2 < 14 by omega) (show nim N ru (oth N i p) (nxt N ru i p S) < 14 by omega), X_nimAs (show (val N ru (oth N i p) (nxt N ru i p S)).2 < 14 by omega) (show nim N ru (oth N i p) (nxt N ru i p S) < 14 by omega)]
          generalize nst N ru (nim N ru) p S i = ns at ih' ⊢
          generalize nim N ru (oth N i p) (nxt N ru i p S) = x at hcn ih' ⊢
          generalize gst N ru (val N ru) p S i = q at hb ih' ⊢
          obtain ⟨sh, la⟩ := q
          generalize val N ru (oth N i p) (nxt N ru i p S) = c at hcv ih' ⊢
          obtain ⟨b, hh⟩ := c
          simp only at hb ih' hcv ⊢
          have f6 : (if eL la < nI hh then nI hh else eL la) = eL (max la (hh + 1)) := by
            unfold eL
            rw [if_neg (show ¬ max la (hh + 1) = 0 by omega)]
            by_cases h0 : la = 0
            · rw [if_pos h0, if_pos (by rw [m1_lt (by omega)]; exact True.intro), h0]
              congr 1
            · rw [if_neg h0]
              by_cases h1 : la - 1 < hh
              · rw [if_pos (by rw [ltN (by omega) (by omega)]; exact h1)]; congr 1; omega
              · rw [if_neg (by rw [ltN (by omega) (by omega)]; exact h1)]; congr 1; omega
          cases b
          · simp only [Bool.false_eq_true, if_false] at ih'
            have f5 : (if hh < sh then nI hh else nI sh) = nI (min sh hh) := by
              by_cases h1 : hh < sh
              · rw [if_pos h1]; congr 1; omega
              · rw [if_neg h1]; congr 1; omega
            simp (disch := omega) only [ckN, ixN, nI_add, subN, mulN, eqN, leN, ltN, bdE, nmE, hasN, shl1, orN, andN, b2i_0, b2i_1, ↓reduceIte, Nat.reduceEqDiff, Nat.reduceLeDiff, li0, li1, li2, li3, li4, li5, li6, li7, li8, li9, li10, li12, li13, li15, li16, li20, li24, li32, li60, li63, li255, li300, li511, li1000, li1023, li4095, li8191, f5, f6, Bool.true_eq_false]
            exact ih'
          · simp only [if_true] at ih'
            simp (disch := omega) only [ckN, ixN, nI_add, subN, mulN, eqN, leN, ltN, bdE, nmE, hasN, shl1, orN, andN, b2i_0, b2i_1, ↓reduceIte, Nat.reduceEqDiff, Nat.reduceLeDiff, li0, li1, li2, li3, li4, li5, li6, li7, li8, li9, li10, li12, li13, li15, li16, li20, li24, li32, li60, li63, li255, li300, li511, li1000, li1023, li4095, li8191, f6, Bool.true_eq_false]
            exact ih'
    rw [zl2_s, hRc]
    unfold F_X1_weigh_0
    have hkey : (bd (F_X1_overLines (upA σ 3 1 F)) (fun r60 s61 => if r60 = (0) then (bd (F_X5_markerAndMet (nI (st p m g)) s61) (fun r64 s65 => F_X1_weigh_18 Rc (nI (st p m g)) (nI left) r64 s65))
  else (bd (F_X5_gone (nI (st p m g)) s61) (fun r134 s135 => F_X1_weigh_18 Rc (nI (st p m g)) (nI left) r134 s135)))) = F_X1_weigh_18 Rc (nI (st p m g)) (nI left) (nI (jk ru p m g)) (upA σ 3 1 F) := by
      rw [X_overLines (hU F) hr, bdE, X_markerAndMet hp10 hm hg, X_gone hp16 hm hg, bdE, bdE]
      unfold jk
      cases byL ru <;> rfl
    rw [hkey]
    unfold F_X1_weigh_18
    have h01 : (gst N ru (val N ru) p S 0) = (1000, 0) := rfl
    have hz0 : (∀ l, l < nk N → mvB N ru l p S = false) ↔ bset (nk N) (fun l => mvB N ru l p S) = 0 := by
      constructor
      · intro hx
        apply set_ext (bset_lt _ (nk N)) (Nat.two_pow_pos _)
        intro i hi
        rw [bset_tb, hx i hi, Nat.zero_testBit]
        simp
      · intro hx l hl
        have := congrArg (fun x => x.testBit l) hx
        simp only [bset_tb, Nat.zero_testBit, hl, decide_true, Bool.true_and] at this
        exact this
    have h59 : ∃ F', F_X1_weigh_59 Rc (nI (st p m g)) (nI left) (nI (jk ru p m g)) (nI (bset (nk N) (fun l => mvB N ru l p S))) (upA σ 3 1 F) = some (nI (jcv N ru p S), upA σ 3 1 F') ∧ JB t F' ∧ JM N ru p0 t F' := by
      unfold F_X1_weigh_59 F_X1_weigh_81 F_X1_weigh_92
      simp (disch := omega) only [ckN, ixN, nI_add, subN, mulN, eqN, leN, ltN, bdE, nmE, hasN, shl1, orN, andN, b2i_0, b2i_1, ↓reduceIte, Nat.reduceEqDiff, Nat.reduceLeDiff, li0, li1, li2, li3, li4, li5, li6, li7, li8, li9, li10, li12, li13, li15, li16, li20, li24, li32, li60, li63, li255, li300, li511, li1000, li1023, li4095, li8191, hU F, m1]
      have e0 : eL (gst N ru (val N ru) p S 0).2 = -nI 1 := rfl
      have e1 : nst N ru (nim N ru) p S 0 = 0 := rfl
      by_cases h4 : ru = 4
      · by_cases hz : bset (nk N) (fun l => mvB N ru l p S) = 0
        · have := loop (fun _ => -nI 1) (Or.inr ⟨rfl, h4, hz0.mpr hz⟩) (nk N) zF 0 F (by omega) (zfl (by omega)) hB hM
          rw [e0, e1] at this
          rw [if_pos h4, if_pos hz]
          exact this
        · have := loop (fun i => nI (gst N ru (val N ru) p S i).1) (Or.inl ⟨rfl, fun hx => hz (hz0.mp hx.2)⟩) (nk N) zF 0 F (by omega) (zfl (by omega)) hB hM
          rw [e0, e1] at this
          rw [if_pos h4, if_neg hz]
          exact this
      · have := loop (fun i => nI (gst N ru (val N ru) p S i).1) (Or.inl ⟨rfl, fun hx => h4 hx.1⟩) (nk N) zF 0 F (by omega) (zfl (by omega)) hB hM
        rw [e0, e1] at this
        rw [if_neg h4]
        exact this
    simp (disch := omega) only [ckN, ixN, nI_add, subN, mulN, eqN, leN, ltN, bdE, nmE, hasN, shl1, orN, andN, b2i_0, b2i_1, ↓reduceIte, Nat.reduceEqDiff, Nat.reduceLeDiff, li0, li1, li2, li3, li4, li5, li6, li7, li8, li9, li10, li12, li13, li15, li16, li20, li24, li32, li60, li63, li255, li300, li511, li1000, li1023, li4095, li8191, hF, hT]
    have hMk := hM p m g hj
    rw [hS] at hMk
    rcases hMk with e | ⟨w, e, hwl⟩
    · refine ⟨F, ?_, hB, hM⟩
      rw [e, ushrN (by omega) (by omega), show (512 * t + jcv N ru p S) / 2 ^ 9 = t by omega, if_pos rfl, andN, show 511 = 2 ^ 9 - 1 from rfl, and_p1]
      congr 3
      omega
    · rw [e, ushrN (by omega) (by omega), if_neg (by rw [eqN (by omega) (by omega)]; omega)]
      by_cases hl0 : left = 0
      · subst hl0
        have hz : bset (nk N) (fun l => mvB N ru l p S) = 0 := by
          rw [← hz0]
          intro l hl
          cases hmv : mvB N ru l p S
          · rfl
          · have := rm_mv hw hl hmv; omega
        rw [hz] at h59
        simp (disch := omega) only [ckN, ixN, nI_add, subN, mulN, eqN, leN, ltN, bdE, nmE, hasN, shl1, orN, andN, b2i_0, b2i_1, ↓reduceIte, Nat.reduceEqDiff, Nat.reduceLeDiff, li0, li1, li2, li3, li4, li5, li6, li7, li8, li9, li10, li12, li13, li15, li16, li20, li24, li32, li60, li63, li255, li300, li511, li1000, li1023, li4095, li8191, Nat.le_refl]
        exact h59
      · simp (disch := omega) only [ckN, ixN, nI_add, subN, mulN, eqN, leN, ltN, bdE, nmE, hasN, shl1, orN, andN, b2i_0, b2i_1, ↓reduceIte, Nat.reduceEqDiff, Nat.reduceLeDiff, li0, li1, li2, li3, li4, li5, li6, li7, li8, li9, li10, li12, li13, li15, li16, li20, li24, li32, li60, li63, li255, li300, li511, li1000, li1023, li4095, li8191, show ¬ left ≤ 0 by omega, X_movesFrom hw (hX F) (hU F) hr hp10 hm hg, hS]
        exact h59
