/-! PURE: games, in our words -/
def byL (ru : Nat) : Bool := decide (ru = 1) || decide (ru = 3)
def byW (ru : Nat) : Bool := decide (ru = 2) || decide (ru = 3)
/-- the bit that a move along l from p sets -/
def key (N : Nt) (ru l p : Nat) : Nat := if byL ru then l else oth N l p
def mvB (N : Nt) (ru l p S : Nat) : Bool := atB N l p && (!byW ru || ldB N l p) && !S.testBit (key N ru l p)
def nxt (N : Nt) (ru l p S : Nat) : Nat := S ||| 2 ^ key N ru l p
def gst (N : Nt) (ru : Nat) (ch : Nat → Nat → Bool × Nat) (p S : Nat) : Nat → Nat × Nat
  | 0 => (1000, 0)
  | l + 1 => if mvB N ru l p S then (if (ch (oth N l p) (nxt N ru l p S)).1 then (gst N ru ch p S l).1 else min (gst N ru ch p S l).1 (ch (oth N l p) (nxt N ru l p S)).2, max (gst N ru ch p S l).2 ((ch (oth N l p) (nxt N ru l p S)).2 + 1)) else gst N ru ch p S l
def gfin (ru : Nat) (r : Nat × Nat) : Bool × Nat := if r.2 = 0 then (decide (ru = 4), 0) else if r.1 < 1000 then (true, 1 + r.1) else (false, r.2)
def gW (N : Nt) (ru : Nat) : Nat → Nat → Nat → Bool × Nat
  | 0, _, _ => (false, 0)
  | d + 1, p, S => gfin ru (gst N ru (gW N ru d) p S (nk N))
def val (N : Nt) (ru p S : Nat) : Bool × Nat := gW N ru 13 p S
/-- how many of the first m aren't in a set -/
def cz (S : Nat) : Nat → Nat
  | 0 => 0
  | m + 1 => cz S m + (if S.testBit m then 0 else 1)
theorem cz_le (S : Nat) : ∀ m, cz S m ≤ m
  | 0 => Nat.le_refl _
  | m + 1 => by
    have := cz_le S m
    rw [cz]
    split <;> omega
theorem tb_or2 (S j i : Nat) : (S ||| 2 ^ j).testBit i = (S.testBit i || decide (j = i)) := by
  rw [Nat.testBit_or, Nat.testBit_two_pow]
theorem cz_set {S j : Nat} (hj : S.testBit j = false) : ∀ m, cz (S ||| 2 ^ j) m + (if j < m then 1 else 0) = cz S m
  | 0 => by simp [cz]
  | m + 1 => by
    have ih := cz_set hj m
    rw [cz, cz, tb_or2]
    by_cases h : j = m
    · subst h
      rw [if_neg (Nat.lt_irrefl _)] at ih
      simp [hj]
      omega
    · by_cases h2 : j < m
      · rw [if_pos h2] at ih
        have e1 : (if j < m + 1 then 1 else 0) = 1 := if_pos (by omega)
        rw [e1]
        simp [h]
        omega
      · rw [if_neg h2] at ih
        have e1 : (if j < m + 1 then 1 else 0) = 0 := if_neg (by omega)
        rw [e1]
        simp [h]
        omega
def rm (N : Nt) (ru S : Nat) : Nat := cz S (if byL ru then nk N else nn N)
theorem mvB_at {N : Nt} {ru l p S : Nat} (h : mvB N ru l p S = true) : atB N l p = true := by
  unfold mvB at h
  simp at h
  exact h.1.1
theorem mvB_new {N : Nt} {ru l p S : Nat} (h : mvB N ru l p S = true) : S.testBit (key N ru l p) = false := by
  unfold mvB at h
  simp at h
  exact h.2
theorem key_lt {N : Nt} (hw : nwf N) {ru l p : Nat} (hl : l < nk N) (ha : atB N l p = true) : key N ru l p < (if byL ru then nk N else nn N) := by
  unfold key
  cases byL ru
  · exact oth_lt hw hl ha
  · exact hl
theorem key12 {N : Nt} (hw : nwf N) {ru l p : Nat} (hl : l < nk N) (ha : atB N l p = true) : key N ru l p < 12 := by
  have := key_lt (ru := ru) hw hl ha
  have h1 := hw.2.1
  have h2 := hw.2.2.1
  cases h : byL ru
  · rw [h] at this; simp at this; omega
  · rw [h] at this; simp at this; omega
theorem rm_mv {N : Nt} (hw : nwf N) {ru l p S : Nat} (hl : l < nk N) (h : mvB N ru l p S = true) : rm N ru (nxt N ru l p S) + 1 = rm N ru S := by
  unfold rm nxt
  have := cz_set (mvB_new h) (if byL ru then nk N else nn N)
  rw [if_pos (key_lt hw hl (mvB_at h))] at this
  exact this
theorem rm12 {N : Nt} (hw : nwf N) (ru S : Nat) : rm N ru S ≤ 12 := by
  unfold rm
  have h1 := hw.2.1
  have h2 := hw.2.2.1
  have := cz_le S (if byL ru then nk N else nn N)
  cases h : byL ru
  · rw [h] at this; simp at this ⊢; omega
  · rw [h] at this; simp at this ⊢; omega
theorem gst_cong {N : Nt} {ru p S : Nat} {c1 c2 : Nat → Nat → Bool × Nat} : ∀ m, (∀ l, l < m → mvB N ru l p S = true → c1 (oth N l p) (nxt N ru l p S) = c2 (oth N l p) (nxt N ru l p S)) → gst N ru c1 p S m = gst N ru c2 p S m
  | 0, _ => rfl
  | m + 1, h => by
    have ih := gst_cong (c1 := c1) (c2 := c2) m (fun l hl => h l (by omega))
    rw [gst, gst, ih]
    by_cases hm : mvB N ru m p S = true
    · rw [h m (by omega) hm]
    · rw [if_neg hm, if_neg hm]
theorem gW_stab {N : Nt} (hw : nwf N) (ru : Nat) : ∀ (d1 d2 p S : Nat), rm N ru S < d1 → rm N ru S < d2 → gW N ru d1 p S = gW N ru d2 p S
  | 0, _, _, _, h, _ => absurd h (by omega)
  | _, 0, _, _, _, h => absurd h (by omega)
  | d1 + 1, d2 + 1, p, S, h1, h2 => by
    rw [gW, gW]
    congr 1
    apply gst_cong
    intro l hl hm
    have := rm_mv hw hl hm
    exact gW_stab hw ru d1 d2 _ _ (by omega) (by omega)
theorem val_eq {N : Nt} (hw : nwf N) (ru p S : Nat) : val N ru p S = gfin ru (gst N ru (val N ru) p S (nk N)) := by
  show gW N ru 13 p S = _
  rw [gW]
  congr 1
  apply gst_cong
  intro l hl hm
  have := rm_mv hw hl hm
  have := rm12 hw ru S
  exact gW_stab hw ru 12 13 _ _ (by omega) (by omega)
theorem gst_bd {N : Nt} {ru p S B : Nat} {ch : Nat → Nat → Bool × Nat} : ∀ m, (∀ l, l < m → mvB N ru l p S = true → (ch (oth N l p) (nxt N ru l p S)).2 ≤ B) → (gst N ru ch p S m).2 ≤ B + 1 ∧ ((gst N ru ch p S m).1 ≤ B ∨ (gst N ru ch p S m).1 = 1000) ∧ ((gst N ru ch p S m).2 = 0 → (gst N ru ch p S m).1 = 1000)
  | 0, _ => by simp [gst]
  | m + 1, h => by
    have ih := gst_bd (ch := ch) m (fun l hl => h l (by omega))
    rw [gst]
    by_cases hm : mvB N ru m p S = true
    · have hb := h m (by omega) hm
      rw [if_pos hm]
      simp only
      refine ⟨by omega, ?_, by omega⟩
      split
      · exact ih.2.1
      · omega
    · rw [if_neg hm]; exact ih
theorem gst_no {N : Nt} {ru p S : Nat} {ch : Nat → Nat → Bool × Nat} : ∀ m, (gst N ru ch p S m).2 = 0 ↔ ∀ l, l < m → mvB N ru l p S = false
  | 0 => by simp [gst]
  | m + 1 => by
    have ih := gst_no (N := N) (ru := ru) (p := p) (S := S) (ch := ch) m
    rw [gst]
    by_cases hm : mvB N ru m p S = true
    · rw [if_pos hm]
      simp only
      constructor
      · intro h; omega
      · intro h; rw [h m (by omega)] at hm; cases hm
    · rw [if_neg hm, ih]
      constructor
      · intro h l hl
        by_cases e : l = m
        · subst e; simpa using hm
        · exact h l (by omega)
      · intro h l hl; exact h l (by omega)
theorem gW_le {N : Nt} (hw : nwf N) (ru : Nat) : ∀ (d p S : Nat), (gW N ru d p S).2 ≤ rm N ru S
  | 0, _, _ => Nat.zero_le _
  | d + 1, p, S => by
    rw [gW]
    by_cases hz : rm N ru S = 0
    · have hn : ∀ l, l < nk N → mvB N ru l p S = false := by
        intro l hl
        cases hm : mvB N ru l p S
        · rfl
        · have := rm_mv hw hl hm; omega
      have := (gst_no (ch := gW N ru d) (nk N)).mpr hn
      unfold gfin
      rw [if_pos this]
      exact Nat.zero_le _
    · have hb := gst_bd (N := N) (ru := ru) (p := p) (S := S) (B := rm N ru S - 1) (ch := gW N ru d) (nk N) (fun l hl hm => by
        have h1 := rm_mv hw hl hm
        have h2 := gW_le hw ru d (oth N l p) (nxt N ru l p S)
        omega)
      unfold gfin
      split
      · exact Nat.zero_le _
      · split
        · simp only; omega
        · simp only; omega
theorem val_le {N : Nt} (hw : nwf N) (ru p S : Nat) : (val N ru p S).2 ≤ 12 := Nat.le_trans (gW_le hw ru 13 p S) (rm12 hw ru S)
/-- the least number that isn't in a set -/
def mex (s : Nat) : Nat → Nat
  | 0 => 0
  | m + 1 => if s.testBit 0 then 1 + mex (s / 2) m else 0
def nst (N : Nt) (ru : Nat) (ch : Nat → Nat → Nat) (p S : Nat) : Nat → Nat
  | 0 => 0
  | l + 1 => if mvB N ru l p S then nst N ru ch p S l ||| 2 ^ ch (oth N l p) (nxt N ru l p S) else nst N ru ch p S l
def gN (N : Nt) (ru : Nat) : Nat → Nat → Nat → Nat
  | 0, _, _ => 0
  | d + 1, p, S => mex (nst N ru (gN N ru d) p S (nk N)) 14
def nim (N : Nt) (ru p S : Nat) : Nat := gN N ru 13 p S
