/-! PURE: the class's judge -/
def keyI (r w : Int32) : Int32 := nm (w &&& (((1) <<< (r &&& 31)) - (1))) fun a => nm ((ush w (r + 1)) <<< (r &&& 31)) fun b => (r <<< ((9) &&& 31)) ||| ((a ||| b) &&& (511))
def cmp (p m : Nat) : Nat := m % 2 ^ p + 2 ^ p * (m / 2 ^ (p + 1))
theorem key_ : ∀ p, p < 10 → ∀ a, a < 32 → ∀ b, b < 32 → keyI (nI p) (nI (32 * a + b)) = nI (p * 512 + cmp p (32 * a + b)) ∧ cmp p (32 * a + b) < 512 := by decide +kernel
theorem keyN {p m : Nat} (hp : p < 10) (hm : m < 1024) : keyI (nI p) (nI m) = nI (p * 512 + cmp p m) ∧ cmp p m < 512 := by
  have := key_ p hp (m / 32) (by omega) (m % 32) (by omega)
  rw [show 32 * (m / 32) + m % 32 = m by omega] at this
  exact this
theorem cmp_inj {p m m' : Nat} (hp : p < 10) (h1 : m.testBit p = true) (h2 : m'.testBit p = true) (h : cmp p m = cmp p m') : m = m' := by
  rw [Nat.testBit_eq_decide_div_mod_eq, decide_eq_true_eq] at h1 h2
  unfold cmp at h
  rcases (show p = 0 ∨ p = 1 ∨ p = 2 ∨ p = 3 ∨ p = 4 ∨ p = 5 ∨ p = 6 ∨ p = 7 ∨ p = 8 ∨ p = 9 by omega) with e | e | e | e | e | e | e | e | e | e <;> subst e <;> simp only [Nat.reducePow, Nat.reduceAdd] at h h1 h2 <;> omega
theorem X_markerAndMet {σ : S3} {p m g : Nat} (hp : p < 10) (hm : m < 1024) (hg : g < 4096) : F_X5_markerAndMet (nI (st p m g)) σ = some (nI (p * 512 + cmp p m), σ) := by
  rw [← (keyN hp hm).1]
  unfold F_X5_markerAndMet keyI
  rw [X_marker (show p < 16 by omega), bdE, X_met (show p < 16 by omega) hm hg, bdE]
  simp only [nmE]
/-- the lines that are gone tell where the marker is -/
def xs (N : Nt) (g : Nat) : Nat → Nat
  | 0 => 0
  | m + 1 => if g.testBit m then xs N g m ^^^ (nf N m ^^^ nt N m) else xs N g m
def pt (N : Nt) (p0 g : Nat) : Nat := p0 ^^^ xs N g (nk N)
theorem xs_set {N : Nt} {g l : Nat} (hg : g.testBit l = false) : ∀ m, xs N (g ||| 2 ^ l) m = if l < m then xs N g m ^^^ (nf N l ^^^ nt N l) else xs N g m
  | 0 => by simp [xs]
  | m + 1 => by
    have ih := xs_set (N := N) hg m
    rw [xs, xs, tb_or2, ih]
    by_cases e : l = m
    · subst e
      rw [if_neg (Nat.lt_irrefl l), if_pos (Nat.lt_succ_self l), hg]
      simp
    · by_cases h : l < m
      · rw [if_pos h, if_pos (show l < m + 1 by omega)]
        cases g.testBit m
        · simp [e]
        · simp [Nat.xor_assoc, Nat.xor_comm (nf N l ^^^ nt N l)]
      · rw [if_neg h, if_neg (show ¬ l < m + 1 by omega)]
        simp [e]
theorem oth_x {N : Nt} {l p : Nat} (ha : atB N l p = true) : oth N l p = p ^^^ (nf N l ^^^ nt N l) := by
  rcases atB_iff.mp ha with e | e
  · rw [oth_f e, ← e, ← Nat.xor_assoc, Nat.xor_self, Nat.zero_xor]
  · rw [oth_t e, ← e, Nat.xor_comm, Nat.xor_assoc, Nat.xor_self, Nat.xor_zero]
def jok (N : Nt) (ru p0 p m g : Nat) : Prop := p < nn N ∧ m < 1024 ∧ g < 4096 ∧ (byL ru = true → p = pt N p0 g) ∧ (byL ru = false → m.testBit p = true)
def jk (ru p m g : Nat) : Nat := if byL ru then g else p * 512 + cmp p m
theorem jok_mv {N : Nt} (hw : nwf N) {ru p0 p m g l : Nat} (h : jok N ru p0 p m g) (hl : l < nk N) (hm : mvB N ru l p (S_ ru m g) = true) : jok N ru p0 (oth N l p) (m ||| 2 ^ oth N l p) (g ||| 2 ^ l) := by
  have ha := mvB_at hm
  have ho := oth_lt hw hl ha
  have hn := hw.2.1
  have hk := hw.2.2.1
  refine ⟨ho, or_lt (m := 10) h.2.1 (p2_lt (by omega)), or_lt (m := 12) h.2.2.1 (p2_lt (by omega)), ?_, ?_⟩
  · intro hb
    have hnew := mvB_new hm
    unfold S_ key at hnew
    rw [if_pos hb, if_pos hb] at hnew
    unfold pt
    rw [xs_set hnew, if_pos hl, oth_x ha, ← Nat.xor_assoc p0]
    congr 1
    exact h.2.2.2.1 hb
  · intro _
    rw [tb_or2]
    simp
theorem S_mv {N : Nt} {ru p m g l : Nat} : S_ ru (m ||| 2 ^ oth N l p) (g ||| 2 ^ l) = nxt N ru l p (S_ ru m g) := by
  unfold S_ nxt key
  cases byL ru <;> rfl
theorem S_lt {ru m g : Nat} (hm : m < 1024) (hg : g < 4096) : S_ ru m g < 4096 := by
  unfold S_
  cases byL ru
  · simp only [Bool.false_eq_true, if_false]; omega
  · simp only [if_true]; omega
theorem jk_inj {N : Nt} (hw : nwf N) {ru p0 p m g p' m' g' : Nat} (h : jok N ru p0 p m g) (h' : jok N ru p0 p' m' g') (e : jk ru p m g = jk ru p' m' g') : p = p' ∧ S_ ru m g = S_ ru m' g' := by
  have hn := hw.2.1
  unfold jk at e
  unfold S_
  cases hb : byL ru
  · rw [hb] at e
    simp only [Bool.false_eq_true, if_false] at e ⊢
    have c1 := (keyN (show p < 10 by have := h.1; omega) h.2.1).2
    have c2 := (keyN (show p' < 10 by have := h'.1; omega) h'.2.1).2
    have e1 : p = p' := by omega
    subst e1
    exact ⟨rfl, cmp_inj (by have := h.1; omega) (h.2.2.2.2 hb) (h'.2.2.2.2 hb) (by omega)⟩
  · rw [hb] at e
    simp only [if_true] at e ⊢
    subst e
    exact ⟨(h.2.2.2.1 hb).trans (h'.2.2.2.1 hb).symm, rfl⟩
theorem jk_lt {N : Nt} (hw : nwf N) {ru p0 p m g : Nat} (h : jok N ru p0 p m g) : jk ru p m g < 8192 := by
  have hn := hw.2.1
  have h1 := h.1
  have c1 := (keyN (show p < 10 by omega) h.2.1).2
  have h2 := h.2.2.1
  unfold jk
  cases byL ru
  · simp only [Bool.false_eq_true, if_false]; omega
  · simp only [if_true]; omega
def jc (v : Bool × Nat) (x : Nat) : Nat := v.1.toNat + 2 * v.2 + 32 * x
def jcv (N : Nt) (ru p S : Nat) : Nat := jc (val N ru p S) (nim N ru p S)
theorem jcv_lt {N : Nt} (hw : nwf N) (ru p S : Nat) : jcv N ru p S < 512 := by
  have h1 := val_le hw ru p S
  have h2 := nim_le hw ru p S
  unfold jcv jc
  cases (val N ru p S).1 <;> simp <;> omega
theorem jn_ : ∀ b, b < 2 → ∀ h, h < 14 → ∀ x, x < 14 → ((nI b ||| (nI h <<< ((1) &&& 31))) ||| (nI x <<< ((5) &&& 31)) = nI (b + 2 * h + 32 * x) ∧ nI (b + 2 * h + 32 * x) &&& (1) = nI b ∧ ((nI (b + 2 * h + 32 * x)) >>> ((1) &&& 31)) &&& (15) = nI h ∧ ((nI (b + 2 * h + 32 * x)) >>> ((5) &&& 31)) &&& (15) = nI x) := by decide +kernel
theorem bN (b : Bool) : b.toNat < 2 := by cases b <;> simp
section
variable {N : Nt} {σ : S3}
theorem X_joined {b h x : Nat} (hb : b < 2) (hh : h < 14) (hx : x < 14) : F_X1_joined (nI b) (nI h) (nI x) σ = some (nI (b + 2 * h + 32 * x), σ) := by
  unfold F_X1_joined
  rw [(jn_ b hb h hh x hx).1]
theorem X_winsAs {v : Bool × Nat} {x : Nat} (hv : v.2 < 14) (hx : x < 14) : F_X1_winsAs (nI (jc v x)) σ = some (b2i v.1, σ) := by
  unfold F_X1_winsAs jc
  rw [(jn_ _ (bN v.1) v.2 hv x hx).2.1]
  cases v.1 <;> rfl
theorem X_lengthAs {v : Bool × Nat} {x : Nat} (hv : v.2 < 14) (hx : x < 14) : F_X1_lengthAs (nI (jc v x)) σ = some (nI v.2, σ) := by
  unfold F_X1_lengthAs jc
  rw [(jn_ _ (bN v.1) v.2 hv x hx).2.2.1]
theorem X_nimAs {v : Bool × Nat} {x : Nat} (hv : v.2 < 14) (hx : x < 14) : F_X1_nimAs (nI (jc v x)) σ = some (nI x, σ) := by
  unfold F_X1_nimAs jc
  rw [(jn_ _ (bN v.1) v.2 hv x hx).2.2.2]
def JB (t : Nat) (F : Nat → Int32) : Prop := ∀ k, k < 8192 → ∃ w, F k = nI w ∧ w < 512 * (t + 1)
def JM (N : Nt) (ru p0 t : Nat) (F : Nat → Int32) : Prop := ∀ p m g, jok N ru p0 p m g → F (jk ru p m g) = nI (512 * t + jcv N ru p (S_ ru m g)) ∨ ∃ w, F (jk ru p m g) = nI w ∧ w < 512 * t
theorem JB_upd {t : Nat} {F : Nat → Int32} (h : JB t F) {k v : Nat} (hv : v < 512) : JB t (upd F k (nI (512 * t + v))) := by
  intro j hj
  by_cases e : j = k
  · subst e; exact ⟨_, upd_s, by omega⟩
  · rw [upd_n e]; exact h j hj
theorem JM_upd (hw : nwf N) {ru p0 t : Nat} {F : Nat → Int32} (h : JM N ru p0 t F) {p m g : Nat} (hj : jok N ru p0 p m g) : JM N ru p0 t (upd F (jk ru p m g) (nI (512 * t + jcv N ru p (S_ ru m g)))) := by
  intro p' m' g' hj'
  by_cases e : jk ru p' m' g' = jk ru p m g
  · obtain ⟨e1, e2⟩ := jk_inj hw hj' hj e
    rw [e, upd_s, e1, e2]
    exact Or.inl rfl
  · rw [upd_n e]; exact h p' m' g' hj'
theorem or9 {t v : Nat} (ht : t < 1048576) (hv : v < 512) : (nI t <<< ((9 : Int32) &&& 31)) ||| nI v = nI (512 * t + v) := by
  have h1 : nI t <<< ((9 : Int32) &&& 31) = nI (512 * t) := by
    rw [show (9 : Int32) &&& 31 = 9 from by decide +kernel]
    have : (nI t <<< (9 : Int32)) = nI (t * 2 ^ 9) := by
      apply Int32.toBitVec_inj.mp
      rw [Int32.toBitVec_shiftLeft]
      apply BitVec.eq_of_toNat_eq
      rw [show ((9 : Int32).toBitVec.smod 32) = 9#32 from by decide +kernel]
      show (BitVec.ofNat 32 t <<< 9#32).toNat = (BitVec.ofNat 32 (t * 2 ^ 9)).toNat
      simp [BitVec.toNat_ofNat, Nat.shiftLeft_eq]
    rw [this, Nat.mul_comm]
  rw [h1, orN]
  congr 1
  have := Nat.two_pow_add_eq_or_of_lt (i := 9) (b := v) hv t
  rw [show (512 : Nat) = 2 ^ 9 from rfl, this]
end
