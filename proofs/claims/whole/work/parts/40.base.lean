/-! PURE: numbers, sets of bits -/
def bt (x : Int32) (i : Nat) : Bool := x.toBitVec.getLsbD i
theorem b_ext {x y : Int32} (h : ∀ i, i < 32 → bt x i = bt y i) : x = y := Int32.toBitVec_inj.mp (BitVec.eq_of_getLsbD_eq (fun i hi => h i hi))
theorem b_or (x y : Int32) (i : Nat) : bt (x ||| y) i = (bt x i || bt y i) := by unfold bt; rw [Int32.toBitVec_or, BitVec.getLsbD_or]
theorem b_and (x y : Int32) (i : Nat) : bt (x &&& y) i = (bt x i && bt y i) := by unfold bt; rw [Int32.toBitVec_and, BitVec.getLsbD_and]
theorem b_xor (x y : Int32) (i : Nat) : bt (x ^^^ y) i = (bt x i ^^ bt y i) := by unfold bt; rw [Int32.toBitVec_xor, BitVec.getLsbD_xor]
theorem b_big {x : Int32} {i : Nat} (h : 32 ≤ i) : bt x i = false := BitVec.getLsbD_of_ge _ _ h
theorem b_m1 : ∀ i, i < 32 → bt (-nI 1) i = true := by decide +kernel
theorem s_l : ∀ n, n < 32 → ((nI n &&& 31).toBitVec.smod 32).toNat = n := by decide +kernel
theorem s_u : ∀ n, n < 32 → (((nI n).toUInt32 &&& Int32.toUInt32 31).toBitVec % 32).toNat = n := by decide +kernel
theorem b_nI (m : Nat) {i : Nat} (hi : i < 32) : bt (nI m) i = m.testBit i := by
  show (BitVec.ofNat 32 m).getLsbD i = _
  rw [BitVec.getLsbD_ofNat]
  simp [hi]
theorem fa_of_nlt {a b : Int32} (h : ¬ a < b) : b ≤ a := by
  rw [Int32.le_iff_toInt_le]
  rw [Int32.lt_iff_toInt_lt] at h
  omega
theorem nmE {α β : Type} (a : α) (f : α → β) : nm a f = f a := Eq.trans rfl rfl
theorem bdE {β : Type} (r : Int32) (σ : S3) (f : Int32 → S3 → Option β) : bd (some (r, σ)) f = f r σ := Eq.trans rfl rfl
theorem ixN {n : Nat} (h : n < 2147483648) : ix (nI n) = n := nI_clamp h
theorem ckN {β : Type} {j n : Nat} {x : Option β} (h : j < n) (hn : n < 2147483648) : ck (nI j) n x = x := by
  unfold ck
  rw [if_neg (nI_in h hn)]
theorem andN (a b : Nat) : nI a &&& nI b = nI (a &&& b) := by
  apply b_ext
  intro i hi
  rw [b_and, b_nI _ hi, b_nI _ hi, b_nI _ hi, Nat.testBit_and]
theorem orN (a b : Nat) : nI a ||| nI b = nI (a ||| b) := by
  apply b_ext
  intro i hi
  rw [b_or, b_nI _ hi, b_nI _ hi, b_nI _ hi, Nat.testBit_or]
theorem xorN (a b : Nat) : nI a ^^^ nI b = nI (a ^^^ b) := by
  apply b_ext
  intro i hi
  rw [b_xor, b_nI _ hi, b_nI _ hi, b_nI _ hi, Nat.testBit_xor]
def b2i (b : Bool) : Int32 := nI b.toNat
theorem b2i_0 {b : Bool} : (b2i b = nI 0) = (b = false) := by cases b <;> simp [b2i, nI]
theorem b2i_1 {b : Bool} : (b2i b = nI 1) = (b = true) := by cases b <;> simp [b2i, nI]
theorem li0 : (0 : Int32) = nI 0 := Eq.trans rfl rfl
theorem li1 : (1 : Int32) = nI 1 := Eq.trans rfl rfl
theorem li2 : (2 : Int32) = nI 2 := Eq.trans rfl rfl
theorem li3 : (3 : Int32) = nI 3 := Eq.trans rfl rfl
theorem li4 : (4 : Int32) = nI 4 := Eq.trans rfl rfl
theorem li5 : (5 : Int32) = nI 5 := Eq.trans rfl rfl
theorem li6 : (6 : Int32) = nI 6 := Eq.trans rfl rfl
theorem li7 : (7 : Int32) = nI 7 := Eq.trans rfl rfl
theorem li8 : (8 : Int32) = nI 8 := Eq.trans rfl rfl
theorem li9 : (9 : Int32) = nI 9 := Eq.trans rfl rfl
theorem li10 : (10 : Int32) = nI 10 := Eq.trans rfl rfl
theorem li12 : (12 : Int32) = nI 12 := Eq.trans rfl rfl
theorem li13 : (13 : Int32) = nI 13 := Eq.trans rfl rfl
theorem li15 : (15 : Int32) = nI 15 := Eq.trans rfl rfl
theorem li16 : (16 : Int32) = nI 16 := Eq.trans rfl rfl
theorem li20 : (20 : Int32) = nI 20 := Eq.trans rfl rfl
theorem li24 : (24 : Int32) = nI 24 := Eq.trans rfl rfl
theorem li32 : (32 : Int32) = nI 32 := Eq.trans rfl rfl
theorem li60 : (60 : Int32) = nI 60 := Eq.trans rfl rfl
theorem li63 : (63 : Int32) = nI 63 := Eq.trans rfl rfl
theorem li255 : (255 : Int32) = nI 255 := Eq.trans rfl rfl
theorem li300 : (300 : Int32) = nI 300 := Eq.trans rfl rfl
theorem li511 : (511 : Int32) = nI 511 := Eq.trans rfl rfl
theorem li1000 : (1000 : Int32) = nI 1000 := Eq.trans rfl rfl
theorem li1023 : (1023 : Int32) = nI 1023 := Eq.trans rfl rfl
theorem li4095 : (4095 : Int32) = nI 4095 := Eq.trans rfl rfl
theorem li8191 : (8191 : Int32) = nI 8191 := Eq.trans rfl rfl
theorem eqN {a b : Nat} (ha : a < 2147483648) (hb : b < 2147483648) : (nI a = nI b) = (a = b) := propext (nI_eq ha hb)
theorem leN {a b : Nat} (ha : a < 2147483648) (hb : b < 2147483648) : (nI a ≤ nI b) = (a ≤ b) := propext (nI_leI ha hb)
theorem ltN {a b : Nat} (ha : a < 2147483648) (hb : b < 2147483648) : (nI a < nI b) = (a < b) := propext (nI_ltI ha hb)
theorem subN {a b : Nat} (h : b ≤ a) : nI a - nI b = nI (a - b) := pk_sub h
theorem mulN (a b : Nat) : nI a * nI b = nI (a * b) := pk_mul a b
/-- a set without another one -/
def dif (a b : Nat) : Nat := a ^^^ (a &&& b)
theorem dif_tb (a b i : Nat) : (dif a b).testBit i = (a.testBit i && !b.testBit i) := by
  unfold dif
  rw [Nat.testBit_xor, Nat.testBit_and]
  cases a.testBit i <;> cases b.testBit i <;> rfl
theorem difN (a b : Nat) : nI a &&& (nI b ^^^ -nI 1) = nI (dif a b) := by
  apply b_ext
  intro i hi
  rw [b_and, b_xor, b_nI _ hi, b_nI _ hi, b_m1 i hi, b_nI _ hi, dif_tb]
  cases a.testBit i <;> cases b.testBit i <;> rfl
theorem dif_le (a b : Nat) : dif a b ≤ a := by
  apply Nat.le_of_testBit
  intro i h
  rw [dif_tb] at h
  simp at h
  exact h.1
theorem shl1_ : ∀ l, l < 32 → nI 1 <<< (nI l &&& 31) = nI (2 ^ l) := by decide +kernel
theorem shl1 {l : Nat} (h : l < 32) : nI 1 <<< (nI l &&& 31) = nI (2 ^ l) := shl1_ l h
theorem shrN {m l : Nat} (hm : m < 2147483648) (hl : l < 32) : nI m >>> (nI l &&& 31) = nI (m / 2 ^ l) := pk_shrN hm _ l (s_l l hl)
theorem ushrN {m l : Nat} (hm : m < 4294967296) (hl : l < 32) : ((nI m).toUInt32 >>> ((nI l).toUInt32 &&& Int32.toUInt32 31)).toInt32 = nI (m / 2 ^ l) := pk_ushrN hm _ l (s_u l hl)
theorem bitN (x : Nat) : nI x &&& nI 1 = nI (x % 2) := by
  have h := andN x 1
  rw [Nat.and_one_is_mod] at h
  exact h
theorem tb_div (m l : Nat) : m / 2 ^ l % 2 = if m.testBit l then 1 else 0 := by
  rw [Nat.testBit_eq_decide_div_mod_eq]
  have := Nat.mod_two_eq_zero_or_one (m / 2 ^ l)
  rcases this with h | h <;> simp [h]
theorem hasN {m l : Nat} (hm : m < 2147483648) (hl : l < 32) : (nI m >>> (nI l &&& 31)) &&& nI 1 = b2i (m.testBit l) := by
  rw [shrN hm hl, bitN, tb_div]
  cases m.testBit l <;> rfl
/-- the set of those below m that P tells -/
def bset : Nat → (Nat → Bool) → Nat
  | 0, _ => 0
  | m + 1, P => bset m P ||| (if P m then 2 ^ m else 0)
theorem bset_tb (P : Nat → Bool) : ∀ (m i : Nat), (bset m P).testBit i = (decide (i < m) && P i)
  | 0, i => by simp [bset]
  | m + 1, i => by
    rw [bset, Nat.testBit_or, bset_tb P m i]
    by_cases h : i = m
    · subst h
      cases hp : P i <;> simp [Nat.testBit_two_pow_self]
    · have h2 : ∀ b : Bool, (if b then 2 ^ m else 0).testBit i = false := by
        intro b
        cases b
        · simp
        · simp [Nat.testBit_two_pow, Ne.symm h]
      rw [h2]
      by_cases h3 : i < m
      · simp [h3, Nat.lt_succ_of_lt h3]
      · have h4 : ¬ i < m + 1 := by omega
        simp [h3, h4]
theorem bset_lt (P : Nat → Bool) (m : Nat) : bset m P < 2 ^ m := by
  apply Nat.lt_pow_two_of_testBit
  intro i hi
  rw [bset_tb]
  simp
  omega
theorem bset_cong {P Q : Nat → Bool} {m : Nat} (h : ∀ i, i < m → P i = Q i) : bset m P = bset m Q := by
  apply Nat.eq_of_testBit_eq
  intro i
  rw [bset_tb, bset_tb]
  by_cases hi : i < m
  · rw [h i hi]
  · simp [hi]
theorem set_ext {a b m : Nat} (ha : a < 2 ^ m) (hb : b < 2 ^ m) (h : ∀ i, i < m → a.testBit i = b.testBit i) : a = b := by
  apply Nat.eq_of_testBit_eq
  intro i
  by_cases hi : i < m
  · exact h i hi
  · rw [Nat.testBit_lt_two_pow (Nat.lt_of_lt_of_le ha (Nat.pow_le_pow_right (by omega) (by omega))), Nat.testBit_lt_two_pow (Nat.lt_of_lt_of_le hb (Nat.pow_le_pow_right (by omega) (by omega)))]
theorem bset_of {a m : Nat} (ha : a < 2 ^ m) : bset m (fun i => a.testBit i) = a := by
  apply set_ext (bset_lt _ _) ha
  intro i hi
  rw [bset_tb]
  simp [hi]
theorem or_lt {a b m : Nat} (ha : a < 2 ^ m) (hb : b < 2 ^ m) : a ||| b < 2 ^ m := Nat.or_lt_two_pow ha hb
theorem p2_lt {l m : Nat} (h : l < m) : 2 ^ l < 2 ^ m := Nat.pow_lt_pow_right (by omega) h
theorem pow31 {a m : Nat} (ha : a < 2 ^ m) (hm : m ≤ 31) : a < 2147483648 := Nat.lt_of_lt_of_le ha (Nat.pow_le_pow_right (n := 2) (by omega) hm)
theorem zFe : zF = 100000 := rfl
/-! states -/
theorem up_c {σ : S3} {c f j c' : Nat} {v : Int32} (h : c' ≠ c) : up σ c f j v c' = σ c' := by unfold up upA; rw [if_neg h]
theorem up_f {σ : S3} {c f j f' : Nat} {v : Int32} (h : f' ≠ f) : up σ c f j v c f' = σ c f' := by unfold up upA; rw [if_pos rfl, if_neg h]
theorem up_s {σ : S3} {c f j : Nat} {v : Int32} : up σ c f j v c f = upd (σ c f) j v := by unfold up upA; rw [if_pos rfl, if_pos rfl]
theorem upA_c {σ : S3} {c f c' : Nat} {g : Nat → Int32} (h : c' ≠ c) : upA σ c f g c' = σ c' := by unfold upA; rw [if_neg h]
theorem upA_f {σ : S3} {c f f' : Nat} {g : Nat → Int32} (h : f' ≠ f) : upA σ c f g c f' = σ c f' := by unfold upA; rw [if_pos rfl, if_neg h]
theorem upA_s {σ : S3} {c f : Nat} {g : Nat → Int32} : upA σ c f g c f = g := by unfold upA; rw [if_pos rfl, if_pos rfl]
theorem upA_twice (σ : S3) (c f : Nat) (g g' : Nat → Int32) : upA (upA σ c f g) c f g' = upA σ c f g' := by
  funext a b
  unfold upA
  by_cases h1 : a = c
  · subst h1
    simp only [if_pos]
    by_cases h2 : b = f
    · simp [h2]
    · simp [h2]
  · simp [h1]
theorem upd_s {f : Nat → Int32} {k : Nat} {x : Int32} : upd f k x k = x := by simp [upd]
theorem upd_n {f : Nat → Int32} {k j : Nat} {x : Int32} (h : j ≠ k) : upd f k x j = f j := by simp [upd, h]
