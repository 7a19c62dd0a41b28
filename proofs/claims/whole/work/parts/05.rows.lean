/-! THE PURE SIDE'S WORDS: a state is what the int fields and int rows of the objects hold: component, field, place -/
abbrev S3 : Type := Nat → Nat → Nat → Int32
def upA (σ : S3) (c f : Nat) (g : Nat → Int32) : S3 := fun a => if a = c then (fun b => if b = f then g else σ c b) else σ a
def up (σ : S3) (c f j : Nat) (v : Int32) : S3 := upA σ c f (upd (σ c f) j v)
abbrev ix (i : Int32) : Nat := i.toNatClampNeg
def nm {α β : Type} (a : α) (f : α → β) : β := f a
def bd {β : Type} (x : Option (Int32 × S3)) (f : Int32 → S3 → Option β) : Option β := match x with
  | none => none
  | some q => f q.1 q.2
def ck {β : Type} (i : Int32) (n : Nat) (x : Option β) : Option β := if i < 0 ∨ n ≤ i.toNatClampNeg then none else x
def ckz {β : Type} (y : Int32) (x : Option β) : Option β := if y = 0 then none else x
def ckb {β : Type} (v : Int32) (x : Option β) : Option β := if v = 0 ∨ v = 1 then x else none
def ckc {β : Type} (sp dp n : Int32) (n0 n1 : Nat) (x : Option β) : Option β := if ¬ sp < 0 ∧ ¬ dp < 0 ∧ ¬ n < 0 ∧ ix sp + ix n ≤ n0 ∧ ix dp + ix n ≤ n1 then x else none
theorem bd_inv {β : Type} {x : Option (Int32 × S3)} {f : Int32 → S3 → Option β} {ρ : β} (h : bd x f = some ρ) : ∃ r σ, x = some (r, σ) ∧ f r σ = some ρ := by
  cases x with
  | none => cases h
  | some q => exact ⟨q.1, q.2, rfl, h⟩
theorem bd_some {β : Type} (r : Int32) (σ : S3) (f : Int32 → S3 → Option β) : bd (some (r, σ)) f = f r σ := rfl
theorem ck_inv {β : Type} {i : Int32} {n : Nat} {x : Option β} {ρ : β} (h : ck i n x = some ρ) : vp_in i n ∧ x = some ρ := by
  unfold ck at h
  split at h
  · cases h
  · exact ⟨by assumption, h⟩
theorem ckz_inv {β : Type} {y : Int32} {x : Option β} {ρ : β} (h : ckz y x = some ρ) : ¬ y = 0 ∧ x = some ρ := by
  unfold ckz at h
  split at h
  · cases h
  · exact ⟨by assumption, h⟩
theorem ckb_inv {β : Type} {y : Int32} {x : Option β} {ρ : β} (h : ckb y x = some ρ) : (y = 0 ∨ y = 1) ∧ x = some ρ := by
  unfold ckb at h
  split at h
  · exact ⟨by assumption, h⟩
  · cases h
theorem ckc_inv {β : Type} {sp dp n : Int32} {n0 n1 : Nat} {x : Option β} {ρ : β} (h : ckc sp dp n n0 n1 x = some ρ) : (¬ sp < 0 ∧ ¬ dp < 0 ∧ ¬ n < 0 ∧ ix sp + ix n ≤ n0 ∧ ix dp + ix n ≤ n1) ∧ x = some ρ := by
  unfold ckc at h
  split at h
  · exact ⟨by assumption, h⟩
  · cases h
/-- how often a loop may turn: more than any does -/
def zF : Nat := 100000
def zl0 {β : Type} (b : (S3 → Option β) → S3 → Option β) : Nat → S3 → Option β
  | 0, _ => none
  | n + 1, σ => b (zl0 b n)  σ
theorem zl0_0 {β : Type} (b : (S3 → Option β) → S3 → Option β)  : zl0 b 0 = fun _ => none := by funext  σ; rfl
theorem zl0_s {β : Type} (b : (S3 → Option β) → S3 → Option β) (n : Nat) : zl0 b (n + 1) = b (zl0 b n) := by funext  σ; rfl
def zl1 {A1 β : Type} (b : (A1 → S3 → Option β) → A1 → S3 → Option β) : Nat → A1 → S3 → Option β
  | 0, _, _ => none
  | n + 1, a1, σ => b (zl1 b n) a1 σ
theorem zl1_0 {A1 β : Type} (b : (A1 → S3 → Option β) → A1 → S3 → Option β)  : zl1 b 0 = fun _ _ => none := by funext a1 σ; rfl
theorem zl1_s {A1 β : Type} (b : (A1 → S3 → Option β) → A1 → S3 → Option β) (n : Nat) : zl1 b (n + 1) = b (zl1 b n) := by funext a1 σ; rfl
def zl2 {A1 A2 β : Type} (b : (A1 → A2 → S3 → Option β) → A1 → A2 → S3 → Option β) : Nat → A1 → A2 → S3 → Option β
  | 0, _, _, _ => none
  | n + 1, a1, a2, σ => b (zl2 b n) a1 a2 σ
theorem zl2_0 {A1 A2 β : Type} (b : (A1 → A2 → S3 → Option β) → A1 → A2 → S3 → Option β)  : zl2 b 0 = fun _ _ _ => none := by funext a1 a2 σ; rfl
theorem zl2_s {A1 A2 β : Type} (b : (A1 → A2 → S3 → Option β) → A1 → A2 → S3 → Option β) (n : Nat) : zl2 b (n + 1) = b (zl2 b n) := by funext a1 a2 σ; rfl
def zl3 {A1 A2 A3 β : Type} (b : (A1 → A2 → A3 → S3 → Option β) → A1 → A2 → A3 → S3 → Option β) : Nat → A1 → A2 → A3 → S3 → Option β
  | 0, _, _, _, _ => none
  | n + 1, a1, a2, a3, σ => b (zl3 b n) a1 a2 a3 σ
theorem zl3_0 {A1 A2 A3 β : Type} (b : (A1 → A2 → A3 → S3 → Option β) → A1 → A2 → A3 → S3 → Option β)  : zl3 b 0 = fun _ _ _ _ => none := by funext a1 a2 a3 σ; rfl
theorem zl3_s {A1 A2 A3 β : Type} (b : (A1 → A2 → A3 → S3 → Option β) → A1 → A2 → A3 → S3 → Option β) (n : Nat) : zl3 b (n + 1) = b (zl3 b n) := by funext a1 a2 a3 σ; rfl
def zl4 {A1 A2 A3 A4 β : Type} (b : (A1 → A2 → A3 → A4 → S3 → Option β) → A1 → A2 → A3 → A4 → S3 → Option β) : Nat → A1 → A2 → A3 → A4 → S3 → Option β
  | 0, _, _, _, _, _ => none
  | n + 1, a1, a2, a3, a4, σ => b (zl4 b n) a1 a2 a3 a4 σ
theorem zl4_0 {A1 A2 A3 A4 β : Type} (b : (A1 → A2 → A3 → A4 → S3 → Option β) → A1 → A2 → A3 → A4 → S3 → Option β)  : zl4 b 0 = fun _ _ _ _ _ => none := by funext a1 a2 a3 a4 σ; rfl
theorem zl4_s {A1 A2 A3 A4 β : Type} (b : (A1 → A2 → A3 → A4 → S3 → Option β) → A1 → A2 → A3 → A4 → S3 → Option β) (n : Nat) : zl4 b (n + 1) = b (zl4 b n) := by funext a1 a2 a3 a4 σ; rfl
def zl5 {A1 A2 A3 A4 A5 β : Type} (b : (A1 → A2 → A3 → A4 → A5 → S3 → Option β) → A1 → A2 → A3 → A4 → A5 → S3 → Option β) : Nat → A1 → A2 → A3 → A4 → A5 → S3 → Option β
  | 0, _, _, _, _, _, _ => none
  | n + 1, a1, a2, a3, a4, a5, σ => b (zl5 b n) a1 a2 a3 a4 a5 σ
theorem zl5_0 {A1 A2 A3 A4 A5 β : Type} (b : (A1 → A2 → A3 → A4 → A5 → S3 → Option β) → A1 → A2 → A3 → A4 → A5 → S3 → Option β)  : zl5 b 0 = fun _ _ _ _ _ _ => none := by funext a1 a2 a3 a4 a5 σ; rfl
theorem zl5_s {A1 A2 A3 A4 A5 β : Type} (b : (A1 → A2 → A3 → A4 → A5 → S3 → Option β) → A1 → A2 → A3 → A4 → A5 → S3 → Option β) (n : Nat) : zl5 b (n + 1) = b (zl5 b n) := by funext a1 a2 a3 a4 a5 σ; rfl
def zl6 {A1 A2 A3 A4 A5 A6 β : Type} (b : (A1 → A2 → A3 → A4 → A5 → A6 → S3 → Option β) → A1 → A2 → A3 → A4 → A5 → A6 → S3 → Option β) : Nat → A1 → A2 → A3 → A4 → A5 → A6 → S3 → Option β
  | 0, _, _, _, _, _, _, _ => none
  | n + 1, a1, a2, a3, a4, a5, a6, σ => b (zl6 b n) a1 a2 a3 a4 a5 a6 σ
theorem zl6_0 {A1 A2 A3 A4 A5 A6 β : Type} (b : (A1 → A2 → A3 → A4 → A5 → A6 → S3 → Option β) → A1 → A2 → A3 → A4 → A5 → A6 → S3 → Option β)  : zl6 b 0 = fun _ _ _ _ _ _ _ => none := by funext a1 a2 a3 a4 a5 a6 σ; rfl
theorem zl6_s {A1 A2 A3 A4 A5 A6 β : Type} (b : (A1 → A2 → A3 → A4 → A5 → A6 → S3 → Option β) → A1 → A2 → A3 → A4 → A5 → A6 → S3 → Option β) (n : Nat) : zl6 b (n + 1) = b (zl6 b n) := by funext a1 a2 a3 a4 a5 a6 σ; rfl
def zl7 {A1 A2 A3 A4 A5 A6 A7 β : Type} (b : (A1 → A2 → A3 → A4 → A5 → A6 → A7 → S3 → Option β) → A1 → A2 → A3 → A4 → A5 → A6 → A7 → S3 → Option β) : Nat → A1 → A2 → A3 → A4 → A5 → A6 → A7 → S3 → Option β
  | 0, _, _, _, _, _, _, _, _ => none
  | n + 1, a1, a2, a3, a4, a5, a6, a7, σ => b (zl7 b n) a1 a2 a3 a4 a5 a6 a7 σ
theorem zl7_0 {A1 A2 A3 A4 A5 A6 A7 β : Type} (b : (A1 → A2 → A3 → A4 → A5 → A6 → A7 → S3 → Option β) → A1 → A2 → A3 → A4 → A5 → A6 → A7 → S3 → Option β)  : zl7 b 0 = fun _ _ _ _ _ _ _ _ => none := by funext a1 a2 a3 a4 a5 a6 a7 σ; rfl
theorem zl7_s {A1 A2 A3 A4 A5 A6 A7 β : Type} (b : (A1 → A2 → A3 → A4 → A5 → A6 → A7 → S3 → Option β) → A1 → A2 → A3 → A4 → A5 → A6 → A7 → S3 → Option β) (n : Nat) : zl7 b (n + 1) = b (zl7 b n) := by funext a1 a2 a3 a4 a5 a6 a7 σ; rfl
def zl8 {A1 A2 A3 A4 A5 A6 A7 A8 β : Type} (b : (A1 → A2 → A3 → A4 → A5 → A6 → A7 → A8 → S3 → Option β) → A1 → A2 → A3 → A4 → A5 → A6 → A7 → A8 → S3 → Option β) : Nat → A1 → A2 → A3 → A4 → A5 → A6 → A7 → A8 → S3 → Option β
  | 0, _, _, _, _, _, _, _, _, _ => none
  | n + 1, a1, a2, a3, a4, a5, a6, a7, a8, σ => b (zl8 b n) a1 a2 a3 a4 a5 a6 a7 a8 σ
theorem zl8_0 {A1 A2 A3 A4 A5 A6 A7 A8 β : Type} (b : (A1 → A2 → A3 → A4 → A5 → A6 → A7 → A8 → S3 → Option β) → A1 → A2 → A3 → A4 → A5 → A6 → A7 → A8 → S3 → Option β)  : zl8 b 0 = fun _ _ _ _ _ _ _ _ _ => none := by funext a1 a2 a3 a4 a5 a6 a7 a8 σ; rfl
theorem zl8_s {A1 A2 A3 A4 A5 A6 A7 A8 β : Type} (b : (A1 → A2 → A3 → A4 → A5 → A6 → A7 → A8 → S3 → Option β) → A1 → A2 → A3 → A4 → A5 → A6 → A7 → A8 → S3 → Option β) (n : Nat) : zl8 b (n + 1) = b (zl8 b n) := by funext a1 a2 a3 a4 a5 a6 a7 a8 σ; rfl
def zl9 {A1 A2 A3 A4 A5 A6 A7 A8 A9 β : Type} (b : (A1 → A2 → A3 → A4 → A5 → A6 → A7 → A8 → A9 → S3 → Option β) → A1 → A2 → A3 → A4 → A5 → A6 → A7 → A8 → A9 → S3 → Option β) : Nat → A1 → A2 → A3 → A4 → A5 → A6 → A7 → A8 → A9 → S3 → Option β
  | 0, _, _, _, _, _, _, _, _, _, _ => none
  | n + 1, a1, a2, a3, a4, a5, a6, a7, a8, a9, σ => b (zl9 b n) a1 a2 a3 a4 a5 a6 a7 a8 a9 σ
theorem zl9_0 {A1 A2 A3 A4 A5 A6 A7 A8 A9 β : Type} (b : (A1 → A2 → A3 → A4 → A5 → A6 → A7 → A8 → A9 → S3 → Option β) → A1 → A2 → A3 → A4 → A5 → A6 → A7 → A8 → A9 → S3 → Option β)  : zl9 b 0 = fun _ _ _ _ _ _ _ _ _ _ => none := by funext a1 a2 a3 a4 a5 a6 a7 a8 a9 σ; rfl
theorem zl9_s {A1 A2 A3 A4 A5 A6 A7 A8 A9 β : Type} (b : (A1 → A2 → A3 → A4 → A5 → A6 → A7 → A8 → A9 → S3 → Option β) → A1 → A2 → A3 → A4 → A5 → A6 → A7 → A8 → A9 → S3 → Option β) (n : Nat) : zl9 b (n + 1) = b (zl9 b n) := by funext a1 a2 a3 a4 a5 a6 a7 a8 a9 σ; rfl
def zl10 {A1 A2 A3 A4 A5 A6 A7 A8 A9 A10 β : Type} (b : (A1 → A2 → A3 → A4 → A5 → A6 → A7 → A8 → A9 → A10 → S3 → Option β) → A1 → A2 → A3 → A4 → A5 → A6 → A7 → A8 → A9 → A10 → S3 → Option β) : Nat → A1 → A2 → A3 → A4 → A5 → A6 → A7 → A8 → A9 → A10 → S3 → Option β
  | 0, _, _, _, _, _, _, _, _, _, _, _ => none
  | n + 1, a1, a2, a3, a4, a5, a6, a7, a8, a9, a10, σ => b (zl10 b n) a1 a2 a3 a4 a5 a6 a7 a8 a9 a10 σ
theorem zl10_0 {A1 A2 A3 A4 A5 A6 A7 A8 A9 A10 β : Type} (b : (A1 → A2 → A3 → A4 → A5 → A6 → A7 → A8 → A9 → A10 → S3 → Option β) → A1 → A2 → A3 → A4 → A5 → A6 → A7 → A8 → A9 → A10 → S3 → Option β)  : zl10 b 0 = fun _ _ _ _ _ _ _ _ _ _ _ => none := by funext a1 a2 a3 a4 a5 a6 a7 a8 a9 a10 σ; rfl
theorem zl10_s {A1 A2 A3 A4 A5 A6 A7 A8 A9 A10 β : Type} (b : (A1 → A2 → A3 → A4 → A5 → A6 → A7 → A8 → A9 → A10 → S3 → Option β) → A1 → A2 → A3 → A4 → A5 → A6 → A7 → A8 → A9 → A10 → S3 → Option β) (n : Nat) : zl10 b (n + 1) = b (zl10 b n) := by funext a1 a2 a3 a4 a5 a6 a7 a8 a9 a10 σ; rfl
abbrev R3 : Type := Option (Int32 × S3)
theorem tab_ne {x v : Int32} (h : ¬ x = v) : x.toInt ≠ v.toInt := fun t => h (Int32.toInt_inj.mp t)
def fillA (σ : S3) (c f n : Nat) (v : Int32) : S3 := upA σ c f (fun j => if j < n then v else σ c f j)
def cpyA (σ : S3) (c2 f2 c f : Nat) (sp dp n : Int32) : S3 := upA σ c f (va_cpy (σ c2 f2) (σ c f) (ix sp) (ix dp) (ix n))
/-! THE MACHINE'S SIDE: a frame of a run, in one word -/
def zt : List Cond := lw_tbl.filter goodWord
theorem zt_in {w : Cond} (h : w ∈ lw_tbl) (g : goodWord w = true) : w ∈ zt := List.mem_filter.mpr ⟨h, g⟩
theorem zt_at {w : Cond} (i : Nat) (h : lw_tbl[i]? = some w ∧ goodWord w = true) : w ∈ zt := zt_in (List.mem_of_getElem? h.1) h.2
abbrev zV : Type := (Nat × Nat × Nat) × (Nat → Nat) × (Nat → Nat → Nat)
def zty (ε : zV) : List (ClassId × FieldType) := [(ε.1.1, .int), (ε.1.2.1, .boolean), (ε.1.2.2, .object "MarkerWalks$Sheet")]
abbrev zW : Type := Launch × va_G × (Nat → Prop) × zV
abbrev zT : Type := zW × Program × Env × Room × State × MethodId × Array Value × List Frame × Method × Code × (State → Prop)
abbrev ze (ζ : zW) : zV := ζ.2.2.2
abbrev zo (ζ : zW) (c : Nat) : Nat := ζ.2.2.2.2.1 c
abbrev za (ζ : zW) (c f : Nat) : Nat := ζ.2.2.2.2.2 c f
def Z (κ : zT) (nL : Nat) (ws : va_W) (lv : List (Nat × Value)) (pc : Nat) (st : List Value) : Prop := match κ with
  | ((l, D, A, ε), p, e, R, s, m, args, below, meth, c, Q) => ∀ (H : Heap) (locs : List Loc) (ls : Array Slot), va_P D vwCl ws H → va_S A s.heap H locs → lv_has ls nL lv → W p l e R s m args below meth c H locs 0 0 Q (F0 m pc ls st)
def zC0 (κ : zT) (own : String) (cc : ByteArray) (nL d : Nat) : Prop := match κ with
  | ((l, D, A, ε), p, e, R, s, m, args, below, meth, c, Q) => p.tables.exec = Jvm.exec ∧ c.code = cc ∧ c.maxLocals = nL ∧ s.vm.findClass own = some m.cls ∧ (∀ w ∈ zt, w.before args s = true) ∧ d ≤ R.frames ∧ 40 * d ≤ R.locals ∧ va_K D vwCl (zty ε) s ∧ meth.locks = false
def zQc (ζ : zW) (wd : zV → S3 → va_W) (rv : Option Value) (σ' : S3) : Array Value → State → Outcome → State → Prop := fun _ st o t => o = .returned rv ∧ va_P ζ.2.1 vwCl (wd (ze ζ) σ') t.heap ∧ va_F ζ.2.2.1 st t
def zDis (ζ : zW) (wd : zV → S3 → va_W) : Prop := ∀ σ : S3, va_D ζ.2.2.1 (wd (ze ζ) σ)
def zC (κ : zT) (wd : zV → S3 → va_W) (own : String) (cc : ByteArray) (nL : Nat) (ret : Option FieldType) (d : Nat) (rv : Option Value) (σ' : S3) : Prop := zC0 κ own cc nL d ∧ zDis κ.1 wd ∧ match κ with
  | (ζ, p, e, R, s, m, args, below, meth, c, Q) => meth.sig.returnType = ret ∧ Q = MQ below (zQc ζ wd rv σ') args s 0 0 ζ.2.2.1
def zws (y : MethodName) (cc : ByteArray) (nL : Nat) (ret : Option FieldType) : List Cond := .code y cc nL ret :: zt
def zMet (ζ : zW) (wd : zV → S3 → va_W) (d : Nat) (y : MethodName) (cc : ByteArray) (nL : Nat) (ret : Option FieldType) (av : List Value) (σ : S3) (rv : Option Value) (σ' : S3) : Prop :=
  Met ζ.1 y (zws y cc nL ret) { frames := d, cells := 0, slots := 0, locals := 40 * d } (va_Pc av (fun U => va_P ζ.2.1 vwCl (wd (ze ζ) σ) U.heap ∧ va_K ζ.2.1 vwCl (zty (ze ζ)) U)) (zQc ζ wd rv σ') 0 0 ζ.2.2.1
theorem zgoodIn {ws : List Cond} (h : ∀ w ∈ ws, w ∈ zt) : GoodIn zt ws := fun w hw => ⟨h w hw, good_of_word (List.mem_filter.mp (h w hw)).2⟩
theorem zgV {own : String} {idx : Nat} {C : String} {y : MethodName} {cc : ByteArray} {nL : Nat} {ret : Option FieldType} (h1 : Cond.methodLink own idx y ∈ zt) (h2 : Cond.instanceMethod y ∈ zt) (h3 : Cond.selects C y y ∈ zt) (h4 : Cond.initialized C ∈ zt) (h5 : Cond.code y cc nL ret ∈ zt) : GoodIn zt (wsV own idx C y (zws y cc nL ret)) := by
  refine zgoodIn (fun w hw => ?_)
  unfold wsV zws at hw
  simp only [List.cons_append, List.nil_append, List.mem_cons] at hw
  rcases hw with rfl | rfl | rfl | rfl | rfl | hw
  · exact h1
  · exact h2
  · exact h3
  · exact h4
  · exact h5
  · exact hw
theorem zgS {own : String} {idx : Nat} {y : MethodName} {cc : ByteArray} {nL : Nat} {ret : Option FieldType} (h1 : Cond.methodLink own idx y ∈ zt) (h2 : Cond.static y ∈ zt) (h4 : Cond.initialized y.cls ∈ zt) (h5 : Cond.code y cc nL ret ∈ zt) : GoodIn zt (va_wsS own idx y (zws y cc nL ret)) := by
  refine zgoodIn (fun w hw => ?_)
  unfold va_wsS zws at hw
  simp only [List.cons_append, List.nil_append, List.mem_cons] at hw
  rcases hw with rfl | rfl | rfl | rfl | hw
  · exact h1
  · exact h2
  · exact h4
  · exact h5
  · exact hw
section ZROWS
variable {κ : zT} {own : String} {cc : ByteArray} {nL d : Nat} {ws : va_W} {lv : List (Nat × Value)} {pc : Nat} {st : List Value}
theorem z_sub {lv' : List (Nat × Value)} (ks : List Nat) (hl : lv_pick lv ks = lv') (k : Z κ nL ws lv' pc st) : Z κ nL ws lv pc st := by
  obtain ⟨⟨l, D, A, ε⟩, p, e, R, s, m, args, below, meth, c, Q⟩ := κ
  exact fun H locs ls hP hS hl0 => k H locs ls hP hS (lv_sub hl0 ks hl)
theorem z_iadd {x y : Int32} (X : zC0 κ own cc nL d) (hdg : decode cc pc = .ok (.iadd, 1)) (k : Z κ nL ws lv (pc + 1) (.int (x + y) :: st)) : Z κ nL ws lv pc (.int y :: .int x :: st) := by
  obtain ⟨⟨l, D, A, ε⟩, p, e, R, s, m, args, below, meth, c, Q⟩ := κ
  obtain ⟨hx, hb, hml, hown, hts, hfr, hlo, hK, hlk⟩ := X
  exact fun H locs ls hP hS hl => lv_iadd hx hb hdg (k H locs ls hP hS hl)
theorem z_isub {x y : Int32} (X : zC0 κ own cc nL d) (hdg : decode cc pc = .ok (.isub, 1)) (k : Z κ nL ws lv (pc + 1) (.int (x - y) :: st)) : Z κ nL ws lv pc (.int y :: .int x :: st) := by
  obtain ⟨⟨l, D, A, ε⟩, p, e, R, s, m, args, below, meth, c, Q⟩ := κ
  obtain ⟨hx, hb, hml, hown, hts, hfr, hlo, hK, hlk⟩ := X
  exact fun H locs ls hP hS hl => lv_isub hx hb hdg (k H locs ls hP hS hl)
theorem z_imul {x y : Int32} (X : zC0 κ own cc nL d) (hdg : decode cc pc = .ok (.imul, 1)) (k : Z κ nL ws lv (pc + 1) (.int (x * y) :: st)) : Z κ nL ws lv pc (.int y :: .int x :: st) := by
  obtain ⟨⟨l, D, A, ε⟩, p, e, R, s, m, args, below, meth, c, Q⟩ := κ
  obtain ⟨hx, hb, hml, hown, hts, hfr, hlo, hK, hlk⟩ := X
  exact fun H locs ls hP hS hl => lv_imul hx hb hdg (k H locs ls hP hS hl)
theorem z_iand {x y : Int32} (X : zC0 κ own cc nL d) (hdg : decode cc pc = .ok (.iand, 1)) (k : Z κ nL ws lv (pc + 1) (.int (x &&& y) :: st)) : Z κ nL ws lv pc (.int y :: .int x :: st) := by
  obtain ⟨⟨l, D, A, ε⟩, p, e, R, s, m, args, below, meth, c, Q⟩ := κ
  obtain ⟨hx, hb, hml, hown, hts, hfr, hlo, hK, hlk⟩ := X
  exact fun H locs ls hP hS hl => lv_iand hx hb hdg (k H locs ls hP hS hl)
theorem z_ior {x y : Int32} (X : zC0 κ own cc nL d) (hdg : decode cc pc = .ok (.ior, 1)) (k : Z κ nL ws lv (pc + 1) (.int (x ||| y) :: st)) : Z κ nL ws lv pc (.int y :: .int x :: st) := by
  obtain ⟨⟨l, D, A, ε⟩, p, e, R, s, m, args, below, meth, c, Q⟩ := κ
  obtain ⟨hx, hb, hml, hown, hts, hfr, hlo, hK, hlk⟩ := X
  exact fun H locs ls hP hS hl => lv_ior hx hb hdg (k H locs ls hP hS hl)
theorem z_ixor {x y : Int32} (X : zC0 κ own cc nL d) (hdg : decode cc pc = .ok (.ixor, 1)) (k : Z κ nL ws lv (pc + 1) (.int (x ^^^ y) :: st)) : Z κ nL ws lv pc (.int y :: .int x :: st) := by
  obtain ⟨⟨l, D, A, ε⟩, p, e, R, s, m, args, below, meth, c, Q⟩ := κ
  obtain ⟨hx, hb, hml, hown, hts, hfr, hlo, hK, hlk⟩ := X
  exact fun H locs ls hP hS hl => lv_ixor hx hb hdg (k H locs ls hP hS hl)
theorem z_ishl {x y : Int32} (X : zC0 κ own cc nL d) (hdg : decode cc pc = .ok (.ishl, 1)) (k : Z κ nL ws lv (pc + 1) (.int (x <<< (y &&& 31)) :: st)) : Z κ nL ws lv pc (.int y :: .int x :: st) := by
  obtain ⟨⟨l, D, A, ε⟩, p, e, R, s, m, args, below, meth, c, Q⟩ := κ
  obtain ⟨hx, hb, hml, hown, hts, hfr, hlo, hK, hlk⟩ := X
  exact fun H locs ls hP hS hl => lv_ishl hx hb hdg (k H locs ls hP hS hl)
theorem z_ishr {x y : Int32} (X : zC0 κ own cc nL d) (hdg : decode cc pc = .ok (.ishr, 1)) (k : Z κ nL ws lv (pc + 1) (.int (x >>> (y &&& 31)) :: st)) : Z κ nL ws lv pc (.int y :: .int x :: st) := by
  obtain ⟨⟨l, D, A, ε⟩, p, e, R, s, m, args, below, meth, c, Q⟩ := κ
  obtain ⟨hx, hb, hml, hown, hts, hfr, hlo, hK, hlk⟩ := X
  exact fun H locs ls hP hS hl => lv_ishr hx hb hdg (k H locs ls hP hS hl)
theorem z_ineg {x : Int32} (X : zC0 κ own cc nL d) (hdg : decode cc pc = .ok (.ineg, 1)) (k : Z κ nL ws lv (pc + 1) (.int (-x) :: st)) : Z κ nL ws lv pc (.int x :: st) := by
  obtain ⟨⟨l, D, A, ε⟩, p, e, R, s, m, args, below, meth, c, Q⟩ := κ
  obtain ⟨hx, hb, hml, hown, hts, hfr, hlo, hK, hlk⟩ := X
  exact fun H locs ls hP hS hl => lv_ineg hx hb hdg (k H locs ls hP hS hl)
theorem z_iushr {x y : Int32} (X : zC0 κ own cc nL d) (hdg : decode cc pc = .ok (.iushr, 1)) (k : Z κ nL ws lv (pc + 1) (.int (x.toUInt32 >>> (y.toUInt32 &&& Int32.toUInt32 31)).toInt32 :: st)) : Z κ nL ws lv pc (.int y :: .int x :: st) := by
  obtain ⟨⟨l, D, A, ε⟩, p, e, R, s, m, args, below, meth, c, Q⟩ := κ
  obtain ⟨hx, hb, hml, hown, hts, hfr, hlo, hK, hlk⟩ := X
  exact fun H locs ls hP hS hl => lv_iushr hx hb hdg rfl (k H locs ls hP hS hl)
theorem z_i2b {x : Int32} (X : zC0 κ own cc nL d) (hdg : decode cc pc = .ok (.i2b, 1)) (k : Z κ nL ws lv (pc + 1) (.int x.toInt8.toInt32 :: st)) : Z κ nL ws lv pc (.int x :: st) := by
  obtain ⟨⟨l, D, A, ε⟩, p, e, R, s, m, args, below, meth, c, Q⟩ := κ
  obtain ⟨hx, hb, hml, hown, hts, hfr, hlo, hK, hlk⟩ := X
  exact fun H locs ls hP hS hl => lv_i2b hx hb hdg rfl (k H locs ls hP hS hl)
theorem z_i2s {x : Int32} (X : zC0 κ own cc nL d) (hdg : decode cc pc = .ok (.i2s, 1)) (k : Z κ nL ws lv (pc + 1) (.int x.toInt16.toInt32 :: st)) : Z κ nL ws lv pc (.int x :: st) := by
  obtain ⟨⟨l, D, A, ε⟩, p, e, R, s, m, args, below, meth, c, Q⟩ := κ
  obtain ⟨hx, hb, hml, hown, hts, hfr, hlo, hK, hlk⟩ := X
  exact fun H locs ls hP hS hl => lv_i2s hx hb hdg rfl (k H locs ls hP hS hl)
theorem z_i2l {x : Int32} (X : zC0 κ own cc nL d) (hdg : decode cc pc = .ok (.i2l, 1)) (k : Z κ nL ws lv (pc + 1) (.long x.toInt64 :: st)) : Z κ nL ws lv pc (.int x :: st) := by
  obtain ⟨⟨l, D, A, ε⟩, p, e, R, s, m, args, below, meth, c, Q⟩ := κ
  obtain ⟨hx, hb, hml, hown, hts, hfr, hlo, hK, hlk⟩ := X
  exact fun H locs ls hP hS hl => lv_i2l hx hb hdg rfl (k H locs ls hP hS hl)
theorem z_l2i {x : Int64} (X : zC0 κ own cc nL d) (hdg : decode cc pc = .ok (.l2i, 1)) (k : Z κ nL ws lv (pc + 1) (.int x.toInt32 :: st)) : Z κ nL ws lv pc (.long x :: st) := by
  obtain ⟨⟨l, D, A, ε⟩, p, e, R, s, m, args, below, meth, c, Q⟩ := κ
  obtain ⟨hx, hb, hml, hown, hts, hfr, hlo, hK, hlk⟩ := X
  exact fun H locs ls hP hS hl => lv_l2i hx hb hdg rfl (k H locs ls hP hS hl)
theorem z_land {x y : Int64} (X : zC0 κ own cc nL d) (hdg : decode cc pc = .ok (.land, 1)) (k : Z κ nL ws lv (pc + 1) (.long (x &&& y) :: st)) : Z κ nL ws lv pc (.long y :: .long x :: st) := by
  obtain ⟨⟨l, D, A, ε⟩, p, e, R, s, m, args, below, meth, c, Q⟩ := κ
  obtain ⟨hx, hb, hml, hown, hts, hfr, hlo, hK, hlk⟩ := X
  exact fun H locs ls hP hS hl => lv_land hx hb hdg (k H locs ls hP hS hl)
theorem z_lor {x y : Int64} (X : zC0 κ own cc nL d) (hdg : decode cc pc = .ok (.lor, 1)) (k : Z κ nL ws lv (pc + 1) (.long (x ||| y) :: st)) : Z κ nL ws lv pc (.long y :: .long x :: st) := by
  obtain ⟨⟨l, D, A, ε⟩, p, e, R, s, m, args, below, meth, c, Q⟩ := κ
  obtain ⟨hx, hb, hml, hown, hts, hfr, hlo, hK, hlk⟩ := X
  exact fun H locs ls hP hS hl => lv_lor hx hb hdg (k H locs ls hP hS hl)
theorem z_lshl {x : Int64} {y : Int32} (X : zC0 κ own cc nL d) (hdg : decode cc pc = .ok (.lshl, 1)) (k : Z κ nL ws lv (pc + 1) (.long (x <<< (y.toInt64 &&& 63)) :: st)) : Z κ nL ws lv pc (.int y :: .long x :: st) := by
  obtain ⟨⟨l, D, A, ε⟩, p, e, R, s, m, args, below, meth, c, Q⟩ := κ
  obtain ⟨hx, hb, hml, hown, hts, hfr, hlo, hK, hlk⟩ := X
  exact fun H locs ls hP hS hl => lv_lshl hx hb hdg rfl (k H locs ls hP hS hl)
theorem z_lshr {x : Int64} {y : Int32} (X : zC0 κ own cc nL d) (hdg : decode cc pc = .ok (.lshr, 1)) (k : Z κ nL ws lv (pc + 1) (.long (x >>> (y.toInt64 &&& 63)) :: st)) : Z κ nL ws lv pc (.int y :: .long x :: st) := by
  obtain ⟨⟨l, D, A, ε⟩, p, e, R, s, m, args, below, meth, c, Q⟩ := κ
  obtain ⟨hx, hb, hml, hown, hts, hfr, hlo, hK, hlk⟩ := X
  exact fun H locs ls hP hS hl => lv_lshr hx hb hdg rfl (k H locs ls hP hS hl)
theorem z_lushr {x : Int64} {y : Int32} (X : zC0 κ own cc nL d) (hdg : decode cc pc = .ok (.lushr, 1)) (k : Z κ nL ws lv (pc + 1) (.long (x.toUInt64 >>> (y.toInt64.toUInt64 &&& Int64.toUInt64 63)).toInt64 :: st)) : Z κ nL ws lv pc (.int y :: .long x :: st) := by
  obtain ⟨⟨l, D, A, ε⟩, p, e, R, s, m, args, below, meth, c, Q⟩ := κ
  obtain ⟨hx, hb, hml, hown, hts, hfr, hlo, hK, hlk⟩ := X
  exact fun H locs ls hP hS hl => lv_lushr hx hb hdg rfl (k H locs ls hP hS hl)
theorem z_iconst {n : Int} {v : Int32} (X : zC0 κ own cc nL d) (hdg : decode cc pc = .ok (.iconst n, 1)) (hv : Int32.ofInt n = v) (k : Z κ nL ws lv (pc + 1) (.int v :: st)) : Z κ nL ws lv pc (st) := by
  obtain ⟨⟨l, D, A, ε⟩, p, e, R, s, m, args, below, meth, c, Q⟩ := κ
  obtain ⟨hx, hb, hml, hown, hts, hfr, hlo, hK, hlk⟩ := X
  exact fun H locs ls hP hS hl => lv_iconst hx hb hdg hv (k H locs ls hP hS hl)
theorem z_bipush {n : Int} {v : Int32} (X : zC0 κ own cc nL d) (hdg : decode cc pc = .ok (.bipush n, 2)) (hv : (Int8.ofInt n).toInt32 = v) (k : Z κ nL ws lv (pc + 2) (.int v :: st)) : Z κ nL ws lv pc (st) := by
  obtain ⟨⟨l, D, A, ε⟩, p, e, R, s, m, args, below, meth, c, Q⟩ := κ
  obtain ⟨hx, hb, hml, hown, hts, hfr, hlo, hK, hlk⟩ := X
  exact fun H locs ls hP hS hl => lv_bipush hx hb hdg hv (k H locs ls hP hS hl)
theorem z_sipush {n : Int} {v : Int32} (X : zC0 κ own cc nL d) (hdg : decode cc pc = .ok (.sipush n, 3)) (hv : (Int16.ofInt n).toInt32 = v) (k : Z κ nL ws lv (pc + 3) (.int v :: st)) : Z κ nL ws lv pc (st) := by
  obtain ⟨⟨l, D, A, ε⟩, p, e, R, s, m, args, below, meth, c, Q⟩ := κ
  obtain ⟨hx, hb, hml, hown, hts, hfr, hlo, hK, hlk⟩ := X
  exact fun H locs ls hP hS hl => lv_sipush hx hb hdg hv (k H locs ls hP hS hl)
theorem z_ldc {idx : Nat} {v : Int32} (X : zC0 κ own cc nL d) (hdg : decode cc pc = .ok (.ldc idx, 2)) (hw : Cond.constant own idx v ∈ zt) (k : Z κ nL ws lv (pc + 2) (.int v :: st)) : Z κ nL ws lv pc (st) := by
  obtain ⟨⟨l, D, A, ε⟩, p, e, R, s, m, args, below, meth, c, Q⟩ := κ
  obtain ⟨hx, hb, hml, hown, hts, hfr, hlo, hK, hlk⟩ := X
  exact fun H locs ls hP hS hl => lv_ldc hx hb hown (hts _ hw) hdg (k H locs ls hP hS hl)
theorem z_ldc_w {idx : Nat} {v : Int32} (X : zC0 κ own cc nL d) (hdg : decode cc pc = .ok (.ldc_w idx, 3)) (hw : Cond.constant own idx v ∈ zt) (k : Z κ nL ws lv (pc + 3) (.int v :: st)) : Z κ nL ws lv pc (st) := by
  obtain ⟨⟨l, D, A, ε⟩, p, e, R, s, m, args, below, meth, c, Q⟩ := κ
  obtain ⟨hx, hb, hml, hown, hts, hfr, hlo, hK, hlk⟩ := X
  exact fun H locs ls hP hS hl => lv_ldcw hx hb hown (hts _ hw) hdg (k H locs ls hP hS hl)
theorem z_ldc2_w {idx : Nat} {v : Int64} (X : zC0 κ own cc nL d) (hdg : decode cc pc = .ok (.ldc2_w idx, 3)) (hw : Cond.constantLong own idx v ∈ zt) (k : Z κ nL ws lv (pc + 3) (.long v :: st)) : Z κ nL ws lv pc (st) := by
  obtain ⟨⟨l, D, A, ε⟩, p, e, R, s, m, args, below, meth, c, Q⟩ := κ
  obtain ⟨hx, hb, hml, hown, hts, hfr, hlo, hK, hlk⟩ := X
  exact fun H locs ls hP hS hl => lv_ldc2 hx hb hown (hts _ hw) hdg (k H locs ls hP hS hl)
theorem z_iload_n {j : Fin 4} {i : Nat} {x : Int32} (X : zC0 κ own cc nL d) (hdg : decode cc pc = .ok (.iload_n j, 1)) (q : Nat) (hi : (j : Nat) = i) (hq : lv[q]? = some (i, .int x)) (k : Z κ nL ws lv (pc + 1) (.int x :: st)) : Z κ nL ws lv pc (st) := by
  obtain ⟨⟨l, D, A, ε⟩, p, e, R, s, m, args, below, meth, c, Q⟩ := κ
  obtain ⟨hx, hb, hml, hown, hts, hfr, hlo, hK, hlk⟩ := X
  exact fun H locs ls hP hS hl => lv_iload_n hx hb hdg hi (lv_at hl q hq) (k H locs ls hP hS hl)
theorem z_iload {i : Nat} {x : Int32} (X : zC0 κ own cc nL d) (hdg : decode cc pc = .ok (.iload i, 2)) (q : Nat) (hq : lv[q]? = some (i, .int x)) (k : Z κ nL ws lv (pc + 2) (.int x :: st)) : Z κ nL ws lv pc (st) := by
  obtain ⟨⟨l, D, A, ε⟩, p, e, R, s, m, args, below, meth, c, Q⟩ := κ
  obtain ⟨hx, hb, hml, hown, hts, hfr, hlo, hK, hlk⟩ := X
  exact fun H locs ls hP hS hl => lv_iload hx hb hdg (lv_at hl q hq) (k H locs ls hP hS hl)
theorem z_aload_n {j : Fin 4} {i : Nat} {x : Nat} (X : zC0 κ own cc nL d) (hdg : decode cc pc = .ok (.aload_n j, 1)) (q : Nat) (hi : (j : Nat) = i) (hq : lv[q]? = some (i, .ref x)) (k : Z κ nL ws lv (pc + 1) (.ref x :: st)) : Z κ nL ws lv pc (st) := by
  obtain ⟨⟨l, D, A, ε⟩, p, e, R, s, m, args, below, meth, c, Q⟩ := κ
  obtain ⟨hx, hb, hml, hown, hts, hfr, hlo, hK, hlk⟩ := X
  exact fun H locs ls hP hS hl => lv_aload_n hx hb hdg hi (lv_at hl q hq) (k H locs ls hP hS hl)
theorem z_aload {i : Nat} {x : Nat} (X : zC0 κ own cc nL d) (hdg : decode cc pc = .ok (.aload i, 2)) (q : Nat) (hq : lv[q]? = some (i, .ref x)) (k : Z κ nL ws lv (pc + 2) (.ref x :: st)) : Z κ nL ws lv pc (st) := by
  obtain ⟨⟨l, D, A, ε⟩, p, e, R, s, m, args, below, meth, c, Q⟩ := κ
  obtain ⟨hx, hb, hml, hown, hts, hfr, hlo, hK, hlk⟩ := X
  exact fun H locs ls hP hS hl => lv_aload hx hb hdg (lv_at hl q hq) (k H locs ls hP hS hl)
theorem z_lload_n {j : Fin 4} {i : Nat} {x : Int64} (X : zC0 κ own cc nL d) (hdg : decode cc pc = .ok (.lload_n j, 1)) (q : Nat) (hi : (j : Nat) = i) (hq : lv[q]? = some (i, .long x)) (k : Z κ nL ws lv (pc + 1) (.long x :: st)) : Z κ nL ws lv pc (st) := by
  obtain ⟨⟨l, D, A, ε⟩, p, e, R, s, m, args, below, meth, c, Q⟩ := κ
  obtain ⟨hx, hb, hml, hown, hts, hfr, hlo, hK, hlk⟩ := X
  exact fun H locs ls hP hS hl => lv_lload_n hx hb hdg hi (lv_at hl q hq) (k H locs ls hP hS hl)
theorem z_lload {i : Nat} {x : Int64} (X : zC0 κ own cc nL d) (hdg : decode cc pc = .ok (.lload i, 2)) (q : Nat) (hq : lv[q]? = some (i, .long x)) (k : Z κ nL ws lv (pc + 2) (.long x :: st)) : Z κ nL ws lv pc (st) := by
  obtain ⟨⟨l, D, A, ε⟩, p, e, R, s, m, args, below, meth, c, Q⟩ := κ
  obtain ⟨hx, hb, hml, hown, hts, hfr, hlo, hK, hlk⟩ := X
  exact fun H locs ls hP hS hl => lv_lload hx hb hdg (lv_at hl q hq) (k H locs ls hP hS hl)
theorem z_istore_n {j : Fin 4} {i : Nat} {x : Int32} {lv' : List (Nat × Value)} (X : zC0 κ own cc nL d) (hdg : decode cc pc = .ok (.istore_n j, 1)) (hi : (j : Nat) = i) (hn : i < nL) (hl : (i, Value.int x) :: lv.filter (fun q => !(q.1 == i) && !(q.1 + 1 == i && q.2.category == 2)) = lv') (k : Z κ nL ws lv' (pc + 1) st) : Z κ nL ws lv pc (.int x :: st) := by
  obtain ⟨⟨l, D, A, ε⟩, p, e, R, s, m, args, below, meth, c, Q⟩ := κ
  obtain ⟨hx, hb, hml, hown, hts, hfr, hlo, hK, hlk⟩ := X
  exact fun H locs ls hP hS hl0 => lv_istore_n hx hb hdg hi hl0 hn hl (fun ls1 hl1 => k H locs ls1 hP hS hl1)
theorem z_istore {i : Nat} {x : Int32} {lv' : List (Nat × Value)} (X : zC0 κ own cc nL d) (hdg : decode cc pc = .ok (.istore i, 2)) (hn : i < nL) (hl : (i, Value.int x) :: lv.filter (fun q => !(q.1 == i) && !(q.1 + 1 == i && q.2.category == 2)) = lv') (k : Z κ nL ws lv' (pc + 2) st) : Z κ nL ws lv pc (.int x :: st) := by
  obtain ⟨⟨l, D, A, ε⟩, p, e, R, s, m, args, below, meth, c, Q⟩ := κ
  obtain ⟨hx, hb, hml, hown, hts, hfr, hlo, hK, hlk⟩ := X
  exact fun H locs ls hP hS hl0 => lv_istore hx hb hdg hl0 hn hl (fun ls1 hl1 => k H locs ls1 hP hS hl1)
theorem z_astore_n {j : Fin 4} {i : Nat} {x : Nat} {lv' : List (Nat × Value)} (X : zC0 κ own cc nL d) (hdg : decode cc pc = .ok (.astore_n j, 1)) (hi : (j : Nat) = i) (hn : i < nL) (hl : (i, Value.ref x) :: lv.filter (fun q => !(q.1 == i) && !(q.1 + 1 == i && q.2.category == 2)) = lv') (k : Z κ nL ws lv' (pc + 1) st) : Z κ nL ws lv pc (.ref x :: st) := by
  obtain ⟨⟨l, D, A, ε⟩, p, e, R, s, m, args, below, meth, c, Q⟩ := κ
  obtain ⟨hx, hb, hml, hown, hts, hfr, hlo, hK, hlk⟩ := X
  exact fun H locs ls hP hS hl0 => lv_astore_n hx hb hdg hi hl0 hn hl (fun ls1 hl1 => k H locs ls1 hP hS hl1)
theorem z_astore {i : Nat} {x : Nat} {lv' : List (Nat × Value)} (X : zC0 κ own cc nL d) (hdg : decode cc pc = .ok (.astore i, 2)) (hn : i < nL) (hl : (i, Value.ref x) :: lv.filter (fun q => !(q.1 == i) && !(q.1 + 1 == i && q.2.category == 2)) = lv') (k : Z κ nL ws lv' (pc + 2) st) : Z κ nL ws lv pc (.ref x :: st) := by
  obtain ⟨⟨l, D, A, ε⟩, p, e, R, s, m, args, below, meth, c, Q⟩ := κ
  obtain ⟨hx, hb, hml, hown, hts, hfr, hlo, hK, hlk⟩ := X
  exact fun H locs ls hP hS hl0 => lv_astore hx hb hdg hl0 hn hl (fun ls1 hl1 => k H locs ls1 hP hS hl1)
theorem z_iinc {i : Nat} {n : Int} {x v : Int32} {lv' : List (Nat × Value)} (X : zC0 κ own cc nL d) (hdg : decode cc pc = .ok (.iinc i n, 3)) (q : Nat) (hq : lv[q]? = some (i, .int x)) (hv : x + Int32.ofInt n = v) (hn : i < nL) (hl : (i, Value.int v) :: lv.filter (fun q => !(q.1 == i) && !(q.1 + 1 == i && q.2.category == 2)) = lv') (k : Z κ nL ws lv' (pc + 3) st) : Z κ nL ws lv pc st := by
  obtain ⟨⟨l, D, A, ε⟩, p, e, R, s, m, args, below, meth, c, Q⟩ := κ
  obtain ⟨hx, hb, hml, hown, hts, hfr, hlo, hK, hlk⟩ := X
  exact fun H locs ls hP hS hl0 => lv_iinc hx hb hdg hl0 hq hv hn hl (fun ls1 hl1 => k H locs ls1 hP hS hl1)
theorem z_dup {va : Value} (X : zC0 κ own cc nL d) (hdg : decode cc pc = .ok (.dup, 1)) (hva : va.category = 1) (k : Z κ nL ws lv (pc + 1) (va :: va :: st)) : Z κ nL ws lv pc (va :: st) := by
  obtain ⟨⟨l, D, A, ε⟩, p, e, R, s, m, args, below, meth, c, Q⟩ := κ
  obtain ⟨hx, hb, hml, hown, hts, hfr, hlo, hK, hlk⟩ := X
  exact fun H locs ls hP hS hl => lv_dup hx hb hdg hva (k H locs ls hP hS hl)
theorem z_dup2 {va vb : Value} (X : zC0 κ own cc nL d) (hdg : decode cc pc = .ok (.dup2, 1)) (hva : va.category = 1) (hvb : vb.category = 1) (k : Z κ nL ws lv (pc + 1) (va :: vb :: va :: vb :: st)) : Z κ nL ws lv pc (va :: vb :: st) := by
  obtain ⟨⟨l, D, A, ε⟩, p, e, R, s, m, args, below, meth, c, Q⟩ := κ
  obtain ⟨hx, hb, hml, hown, hts, hfr, hlo, hK, hlk⟩ := X
  exact fun H locs ls hP hS hl => lv_dup2_11 hx hb hdg hva hvb (k H locs ls hP hS hl)
theorem z_idiv {x y : Int32} (X : zC0 κ own cc nL d) (hdg : decode cc pc = .ok (.idiv, 1)) (hne : ¬ y = 0) (k : Z κ nL ws lv (pc + 1) (.int (x / y) :: st)) : Z κ nL ws lv pc (.int y :: .int x :: st) := by
  obtain ⟨⟨l, D, A, ε⟩, p, e, R, s, m, args, below, meth, c, Q⟩ := κ
  obtain ⟨hx, hb, hml, hown, hts, hfr, hlo, hK, hlk⟩ := X
  exact fun H locs ls hP hS hl => lv_idiv hx hb hdg hne (k H locs ls hP hS hl)
theorem z_irem {x y : Int32} (X : zC0 κ own cc nL d) (hdg : decode cc pc = .ok (.irem, 1)) (hne : ¬ y = 0) (k : Z κ nL ws lv (pc + 1) (.int (x - x / y * y) :: st)) : Z κ nL ws lv pc (.int y :: .int x :: st) := by
  obtain ⟨⟨l, D, A, ε⟩, p, e, R, s, m, args, below, meth, c, Q⟩ := κ
  obtain ⟨hx, hb, hml, hown, hts, hfr, hlo, hK, hlk⟩ := X
  exact fun H locs ls hP hS hl => lv_irem hx hb hdg hne (k H locs ls hP hS hl)
theorem z_goto {off : Int} {tgt : Nat} (X : zC0 κ own cc nL d) (hdg : decode cc pc = .ok (.goto off, 3)) (ht : (pc : Int) + off = (tgt : Int)) (k : Z κ nL ws lv tgt st) : Z κ nL ws lv pc st := by
  obtain ⟨⟨l, D, A, ε⟩, p, e, R, s, m, args, below, meth, c, Q⟩ := κ
  obtain ⟨hx, hb, hml, hown, hts, hfr, hlo, hK, hlk⟩ := X
  exact fun H locs ls hP hS hl => lv_goto hx hb hdg ht (k H locs ls hP hS hl)
theorem z_if_eq {x : Int32} {off : Int} {tgt : Nat} {β : Type} {a b ρ : Option β} (X : zC0 κ own cc nL d) (hdg : decode cc pc = .ok (.ifCond .eq off, 3)) (ht : (pc : Int) + off = (tgt : Int)) (h : (if x = 0 then a else b) = ρ) (kt : x = 0 → a = ρ → Z κ nL ws lv tgt st) (kf : ¬ x = 0 → b = ρ → Z κ nL ws lv (pc + 3) st) : Z κ nL ws lv pc (.int x :: st) := by
  obtain ⟨⟨l, D, A, ε⟩, p, e, R, s, m, args, below, meth, c, Q⟩ := κ
  obtain ⟨hx, hb, hml, hown, hts, hfr, hlo, hK, hlk⟩ := X
  exact fun H locs ls hP hS hl => lv_if_eq hx hb hdg ht (fun q => kt q (by rw [if_pos q] at h; exact h) H locs ls hP hS hl) (fun q => kf q (by rw [if_neg q] at h; exact h) H locs ls hP hS hl)
theorem z_if_eq_c {x : Int32} {off : Int} {tgt : Nat} (X : zC0 κ own cc nL d) (hdg : decode cc pc = .ok (.ifCond .eq off, 3)) (ht : (pc : Int) + off = (tgt : Int)) (kt : x = 0 → Z κ nL ws lv tgt st) (kf : ¬ x = 0 → Z κ nL ws lv (pc + 3) st) : Z κ nL ws lv pc (.int x :: st) := by
  obtain ⟨⟨l, D, A, ε⟩, p, e, R, s, m, args, below, meth, c, Q⟩ := κ
  obtain ⟨hx, hb, hml, hown, hts, hfr, hlo, hK, hlk⟩ := X
  exact fun H locs ls hP hS hl => lv_if_eq hx hb hdg ht (fun q => kt q H locs ls hP hS hl) (fun q => kf q H locs ls hP hS hl)
theorem z_if_ne {x : Int32} {off : Int} {tgt : Nat} {β : Type} {a b ρ : Option β} (X : zC0 κ own cc nL d) (hdg : decode cc pc = .ok (.ifCond .ne off, 3)) (ht : (pc : Int) + off = (tgt : Int)) (h : (if x = 0 then a else b) = ρ) (kt : ¬ x = 0 → b = ρ → Z κ nL ws lv tgt st) (kf : x = 0 → a = ρ → Z κ nL ws lv (pc + 3) st) : Z κ nL ws lv pc (.int x :: st) := by
  obtain ⟨⟨l, D, A, ε⟩, p, e, R, s, m, args, below, meth, c, Q⟩ := κ
  obtain ⟨hx, hb, hml, hown, hts, hfr, hlo, hK, hlk⟩ := X
  exact fun H locs ls hP hS hl => lv_if_ne hx hb hdg ht (fun q => kt q (by rw [if_neg q] at h; exact h) H locs ls hP hS hl) (fun q => kf q (by rw [if_pos q] at h; exact h) H locs ls hP hS hl)
theorem z_if_ne_c {x : Int32} {off : Int} {tgt : Nat} (X : zC0 κ own cc nL d) (hdg : decode cc pc = .ok (.ifCond .ne off, 3)) (ht : (pc : Int) + off = (tgt : Int)) (kt : ¬ x = 0 → Z κ nL ws lv tgt st) (kf : x = 0 → Z κ nL ws lv (pc + 3) st) : Z κ nL ws lv pc (.int x :: st) := by
  obtain ⟨⟨l, D, A, ε⟩, p, e, R, s, m, args, below, meth, c, Q⟩ := κ
  obtain ⟨hx, hb, hml, hown, hts, hfr, hlo, hK, hlk⟩ := X
  exact fun H locs ls hP hS hl => lv_if_ne hx hb hdg ht (fun q => kt q H locs ls hP hS hl) (fun q => kf q H locs ls hP hS hl)
theorem z_if_lt {x : Int32} {off : Int} {tgt : Nat} {β : Type} {a b ρ : Option β} (X : zC0 κ own cc nL d) (hdg : decode cc pc = .ok (.ifCond .lt off, 3)) (ht : (pc : Int) + off = (tgt : Int)) (h : (if x < 0 then a else b) = ρ) (kt : x < 0 → a = ρ → Z κ nL ws lv tgt st) (kf : ¬ x < 0 → b = ρ → Z κ nL ws lv (pc + 3) st) : Z κ nL ws lv pc (.int x :: st) := by
  obtain ⟨⟨l, D, A, ε⟩, p, e, R, s, m, args, below, meth, c, Q⟩ := κ
  obtain ⟨hx, hb, hml, hown, hts, hfr, hlo, hK, hlk⟩ := X
  exact fun H locs ls hP hS hl => lv_if_lt hx hb hdg ht (fun q => kt q (by rw [if_pos q] at h; exact h) H locs ls hP hS hl) (fun q => kf q (by rw [if_neg q] at h; exact h) H locs ls hP hS hl)
theorem z_if_lt_c {x : Int32} {off : Int} {tgt : Nat} (X : zC0 κ own cc nL d) (hdg : decode cc pc = .ok (.ifCond .lt off, 3)) (ht : (pc : Int) + off = (tgt : Int)) (kt : x < 0 → Z κ nL ws lv tgt st) (kf : ¬ x < 0 → Z κ nL ws lv (pc + 3) st) : Z κ nL ws lv pc (.int x :: st) := by
  obtain ⟨⟨l, D, A, ε⟩, p, e, R, s, m, args, below, meth, c, Q⟩ := κ
  obtain ⟨hx, hb, hml, hown, hts, hfr, hlo, hK, hlk⟩ := X
  exact fun H locs ls hP hS hl => lv_if_lt hx hb hdg ht (fun q => kt q H locs ls hP hS hl) (fun q => kf q H locs ls hP hS hl)
theorem z_if_ge {x : Int32} {off : Int} {tgt : Nat} {β : Type} {a b ρ : Option β} (X : zC0 κ own cc nL d) (hdg : decode cc pc = .ok (.ifCond .ge off, 3)) (ht : (pc : Int) + off = (tgt : Int)) (h : (if 0 ≤ x then a else b) = ρ) (kt : 0 ≤ x → a = ρ → Z κ nL ws lv tgt st) (kf : ¬ 0 ≤ x → b = ρ → Z κ nL ws lv (pc + 3) st) : Z κ nL ws lv pc (.int x :: st) := by
  obtain ⟨⟨l, D, A, ε⟩, p, e, R, s, m, args, below, meth, c, Q⟩ := κ
  obtain ⟨hx, hb, hml, hown, hts, hfr, hlo, hK, hlk⟩ := X
  exact fun H locs ls hP hS hl => lv_if_ge hx hb hdg ht (fun q => kt q (by rw [if_pos q] at h; exact h) H locs ls hP hS hl) (fun q => kf q (by rw [if_neg q] at h; exact h) H locs ls hP hS hl)
theorem z_if_ge_c {x : Int32} {off : Int} {tgt : Nat} (X : zC0 κ own cc nL d) (hdg : decode cc pc = .ok (.ifCond .ge off, 3)) (ht : (pc : Int) + off = (tgt : Int)) (kt : 0 ≤ x → Z κ nL ws lv tgt st) (kf : ¬ 0 ≤ x → Z κ nL ws lv (pc + 3) st) : Z κ nL ws lv pc (.int x :: st) := by
  obtain ⟨⟨l, D, A, ε⟩, p, e, R, s, m, args, below, meth, c, Q⟩ := κ
  obtain ⟨hx, hb, hml, hown, hts, hfr, hlo, hK, hlk⟩ := X
  exact fun H locs ls hP hS hl => lv_if_ge hx hb hdg ht (fun q => kt q H locs ls hP hS hl) (fun q => kf q H locs ls hP hS hl)
theorem z_if_gt {x : Int32} {off : Int} {tgt : Nat} {β : Type} {a b ρ : Option β} (X : zC0 κ own cc nL d) (hdg : decode cc pc = .ok (.ifCond .gt off, 3)) (ht : (pc : Int) + off = (tgt : Int)) (h : (if 0 < x then a else b) = ρ) (kt : 0 < x → a = ρ → Z κ nL ws lv tgt st) (kf : ¬ 0 < x → b = ρ → Z κ nL ws lv (pc + 3) st) : Z κ nL ws lv pc (.int x :: st) := by
  obtain ⟨⟨l, D, A, ε⟩, p, e, R, s, m, args, below, meth, c, Q⟩ := κ
  obtain ⟨hx, hb, hml, hown, hts, hfr, hlo, hK, hlk⟩ := X
  exact fun H locs ls hP hS hl => lv_if_gt hx hb hdg ht (fun q => kt q (by rw [if_pos q] at h; exact h) H locs ls hP hS hl) (fun q => kf q (by rw [if_neg q] at h; exact h) H locs ls hP hS hl)
theorem z_if_gt_c {x : Int32} {off : Int} {tgt : Nat} (X : zC0 κ own cc nL d) (hdg : decode cc pc = .ok (.ifCond .gt off, 3)) (ht : (pc : Int) + off = (tgt : Int)) (kt : 0 < x → Z κ nL ws lv tgt st) (kf : ¬ 0 < x → Z κ nL ws lv (pc + 3) st) : Z κ nL ws lv pc (.int x :: st) := by
  obtain ⟨⟨l, D, A, ε⟩, p, e, R, s, m, args, below, meth, c, Q⟩ := κ
  obtain ⟨hx, hb, hml, hown, hts, hfr, hlo, hK, hlk⟩ := X
  exact fun H locs ls hP hS hl => lv_if_gt hx hb hdg ht (fun q => kt q H locs ls hP hS hl) (fun q => kf q H locs ls hP hS hl)
theorem z_if_le {x : Int32} {off : Int} {tgt : Nat} {β : Type} {a b ρ : Option β} (X : zC0 κ own cc nL d) (hdg : decode cc pc = .ok (.ifCond .le off, 3)) (ht : (pc : Int) + off = (tgt : Int)) (h : (if x ≤ 0 then a else b) = ρ) (kt : x ≤ 0 → a = ρ → Z κ nL ws lv tgt st) (kf : ¬ x ≤ 0 → b = ρ → Z κ nL ws lv (pc + 3) st) : Z κ nL ws lv pc (.int x :: st) := by
  obtain ⟨⟨l, D, A, ε⟩, p, e, R, s, m, args, below, meth, c, Q⟩ := κ
  obtain ⟨hx, hb, hml, hown, hts, hfr, hlo, hK, hlk⟩ := X
  exact fun H locs ls hP hS hl => lv_if_le hx hb hdg ht (fun q => kt q (by rw [if_pos q] at h; exact h) H locs ls hP hS hl) (fun q => kf q (by rw [if_neg q] at h; exact h) H locs ls hP hS hl)
theorem z_if_le_c {x : Int32} {off : Int} {tgt : Nat} (X : zC0 κ own cc nL d) (hdg : decode cc pc = .ok (.ifCond .le off, 3)) (ht : (pc : Int) + off = (tgt : Int)) (kt : x ≤ 0 → Z κ nL ws lv tgt st) (kf : ¬ x ≤ 0 → Z κ nL ws lv (pc + 3) st) : Z κ nL ws lv pc (.int x :: st) := by
  obtain ⟨⟨l, D, A, ε⟩, p, e, R, s, m, args, below, meth, c, Q⟩ := κ
  obtain ⟨hx, hb, hml, hown, hts, hfr, hlo, hK, hlk⟩ := X
  exact fun H locs ls hP hS hl => lv_if_le hx hb hdg ht (fun q => kt q H locs ls hP hS hl) (fun q => kf q H locs ls hP hS hl)
theorem z_icmp_eq {x y : Int32} {off : Int} {tgt : Nat} {β : Type} {a b ρ : Option β} (X : zC0 κ own cc nL d) (hdg : decode cc pc = .ok (.if_icmp .eq off, 3)) (ht : (pc : Int) + off = (tgt : Int)) (h : (if x = y then a else b) = ρ) (kt : x = y → a = ρ → Z κ nL ws lv tgt st) (kf : ¬ x = y → b = ρ → Z κ nL ws lv (pc + 3) st) : Z κ nL ws lv pc (.int y :: .int x :: st) := by
  obtain ⟨⟨l, D, A, ε⟩, p, e, R, s, m, args, below, meth, c, Q⟩ := κ
  obtain ⟨hx, hb, hml, hown, hts, hfr, hlo, hK, hlk⟩ := X
  exact fun H locs ls hP hS hl => lv_icmp_eq hx hb hdg ht (fun q => kt q (by rw [if_pos q] at h; exact h) H locs ls hP hS hl) (fun q => kf q (by rw [if_neg q] at h; exact h) H locs ls hP hS hl)
theorem z_icmp_eq_c {x y : Int32} {off : Int} {tgt : Nat} (X : zC0 κ own cc nL d) (hdg : decode cc pc = .ok (.if_icmp .eq off, 3)) (ht : (pc : Int) + off = (tgt : Int)) (kt : x = y → Z κ nL ws lv tgt st) (kf : ¬ x = y → Z κ nL ws lv (pc + 3) st) : Z κ nL ws lv pc (.int y :: .int x :: st) := by
  obtain ⟨⟨l, D, A, ε⟩, p, e, R, s, m, args, below, meth, c, Q⟩ := κ
  obtain ⟨hx, hb, hml, hown, hts, hfr, hlo, hK, hlk⟩ := X
  exact fun H locs ls hP hS hl => lv_icmp_eq hx hb hdg ht (fun q => kt q H locs ls hP hS hl) (fun q => kf q H locs ls hP hS hl)
theorem z_icmp_ne {x y : Int32} {off : Int} {tgt : Nat} {β : Type} {a b ρ : Option β} (X : zC0 κ own cc nL d) (hdg : decode cc pc = .ok (.if_icmp .ne off, 3)) (ht : (pc : Int) + off = (tgt : Int)) (h : (if x = y then a else b) = ρ) (kt : ¬ x = y → b = ρ → Z κ nL ws lv tgt st) (kf : x = y → a = ρ → Z κ nL ws lv (pc + 3) st) : Z κ nL ws lv pc (.int y :: .int x :: st) := by
  obtain ⟨⟨l, D, A, ε⟩, p, e, R, s, m, args, below, meth, c, Q⟩ := κ
  obtain ⟨hx, hb, hml, hown, hts, hfr, hlo, hK, hlk⟩ := X
  exact fun H locs ls hP hS hl => lv_icmp_ne hx hb hdg ht (fun q => kt q (by rw [if_neg q] at h; exact h) H locs ls hP hS hl) (fun q => kf q (by rw [if_pos q] at h; exact h) H locs ls hP hS hl)
theorem z_icmp_ne_c {x y : Int32} {off : Int} {tgt : Nat} (X : zC0 κ own cc nL d) (hdg : decode cc pc = .ok (.if_icmp .ne off, 3)) (ht : (pc : Int) + off = (tgt : Int)) (kt : ¬ x = y → Z κ nL ws lv tgt st) (kf : x = y → Z κ nL ws lv (pc + 3) st) : Z κ nL ws lv pc (.int y :: .int x :: st) := by
  obtain ⟨⟨l, D, A, ε⟩, p, e, R, s, m, args, below, meth, c, Q⟩ := κ
  obtain ⟨hx, hb, hml, hown, hts, hfr, hlo, hK, hlk⟩ := X
  exact fun H locs ls hP hS hl => lv_icmp_ne hx hb hdg ht (fun q => kt q H locs ls hP hS hl) (fun q => kf q H locs ls hP hS hl)
theorem z_icmp_lt {x y : Int32} {off : Int} {tgt : Nat} {β : Type} {a b ρ : Option β} (X : zC0 κ own cc nL d) (hdg : decode cc pc = .ok (.if_icmp .lt off, 3)) (ht : (pc : Int) + off = (tgt : Int)) (h : (if x < y then a else b) = ρ) (kt : x < y → a = ρ → Z κ nL ws lv tgt st) (kf : ¬ x < y → b = ρ → Z κ nL ws lv (pc + 3) st) : Z κ nL ws lv pc (.int y :: .int x :: st) := by
  obtain ⟨⟨l, D, A, ε⟩, p, e, R, s, m, args, below, meth, c, Q⟩ := κ
  obtain ⟨hx, hb, hml, hown, hts, hfr, hlo, hK, hlk⟩ := X
  exact fun H locs ls hP hS hl => lv_icmp_lt hx hb hdg ht (fun q => kt q (by rw [if_pos q] at h; exact h) H locs ls hP hS hl) (fun q => kf q (by rw [if_neg q] at h; exact h) H locs ls hP hS hl)
theorem z_icmp_lt_c {x y : Int32} {off : Int} {tgt : Nat} (X : zC0 κ own cc nL d) (hdg : decode cc pc = .ok (.if_icmp .lt off, 3)) (ht : (pc : Int) + off = (tgt : Int)) (kt : x < y → Z κ nL ws lv tgt st) (kf : ¬ x < y → Z κ nL ws lv (pc + 3) st) : Z κ nL ws lv pc (.int y :: .int x :: st) := by
  obtain ⟨⟨l, D, A, ε⟩, p, e, R, s, m, args, below, meth, c, Q⟩ := κ
  obtain ⟨hx, hb, hml, hown, hts, hfr, hlo, hK, hlk⟩ := X
  exact fun H locs ls hP hS hl => lv_icmp_lt hx hb hdg ht (fun q => kt q H locs ls hP hS hl) (fun q => kf q H locs ls hP hS hl)
theorem z_icmp_ge {x y : Int32} {off : Int} {tgt : Nat} {β : Type} {a b ρ : Option β} (X : zC0 κ own cc nL d) (hdg : decode cc pc = .ok (.if_icmp .ge off, 3)) (ht : (pc : Int) + off = (tgt : Int)) (h : (if y ≤ x then a else b) = ρ) (kt : y ≤ x → a = ρ → Z κ nL ws lv tgt st) (kf : ¬ y ≤ x → b = ρ → Z κ nL ws lv (pc + 3) st) : Z κ nL ws lv pc (.int y :: .int x :: st) := by
  obtain ⟨⟨l, D, A, ε⟩, p, e, R, s, m, args, below, meth, c, Q⟩ := κ
  obtain ⟨hx, hb, hml, hown, hts, hfr, hlo, hK, hlk⟩ := X
  exact fun H locs ls hP hS hl => lv_icmp_ge hx hb hdg ht (fun q => kt q (by rw [if_pos q] at h; exact h) H locs ls hP hS hl) (fun q => kf q (by rw [if_neg q] at h; exact h) H locs ls hP hS hl)
theorem z_icmp_ge_c {x y : Int32} {off : Int} {tgt : Nat} (X : zC0 κ own cc nL d) (hdg : decode cc pc = .ok (.if_icmp .ge off, 3)) (ht : (pc : Int) + off = (tgt : Int)) (kt : y ≤ x → Z κ nL ws lv tgt st) (kf : ¬ y ≤ x → Z κ nL ws lv (pc + 3) st) : Z κ nL ws lv pc (.int y :: .int x :: st) := by
  obtain ⟨⟨l, D, A, ε⟩, p, e, R, s, m, args, below, meth, c, Q⟩ := κ
  obtain ⟨hx, hb, hml, hown, hts, hfr, hlo, hK, hlk⟩ := X
  exact fun H locs ls hP hS hl => lv_icmp_ge hx hb hdg ht (fun q => kt q H locs ls hP hS hl) (fun q => kf q H locs ls hP hS hl)
theorem z_icmp_gt {x y : Int32} {off : Int} {tgt : Nat} {β : Type} {a b ρ : Option β} (X : zC0 κ own cc nL d) (hdg : decode cc pc = .ok (.if_icmp .gt off, 3)) (ht : (pc : Int) + off = (tgt : Int)) (h : (if y < x then a else b) = ρ) (kt : y < x → a = ρ → Z κ nL ws lv tgt st) (kf : ¬ y < x → b = ρ → Z κ nL ws lv (pc + 3) st) : Z κ nL ws lv pc (.int y :: .int x :: st) := by
  obtain ⟨⟨l, D, A, ε⟩, p, e, R, s, m, args, below, meth, c, Q⟩ := κ
  obtain ⟨hx, hb, hml, hown, hts, hfr, hlo, hK, hlk⟩ := X
  exact fun H locs ls hP hS hl => lv_icmp_gt hx hb hdg ht (fun q => kt q (by rw [if_pos q] at h; exact h) H locs ls hP hS hl) (fun q => kf q (by rw [if_neg q] at h; exact h) H locs ls hP hS hl)
theorem z_icmp_gt_c {x y : Int32} {off : Int} {tgt : Nat} (X : zC0 κ own cc nL d) (hdg : decode cc pc = .ok (.if_icmp .gt off, 3)) (ht : (pc : Int) + off = (tgt : Int)) (kt : y < x → Z κ nL ws lv tgt st) (kf : ¬ y < x → Z κ nL ws lv (pc + 3) st) : Z κ nL ws lv pc (.int y :: .int x :: st) := by
  obtain ⟨⟨l, D, A, ε⟩, p, e, R, s, m, args, below, meth, c, Q⟩ := κ
  obtain ⟨hx, hb, hml, hown, hts, hfr, hlo, hK, hlk⟩ := X
  exact fun H locs ls hP hS hl => lv_icmp_gt hx hb hdg ht (fun q => kt q H locs ls hP hS hl) (fun q => kf q H locs ls hP hS hl)
theorem z_icmp_le {x y : Int32} {off : Int} {tgt : Nat} {β : Type} {a b ρ : Option β} (X : zC0 κ own cc nL d) (hdg : decode cc pc = .ok (.if_icmp .le off, 3)) (ht : (pc : Int) + off = (tgt : Int)) (h : (if x ≤ y then a else b) = ρ) (kt : x ≤ y → a = ρ → Z κ nL ws lv tgt st) (kf : ¬ x ≤ y → b = ρ → Z κ nL ws lv (pc + 3) st) : Z κ nL ws lv pc (.int y :: .int x :: st) := by
  obtain ⟨⟨l, D, A, ε⟩, p, e, R, s, m, args, below, meth, c, Q⟩ := κ
  obtain ⟨hx, hb, hml, hown, hts, hfr, hlo, hK, hlk⟩ := X
  exact fun H locs ls hP hS hl => lv_icmp_le hx hb hdg ht (fun q => kt q (by rw [if_pos q] at h; exact h) H locs ls hP hS hl) (fun q => kf q (by rw [if_neg q] at h; exact h) H locs ls hP hS hl)
theorem z_icmp_le_c {x y : Int32} {off : Int} {tgt : Nat} (X : zC0 κ own cc nL d) (hdg : decode cc pc = .ok (.if_icmp .le off, 3)) (ht : (pc : Int) + off = (tgt : Int)) (kt : x ≤ y → Z κ nL ws lv tgt st) (kf : ¬ x ≤ y → Z κ nL ws lv (pc + 3) st) : Z κ nL ws lv pc (.int y :: .int x :: st) := by
  obtain ⟨⟨l, D, A, ε⟩, p, e, R, s, m, args, below, meth, c, Q⟩ := κ
  obtain ⟨hx, hb, hml, hown, hts, hfr, hlo, hK, hlk⟩ := X
  exact fun H locs ls hP hS hl => lv_icmp_le hx hb hdg ht (fun q => kt q H locs ls hP hS hl) (fun q => kf q H locs ls hP hS hl)
theorem z_tabIn {dflt lo hi : Int} {offs : Array Int} {len : Nat} {x v : Int32} {off : Int} {tgt : Nat} (X : zC0 κ own cc nL d) (hdg : decode cc pc = .ok (.tableswitch dflt lo hi offs, len)) (hv : x = v) (h1 : ¬ v.toInt < lo) (h2 : ¬ hi < v.toInt) (ho : offs[(v.toInt - lo).toNat]? = some off) (ht : (pc : Int) + off = (tgt : Int)) (k : Z κ nL ws lv tgt st) : Z κ nL ws lv pc (.int x :: st) := by
  obtain ⟨⟨l, D, A, ε⟩, p, e, R, s, m, args, below, meth, c, Q⟩ := κ
  obtain ⟨hx, hb, hml, hown, hts, hfr, hlo, hK, hlk⟩ := X
  subst hv
  exact fun H locs ls hP hS hl => lv_tableIn hx hb hdg h1 h2 ho ht (k H locs ls hP hS hl)
theorem z_tabOut {dflt lo hi : Int} {offs : Array Int} {len : Nat} {x : Int32} {tgt : Nat} (X : zC0 κ own cc nL d) (hdg : decode cc pc = .ok (.tableswitch dflt lo hi offs, len)) (h1 : x.toInt < lo ∨ hi < x.toInt) (ht : (pc : Int) + dflt = (tgt : Int)) (k : Z κ nL ws lv tgt st) : Z κ nL ws lv pc (.int x :: st) := by
  obtain ⟨⟨l, D, A, ε⟩, p, e, R, s, m, args, below, meth, c, Q⟩ := κ
  obtain ⟨hx, hb, hml, hown, hts, hfr, hlo, hK, hlk⟩ := X
  exact fun H locs ls hP hS hl => lv_tableOut hx hb hdg h1 ht (k H locs ls hP hS hl)
theorem z_get {a ci k q idx : Nat} {fs : List Value} {C : String} {T : u_T} {N : Nat} {v : Value} (X : zC0 κ own cc nL d) (he : ws[q]? = some (a, .inr (ci, fs))) (hc : vwCl[ci]? = some (C, T, N)) (hk : k < N) (hin : ∀ w ∈ u_ws C T N, w ∈ zt) (hw : Cond.fieldLink own idx (T k).1 (T k).2.1 (T k).2.2.1 ∈ zt) (hv : fs[k]? = some v) (hdg : decode cc pc = .ok (.getfield idx, 3)) (kk : Z κ nL ws lv (pc + 3) (v :: st)) : Z κ nL ws lv pc (.ref a :: st) := by
  obtain ⟨⟨l, D, A, ε⟩, p, e, R, s, m, args, below, meth, c, Q⟩ := κ
  obtain ⟨hx, hb, hml, hown, hts, hfr, hlo, hK, hlk⟩ := X
  exact fun H locs ls hP hS hl => va_get (D := D) (ci := ci) (C := C) (T := T) (N := N) hx hb hts hin hown hK hP q he hc k hk (hts _ hw) (fun _ h9 => h9) hv hdg (kk H locs ls hP hS hl)
theorem z_put {a ci k q idx : Nat} {fs : List Value} {C : String} {T : u_T} {N : Nat} {v : Value} {ty : FieldType} {ws' : va_W} (X : zC0 κ own cc nL d) (hD : va_D κ.1.2.2.1 ws) (he : ws[q]? = some (a, .inr (ci, fs))) (hc : vwCl[ci]? = some (C, T, N)) (hk : k < N) (hin : ∀ w ∈ u_ws C T N, w ∈ zt) (ty0 : Nat → FieldType) (hty : ∀ k, k < N → parseFieldDescriptor (T k).2.2.1 = some (ty0 k)) (hnm : ∀ a, a < N → ∀ b, b < N → a ≠ b → (T a).2.1 ≠ (T b).2.1) (hw : Cond.fieldLink own idx (T k).1 (T k).2.1 (T k).2.2.1 ∈ zt) (hfin : (T k).2.2.2 = false) (hd : parseFieldDescriptor (T k).2.2.1 = some ty) (hn : narrow ty v = v) (hfit : fits ty v = true) (hlen : k < fs.length) (hws : ws.set q (a, .inr (ci, fs.set k v)) = ws') (hdg : decode cc pc = .ok (.putfield idx, 3)) (kk : Z κ nL ws' lv (pc + 3) st) : Z κ nL ws lv pc (v :: .ref a :: st) := by
  obtain ⟨⟨l, D, A, ε⟩, p, e, R, s, m, args, below, meth, c, Q⟩ := κ
  obtain ⟨hx, hb, hml, hown, hts, hfr, hlo, hK, hlk⟩ := X
  subst hws
  exact fun H locs ls hP hS hl => va_put (D := D) (ci := ci) (C := C) (T := T) (N := N) hx hb hts hin ty0 hty hnm hown hK hP hD hS q he hc k hk (hts _ hw) (fun _ h9 => h9) hfin hd hn hfit hlen hdg (fun H1 locs1 hP1 _ hS1 => kk H1 locs1 ls hP1 hS1 hl)
theorem z_iald {a q n : Nat} {f : Nat → Int32} {i : Int32} {cA : ClassId} (X : zC0 κ own cc nL d) (he : ws[q]? = some (a, .inl (cA, n, .inl f))) (ht : (zty κ.1.2.2.2)[0]? = some (cA, .int)) (hin : vp_in i n) (hdg : decode cc pc = .ok (.iaload, 1)) (kk : Z κ nL ws lv (pc + 1) (.int (f (ix i)) :: st)) : Z κ nL ws lv pc (.int i :: .ref a :: st) := by
  obtain ⟨⟨l, D, A, ε⟩, p, e, R, s, m, args, below, meth, c, Q⟩ := κ
  obtain ⟨hx, hb, hml, hown, hts, hfr, hlo, hK, hlk⟩ := X
  exact fun H locs ls hP hS hl => va_iald hx hb hK hP q 0 he ht hin hdg (kk H locs ls hP hS hl)
theorem z_iast {a q n : Nat} {f : Nat → Int32} {i x : Int32} {cA : ClassId} {ws' : va_W} (X : zC0 κ own cc nL d) (hD : va_D κ.1.2.2.1 ws) (he : ws[q]? = some (a, .inl (cA, n, .inl f))) (ht : (zty κ.1.2.2.2)[0]? = some (cA, .int)) (hin : vp_in i n) (hws : ws.set q (a, .inl (cA, n, .inl (upd f (ix i) x))) = ws') (hdg : decode cc pc = .ok (.iastore, 1)) (kk : Z κ nL ws' lv (pc + 1) st) : Z κ nL ws lv pc (.int x :: .int i :: .ref a :: st) := by
  obtain ⟨⟨l, D, A, ε⟩, p, e, R, s, m, args, below, meth, c, Q⟩ := κ
  obtain ⟨hx, hb, hml, hown, hts, hfr, hlo, hK, hlk⟩ := X
  subst hws
  exact fun H locs ls hP hS hl => va_iast hx hb hK hP hD hS q 0 he ht hin hdg (fun H1 locs1 hP1 _ hS1 => kk H1 locs1 ls hP1 hS1 hl)
theorem z_bald {a q n : Nat} {f : Nat → Int32} {i : Int32} {cA : ClassId} (X : zC0 κ own cc nL d) (he : ws[q]? = some (a, .inl (cA, n, .inl f))) (ht : (zty κ.1.2.2.2)[1]? = some (cA, .boolean)) (hin : vp_in i n) (hdg : decode cc pc = .ok (.baload, 1)) (kk : Z κ nL ws lv (pc + 1) (.int (f (ix i)) :: st)) : Z κ nL ws lv pc (.int i :: .ref a :: st) := by
  obtain ⟨⟨l, D, A, ε⟩, p, e, R, s, m, args, below, meth, c, Q⟩ := κ
  obtain ⟨hx, hb, hml, hown, hts, hfr, hlo, hK, hlk⟩ := X
  exact fun H locs ls hP hS hl => va_zald hx hb hK hP q 1 he ht hin hdg (kk H locs ls hP hS hl)
theorem z_bast {a q n : Nat} {f : Nat → Int32} {i x : Int32} {cA : ClassId} {ws' : va_W} (X : zC0 κ own cc nL d) (hD : va_D κ.1.2.2.1 ws) (he : ws[q]? = some (a, .inl (cA, n, .inl f))) (ht : (zty κ.1.2.2.2)[1]? = some (cA, .boolean)) (hin : vp_in i n) (hx1 : vp_nar .boolean x = x) (hws : ws.set q (a, .inl (cA, n, .inl (upd f (ix i) x))) = ws') (hdg : decode cc pc = .ok (.bastore, 1)) (kk : Z κ nL ws' lv (pc + 1) st) : Z κ nL ws lv pc (.int x :: .int i :: .ref a :: st) := by
  obtain ⟨⟨l, D, A, ε⟩, p, e, R, s, m, args, below, meth, c, Q⟩ := κ
  obtain ⟨hx, hb, hml, hown, hts, hfr, hlo, hK, hlk⟩ := X
  subst hws
  exact fun H locs ls hP hS hl => va_zast hx hb hK hP hD hS q 1 he ht hin hdg (fun H1 locs1 hP1 _ hS1 => kk H1 locs1 ls (by rw [hx1] at hP1; exact hP1) hS1 hl)
theorem z_aald {a q n : Nat} {f : Nat → Option Nat} {i : Int32} {cA b : Nat} (X : zC0 κ own cc nL d) (he : ws[q]? = some (a, .inl (cA, n, .inr (.inr (.inr (.inr f)))))) (ht : (zty κ.1.2.2.2)[2]? = some (cA, .object "MarkerWalks$Sheet")) (hin : vp_in i n) (hf : f (ix i) = some b) (hdg : decode cc pc = .ok (.aaload, 1)) (kk : Z κ nL ws lv (pc + 1) (.ref b :: st)) : Z κ nL ws lv pc (.int i :: .ref a :: st) := by
  obtain ⟨⟨l, D, A, ε⟩, p, e, R, s, m, args, below, meth, c, Q⟩ := κ
  obtain ⟨hx, hb, hml, hown, hts, hfr, hlo, hK, hlk⟩ := X
  exact fun H locs ls hP hS hl => va_aldq hx hb hK hP q 2 he ht hin hdg (by rw [hf]; exact kk H locs ls hP hS hl)
theorem z_alen {a q : Nat} {x : vp_A} {cA : ClassId} {v : Int32} (X : zC0 κ own cc nL d) (he : ws[q]? = some (a, .inl (cA, x))) (ht : (zty κ.1.2.2.2)[0]? = some (cA, .int)) (hv : Int32.ofNat x.1 = v) (hdg : decode cc pc = .ok (.arraylength, 1)) (kk : Z κ nL ws lv (pc + 1) (.int v :: st)) : Z κ nL ws lv pc (.ref a :: st) := by
  obtain ⟨⟨l, D, A, ε⟩, p, e, R, s, m, args, below, meth, c, Q⟩ := κ
  obtain ⟨hx, hb, hml, hown, hts, hfr, hlo, hK, hlk⟩ := X
  exact fun H locs ls hP hS hl => va_alen hx hb hK hP q 0 he ht hv hdg (kk H locs ls hP hS hl)
theorem z_acopy {a a0 q0 q1 n0 n1 idx : Nat} {f g : Nat → Int32} {sp dp n : Int32} {cA : ClassId} {ws' : va_W} (X : zC0 κ own cc nL d) (hd0 : 1 ≤ d) (hD : va_D κ.1.2.2.1 ws) (he0 : ws[q0]? = some (a0, .inl (cA, n0, .inl f))) (he1 : ws[q1]? = some (a, .inl (cA, n1, .inl g))) (ht : (zty κ.1.2.2.2)[0]? = some (cA, .int)) (hq : ¬ sp < 0 ∧ ¬ dp < 0 ∧ ¬ n < 0 ∧ ix sp + ix n ≤ n0 ∧ ix dp + ix n ≤ n1) (h1 : Cond.methodLink own idx arraycopyName ∈ zt) (h2 : Cond.native arraycopyName ∈ zt) (h3 : Cond.static arraycopyName ∈ zt) (h4 : Cond.initialized "java/lang/System" ∈ zt) (hst : (st.map fun v => v.category).sum ≤ 8) (hws : ws.set q1 (a, .inl (cA, n1, .inl (va_cpy f g (ix sp) (ix dp) (ix n)))) = ws') (hdg : decode cc pc = .ok (.invokestatic idx, 3)) (kk : Z κ nL ws' lv (pc + 3) st) : Z κ nL ws lv pc (.int n :: .int dp :: .ref a :: .int sp :: .ref a0 :: st) := by
  obtain ⟨⟨l, D, A, ε⟩, p, e, R, s, m, args, below, meth, c, Q⟩ := κ
  obtain ⟨hx, hb, hml, hown, hts, hfr, hlo, hK, hlk⟩ := X
  subst hws
  have hN : nativeFrameWords "java/lang/System" "arraycopy" 5 + 11 ≤ 32 := by decide +kernel
  exact fun H locs ls hP hS hl => va_copyi (ty := .int) hx hb (hml.trans hl.1.symm) hown (hts _ h1) (hts _ h2) (hts _ h3) (hts _ h4) hK hP hD hS q0 q1 0 0 he0 he1 ht ht rfl hq.1 hq.2.1 hq.2.2.1 hq.2.2.2.1 hq.2.2.2.2 (fun i _ => rfl) (by omega) (by omega) hdg (fun H1 locs1 hP1 _ hS1 => kk H1 locs1 ls hP1 hS1 hl)
theorem z_mmax {idx : Nat} {x y : Int32} (X : zC0 κ own cc nL d) (hd0 : 1 ≤ d) (h1 : Cond.methodLink own idx Lib.Math.max.name ∈ zt) (h2 : Cond.static Lib.Math.max.name ∈ zt) (h3 : Cond.initialized "java/lang/Math" ∈ zt) (h4 : Cond.code Lib.Math.max.name Lib.Math.max.code 2 (some .int) ∈ zt) (hst : (st.map fun v => v.category).sum ≤ 8) (hdg : decode cc pc = .ok (.invokestatic idx, 3)) (kk : Z κ nL ws lv (pc + 3) (.int (if x < y then y else x) :: st)) : Z κ nL ws lv pc (.int y :: .int x :: st) := by
  obtain ⟨⟨l, D, A, ε⟩, p, e, R, s, m, args, below, meth, c, Q⟩ := κ
  obtain ⟨hx, hb, hml, hown, hts, hfr, hlo, hK, hlk⟩ := X
  exact fun H locs ls hP hS hl => va_mmax hx hb (hml.trans hl.1.symm) hown (hts _ h1) (hts _ h2) (hts _ h3) (hts _ h4) (by omega) (by omega) (Nat.zero_le _) (Nat.zero_le _) hdg (kk H locs ls hP hS hl)
theorem z_mmin {idx : Nat} {x y : Int32} (X : zC0 κ own cc nL d) (hd0 : 1 ≤ d) (h1 : Cond.methodLink own idx Lib.Math.min.name ∈ zt) (h2 : Cond.static Lib.Math.min.name ∈ zt) (h3 : Cond.initialized "java/lang/Math" ∈ zt) (h4 : Cond.code Lib.Math.min.name Lib.Math.min.code 2 (some .int) ∈ zt) (hst : (st.map fun v => v.category).sum ≤ 8) (hdg : decode cc pc = .ok (.invokestatic idx, 3)) (kk : Z κ nL ws lv (pc + 3) (.int (if y < x then y else x) :: st)) : Z κ nL ws lv pc (.int y :: .int x :: st) := by
  obtain ⟨⟨l, D, A, ε⟩, p, e, R, s, m, args, below, meth, c, Q⟩ := κ
  obtain ⟨hx, hb, hml, hown, hts, hfr, hlo, hK, hlk⟩ := X
  exact fun H locs ls hP hS hl => va_mmin hx hb (hml.trans hl.1.symm) hown (hts _ h1) (hts _ h2) (hts _ h3) (hts _ h4) (by omega) (by omega) (Nat.zero_le _) (Nat.zero_le _) hdg (kk H locs ls hP hS hl)
theorem z_top {x : Int32} {β : Type} {K : Int32 → Option β} {ρ : Option β} (h : nm x K = ρ) (k : ∀ x1 : Int32, K x1 = ρ → Z κ nL ws lv pc (.int x1 :: st)) : Z κ nL ws lv pc (.int x :: st) := k x h
theorem z_istore_nn {j : Fin 4} {i : Nat} {x : Int32} {β : Type} {K : Int32 → Option β} {ρ : Option β} {lv' : Int32 → List (Nat × Value)} (X : zC0 κ own cc nL d) (hdg : decode cc pc = .ok (.istore_n j, 1)) (hi : (j : Nat) = i) (hn : i < nL) (hl : ∀ x1 : Int32, (i, Value.int x1) :: lv.filter (fun q => !(q.1 == i) && !(q.1 + 1 == i && q.2.category == 2)) = lv' x1) (h : nm x K = ρ) (k : ∀ x1 : Int32, K x1 = ρ → Z κ nL ws (lv' x1) (pc + 1) st) : Z κ nL ws lv pc (.int x :: st) := z_istore_n X hdg hi hn (hl x) (k x h)
theorem z_istore_m {i : Nat} {x : Int32} {β : Type} {K : Int32 → Option β} {ρ : Option β} {lv' : Int32 → List (Nat × Value)} (X : zC0 κ own cc nL d) (hdg : decode cc pc = .ok (.istore i, 2)) (hn : i < nL) (hl : ∀ x1 : Int32, (i, Value.int x1) :: lv.filter (fun q => !(q.1 == i) && !(q.1 + 1 == i && q.2.category == 2)) = lv' x1) (h : nm x K = ρ) (k : ∀ x1 : Int32, K x1 = ρ → Z κ nL ws (lv' x1) (pc + 2) st) : Z κ nL ws lv pc (.int x :: st) := z_istore X hdg hn (hl x) (k x h)
theorem z_iinc_m {i : Nat} {n : Int} {x v : Int32} {β : Type} {K : Int32 → Option β} {ρ : Option β} {lv' : Int32 → List (Nat × Value)} (X : zC0 κ own cc nL d) (hdg : decode cc pc = .ok (.iinc i n, 3)) (q : Nat) (hq : lv[q]? = some (i, .int x)) (hv : Int32.ofInt n = v) (hn : i < nL) (hl : ∀ x1 : Int32, (i, Value.int x1) :: lv.filter (fun q => !(q.1 == i) && !(q.1 + 1 == i && q.2.category == 2)) = lv' x1) (h : nm (x + v) K = ρ) (k : ∀ x1 : Int32, K x1 = ρ → Z κ nL ws (lv' x1) (pc + 3) st) : Z κ nL ws lv pc st := z_iinc X hdg q hq (by rw [hv]) hn (hl _) (k _ h)
/-- behind a call, within one world -/
theorem z_call {l : Launch} {D : va_G} {A : Nat → Prop} {ε : zV} {p : Program} {e : Env} {R : Room} {s : State} {m : MethodId} {args : Array Value} {below : List Frame} {meth : Method} {c : Code} {Q : State → Prop} {wd : zV → S3 → va_W} {H : Heap} {locs : List Loc} {pc : Nat} {ls : Array Slot} {st0 rest : List Value} {a : Array Value} {rv : Option Value} {σ' : S3} (hr : va_Run p l e R s m args below meth c H locs 0 0 0 0 (F0 m pc ls st0) rest (zQc (l, D, A, ε) wd rv σ' a) A) (hS : va_S A s.heap H locs)
    (kk : ∀ (H1 : Heap) (locs1 : List Loc), va_P D vwCl (wd ε σ') H1 → va_S A s.heap H1 locs1 → W p l e R s m args below meth c H1 locs1 0 0 Q (F0 m (pc + 3) ls (rv.toList ++ rest))) : W p l e R s m args below meth c H locs 0 0 Q (F0 m pc ls st0) := by
  intro T hT X
  obtain ⟨v, st₀, t, T', L, h0, X', hL, e1, e2, ⟨hv, hP1, hz, hk⟩, st⟩ := hr T hT X
  cases hv
  rw [h0] at hz hk
  obtain ⟨t2, a1, b1⟩ := kk T'.heap (locs ++ L) (by rw [e1]; exact hP1) ⟨Nat.le_trans hS.1 (by rw [e1]; exact hz), fun q h1 h2 => by rw [e1, hk q (Nat.lt_of_lt_of_le h1 hS.1) h2]; exact hS.2.1 q h1 h2, fun q hq => by
      rcases List.mem_append.mp hq with h | h
      · exact hS.2.2 q h
      · exact hL q h⟩ T' rfl X'
  exact ⟨t2, st t2 a1, b1⟩
theorem z_pre {ζ : zW} {wd : zV → S3 → va_W} {av : List Value} {σ : S3} : FrameBlind (va_Pc av (fun U => va_P ζ.2.1 vwCl (wd (ze ζ) σ) U.heap ∧ va_K ζ.2.1 vwCl (zty (ze ζ)) U)) := fun a U g mk q => by
  obtain ⟨q0, qP, qK⟩ := q
  exact ⟨q0, qP, va_K.moved (u := U) (U := U.calling g mk a) (Vm.Alike.refl U.vm) qK⟩
theorem z_callV {wd : zV → S3 → va_W} {σ σ1 : S3} {idx d1 b q ci n nL1 : Nat} {y : MethodName} {cc1 : ByteArray} {ret1 : Option FieldType} {C : String} {T : u_T} {N : Nat} {fs As rest st0 : List Value} {rv : Option Value} (X : zC0 κ own cc nL d) (hd : d1 + 1 ≤ d) (hM : zMet κ.1 wd d1 y cc1 nL1 ret1 (.ref b :: As) σ rv σ1) (he : (wd (ze κ.1) σ)[q]? = some (b, .inr (ci, fs))) (hc : vwCl[ci]? = some (C, T, N)) (h1 : Cond.methodLink own idx y ∈ zt) (h2 : Cond.instanceMethod y ∈ zt) (h3 : Cond.selects C y y ∈ zt) (h4 : Cond.initialized C ∈ zt) (h5 : Cond.code y cc1 nL1 ret1 ∈ zt) (hn1 : nL1 ≤ 21)
    (hd1 : y.cls = C ∧ y.cls ≠ "java/lang/invoke/MethodHandle" ∧ y.cls ≠ "java/lang/invoke/VarHandle" ∧ (parseMethodDescriptor y.desc).map (fun d => d.parameters.length) = some n) (hn : As.length = n) (hst : st0 = As.reverse ++ .ref b :: rest) (hcat : (rest.map fun v => v.category).sum ≤ 8) (hdg : decode cc pc = .ok (.invokevirtual idx, 3)) (kk : Z κ nL (wd (ze κ.1) σ1) lv (pc + 3) (rv.toList ++ rest)) : Z κ nL (wd (ze κ.1) σ) lv pc st0 := by
  obtain ⟨⟨l, D, A, ε⟩, p, e, R, s, m, args, below, meth, c, Q⟩ := κ
  obtain ⟨hx, hb, hml, hown, hts, hfr, hlo, hK, hlk⟩ := X
  intro H locs ls hP hS hl
  exact z_call (va_runV (As := As) (rest := rest) ⟨hx, hb, hml, hown, hts⟩ hM (cwV n hts (zgV h1 h2 h3 h4 h5) rfl rfl rfl hd1 ⟨show d1 + 1 ≤ R.frames by omega, show 8 + (nL1 + 11) + 40 * d1 ≤ R.locals by omega⟩) ⟨z_pre, va_recv hK hP hc he, fun U hU hW => ⟨rfl, by rw [hU]; exact hP, va_K.moved hW.alike hK⟩⟩ rfl hn hl.1 hst (lv_room hcat) hdg ⟨Nat.zero_le _, Nat.zero_le _⟩) hS (fun H1 locs1 hP1 hS1 => kk H1 locs1 ls hP1 hS1 hl)
theorem z_callS {wd : zV → S3 → va_W} {σ σ1 : S3} {idx d1 n nL1 : Nat} {y : MethodName} {cc1 : ByteArray} {ret1 : Option FieldType} {As rest st0 : List Value} {rv : Option Value} (X : zC0 κ own cc nL d) (hd : d1 + 1 ≤ d) (hM : zMet κ.1 wd d1 y cc1 nL1 ret1 As σ rv σ1) (h1 : Cond.methodLink own idx y ∈ zt) (h2 : Cond.static y ∈ zt) (h4 : Cond.initialized y.cls ∈ zt) (h5 : Cond.code y cc1 nL1 ret1 ∈ zt) (hn1 : nL1 ≤ 21)
    (hd1 : y.cls ≠ "java/lang/invoke/MethodHandle" ∧ y.cls ≠ "java/lang/invoke/VarHandle" ∧ (parseMethodDescriptor y.desc).map (fun d => d.parameters.length) = some n) (hn : As.length = n) (hst : st0 = As.reverse ++ rest) (hcat : (rest.map fun v => v.category).sum ≤ 8) (hdg : decode cc pc = .ok (.invokestatic idx, 3)) (kk : Z κ nL (wd (ze κ.1) σ1) lv (pc + 3) (rv.toList ++ rest)) : Z κ nL (wd (ze κ.1) σ) lv pc st0 := by
  obtain ⟨⟨l, D, A, ε⟩, p, e, R, s, m, args, below, meth, c, Q⟩ := κ
  obtain ⟨hx, hb, hml, hown, hts, hfr, hlo, hK, hlk⟩ := X
  intro H locs ls hP hS hl
  exact z_call (va_runS (As := As) (rest := rest) ⟨hx, hb, hml, hown, hts⟩ hM (va_cwS n hts (zgS h1 h2 h4 h5) rfl rfl rfl hd1 ⟨show d1 + 1 ≤ R.frames by omega, show 8 + (nL1 + 11) + 40 * d1 ≤ R.locals by omega⟩) ⟨z_pre, fun U hU hW => ⟨rfl, by rw [hU]; exact hP, va_K.moved hW.alike hK⟩⟩ rfl hn hl.1 hst (lv_room hcat) hdg ⟨Nat.zero_le _, Nat.zero_le _⟩) hS (fun H1 locs1 hP1 hS1 => kk H1 locs1 ls hP1 hS1 hl)
theorem z_iret {wd : zV → S3 → va_W} {σ σ' : S3} {v r : Int32} (X : zC κ wd own cc nL (some .int) d (some (.int r)) σ') (hdg : decode cc pc = .ok (.ireturn, 1)) (h : some (v, σ) = some (r, σ')) : Z κ nL (wd (ze κ.1) σ) lv pc [.int v] := by
  obtain ⟨⟨l, D, A, ε⟩, p, e, R, s, m, args, below, meth, c, Q⟩ := κ
  obtain ⟨⟨hx, hb, hml, hown, hts, hfr, hlo, hK, hlk⟩, -, hr, rfl⟩ := X
  cases h
  exact fun H locs ls hP hS hl => W.iret hx hb hr (fun t ht hW => ⟨rfl, by rw [ht]; exact hP, hS.F ht⟩) hS.2.2 hdg hlk
theorem z_zret {wd : zV → S3 → va_W} {σ σ' : S3} {v r : Int32} (X : zC κ wd own cc nL (some .boolean) d (some (.int r)) σ') (hdg : decode cc pc = .ok (.ireturn, 1)) (hv : v = 0 ∨ v = 1) (h : some (v, σ) = some (r, σ')) : Z κ nL (wd (ze κ.1) σ) lv pc [.int v] := by
  obtain ⟨⟨l, D, A, ε⟩, p, e, R, s, m, args, below, meth, c, Q⟩ := κ
  obtain ⟨⟨hx, hb, hml, hown, hts, hfr, hlo, hK, hlk⟩, -, hr, rfl⟩ := X
  cases h
  exact fun H locs ls hP hS hl => W.zret hx hb hr (by rcases hv with rfl | rfl <;> decide +kernel) (fun t ht hW => ⟨rfl, by rw [ht]; exact hP, hS.F ht⟩) hS.2.2 hdg hlk
theorem z_vret {wd : zV → S3 → va_W} {σ σ' : S3} {r : Int32} (X : zC κ wd own cc nL none d none σ') (hdg : decode cc pc = .ok (.return_, 1)) (h : some ((0 : Int32), σ) = some (r, σ')) : Z κ nL (wd (ze κ.1) σ) lv pc [] := by
  obtain ⟨⟨l, D, A, ε⟩, p, e, R, s, m, args, below, meth, c, Q⟩ := κ
  obtain ⟨⟨hx, hb, hml, hown, hts, hfr, hlo, hK, hlk⟩, -, hr, rfl⟩ := X
  cases h
  exact fun H locs ls hP hS hl => W.vret hx hb hr (fun t ht hW => ⟨rfl, by rw [ht]; exact hP, hS.F ht⟩) hS.2.2 hdg hlk
end ZROWS
theorem zMet_of {ζ : zW} {wd : zV → S3 → va_W} {d : Nat} {y : MethodName} {cc : ByteArray} {nL : Nat} {ret : Option FieldType} {av : List Value} {σ : S3} {rv : Option Value} {σ' : S3} (hy : plainName y.cls = true) (hZ : zDis ζ wd) (hlen : (lg_sl av).length ≤ nL)
    (B : ∀ κ : zT, κ.1 = ζ → zC κ wd y.cls cc nL ret d rv σ' → Z κ nL (wd (ze κ.1) σ) (lv_args 0 av) 0 []) : zMet ζ wd d y cc nL ret av σ rv σ' := by
  obtain ⟨l, D, A, ε⟩ := ζ
  refine Met.ofW (cc := cc) (maxL := nL) (ret := ret) hy rfl ?_
  intro p e s m args below meth c s₁ B1 hml hv
  obtain ⟨rfl, hP, hK⟩ := hv
  have hts : ∀ w ∈ zt, w.before av.toArray s = true := fun w hw => atoms_spec (ws := zws y cc nL ret) B1.pre w (List.mem_cons_of_mem _ hw)
  have X : zC ((l, D, A, ε), p, e, (headSpec (zws y cc nL ret) { frames := d, cells := 0, slots := 0, locals := 40 * d }).room, s, m, av.toArray, below, meth, c, MQ below (zQc (l, D, A, ε) wd rv σ') av.toArray s 0 0 A) wd y.cls cc nL ret d rv σ' :=
    ⟨⟨B1.exec, B1.bytes, hml, findClass_of_methodNamed B1.named, hts, Nat.le_refl _, Nat.le_refl _, hK, B1.notSynchronized⟩, hZ, B1.returns, rfl⟩
  have hl := lv_entry av (n := nL) hlen
  rw [lg_entry_eq]
  exact B _ rfl X s.heap [] _ hP va_S.rf hl
