/-! THE CLAIM OUT OF ONE WALK OF THE LAW'S BODY. Your part is whole_start (and what it stands on); all else here is the same for every law, but numbers. -/
def R_law : String := "MarkerWalksLaw"
def lw_P (b : Addr) (xs : List Int32) (args : Array Value) (s : State) : Prop := args = #[.ref b] ∧ s.IntsAt b xs ∧ xs.length ≤ 3072 ∧ (Jvm.Cond.and given_1 narrow_1).before args s = true
def lw_Q (_ : Array Value) (s : State) (o : Outcome) (t : State) : Prop := o = .returned (some (.int 1)) ∧ Framed s o t [] 600000 7302250
def lw_Z (below : List Frame) (a : Array Value) (s : State) : State → Prop := fun t => ∃ o, t.status = .running ∧ Ended t below o ∧ lw_Q a s o t
/-- the law's own end, with 1 on the stack, nothing written that was there before, its room as the claim has it -/
theorem lw_ret {p : Program} {l : Launch} {e : Env} {s : State} {m : MethodId} {below : List Frame} {meth : Method} {c : Code} {b : Nat} (hx : p.tables.exec = Jvm.exec) (hb : c.code = code) (hr : meth.sig.returnType = ret) (hlocks : meth.locks = false) {pc : Nat} {H : Heap} {ls : Array Slot} (hdg : decode code pc = .ok (.ireturn, 1)) : W p l e room_1 s m #[Value.ref b] below meth c H [] 600000 7302250 (lw_Z below #[Value.ref b] s) (F0 m pc ls [.int 1]) := by
  intro T hT X
  obtain ⟨fs, hret, hrun, hended, hW, hframe⟩ := X.leave (v := some (.int 1)) (hlocks := hlocks) (fun h => by rw [hr] at h; cases h)
  have hmeth' : T.vm.method? m = some meth := X.method'
  refine ⟨T.setFrames fs, ?_, .returned (some (.int 1)), hrun, hended, rfl, ⟨_, rfl⟩, hW, hframe⟩
  jvm_step X.here [X.here.top, hx, hb, hdg, hmeth', hr, ret, narrow_b1]
  (try refine ⟨rfl, ?_⟩); (try refine ⟨rfl, ?_⟩)
  first | (intro acts; rw [hret _ acts rfl rfl rfl]) | rw [hret _ _ rfl rfl rfl]
  exact Steps.refl _
/-- what holds at the law's entry: the machine, the code, the tables' words (any of lw_tbl by 'hts w (by decide +kernel)'), the script of L ints xs at the cell b, what the Statement gives of the start (any of its parts by flat_of_before) -/
def lw_At (p : Program) (s : State) (m : MethodId) (meth : Method) (c : Code) (b L : Nat) (xs : Nat → Int32) : Prop :=
  p.tables.exec = Jvm.exec ∧ c.code = code ∧ meth.sig.returnType = ret ∧ c.maxLocals = 4 ∧ s.vm.findClass R_law = some m.cls ∧ (∀ w ∈ lw_tbl, w.before #[Value.ref b] s = true) ∧ va_X b L xs s s.heap ∧ b < s.heap.size ∧ meth.locks = false ∧ (Jvm.Cond.and given_1 narrow_1).before #[Value.ref b] s = true
section ZLAW
variable {κ : zT} {own : String} {cc : ByteArray} {nL d mc ms kc ks : Nat} {ws : va_W} {lv : List (Nat × Value)} {pc : Nat} {st : List Value}
theorem a_iadd {x y : Int32} (X : zCA κ own cc nL d mc ms) (hdg : decode cc pc = .ok (.iadd, 1)) (k : ZA κ nL ws lv (pc + 1) (.int (x + y) :: st) kc ks) : ZA κ nL ws lv pc (.int y :: .int x :: st) kc ks := by
  obtain ⟨⟨l, D, A, ε⟩, p, e, R, s, m, args, below, meth, c, Q⟩ := κ
  obtain ⟨⟨hx, hb, hml, hown, hts, hfr, hlo, hK, hlk⟩, hmc, hms, hA⟩ := X
  exact fun H locs ls hP hD hS hl => lv_iadd hx hb hdg (k H locs ls hP hD hS hl)
theorem a_isub {x y : Int32} (X : zCA κ own cc nL d mc ms) (hdg : decode cc pc = .ok (.isub, 1)) (k : ZA κ nL ws lv (pc + 1) (.int (x - y) :: st) kc ks) : ZA κ nL ws lv pc (.int y :: .int x :: st) kc ks := by
  obtain ⟨⟨l, D, A, ε⟩, p, e, R, s, m, args, below, meth, c, Q⟩ := κ
  obtain ⟨⟨hx, hb, hml, hown, hts, hfr, hlo, hK, hlk⟩, hmc, hms, hA⟩ := X
  exact fun H locs ls hP hD hS hl => lv_isub hx hb hdg (k H locs ls hP hD hS hl)
theorem a_iand {x y : Int32} (X : zCA κ own cc nL d mc ms) (hdg : decode cc pc = .ok (.iand, 1)) (k : ZA κ nL ws lv (pc + 1) (.int (x &&& y) :: st) kc ks) : ZA κ nL ws lv pc (.int y :: .int x :: st) kc ks := by
  obtain ⟨⟨l, D, A, ε⟩, p, e, R, s, m, args, below, meth, c, Q⟩ := κ
  obtain ⟨⟨hx, hb, hml, hown, hts, hfr, hlo, hK, hlk⟩, hmc, hms, hA⟩ := X
  exact fun H locs ls hP hD hS hl => lv_iand hx hb hdg (k H locs ls hP hD hS hl)
theorem a_i2l {x : Int32} (X : zCA κ own cc nL d mc ms) (hdg : decode cc pc = .ok (.i2l, 1)) (k : ZA κ nL ws lv (pc + 1) (.long x.toInt64 :: st) kc ks) : ZA κ nL ws lv pc (.int x :: st) kc ks := by
  obtain ⟨⟨l, D, A, ε⟩, p, e, R, s, m, args, below, meth, c, Q⟩ := κ
  obtain ⟨⟨hx, hb, hml, hown, hts, hfr, hlo, hK, hlk⟩, hmc, hms, hA⟩ := X
  exact fun H locs ls hP hD hS hl => lv_i2l hx hb hdg rfl (k H locs ls hP hD hS hl)
theorem a_land {x y : Int64} (X : zCA κ own cc nL d mc ms) (hdg : decode cc pc = .ok (.land, 1)) (k : ZA κ nL ws lv (pc + 1) (.long (x &&& y) :: st) kc ks) : ZA κ nL ws lv pc (.long y :: .long x :: st) kc ks := by
  obtain ⟨⟨l, D, A, ε⟩, p, e, R, s, m, args, below, meth, c, Q⟩ := κ
  obtain ⟨⟨hx, hb, hml, hown, hts, hfr, hlo, hK, hlk⟩, hmc, hms, hA⟩ := X
  exact fun H locs ls hP hD hS hl => lv_land hx hb hdg (k H locs ls hP hD hS hl)
theorem a_lor {x y : Int64} (X : zCA κ own cc nL d mc ms) (hdg : decode cc pc = .ok (.lor, 1)) (k : ZA κ nL ws lv (pc + 1) (.long (x ||| y) :: st) kc ks) : ZA κ nL ws lv pc (.long y :: .long x :: st) kc ks := by
  obtain ⟨⟨l, D, A, ε⟩, p, e, R, s, m, args, below, meth, c, Q⟩ := κ
  obtain ⟨⟨hx, hb, hml, hown, hts, hfr, hlo, hK, hlk⟩, hmc, hms, hA⟩ := X
  exact fun H locs ls hP hD hS hl => lv_lor hx hb hdg (k H locs ls hP hD hS hl)
theorem a_lshl {x : Int64} {y : Int32} (X : zCA κ own cc nL d mc ms) (hdg : decode cc pc = .ok (.lshl, 1)) (k : ZA κ nL ws lv (pc + 1) (.long (x <<< (y.toInt64 &&& 63)) :: st) kc ks) : ZA κ nL ws lv pc (.int y :: .long x :: st) kc ks := by
  obtain ⟨⟨l, D, A, ε⟩, p, e, R, s, m, args, below, meth, c, Q⟩ := κ
  obtain ⟨⟨hx, hb, hml, hown, hts, hfr, hlo, hK, hlk⟩, hmc, hms, hA⟩ := X
  exact fun H locs ls hP hD hS hl => lv_lshl hx hb hdg rfl (k H locs ls hP hD hS hl)
theorem a_ldc2_w {idx : Nat} {v : Int64} (X : zCA κ own cc nL d mc ms) (hdg : decode cc pc = .ok (.ldc2_w idx, 3)) (hw : Cond.constantLong own idx v ∈ zt) (k : ZA κ nL ws lv (pc + 3) (.long v :: st) kc ks) : ZA κ nL ws lv pc (st) kc ks := by
  obtain ⟨⟨l, D, A, ε⟩, p, e, R, s, m, args, below, meth, c, Q⟩ := κ
  obtain ⟨⟨hx, hb, hml, hown, hts, hfr, hlo, hK, hlk⟩, hmc, hms, hA⟩ := X
  exact fun H locs ls hP hD hS hl => lv_ldc2 hx hb hown (hts _ hw) hdg (k H locs ls hP hD hS hl)
theorem a_icmp_eq_t {x : Int32} {off : Int} {tgt : Nat} (X : zCA κ own cc nL d mc ms) (hdg : decode cc pc = .ok (.if_icmp .eq off, 3)) (ht : (pc : Int) + off = (tgt : Int)) (k : ZA κ nL ws lv tgt st kc ks) : ZA κ nL ws lv pc (.int x :: .int x :: st) kc ks := by
  obtain ⟨⟨l, D, A, ε⟩, p, e, R, s, m, args, below, meth, c, Q⟩ := κ
  obtain ⟨⟨hx, hb, hml, hown, hts, hfr, hlo, hK, hlk⟩, hmc, hms, hA⟩ := X
  exact fun H locs ls hP hD hS hl => lv_icmp_eq hx hb hdg ht (fun _ => (k H locs ls hP hD hS hl)) (fun q => absurd rfl q)
theorem a_icmp_gt {x y : Int32} {off : Int} {tgt : Nat} (X : zCA κ own cc nL d mc ms) (hdg : decode cc pc = .ok (.if_icmp .gt off, 3)) (ht : (pc : Int) + off = (tgt : Int)) (kt : y < x → ZA κ nL ws lv tgt st kc ks) (kf : ¬ y < x → ZA κ nL ws lv (pc + 3) st kc ks) : ZA κ nL ws lv pc (.int y :: .int x :: st) kc ks := by
  obtain ⟨⟨l, D, A, ε⟩, p, e, R, s, m, args, below, meth, c, Q⟩ := κ
  obtain ⟨⟨hx, hb, hml, hown, hts, hfr, hlo, hK, hlk⟩, hmc, hms, hA⟩ := X
  exact fun H locs ls hP hD hS hl => lv_icmp_gt hx hb hdg ht (fun q => kt q H locs ls hP hD hS hl) (fun q => kf q H locs ls hP hD hS hl)
theorem a_tabIn {dflt lo hi : Int} {offs : Array Int} {len : Nat} {x v : Int32} {off : Int} {tgt : Nat} (X : zCA κ own cc nL d mc ms) (hdg : decode cc pc = .ok (.tableswitch dflt lo hi offs, len)) (hv : x = v) (h1 : ¬ v.toInt < lo) (h2 : ¬ hi < v.toInt) (ho : offs[(v.toInt - lo).toNat]? = some off) (ht : (pc : Int) + off = (tgt : Int)) (k : ZA κ nL ws lv tgt st kc ks) : ZA κ nL ws lv pc (.int x :: st) kc ks := by
  obtain ⟨⟨l, D, A, ε⟩, p, e, R, s, m, args, below, meth, c, Q⟩ := κ
  obtain ⟨⟨hx, hb, hml, hown, hts, hfr, hlo, hK, hlk⟩, hmc, hms, hA⟩ := X
  subst hv
  exact fun H locs ls hP hD hS hl => lv_tableIn hx hb hdg h1 h2 ho ht (k H locs ls hP hD hS hl)
theorem a_tabOut {dflt lo hi : Int} {offs : Array Int} {len : Nat} {x : Int32} {tgt : Nat} (X : zCA κ own cc nL d mc ms) (hdg : decode cc pc = .ok (.tableswitch dflt lo hi offs, len)) (h1 : x.toInt < lo ∨ hi < x.toInt) (ht : (pc : Int) + dflt = (tgt : Int)) (k : ZA κ nL ws lv tgt st kc ks) : ZA κ nL ws lv pc (.int x :: st) kc ks := by
  obtain ⟨⟨l, D, A, ε⟩, p, e, R, s, m, args, below, meth, c, Q⟩ := κ
  obtain ⟨⟨hx, hb, hml, hown, hts, hfr, hlo, hK, hlk⟩, hmc, hms, hA⟩ := X
  exact fun H locs ls hP hD hS hl => lv_tableOut hx hb hdg h1 ht (k H locs ls hP hD hS hl)
theorem a_sld {b L : Nat} {xs : Nat → Int32} {i : Int32} (X : zCA κ own cc nL d mc ms) (hX : va_X b L xs κ.2.2.2.2.1 κ.2.2.2.2.1.heap) (hbl : b < κ.2.2.2.2.1.heap.size) (hbA : ¬ κ.1.2.2.1 b) (hin : vp_in i L) (hdg : decode cc pc = .ok (.iaload, 1)) (k : ZA κ nL ws lv (pc + 1) (.int (xs (ix i)) :: st) kc ks) : ZA κ nL ws lv pc (.int i :: .ref b :: st) kc ks := by
  obtain ⟨⟨l, D, A, ε⟩, p, e, R, s, m, args, below, meth, c, Q⟩ := κ
  obtain ⟨⟨hx, hb, hml, hown, hts, hfr, hlo, hK, hlk⟩, hmc, hms, hA⟩ := X
  exact fun H locs ls hP hD hS hl => va_sld hx hb hX hbl hbA hS hin hdg (k H locs ls hP hD hS hl)
theorem a_slen {b L : Nat} {xs : Nat → Int32} (X : zCA κ own cc nL d mc ms) (hX : va_X b L xs κ.2.2.2.2.1 κ.2.2.2.2.1.heap) (hbl : b < κ.2.2.2.2.1.heap.size) (hbA : ¬ κ.1.2.2.1 b) (hdg : decode cc pc = .ok (.arraylength, 1)) (k : ZA κ nL ws lv (pc + 1) (.int (nI L) :: st) kc ks) : ZA κ nL ws lv pc (.ref b :: st) kc ks := by
  obtain ⟨⟨l, D, A, ε⟩, p, e, R, s, m, args, below, meth, c, Q⟩ := κ
  obtain ⟨⟨hx, hb, hml, hown, hts, hfr, hlo, hK, hlk⟩, hmc, hms, hA⟩ := X
  exact fun H locs ls hP hD hS hl => va_slen hx hb hX hbl hbA hS hdg (k H locs ls hP hD hS hl)
end ZLAW
theorem va_D_fst {A : Nat → Prop} {w w' : va_W} (h : w.map Prod.fst = w'.map Prod.fst) (hD : va_D A w) : va_D A w' := by
  have key : ∀ (k : Nat) (q : Nat × va_E), w'[k]? = some q → ∃ q0, w[k]? = some q0 ∧ q0.1 = q.1 := by
    intro k q hk
    have h1 : (w'.map Prod.fst)[k]? = some q.1 := by rw [List.getElem?_map, hk]; rfl
    rw [← h, List.getElem?_map] at h1
    cases hq : w[k]? with
    | none => rw [hq] at h1; cases h1
    | some q0 => rw [hq] at h1; exact ⟨q0, rfl, Option.some.inj h1⟩
  refine ⟨fun i j x y hi hj hxy => ?_, fun k q hk => ?_⟩
  · obtain ⟨x0, a1, a2⟩ := key i x hi
    obtain ⟨y0, b1, b2⟩ := key j y hj
    exact hD.1 i j x0 y0 a1 b1 (a2.trans (hxy.trans b2.symm))
  · obtain ⟨q0, a1, a2⟩ := key k q hk
    rw [← a2]; exact hD.2 k q0 a1
/-- the addresses of a world -/
def zAd (w : va_W) : Nat → Prop := fun q => ∃ (k : Nat) (e : va_E), w[k]? = some (q, e)
theorem zAd_dis {A : Nat → Prop} {w w' : va_W} (h : w.map Prod.fst = w'.map Prod.fst) (hD : va_D A w) : va_D (zAd w) w' := va_D_fst h ⟨hD.1, fun k q hk => ⟨k, q.2, hk⟩⟩
theorem va_P_l {D : va_G} {w1 w2 : va_W} {H : Heap} (h : va_P D vwCl (w1 ++ w2) H) : va_P D vwCl w1 H := fun k q hk => h k q (by rw [List.getElem?_append_left (List.getElem?_eq_some_iff.mp hk).1]; exact hk)
theorem va_P_r {D : va_G} {w1 w2 : va_W} {H : Heap} (h : va_P D vwCl (w1 ++ w2) H) : va_P D vwCl w2 H := fun k q hk => h (w1.length + k) q (by rw [List.getElem?_append_right (by omega), Nat.add_sub_cancel_left]; exact hk)
theorem va_D_l {A : Nat → Prop} {w1 w2 : va_W} (h : va_D A (w1 ++ w2)) : va_D A w1 := by
  have key : ∀ (k : Nat) (q : Nat × va_E), w1[k]? = some q → (w1 ++ w2)[k]? = some q := fun k q hk => by rw [List.getElem?_append_left (List.getElem?_eq_some_iff.mp hk).1]; exact hk
  exact ⟨fun i j x y hi hj hxy => h.1 i j x y (key i x hi) (key j y hj) hxy, fun k q hk => h.2 k q (key k q hk)⟩
theorem va_D_r {A : Nat → Prop} {w1 w2 : va_W} (h : va_D A (w1 ++ w2)) : va_D A w2 := by
  have key : ∀ (k : Nat) (q : Nat × va_E), w2[k]? = some q → (w1 ++ w2)[w1.length + k]? = some q := fun k q hk => by rw [List.getElem?_append_right (by omega), Nat.add_sub_cancel_left]; exact hk
  exact ⟨fun i j x y hi hj hxy => by have := h.1 _ _ x y (key i x hi) (key j y hj) hxy; omega, fun k q hk => h.2 _ q (key k q hk)⟩
theorem va_D_lr {A : Nat → Prop} {w1 w2 : va_W} (h : va_D A (w1 ++ w2)) : (∀ (k : Nat) (q : Nat × va_E), w2[k]? = some q → ¬ zAd w1 q.1) ∧ ∀ (k : Nat) (q : Nat × va_E), w1[k]? = some q → ¬ zAd w2 q.1 := by
  have k1 : ∀ (k : Nat) (q : Nat × va_E), w1[k]? = some q → k < w1.length ∧ (w1 ++ w2)[k]? = some q := fun k q hk => ⟨(List.getElem?_eq_some_iff.mp hk).1, by rw [List.getElem?_append_left (List.getElem?_eq_some_iff.mp hk).1]; exact hk⟩
  have k2 : ∀ (k : Nat) (q : Nat × va_E), w2[k]? = some q → (w1 ++ w2)[w1.length + k]? = some q := fun k q hk => by rw [List.getElem?_append_right (by omega), Nat.add_sub_cancel_left]; exact hk
  refine ⟨fun k q hk ha => ?_, fun k q hk ha => ?_⟩
  · obtain ⟨j, e, hj⟩ := ha
    have := h.1 _ _ q (q.1, e) (k2 k q hk) (k1 j _ hj).2 rfl
    have := (k1 j _ hj).1
    omega
  · obtain ⟨j, e, hj⟩ := ha
    have := h.1 _ _ q (q.1, e) (k1 k q hk).2 (k2 j _ hj) rfl
    have := (k1 k _ hk).1
    omega
/-- behind a call of one of two worlds: the other one stays -/
theorem a_call2 {l : Launch} {D : va_G} {A Ac : Nat → Prop} {εc : zV} {p : Program} {e : Env} {R : Room} {s : State} {m : MethodId} {args : Array Value} {below : List Frame} {meth : Method} {c : Code} {Q : State → Prop} {wd : zV → S3 → va_W} {H : Heap} {locs : List Loc} {pc kc ks : Nat} {ls : Array Slot} {st0 rest : List Value} {a : Array Value} {r : Int32} {σ' : S3} (hr : va_Run p l e R s m args below meth c H locs kc ks 0 0 (F0 m pc ls st0) rest (zQc (l, D, Ac, εc) wd (some (.int r)) σ' a) Ac) (hsub : ∀ q, Ac q → A q) (hS : va_S A s.heap H locs) (wo : va_W) (hPo : va_P D vwCl wo H) (hap : ∀ (k : Nat) (q : Nat × va_E), wo[k]? = some q → ¬ Ac q.1)
    (kk : ∀ (H1 : Heap) (locs1 : List Loc), va_P D vwCl (wd εc σ') H1 → va_P D vwCl wo H1 → va_S A s.heap H1 locs1 → W p l e R s m args below meth c H1 locs1 kc ks Q (F0 m (pc + 3) ls (.int r :: rest))) : W p l e R s m args below meth c H locs kc ks Q (F0 m pc ls st0) := by
  intro T hT X
  obtain ⟨v, st₀, t, T', L, h0, X', hL, e1, e2, ⟨hv, hP1, hz, hk⟩, st⟩ := hr T hT X
  cases hv
  rw [h0] at hz hk
  obtain ⟨t2, a1, b1⟩ := kk T'.heap (locs ++ L) (by rw [e1]; exact hP1) (hPo.kept (fun k q hq => by rw [e1]; exact hk q.1 (hPo k q hq).lt (hap k q hq))) ⟨Nat.le_trans hS.1 (by rw [e1]; exact hz), fun q h1 h2 => by rw [e1, hk q (Nat.lt_of_lt_of_le h1 hS.1) (fun z => h2 (hsub q z))]; exact hS.2.1 q h1 h2, fun q hq => by
      rcases List.mem_append.mp hq with h | h
      · exact hS.2.2 q h
      · exact hsub _ (hL q h)⟩ T' rfl X'
  exact ⟨t2, st t2 a1, b1⟩
theorem zty_eq {ε ε' : zV} (h : ε.1 = ε'.1) : zty ε = zty ε' := by unfold zty; rw [h]
section ZLAW2
variable {κ : zT} {own : String} {cc : ByteArray} {nL d mc ms kc ks : Nat} {lv : List (Nat × Value)} {pc : Nat} {st : List Value} {εX εM : zV} {σ σ1 τ τ1 : S3} {d1 idx n nL1 : Nat} {y : MethodName} {cc1 : ByteArray} {As rest st0 : List Value} {r : Int32}
theorem a_callX (X : zCA κ own cc nL d mc ms) (h3 : εX.1 = κ.1.2.2.2.1) (hd : d1 + 1 ≤ d) (hkc : kc ≤ mc) (hks : ks ≤ ms) (hM : ∀ Ac : Nat → Prop, zDis (κ.1.1, κ.1.2.1, Ac, εX) zX → zMet (κ.1.1, κ.1.2.1, Ac, εX) zX d1 y cc1 nL1 (some .int) (.ref (εX.2.1 0) :: As) σ (some (.int r)) σ1) (h1 : Cond.methodLink own idx y ∈ zt) (h2 : Cond.instanceMethod y ∈ zt) (h3s : Cond.selects RX8 y y ∈ zt) (h4 : Cond.initialized RX8 ∈ zt) (h5 : Cond.code y cc1 nL1 (some .int) ∈ zt) (hn1 : nL1 ≤ 21)
    (hd1 : y.cls = RX8 ∧ y.cls ≠ "java/lang/invoke/MethodHandle" ∧ y.cls ≠ "java/lang/invoke/VarHandle" ∧ (parseMethodDescriptor y.desc).map (fun d => d.parameters.length) = some n) (hn : As.length = n) (hst : st0 = As.reverse ++ .ref (εX.2.1 0) :: rest) (hcat : (rest.map fun v => v.category).sum ≤ 8) (hdg : decode cc pc = .ok (.invokevirtual idx, 3)) (kk : ZA κ nL (zX εX σ1 ++ zM εM τ) lv (pc + 3) (.int r :: rest) kc ks) : ZA κ nL (zX εX σ ++ zM εM τ) lv pc st0 kc ks := by
  obtain ⟨⟨l, D, A, ε⟩, p, e, R, s, m, args, below, meth, c, Q⟩ := κ
  obtain ⟨⟨hx, hb, hml, hown, hts, hfr, hlo, hK, hlk⟩, hmc, hms, hA⟩ := X
  intro H locs ls hP hD hS hl
  have hPc := va_P_l hP
  have hDis : ∀ s9 : S3, va_D (zAd (zX εX σ)) (zX εX s9) := fun s9 => zAd_dis rfl (va_D_l hD)
  refine a_call2 (va_runV (C := RX8) (As := As) (rest := rest) ⟨hx, hb, hml, hown, hts⟩ (hM (zAd (zX εX σ)) hDis) (cwV n hts (zgV h1 h2 h3s h4 h5) rfl rfl rfl hd1 ⟨show d1 + 1 ≤ R.frames by omega, show 8 + (nL1 + 11) + 40 * d1 ≤ R.locals by omega⟩) ⟨z_pre, va_recv (ci := 7) (q0 := 0) hK hPc rfl rfl, fun U hU hW => ⟨rfl, by rw [hU]; exact hPc, va_K.moved hW.alike (by rw [show zty (ze ((l, D, zAd (zX εX σ), εX) : zW)) = zty ε from zty_eq h3]; exact hK)⟩⟩ rfl hn hl.1 hst (lv_room hcat) hdg ⟨by omega, by omega⟩) (fun q hq => ?_) hS (zM εM τ) (va_P_r hP) ((va_D_lr hD).1) (fun H1 locs1 hP1 hPo hS1 => kk H1 locs1 ls (hP1.app hPo) (va_D_fst (w := zX εX σ ++ zM εM τ) (w' := zX εX σ1 ++ zM εM τ) rfl hD) hS1 hl)
  obtain ⟨k, e9, hk⟩ := hq
  exact (va_D_l hD).2 k _ hk
theorem a_callM (X : zCA κ own cc nL d mc ms) (h3 : εM.1 = κ.1.2.2.2.1) (hd : d1 + 1 ≤ d) (hkc : kc ≤ mc) (hks : ks ≤ ms) (hM : ∀ Ac : Nat → Prop, zDis (κ.1.1, κ.1.2.1, Ac, εM) zM → zMet (κ.1.1, κ.1.2.1, Ac, εM) zM d1 y cc1 nL1 (some .int) (.ref (εM.2.1 0) :: As) τ (some (.int r)) τ1) (h1 : Cond.methodLink own idx y ∈ zt) (h2 : Cond.instanceMethod y ∈ zt) (h3s : Cond.selects RX9 y y ∈ zt) (h4 : Cond.initialized RX9 ∈ zt) (h5 : Cond.code y cc1 nL1 (some .int) ∈ zt) (hn1 : nL1 ≤ 21)
    (hd1 : y.cls = RX9 ∧ y.cls ≠ "java/lang/invoke/MethodHandle" ∧ y.cls ≠ "java/lang/invoke/VarHandle" ∧ (parseMethodDescriptor y.desc).map (fun d => d.parameters.length) = some n) (hn : As.length = n) (hst : st0 = As.reverse ++ .ref (εM.2.1 0) :: rest) (hcat : (rest.map fun v => v.category).sum ≤ 8) (hdg : decode cc pc = .ok (.invokevirtual idx, 3)) (kk : ZA κ nL (zX εX σ ++ zM εM τ1) lv (pc + 3) (.int r :: rest) kc ks) : ZA κ nL (zX εX σ ++ zM εM τ) lv pc st0 kc ks := by
  obtain ⟨⟨l, D, A, ε⟩, p, e, R, s, m, args, below, meth, c, Q⟩ := κ
  obtain ⟨⟨hx, hb, hml, hown, hts, hfr, hlo, hK, hlk⟩, hmc, hms, hA⟩ := X
  intro H locs ls hP hD hS hl
  have hPc := va_P_r hP
  have hDis : ∀ s9 : S3, va_D (zAd (zM εM τ)) (zM εM s9) := fun s9 => zAd_dis rfl (va_D_r hD)
  refine a_call2 (va_runV (C := RX9) (As := As) (rest := rest) ⟨hx, hb, hml, hown, hts⟩ (hM (zAd (zM εM τ)) hDis) (cwV n hts (zgV h1 h2 h3s h4 h5) rfl rfl rfl hd1 ⟨show d1 + 1 ≤ R.frames by omega, show 8 + (nL1 + 11) + 40 * d1 ≤ R.locals by omega⟩) ⟨z_pre, va_recv (ci := 8) (q0 := 0) hK hPc rfl rfl, fun U hU hW => ⟨rfl, by rw [hU]; exact hPc, va_K.moved hW.alike (by rw [show zty (ze ((l, D, zAd (zM εM τ), εM) : zW)) = zty ε from zty_eq h3]; exact hK)⟩⟩ rfl hn hl.1 hst (lv_room hcat) hdg ⟨by omega, by omega⟩) (fun q hq => ?_) hS (zX εX σ) (va_P_l hP) ((va_D_lr hD).2) (fun H1 locs1 hP1 hPo hS1 => kk H1 locs1 ls (hPo.app hP1) (va_D_fst (w := zX εX σ ++ zM εM τ) (w' := zX εX σ ++ zM εM τ1) rfl hD) hS1 hl)
  obtain ⟨k, e9, hk⟩ := hq
  exact (va_D_r hD).2 k _ hk
end ZLAW2
def zst (Inv : S3 → S3 → Prop) (x y : R3) : Prop := ∃ (r : Int32) (s1 t1 : S3), x = some (r, s1) ∧ y = some (r, t1) ∧ Inv s1 t1
def zO0 (Inv : S3 → S3 → Prop) : Prop := ∀ σ τ : S3, Inv σ τ → ∀ (a0 : Int32), zst Inv (F_X8_points a0 σ) (F_X9_points a0 τ)
def zO1 (Inv : S3 → S3 → Prop) : Prop := ∀ σ τ : S3, Inv σ τ → ∀ (a0 : Int32) (a1 : Int32) (a2 : Int32), zst Inv (F_X8_line a0 a1 a2 σ) (F_X9_line a0 a1 a2 τ)
def zO2 (Inv : S3 → S3 → Prop) : Prop := ∀ σ τ : S3, Inv σ τ → ∀ (a0 : Int32) (a1 : Int32), zst Inv (F_X8_way a0 a1 σ) (F_X9_way a0 a1 τ)
def zO3 (Inv : S3 → S3 → Prop) : Prop := ∀ σ τ : S3, Inv σ τ → ∀ (a0 : Int32), zst Inv (F_X8_cut a0 σ) (F_X9_cut a0 τ)
def zO4 (Inv : S3 → S3 → Prop) : Prop := ∀ σ τ : S3, Inv σ τ → ∀ (a0 : Int32) (a1 : Int32), zst Inv (F_X8_ends a0 a1 σ) (F_X9_ends a0 a1 τ)
def zO5 (Inv : S3 → S3 → Prop) : Prop := ∀ σ τ : S3, Inv σ τ → ∀ (a0 : Int32) (a1 : Int32), zst Inv (F_X8_at a0 a1 σ) (F_X9_at a0 a1 τ)
def zO6 (Inv : S3 → S3 → Prop) : Prop := ∀ σ τ : S3, Inv σ τ → zst Inv (F_X8_sides σ) (F_X9_sides τ)
def zO7 (Inv : S3 → S3 → Prop) : Prop := ∀ σ τ : S3, Inv σ τ → ∀ (a0 : Int32) (a1 : Int32), zst Inv (F_X8_pairing a0 a1 σ) (F_X9_pairing a0 a1 τ)
def zO8 (Inv : S3 → S3 → Prop) : Prop := ∀ σ τ : S3, Inv σ τ → zst Inv (F_X8_needed σ) (F_X9_needed τ)
def zO9 (Inv : S3 → S3 → Prop) : Prop := ∀ σ τ : S3, Inv σ τ → ∀ (a0 : Int32), zst Inv (F_X8_kernel a0 σ) (F_X9_kernel a0 τ)
def zO10 (Inv : S3 → S3 → Prop) : Prop := ∀ σ τ : S3, Inv σ τ → ∀ (a0 : Int64) (a1 : Int32), zst Inv (F_X8_feed a0 a1 σ) (F_X9_feed a0 a1 τ)
def zO11 (Inv : S3 → S3 → Prop) : Prop := ∀ σ τ : S3, Inv σ τ → zst Inv (F_X8_network σ) (F_X9_network τ)
def zO12 (Inv : S3 → S3 → Prop) : Prop := ∀ σ τ : S3, Inv σ τ → ∀ (a0 : Int32) (a1 : Int32), zst Inv (F_X8_begin a0 a1 σ) (F_X9_begin a0 a1 τ)
def zO13 (Inv : S3 → S3 → Prop) : Prop := ∀ σ τ : S3, Inv σ τ → ∀ (a0 : Int32), zst Inv (F_X8_go a0 σ) (F_X9_go a0 τ)
def zO14 (Inv : S3 → S3 → Prop) : Prop := ∀ σ τ : S3, Inv σ τ → zst Inv (F_X8_back σ) (F_X9_back τ)
def zO15 (Inv : S3 → S3 → Prop) : Prop := ∀ σ τ : S3, Inv σ τ → ∀ (a0 : Int32), zst Inv (F_X8_game a0 σ) (F_X9_game a0 τ)
def zO16 (Inv : S3 → S3 → Prop) : Prop := ∀ σ τ : S3, Inv σ τ → ∀ (a0 : Int32), zst Inv (F_X8_moved a0 σ) (F_X9_moved a0 τ)
def zO17 (Inv : S3 → S3 → Prop) : Prop := ∀ σ τ : S3, Inv σ τ → ∀ (a0 : Int32), zst Inv (F_X8_moves a0 σ) (F_X9_moves a0 τ)
def zO18 (Inv : S3 → S3 → Prop) : Prop := ∀ σ τ : S3, Inv σ τ → ∀ (a0 : Int32), zst Inv (F_X8_worth a0 σ) (F_X9_worth a0 τ)
def zO19 (Inv : S3 → S3 → Prop) : Prop := ∀ σ τ : S3, Inv σ τ → zst Inv (F_X8_reach σ) (F_X9_reach τ)
def zO20 (Inv : S3 → S3 → Prop) : Prop := ∀ σ τ : S3, Inv σ τ → ∀ (a0 : Int32), zst Inv (F_X8_starts a0 σ) (F_X9_starts a0 τ)
def zO21 (Inv : S3 → S3 → Prop) : Prop := ∀ σ τ : S3, Inv σ τ → ∀ (a0 : Int32), zst Inv (F_X8_tells a0 σ) (F_X9_tells a0 τ)
def zO22 (Inv : S3 → S3 → Prop) : Prop := ∀ σ τ : S3, Inv σ τ → ∀ (a0 : Int32) (a1 : Int32) (a2 : Int32), zst Inv (F_X8_play a0 a1 a2 σ) (F_X9_play a0 a1 a2 τ)
def zO23 (Inv : S3 → S3 → Prop) : Prop := ∀ σ τ : S3, Inv σ τ → ∀ (a0 : Int32) (a1 : Int32) (a2 : Int32), zst Inv (F_X8_fight a0 a1 a2 σ) (F_X9_fight a0 a1 a2 τ)
def zO24 (Inv : S3 → S3 → Prop) : Prop := ∀ σ τ : S3, Inv σ τ → ∀ (a0 : Int32), zst Inv (F_X8_tree a0 σ) (F_X9_tree a0 τ)
def zO25 (Inv : S3 → S3 → Prop) : Prop := ∀ σ τ : S3, Inv σ τ → ∀ (a0 : Int32), zst Inv (F_X8_node a0 σ) (F_X9_node a0 τ)
def zO26 (Inv : S3 → S3 → Prop) : Prop := ∀ σ τ : S3, Inv σ τ → ∀ (a0 : Int32) (a1 : Int32) (a2 : Int32), zst Inv (F_X8_sheet a0 a1 a2 σ) (F_X9_sheet a0 a1 a2 τ)
def zO27 (Inv : S3 → S3 → Prop) : Prop := ∀ σ τ : S3, Inv σ τ → ∀ (a0 : Int32) (a1 : Int32) (a2 : Int32), zst Inv (F_X8_put a0 a1 a2 σ) (F_X9_put a0 a1 a2 τ)
def zO28 (Inv : S3 → S3 → Prop) : Prop := ∀ σ τ : S3, Inv σ τ → ∀ (a0 : Int32) (a1 : Int32), zst Inv (F_X8_number a0 a1 σ) (F_X9_number a0 a1 τ)
def zO29 (Inv : S3 → S3 → Prop) : Prop := ∀ σ τ : S3, Inv σ τ → ∀ (a0 : Int32) (a1 : Int32) (a2 : Int32) (a3 : Int32) (a4 : Int32), zst Inv (F_X8_copy a0 a1 a2 a3 a4 σ) (F_X9_copy a0 a1 a2 a3 a4 τ)
def zO30 (Inv : S3 → S3 → Prop) : Prop := ∀ σ τ : S3, Inv σ τ → ∀ (a0 : Int32) (a1 : Int32), zst Inv (F_X8_degrees a0 a1 σ) (F_X9_degrees a0 a1 τ)
def zO31 (Inv : S3 → S3 → Prop) : Prop := ∀ σ τ : S3, Inv σ τ → ∀ (a0 : Int32) (a1 : Int32), zst Inv (F_X8_walks a0 a1 σ) (F_X9_walks a0 a1 τ)
def zO32 (Inv : S3 → S3 → Prop) : Prop := ∀ σ τ : S3, Inv σ τ → ∀ (a0 : Int32), zst Inv (F_X8_seed a0 σ) (F_X9_seed a0 τ)
def zO33 (Inv : S3 → S3 → Prop) : Prop := ∀ σ τ : S3, Inv σ τ → zst Inv (F_X8_image σ) (F_X9_image τ)
def zO34 (Inv : S3 → S3 → Prop) : Prop := ∀ σ τ : S3, Inv σ τ → zst Inv (F_X8_restore σ) (F_X9_restore τ)
def zO35 (Inv : S3 → S3 → Prop) : Prop := ∀ σ τ : S3, Inv σ τ → ∀ (a0 : Int32), zst Inv (F_X8_count a0 σ) (F_X9_count a0 τ)
def zO36 (Inv : S3 → S3 → Prop) : Prop := ∀ σ τ : S3, Inv σ τ → ∀ (a0 : Int32), zst Inv (F_X8_told a0 σ) (F_X9_told a0 τ)
def zOK (Inv : S3 → S3 → Prop) : Prop := zO0 Inv ∧ zO1 Inv ∧ zO2 Inv ∧ zO3 Inv ∧ zO4 Inv ∧ zO5 Inv ∧ zO6 Inv ∧ zO7 Inv ∧ zO8 Inv ∧ zO9 Inv ∧ zO10 Inv ∧ zO11 Inv ∧ zO12 Inv ∧ zO13 Inv ∧ zO14 Inv ∧ zO15 Inv ∧ zO16 Inv ∧ zO17 Inv ∧ zO18 Inv ∧ zO19 Inv ∧ zO20 Inv ∧ zO21 Inv ∧ zO22 Inv ∧ zO23 Inv ∧ zO24 Inv ∧ zO25 Inv ∧ zO26 Inv ∧ zO27 Inv ∧ zO28 Inv ∧ zO29 Inv ∧ zO30 Inv ∧ zO31 Inv ∧ zO32 Inv ∧ zO33 Inv ∧ zO34 Inv ∧ zO35 Inv ∧ zO36 Inv
theorem zOK_0 {Inv : S3 → S3 → Prop} (h : zOK Inv) : zO0 Inv := h.1
theorem zOK_1 {Inv : S3 → S3 → Prop} (h : zOK Inv) : zO1 Inv := h.2.1
theorem zOK_2 {Inv : S3 → S3 → Prop} (h : zOK Inv) : zO2 Inv := h.2.2.1
theorem zOK_3 {Inv : S3 → S3 → Prop} (h : zOK Inv) : zO3 Inv := h.2.2.2.1
theorem zOK_4 {Inv : S3 → S3 → Prop} (h : zOK Inv) : zO4 Inv := h.2.2.2.2.1
theorem zOK_5 {Inv : S3 → S3 → Prop} (h : zOK Inv) : zO5 Inv := h.2.2.2.2.2.1
theorem zOK_6 {Inv : S3 → S3 → Prop} (h : zOK Inv) : zO6 Inv := h.2.2.2.2.2.2.1
theorem zOK_7 {Inv : S3 → S3 → Prop} (h : zOK Inv) : zO7 Inv := h.2.2.2.2.2.2.2.1
theorem zOK_8 {Inv : S3 → S3 → Prop} (h : zOK Inv) : zO8 Inv := h.2.2.2.2.2.2.2.2.1
theorem zOK_9 {Inv : S3 → S3 → Prop} (h : zOK Inv) : zO9 Inv := h.2.2.2.2.2.2.2.2.2.1
theorem zOK_10 {Inv : S3 → S3 → Prop} (h : zOK Inv) : zO10 Inv := h.2.2.2.2.2.2.2.2.2.2.1
theorem zOK_11 {Inv : S3 → S3 → Prop} (h : zOK Inv) : zO11 Inv := h.2.2.2.2.2.2.2.2.2.2.2.1
theorem zOK_12 {Inv : S3 → S3 → Prop} (h : zOK Inv) : zO12 Inv := h.2.2.2.2.2.2.2.2.2.2.2.2.1
theorem zOK_13 {Inv : S3 → S3 → Prop} (h : zOK Inv) : zO13 Inv := h.2.2.2.2.2.2.2.2.2.2.2.2.2.1
theorem zOK_14 {Inv : S3 → S3 → Prop} (h : zOK Inv) : zO14 Inv := h.2.2.2.2.2.2.2.2.2.2.2.2.2.2.1
theorem zOK_15 {Inv : S3 → S3 → Prop} (h : zOK Inv) : zO15 Inv := h.2.2.2.2.2.2.2.2.2.2.2.2.2.2.2.1
theorem zOK_16 {Inv : S3 → S3 → Prop} (h : zOK Inv) : zO16 Inv := h.2.2.2.2.2.2.2.2.2.2.2.2.2.2.2.2.1
theorem zOK_17 {Inv : S3 → S3 → Prop} (h : zOK Inv) : zO17 Inv := h.2.2.2.2.2.2.2.2.2.2.2.2.2.2.2.2.2.1
theorem zOK_18 {Inv : S3 → S3 → Prop} (h : zOK Inv) : zO18 Inv := h.2.2.2.2.2.2.2.2.2.2.2.2.2.2.2.2.2.2.1
theorem zOK_19 {Inv : S3 → S3 → Prop} (h : zOK Inv) : zO19 Inv := h.2.2.2.2.2.2.2.2.2.2.2.2.2.2.2.2.2.2.2.1
theorem zOK_20 {Inv : S3 → S3 → Prop} (h : zOK Inv) : zO20 Inv := h.2.2.2.2.2.2.2.2.2.2.2.2.2.2.2.2.2.2.2.2.1
theorem zOK_21 {Inv : S3 → S3 → Prop} (h : zOK Inv) : zO21 Inv := h.2.2.2.2.2.2.2.2.2.2.2.2.2.2.2.2.2.2.2.2.2.1
theorem zOK_22 {Inv : S3 → S3 → Prop} (h : zOK Inv) : zO22 Inv := h.2.2.2.2.2.2.2.2.2.2.2.2.2.2.2.2.2.2.2.2.2.2.1
theorem zOK_23 {Inv : S3 → S3 → Prop} (h : zOK Inv) : zO23 Inv := h.2.2.2.2.2.2.2.2.2.2.2.2.2.2.2.2.2.2.2.2.2.2.2.1
theorem zOK_24 {Inv : S3 → S3 → Prop} (h : zOK Inv) : zO24 Inv := h.2.2.2.2.2.2.2.2.2.2.2.2.2.2.2.2.2.2.2.2.2.2.2.2.1
theorem zOK_25 {Inv : S3 → S3 → Prop} (h : zOK Inv) : zO25 Inv := h.2.2.2.2.2.2.2.2.2.2.2.2.2.2.2.2.2.2.2.2.2.2.2.2.2.1
theorem zOK_26 {Inv : S3 → S3 → Prop} (h : zOK Inv) : zO26 Inv := h.2.2.2.2.2.2.2.2.2.2.2.2.2.2.2.2.2.2.2.2.2.2.2.2.2.2.1
theorem zOK_27 {Inv : S3 → S3 → Prop} (h : zOK Inv) : zO27 Inv := h.2.2.2.2.2.2.2.2.2.2.2.2.2.2.2.2.2.2.2.2.2.2.2.2.2.2.2.1
theorem zOK_28 {Inv : S3 → S3 → Prop} (h : zOK Inv) : zO28 Inv := h.2.2.2.2.2.2.2.2.2.2.2.2.2.2.2.2.2.2.2.2.2.2.2.2.2.2.2.2.1
theorem zOK_29 {Inv : S3 → S3 → Prop} (h : zOK Inv) : zO29 Inv := h.2.2.2.2.2.2.2.2.2.2.2.2.2.2.2.2.2.2.2.2.2.2.2.2.2.2.2.2.2.1
theorem zOK_30 {Inv : S3 → S3 → Prop} (h : zOK Inv) : zO30 Inv := h.2.2.2.2.2.2.2.2.2.2.2.2.2.2.2.2.2.2.2.2.2.2.2.2.2.2.2.2.2.2.1
theorem zOK_31 {Inv : S3 → S3 → Prop} (h : zOK Inv) : zO31 Inv := h.2.2.2.2.2.2.2.2.2.2.2.2.2.2.2.2.2.2.2.2.2.2.2.2.2.2.2.2.2.2.2.1
theorem zOK_32 {Inv : S3 → S3 → Prop} (h : zOK Inv) : zO32 Inv := h.2.2.2.2.2.2.2.2.2.2.2.2.2.2.2.2.2.2.2.2.2.2.2.2.2.2.2.2.2.2.2.2.1
theorem zOK_33 {Inv : S3 → S3 → Prop} (h : zOK Inv) : zO33 Inv := h.2.2.2.2.2.2.2.2.2.2.2.2.2.2.2.2.2.2.2.2.2.2.2.2.2.2.2.2.2.2.2.2.2.1
theorem zOK_34 {Inv : S3 → S3 → Prop} (h : zOK Inv) : zO34 Inv := h.2.2.2.2.2.2.2.2.2.2.2.2.2.2.2.2.2.2.2.2.2.2.2.2.2.2.2.2.2.2.2.2.2.2.1
theorem zOK_35 {Inv : S3 → S3 → Prop} (h : zOK Inv) : zO35 Inv := h.2.2.2.2.2.2.2.2.2.2.2.2.2.2.2.2.2.2.2.2.2.2.2.2.2.2.2.2.2.2.2.2.2.2.2.1
theorem zOK_36 {Inv : S3 → S3 → Prop} (h : zOK Inv) : zO36 Inv := h.2.2.2.2.2.2.2.2.2.2.2.2.2.2.2.2.2.2.2.2.2.2.2.2.2.2.2.2.2.2.2.2.2.2.2.2
theorem tw303 : Cond.methodLink RL 13 yX8_points ∈ zt := zt_at 303 (by decide +kernel)
theorem tw304 : Cond.instanceMethod yX8_points ∈ zt := zt_at 304 (by decide +kernel)
theorem tw305 : Cond.selects "MarkerWalks" yX8_points yX8_points ∈ zt := zt_at 305 (by decide +kernel)
theorem tw306 : Cond.code yX8_points cX8_points 3 (some .int) ∈ zt := zt_at 306 (by decide +kernel)
theorem tw906 : Cond.methodLink RL 17 yX9_points ∈ zt := zt_at 906 (by decide +kernel)
theorem tw907 : Cond.instanceMethod yX9_points ∈ zt := zt_at 907 (by decide +kernel)
theorem tw908 : Cond.selects "MarkerWalksModel" yX9_points yX9_points ∈ zt := zt_at 908 (by decide +kernel)
theorem tw909 : Cond.code yX9_points cX9_points 3 (some .int) ∈ zt := zt_at 909 (by decide +kernel)
set_option maxHeartbeats 4000000 in
set_option maxRecDepth 100000 in
theorem law_c0 {κ : zT} {mc ms kc ks b L i : Nat} {xs : Nat → Int32} {εX εM : zV} {Inv : S3 → S3 → Prop} (hOK : zOK Inv) (X : zCA κ R_law code 4 2000 mc ms) (hkc : kc ≤ mc) (hks : ks ≤ ms) (hX3 : εX.1 = κ.1.2.2.2.1) (hM3 : εM.1 = κ.1.2.2.2.1) (hX : va_X b L xs κ.2.2.2.2.1 κ.2.2.2.2.1.heap) (hbl : b < κ.2.2.2.2.1.heap.size) (hbA : ¬ κ.1.2.2.1 b) (hL : L ≤ 3072) (hi : i + 6 ≤ L) {σ τ : S3} (hI : Inv σ τ) (k : ∀ σ1 τ1 : S3, Inv σ1 τ1 → ZA κ 4 (zX εX σ1 ++ zM εM τ1) [(3, .int (nI i)), (2, .ref (εM.2.1 0)), (1, .ref (εX.2.1 0)), (0, .ref b)] 1237 [] kc ks) : ZA κ 4 (zX εX σ ++ zM εM τ) [(3, .int (nI i)), (2, .ref (εM.2.1 0)), (1, .ref (εX.2.1 0)), (0, .ref b)] 196 [] kc ks := by
  obtain ⟨r, σ1, τ1, hx1, hy1, hI1⟩ := zOK_0 hOK σ τ hI ((xs (ix (nI i + (1 : Int32)))))
  refine a_aload_n (i := 1) X dL_law_196 2 rfl rfl ?_
  refine a_aload_n (i := 0) X dL_law_197 3 rfl rfl ?_
  refine a_iload_n (i := 3) X dL_law_198 0 rfl rfl ?_
  refine a_iconst (v := (1 : Int32)) X dL_law_199 (by decide) ?_
  refine a_iadd X dL_law_200 ?_
  refine a_sld X hX hbl hbA (show vp_in (nI i + (1 : Int32)) L from (nI_add i 1 : nI i + (1 : Int32) = nI (i + 1)) ▸ vp_in_nI (by omega) (by omega)) dL_law_201 ?_
  refine a_callX (d1 := 3) (As := [.int (xs (ix (nI i + (1 : Int32))))]) (rest := []) X hX3 (by decide) hkc hks (fun Ac hZ => C_X8_points hZ hx1) tw303 tw304 tw305 tw69 tw306 (by decide) ds_X8_points rfl rfl (Nat.le_of_ble_eq_true rfl) dL_law_202 ?_
  refine a_aload_n (i := 2) X dL_law_205 1 rfl rfl ?_
  refine a_aload_n (i := 0) X dL_law_206 3 rfl rfl ?_
  refine a_iload_n (i := 3) X dL_law_207 0 rfl rfl ?_
  refine a_iconst (v := (1 : Int32)) X dL_law_208 (by decide) ?_
  refine a_iadd X dL_law_209 ?_
  refine a_sld X hX hbl hbA (show vp_in (nI i + (1 : Int32)) L from (nI_add i 1 : nI i + (1 : Int32) = nI (i + 1)) ▸ vp_in_nI (by omega) (by omega)) dL_law_210 ?_
  refine a_callM (d1 := 1) (As := [.int (xs (ix (nI i + (1 : Int32))))]) (rest := [.int r]) X hM3 (by decide) hkc hks (fun Ac hZ => C_X9_points hZ hy1) tw906 tw907 tw908 tw77 tw909 (by decide) ds_X9_points rfl rfl (Nat.le_of_ble_eq_true rfl) dL_law_211 ?_
  exact a_icmp_eq_t (tgt := 1237) X dL_law_214 (by decide) (k σ1 τ1 hI1)
theorem tw327 : Cond.methodLink RL 18 yX8_line ∈ zt := zt_at 327 (by decide +kernel)
theorem tw328 : Cond.instanceMethod yX8_line ∈ zt := zt_at 328 (by decide +kernel)
theorem tw329 : Cond.selects "MarkerWalks" yX8_line yX8_line ∈ zt := zt_at 329 (by decide +kernel)
theorem tw330 : Cond.code yX8_line cX8_line 4 (some .int) ∈ zt := zt_at 330 (by decide +kernel)
theorem tw922 : Cond.methodLink RL 22 yX9_line ∈ zt := zt_at 922 (by decide +kernel)
theorem tw923 : Cond.instanceMethod yX9_line ∈ zt := zt_at 923 (by decide +kernel)
theorem tw924 : Cond.selects "MarkerWalksModel" yX9_line yX9_line ∈ zt := zt_at 924 (by decide +kernel)
theorem tw925 : Cond.code yX9_line cX9_line 4 (some .int) ∈ zt := zt_at 925 (by decide +kernel)
set_option maxHeartbeats 4000000 in
set_option maxRecDepth 100000 in
theorem law_c1 {κ : zT} {mc ms kc ks b L i : Nat} {xs : Nat → Int32} {εX εM : zV} {Inv : S3 → S3 → Prop} (hOK : zOK Inv) (X : zCA κ R_law code 4 2000 mc ms) (hkc : kc ≤ mc) (hks : ks ≤ ms) (hX3 : εX.1 = κ.1.2.2.2.1) (hM3 : εM.1 = κ.1.2.2.2.1) (hX : va_X b L xs κ.2.2.2.2.1 κ.2.2.2.2.1.heap) (hbl : b < κ.2.2.2.2.1.heap.size) (hbA : ¬ κ.1.2.2.1 b) (hL : L ≤ 3072) (hi : i + 6 ≤ L) {σ τ : S3} (hI : Inv σ τ) (k : ∀ σ1 τ1 : S3, Inv σ1 τ1 → ZA κ 4 (zX εX σ1 ++ zM εM τ1) [(3, .int (nI i)), (2, .ref (εM.2.1 0)), (1, .ref (εX.2.1 0)), (0, .ref b)] 1237 [] kc ks) : ZA κ 4 (zX εX σ ++ zM εM τ) [(3, .int (nI i)), (2, .ref (εM.2.1 0)), (1, .ref (εX.2.1 0)), (0, .ref b)] 219 [] kc ks := by
  obtain ⟨r, σ1, τ1, hx1, hy1, hI1⟩ := zOK_1 hOK σ τ hI ((xs (ix (nI i + (1 : Int32))))) ((xs (ix (nI i + (2 : Int32))))) ((xs (ix (nI i + (3 : Int32)))))
  refine a_aload_n (i := 1) X dL_law_219 2 rfl rfl ?_
  refine a_aload_n (i := 0) X dL_law_220 3 rfl rfl ?_
  refine a_iload_n (i := 3) X dL_law_221 0 rfl rfl ?_
  refine a_iconst (v := (1 : Int32)) X dL_law_222 (by decide) ?_
  refine a_iadd X dL_law_223 ?_
  refine a_sld X hX hbl hbA (show vp_in (nI i + (1 : Int32)) L from (nI_add i 1 : nI i + (1 : Int32) = nI (i + 1)) ▸ vp_in_nI (by omega) (by omega)) dL_law_224 ?_
  refine a_aload_n (i := 0) X dL_law_225 3 rfl rfl ?_
  refine a_iload_n (i := 3) X dL_law_226 0 rfl rfl ?_
  refine a_iconst (v := (2 : Int32)) X dL_law_227 (by decide) ?_
  refine a_iadd X dL_law_228 ?_
  refine a_sld X hX hbl hbA (show vp_in (nI i + (2 : Int32)) L from (nI_add i 2 : nI i + (2 : Int32) = nI (i + 2)) ▸ vp_in_nI (by omega) (by omega)) dL_law_229 ?_
  refine a_aload_n (i := 0) X dL_law_230 3 rfl rfl ?_
  refine a_iload_n (i := 3) X dL_law_231 0 rfl rfl ?_
  refine a_iconst (v := (3 : Int32)) X dL_law_232 (by decide) ?_
  refine a_iadd X dL_law_233 ?_
  refine a_sld X hX hbl hbA (show vp_in (nI i + (3 : Int32)) L from (nI_add i 3 : nI i + (3 : Int32) = nI (i + 3)) ▸ vp_in_nI (by omega) (by omega)) dL_law_234 ?_
  refine a_callX (d1 := 3) (As := [.int (xs (ix (nI i + (1 : Int32)))), .int (xs (ix (nI i + (2 : Int32)))), .int (xs (ix (nI i + (3 : Int32))))]) (rest := []) X hX3 (by decide) hkc hks (fun Ac hZ => C_X8_line hZ hx1) tw327 tw328 tw329 tw69 tw330 (by decide) ds_X8_line rfl rfl (Nat.le_of_ble_eq_true rfl) dL_law_235 ?_
  refine a_aload_n (i := 2) X dL_law_238 1 rfl rfl ?_
  refine a_aload_n (i := 0) X dL_law_239 3 rfl rfl ?_
  refine a_iload_n (i := 3) X dL_law_240 0 rfl rfl ?_
  refine a_iconst (v := (1 : Int32)) X dL_law_241 (by decide) ?_
  refine a_iadd X dL_law_242 ?_
  refine a_sld X hX hbl hbA (show vp_in (nI i + (1 : Int32)) L from (nI_add i 1 : nI i + (1 : Int32) = nI (i + 1)) ▸ vp_in_nI (by omega) (by omega)) dL_law_243 ?_
  refine a_aload_n (i := 0) X dL_law_244 3 rfl rfl ?_
  refine a_iload_n (i := 3) X dL_law_245 0 rfl rfl ?_
  refine a_iconst (v := (2 : Int32)) X dL_law_246 (by decide) ?_
  refine a_iadd X dL_law_247 ?_
  refine a_sld X hX hbl hbA (show vp_in (nI i + (2 : Int32)) L from (nI_add i 2 : nI i + (2 : Int32) = nI (i + 2)) ▸ vp_in_nI (by omega) (by omega)) dL_law_248 ?_
  refine a_aload_n (i := 0) X dL_law_249 3 rfl rfl ?_
  refine a_iload_n (i := 3) X dL_law_250 0 rfl rfl ?_
  refine a_iconst (v := (3 : Int32)) X dL_law_251 (by decide) ?_
  refine a_iadd X dL_law_252 ?_
  refine a_sld X hX hbl hbA (show vp_in (nI i + (3 : Int32)) L from (nI_add i 3 : nI i + (3 : Int32) = nI (i + 3)) ▸ vp_in_nI (by omega) (by omega)) dL_law_253 ?_
  refine a_callM (d1 := 2) (As := [.int (xs (ix (nI i + (1 : Int32)))), .int (xs (ix (nI i + (2 : Int32)))), .int (xs (ix (nI i + (3 : Int32))))]) (rest := [.int r]) X hM3 (by decide) hkc hks (fun Ac hZ => C_X9_line hZ hy1) tw922 tw923 tw924 tw77 tw925 (by decide) ds_X9_line rfl rfl (Nat.le_of_ble_eq_true rfl) dL_law_254 ?_
  exact a_icmp_eq_t (tgt := 1237) X dL_law_257 (by decide) (k σ1 τ1 hI1)
theorem tw342 : Cond.methodLink RL 23 yX8_way ∈ zt := zt_at 342 (by decide +kernel)
theorem tw343 : Cond.instanceMethod yX8_way ∈ zt := zt_at 343 (by decide +kernel)
theorem tw344 : Cond.selects "MarkerWalks" yX8_way yX8_way ∈ zt := zt_at 344 (by decide +kernel)
theorem tw345 : Cond.code yX8_way cX8_way 4 (some .int) ∈ zt := zt_at 345 (by decide +kernel)
theorem tw934 : Cond.methodLink RL 27 yX9_way ∈ zt := zt_at 934 (by decide +kernel)
theorem tw935 : Cond.instanceMethod yX9_way ∈ zt := zt_at 935 (by decide +kernel)
theorem tw936 : Cond.selects "MarkerWalksModel" yX9_way yX9_way ∈ zt := zt_at 936 (by decide +kernel)
theorem tw937 : Cond.code yX9_way cX9_way 4 (some .int) ∈ zt := zt_at 937 (by decide +kernel)
set_option maxHeartbeats 4000000 in
set_option maxRecDepth 100000 in
theorem law_c2 {κ : zT} {mc ms kc ks b L i : Nat} {xs : Nat → Int32} {εX εM : zV} {Inv : S3 → S3 → Prop} (hOK : zOK Inv) (X : zCA κ R_law code 4 2000 mc ms) (hkc : kc ≤ mc) (hks : ks ≤ ms) (hX3 : εX.1 = κ.1.2.2.2.1) (hM3 : εM.1 = κ.1.2.2.2.1) (hX : va_X b L xs κ.2.2.2.2.1 κ.2.2.2.2.1.heap) (hbl : b < κ.2.2.2.2.1.heap.size) (hbA : ¬ κ.1.2.2.1 b) (hL : L ≤ 3072) (hi : i + 6 ≤ L) {σ τ : S3} (hI : Inv σ τ) (k : ∀ σ1 τ1 : S3, Inv σ1 τ1 → ZA κ 4 (zX εX σ1 ++ zM εM τ1) [(3, .int (nI i)), (2, .ref (εM.2.1 0)), (1, .ref (εX.2.1 0)), (0, .ref b)] 1237 [] kc ks) : ZA κ 4 (zX εX σ ++ zM εM τ) [(3, .int (nI i)), (2, .ref (εM.2.1 0)), (1, .ref (εX.2.1 0)), (0, .ref b)] 262 [] kc ks := by
  obtain ⟨r, σ1, τ1, hx1, hy1, hI1⟩ := zOK_2 hOK σ τ hI ((xs (ix (nI i + (1 : Int32))))) ((xs (ix (nI i + (2 : Int32)))))
  refine a_aload_n (i := 1) X dL_law_262 2 rfl rfl ?_
  refine a_aload_n (i := 0) X dL_law_263 3 rfl rfl ?_
  refine a_iload_n (i := 3) X dL_law_264 0 rfl rfl ?_
  refine a_iconst (v := (1 : Int32)) X dL_law_265 (by decide) ?_
  refine a_iadd X dL_law_266 ?_
  refine a_sld X hX hbl hbA (show vp_in (nI i + (1 : Int32)) L from (nI_add i 1 : nI i + (1 : Int32) = nI (i + 1)) ▸ vp_in_nI (by omega) (by omega)) dL_law_267 ?_
  refine a_aload_n (i := 0) X dL_law_268 3 rfl rfl ?_
  refine a_iload_n (i := 3) X dL_law_269 0 rfl rfl ?_
  refine a_iconst (v := (2 : Int32)) X dL_law_270 (by decide) ?_
  refine a_iadd X dL_law_271 ?_
  refine a_sld X hX hbl hbA (show vp_in (nI i + (2 : Int32)) L from (nI_add i 2 : nI i + (2 : Int32) = nI (i + 2)) ▸ vp_in_nI (by omega) (by omega)) dL_law_272 ?_
  refine a_callX (d1 := 3) (As := [.int (xs (ix (nI i + (1 : Int32)))), .int (xs (ix (nI i + (2 : Int32))))]) (rest := []) X hX3 (by decide) hkc hks (fun Ac hZ => C_X8_way hZ hx1) tw342 tw343 tw344 tw69 tw345 (by decide) ds_X8_way rfl rfl (Nat.le_of_ble_eq_true rfl) dL_law_273 ?_
  refine a_aload_n (i := 2) X dL_law_276 1 rfl rfl ?_
  refine a_aload_n (i := 0) X dL_law_277 3 rfl rfl ?_
  refine a_iload_n (i := 3) X dL_law_278 0 rfl rfl ?_
  refine a_iconst (v := (1 : Int32)) X dL_law_279 (by decide) ?_
  refine a_iadd X dL_law_280 ?_
  refine a_sld X hX hbl hbA (show vp_in (nI i + (1 : Int32)) L from (nI_add i 1 : nI i + (1 : Int32) = nI (i + 1)) ▸ vp_in_nI (by omega) (by omega)) dL_law_281 ?_
  refine a_aload_n (i := 0) X dL_law_282 3 rfl rfl ?_
  refine a_iload_n (i := 3) X dL_law_283 0 rfl rfl ?_
  refine a_iconst (v := (2 : Int32)) X dL_law_284 (by decide) ?_
  refine a_iadd X dL_law_285 ?_
  refine a_sld X hX hbl hbA (show vp_in (nI i + (2 : Int32)) L from (nI_add i 2 : nI i + (2 : Int32) = nI (i + 2)) ▸ vp_in_nI (by omega) (by omega)) dL_law_286 ?_
  refine a_callM (d1 := 2) (As := [.int (xs (ix (nI i + (1 : Int32)))), .int (xs (ix (nI i + (2 : Int32))))]) (rest := [.int r]) X hM3 (by decide) hkc hks (fun Ac hZ => C_X9_way hZ hy1) tw934 tw935 tw936 tw77 tw937 (by decide) ds_X9_way rfl rfl (Nat.le_of_ble_eq_true rfl) dL_law_287 ?_
  exact a_icmp_eq_t (tgt := 1237) X dL_law_290 (by decide) (k σ1 τ1 hI1)
theorem tw354 : Cond.methodLink RL 28 yX8_cut ∈ zt := zt_at 354 (by decide +kernel)
theorem tw355 : Cond.instanceMethod yX8_cut ∈ zt := zt_at 355 (by decide +kernel)
theorem tw356 : Cond.selects "MarkerWalks" yX8_cut yX8_cut ∈ zt := zt_at 356 (by decide +kernel)
theorem tw357 : Cond.code yX8_cut cX8_cut 2 (some .int) ∈ zt := zt_at 357 (by decide +kernel)
theorem tw942 : Cond.methodLink RL 31 yX9_cut ∈ zt := zt_at 942 (by decide +kernel)
theorem tw943 : Cond.instanceMethod yX9_cut ∈ zt := zt_at 943 (by decide +kernel)
theorem tw944 : Cond.selects "MarkerWalksModel" yX9_cut yX9_cut ∈ zt := zt_at 944 (by decide +kernel)
theorem tw945 : Cond.code yX9_cut cX9_cut 3 (some .int) ∈ zt := zt_at 945 (by decide +kernel)
set_option maxHeartbeats 4000000 in
set_option maxRecDepth 100000 in
theorem law_c3 {κ : zT} {mc ms kc ks b L i : Nat} {xs : Nat → Int32} {εX εM : zV} {Inv : S3 → S3 → Prop} (hOK : zOK Inv) (X : zCA κ R_law code 4 2000 mc ms) (hkc : kc ≤ mc) (hks : ks ≤ ms) (hX3 : εX.1 = κ.1.2.2.2.1) (hM3 : εM.1 = κ.1.2.2.2.1) (hX : va_X b L xs κ.2.2.2.2.1 κ.2.2.2.2.1.heap) (hbl : b < κ.2.2.2.2.1.heap.size) (hbA : ¬ κ.1.2.2.1 b) (hL : L ≤ 3072) (hi : i + 6 ≤ L) {σ τ : S3} (hI : Inv σ τ) (k : ∀ σ1 τ1 : S3, Inv σ1 τ1 → ZA κ 4 (zX εX σ1 ++ zM εM τ1) [(3, .int (nI i)), (2, .ref (εM.2.1 0)), (1, .ref (εX.2.1 0)), (0, .ref b)] 1237 [] kc ks) : ZA κ 4 (zX εX σ ++ zM εM τ) [(3, .int (nI i)), (2, .ref (εM.2.1 0)), (1, .ref (εX.2.1 0)), (0, .ref b)] 295 [] kc ks := by
  obtain ⟨r, σ1, τ1, hx1, hy1, hI1⟩ := zOK_3 hOK σ τ hI ((xs (ix (nI i + (1 : Int32)))))
  refine a_aload_n (i := 1) X dL_law_295 2 rfl rfl ?_
  refine a_aload_n (i := 0) X dL_law_296 3 rfl rfl ?_
  refine a_iload_n (i := 3) X dL_law_297 0 rfl rfl ?_
  refine a_iconst (v := (1 : Int32)) X dL_law_298 (by decide) ?_
  refine a_iadd X dL_law_299 ?_
  refine a_sld X hX hbl hbA (show vp_in (nI i + (1 : Int32)) L from (nI_add i 1 : nI i + (1 : Int32) = nI (i + 1)) ▸ vp_in_nI (by omega) (by omega)) dL_law_300 ?_
  refine a_callX (d1 := 3) (As := [.int (xs (ix (nI i + (1 : Int32))))]) (rest := []) X hX3 (by decide) hkc hks (fun Ac hZ => C_X8_cut hZ hx1) tw354 tw355 tw356 tw69 tw357 (by decide) ds_X8_cut rfl rfl (Nat.le_of_ble_eq_true rfl) dL_law_301 ?_
  refine a_aload_n (i := 2) X dL_law_304 1 rfl rfl ?_
  refine a_aload_n (i := 0) X dL_law_305 3 rfl rfl ?_
  refine a_iload_n (i := 3) X dL_law_306 0 rfl rfl ?_
  refine a_iconst (v := (1 : Int32)) X dL_law_307 (by decide) ?_
  refine a_iadd X dL_law_308 ?_
  refine a_sld X hX hbl hbA (show vp_in (nI i + (1 : Int32)) L from (nI_add i 1 : nI i + (1 : Int32) = nI (i + 1)) ▸ vp_in_nI (by omega) (by omega)) dL_law_309 ?_
  refine a_callM (d1 := 2) (As := [.int (xs (ix (nI i + (1 : Int32))))]) (rest := [.int r]) X hM3 (by decide) hkc hks (fun Ac hZ => C_X9_cut hZ hy1) tw942 tw943 tw944 tw77 tw945 (by decide) ds_X9_cut rfl rfl (Nat.le_of_ble_eq_true rfl) dL_law_310 ?_
  exact a_icmp_eq_t (tgt := 1237) X dL_law_313 (by decide) (k σ1 τ1 hI1)
theorem tw365 : Cond.methodLink RL 32 yX8_ends ∈ zt := zt_at 365 (by decide +kernel)
theorem tw366 : Cond.instanceMethod yX8_ends ∈ zt := zt_at 366 (by decide +kernel)
theorem tw367 : Cond.selects "MarkerWalks" yX8_ends yX8_ends ∈ zt := zt_at 367 (by decide +kernel)
theorem tw368 : Cond.code yX8_ends cX8_ends 3 (some .int) ∈ zt := zt_at 368 (by decide +kernel)
theorem tw946 : Cond.methodLink RL 35 yX9_ends ∈ zt := zt_at 946 (by decide +kernel)
theorem tw947 : Cond.instanceMethod yX9_ends ∈ zt := zt_at 947 (by decide +kernel)
theorem tw948 : Cond.selects "MarkerWalksModel" yX9_ends yX9_ends ∈ zt := zt_at 948 (by decide +kernel)
theorem tw949 : Cond.code yX9_ends cX9_ends 3 (some .int) ∈ zt := zt_at 949 (by decide +kernel)
set_option maxHeartbeats 4000000 in
set_option maxRecDepth 100000 in
theorem law_c4 {κ : zT} {mc ms kc ks b L i : Nat} {xs : Nat → Int32} {εX εM : zV} {Inv : S3 → S3 → Prop} (hOK : zOK Inv) (X : zCA κ R_law code 4 2000 mc ms) (hkc : kc ≤ mc) (hks : ks ≤ ms) (hX3 : εX.1 = κ.1.2.2.2.1) (hM3 : εM.1 = κ.1.2.2.2.1) (hX : va_X b L xs κ.2.2.2.2.1 κ.2.2.2.2.1.heap) (hbl : b < κ.2.2.2.2.1.heap.size) (hbA : ¬ κ.1.2.2.1 b) (hL : L ≤ 3072) (hi : i + 6 ≤ L) {σ τ : S3} (hI : Inv σ τ) (k : ∀ σ1 τ1 : S3, Inv σ1 τ1 → ZA κ 4 (zX εX σ1 ++ zM εM τ1) [(3, .int (nI i)), (2, .ref (εM.2.1 0)), (1, .ref (εX.2.1 0)), (0, .ref b)] 1237 [] kc ks) : ZA κ 4 (zX εX σ ++ zM εM τ) [(3, .int (nI i)), (2, .ref (εM.2.1 0)), (1, .ref (εX.2.1 0)), (0, .ref b)] 318 [] kc ks := by
  obtain ⟨r, σ1, τ1, hx1, hy1, hI1⟩ := zOK_4 hOK σ τ hI ((xs (ix (nI i + (1 : Int32))))) ((xs (ix (nI i + (2 : Int32)))))
  refine a_aload_n (i := 1) X dL_law_318 2 rfl rfl ?_
  refine a_aload_n (i := 0) X dL_law_319 3 rfl rfl ?_
  refine a_iload_n (i := 3) X dL_law_320 0 rfl rfl ?_
  refine a_iconst (v := (1 : Int32)) X dL_law_321 (by decide) ?_
  refine a_iadd X dL_law_322 ?_
  refine a_sld X hX hbl hbA (show vp_in (nI i + (1 : Int32)) L from (nI_add i 1 : nI i + (1 : Int32) = nI (i + 1)) ▸ vp_in_nI (by omega) (by omega)) dL_law_323 ?_
  refine a_aload_n (i := 0) X dL_law_324 3 rfl rfl ?_
  refine a_iload_n (i := 3) X dL_law_325 0 rfl rfl ?_
  refine a_iconst (v := (2 : Int32)) X dL_law_326 (by decide) ?_
  refine a_iadd X dL_law_327 ?_
  refine a_sld X hX hbl hbA (show vp_in (nI i + (2 : Int32)) L from (nI_add i 2 : nI i + (2 : Int32) = nI (i + 2)) ▸ vp_in_nI (by omega) (by omega)) dL_law_328 ?_
  refine a_callX (d1 := 1) (As := [.int (xs (ix (nI i + (1 : Int32)))), .int (xs (ix (nI i + (2 : Int32))))]) (rest := []) X hX3 (by decide) hkc hks (fun Ac hZ => C_X8_ends hZ hx1) tw365 tw366 tw367 tw69 tw368 (by decide) ds_X8_ends rfl rfl (Nat.le_of_ble_eq_true rfl) dL_law_329 ?_
  refine a_aload_n (i := 2) X dL_law_332 1 rfl rfl ?_
  refine a_aload_n (i := 0) X dL_law_333 3 rfl rfl ?_
  refine a_iload_n (i := 3) X dL_law_334 0 rfl rfl ?_
  refine a_iconst (v := (1 : Int32)) X dL_law_335 (by decide) ?_
  refine a_iadd X dL_law_336 ?_
  refine a_sld X hX hbl hbA (show vp_in (nI i + (1 : Int32)) L from (nI_add i 1 : nI i + (1 : Int32) = nI (i + 1)) ▸ vp_in_nI (by omega) (by omega)) dL_law_337 ?_
  refine a_aload_n (i := 0) X dL_law_338 3 rfl rfl ?_
  refine a_iload_n (i := 3) X dL_law_339 0 rfl rfl ?_
  refine a_iconst (v := (2 : Int32)) X dL_law_340 (by decide) ?_
  refine a_iadd X dL_law_341 ?_
  refine a_sld X hX hbl hbA (show vp_in (nI i + (2 : Int32)) L from (nI_add i 2 : nI i + (2 : Int32) = nI (i + 2)) ▸ vp_in_nI (by omega) (by omega)) dL_law_342 ?_
  refine a_callM (d1 := 2) (As := [.int (xs (ix (nI i + (1 : Int32)))), .int (xs (ix (nI i + (2 : Int32))))]) (rest := [.int r]) X hM3 (by decide) hkc hks (fun Ac hZ => C_X9_ends hZ hy1) tw946 tw947 tw948 tw77 tw949 (by decide) ds_X9_ends rfl rfl (Nat.le_of_ble_eq_true rfl) dL_law_343 ?_
  exact a_icmp_eq_t (tgt := 1237) X dL_law_346 (by decide) (k σ1 τ1 hI1)
theorem tw369 : Cond.methodLink RL 36 yX8_at ∈ zt := zt_at 369 (by decide +kernel)
theorem tw370 : Cond.instanceMethod yX8_at ∈ zt := zt_at 370 (by decide +kernel)
theorem tw371 : Cond.selects "MarkerWalks" yX8_at yX8_at ∈ zt := zt_at 371 (by decide +kernel)
theorem tw372 : Cond.code yX8_at cX8_at 3 (some .int) ∈ zt := zt_at 372 (by decide +kernel)
theorem tw950 : Cond.methodLink RL 39 yX9_at ∈ zt := zt_at 950 (by decide +kernel)
theorem tw951 : Cond.instanceMethod yX9_at ∈ zt := zt_at 951 (by decide +kernel)
theorem tw952 : Cond.selects "MarkerWalksModel" yX9_at yX9_at ∈ zt := zt_at 952 (by decide +kernel)
theorem tw953 : Cond.code yX9_at cX9_at 3 (some .int) ∈ zt := zt_at 953 (by decide +kernel)
set_option maxHeartbeats 4000000 in
set_option maxRecDepth 100000 in
theorem law_c5 {κ : zT} {mc ms kc ks b L i : Nat} {xs : Nat → Int32} {εX εM : zV} {Inv : S3 → S3 → Prop} (hOK : zOK Inv) (X : zCA κ R_law code 4 2000 mc ms) (hkc : kc ≤ mc) (hks : ks ≤ ms) (hX3 : εX.1 = κ.1.2.2.2.1) (hM3 : εM.1 = κ.1.2.2.2.1) (hX : va_X b L xs κ.2.2.2.2.1 κ.2.2.2.2.1.heap) (hbl : b < κ.2.2.2.2.1.heap.size) (hbA : ¬ κ.1.2.2.1 b) (hL : L ≤ 3072) (hi : i + 6 ≤ L) {σ τ : S3} (hI : Inv σ τ) (k : ∀ σ1 τ1 : S3, Inv σ1 τ1 → ZA κ 4 (zX εX σ1 ++ zM εM τ1) [(3, .int (nI i)), (2, .ref (εM.2.1 0)), (1, .ref (εX.2.1 0)), (0, .ref b)] 1237 [] kc ks) : ZA κ 4 (zX εX σ ++ zM εM τ) [(3, .int (nI i)), (2, .ref (εM.2.1 0)), (1, .ref (εX.2.1 0)), (0, .ref b)] 351 [] kc ks := by
  obtain ⟨r, σ1, τ1, hx1, hy1, hI1⟩ := zOK_5 hOK σ τ hI ((xs (ix (nI i + (1 : Int32))))) ((xs (ix (nI i + (2 : Int32)))))
  refine a_aload_n (i := 1) X dL_law_351 2 rfl rfl ?_
  refine a_aload_n (i := 0) X dL_law_352 3 rfl rfl ?_
  refine a_iload_n (i := 3) X dL_law_353 0 rfl rfl ?_
  refine a_iconst (v := (1 : Int32)) X dL_law_354 (by decide) ?_
  refine a_iadd X dL_law_355 ?_
  refine a_sld X hX hbl hbA (show vp_in (nI i + (1 : Int32)) L from (nI_add i 1 : nI i + (1 : Int32) = nI (i + 1)) ▸ vp_in_nI (by omega) (by omega)) dL_law_356 ?_
  refine a_aload_n (i := 0) X dL_law_357 3 rfl rfl ?_
  refine a_iload_n (i := 3) X dL_law_358 0 rfl rfl ?_
  refine a_iconst (v := (2 : Int32)) X dL_law_359 (by decide) ?_
  refine a_iadd X dL_law_360 ?_
  refine a_sld X hX hbl hbA (show vp_in (nI i + (2 : Int32)) L from (nI_add i 2 : nI i + (2 : Int32) = nI (i + 2)) ▸ vp_in_nI (by omega) (by omega)) dL_law_361 ?_
  refine a_callX (d1 := 2) (As := [.int (xs (ix (nI i + (1 : Int32)))), .int (xs (ix (nI i + (2 : Int32))))]) (rest := []) X hX3 (by decide) hkc hks (fun Ac hZ => C_X8_at hZ hx1) tw369 tw370 tw371 tw69 tw372 (by decide) ds_X8_at rfl rfl (Nat.le_of_ble_eq_true rfl) dL_law_362 ?_
  refine a_aload_n (i := 2) X dL_law_365 1 rfl rfl ?_
  refine a_aload_n (i := 0) X dL_law_366 3 rfl rfl ?_
  refine a_iload_n (i := 3) X dL_law_367 0 rfl rfl ?_
  refine a_iconst (v := (1 : Int32)) X dL_law_368 (by decide) ?_
  refine a_iadd X dL_law_369 ?_
  refine a_sld X hX hbl hbA (show vp_in (nI i + (1 : Int32)) L from (nI_add i 1 : nI i + (1 : Int32) = nI (i + 1)) ▸ vp_in_nI (by omega) (by omega)) dL_law_370 ?_
  refine a_aload_n (i := 0) X dL_law_371 3 rfl rfl ?_
  refine a_iload_n (i := 3) X dL_law_372 0 rfl rfl ?_
  refine a_iconst (v := (2 : Int32)) X dL_law_373 (by decide) ?_
  refine a_iadd X dL_law_374 ?_
  refine a_sld X hX hbl hbA (show vp_in (nI i + (2 : Int32)) L from (nI_add i 2 : nI i + (2 : Int32) = nI (i + 2)) ▸ vp_in_nI (by omega) (by omega)) dL_law_375 ?_
  refine a_callM (d1 := 2) (As := [.int (xs (ix (nI i + (1 : Int32)))), .int (xs (ix (nI i + (2 : Int32))))]) (rest := [.int r]) X hM3 (by decide) hkc hks (fun Ac hZ => C_X9_at hZ hy1) tw950 tw951 tw952 tw77 tw953 (by decide) ds_X9_at rfl rfl (Nat.le_of_ble_eq_true rfl) dL_law_376 ?_
  exact a_icmp_eq_t (tgt := 1237) X dL_law_379 (by decide) (k σ1 τ1 hI1)
theorem tw383 : Cond.methodLink RL 40 yX8_sides ∈ zt := zt_at 383 (by decide +kernel)
theorem tw384 : Cond.instanceMethod yX8_sides ∈ zt := zt_at 384 (by decide +kernel)
theorem tw385 : Cond.selects "MarkerWalks" yX8_sides yX8_sides ∈ zt := zt_at 385 (by decide +kernel)
theorem tw386 : Cond.code yX8_sides cX8_sides 2 (some .int) ∈ zt := zt_at 386 (by decide +kernel)
theorem tw970 : Cond.methodLink RL 44 yX9_sides ∈ zt := zt_at 970 (by decide +kernel)
theorem tw971 : Cond.instanceMethod yX9_sides ∈ zt := zt_at 971 (by decide +kernel)
theorem tw972 : Cond.selects "MarkerWalksModel" yX9_sides yX9_sides ∈ zt := zt_at 972 (by decide +kernel)
theorem tw973 : Cond.code yX9_sides cX9_sides 3 (some .int) ∈ zt := zt_at 973 (by decide +kernel)
set_option maxHeartbeats 4000000 in
set_option maxRecDepth 100000 in
theorem law_c6 {κ : zT} {mc ms kc ks b L i : Nat} {xs : Nat → Int32} {εX εM : zV} {Inv : S3 → S3 → Prop} (hOK : zOK Inv) (X : zCA κ R_law code 4 2000 mc ms) (hkc : kc ≤ mc) (hks : ks ≤ ms) (hX3 : εX.1 = κ.1.2.2.2.1) (hM3 : εM.1 = κ.1.2.2.2.1) (hX : va_X b L xs κ.2.2.2.2.1 κ.2.2.2.2.1.heap) (hbl : b < κ.2.2.2.2.1.heap.size) (hbA : ¬ κ.1.2.2.1 b) (hL : L ≤ 3072) (hi : i + 6 ≤ L) {σ τ : S3} (hI : Inv σ τ) (k : ∀ σ1 τ1 : S3, Inv σ1 τ1 → ZA κ 4 (zX εX σ1 ++ zM εM τ1) [(3, .int (nI i)), (2, .ref (εM.2.1 0)), (1, .ref (εX.2.1 0)), (0, .ref b)] 1237 [] kc ks) : ZA κ 4 (zX εX σ ++ zM εM τ) [(3, .int (nI i)), (2, .ref (εM.2.1 0)), (1, .ref (εX.2.1 0)), (0, .ref b)] 384 [] kc ks := by
  obtain ⟨r, σ1, τ1, hx1, hy1, hI1⟩ := zOK_6 hOK σ τ hI
  refine a_aload_n (i := 1) X dL_law_384 2 rfl rfl ?_
  refine a_callX (d1 := 2) (As := []) (rest := []) X hX3 (by decide) hkc hks (fun Ac hZ => C_X8_sides hZ hx1) tw383 tw384 tw385 tw69 tw386 (by decide) ds_X8_sides rfl rfl (Nat.le_of_ble_eq_true rfl) dL_law_385 ?_
  refine a_aload_n (i := 2) X dL_law_388 1 rfl rfl ?_
  refine a_callM (d1 := 22) (As := []) (rest := [.int r]) X hM3 (by decide) hkc hks (fun Ac hZ => C_X9_sides hZ hy1) tw970 tw971 tw972 tw77 tw973 (by decide) ds_X9_sides rfl rfl (Nat.le_of_ble_eq_true rfl) dL_law_389 ?_
  exact a_icmp_eq_t (tgt := 1237) X dL_law_392 (by decide) (k σ1 τ1 hI1)
theorem tw395 : Cond.methodLink RL 45 yX8_pairing ∈ zt := zt_at 395 (by decide +kernel)
theorem tw396 : Cond.instanceMethod yX8_pairing ∈ zt := zt_at 396 (by decide +kernel)
theorem tw397 : Cond.selects "MarkerWalks" yX8_pairing yX8_pairing ∈ zt := zt_at 397 (by decide +kernel)
theorem tw398 : Cond.code yX8_pairing cX8_pairing 3 (some .int) ∈ zt := zt_at 398 (by decide +kernel)
theorem tw978 : Cond.methodLink RL 48 yX9_pairing ∈ zt := zt_at 978 (by decide +kernel)
theorem tw979 : Cond.instanceMethod yX9_pairing ∈ zt := zt_at 979 (by decide +kernel)
theorem tw980 : Cond.selects "MarkerWalksModel" yX9_pairing yX9_pairing ∈ zt := zt_at 980 (by decide +kernel)
theorem tw981 : Cond.code yX9_pairing cX9_pairing 4 (some .int) ∈ zt := zt_at 981 (by decide +kernel)
set_option maxHeartbeats 4000000 in
set_option maxRecDepth 100000 in
theorem law_c7 {κ : zT} {mc ms kc ks b L i : Nat} {xs : Nat → Int32} {εX εM : zV} {Inv : S3 → S3 → Prop} (hOK : zOK Inv) (X : zCA κ R_law code 4 2000 mc ms) (hkc : kc ≤ mc) (hks : ks ≤ ms) (hX3 : εX.1 = κ.1.2.2.2.1) (hM3 : εM.1 = κ.1.2.2.2.1) (hX : va_X b L xs κ.2.2.2.2.1 κ.2.2.2.2.1.heap) (hbl : b < κ.2.2.2.2.1.heap.size) (hbA : ¬ κ.1.2.2.1 b) (hL : L ≤ 3072) (hi : i + 6 ≤ L) {σ τ : S3} (hI : Inv σ τ) (k : ∀ σ1 τ1 : S3, Inv σ1 τ1 → ZA κ 4 (zX εX σ1 ++ zM εM τ1) [(3, .int (nI i)), (2, .ref (εM.2.1 0)), (1, .ref (εX.2.1 0)), (0, .ref b)] 1237 [] kc ks) : ZA κ 4 (zX εX σ ++ zM εM τ) [(3, .int (nI i)), (2, .ref (εM.2.1 0)), (1, .ref (εX.2.1 0)), (0, .ref b)] 397 [] kc ks := by
  obtain ⟨r, σ1, τ1, hx1, hy1, hI1⟩ := zOK_7 hOK σ τ hI ((xs (ix (nI i + (1 : Int32))))) ((xs (ix (nI i + (2 : Int32)))))
  refine a_aload_n (i := 1) X dL_law_397 2 rfl rfl ?_
  refine a_aload_n (i := 0) X dL_law_398 3 rfl rfl ?_
  refine a_iload_n (i := 3) X dL_law_399 0 rfl rfl ?_
  refine a_iconst (v := (1 : Int32)) X dL_law_400 (by decide) ?_
  refine a_iadd X dL_law_401 ?_
  refine a_sld X hX hbl hbA (show vp_in (nI i + (1 : Int32)) L from (nI_add i 1 : nI i + (1 : Int32) = nI (i + 1)) ▸ vp_in_nI (by omega) (by omega)) dL_law_402 ?_
  refine a_aload_n (i := 0) X dL_law_403 3 rfl rfl ?_
  refine a_iload_n (i := 3) X dL_law_404 0 rfl rfl ?_
  refine a_iconst (v := (2 : Int32)) X dL_law_405 (by decide) ?_
  refine a_iadd X dL_law_406 ?_
  refine a_sld X hX hbl hbA (show vp_in (nI i + (2 : Int32)) L from (nI_add i 2 : nI i + (2 : Int32) = nI (i + 2)) ▸ vp_in_nI (by omega) (by omega)) dL_law_407 ?_
  refine a_callX (d1 := 23) (As := [.int (xs (ix (nI i + (1 : Int32)))), .int (xs (ix (nI i + (2 : Int32))))]) (rest := []) X hX3 (by decide) hkc hks (fun Ac hZ => C_X8_pairing hZ hx1) tw395 tw396 tw397 tw69 tw398 (by decide) ds_X8_pairing rfl rfl (Nat.le_of_ble_eq_true rfl) dL_law_408 ?_
  refine a_aload_n (i := 2) X dL_law_411 1 rfl rfl ?_
  refine a_aload_n (i := 0) X dL_law_412 3 rfl rfl ?_
  refine a_iload_n (i := 3) X dL_law_413 0 rfl rfl ?_
  refine a_iconst (v := (1 : Int32)) X dL_law_414 (by decide) ?_
  refine a_iadd X dL_law_415 ?_
  refine a_sld X hX hbl hbA (show vp_in (nI i + (1 : Int32)) L from (nI_add i 1 : nI i + (1 : Int32) = nI (i + 1)) ▸ vp_in_nI (by omega) (by omega)) dL_law_416 ?_
  refine a_aload_n (i := 0) X dL_law_417 3 rfl rfl ?_
  refine a_iload_n (i := 3) X dL_law_418 0 rfl rfl ?_
  refine a_iconst (v := (2 : Int32)) X dL_law_419 (by decide) ?_
  refine a_iadd X dL_law_420 ?_
  refine a_sld X hX hbl hbA (show vp_in (nI i + (2 : Int32)) L from (nI_add i 2 : nI i + (2 : Int32) = nI (i + 2)) ▸ vp_in_nI (by omega) (by omega)) dL_law_421 ?_
  refine a_callM (d1 := 3) (As := [.int (xs (ix (nI i + (1 : Int32)))), .int (xs (ix (nI i + (2 : Int32))))]) (rest := [.int r]) X hM3 (by decide) hkc hks (fun Ac hZ => C_X9_pairing hZ hy1) tw978 tw979 tw980 tw77 tw981 (by decide) ds_X9_pairing rfl rfl (Nat.le_of_ble_eq_true rfl) dL_law_422 ?_
  exact a_icmp_eq_t (tgt := 1237) X dL_law_425 (by decide) (k σ1 τ1 hI1)
theorem tw422 : Cond.methodLink RL 49 yX8_needed ∈ zt := zt_at 422 (by decide +kernel)
theorem tw423 : Cond.instanceMethod yX8_needed ∈ zt := zt_at 423 (by decide +kernel)
theorem tw424 : Cond.selects "MarkerWalks" yX8_needed yX8_needed ∈ zt := zt_at 424 (by decide +kernel)
theorem tw425 : Cond.code yX8_needed cX8_needed 1 (some .int) ∈ zt := zt_at 425 (by decide +kernel)
theorem tw1000 : Cond.methodLink RL 52 yX9_needed ∈ zt := zt_at 1000 (by decide +kernel)
theorem tw1001 : Cond.instanceMethod yX9_needed ∈ zt := zt_at 1001 (by decide +kernel)
theorem tw1002 : Cond.selects "MarkerWalksModel" yX9_needed yX9_needed ∈ zt := zt_at 1002 (by decide +kernel)
theorem tw1003 : Cond.code yX9_needed cX9_needed 2 (some .int) ∈ zt := zt_at 1003 (by decide +kernel)
set_option maxHeartbeats 4000000 in
set_option maxRecDepth 100000 in
theorem law_c8 {κ : zT} {mc ms kc ks b L i : Nat} {xs : Nat → Int32} {εX εM : zV} {Inv : S3 → S3 → Prop} (hOK : zOK Inv) (X : zCA κ R_law code 4 2000 mc ms) (hkc : kc ≤ mc) (hks : ks ≤ ms) (hX3 : εX.1 = κ.1.2.2.2.1) (hM3 : εM.1 = κ.1.2.2.2.1) (hX : va_X b L xs κ.2.2.2.2.1 κ.2.2.2.2.1.heap) (hbl : b < κ.2.2.2.2.1.heap.size) (hbA : ¬ κ.1.2.2.1 b) (hL : L ≤ 3072) (hi : i + 6 ≤ L) {σ τ : S3} (hI : Inv σ τ) (k : ∀ σ1 τ1 : S3, Inv σ1 τ1 → ZA κ 4 (zX εX σ1 ++ zM εM τ1) [(3, .int (nI i)), (2, .ref (εM.2.1 0)), (1, .ref (εX.2.1 0)), (0, .ref b)] 1237 [] kc ks) : ZA κ 4 (zX εX σ ++ zM εM τ) [(3, .int (nI i)), (2, .ref (εM.2.1 0)), (1, .ref (εX.2.1 0)), (0, .ref b)] 430 [] kc ks := by
  obtain ⟨r, σ1, τ1, hx1, hy1, hI1⟩ := zOK_8 hOK σ τ hI
  refine a_aload_n (i := 1) X dL_law_430 2 rfl rfl ?_
  refine a_callX (d1 := 24) (As := []) (rest := []) X hX3 (by decide) hkc hks (fun Ac hZ => C_X8_needed hZ hx1) tw422 tw423 tw424 tw69 tw425 (by decide) ds_X8_needed rfl rfl (Nat.le_of_ble_eq_true rfl) dL_law_431 ?_
  refine a_aload_n (i := 2) X dL_law_434 1 rfl rfl ?_
  refine a_callM (d1 := 3) (As := []) (rest := [.int r]) X hM3 (by decide) hkc hks (fun Ac hZ => C_X9_needed hZ hy1) tw1000 tw1001 tw1002 tw77 tw1003 (by decide) ds_X9_needed rfl rfl (Nat.le_of_ble_eq_true rfl) dL_law_435 ?_
  exact a_icmp_eq_t (tgt := 1237) X dL_law_438 (by decide) (k σ1 τ1 hI1)
theorem tw432 : Cond.methodLink RL 53 yX8_kernel ∈ zt := zt_at 432 (by decide +kernel)
theorem tw433 : Cond.instanceMethod yX8_kernel ∈ zt := zt_at 433 (by decide +kernel)
theorem tw434 : Cond.selects "MarkerWalks" yX8_kernel yX8_kernel ∈ zt := zt_at 434 (by decide +kernel)
theorem tw435 : Cond.code yX8_kernel cX8_kernel 4 (some .int) ∈ zt := zt_at 435 (by decide +kernel)
theorem tw1004 : Cond.methodLink RL 56 yX9_kernel ∈ zt := zt_at 1004 (by decide +kernel)
theorem tw1005 : Cond.instanceMethod yX9_kernel ∈ zt := zt_at 1005 (by decide +kernel)
theorem tw1006 : Cond.selects "MarkerWalksModel" yX9_kernel yX9_kernel ∈ zt := zt_at 1006 (by decide +kernel)
theorem tw1007 : Cond.code yX9_kernel cX9_kernel 4 (some .int) ∈ zt := zt_at 1007 (by decide +kernel)
set_option maxHeartbeats 4000000 in
set_option maxRecDepth 100000 in
theorem law_c9 {κ : zT} {mc ms kc ks b L i : Nat} {xs : Nat → Int32} {εX εM : zV} {Inv : S3 → S3 → Prop} (hOK : zOK Inv) (X : zCA κ R_law code 4 2000 mc ms) (hkc : kc ≤ mc) (hks : ks ≤ ms) (hX3 : εX.1 = κ.1.2.2.2.1) (hM3 : εM.1 = κ.1.2.2.2.1) (hX : va_X b L xs κ.2.2.2.2.1 κ.2.2.2.2.1.heap) (hbl : b < κ.2.2.2.2.1.heap.size) (hbA : ¬ κ.1.2.2.1 b) (hL : L ≤ 3072) (hi : i + 6 ≤ L) {σ τ : S3} (hI : Inv σ τ) (k : ∀ σ1 τ1 : S3, Inv σ1 τ1 → ZA κ 4 (zX εX σ1 ++ zM εM τ1) [(3, .int (nI i)), (2, .ref (εM.2.1 0)), (1, .ref (εX.2.1 0)), (0, .ref b)] 1237 [] kc ks) : ZA κ 4 (zX εX σ ++ zM εM τ) [(3, .int (nI i)), (2, .ref (εM.2.1 0)), (1, .ref (εX.2.1 0)), (0, .ref b)] 443 [] kc ks := by
  obtain ⟨r, σ1, τ1, hx1, hy1, hI1⟩ := zOK_9 hOK σ τ hI ((xs (ix (nI i + (1 : Int32)))))
  refine a_aload_n (i := 1) X dL_law_443 2 rfl rfl ?_
  refine a_aload_n (i := 0) X dL_law_444 3 rfl rfl ?_
  refine a_iload_n (i := 3) X dL_law_445 0 rfl rfl ?_
  refine a_iconst (v := (1 : Int32)) X dL_law_446 (by decide) ?_
  refine a_iadd X dL_law_447 ?_
  refine a_sld X hX hbl hbA (show vp_in (nI i + (1 : Int32)) L from (nI_add i 1 : nI i + (1 : Int32) = nI (i + 1)) ▸ vp_in_nI (by omega) (by omega)) dL_law_448 ?_
  refine a_callX (d1 := 1) (As := [.int (xs (ix (nI i + (1 : Int32))))]) (rest := []) X hX3 (by decide) hkc hks (fun Ac hZ => C_X8_kernel hZ hx1) tw432 tw433 tw434 tw69 tw435 (by decide) ds_X8_kernel rfl rfl (Nat.le_of_ble_eq_true rfl) dL_law_449 ?_
  refine a_aload_n (i := 2) X dL_law_452 1 rfl rfl ?_
  refine a_aload_n (i := 0) X dL_law_453 3 rfl rfl ?_
  refine a_iload_n (i := 3) X dL_law_454 0 rfl rfl ?_
  refine a_iconst (v := (1 : Int32)) X dL_law_455 (by decide) ?_
  refine a_iadd X dL_law_456 ?_
  refine a_sld X hX hbl hbA (show vp_in (nI i + (1 : Int32)) L from (nI_add i 1 : nI i + (1 : Int32) = nI (i + 1)) ▸ vp_in_nI (by omega) (by omega)) dL_law_457 ?_
  refine a_callM (d1 := 2) (As := [.int (xs (ix (nI i + (1 : Int32))))]) (rest := [.int r]) X hM3 (by decide) hkc hks (fun Ac hZ => C_X9_kernel hZ hy1) tw1004 tw1005 tw1006 tw77 tw1007 (by decide) ds_X9_kernel rfl rfl (Nat.le_of_ble_eq_true rfl) dL_law_458 ?_
  exact a_icmp_eq_t (tgt := 1237) X dL_law_461 (by decide) (k σ1 τ1 hI1)
theorem tw440 : Cond.methodLink RL 59 yX8_feed ∈ zt := zt_at 440 (by decide +kernel)
theorem tw441 : Cond.instanceMethod yX8_feed ∈ zt := zt_at 441 (by decide +kernel)
theorem tw442 : Cond.selects "MarkerWalks" yX8_feed yX8_feed ∈ zt := zt_at 442 (by decide +kernel)
theorem tw443 : Cond.code yX8_feed cX8_feed 4 (some .int) ∈ zt := zt_at 443 (by decide +kernel)
theorem tw1012 : Cond.methodLink RL 63 yX9_feed ∈ zt := zt_at 1012 (by decide +kernel)
theorem tw1013 : Cond.instanceMethod yX9_feed ∈ zt := zt_at 1013 (by decide +kernel)
theorem tw1014 : Cond.selects "MarkerWalksModel" yX9_feed yX9_feed ∈ zt := zt_at 1014 (by decide +kernel)
theorem tw1015 : Cond.code yX9_feed cX9_feed 5 (some .int) ∈ zt := zt_at 1015 (by decide +kernel)
set_option maxHeartbeats 4000000 in
set_option maxRecDepth 100000 in
theorem law_c10 {κ : zT} {mc ms kc ks b L i : Nat} {xs : Nat → Int32} {εX εM : zV} {Inv : S3 → S3 → Prop} (hOK : zOK Inv) (X : zCA κ R_law code 4 2000 mc ms) (hkc : kc ≤ mc) (hks : ks ≤ ms) (hX3 : εX.1 = κ.1.2.2.2.1) (hM3 : εM.1 = κ.1.2.2.2.1) (hX : va_X b L xs κ.2.2.2.2.1 κ.2.2.2.2.1.heap) (hbl : b < κ.2.2.2.2.1.heap.size) (hbA : ¬ κ.1.2.2.1 b) (hL : L ≤ 3072) (hi : i + 6 ≤ L) {σ τ : S3} (hI : Inv σ τ) (k : ∀ σ1 τ1 : S3, Inv σ1 τ1 → ZA κ 4 (zX εX σ1 ++ zM εM τ1) [(3, .int (nI i)), (2, .ref (εM.2.1 0)), (1, .ref (εX.2.1 0)), (0, .ref b)] 1237 [] kc ks) : ZA κ 4 (zX εX σ ++ zM εM τ) [(3, .int (nI i)), (2, .ref (εM.2.1 0)), (1, .ref (εX.2.1 0)), (0, .ref b)] 466 [] kc ks := by
  obtain ⟨r, σ1, τ1, hx1, hy1, hI1⟩ := zOK_10 hOK σ τ hI (((((Int32.toInt64 (xs (ix (nI i + (1 : Int32)))))) <<< (Int32.toInt64 (32 : Int32) &&& 63)) ||| (((Int32.toInt64 (xs (ix (nI i + (2 : Int32)))))) &&& (4294967295 : Int64)))) ((xs (ix (nI i + (3 : Int32)))))
  refine a_aload_n (i := 1) X dL_law_466 2 rfl rfl ?_
  refine a_aload_n (i := 0) X dL_law_467 3 rfl rfl ?_
  refine a_iload_n (i := 3) X dL_law_468 0 rfl rfl ?_
  refine a_iconst (v := (1 : Int32)) X dL_law_469 (by decide) ?_
  refine a_iadd X dL_law_470 ?_
  refine a_sld X hX hbl hbA (show vp_in (nI i + (1 : Int32)) L from (nI_add i 1 : nI i + (1 : Int32) = nI (i + 1)) ▸ vp_in_nI (by omega) (by omega)) dL_law_471 ?_
  refine a_i2l X dL_law_472 ?_
  refine a_bipush (v := (32 : Int32)) X dL_law_473 (by decide) ?_
  refine a_lshl X dL_law_475 ?_
  refine a_aload_n (i := 0) X dL_law_476 3 rfl rfl ?_
  refine a_iload_n (i := 3) X dL_law_477 0 rfl rfl ?_
  refine a_iconst (v := (2 : Int32)) X dL_law_478 (by decide) ?_
  refine a_iadd X dL_law_479 ?_
  refine a_sld X hX hbl hbA (show vp_in (nI i + (2 : Int32)) L from (nI_add i 2 : nI i + (2 : Int32) = nI (i + 2)) ▸ vp_in_nI (by omega) (by omega)) dL_law_480 ?_
  refine a_i2l X dL_law_481 ?_
  refine a_ldc2_w (v := (4294967295 : Int64)) X dL_law_482 tw1270 ?_
  refine a_land X dL_law_485 ?_
  refine a_lor X dL_law_486 ?_
  refine a_aload_n (i := 0) X dL_law_487 3 rfl rfl ?_
  refine a_iload_n (i := 3) X dL_law_488 0 rfl rfl ?_
  refine a_iconst (v := (3 : Int32)) X dL_law_489 (by decide) ?_
  refine a_iadd X dL_law_490 ?_
  refine a_sld X hX hbl hbA (show vp_in (nI i + (3 : Int32)) L from (nI_add i 3 : nI i + (3 : Int32) = nI (i + 3)) ▸ vp_in_nI (by omega) (by omega)) dL_law_491 ?_
  refine a_callX (d1 := 1) (As := [.long ((((Int32.toInt64 (xs (ix (nI i + (1 : Int32)))))) <<< (Int32.toInt64 (32 : Int32) &&& 63)) ||| (((Int32.toInt64 (xs (ix (nI i + (2 : Int32)))))) &&& (4294967295 : Int64))), .int (xs (ix (nI i + (3 : Int32))))]) (rest := []) X hX3 (by decide) hkc hks (fun Ac hZ => C_X8_feed hZ hx1) tw440 tw441 tw442 tw69 tw443 (by decide) ds_X8_feed rfl rfl (Nat.le_of_ble_eq_true rfl) dL_law_492 ?_
  refine a_aload_n (i := 2) X dL_law_495 1 rfl rfl ?_
  refine a_aload_n (i := 0) X dL_law_496 3 rfl rfl ?_
  refine a_iload_n (i := 3) X dL_law_497 0 rfl rfl ?_
  refine a_iconst (v := (1 : Int32)) X dL_law_498 (by decide) ?_
  refine a_iadd X dL_law_499 ?_
  refine a_sld X hX hbl hbA (show vp_in (nI i + (1 : Int32)) L from (nI_add i 1 : nI i + (1 : Int32) = nI (i + 1)) ▸ vp_in_nI (by omega) (by omega)) dL_law_500 ?_
  refine a_i2l X dL_law_501 ?_
  refine a_bipush (v := (32 : Int32)) X dL_law_502 (by decide) ?_
  refine a_lshl X dL_law_504 ?_
  refine a_aload_n (i := 0) X dL_law_505 3 rfl rfl ?_
  refine a_iload_n (i := 3) X dL_law_506 0 rfl rfl ?_
  refine a_iconst (v := (2 : Int32)) X dL_law_507 (by decide) ?_
  refine a_iadd X dL_law_508 ?_
  refine a_sld X hX hbl hbA (show vp_in (nI i + (2 : Int32)) L from (nI_add i 2 : nI i + (2 : Int32) = nI (i + 2)) ▸ vp_in_nI (by omega) (by omega)) dL_law_509 ?_
  refine a_i2l X dL_law_510 ?_
  refine a_ldc2_w (v := (4294967295 : Int64)) X dL_law_511 tw1270 ?_
  refine a_land X dL_law_514 ?_
  refine a_lor X dL_law_515 ?_
  refine a_aload_n (i := 0) X dL_law_516 3 rfl rfl ?_
  refine a_iload_n (i := 3) X dL_law_517 0 rfl rfl ?_
  refine a_iconst (v := (3 : Int32)) X dL_law_518 (by decide) ?_
  refine a_iadd X dL_law_519 ?_
  refine a_sld X hX hbl hbA (show vp_in (nI i + (3 : Int32)) L from (nI_add i 3 : nI i + (3 : Int32) = nI (i + 3)) ▸ vp_in_nI (by omega) (by omega)) dL_law_520 ?_
  refine a_callM (d1 := 1) (As := [.long ((((Int32.toInt64 (xs (ix (nI i + (1 : Int32)))))) <<< (Int32.toInt64 (32 : Int32) &&& 63)) ||| (((Int32.toInt64 (xs (ix (nI i + (2 : Int32)))))) &&& (4294967295 : Int64))), .int (xs (ix (nI i + (3 : Int32))))]) (rest := [.int r]) X hM3 (by decide) hkc hks (fun Ac hZ => C_X9_feed hZ hy1) tw1012 tw1013 tw1014 tw77 tw1015 (by decide) ds_X9_feed rfl rfl (Nat.le_of_ble_eq_true rfl) dL_law_521 ?_
  exact a_icmp_eq_t (tgt := 1237) X dL_law_524 (by decide) (k σ1 τ1 hI1)
theorem tw448 : Cond.methodLink RL 64 yX8_network ∈ zt := zt_at 448 (by decide +kernel)
theorem tw449 : Cond.instanceMethod yX8_network ∈ zt := zt_at 449 (by decide +kernel)
theorem tw450 : Cond.selects "MarkerWalks" yX8_network yX8_network ∈ zt := zt_at 450 (by decide +kernel)
theorem tw451 : Cond.code yX8_network cX8_network 2 (some .int) ∈ zt := zt_at 451 (by decide +kernel)
theorem tw1017 : Cond.methodLink RL 67 yX9_network ∈ zt := zt_at 1017 (by decide +kernel)
theorem tw1018 : Cond.instanceMethod yX9_network ∈ zt := zt_at 1018 (by decide +kernel)
theorem tw1019 : Cond.selects "MarkerWalksModel" yX9_network yX9_network ∈ zt := zt_at 1019 (by decide +kernel)
theorem tw1020 : Cond.code yX9_network cX9_network 7 (some .int) ∈ zt := zt_at 1020 (by decide +kernel)
set_option maxHeartbeats 4000000 in
set_option maxRecDepth 100000 in
theorem law_c11 {κ : zT} {mc ms kc ks b L i : Nat} {xs : Nat → Int32} {εX εM : zV} {Inv : S3 → S3 → Prop} (hOK : zOK Inv) (X : zCA κ R_law code 4 2000 mc ms) (hkc : kc ≤ mc) (hks : ks ≤ ms) (hX3 : εX.1 = κ.1.2.2.2.1) (hM3 : εM.1 = κ.1.2.2.2.1) (hX : va_X b L xs κ.2.2.2.2.1 κ.2.2.2.2.1.heap) (hbl : b < κ.2.2.2.2.1.heap.size) (hbA : ¬ κ.1.2.2.1 b) (hL : L ≤ 3072) (hi : i + 6 ≤ L) {σ τ : S3} (hI : Inv σ τ) (k : ∀ σ1 τ1 : S3, Inv σ1 τ1 → ZA κ 4 (zX εX σ1 ++ zM εM τ1) [(3, .int (nI i)), (2, .ref (εM.2.1 0)), (1, .ref (εX.2.1 0)), (0, .ref b)] 1237 [] kc ks) : ZA κ 4 (zX εX σ ++ zM εM τ) [(3, .int (nI i)), (2, .ref (εM.2.1 0)), (1, .ref (εX.2.1 0)), (0, .ref b)] 529 [] kc ks := by
  obtain ⟨r, σ1, τ1, hx1, hy1, hI1⟩ := zOK_11 hOK σ τ hI
  refine a_aload_n (i := 1) X dL_law_529 2 rfl rfl ?_
  refine a_callX (d1 := 4) (As := []) (rest := []) X hX3 (by decide) hkc hks (fun Ac hZ => C_X8_network hZ hx1) tw448 tw449 tw450 tw69 tw451 (by decide) ds_X8_network rfl rfl (Nat.le_of_ble_eq_true rfl) dL_law_530 ?_
  refine a_aload_n (i := 2) X dL_law_533 1 rfl rfl ?_
  refine a_callM (d1 := 2) (As := []) (rest := [.int r]) X hM3 (by decide) hkc hks (fun Ac hZ => C_X9_network hZ hy1) tw1017 tw1018 tw1019 tw77 tw1020 (by decide) ds_X9_network rfl rfl (Nat.le_of_ble_eq_true rfl) dL_law_534 ?_
  exact a_icmp_eq_t (tgt := 1237) X dL_law_537 (by decide) (k σ1 τ1 hI1)
theorem tw473 : Cond.methodLink RL 68 yX8_begin ∈ zt := zt_at 473 (by decide +kernel)
theorem tw474 : Cond.instanceMethod yX8_begin ∈ zt := zt_at 474 (by decide +kernel)
theorem tw475 : Cond.selects "MarkerWalks" yX8_begin yX8_begin ∈ zt := zt_at 475 (by decide +kernel)
theorem tw476 : Cond.code yX8_begin cX8_begin 3 (some .int) ∈ zt := zt_at 476 (by decide +kernel)
theorem tw1029 : Cond.methodLink RL 71 yX9_begin ∈ zt := zt_at 1029 (by decide +kernel)
theorem tw1030 : Cond.instanceMethod yX9_begin ∈ zt := zt_at 1030 (by decide +kernel)
theorem tw1031 : Cond.selects "MarkerWalksModel" yX9_begin yX9_begin ∈ zt := zt_at 1031 (by decide +kernel)
theorem tw1032 : Cond.code yX9_begin cX9_begin 3 (some .int) ∈ zt := zt_at 1032 (by decide +kernel)
set_option maxHeartbeats 4000000 in
set_option maxRecDepth 100000 in
theorem law_c12 {κ : zT} {mc ms kc ks b L i : Nat} {xs : Nat → Int32} {εX εM : zV} {Inv : S3 → S3 → Prop} (hOK : zOK Inv) (X : zCA κ R_law code 4 2000 mc ms) (hkc : kc ≤ mc) (hks : ks ≤ ms) (hX3 : εX.1 = κ.1.2.2.2.1) (hM3 : εM.1 = κ.1.2.2.2.1) (hX : va_X b L xs κ.2.2.2.2.1 κ.2.2.2.2.1.heap) (hbl : b < κ.2.2.2.2.1.heap.size) (hbA : ¬ κ.1.2.2.1 b) (hL : L ≤ 3072) (hi : i + 6 ≤ L) {σ τ : S3} (hI : Inv σ τ) (k : ∀ σ1 τ1 : S3, Inv σ1 τ1 → ZA κ 4 (zX εX σ1 ++ zM εM τ1) [(3, .int (nI i)), (2, .ref (εM.2.1 0)), (1, .ref (εX.2.1 0)), (0, .ref b)] 1237 [] kc ks) : ZA κ 4 (zX εX σ ++ zM εM τ) [(3, .int (nI i)), (2, .ref (εM.2.1 0)), (1, .ref (εX.2.1 0)), (0, .ref b)] 542 [] kc ks := by
  obtain ⟨r, σ1, τ1, hx1, hy1, hI1⟩ := zOK_12 hOK σ τ hI ((xs (ix (nI i + (1 : Int32))))) ((xs (ix (nI i + (2 : Int32)))))
  refine a_aload_n (i := 1) X dL_law_542 2 rfl rfl ?_
  refine a_aload_n (i := 0) X dL_law_543 3 rfl rfl ?_
  refine a_iload_n (i := 3) X dL_law_544 0 rfl rfl ?_
  refine a_iconst (v := (1 : Int32)) X dL_law_545 (by decide) ?_
  refine a_iadd X dL_law_546 ?_
  refine a_sld X hX hbl hbA (show vp_in (nI i + (1 : Int32)) L from (nI_add i 1 : nI i + (1 : Int32) = nI (i + 1)) ▸ vp_in_nI (by omega) (by omega)) dL_law_547 ?_
  refine a_aload_n (i := 0) X dL_law_548 3 rfl rfl ?_
  refine a_iload_n (i := 3) X dL_law_549 0 rfl rfl ?_
  refine a_iconst (v := (2 : Int32)) X dL_law_550 (by decide) ?_
  refine a_iadd X dL_law_551 ?_
  refine a_sld X hX hbl hbA (show vp_in (nI i + (2 : Int32)) L from (nI_add i 2 : nI i + (2 : Int32) = nI (i + 2)) ▸ vp_in_nI (by omega) (by omega)) dL_law_552 ?_
  refine a_callX (d1 := 24) (As := [.int (xs (ix (nI i + (1 : Int32)))), .int (xs (ix (nI i + (2 : Int32))))]) (rest := []) X hX3 (by decide) hkc hks (fun Ac hZ => C_X8_begin hZ hx1) tw473 tw474 tw475 tw69 tw476 (by decide) ds_X8_begin rfl rfl (Nat.le_of_ble_eq_true rfl) dL_law_553 ?_
  refine a_aload_n (i := 2) X dL_law_556 1 rfl rfl ?_
  refine a_aload_n (i := 0) X dL_law_557 3 rfl rfl ?_
  refine a_iload_n (i := 3) X dL_law_558 0 rfl rfl ?_
  refine a_iconst (v := (1 : Int32)) X dL_law_559 (by decide) ?_
  refine a_iadd X dL_law_560 ?_
  refine a_sld X hX hbl hbA (show vp_in (nI i + (1 : Int32)) L from (nI_add i 1 : nI i + (1 : Int32) = nI (i + 1)) ▸ vp_in_nI (by omega) (by omega)) dL_law_561 ?_
  refine a_aload_n (i := 0) X dL_law_562 3 rfl rfl ?_
  refine a_iload_n (i := 3) X dL_law_563 0 rfl rfl ?_
  refine a_iconst (v := (2 : Int32)) X dL_law_564 (by decide) ?_
  refine a_iadd X dL_law_565 ?_
  refine a_sld X hX hbl hbA (show vp_in (nI i + (2 : Int32)) L from (nI_add i 2 : nI i + (2 : Int32) = nI (i + 2)) ▸ vp_in_nI (by omega) (by omega)) dL_law_566 ?_
  refine a_callM (d1 := 24) (As := [.int (xs (ix (nI i + (1 : Int32)))), .int (xs (ix (nI i + (2 : Int32))))]) (rest := [.int r]) X hM3 (by decide) hkc hks (fun Ac hZ => C_X9_begin hZ hy1) tw1029 tw1030 tw1031 tw77 tw1032 (by decide) ds_X9_begin rfl rfl (Nat.le_of_ble_eq_true rfl) dL_law_567 ?_
  exact a_icmp_eq_t (tgt := 1237) X dL_law_570 (by decide) (k σ1 τ1 hI1)
theorem tw559 : Cond.methodLink RL 72 yX8_go ∈ zt := zt_at 559 (by decide +kernel)
theorem tw560 : Cond.instanceMethod yX8_go ∈ zt := zt_at 560 (by decide +kernel)
theorem tw561 : Cond.selects "MarkerWalks" yX8_go yX8_go ∈ zt := zt_at 561 (by decide +kernel)
theorem tw562 : Cond.code yX8_go cX8_go 2 (some .int) ∈ zt := zt_at 562 (by decide +kernel)
theorem tw1069 : Cond.methodLink RL 75 yX9_go ∈ zt := zt_at 1069 (by decide +kernel)
theorem tw1070 : Cond.instanceMethod yX9_go ∈ zt := zt_at 1070 (by decide +kernel)
theorem tw1071 : Cond.selects "MarkerWalksModel" yX9_go yX9_go ∈ zt := zt_at 1071 (by decide +kernel)
theorem tw1072 : Cond.code yX9_go cX9_go 2 (some .int) ∈ zt := zt_at 1072 (by decide +kernel)
set_option maxHeartbeats 4000000 in
set_option maxRecDepth 100000 in
theorem law_c13 {κ : zT} {mc ms kc ks b L i : Nat} {xs : Nat → Int32} {εX εM : zV} {Inv : S3 → S3 → Prop} (hOK : zOK Inv) (X : zCA κ R_law code 4 2000 mc ms) (hkc : kc ≤ mc) (hks : ks ≤ ms) (hX3 : εX.1 = κ.1.2.2.2.1) (hM3 : εM.1 = κ.1.2.2.2.1) (hX : va_X b L xs κ.2.2.2.2.1 κ.2.2.2.2.1.heap) (hbl : b < κ.2.2.2.2.1.heap.size) (hbA : ¬ κ.1.2.2.1 b) (hL : L ≤ 3072) (hi : i + 6 ≤ L) {σ τ : S3} (hI : Inv σ τ) (k : ∀ σ1 τ1 : S3, Inv σ1 τ1 → ZA κ 4 (zX εX σ1 ++ zM εM τ1) [(3, .int (nI i)), (2, .ref (εM.2.1 0)), (1, .ref (εX.2.1 0)), (0, .ref b)] 1237 [] kc ks) : ZA κ 4 (zX εX σ ++ zM εM τ) [(3, .int (nI i)), (2, .ref (εM.2.1 0)), (1, .ref (εX.2.1 0)), (0, .ref b)] 575 [] kc ks := by
  obtain ⟨r, σ1, τ1, hx1, hy1, hI1⟩ := zOK_13 hOK σ τ hI ((xs (ix (nI i + (1 : Int32)))))
  refine a_aload_n (i := 1) X dL_law_575 2 rfl rfl ?_
  refine a_aload_n (i := 0) X dL_law_576 3 rfl rfl ?_
  refine a_iload_n (i := 3) X dL_law_577 0 rfl rfl ?_
  refine a_iconst (v := (1 : Int32)) X dL_law_578 (by decide) ?_
  refine a_iadd X dL_law_579 ?_
  refine a_sld X hX hbl hbA (show vp_in (nI i + (1 : Int32)) L from (nI_add i 1 : nI i + (1 : Int32) = nI (i + 1)) ▸ vp_in_nI (by omega) (by omega)) dL_law_580 ?_
  refine a_callX (d1 := 3) (As := [.int (xs (ix (nI i + (1 : Int32))))]) (rest := []) X hX3 (by decide) hkc hks (fun Ac hZ => C_X8_go hZ hx1) tw559 tw560 tw561 tw69 tw562 (by decide) ds_X8_go rfl rfl (Nat.le_of_ble_eq_true rfl) dL_law_581 ?_
  refine a_aload_n (i := 2) X dL_law_584 1 rfl rfl ?_
  refine a_aload_n (i := 0) X dL_law_585 3 rfl rfl ?_
  refine a_iload_n (i := 3) X dL_law_586 0 rfl rfl ?_
  refine a_iconst (v := (1 : Int32)) X dL_law_587 (by decide) ?_
  refine a_iadd X dL_law_588 ?_
  refine a_sld X hX hbl hbA (show vp_in (nI i + (1 : Int32)) L from (nI_add i 1 : nI i + (1 : Int32) = nI (i + 1)) ▸ vp_in_nI (by omega) (by omega)) dL_law_589 ?_
  refine a_callM (d1 := 5) (As := [.int (xs (ix (nI i + (1 : Int32))))]) (rest := [.int r]) X hM3 (by decide) hkc hks (fun Ac hZ => C_X9_go hZ hy1) tw1069 tw1070 tw1071 tw77 tw1072 (by decide) ds_X9_go rfl rfl (Nat.le_of_ble_eq_true rfl) dL_law_590 ?_
  exact a_icmp_eq_t (tgt := 1237) X dL_law_593 (by decide) (k σ1 τ1 hI1)
theorem tw573 : Cond.methodLink RL 76 yX8_back ∈ zt := zt_at 573 (by decide +kernel)
theorem tw574 : Cond.instanceMethod yX8_back ∈ zt := zt_at 574 (by decide +kernel)
theorem tw575 : Cond.selects "MarkerWalks" yX8_back yX8_back ∈ zt := zt_at 575 (by decide +kernel)
theorem tw576 : Cond.code yX8_back cX8_back 1 (some .int) ∈ zt := zt_at 576 (by decide +kernel)
theorem tw1089 : Cond.methodLink RL 79 yX9_back ∈ zt := zt_at 1089 (by decide +kernel)
theorem tw1090 : Cond.instanceMethod yX9_back ∈ zt := zt_at 1090 (by decide +kernel)
theorem tw1091 : Cond.selects "MarkerWalksModel" yX9_back yX9_back ∈ zt := zt_at 1091 (by decide +kernel)
theorem tw1092 : Cond.code yX9_back cX9_back 1 (some .int) ∈ zt := zt_at 1092 (by decide +kernel)
set_option maxHeartbeats 4000000 in
set_option maxRecDepth 100000 in
theorem law_c14 {κ : zT} {mc ms kc ks b L i : Nat} {xs : Nat → Int32} {εX εM : zV} {Inv : S3 → S3 → Prop} (hOK : zOK Inv) (X : zCA κ R_law code 4 2000 mc ms) (hkc : kc ≤ mc) (hks : ks ≤ ms) (hX3 : εX.1 = κ.1.2.2.2.1) (hM3 : εM.1 = κ.1.2.2.2.1) (hX : va_X b L xs κ.2.2.2.2.1 κ.2.2.2.2.1.heap) (hbl : b < κ.2.2.2.2.1.heap.size) (hbA : ¬ κ.1.2.2.1 b) (hL : L ≤ 3072) (hi : i + 6 ≤ L) {σ τ : S3} (hI : Inv σ τ) (k : ∀ σ1 τ1 : S3, Inv σ1 τ1 → ZA κ 4 (zX εX σ1 ++ zM εM τ1) [(3, .int (nI i)), (2, .ref (εM.2.1 0)), (1, .ref (εX.2.1 0)), (0, .ref b)] 1237 [] kc ks) : ZA κ 4 (zX εX σ ++ zM εM τ) [(3, .int (nI i)), (2, .ref (εM.2.1 0)), (1, .ref (εX.2.1 0)), (0, .ref b)] 598 [] kc ks := by
  obtain ⟨r, σ1, τ1, hx1, hy1, hI1⟩ := zOK_14 hOK σ τ hI
  refine a_aload_n (i := 1) X dL_law_598 2 rfl rfl ?_
  refine a_callX (d1 := 1) (As := []) (rest := []) X hX3 (by decide) hkc hks (fun Ac hZ => C_X8_back hZ hx1) tw573 tw574 tw575 tw69 tw576 (by decide) ds_X8_back rfl rfl (Nat.le_of_ble_eq_true rfl) dL_law_599 ?_
  refine a_aload_n (i := 2) X dL_law_602 1 rfl rfl ?_
  refine a_callM (d1 := 3) (As := []) (rest := [.int r]) X hM3 (by decide) hkc hks (fun Ac hZ => C_X9_back hZ hy1) tw1089 tw1090 tw1091 tw77 tw1092 (by decide) ds_X9_back rfl rfl (Nat.le_of_ble_eq_true rfl) dL_law_603 ?_
  exact a_icmp_eq_t (tgt := 1237) X dL_law_606 (by decide) (k σ1 τ1 hI1)
theorem tw577 : Cond.methodLink RL 80 yX8_game ∈ zt := zt_at 577 (by decide +kernel)
theorem tw578 : Cond.instanceMethod yX8_game ∈ zt := zt_at 578 (by decide +kernel)
theorem tw579 : Cond.selects "MarkerWalks" yX8_game yX8_game ∈ zt := zt_at 579 (by decide +kernel)
theorem tw580 : Cond.code yX8_game cX8_game 3 (some .int) ∈ zt := zt_at 580 (by decide +kernel)
theorem tw1097 : Cond.methodLink RL 83 yX9_game ∈ zt := zt_at 1097 (by decide +kernel)
theorem tw1098 : Cond.instanceMethod yX9_game ∈ zt := zt_at 1098 (by decide +kernel)
theorem tw1099 : Cond.selects "MarkerWalksModel" yX9_game yX9_game ∈ zt := zt_at 1099 (by decide +kernel)
theorem tw1100 : Cond.code yX9_game cX9_game 2 (some .int) ∈ zt := zt_at 1100 (by decide +kernel)
set_option maxHeartbeats 4000000 in
set_option maxRecDepth 100000 in
theorem law_c15 {κ : zT} {mc ms kc ks b L i : Nat} {xs : Nat → Int32} {εX εM : zV} {Inv : S3 → S3 → Prop} (hOK : zOK Inv) (X : zCA κ R_law code 4 2000 mc ms) (hkc : kc ≤ mc) (hks : ks ≤ ms) (hX3 : εX.1 = κ.1.2.2.2.1) (hM3 : εM.1 = κ.1.2.2.2.1) (hX : va_X b L xs κ.2.2.2.2.1 κ.2.2.2.2.1.heap) (hbl : b < κ.2.2.2.2.1.heap.size) (hbA : ¬ κ.1.2.2.1 b) (hL : L ≤ 3072) (hi : i + 6 ≤ L) {σ τ : S3} (hI : Inv σ τ) (k : ∀ σ1 τ1 : S3, Inv σ1 τ1 → ZA κ 4 (zX εX σ1 ++ zM εM τ1) [(3, .int (nI i)), (2, .ref (εM.2.1 0)), (1, .ref (εX.2.1 0)), (0, .ref b)] 1237 [] kc ks) : ZA κ 4 (zX εX σ ++ zM εM τ) [(3, .int (nI i)), (2, .ref (εM.2.1 0)), (1, .ref (εX.2.1 0)), (0, .ref b)] 611 [] kc ks := by
  obtain ⟨r, σ1, τ1, hx1, hy1, hI1⟩ := zOK_15 hOK σ τ hI ((xs (ix (nI i + (1 : Int32)))))
  refine a_aload_n (i := 1) X dL_law_611 2 rfl rfl ?_
  refine a_aload_n (i := 0) X dL_law_612 3 rfl rfl ?_
  refine a_iload_n (i := 3) X dL_law_613 0 rfl rfl ?_
  refine a_iconst (v := (1 : Int32)) X dL_law_614 (by decide) ?_
  refine a_iadd X dL_law_615 ?_
  refine a_sld X hX hbl hbA (show vp_in (nI i + (1 : Int32)) L from (nI_add i 1 : nI i + (1 : Int32) = nI (i + 1)) ▸ vp_in_nI (by omega) (by omega)) dL_law_616 ?_
  refine a_callX (d1 := 25) (As := [.int (xs (ix (nI i + (1 : Int32))))]) (rest := []) X hX3 (by decide) hkc hks (fun Ac hZ => C_X8_game hZ hx1) tw577 tw578 tw579 tw69 tw580 (by decide) ds_X8_game rfl rfl (Nat.le_of_ble_eq_true rfl) dL_law_617 ?_
  refine a_aload_n (i := 2) X dL_law_620 1 rfl rfl ?_
  refine a_aload_n (i := 0) X dL_law_621 3 rfl rfl ?_
  refine a_iload_n (i := 3) X dL_law_622 0 rfl rfl ?_
  refine a_iconst (v := (1 : Int32)) X dL_law_623 (by decide) ?_
  refine a_iadd X dL_law_624 ?_
  refine a_sld X hX hbl hbA (show vp_in (nI i + (1 : Int32)) L from (nI_add i 1 : nI i + (1 : Int32) = nI (i + 1)) ▸ vp_in_nI (by omega) (by omega)) dL_law_625 ?_
  refine a_callM (d1 := 25) (As := [.int (xs (ix (nI i + (1 : Int32))))]) (rest := [.int r]) X hM3 (by decide) hkc hks (fun Ac hZ => C_X9_game hZ hy1) tw1097 tw1098 tw1099 tw77 tw1100 (by decide) ds_X9_game rfl rfl (Nat.le_of_ble_eq_true rfl) dL_law_626 ?_
  exact a_icmp_eq_t (tgt := 1237) X dL_law_629 (by decide) (k σ1 τ1 hI1)
theorem tw589 : Cond.methodLink RL 84 yX8_moved ∈ zt := zt_at 589 (by decide +kernel)
theorem tw590 : Cond.instanceMethod yX8_moved ∈ zt := zt_at 590 (by decide +kernel)
theorem tw591 : Cond.selects "MarkerWalks" yX8_moved yX8_moved ∈ zt := zt_at 591 (by decide +kernel)
theorem tw592 : Cond.code yX8_moved cX8_moved 2 (some .int) ∈ zt := zt_at 592 (by decide +kernel)
theorem tw1109 : Cond.methodLink RL 87 yX9_moved ∈ zt := zt_at 1109 (by decide +kernel)
theorem tw1110 : Cond.instanceMethod yX9_moved ∈ zt := zt_at 1110 (by decide +kernel)
theorem tw1111 : Cond.selects "MarkerWalksModel" yX9_moved yX9_moved ∈ zt := zt_at 1111 (by decide +kernel)
theorem tw1112 : Cond.code yX9_moved cX9_moved 2 (some .int) ∈ zt := zt_at 1112 (by decide +kernel)
set_option maxHeartbeats 4000000 in
set_option maxRecDepth 100000 in
theorem law_c16 {κ : zT} {mc ms kc ks b L i : Nat} {xs : Nat → Int32} {εX εM : zV} {Inv : S3 → S3 → Prop} (hOK : zOK Inv) (X : zCA κ R_law code 4 2000 mc ms) (hkc : kc ≤ mc) (hks : ks ≤ ms) (hX3 : εX.1 = κ.1.2.2.2.1) (hM3 : εM.1 = κ.1.2.2.2.1) (hX : va_X b L xs κ.2.2.2.2.1 κ.2.2.2.2.1.heap) (hbl : b < κ.2.2.2.2.1.heap.size) (hbA : ¬ κ.1.2.2.1 b) (hL : L ≤ 3072) (hi : i + 6 ≤ L) {σ τ : S3} (hI : Inv σ τ) (k : ∀ σ1 τ1 : S3, Inv σ1 τ1 → ZA κ 4 (zX εX σ1 ++ zM εM τ1) [(3, .int (nI i)), (2, .ref (εM.2.1 0)), (1, .ref (εX.2.1 0)), (0, .ref b)] 1237 [] kc ks) : ZA κ 4 (zX εX σ ++ zM εM τ) [(3, .int (nI i)), (2, .ref (εM.2.1 0)), (1, .ref (εX.2.1 0)), (0, .ref b)] 634 [] kc ks := by
  obtain ⟨r, σ1, τ1, hx1, hy1, hI1⟩ := zOK_16 hOK σ τ hI ((xs (ix (nI i + (1 : Int32)))))
  refine a_aload_n (i := 1) X dL_law_634 2 rfl rfl ?_
  refine a_aload_n (i := 0) X dL_law_635 3 rfl rfl ?_
  refine a_iload_n (i := 3) X dL_law_636 0 rfl rfl ?_
  refine a_iconst (v := (1 : Int32)) X dL_law_637 (by decide) ?_
  refine a_iadd X dL_law_638 ?_
  refine a_sld X hX hbl hbA (show vp_in (nI i + (1 : Int32)) L from (nI_add i 1 : nI i + (1 : Int32) = nI (i + 1)) ▸ vp_in_nI (by omega) (by omega)) dL_law_639 ?_
  refine a_callX (d1 := 1) (As := [.int (xs (ix (nI i + (1 : Int32))))]) (rest := []) X hX3 (by decide) hkc hks (fun Ac hZ => C_X8_moved hZ hx1) tw589 tw590 tw591 tw69 tw592 (by decide) ds_X8_moved rfl rfl (Nat.le_of_ble_eq_true rfl) dL_law_640 ?_
  refine a_aload_n (i := 2) X dL_law_643 1 rfl rfl ?_
  refine a_aload_n (i := 0) X dL_law_644 3 rfl rfl ?_
  refine a_iload_n (i := 3) X dL_law_645 0 rfl rfl ?_
  refine a_iconst (v := (1 : Int32)) X dL_law_646 (by decide) ?_
  refine a_iadd X dL_law_647 ?_
  refine a_sld X hX hbl hbA (show vp_in (nI i + (1 : Int32)) L from (nI_add i 1 : nI i + (1 : Int32) = nI (i + 1)) ▸ vp_in_nI (by omega) (by omega)) dL_law_648 ?_
  refine a_callM (d1 := 1) (As := [.int (xs (ix (nI i + (1 : Int32))))]) (rest := [.int r]) X hM3 (by decide) hkc hks (fun Ac hZ => C_X9_moved hZ hy1) tw1109 tw1110 tw1111 tw77 tw1112 (by decide) ds_X9_moved rfl rfl (Nat.le_of_ble_eq_true rfl) dL_law_649 ?_
  exact a_icmp_eq_t (tgt := 1237) X dL_law_652 (by decide) (k σ1 τ1 hI1)
theorem tw593 : Cond.methodLink RL 88 yX8_moves ∈ zt := zt_at 593 (by decide +kernel)
theorem tw594 : Cond.instanceMethod yX8_moves ∈ zt := zt_at 594 (by decide +kernel)
theorem tw595 : Cond.selects "MarkerWalks" yX8_moves yX8_moves ∈ zt := zt_at 595 (by decide +kernel)
theorem tw596 : Cond.code yX8_moves cX8_moves 2 (some .int) ∈ zt := zt_at 596 (by decide +kernel)
theorem tw1113 : Cond.methodLink RL 91 yX9_moves ∈ zt := zt_at 1113 (by decide +kernel)
theorem tw1114 : Cond.instanceMethod yX9_moves ∈ zt := zt_at 1114 (by decide +kernel)
theorem tw1115 : Cond.selects "MarkerWalksModel" yX9_moves yX9_moves ∈ zt := zt_at 1115 (by decide +kernel)
theorem tw1116 : Cond.code yX9_moves cX9_moves 2 (some .int) ∈ zt := zt_at 1116 (by decide +kernel)
set_option maxHeartbeats 4000000 in
set_option maxRecDepth 100000 in
theorem law_c17 {κ : zT} {mc ms kc ks b L i : Nat} {xs : Nat → Int32} {εX εM : zV} {Inv : S3 → S3 → Prop} (hOK : zOK Inv) (X : zCA κ R_law code 4 2000 mc ms) (hkc : kc ≤ mc) (hks : ks ≤ ms) (hX3 : εX.1 = κ.1.2.2.2.1) (hM3 : εM.1 = κ.1.2.2.2.1) (hX : va_X b L xs κ.2.2.2.2.1 κ.2.2.2.2.1.heap) (hbl : b < κ.2.2.2.2.1.heap.size) (hbA : ¬ κ.1.2.2.1 b) (hL : L ≤ 3072) (hi : i + 6 ≤ L) {σ τ : S3} (hI : Inv σ τ) (k : ∀ σ1 τ1 : S3, Inv σ1 τ1 → ZA κ 4 (zX εX σ1 ++ zM εM τ1) [(3, .int (nI i)), (2, .ref (εM.2.1 0)), (1, .ref (εX.2.1 0)), (0, .ref b)] 1237 [] kc ks) : ZA κ 4 (zX εX σ ++ zM εM τ) [(3, .int (nI i)), (2, .ref (εM.2.1 0)), (1, .ref (εX.2.1 0)), (0, .ref b)] 657 [] kc ks := by
  obtain ⟨r, σ1, τ1, hx1, hy1, hI1⟩ := zOK_17 hOK σ τ hI ((xs (ix (nI i + (1 : Int32)))))
  refine a_aload_n (i := 1) X dL_law_657 2 rfl rfl ?_
  refine a_aload_n (i := 0) X dL_law_658 3 rfl rfl ?_
  refine a_iload_n (i := 3) X dL_law_659 0 rfl rfl ?_
  refine a_iconst (v := (1 : Int32)) X dL_law_660 (by decide) ?_
  refine a_iadd X dL_law_661 ?_
  refine a_sld X hX hbl hbA (show vp_in (nI i + (1 : Int32)) L from (nI_add i 1 : nI i + (1 : Int32) = nI (i + 1)) ▸ vp_in_nI (by omega) (by omega)) dL_law_662 ?_
  refine a_callX (d1 := 24) (As := [.int (xs (ix (nI i + (1 : Int32))))]) (rest := []) X hX3 (by decide) hkc hks (fun Ac hZ => C_X8_moves hZ hx1) tw593 tw594 tw595 tw69 tw596 (by decide) ds_X8_moves rfl rfl (Nat.le_of_ble_eq_true rfl) dL_law_663 ?_
  refine a_aload_n (i := 2) X dL_law_666 1 rfl rfl ?_
  refine a_aload_n (i := 0) X dL_law_667 3 rfl rfl ?_
  refine a_iload_n (i := 3) X dL_law_668 0 rfl rfl ?_
  refine a_iconst (v := (1 : Int32)) X dL_law_669 (by decide) ?_
  refine a_iadd X dL_law_670 ?_
  refine a_sld X hX hbl hbA (show vp_in (nI i + (1 : Int32)) L from (nI_add i 1 : nI i + (1 : Int32) = nI (i + 1)) ▸ vp_in_nI (by omega) (by omega)) dL_law_671 ?_
  refine a_callM (d1 := 26) (As := [.int (xs (ix (nI i + (1 : Int32))))]) (rest := [.int r]) X hM3 (by decide) hkc hks (fun Ac hZ => C_X9_moves hZ hy1) tw1113 tw1114 tw1115 tw77 tw1116 (by decide) ds_X9_moves rfl rfl (Nat.le_of_ble_eq_true rfl) dL_law_672 ?_
  exact a_icmp_eq_t (tgt := 1237) X dL_law_675 (by decide) (k σ1 τ1 hI1)
theorem tw601 : Cond.methodLink RL 92 yX8_worth ∈ zt := zt_at 601 (by decide +kernel)
theorem tw602 : Cond.instanceMethod yX8_worth ∈ zt := zt_at 602 (by decide +kernel)
theorem tw603 : Cond.selects "MarkerWalks" yX8_worth yX8_worth ∈ zt := zt_at 603 (by decide +kernel)
theorem tw604 : Cond.code yX8_worth cX8_worth 2 (some .int) ∈ zt := zt_at 604 (by decide +kernel)
theorem tw1125 : Cond.methodLink RL 95 yX9_worth ∈ zt := zt_at 1125 (by decide +kernel)
theorem tw1126 : Cond.instanceMethod yX9_worth ∈ zt := zt_at 1126 (by decide +kernel)
theorem tw1127 : Cond.selects "MarkerWalksModel" yX9_worth yX9_worth ∈ zt := zt_at 1127 (by decide +kernel)
theorem tw1128 : Cond.code yX9_worth cX9_worth 2 (some .int) ∈ zt := zt_at 1128 (by decide +kernel)
set_option maxHeartbeats 4000000 in
set_option maxRecDepth 100000 in
theorem law_c18 {κ : zT} {mc ms kc ks b L i : Nat} {xs : Nat → Int32} {εX εM : zV} {Inv : S3 → S3 → Prop} (hOK : zOK Inv) (X : zCA κ R_law code 4 2000 mc ms) (hkc : kc ≤ mc) (hks : ks ≤ ms) (hX3 : εX.1 = κ.1.2.2.2.1) (hM3 : εM.1 = κ.1.2.2.2.1) (hX : va_X b L xs κ.2.2.2.2.1 κ.2.2.2.2.1.heap) (hbl : b < κ.2.2.2.2.1.heap.size) (hbA : ¬ κ.1.2.2.1 b) (hL : L ≤ 3072) (hi : i + 6 ≤ L) {σ τ : S3} (hI : Inv σ τ) (k : ∀ σ1 τ1 : S3, Inv σ1 τ1 → ZA κ 4 (zX εX σ1 ++ zM εM τ1) [(3, .int (nI i)), (2, .ref (εM.2.1 0)), (1, .ref (εX.2.1 0)), (0, .ref b)] 1237 [] kc ks) : ZA κ 4 (zX εX σ ++ zM εM τ) [(3, .int (nI i)), (2, .ref (εM.2.1 0)), (1, .ref (εX.2.1 0)), (0, .ref b)] 680 [] kc ks := by
  obtain ⟨r, σ1, τ1, hx1, hy1, hI1⟩ := zOK_18 hOK σ τ hI ((xs (ix (nI i + (1 : Int32)))))
  refine a_aload_n (i := 1) X dL_law_680 2 rfl rfl ?_
  refine a_aload_n (i := 0) X dL_law_681 3 rfl rfl ?_
  refine a_iload_n (i := 3) X dL_law_682 0 rfl rfl ?_
  refine a_iconst (v := (1 : Int32)) X dL_law_683 (by decide) ?_
  refine a_iadd X dL_law_684 ?_
  refine a_sld X hX hbl hbA (show vp_in (nI i + (1 : Int32)) L from (nI_add i 1 : nI i + (1 : Int32) = nI (i + 1)) ▸ vp_in_nI (by omega) (by omega)) dL_law_685 ?_
  refine a_callX (d1 := 24) (As := [.int (xs (ix (nI i + (1 : Int32))))]) (rest := []) X hX3 (by decide) hkc hks (fun Ac hZ => C_X8_worth hZ hx1) tw601 tw602 tw603 tw69 tw604 (by decide) ds_X8_worth rfl rfl (Nat.le_of_ble_eq_true rfl) dL_law_686 ?_
  refine a_aload_n (i := 2) X dL_law_689 1 rfl rfl ?_
  refine a_aload_n (i := 0) X dL_law_690 3 rfl rfl ?_
  refine a_iload_n (i := 3) X dL_law_691 0 rfl rfl ?_
  refine a_iconst (v := (1 : Int32)) X dL_law_692 (by decide) ?_
  refine a_iadd X dL_law_693 ?_
  refine a_sld X hX hbl hbA (show vp_in (nI i + (1 : Int32)) L from (nI_add i 1 : nI i + (1 : Int32) = nI (i + 1)) ▸ vp_in_nI (by omega) (by omega)) dL_law_694 ?_
  refine a_callM (d1 := 24) (As := [.int (xs (ix (nI i + (1 : Int32))))]) (rest := [.int r]) X hM3 (by decide) hkc hks (fun Ac hZ => C_X9_worth hZ hy1) tw1125 tw1126 tw1127 tw77 tw1128 (by decide) ds_X9_worth rfl rfl (Nat.le_of_ble_eq_true rfl) dL_law_695 ?_
  exact a_icmp_eq_t (tgt := 1237) X dL_law_698 (by decide) (k σ1 τ1 hI1)
theorem tw613 : Cond.methodLink RL 96 yX8_reach ∈ zt := zt_at 613 (by decide +kernel)
theorem tw614 : Cond.instanceMethod yX8_reach ∈ zt := zt_at 614 (by decide +kernel)
theorem tw615 : Cond.selects "MarkerWalks" yX8_reach yX8_reach ∈ zt := zt_at 615 (by decide +kernel)
theorem tw616 : Cond.code yX8_reach cX8_reach 1 (some .int) ∈ zt := zt_at 616 (by decide +kernel)
theorem tw1137 : Cond.methodLink RL 99 yX9_reach ∈ zt := zt_at 1137 (by decide +kernel)
theorem tw1138 : Cond.instanceMethod yX9_reach ∈ zt := zt_at 1138 (by decide +kernel)
theorem tw1139 : Cond.selects "MarkerWalksModel" yX9_reach yX9_reach ∈ zt := zt_at 1139 (by decide +kernel)
theorem tw1140 : Cond.code yX9_reach cX9_reach 2 (some .int) ∈ zt := zt_at 1140 (by decide +kernel)
set_option maxHeartbeats 4000000 in
set_option maxRecDepth 100000 in
theorem law_c19 {κ : zT} {mc ms kc ks b L i : Nat} {xs : Nat → Int32} {εX εM : zV} {Inv : S3 → S3 → Prop} (hOK : zOK Inv) (X : zCA κ R_law code 4 2000 mc ms) (hkc : kc ≤ mc) (hks : ks ≤ ms) (hX3 : εX.1 = κ.1.2.2.2.1) (hM3 : εM.1 = κ.1.2.2.2.1) (hX : va_X b L xs κ.2.2.2.2.1 κ.2.2.2.2.1.heap) (hbl : b < κ.2.2.2.2.1.heap.size) (hbA : ¬ κ.1.2.2.1 b) (hL : L ≤ 3072) (hi : i + 6 ≤ L) {σ τ : S3} (hI : Inv σ τ) (k : ∀ σ1 τ1 : S3, Inv σ1 τ1 → ZA κ 4 (zX εX σ1 ++ zM εM τ1) [(3, .int (nI i)), (2, .ref (εM.2.1 0)), (1, .ref (εX.2.1 0)), (0, .ref b)] 1237 [] kc ks) : ZA κ 4 (zX εX σ ++ zM εM τ) [(3, .int (nI i)), (2, .ref (εM.2.1 0)), (1, .ref (εX.2.1 0)), (0, .ref b)] 703 [] kc ks := by
  obtain ⟨r, σ1, τ1, hx1, hy1, hI1⟩ := zOK_19 hOK σ τ hI
  refine a_aload_n (i := 1) X dL_law_703 2 rfl rfl ?_
  refine a_callX (d1 := 4) (As := []) (rest := []) X hX3 (by decide) hkc hks (fun Ac hZ => C_X8_reach hZ hx1) tw613 tw614 tw615 tw69 tw616 (by decide) ds_X8_reach rfl rfl (Nat.le_of_ble_eq_true rfl) dL_law_704 ?_
  refine a_aload_n (i := 2) X dL_law_707 1 rfl rfl ?_
  refine a_callM (d1 := 23) (As := []) (rest := [.int r]) X hM3 (by decide) hkc hks (fun Ac hZ => C_X9_reach hZ hy1) tw1137 tw1138 tw1139 tw77 tw1140 (by decide) ds_X9_reach rfl rfl (Nat.le_of_ble_eq_true rfl) dL_law_708 ?_
  exact a_icmp_eq_t (tgt := 1237) X dL_law_711 (by decide) (k σ1 τ1 hI1)
theorem tw632 : Cond.methodLink RL 100 yX8_starts ∈ zt := zt_at 632 (by decide +kernel)
theorem tw633 : Cond.instanceMethod yX8_starts ∈ zt := zt_at 633 (by decide +kernel)
theorem tw634 : Cond.selects "MarkerWalks" yX8_starts yX8_starts ∈ zt := zt_at 634 (by decide +kernel)
theorem tw635 : Cond.code yX8_starts cX8_starts 4 (some .int) ∈ zt := zt_at 635 (by decide +kernel)
theorem tw1145 : Cond.methodLink RL 103 yX9_starts ∈ zt := zt_at 1145 (by decide +kernel)
theorem tw1146 : Cond.instanceMethod yX9_starts ∈ zt := zt_at 1146 (by decide +kernel)
theorem tw1147 : Cond.selects "MarkerWalksModel" yX9_starts yX9_starts ∈ zt := zt_at 1147 (by decide +kernel)
theorem tw1148 : Cond.code yX9_starts cX9_starts 5 (some .int) ∈ zt := zt_at 1148 (by decide +kernel)
set_option maxHeartbeats 4000000 in
set_option maxRecDepth 100000 in
theorem law_c20 {κ : zT} {mc ms kc ks b L i : Nat} {xs : Nat → Int32} {εX εM : zV} {Inv : S3 → S3 → Prop} (hOK : zOK Inv) (X : zCA κ R_law code 4 2000 mc ms) (hkc : kc ≤ mc) (hks : ks ≤ ms) (hX3 : εX.1 = κ.1.2.2.2.1) (hM3 : εM.1 = κ.1.2.2.2.1) (hX : va_X b L xs κ.2.2.2.2.1 κ.2.2.2.2.1.heap) (hbl : b < κ.2.2.2.2.1.heap.size) (hbA : ¬ κ.1.2.2.1 b) (hL : L ≤ 3072) (hi : i + 6 ≤ L) {σ τ : S3} (hI : Inv σ τ) (k : ∀ σ1 τ1 : S3, Inv σ1 τ1 → ZA κ 4 (zX εX σ1 ++ zM εM τ1) [(3, .int (nI i)), (2, .ref (εM.2.1 0)), (1, .ref (εX.2.1 0)), (0, .ref b)] 1237 [] kc ks) : ZA κ 4 (zX εX σ ++ zM εM τ) [(3, .int (nI i)), (2, .ref (εM.2.1 0)), (1, .ref (εX.2.1 0)), (0, .ref b)] 716 [] kc ks := by
  obtain ⟨r, σ1, τ1, hx1, hy1, hI1⟩ := zOK_20 hOK σ τ hI ((xs (ix (nI i + (1 : Int32)))))
  refine a_aload_n (i := 1) X dL_law_716 2 rfl rfl ?_
  refine a_aload_n (i := 0) X dL_law_717 3 rfl rfl ?_
  refine a_iload_n (i := 3) X dL_law_718 0 rfl rfl ?_
  refine a_iconst (v := (1 : Int32)) X dL_law_719 (by decide) ?_
  refine a_iadd X dL_law_720 ?_
  refine a_sld X hX hbl hbA (show vp_in (nI i + (1 : Int32)) L from (nI_add i 1 : nI i + (1 : Int32) = nI (i + 1)) ▸ vp_in_nI (by omega) (by omega)) dL_law_721 ?_
  refine a_callX (d1 := 24) (As := [.int (xs (ix (nI i + (1 : Int32))))]) (rest := []) X hX3 (by decide) hkc hks (fun Ac hZ => C_X8_starts hZ hx1) tw632 tw633 tw634 tw69 tw635 (by decide) ds_X8_starts rfl rfl (Nat.le_of_ble_eq_true rfl) dL_law_722 ?_
  refine a_aload_n (i := 2) X dL_law_725 1 rfl rfl ?_
  refine a_aload_n (i := 0) X dL_law_726 3 rfl rfl ?_
  refine a_iload_n (i := 3) X dL_law_727 0 rfl rfl ?_
  refine a_iconst (v := (1 : Int32)) X dL_law_728 (by decide) ?_
  refine a_iadd X dL_law_729 ?_
  refine a_sld X hX hbl hbA (show vp_in (nI i + (1 : Int32)) L from (nI_add i 1 : nI i + (1 : Int32) = nI (i + 1)) ▸ vp_in_nI (by omega) (by omega)) dL_law_730 ?_
  refine a_callM (d1 := 24) (As := [.int (xs (ix (nI i + (1 : Int32))))]) (rest := [.int r]) X hM3 (by decide) hkc hks (fun Ac hZ => C_X9_starts hZ hy1) tw1145 tw1146 tw1147 tw77 tw1148 (by decide) ds_X9_starts rfl rfl (Nat.le_of_ble_eq_true rfl) dL_law_731 ?_
  exact a_icmp_eq_t (tgt := 1237) X dL_law_734 (by decide) (k σ1 τ1 hI1)
theorem tw636 : Cond.methodLink RL 104 yX8_tells ∈ zt := zt_at 636 (by decide +kernel)
theorem tw637 : Cond.instanceMethod yX8_tells ∈ zt := zt_at 637 (by decide +kernel)
theorem tw638 : Cond.selects "MarkerWalks" yX8_tells yX8_tells ∈ zt := zt_at 638 (by decide +kernel)
theorem tw639 : Cond.code yX8_tells cX8_tells 3 (some .int) ∈ zt := zt_at 639 (by decide +kernel)
theorem tw1149 : Cond.methodLink RL 107 yX9_tells ∈ zt := zt_at 1149 (by decide +kernel)
theorem tw1150 : Cond.instanceMethod yX9_tells ∈ zt := zt_at 1150 (by decide +kernel)
theorem tw1151 : Cond.selects "MarkerWalksModel" yX9_tells yX9_tells ∈ zt := zt_at 1151 (by decide +kernel)
theorem tw1152 : Cond.code yX9_tells cX9_tells 3 (some .int) ∈ zt := zt_at 1152 (by decide +kernel)
set_option maxHeartbeats 4000000 in
set_option maxRecDepth 100000 in
theorem law_c21 {κ : zT} {mc ms kc ks b L i : Nat} {xs : Nat → Int32} {εX εM : zV} {Inv : S3 → S3 → Prop} (hOK : zOK Inv) (X : zCA κ R_law code 4 2000 mc ms) (hkc : kc ≤ mc) (hks : ks ≤ ms) (hX3 : εX.1 = κ.1.2.2.2.1) (hM3 : εM.1 = κ.1.2.2.2.1) (hX : va_X b L xs κ.2.2.2.2.1 κ.2.2.2.2.1.heap) (hbl : b < κ.2.2.2.2.1.heap.size) (hbA : ¬ κ.1.2.2.1 b) (hL : L ≤ 3072) (hi : i + 6 ≤ L) {σ τ : S3} (hI : Inv σ τ) (k : ∀ σ1 τ1 : S3, Inv σ1 τ1 → ZA κ 4 (zX εX σ1 ++ zM εM τ1) [(3, .int (nI i)), (2, .ref (εM.2.1 0)), (1, .ref (εX.2.1 0)), (0, .ref b)] 1237 [] kc ks) : ZA κ 4 (zX εX σ ++ zM εM τ) [(3, .int (nI i)), (2, .ref (εM.2.1 0)), (1, .ref (εX.2.1 0)), (0, .ref b)] 739 [] kc ks := by
  obtain ⟨r, σ1, τ1, hx1, hy1, hI1⟩ := zOK_21 hOK σ τ hI ((xs (ix (nI i + (1 : Int32)))))
  refine a_aload_n (i := 1) X dL_law_739 2 rfl rfl ?_
  refine a_aload_n (i := 0) X dL_law_740 3 rfl rfl ?_
  refine a_iload_n (i := 3) X dL_law_741 0 rfl rfl ?_
  refine a_iconst (v := (1 : Int32)) X dL_law_742 (by decide) ?_
  refine a_iadd X dL_law_743 ?_
  refine a_sld X hX hbl hbA (show vp_in (nI i + (1 : Int32)) L from (nI_add i 1 : nI i + (1 : Int32) = nI (i + 1)) ▸ vp_in_nI (by omega) (by omega)) dL_law_744 ?_
  refine a_callX (d1 := 27) (As := [.int (xs (ix (nI i + (1 : Int32))))]) (rest := []) X hX3 (by decide) hkc hks (fun Ac hZ => C_X8_tells hZ hx1) tw636 tw637 tw638 tw69 tw639 (by decide) ds_X8_tells rfl rfl (Nat.le_of_ble_eq_true rfl) dL_law_745 ?_
  refine a_aload_n (i := 2) X dL_law_748 1 rfl rfl ?_
  refine a_aload_n (i := 0) X dL_law_749 3 rfl rfl ?_
  refine a_iload_n (i := 3) X dL_law_750 0 rfl rfl ?_
  refine a_iconst (v := (1 : Int32)) X dL_law_751 (by decide) ?_
  refine a_iadd X dL_law_752 ?_
  refine a_sld X hX hbl hbA (show vp_in (nI i + (1 : Int32)) L from (nI_add i 1 : nI i + (1 : Int32) = nI (i + 1)) ▸ vp_in_nI (by omega) (by omega)) dL_law_753 ?_
  refine a_callM (d1 := 28) (As := [.int (xs (ix (nI i + (1 : Int32))))]) (rest := [.int r]) X hM3 (by decide) hkc hks (fun Ac hZ => C_X9_tells hZ hy1) tw1149 tw1150 tw1151 tw77 tw1152 (by decide) ds_X9_tells rfl rfl (Nat.le_of_ble_eq_true rfl) dL_law_754 ?_
  exact a_icmp_eq_t (tgt := 1237) X dL_law_757 (by decide) (k σ1 τ1 hI1)
theorem tw687 : Cond.methodLink RL 108 yX8_play ∈ zt := zt_at 687 (by decide +kernel)
theorem tw688 : Cond.instanceMethod yX8_play ∈ zt := zt_at 688 (by decide +kernel)
theorem tw689 : Cond.selects "MarkerWalks" yX8_play yX8_play ∈ zt := zt_at 689 (by decide +kernel)
theorem tw690 : Cond.code yX8_play cX8_play 9 (some .int) ∈ zt := zt_at 690 (by decide +kernel)
theorem tw1183 : Cond.methodLink RL 111 yX9_play ∈ zt := zt_at 1183 (by decide +kernel)
theorem tw1184 : Cond.instanceMethod yX9_play ∈ zt := zt_at 1184 (by decide +kernel)
theorem tw1185 : Cond.selects "MarkerWalksModel" yX9_play yX9_play ∈ zt := zt_at 1185 (by decide +kernel)
theorem tw1186 : Cond.code yX9_play cX9_play 4 (some .int) ∈ zt := zt_at 1186 (by decide +kernel)
set_option maxHeartbeats 4000000 in
set_option maxRecDepth 100000 in
theorem law_c22 {κ : zT} {mc ms kc ks b L i : Nat} {xs : Nat → Int32} {εX εM : zV} {Inv : S3 → S3 → Prop} (hOK : zOK Inv) (X : zCA κ R_law code 4 2000 mc ms) (hkc : kc ≤ mc) (hks : ks ≤ ms) (hX3 : εX.1 = κ.1.2.2.2.1) (hM3 : εM.1 = κ.1.2.2.2.1) (hX : va_X b L xs κ.2.2.2.2.1 κ.2.2.2.2.1.heap) (hbl : b < κ.2.2.2.2.1.heap.size) (hbA : ¬ κ.1.2.2.1 b) (hL : L ≤ 3072) (hi : i + 6 ≤ L) {σ τ : S3} (hI : Inv σ τ) (k : ∀ σ1 τ1 : S3, Inv σ1 τ1 → ZA κ 4 (zX εX σ1 ++ zM εM τ1) [(3, .int (nI i)), (2, .ref (εM.2.1 0)), (1, .ref (εX.2.1 0)), (0, .ref b)] 1237 [] kc ks) : ZA κ 4 (zX εX σ ++ zM εM τ) [(3, .int (nI i)), (2, .ref (εM.2.1 0)), (1, .ref (εX.2.1 0)), (0, .ref b)] 762 [] kc ks := by
  obtain ⟨r, σ1, τ1, hx1, hy1, hI1⟩ := zOK_22 hOK σ τ hI ((xs (ix (nI i + (1 : Int32))))) ((xs (ix (nI i + (2 : Int32))))) ((xs (ix (nI i + (3 : Int32)))))
  refine a_aload_n (i := 1) X dL_law_762 2 rfl rfl ?_
  refine a_aload_n (i := 0) X dL_law_763 3 rfl rfl ?_
  refine a_iload_n (i := 3) X dL_law_764 0 rfl rfl ?_
  refine a_iconst (v := (1 : Int32)) X dL_law_765 (by decide) ?_
  refine a_iadd X dL_law_766 ?_
  refine a_sld X hX hbl hbA (show vp_in (nI i + (1 : Int32)) L from (nI_add i 1 : nI i + (1 : Int32) = nI (i + 1)) ▸ vp_in_nI (by omega) (by omega)) dL_law_767 ?_
  refine a_aload_n (i := 0) X dL_law_768 3 rfl rfl ?_
  refine a_iload_n (i := 3) X dL_law_769 0 rfl rfl ?_
  refine a_iconst (v := (2 : Int32)) X dL_law_770 (by decide) ?_
  refine a_iadd X dL_law_771 ?_
  refine a_sld X hX hbl hbA (show vp_in (nI i + (2 : Int32)) L from (nI_add i 2 : nI i + (2 : Int32) = nI (i + 2)) ▸ vp_in_nI (by omega) (by omega)) dL_law_772 ?_
  refine a_aload_n (i := 0) X dL_law_773 3 rfl rfl ?_
  refine a_iload_n (i := 3) X dL_law_774 0 rfl rfl ?_
  refine a_iconst (v := (3 : Int32)) X dL_law_775 (by decide) ?_
  refine a_iadd X dL_law_776 ?_
  refine a_sld X hX hbl hbA (show vp_in (nI i + (3 : Int32)) L from (nI_add i 3 : nI i + (3 : Int32) = nI (i + 3)) ▸ vp_in_nI (by omega) (by omega)) dL_law_777 ?_
  refine a_callX (d1 := 27) (As := [.int (xs (ix (nI i + (1 : Int32)))), .int (xs (ix (nI i + (2 : Int32)))), .int (xs (ix (nI i + (3 : Int32))))]) (rest := []) X hX3 (by decide) hkc hks (fun Ac hZ => C_X8_play hZ hx1) tw687 tw688 tw689 tw69 tw690 (by decide) ds_X8_play rfl rfl (Nat.le_of_ble_eq_true rfl) dL_law_778 ?_
  refine a_aload_n (i := 2) X dL_law_781 1 rfl rfl ?_
  refine a_aload_n (i := 0) X dL_law_782 3 rfl rfl ?_
  refine a_iload_n (i := 3) X dL_law_783 0 rfl rfl ?_
  refine a_iconst (v := (1 : Int32)) X dL_law_784 (by decide) ?_
  refine a_iadd X dL_law_785 ?_
  refine a_sld X hX hbl hbA (show vp_in (nI i + (1 : Int32)) L from (nI_add i 1 : nI i + (1 : Int32) = nI (i + 1)) ▸ vp_in_nI (by omega) (by omega)) dL_law_786 ?_
  refine a_aload_n (i := 0) X dL_law_787 3 rfl rfl ?_
  refine a_iload_n (i := 3) X dL_law_788 0 rfl rfl ?_
  refine a_iconst (v := (2 : Int32)) X dL_law_789 (by decide) ?_
  refine a_iadd X dL_law_790 ?_
  refine a_sld X hX hbl hbA (show vp_in (nI i + (2 : Int32)) L from (nI_add i 2 : nI i + (2 : Int32) = nI (i + 2)) ▸ vp_in_nI (by omega) (by omega)) dL_law_791 ?_
  refine a_aload_n (i := 0) X dL_law_792 3 rfl rfl ?_
  refine a_iload_n (i := 3) X dL_law_793 0 rfl rfl ?_
  refine a_iconst (v := (3 : Int32)) X dL_law_794 (by decide) ?_
  refine a_iadd X dL_law_795 ?_
  refine a_sld X hX hbl hbA (show vp_in (nI i + (3 : Int32)) L from (nI_add i 3 : nI i + (3 : Int32) = nI (i + 3)) ▸ vp_in_nI (by omega) (by omega)) dL_law_796 ?_
  refine a_callM (d1 := 29) (As := [.int (xs (ix (nI i + (1 : Int32)))), .int (xs (ix (nI i + (2 : Int32)))), .int (xs (ix (nI i + (3 : Int32))))]) (rest := [.int r]) X hM3 (by decide) hkc hks (fun Ac hZ => C_X9_play hZ hy1) tw1183 tw1184 tw1185 tw77 tw1186 (by decide) ds_X9_play rfl rfl (Nat.le_of_ble_eq_true rfl) dL_law_797 ?_
  exact a_icmp_eq_t (tgt := 1237) X dL_law_800 (by decide) (k σ1 τ1 hI1)
theorem tw692 : Cond.methodLink RL 112 yX8_fight ∈ zt := zt_at 692 (by decide +kernel)
theorem tw693 : Cond.instanceMethod yX8_fight ∈ zt := zt_at 693 (by decide +kernel)
theorem tw694 : Cond.selects "MarkerWalks" yX8_fight yX8_fight ∈ zt := zt_at 694 (by decide +kernel)
theorem tw695 : Cond.code yX8_fight cX8_fight 10 (some .int) ∈ zt := zt_at 695 (by decide +kernel)
theorem tw1191 : Cond.methodLink RL 115 yX9_fight ∈ zt := zt_at 1191 (by decide +kernel)
theorem tw1192 : Cond.instanceMethod yX9_fight ∈ zt := zt_at 1192 (by decide +kernel)
theorem tw1193 : Cond.selects "MarkerWalksModel" yX9_fight yX9_fight ∈ zt := zt_at 1193 (by decide +kernel)
theorem tw1194 : Cond.code yX9_fight cX9_fight 8 (some .int) ∈ zt := zt_at 1194 (by decide +kernel)
set_option maxHeartbeats 4000000 in
set_option maxRecDepth 100000 in
theorem law_c23 {κ : zT} {mc ms kc ks b L i : Nat} {xs : Nat → Int32} {εX εM : zV} {Inv : S3 → S3 → Prop} (hOK : zOK Inv) (X : zCA κ R_law code 4 2000 mc ms) (hkc : kc ≤ mc) (hks : ks ≤ ms) (hX3 : εX.1 = κ.1.2.2.2.1) (hM3 : εM.1 = κ.1.2.2.2.1) (hX : va_X b L xs κ.2.2.2.2.1 κ.2.2.2.2.1.heap) (hbl : b < κ.2.2.2.2.1.heap.size) (hbA : ¬ κ.1.2.2.1 b) (hL : L ≤ 3072) (hi : i + 6 ≤ L) {σ τ : S3} (hI : Inv σ τ) (k : ∀ σ1 τ1 : S3, Inv σ1 τ1 → ZA κ 4 (zX εX σ1 ++ zM εM τ1) [(3, .int (nI i)), (2, .ref (εM.2.1 0)), (1, .ref (εX.2.1 0)), (0, .ref b)] 1237 [] kc ks) : ZA κ 4 (zX εX σ ++ zM εM τ) [(3, .int (nI i)), (2, .ref (εM.2.1 0)), (1, .ref (εX.2.1 0)), (0, .ref b)] 805 [] kc ks := by
  obtain ⟨r, σ1, τ1, hx1, hy1, hI1⟩ := zOK_23 hOK σ τ hI ((xs (ix (nI i + (1 : Int32))))) ((xs (ix (nI i + (2 : Int32))))) ((xs (ix (nI i + (3 : Int32)))))
  refine a_aload_n (i := 1) X dL_law_805 2 rfl rfl ?_
  refine a_aload_n (i := 0) X dL_law_806 3 rfl rfl ?_
  refine a_iload_n (i := 3) X dL_law_807 0 rfl rfl ?_
  refine a_iconst (v := (1 : Int32)) X dL_law_808 (by decide) ?_
  refine a_iadd X dL_law_809 ?_
  refine a_sld X hX hbl hbA (show vp_in (nI i + (1 : Int32)) L from (nI_add i 1 : nI i + (1 : Int32) = nI (i + 1)) ▸ vp_in_nI (by omega) (by omega)) dL_law_810 ?_
  refine a_aload_n (i := 0) X dL_law_811 3 rfl rfl ?_
  refine a_iload_n (i := 3) X dL_law_812 0 rfl rfl ?_
  refine a_iconst (v := (2 : Int32)) X dL_law_813 (by decide) ?_
  refine a_iadd X dL_law_814 ?_
  refine a_sld X hX hbl hbA (show vp_in (nI i + (2 : Int32)) L from (nI_add i 2 : nI i + (2 : Int32) = nI (i + 2)) ▸ vp_in_nI (by omega) (by omega)) dL_law_815 ?_
  refine a_aload_n (i := 0) X dL_law_816 3 rfl rfl ?_
  refine a_iload_n (i := 3) X dL_law_817 0 rfl rfl ?_
  refine a_iconst (v := (3 : Int32)) X dL_law_818 (by decide) ?_
  refine a_iadd X dL_law_819 ?_
  refine a_sld X hX hbl hbA (show vp_in (nI i + (3 : Int32)) L from (nI_add i 3 : nI i + (3 : Int32) = nI (i + 3)) ▸ vp_in_nI (by omega) (by omega)) dL_law_820 ?_
  refine a_callX (d1 := 27) (As := [.int (xs (ix (nI i + (1 : Int32)))), .int (xs (ix (nI i + (2 : Int32)))), .int (xs (ix (nI i + (3 : Int32))))]) (rest := []) X hX3 (by decide) hkc hks (fun Ac hZ => C_X8_fight hZ hx1) tw692 tw693 tw694 tw69 tw695 (by decide) ds_X8_fight rfl rfl (Nat.le_of_ble_eq_true rfl) dL_law_821 ?_
  refine a_aload_n (i := 2) X dL_law_824 1 rfl rfl ?_
  refine a_aload_n (i := 0) X dL_law_825 3 rfl rfl ?_
  refine a_iload_n (i := 3) X dL_law_826 0 rfl rfl ?_
  refine a_iconst (v := (1 : Int32)) X dL_law_827 (by decide) ?_
  refine a_iadd X dL_law_828 ?_
  refine a_sld X hX hbl hbA (show vp_in (nI i + (1 : Int32)) L from (nI_add i 1 : nI i + (1 : Int32) = nI (i + 1)) ▸ vp_in_nI (by omega) (by omega)) dL_law_829 ?_
  refine a_aload_n (i := 0) X dL_law_830 3 rfl rfl ?_
  refine a_iload_n (i := 3) X dL_law_831 0 rfl rfl ?_
  refine a_iconst (v := (2 : Int32)) X dL_law_832 (by decide) ?_
  refine a_iadd X dL_law_833 ?_
  refine a_sld X hX hbl hbA (show vp_in (nI i + (2 : Int32)) L from (nI_add i 2 : nI i + (2 : Int32) = nI (i + 2)) ▸ vp_in_nI (by omega) (by omega)) dL_law_834 ?_
  refine a_aload_n (i := 0) X dL_law_835 3 rfl rfl ?_
  refine a_iload_n (i := 3) X dL_law_836 0 rfl rfl ?_
  refine a_iconst (v := (3 : Int32)) X dL_law_837 (by decide) ?_
  refine a_iadd X dL_law_838 ?_
  refine a_sld X hX hbl hbA (show vp_in (nI i + (3 : Int32)) L from (nI_add i 3 : nI i + (3 : Int32) = nI (i + 3)) ▸ vp_in_nI (by omega) (by omega)) dL_law_839 ?_
  refine a_callM (d1 := 29) (As := [.int (xs (ix (nI i + (1 : Int32)))), .int (xs (ix (nI i + (2 : Int32)))), .int (xs (ix (nI i + (3 : Int32))))]) (rest := [.int r]) X hM3 (by decide) hkc hks (fun Ac hZ => C_X9_fight hZ hy1) tw1191 tw1192 tw1193 tw77 tw1194 (by decide) ds_X9_fight rfl rfl (Nat.le_of_ble_eq_true rfl) dL_law_840 ?_
  exact a_icmp_eq_t (tgt := 1237) X dL_law_843 (by decide) (k σ1 τ1 hI1)
theorem tw696 : Cond.methodLink RL 116 yX8_tree ∈ zt := zt_at 696 (by decide +kernel)
theorem tw697 : Cond.instanceMethod yX8_tree ∈ zt := zt_at 697 (by decide +kernel)
theorem tw698 : Cond.selects "MarkerWalks" yX8_tree yX8_tree ∈ zt := zt_at 698 (by decide +kernel)
theorem tw699 : Cond.code yX8_tree cX8_tree 2 (some .int) ∈ zt := zt_at 699 (by decide +kernel)
theorem tw1195 : Cond.methodLink RL 119 yX9_tree ∈ zt := zt_at 1195 (by decide +kernel)
theorem tw1196 : Cond.instanceMethod yX9_tree ∈ zt := zt_at 1196 (by decide +kernel)
theorem tw1197 : Cond.selects "MarkerWalksModel" yX9_tree yX9_tree ∈ zt := zt_at 1197 (by decide +kernel)
theorem tw1198 : Cond.code yX9_tree cX9_tree 2 (some .int) ∈ zt := zt_at 1198 (by decide +kernel)
set_option maxHeartbeats 4000000 in
set_option maxRecDepth 100000 in
theorem law_c24 {κ : zT} {mc ms kc ks b L i : Nat} {xs : Nat → Int32} {εX εM : zV} {Inv : S3 → S3 → Prop} (hOK : zOK Inv) (X : zCA κ R_law code 4 2000 mc ms) (hkc : kc ≤ mc) (hks : ks ≤ ms) (hX3 : εX.1 = κ.1.2.2.2.1) (hM3 : εM.1 = κ.1.2.2.2.1) (hX : va_X b L xs κ.2.2.2.2.1 κ.2.2.2.2.1.heap) (hbl : b < κ.2.2.2.2.1.heap.size) (hbA : ¬ κ.1.2.2.1 b) (hL : L ≤ 3072) (hi : i + 6 ≤ L) {σ τ : S3} (hI : Inv σ τ) (k : ∀ σ1 τ1 : S3, Inv σ1 τ1 → ZA κ 4 (zX εX σ1 ++ zM εM τ1) [(3, .int (nI i)), (2, .ref (εM.2.1 0)), (1, .ref (εX.2.1 0)), (0, .ref b)] 1237 [] kc ks) : ZA κ 4 (zX εX σ ++ zM εM τ) [(3, .int (nI i)), (2, .ref (εM.2.1 0)), (1, .ref (εX.2.1 0)), (0, .ref b)] 848 [] kc ks := by
  obtain ⟨r, σ1, τ1, hx1, hy1, hI1⟩ := zOK_24 hOK σ τ hI ((xs (ix (nI i + (1 : Int32)))))
  refine a_aload_n (i := 1) X dL_law_848 2 rfl rfl ?_
  refine a_aload_n (i := 0) X dL_law_849 3 rfl rfl ?_
  refine a_iload_n (i := 3) X dL_law_850 0 rfl rfl ?_
  refine a_iconst (v := (1 : Int32)) X dL_law_851 (by decide) ?_
  refine a_iadd X dL_law_852 ?_
  refine a_sld X hX hbl hbA (show vp_in (nI i + (1 : Int32)) L from (nI_add i 1 : nI i + (1 : Int32) = nI (i + 1)) ▸ vp_in_nI (by omega) (by omega)) dL_law_853 ?_
  refine a_callX (d1 := 46) (As := [.int (xs (ix (nI i + (1 : Int32))))]) (rest := []) X hX3 (by decide) hkc hks (fun Ac hZ => C_X8_tree hZ hx1) tw696 tw697 tw698 tw69 tw699 (by decide) ds_X8_tree rfl rfl (Nat.le_of_ble_eq_true rfl) dL_law_854 ?_
  refine a_aload_n (i := 2) X dL_law_857 1 rfl rfl ?_
  refine a_aload_n (i := 0) X dL_law_858 3 rfl rfl ?_
  refine a_iload_n (i := 3) X dL_law_859 0 rfl rfl ?_
  refine a_iconst (v := (1 : Int32)) X dL_law_860 (by decide) ?_
  refine a_iadd X dL_law_861 ?_
  refine a_sld X hX hbl hbA (show vp_in (nI i + (1 : Int32)) L from (nI_add i 1 : nI i + (1 : Int32) = nI (i + 1)) ▸ vp_in_nI (by omega) (by omega)) dL_law_862 ?_
  refine a_callM (d1 := 46) (As := [.int (xs (ix (nI i + (1 : Int32))))]) (rest := [.int r]) X hM3 (by decide) hkc hks (fun Ac hZ => C_X9_tree hZ hy1) tw1195 tw1196 tw1197 tw77 tw1198 (by decide) ds_X9_tree rfl rfl (Nat.le_of_ble_eq_true rfl) dL_law_863 ?_
  exact a_icmp_eq_t (tgt := 1237) X dL_law_866 (by decide) (k σ1 τ1 hI1)
theorem tw716 : Cond.methodLink RL 120 yX8_node ∈ zt := zt_at 716 (by decide +kernel)
theorem tw717 : Cond.instanceMethod yX8_node ∈ zt := zt_at 717 (by decide +kernel)
theorem tw718 : Cond.selects "MarkerWalks" yX8_node yX8_node ∈ zt := zt_at 718 (by decide +kernel)
theorem tw719 : Cond.code yX8_node cX8_node 2 (some .int) ∈ zt := zt_at 719 (by decide +kernel)
theorem tw1207 : Cond.methodLink RL 123 yX9_node ∈ zt := zt_at 1207 (by decide +kernel)
theorem tw1208 : Cond.instanceMethod yX9_node ∈ zt := zt_at 1208 (by decide +kernel)
theorem tw1209 : Cond.selects "MarkerWalksModel" yX9_node yX9_node ∈ zt := zt_at 1209 (by decide +kernel)
theorem tw1210 : Cond.code yX9_node cX9_node 2 (some .int) ∈ zt := zt_at 1210 (by decide +kernel)
set_option maxHeartbeats 4000000 in
set_option maxRecDepth 100000 in
theorem law_c25 {κ : zT} {mc ms kc ks b L i : Nat} {xs : Nat → Int32} {εX εM : zV} {Inv : S3 → S3 → Prop} (hOK : zOK Inv) (X : zCA κ R_law code 4 2000 mc ms) (hkc : kc ≤ mc) (hks : ks ≤ ms) (hX3 : εX.1 = κ.1.2.2.2.1) (hM3 : εM.1 = κ.1.2.2.2.1) (hX : va_X b L xs κ.2.2.2.2.1 κ.2.2.2.2.1.heap) (hbl : b < κ.2.2.2.2.1.heap.size) (hbA : ¬ κ.1.2.2.1 b) (hL : L ≤ 3072) (hi : i + 6 ≤ L) {σ τ : S3} (hI : Inv σ τ) (k : ∀ σ1 τ1 : S3, Inv σ1 τ1 → ZA κ 4 (zX εX σ1 ++ zM εM τ1) [(3, .int (nI i)), (2, .ref (εM.2.1 0)), (1, .ref (εX.2.1 0)), (0, .ref b)] 1237 [] kc ks) : ZA κ 4 (zX εX σ ++ zM εM τ) [(3, .int (nI i)), (2, .ref (εM.2.1 0)), (1, .ref (εX.2.1 0)), (0, .ref b)] 871 [] kc ks := by
  obtain ⟨r, σ1, τ1, hx1, hy1, hI1⟩ := zOK_25 hOK σ τ hI ((xs (ix (nI i + (1 : Int32)))))
  refine a_aload_n (i := 1) X dL_law_871 2 rfl rfl ?_
  refine a_aload_n (i := 0) X dL_law_872 3 rfl rfl ?_
  refine a_iload_n (i := 3) X dL_law_873 0 rfl rfl ?_
  refine a_iconst (v := (1 : Int32)) X dL_law_874 (by decide) ?_
  refine a_iadd X dL_law_875 ?_
  refine a_sld X hX hbl hbA (show vp_in (nI i + (1 : Int32)) L from (nI_add i 1 : nI i + (1 : Int32) = nI (i + 1)) ▸ vp_in_nI (by omega) (by omega)) dL_law_876 ?_
  refine a_callX (d1 := 46) (As := [.int (xs (ix (nI i + (1 : Int32))))]) (rest := []) X hX3 (by decide) hkc hks (fun Ac hZ => C_X8_node hZ hx1) tw716 tw717 tw718 tw69 tw719 (by decide) ds_X8_node rfl rfl (Nat.le_of_ble_eq_true rfl) dL_law_877 ?_
  refine a_aload_n (i := 2) X dL_law_880 1 rfl rfl ?_
  refine a_aload_n (i := 0) X dL_law_881 3 rfl rfl ?_
  refine a_iload_n (i := 3) X dL_law_882 0 rfl rfl ?_
  refine a_iconst (v := (1 : Int32)) X dL_law_883 (by decide) ?_
  refine a_iadd X dL_law_884 ?_
  refine a_sld X hX hbl hbA (show vp_in (nI i + (1 : Int32)) L from (nI_add i 1 : nI i + (1 : Int32) = nI (i + 1)) ▸ vp_in_nI (by omega) (by omega)) dL_law_885 ?_
  refine a_callM (d1 := 46) (As := [.int (xs (ix (nI i + (1 : Int32))))]) (rest := [.int r]) X hM3 (by decide) hkc hks (fun Ac hZ => C_X9_node hZ hy1) tw1207 tw1208 tw1209 tw77 tw1210 (by decide) ds_X9_node rfl rfl (Nat.le_of_ble_eq_true rfl) dL_law_886 ?_
  exact a_icmp_eq_t (tgt := 1237) X dL_law_889 (by decide) (k σ1 τ1 hI1)
theorem tw720 : Cond.methodLink RL 124 yX8_sheet ∈ zt := zt_at 720 (by decide +kernel)
theorem tw721 : Cond.instanceMethod yX8_sheet ∈ zt := zt_at 721 (by decide +kernel)
theorem tw722 : Cond.selects "MarkerWalks" yX8_sheet yX8_sheet ∈ zt := zt_at 722 (by decide +kernel)
theorem tw723 : Cond.code yX8_sheet cX8_sheet 4 (some .int) ∈ zt := zt_at 723 (by decide +kernel)
theorem tw1211 : Cond.methodLink RL 127 yX9_sheet ∈ zt := zt_at 1211 (by decide +kernel)
theorem tw1212 : Cond.instanceMethod yX9_sheet ∈ zt := zt_at 1212 (by decide +kernel)
theorem tw1213 : Cond.selects "MarkerWalksModel" yX9_sheet yX9_sheet ∈ zt := zt_at 1213 (by decide +kernel)
theorem tw1214 : Cond.code yX9_sheet cX9_sheet 5 (some .int) ∈ zt := zt_at 1214 (by decide +kernel)
set_option maxHeartbeats 4000000 in
set_option maxRecDepth 100000 in
theorem law_c26 {κ : zT} {mc ms kc ks b L i : Nat} {xs : Nat → Int32} {εX εM : zV} {Inv : S3 → S3 → Prop} (hOK : zOK Inv) (X : zCA κ R_law code 4 2000 mc ms) (hkc : kc ≤ mc) (hks : ks ≤ ms) (hX3 : εX.1 = κ.1.2.2.2.1) (hM3 : εM.1 = κ.1.2.2.2.1) (hX : va_X b L xs κ.2.2.2.2.1 κ.2.2.2.2.1.heap) (hbl : b < κ.2.2.2.2.1.heap.size) (hbA : ¬ κ.1.2.2.1 b) (hL : L ≤ 3072) (hi : i + 6 ≤ L) {σ τ : S3} (hI : Inv σ τ) (k : ∀ σ1 τ1 : S3, Inv σ1 τ1 → ZA κ 4 (zX εX σ1 ++ zM εM τ1) [(3, .int (nI i)), (2, .ref (εM.2.1 0)), (1, .ref (εX.2.1 0)), (0, .ref b)] 1237 [] kc ks) : ZA κ 4 (zX εX σ ++ zM εM τ) [(3, .int (nI i)), (2, .ref (εM.2.1 0)), (1, .ref (εX.2.1 0)), (0, .ref b)] 894 [] kc ks := by
  obtain ⟨r, σ1, τ1, hx1, hy1, hI1⟩ := zOK_26 hOK σ τ hI ((xs (ix (nI i + (1 : Int32))))) ((xs (ix (nI i + (2 : Int32))))) ((xs (ix (nI i + (3 : Int32)))))
  refine a_aload_n (i := 1) X dL_law_894 2 rfl rfl ?_
  refine a_aload_n (i := 0) X dL_law_895 3 rfl rfl ?_
  refine a_iload_n (i := 3) X dL_law_896 0 rfl rfl ?_
  refine a_iconst (v := (1 : Int32)) X dL_law_897 (by decide) ?_
  refine a_iadd X dL_law_898 ?_
  refine a_sld X hX hbl hbA (show vp_in (nI i + (1 : Int32)) L from (nI_add i 1 : nI i + (1 : Int32) = nI (i + 1)) ▸ vp_in_nI (by omega) (by omega)) dL_law_899 ?_
  refine a_aload_n (i := 0) X dL_law_900 3 rfl rfl ?_
  refine a_iload_n (i := 3) X dL_law_901 0 rfl rfl ?_
  refine a_iconst (v := (2 : Int32)) X dL_law_902 (by decide) ?_
  refine a_iadd X dL_law_903 ?_
  refine a_sld X hX hbl hbA (show vp_in (nI i + (2 : Int32)) L from (nI_add i 2 : nI i + (2 : Int32) = nI (i + 2)) ▸ vp_in_nI (by omega) (by omega)) dL_law_904 ?_
  refine a_aload_n (i := 0) X dL_law_905 3 rfl rfl ?_
  refine a_iload_n (i := 3) X dL_law_906 0 rfl rfl ?_
  refine a_iconst (v := (3 : Int32)) X dL_law_907 (by decide) ?_
  refine a_iadd X dL_law_908 ?_
  refine a_sld X hX hbl hbA (show vp_in (nI i + (3 : Int32)) L from (nI_add i 3 : nI i + (3 : Int32) = nI (i + 3)) ▸ vp_in_nI (by omega) (by omega)) dL_law_909 ?_
  refine a_callX (d1 := 2) (As := [.int (xs (ix (nI i + (1 : Int32)))), .int (xs (ix (nI i + (2 : Int32)))), .int (xs (ix (nI i + (3 : Int32))))]) (rest := []) X hX3 (by decide) hkc hks (fun Ac hZ => C_X8_sheet hZ hx1) tw720 tw721 tw722 tw69 tw723 (by decide) ds_X8_sheet rfl rfl (Nat.le_of_ble_eq_true rfl) dL_law_910 ?_
  refine a_aload_n (i := 2) X dL_law_913 1 rfl rfl ?_
  refine a_aload_n (i := 0) X dL_law_914 3 rfl rfl ?_
  refine a_iload_n (i := 3) X dL_law_915 0 rfl rfl ?_
  refine a_iconst (v := (1 : Int32)) X dL_law_916 (by decide) ?_
  refine a_iadd X dL_law_917 ?_
  refine a_sld X hX hbl hbA (show vp_in (nI i + (1 : Int32)) L from (nI_add i 1 : nI i + (1 : Int32) = nI (i + 1)) ▸ vp_in_nI (by omega) (by omega)) dL_law_918 ?_
  refine a_aload_n (i := 0) X dL_law_919 3 rfl rfl ?_
  refine a_iload_n (i := 3) X dL_law_920 0 rfl rfl ?_
  refine a_iconst (v := (2 : Int32)) X dL_law_921 (by decide) ?_
  refine a_iadd X dL_law_922 ?_
  refine a_sld X hX hbl hbA (show vp_in (nI i + (2 : Int32)) L from (nI_add i 2 : nI i + (2 : Int32) = nI (i + 2)) ▸ vp_in_nI (by omega) (by omega)) dL_law_923 ?_
  refine a_aload_n (i := 0) X dL_law_924 3 rfl rfl ?_
  refine a_iload_n (i := 3) X dL_law_925 0 rfl rfl ?_
  refine a_iconst (v := (3 : Int32)) X dL_law_926 (by decide) ?_
  refine a_iadd X dL_law_927 ?_
  refine a_sld X hX hbl hbA (show vp_in (nI i + (3 : Int32)) L from (nI_add i 3 : nI i + (3 : Int32) = nI (i + 3)) ▸ vp_in_nI (by omega) (by omega)) dL_law_928 ?_
  refine a_callM (d1 := 2) (As := [.int (xs (ix (nI i + (1 : Int32)))), .int (xs (ix (nI i + (2 : Int32)))), .int (xs (ix (nI i + (3 : Int32))))]) (rest := [.int r]) X hM3 (by decide) hkc hks (fun Ac hZ => C_X9_sheet hZ hy1) tw1211 tw1212 tw1213 tw77 tw1214 (by decide) ds_X9_sheet rfl rfl (Nat.le_of_ble_eq_true rfl) dL_law_929 ?_
  exact a_icmp_eq_t (tgt := 1237) X dL_law_932 (by decide) (k σ1 τ1 hI1)
theorem tw732 : Cond.methodLink RL 128 yX8_put ∈ zt := zt_at 732 (by decide +kernel)
theorem tw733 : Cond.instanceMethod yX8_put ∈ zt := zt_at 733 (by decide +kernel)
theorem tw734 : Cond.selects "MarkerWalks" yX8_put yX8_put ∈ zt := zt_at 734 (by decide +kernel)
theorem tw735 : Cond.code yX8_put cX8_put 5 (some .int) ∈ zt := zt_at 735 (by decide +kernel)
theorem tw1218 : Cond.methodLink RL 131 yX9_put ∈ zt := zt_at 1218 (by decide +kernel)
theorem tw1219 : Cond.instanceMethod yX9_put ∈ zt := zt_at 1219 (by decide +kernel)
theorem tw1220 : Cond.selects "MarkerWalksModel" yX9_put yX9_put ∈ zt := zt_at 1220 (by decide +kernel)
theorem tw1221 : Cond.code yX9_put cX9_put 5 (some .int) ∈ zt := zt_at 1221 (by decide +kernel)
set_option maxHeartbeats 4000000 in
set_option maxRecDepth 100000 in
theorem law_c27 {κ : zT} {mc ms kc ks b L i : Nat} {xs : Nat → Int32} {εX εM : zV} {Inv : S3 → S3 → Prop} (hOK : zOK Inv) (X : zCA κ R_law code 4 2000 mc ms) (hkc : kc ≤ mc) (hks : ks ≤ ms) (hX3 : εX.1 = κ.1.2.2.2.1) (hM3 : εM.1 = κ.1.2.2.2.1) (hX : va_X b L xs κ.2.2.2.2.1 κ.2.2.2.2.1.heap) (hbl : b < κ.2.2.2.2.1.heap.size) (hbA : ¬ κ.1.2.2.1 b) (hL : L ≤ 3072) (hi : i + 6 ≤ L) {σ τ : S3} (hI : Inv σ τ) (k : ∀ σ1 τ1 : S3, Inv σ1 τ1 → ZA κ 4 (zX εX σ1 ++ zM εM τ1) [(3, .int (nI i)), (2, .ref (εM.2.1 0)), (1, .ref (εX.2.1 0)), (0, .ref b)] 1237 [] kc ks) : ZA κ 4 (zX εX σ ++ zM εM τ) [(3, .int (nI i)), (2, .ref (εM.2.1 0)), (1, .ref (εX.2.1 0)), (0, .ref b)] 937 [] kc ks := by
  obtain ⟨r, σ1, τ1, hx1, hy1, hI1⟩ := zOK_27 hOK σ τ hI ((xs (ix (nI i + (1 : Int32))))) ((xs (ix (nI i + (2 : Int32))))) ((xs (ix (nI i + (3 : Int32)))))
  refine a_aload_n (i := 1) X dL_law_937 2 rfl rfl ?_
  refine a_aload_n (i := 0) X dL_law_938 3 rfl rfl ?_
  refine a_iload_n (i := 3) X dL_law_939 0 rfl rfl ?_
  refine a_iconst (v := (1 : Int32)) X dL_law_940 (by decide) ?_
  refine a_iadd X dL_law_941 ?_
  refine a_sld X hX hbl hbA (show vp_in (nI i + (1 : Int32)) L from (nI_add i 1 : nI i + (1 : Int32) = nI (i + 1)) ▸ vp_in_nI (by omega) (by omega)) dL_law_942 ?_
  refine a_aload_n (i := 0) X dL_law_943 3 rfl rfl ?_
  refine a_iload_n (i := 3) X dL_law_944 0 rfl rfl ?_
  refine a_iconst (v := (2 : Int32)) X dL_law_945 (by decide) ?_
  refine a_iadd X dL_law_946 ?_
  refine a_sld X hX hbl hbA (show vp_in (nI i + (2 : Int32)) L from (nI_add i 2 : nI i + (2 : Int32) = nI (i + 2)) ▸ vp_in_nI (by omega) (by omega)) dL_law_947 ?_
  refine a_aload_n (i := 0) X dL_law_948 3 rfl rfl ?_
  refine a_iload_n (i := 3) X dL_law_949 0 rfl rfl ?_
  refine a_iconst (v := (3 : Int32)) X dL_law_950 (by decide) ?_
  refine a_iadd X dL_law_951 ?_
  refine a_sld X hX hbl hbA (show vp_in (nI i + (3 : Int32)) L from (nI_add i 3 : nI i + (3 : Int32) = nI (i + 3)) ▸ vp_in_nI (by omega) (by omega)) dL_law_952 ?_
  refine a_callX (d1 := 2) (As := [.int (xs (ix (nI i + (1 : Int32)))), .int (xs (ix (nI i + (2 : Int32)))), .int (xs (ix (nI i + (3 : Int32))))]) (rest := []) X hX3 (by decide) hkc hks (fun Ac hZ => C_X8_put hZ hx1) tw732 tw733 tw734 tw69 tw735 (by decide) ds_X8_put rfl rfl (Nat.le_of_ble_eq_true rfl) dL_law_953 ?_
  refine a_aload_n (i := 2) X dL_law_956 1 rfl rfl ?_
  refine a_aload_n (i := 0) X dL_law_957 3 rfl rfl ?_
  refine a_iload_n (i := 3) X dL_law_958 0 rfl rfl ?_
  refine a_iconst (v := (1 : Int32)) X dL_law_959 (by decide) ?_
  refine a_iadd X dL_law_960 ?_
  refine a_sld X hX hbl hbA (show vp_in (nI i + (1 : Int32)) L from (nI_add i 1 : nI i + (1 : Int32) = nI (i + 1)) ▸ vp_in_nI (by omega) (by omega)) dL_law_961 ?_
  refine a_aload_n (i := 0) X dL_law_962 3 rfl rfl ?_
  refine a_iload_n (i := 3) X dL_law_963 0 rfl rfl ?_
  refine a_iconst (v := (2 : Int32)) X dL_law_964 (by decide) ?_
  refine a_iadd X dL_law_965 ?_
  refine a_sld X hX hbl hbA (show vp_in (nI i + (2 : Int32)) L from (nI_add i 2 : nI i + (2 : Int32) = nI (i + 2)) ▸ vp_in_nI (by omega) (by omega)) dL_law_966 ?_
  refine a_aload_n (i := 0) X dL_law_967 3 rfl rfl ?_
  refine a_iload_n (i := 3) X dL_law_968 0 rfl rfl ?_
  refine a_iconst (v := (3 : Int32)) X dL_law_969 (by decide) ?_
  refine a_iadd X dL_law_970 ?_
  refine a_sld X hX hbl hbA (show vp_in (nI i + (3 : Int32)) L from (nI_add i 3 : nI i + (3 : Int32) = nI (i + 3)) ▸ vp_in_nI (by omega) (by omega)) dL_law_971 ?_
  refine a_callM (d1 := 3) (As := [.int (xs (ix (nI i + (1 : Int32)))), .int (xs (ix (nI i + (2 : Int32)))), .int (xs (ix (nI i + (3 : Int32))))]) (rest := [.int r]) X hM3 (by decide) hkc hks (fun Ac hZ => C_X9_put hZ hy1) tw1218 tw1219 tw1220 tw77 tw1221 (by decide) ds_X9_put rfl rfl (Nat.le_of_ble_eq_true rfl) dL_law_972 ?_
  exact a_icmp_eq_t (tgt := 1237) X dL_law_975 (by decide) (k σ1 τ1 hI1)
theorem tw748 : Cond.methodLink RL 132 yX8_number ∈ zt := zt_at 748 (by decide +kernel)
theorem tw749 : Cond.instanceMethod yX8_number ∈ zt := zt_at 749 (by decide +kernel)
theorem tw750 : Cond.selects "MarkerWalks" yX8_number yX8_number ∈ zt := zt_at 750 (by decide +kernel)
theorem tw751 : Cond.code yX8_number cX8_number 4 (some .int) ∈ zt := zt_at 751 (by decide +kernel)
theorem tw1230 : Cond.methodLink RL 135 yX9_number ∈ zt := zt_at 1230 (by decide +kernel)
theorem tw1231 : Cond.instanceMethod yX9_number ∈ zt := zt_at 1231 (by decide +kernel)
theorem tw1232 : Cond.selects "MarkerWalksModel" yX9_number yX9_number ∈ zt := zt_at 1232 (by decide +kernel)
theorem tw1233 : Cond.code yX9_number cX9_number 4 (some .int) ∈ zt := zt_at 1233 (by decide +kernel)
set_option maxHeartbeats 4000000 in
set_option maxRecDepth 100000 in
theorem law_c28 {κ : zT} {mc ms kc ks b L i : Nat} {xs : Nat → Int32} {εX εM : zV} {Inv : S3 → S3 → Prop} (hOK : zOK Inv) (X : zCA κ R_law code 4 2000 mc ms) (hkc : kc ≤ mc) (hks : ks ≤ ms) (hX3 : εX.1 = κ.1.2.2.2.1) (hM3 : εM.1 = κ.1.2.2.2.1) (hX : va_X b L xs κ.2.2.2.2.1 κ.2.2.2.2.1.heap) (hbl : b < κ.2.2.2.2.1.heap.size) (hbA : ¬ κ.1.2.2.1 b) (hL : L ≤ 3072) (hi : i + 6 ≤ L) {σ τ : S3} (hI : Inv σ τ) (k : ∀ σ1 τ1 : S3, Inv σ1 τ1 → ZA κ 4 (zX εX σ1 ++ zM εM τ1) [(3, .int (nI i)), (2, .ref (εM.2.1 0)), (1, .ref (εX.2.1 0)), (0, .ref b)] 1237 [] kc ks) : ZA κ 4 (zX εX σ ++ zM εM τ) [(3, .int (nI i)), (2, .ref (εM.2.1 0)), (1, .ref (εX.2.1 0)), (0, .ref b)] 980 [] kc ks := by
  obtain ⟨r, σ1, τ1, hx1, hy1, hI1⟩ := zOK_28 hOK σ τ hI ((xs (ix (nI i + (1 : Int32))))) ((xs (ix (nI i + (2 : Int32)))))
  refine a_aload_n (i := 1) X dL_law_980 2 rfl rfl ?_
  refine a_aload_n (i := 0) X dL_law_981 3 rfl rfl ?_
  refine a_iload_n (i := 3) X dL_law_982 0 rfl rfl ?_
  refine a_iconst (v := (1 : Int32)) X dL_law_983 (by decide) ?_
  refine a_iadd X dL_law_984 ?_
  refine a_sld X hX hbl hbA (show vp_in (nI i + (1 : Int32)) L from (nI_add i 1 : nI i + (1 : Int32) = nI (i + 1)) ▸ vp_in_nI (by omega) (by omega)) dL_law_985 ?_
  refine a_aload_n (i := 0) X dL_law_986 3 rfl rfl ?_
  refine a_iload_n (i := 3) X dL_law_987 0 rfl rfl ?_
  refine a_iconst (v := (2 : Int32)) X dL_law_988 (by decide) ?_
  refine a_iadd X dL_law_989 ?_
  refine a_sld X hX hbl hbA (show vp_in (nI i + (2 : Int32)) L from (nI_add i 2 : nI i + (2 : Int32) = nI (i + 2)) ▸ vp_in_nI (by omega) (by omega)) dL_law_990 ?_
  refine a_callX (d1 := 2) (As := [.int (xs (ix (nI i + (1 : Int32)))), .int (xs (ix (nI i + (2 : Int32))))]) (rest := []) X hX3 (by decide) hkc hks (fun Ac hZ => C_X8_number hZ hx1) tw748 tw749 tw750 tw69 tw751 (by decide) ds_X8_number rfl rfl (Nat.le_of_ble_eq_true rfl) dL_law_991 ?_
  refine a_aload_n (i := 2) X dL_law_994 1 rfl rfl ?_
  refine a_aload_n (i := 0) X dL_law_995 3 rfl rfl ?_
  refine a_iload_n (i := 3) X dL_law_996 0 rfl rfl ?_
  refine a_iconst (v := (1 : Int32)) X dL_law_997 (by decide) ?_
  refine a_iadd X dL_law_998 ?_
  refine a_sld X hX hbl hbA (show vp_in (nI i + (1 : Int32)) L from (nI_add i 1 : nI i + (1 : Int32) = nI (i + 1)) ▸ vp_in_nI (by omega) (by omega)) dL_law_999 ?_
  refine a_aload_n (i := 0) X dL_law_1000 3 rfl rfl ?_
  refine a_iload_n (i := 3) X dL_law_1001 0 rfl rfl ?_
  refine a_iconst (v := (2 : Int32)) X dL_law_1002 (by decide) ?_
  refine a_iadd X dL_law_1003 ?_
  refine a_sld X hX hbl hbA (show vp_in (nI i + (2 : Int32)) L from (nI_add i 2 : nI i + (2 : Int32) = nI (i + 2)) ▸ vp_in_nI (by omega) (by omega)) dL_law_1004 ?_
  refine a_callM (d1 := 3) (As := [.int (xs (ix (nI i + (1 : Int32)))), .int (xs (ix (nI i + (2 : Int32))))]) (rest := [.int r]) X hM3 (by decide) hkc hks (fun Ac hZ => C_X9_number hZ hy1) tw1230 tw1231 tw1232 tw77 tw1233 (by decide) ds_X9_number rfl rfl (Nat.le_of_ble_eq_true rfl) dL_law_1005 ?_
  exact a_icmp_eq_t (tgt := 1237) X dL_law_1008 (by decide) (k σ1 τ1 hI1)
theorem tw752 : Cond.methodLink RL 136 yX8_copy ∈ zt := zt_at 752 (by decide +kernel)
theorem tw753 : Cond.instanceMethod yX8_copy ∈ zt := zt_at 753 (by decide +kernel)
theorem tw754 : Cond.selects "MarkerWalks" yX8_copy yX8_copy ∈ zt := zt_at 754 (by decide +kernel)
theorem tw755 : Cond.code yX8_copy cX8_copy 8 (some .int) ∈ zt := zt_at 755 (by decide +kernel)
theorem tw1234 : Cond.methodLink RL 140 yX9_copy ∈ zt := zt_at 1234 (by decide +kernel)
theorem tw1235 : Cond.instanceMethod yX9_copy ∈ zt := zt_at 1235 (by decide +kernel)
theorem tw1236 : Cond.selects "MarkerWalksModel" yX9_copy yX9_copy ∈ zt := zt_at 1236 (by decide +kernel)
theorem tw1237 : Cond.code yX9_copy cX9_copy 8 (some .int) ∈ zt := zt_at 1237 (by decide +kernel)
set_option maxHeartbeats 4000000 in
set_option maxRecDepth 100000 in
theorem law_c29 {κ : zT} {mc ms kc ks b L i : Nat} {xs : Nat → Int32} {εX εM : zV} {Inv : S3 → S3 → Prop} (hOK : zOK Inv) (X : zCA κ R_law code 4 2000 mc ms) (hkc : kc ≤ mc) (hks : ks ≤ ms) (hX3 : εX.1 = κ.1.2.2.2.1) (hM3 : εM.1 = κ.1.2.2.2.1) (hX : va_X b L xs κ.2.2.2.2.1 κ.2.2.2.2.1.heap) (hbl : b < κ.2.2.2.2.1.heap.size) (hbA : ¬ κ.1.2.2.1 b) (hL : L ≤ 3072) (hi : i + 6 ≤ L) {σ τ : S3} (hI : Inv σ τ) (k : ∀ σ1 τ1 : S3, Inv σ1 τ1 → ZA κ 4 (zX εX σ1 ++ zM εM τ1) [(3, .int (nI i)), (2, .ref (εM.2.1 0)), (1, .ref (εX.2.1 0)), (0, .ref b)] 1237 [] kc ks) : ZA κ 4 (zX εX σ ++ zM εM τ) [(3, .int (nI i)), (2, .ref (εM.2.1 0)), (1, .ref (εX.2.1 0)), (0, .ref b)] 1013 [] kc ks := by
  obtain ⟨r, σ1, τ1, hx1, hy1, hI1⟩ := zOK_29 hOK σ τ hI ((xs (ix (nI i + (1 : Int32))))) ((xs (ix (nI i + (2 : Int32))))) ((xs (ix (nI i + (3 : Int32))))) ((xs (ix (nI i + (4 : Int32))))) ((xs (ix (nI i + (5 : Int32)))))
  refine a_aload_n (i := 1) X dL_law_1013 2 rfl rfl ?_
  refine a_aload_n (i := 0) X dL_law_1014 3 rfl rfl ?_
  refine a_iload_n (i := 3) X dL_law_1015 0 rfl rfl ?_
  refine a_iconst (v := (1 : Int32)) X dL_law_1016 (by decide) ?_
  refine a_iadd X dL_law_1017 ?_
  refine a_sld X hX hbl hbA (show vp_in (nI i + (1 : Int32)) L from (nI_add i 1 : nI i + (1 : Int32) = nI (i + 1)) ▸ vp_in_nI (by omega) (by omega)) dL_law_1018 ?_
  refine a_aload_n (i := 0) X dL_law_1019 3 rfl rfl ?_
  refine a_iload_n (i := 3) X dL_law_1020 0 rfl rfl ?_
  refine a_iconst (v := (2 : Int32)) X dL_law_1021 (by decide) ?_
  refine a_iadd X dL_law_1022 ?_
  refine a_sld X hX hbl hbA (show vp_in (nI i + (2 : Int32)) L from (nI_add i 2 : nI i + (2 : Int32) = nI (i + 2)) ▸ vp_in_nI (by omega) (by omega)) dL_law_1023 ?_
  refine a_aload_n (i := 0) X dL_law_1024 3 rfl rfl ?_
  refine a_iload_n (i := 3) X dL_law_1025 0 rfl rfl ?_
  refine a_iconst (v := (3 : Int32)) X dL_law_1026 (by decide) ?_
  refine a_iadd X dL_law_1027 ?_
  refine a_sld X hX hbl hbA (show vp_in (nI i + (3 : Int32)) L from (nI_add i 3 : nI i + (3 : Int32) = nI (i + 3)) ▸ vp_in_nI (by omega) (by omega)) dL_law_1028 ?_
  refine a_aload_n (i := 0) X dL_law_1029 3 rfl rfl ?_
  refine a_iload_n (i := 3) X dL_law_1030 0 rfl rfl ?_
  refine a_iconst (v := (4 : Int32)) X dL_law_1031 (by decide) ?_
  refine a_iadd X dL_law_1032 ?_
  refine a_sld X hX hbl hbA (show vp_in (nI i + (4 : Int32)) L from (nI_add i 4 : nI i + (4 : Int32) = nI (i + 4)) ▸ vp_in_nI (by omega) (by omega)) dL_law_1033 ?_
  refine a_aload_n (i := 0) X dL_law_1034 3 rfl rfl ?_
  refine a_iload_n (i := 3) X dL_law_1035 0 rfl rfl ?_
  refine a_iconst (v := (5 : Int32)) X dL_law_1036 (by decide) ?_
  refine a_iadd X dL_law_1037 ?_
  refine a_sld X hX hbl hbA (show vp_in (nI i + (5 : Int32)) L from (nI_add i 5 : nI i + (5 : Int32) = nI (i + 5)) ▸ vp_in_nI (by omega) (by omega)) dL_law_1038 ?_
  refine a_callX (d1 := 1) (As := [.int (xs (ix (nI i + (1 : Int32)))), .int (xs (ix (nI i + (2 : Int32)))), .int (xs (ix (nI i + (3 : Int32)))), .int (xs (ix (nI i + (4 : Int32)))), .int (xs (ix (nI i + (5 : Int32))))]) (rest := []) X hX3 (by decide) hkc hks (fun Ac hZ => C_X8_copy hZ hx1) tw752 tw753 tw754 tw69 tw755 (by decide) ds_X8_copy rfl rfl (Nat.le_of_ble_eq_true rfl) dL_law_1039 ?_
  refine a_aload_n (i := 2) X dL_law_1042 1 rfl rfl ?_
  refine a_aload_n (i := 0) X dL_law_1043 3 rfl rfl ?_
  refine a_iload_n (i := 3) X dL_law_1044 0 rfl rfl ?_
  refine a_iconst (v := (1 : Int32)) X dL_law_1045 (by decide) ?_
  refine a_iadd X dL_law_1046 ?_
  refine a_sld X hX hbl hbA (show vp_in (nI i + (1 : Int32)) L from (nI_add i 1 : nI i + (1 : Int32) = nI (i + 1)) ▸ vp_in_nI (by omega) (by omega)) dL_law_1047 ?_
  refine a_aload_n (i := 0) X dL_law_1048 3 rfl rfl ?_
  refine a_iload_n (i := 3) X dL_law_1049 0 rfl rfl ?_
  refine a_iconst (v := (2 : Int32)) X dL_law_1050 (by decide) ?_
  refine a_iadd X dL_law_1051 ?_
  refine a_sld X hX hbl hbA (show vp_in (nI i + (2 : Int32)) L from (nI_add i 2 : nI i + (2 : Int32) = nI (i + 2)) ▸ vp_in_nI (by omega) (by omega)) dL_law_1052 ?_
  refine a_aload_n (i := 0) X dL_law_1053 3 rfl rfl ?_
  refine a_iload_n (i := 3) X dL_law_1054 0 rfl rfl ?_
  refine a_iconst (v := (3 : Int32)) X dL_law_1055 (by decide) ?_
  refine a_iadd X dL_law_1056 ?_
  refine a_sld X hX hbl hbA (show vp_in (nI i + (3 : Int32)) L from (nI_add i 3 : nI i + (3 : Int32) = nI (i + 3)) ▸ vp_in_nI (by omega) (by omega)) dL_law_1057 ?_
  refine a_aload_n (i := 0) X dL_law_1058 3 rfl rfl ?_
  refine a_iload_n (i := 3) X dL_law_1059 0 rfl rfl ?_
  refine a_iconst (v := (4 : Int32)) X dL_law_1060 (by decide) ?_
  refine a_iadd X dL_law_1061 ?_
  refine a_sld X hX hbl hbA (show vp_in (nI i + (4 : Int32)) L from (nI_add i 4 : nI i + (4 : Int32) = nI (i + 4)) ▸ vp_in_nI (by omega) (by omega)) dL_law_1062 ?_
  refine a_aload_n (i := 0) X dL_law_1063 3 rfl rfl ?_
  refine a_iload_n (i := 3) X dL_law_1064 0 rfl rfl ?_
  refine a_iconst (v := (5 : Int32)) X dL_law_1065 (by decide) ?_
  refine a_iadd X dL_law_1066 ?_
  refine a_sld X hX hbl hbA (show vp_in (nI i + (5 : Int32)) L from (nI_add i 5 : nI i + (5 : Int32) = nI (i + 5)) ▸ vp_in_nI (by omega) (by omega)) dL_law_1067 ?_
  refine a_callM (d1 := 2) (As := [.int (xs (ix (nI i + (1 : Int32)))), .int (xs (ix (nI i + (2 : Int32)))), .int (xs (ix (nI i + (3 : Int32)))), .int (xs (ix (nI i + (4 : Int32)))), .int (xs (ix (nI i + (5 : Int32))))]) (rest := [.int r]) X hM3 (by decide) hkc hks (fun Ac hZ => C_X9_copy hZ hy1) tw1234 tw1235 tw1236 tw77 tw1237 (by decide) ds_X9_copy rfl rfl (Nat.le_of_ble_eq_true rfl) dL_law_1068 ?_
  exact a_icmp_eq_t (tgt := 1237) X dL_law_1071 (by decide) (k σ1 τ1 hI1)
theorem tw761 : Cond.methodLink RL 141 yX8_degrees ∈ zt := zt_at 761 (by decide +kernel)
theorem tw762 : Cond.instanceMethod yX8_degrees ∈ zt := zt_at 762 (by decide +kernel)
theorem tw763 : Cond.selects "MarkerWalks" yX8_degrees yX8_degrees ∈ zt := zt_at 763 (by decide +kernel)
theorem tw764 : Cond.code yX8_degrees cX8_degrees 5 (some .int) ∈ zt := zt_at 764 (by decide +kernel)
theorem tw1238 : Cond.methodLink RL 144 yX9_degrees ∈ zt := zt_at 1238 (by decide +kernel)
theorem tw1239 : Cond.instanceMethod yX9_degrees ∈ zt := zt_at 1239 (by decide +kernel)
theorem tw1240 : Cond.selects "MarkerWalksModel" yX9_degrees yX9_degrees ∈ zt := zt_at 1240 (by decide +kernel)
theorem tw1241 : Cond.code yX9_degrees cX9_degrees 5 (some .int) ∈ zt := zt_at 1241 (by decide +kernel)
set_option maxHeartbeats 4000000 in
set_option maxRecDepth 100000 in
theorem law_c30 {κ : zT} {mc ms kc ks b L i : Nat} {xs : Nat → Int32} {εX εM : zV} {Inv : S3 → S3 → Prop} (hOK : zOK Inv) (X : zCA κ R_law code 4 2000 mc ms) (hkc : kc ≤ mc) (hks : ks ≤ ms) (hX3 : εX.1 = κ.1.2.2.2.1) (hM3 : εM.1 = κ.1.2.2.2.1) (hX : va_X b L xs κ.2.2.2.2.1 κ.2.2.2.2.1.heap) (hbl : b < κ.2.2.2.2.1.heap.size) (hbA : ¬ κ.1.2.2.1 b) (hL : L ≤ 3072) (hi : i + 6 ≤ L) {σ τ : S3} (hI : Inv σ τ) (k : ∀ σ1 τ1 : S3, Inv σ1 τ1 → ZA κ 4 (zX εX σ1 ++ zM εM τ1) [(3, .int (nI i)), (2, .ref (εM.2.1 0)), (1, .ref (εX.2.1 0)), (0, .ref b)] 1237 [] kc ks) : ZA κ 4 (zX εX σ ++ zM εM τ) [(3, .int (nI i)), (2, .ref (εM.2.1 0)), (1, .ref (εX.2.1 0)), (0, .ref b)] 1076 [] kc ks := by
  obtain ⟨r, σ1, τ1, hx1, hy1, hI1⟩ := zOK_30 hOK σ τ hI ((xs (ix (nI i + (1 : Int32))))) ((xs (ix (nI i + (2 : Int32)))))
  refine a_aload_n (i := 1) X dL_law_1076 2 rfl rfl ?_
  refine a_aload_n (i := 0) X dL_law_1077 3 rfl rfl ?_
  refine a_iload_n (i := 3) X dL_law_1078 0 rfl rfl ?_
  refine a_iconst (v := (1 : Int32)) X dL_law_1079 (by decide) ?_
  refine a_iadd X dL_law_1080 ?_
  refine a_sld X hX hbl hbA (show vp_in (nI i + (1 : Int32)) L from (nI_add i 1 : nI i + (1 : Int32) = nI (i + 1)) ▸ vp_in_nI (by omega) (by omega)) dL_law_1081 ?_
  refine a_aload_n (i := 0) X dL_law_1082 3 rfl rfl ?_
  refine a_iload_n (i := 3) X dL_law_1083 0 rfl rfl ?_
  refine a_iconst (v := (2 : Int32)) X dL_law_1084 (by decide) ?_
  refine a_iadd X dL_law_1085 ?_
  refine a_sld X hX hbl hbA (show vp_in (nI i + (2 : Int32)) L from (nI_add i 2 : nI i + (2 : Int32) = nI (i + 2)) ▸ vp_in_nI (by omega) (by omega)) dL_law_1086 ?_
  refine a_callX (d1 := 2) (As := [.int (xs (ix (nI i + (1 : Int32)))), .int (xs (ix (nI i + (2 : Int32))))]) (rest := []) X hX3 (by decide) hkc hks (fun Ac hZ => C_X8_degrees hZ hx1) tw761 tw762 tw763 tw69 tw764 (by decide) ds_X8_degrees rfl rfl (Nat.le_of_ble_eq_true rfl) dL_law_1087 ?_
  refine a_aload_n (i := 2) X dL_law_1090 1 rfl rfl ?_
  refine a_aload_n (i := 0) X dL_law_1091 3 rfl rfl ?_
  refine a_iload_n (i := 3) X dL_law_1092 0 rfl rfl ?_
  refine a_iconst (v := (1 : Int32)) X dL_law_1093 (by decide) ?_
  refine a_iadd X dL_law_1094 ?_
  refine a_sld X hX hbl hbA (show vp_in (nI i + (1 : Int32)) L from (nI_add i 1 : nI i + (1 : Int32) = nI (i + 1)) ▸ vp_in_nI (by omega) (by omega)) dL_law_1095 ?_
  refine a_aload_n (i := 0) X dL_law_1096 3 rfl rfl ?_
  refine a_iload_n (i := 3) X dL_law_1097 0 rfl rfl ?_
  refine a_iconst (v := (2 : Int32)) X dL_law_1098 (by decide) ?_
  refine a_iadd X dL_law_1099 ?_
  refine a_sld X hX hbl hbA (show vp_in (nI i + (2 : Int32)) L from (nI_add i 2 : nI i + (2 : Int32) = nI (i + 2)) ▸ vp_in_nI (by omega) (by omega)) dL_law_1100 ?_
  refine a_callM (d1 := 2) (As := [.int (xs (ix (nI i + (1 : Int32)))), .int (xs (ix (nI i + (2 : Int32))))]) (rest := [.int r]) X hM3 (by decide) hkc hks (fun Ac hZ => C_X9_degrees hZ hy1) tw1238 tw1239 tw1240 tw77 tw1241 (by decide) ds_X9_degrees rfl rfl (Nat.le_of_ble_eq_true rfl) dL_law_1101 ?_
  exact a_icmp_eq_t (tgt := 1237) X dL_law_1104 (by decide) (k σ1 τ1 hI1)
theorem tw766 : Cond.methodLink RL 145 yX8_walks ∈ zt := zt_at 766 (by decide +kernel)
theorem tw767 : Cond.instanceMethod yX8_walks ∈ zt := zt_at 767 (by decide +kernel)
theorem tw768 : Cond.selects "MarkerWalks" yX8_walks yX8_walks ∈ zt := zt_at 768 (by decide +kernel)
theorem tw769 : Cond.code yX8_walks cX8_walks 7 (some .int) ∈ zt := zt_at 769 (by decide +kernel)
theorem tw1242 : Cond.methodLink RL 148 yX9_walks ∈ zt := zt_at 1242 (by decide +kernel)
theorem tw1243 : Cond.instanceMethod yX9_walks ∈ zt := zt_at 1243 (by decide +kernel)
theorem tw1244 : Cond.selects "MarkerWalksModel" yX9_walks yX9_walks ∈ zt := zt_at 1244 (by decide +kernel)
theorem tw1245 : Cond.code yX9_walks cX9_walks 6 (some .int) ∈ zt := zt_at 1245 (by decide +kernel)
set_option maxHeartbeats 4000000 in
set_option maxRecDepth 100000 in
theorem law_c31 {κ : zT} {mc ms kc ks b L i : Nat} {xs : Nat → Int32} {εX εM : zV} {Inv : S3 → S3 → Prop} (hOK : zOK Inv) (X : zCA κ R_law code 4 2000 mc ms) (hkc : kc ≤ mc) (hks : ks ≤ ms) (hX3 : εX.1 = κ.1.2.2.2.1) (hM3 : εM.1 = κ.1.2.2.2.1) (hX : va_X b L xs κ.2.2.2.2.1 κ.2.2.2.2.1.heap) (hbl : b < κ.2.2.2.2.1.heap.size) (hbA : ¬ κ.1.2.2.1 b) (hL : L ≤ 3072) (hi : i + 6 ≤ L) {σ τ : S3} (hI : Inv σ τ) (k : ∀ σ1 τ1 : S3, Inv σ1 τ1 → ZA κ 4 (zX εX σ1 ++ zM εM τ1) [(3, .int (nI i)), (2, .ref (εM.2.1 0)), (1, .ref (εX.2.1 0)), (0, .ref b)] 1237 [] kc ks) : ZA κ 4 (zX εX σ ++ zM εM τ) [(3, .int (nI i)), (2, .ref (εM.2.1 0)), (1, .ref (εX.2.1 0)), (0, .ref b)] 1109 [] kc ks := by
  obtain ⟨r, σ1, τ1, hx1, hy1, hI1⟩ := zOK_31 hOK σ τ hI ((xs (ix (nI i + (1 : Int32))))) ((xs (ix (nI i + (2 : Int32)))))
  refine a_aload_n (i := 1) X dL_law_1109 2 rfl rfl ?_
  refine a_aload_n (i := 0) X dL_law_1110 3 rfl rfl ?_
  refine a_iload_n (i := 3) X dL_law_1111 0 rfl rfl ?_
  refine a_iconst (v := (1 : Int32)) X dL_law_1112 (by decide) ?_
  refine a_iadd X dL_law_1113 ?_
  refine a_sld X hX hbl hbA (show vp_in (nI i + (1 : Int32)) L from (nI_add i 1 : nI i + (1 : Int32) = nI (i + 1)) ▸ vp_in_nI (by omega) (by omega)) dL_law_1114 ?_
  refine a_aload_n (i := 0) X dL_law_1115 3 rfl rfl ?_
  refine a_iload_n (i := 3) X dL_law_1116 0 rfl rfl ?_
  refine a_iconst (v := (2 : Int32)) X dL_law_1117 (by decide) ?_
  refine a_iadd X dL_law_1118 ?_
  refine a_sld X hX hbl hbA (show vp_in (nI i + (2 : Int32)) L from (nI_add i 2 : nI i + (2 : Int32) = nI (i + 2)) ▸ vp_in_nI (by omega) (by omega)) dL_law_1119 ?_
  refine a_callX (d1 := 24) (As := [.int (xs (ix (nI i + (1 : Int32)))), .int (xs (ix (nI i + (2 : Int32))))]) (rest := []) X hX3 (by decide) hkc hks (fun Ac hZ => C_X8_walks hZ hx1) tw766 tw767 tw768 tw69 tw769 (by decide) ds_X8_walks rfl rfl (Nat.le_of_ble_eq_true rfl) dL_law_1120 ?_
  refine a_aload_n (i := 2) X dL_law_1123 1 rfl rfl ?_
  refine a_aload_n (i := 0) X dL_law_1124 3 rfl rfl ?_
  refine a_iload_n (i := 3) X dL_law_1125 0 rfl rfl ?_
  refine a_iconst (v := (1 : Int32)) X dL_law_1126 (by decide) ?_
  refine a_iadd X dL_law_1127 ?_
  refine a_sld X hX hbl hbA (show vp_in (nI i + (1 : Int32)) L from (nI_add i 1 : nI i + (1 : Int32) = nI (i + 1)) ▸ vp_in_nI (by omega) (by omega)) dL_law_1128 ?_
  refine a_aload_n (i := 0) X dL_law_1129 3 rfl rfl ?_
  refine a_iload_n (i := 3) X dL_law_1130 0 rfl rfl ?_
  refine a_iconst (v := (2 : Int32)) X dL_law_1131 (by decide) ?_
  refine a_iadd X dL_law_1132 ?_
  refine a_sld X hX hbl hbA (show vp_in (nI i + (2 : Int32)) L from (nI_add i 2 : nI i + (2 : Int32) = nI (i + 2)) ▸ vp_in_nI (by omega) (by omega)) dL_law_1133 ?_
  refine a_callM (d1 := 24) (As := [.int (xs (ix (nI i + (1 : Int32)))), .int (xs (ix (nI i + (2 : Int32))))]) (rest := [.int r]) X hM3 (by decide) hkc hks (fun Ac hZ => C_X9_walks hZ hy1) tw1242 tw1243 tw1244 tw77 tw1245 (by decide) ds_X9_walks rfl rfl (Nat.le_of_ble_eq_true rfl) dL_law_1134 ?_
  exact a_icmp_eq_t (tgt := 1237) X dL_law_1137 (by decide) (k σ1 τ1 hI1)
theorem tw770 : Cond.methodLink RL 149 yX8_seed ∈ zt := zt_at 770 (by decide +kernel)
theorem tw771 : Cond.instanceMethod yX8_seed ∈ zt := zt_at 771 (by decide +kernel)
theorem tw772 : Cond.selects "MarkerWalks" yX8_seed yX8_seed ∈ zt := zt_at 772 (by decide +kernel)
theorem tw773 : Cond.code yX8_seed cX8_seed 3 (some .int) ∈ zt := zt_at 773 (by decide +kernel)
theorem tw1246 : Cond.methodLink RL 152 yX9_seed ∈ zt := zt_at 1246 (by decide +kernel)
theorem tw1247 : Cond.instanceMethod yX9_seed ∈ zt := zt_at 1247 (by decide +kernel)
theorem tw1248 : Cond.selects "MarkerWalksModel" yX9_seed yX9_seed ∈ zt := zt_at 1248 (by decide +kernel)
theorem tw1249 : Cond.code yX9_seed cX9_seed 3 (some .int) ∈ zt := zt_at 1249 (by decide +kernel)
set_option maxHeartbeats 4000000 in
set_option maxRecDepth 100000 in
theorem law_c32 {κ : zT} {mc ms kc ks b L i : Nat} {xs : Nat → Int32} {εX εM : zV} {Inv : S3 → S3 → Prop} (hOK : zOK Inv) (X : zCA κ R_law code 4 2000 mc ms) (hkc : kc ≤ mc) (hks : ks ≤ ms) (hX3 : εX.1 = κ.1.2.2.2.1) (hM3 : εM.1 = κ.1.2.2.2.1) (hX : va_X b L xs κ.2.2.2.2.1 κ.2.2.2.2.1.heap) (hbl : b < κ.2.2.2.2.1.heap.size) (hbA : ¬ κ.1.2.2.1 b) (hL : L ≤ 3072) (hi : i + 6 ≤ L) {σ τ : S3} (hI : Inv σ τ) (k : ∀ σ1 τ1 : S3, Inv σ1 τ1 → ZA κ 4 (zX εX σ1 ++ zM εM τ1) [(3, .int (nI i)), (2, .ref (εM.2.1 0)), (1, .ref (εX.2.1 0)), (0, .ref b)] 1237 [] kc ks) : ZA κ 4 (zX εX σ ++ zM εM τ) [(3, .int (nI i)), (2, .ref (εM.2.1 0)), (1, .ref (εX.2.1 0)), (0, .ref b)] 1142 [] kc ks := by
  obtain ⟨r, σ1, τ1, hx1, hy1, hI1⟩ := zOK_32 hOK σ τ hI ((xs (ix (nI i + (1 : Int32)))))
  refine a_aload_n (i := 1) X dL_law_1142 2 rfl rfl ?_
  refine a_aload_n (i := 0) X dL_law_1143 3 rfl rfl ?_
  refine a_iload_n (i := 3) X dL_law_1144 0 rfl rfl ?_
  refine a_iconst (v := (1 : Int32)) X dL_law_1145 (by decide) ?_
  refine a_iadd X dL_law_1146 ?_
  refine a_sld X hX hbl hbA (show vp_in (nI i + (1 : Int32)) L from (nI_add i 1 : nI i + (1 : Int32) = nI (i + 1)) ▸ vp_in_nI (by omega) (by omega)) dL_law_1147 ?_
  refine a_callX (d1 := 0) (As := [.int (xs (ix (nI i + (1 : Int32))))]) (rest := []) X hX3 (by decide) hkc hks (fun Ac hZ => C_X8_seed hZ hx1) tw770 tw771 tw772 tw69 tw773 (by decide) ds_X8_seed rfl rfl (Nat.le_of_ble_eq_true rfl) dL_law_1148 ?_
  refine a_aload_n (i := 2) X dL_law_1151 1 rfl rfl ?_
  refine a_aload_n (i := 0) X dL_law_1152 3 rfl rfl ?_
  refine a_iload_n (i := 3) X dL_law_1153 0 rfl rfl ?_
  refine a_iconst (v := (1 : Int32)) X dL_law_1154 (by decide) ?_
  refine a_iadd X dL_law_1155 ?_
  refine a_sld X hX hbl hbA (show vp_in (nI i + (1 : Int32)) L from (nI_add i 1 : nI i + (1 : Int32) = nI (i + 1)) ▸ vp_in_nI (by omega) (by omega)) dL_law_1156 ?_
  refine a_callM (d1 := 0) (As := [.int (xs (ix (nI i + (1 : Int32))))]) (rest := [.int r]) X hM3 (by decide) hkc hks (fun Ac hZ => C_X9_seed hZ hy1) tw1246 tw1247 tw1248 tw77 tw1249 (by decide) ds_X9_seed rfl rfl (Nat.le_of_ble_eq_true rfl) dL_law_1157 ?_
  exact a_icmp_eq_t (tgt := 1237) X dL_law_1160 (by decide) (k σ1 τ1 hI1)
theorem tw774 : Cond.methodLink RL 153 yX8_image ∈ zt := zt_at 774 (by decide +kernel)
theorem tw775 : Cond.instanceMethod yX8_image ∈ zt := zt_at 775 (by decide +kernel)
theorem tw776 : Cond.selects "MarkerWalks" yX8_image yX8_image ∈ zt := zt_at 776 (by decide +kernel)
theorem tw777 : Cond.code yX8_image cX8_image 1 (some .int) ∈ zt := zt_at 777 (by decide +kernel)
theorem tw1250 : Cond.methodLink RL 156 yX9_image ∈ zt := zt_at 1250 (by decide +kernel)
theorem tw1251 : Cond.instanceMethod yX9_image ∈ zt := zt_at 1251 (by decide +kernel)
theorem tw1252 : Cond.selects "MarkerWalksModel" yX9_image yX9_image ∈ zt := zt_at 1252 (by decide +kernel)
theorem tw1253 : Cond.code yX9_image cX9_image 2 (some .int) ∈ zt := zt_at 1253 (by decide +kernel)
set_option maxHeartbeats 4000000 in
set_option maxRecDepth 100000 in
theorem law_c33 {κ : zT} {mc ms kc ks b L i : Nat} {xs : Nat → Int32} {εX εM : zV} {Inv : S3 → S3 → Prop} (hOK : zOK Inv) (X : zCA κ R_law code 4 2000 mc ms) (hkc : kc ≤ mc) (hks : ks ≤ ms) (hX3 : εX.1 = κ.1.2.2.2.1) (hM3 : εM.1 = κ.1.2.2.2.1) (hX : va_X b L xs κ.2.2.2.2.1 κ.2.2.2.2.1.heap) (hbl : b < κ.2.2.2.2.1.heap.size) (hbA : ¬ κ.1.2.2.1 b) (hL : L ≤ 3072) (hi : i + 6 ≤ L) {σ τ : S3} (hI : Inv σ τ) (k : ∀ σ1 τ1 : S3, Inv σ1 τ1 → ZA κ 4 (zX εX σ1 ++ zM εM τ1) [(3, .int (nI i)), (2, .ref (εM.2.1 0)), (1, .ref (εX.2.1 0)), (0, .ref b)] 1237 [] kc ks) : ZA κ 4 (zX εX σ ++ zM εM τ) [(3, .int (nI i)), (2, .ref (εM.2.1 0)), (1, .ref (εX.2.1 0)), (0, .ref b)] 1165 [] kc ks := by
  obtain ⟨r, σ1, τ1, hx1, hy1, hI1⟩ := zOK_33 hOK σ τ hI
  refine a_aload_n (i := 1) X dL_law_1165 2 rfl rfl ?_
  refine a_callX (d1 := 3) (As := []) (rest := []) X hX3 (by decide) hkc hks (fun Ac hZ => C_X8_image hZ hx1) tw774 tw775 tw776 tw69 tw777 (by decide) ds_X8_image rfl rfl (Nat.le_of_ble_eq_true rfl) dL_law_1166 ?_
  refine a_aload_n (i := 2) X dL_law_1169 1 rfl rfl ?_
  refine a_callM (d1 := 0) (As := []) (rest := [.int r]) X hM3 (by decide) hkc hks (fun Ac hZ => C_X9_image hZ hy1) tw1250 tw1251 tw1252 tw77 tw1253 (by decide) ds_X9_image rfl rfl (Nat.le_of_ble_eq_true rfl) dL_law_1170 ?_
  exact a_icmp_eq_t (tgt := 1237) X dL_law_1173 (by decide) (k σ1 τ1 hI1)
theorem tw782 : Cond.methodLink RL 157 yX8_restore ∈ zt := zt_at 782 (by decide +kernel)
theorem tw783 : Cond.instanceMethod yX8_restore ∈ zt := zt_at 783 (by decide +kernel)
theorem tw784 : Cond.selects "MarkerWalks" yX8_restore yX8_restore ∈ zt := zt_at 784 (by decide +kernel)
theorem tw785 : Cond.code yX8_restore cX8_restore 1 (some .int) ∈ zt := zt_at 785 (by decide +kernel)
theorem tw1254 : Cond.methodLink RL 160 yX9_restore ∈ zt := zt_at 1254 (by decide +kernel)
theorem tw1255 : Cond.instanceMethod yX9_restore ∈ zt := zt_at 1255 (by decide +kernel)
theorem tw1256 : Cond.selects "MarkerWalksModel" yX9_restore yX9_restore ∈ zt := zt_at 1256 (by decide +kernel)
theorem tw1257 : Cond.code yX9_restore cX9_restore 2 (some .int) ∈ zt := zt_at 1257 (by decide +kernel)
set_option maxHeartbeats 4000000 in
set_option maxRecDepth 100000 in
theorem law_c34 {κ : zT} {mc ms kc ks b L i : Nat} {xs : Nat → Int32} {εX εM : zV} {Inv : S3 → S3 → Prop} (hOK : zOK Inv) (X : zCA κ R_law code 4 2000 mc ms) (hkc : kc ≤ mc) (hks : ks ≤ ms) (hX3 : εX.1 = κ.1.2.2.2.1) (hM3 : εM.1 = κ.1.2.2.2.1) (hX : va_X b L xs κ.2.2.2.2.1 κ.2.2.2.2.1.heap) (hbl : b < κ.2.2.2.2.1.heap.size) (hbA : ¬ κ.1.2.2.1 b) (hL : L ≤ 3072) (hi : i + 6 ≤ L) {σ τ : S3} (hI : Inv σ τ) (k : ∀ σ1 τ1 : S3, Inv σ1 τ1 → ZA κ 4 (zX εX σ1 ++ zM εM τ1) [(3, .int (nI i)), (2, .ref (εM.2.1 0)), (1, .ref (εX.2.1 0)), (0, .ref b)] 1237 [] kc ks) : ZA κ 4 (zX εX σ ++ zM εM τ) [(3, .int (nI i)), (2, .ref (εM.2.1 0)), (1, .ref (εX.2.1 0)), (0, .ref b)] 1178 [] kc ks := by
  obtain ⟨r, σ1, τ1, hx1, hy1, hI1⟩ := zOK_34 hOK σ τ hI
  refine a_aload_n (i := 1) X dL_law_1178 2 rfl rfl ?_
  refine a_callX (d1 := 3) (As := []) (rest := []) X hX3 (by decide) hkc hks (fun Ac hZ => C_X8_restore hZ hx1) tw782 tw783 tw784 tw69 tw785 (by decide) ds_X8_restore rfl rfl (Nat.le_of_ble_eq_true rfl) dL_law_1179 ?_
  refine a_aload_n (i := 2) X dL_law_1182 1 rfl rfl ?_
  refine a_callM (d1 := 1) (As := []) (rest := [.int r]) X hM3 (by decide) hkc hks (fun Ac hZ => C_X9_restore hZ hy1) tw1254 tw1255 tw1256 tw77 tw1257 (by decide) ds_X9_restore rfl rfl (Nat.le_of_ble_eq_true rfl) dL_law_1183 ?_
  exact a_icmp_eq_t (tgt := 1237) X dL_law_1186 (by decide) (k σ1 τ1 hI1)
theorem tw786 : Cond.methodLink RL 161 yX8_count ∈ zt := zt_at 786 (by decide +kernel)
theorem tw787 : Cond.instanceMethod yX8_count ∈ zt := zt_at 787 (by decide +kernel)
theorem tw788 : Cond.selects "MarkerWalks" yX8_count yX8_count ∈ zt := zt_at 788 (by decide +kernel)
theorem tw789 : Cond.code yX8_count cX8_count 2 (some .int) ∈ zt := zt_at 789 (by decide +kernel)
theorem tw1258 : Cond.methodLink RL 164 yX9_count ∈ zt := zt_at 1258 (by decide +kernel)
theorem tw1259 : Cond.instanceMethod yX9_count ∈ zt := zt_at 1259 (by decide +kernel)
theorem tw1260 : Cond.selects "MarkerWalksModel" yX9_count yX9_count ∈ zt := zt_at 1260 (by decide +kernel)
theorem tw1261 : Cond.code yX9_count cX9_count 2 (some .int) ∈ zt := zt_at 1261 (by decide +kernel)
set_option maxHeartbeats 4000000 in
set_option maxRecDepth 100000 in
theorem law_c35 {κ : zT} {mc ms kc ks b L i : Nat} {xs : Nat → Int32} {εX εM : zV} {Inv : S3 → S3 → Prop} (hOK : zOK Inv) (X : zCA κ R_law code 4 2000 mc ms) (hkc : kc ≤ mc) (hks : ks ≤ ms) (hX3 : εX.1 = κ.1.2.2.2.1) (hM3 : εM.1 = κ.1.2.2.2.1) (hX : va_X b L xs κ.2.2.2.2.1 κ.2.2.2.2.1.heap) (hbl : b < κ.2.2.2.2.1.heap.size) (hbA : ¬ κ.1.2.2.1 b) (hL : L ≤ 3072) (hi : i + 6 ≤ L) {σ τ : S3} (hI : Inv σ τ) (k : ∀ σ1 τ1 : S3, Inv σ1 τ1 → ZA κ 4 (zX εX σ1 ++ zM εM τ1) [(3, .int (nI i)), (2, .ref (εM.2.1 0)), (1, .ref (εX.2.1 0)), (0, .ref b)] 1237 [] kc ks) : ZA κ 4 (zX εX σ ++ zM εM τ) [(3, .int (nI i)), (2, .ref (εM.2.1 0)), (1, .ref (εX.2.1 0)), (0, .ref b)] 1191 [] kc ks := by
  obtain ⟨r, σ1, τ1, hx1, hy1, hI1⟩ := zOK_35 hOK σ τ hI ((xs (ix (nI i + (1 : Int32)))))
  refine a_aload_n (i := 1) X dL_law_1191 2 rfl rfl ?_
  refine a_aload_n (i := 0) X dL_law_1192 3 rfl rfl ?_
  refine a_iload_n (i := 3) X dL_law_1193 0 rfl rfl ?_
  refine a_iconst (v := (1 : Int32)) X dL_law_1194 (by decide) ?_
  refine a_iadd X dL_law_1195 ?_
  refine a_sld X hX hbl hbA (show vp_in (nI i + (1 : Int32)) L from (nI_add i 1 : nI i + (1 : Int32) = nI (i + 1)) ▸ vp_in_nI (by omega) (by omega)) dL_law_1196 ?_
  refine a_callX (d1 := 2) (As := [.int (xs (ix (nI i + (1 : Int32))))]) (rest := []) X hX3 (by decide) hkc hks (fun Ac hZ => C_X8_count hZ hx1) tw786 tw787 tw788 tw69 tw789 (by decide) ds_X8_count rfl rfl (Nat.le_of_ble_eq_true rfl) dL_law_1197 ?_
  refine a_aload_n (i := 2) X dL_law_1200 1 rfl rfl ?_
  refine a_aload_n (i := 0) X dL_law_1201 3 rfl rfl ?_
  refine a_iload_n (i := 3) X dL_law_1202 0 rfl rfl ?_
  refine a_iconst (v := (1 : Int32)) X dL_law_1203 (by decide) ?_
  refine a_iadd X dL_law_1204 ?_
  refine a_sld X hX hbl hbA (show vp_in (nI i + (1 : Int32)) L from (nI_add i 1 : nI i + (1 : Int32) = nI (i + 1)) ▸ vp_in_nI (by omega) (by omega)) dL_law_1205 ?_
  refine a_callM (d1 := 1) (As := [.int (xs (ix (nI i + (1 : Int32))))]) (rest := [.int r]) X hM3 (by decide) hkc hks (fun Ac hZ => C_X9_count hZ hy1) tw1258 tw1259 tw1260 tw77 tw1261 (by decide) ds_X9_count rfl rfl (Nat.le_of_ble_eq_true rfl) dL_law_1206 ?_
  exact a_icmp_eq_t (tgt := 1237) X dL_law_1209 (by decide) (k σ1 τ1 hI1)
theorem tw794 : Cond.methodLink RL 165 yX8_told ∈ zt := zt_at 794 (by decide +kernel)
theorem tw795 : Cond.instanceMethod yX8_told ∈ zt := zt_at 795 (by decide +kernel)
theorem tw796 : Cond.selects "MarkerWalks" yX8_told yX8_told ∈ zt := zt_at 796 (by decide +kernel)
theorem tw797 : Cond.code yX8_told cX8_told 2 (some .int) ∈ zt := zt_at 797 (by decide +kernel)
theorem tw1266 : Cond.methodLink RL 168 yX9_told ∈ zt := zt_at 1266 (by decide +kernel)
theorem tw1267 : Cond.instanceMethod yX9_told ∈ zt := zt_at 1267 (by decide +kernel)
theorem tw1268 : Cond.selects "MarkerWalksModel" yX9_told yX9_told ∈ zt := zt_at 1268 (by decide +kernel)
theorem tw1269 : Cond.code yX9_told cX9_told 2 (some .int) ∈ zt := zt_at 1269 (by decide +kernel)
set_option maxHeartbeats 4000000 in
set_option maxRecDepth 100000 in
theorem law_c36 {κ : zT} {mc ms kc ks b L i : Nat} {xs : Nat → Int32} {εX εM : zV} {Inv : S3 → S3 → Prop} (hOK : zOK Inv) (X : zCA κ R_law code 4 2000 mc ms) (hkc : kc ≤ mc) (hks : ks ≤ ms) (hX3 : εX.1 = κ.1.2.2.2.1) (hM3 : εM.1 = κ.1.2.2.2.1) (hX : va_X b L xs κ.2.2.2.2.1 κ.2.2.2.2.1.heap) (hbl : b < κ.2.2.2.2.1.heap.size) (hbA : ¬ κ.1.2.2.1 b) (hL : L ≤ 3072) (hi : i + 6 ≤ L) {σ τ : S3} (hI : Inv σ τ) (k : ∀ σ1 τ1 : S3, Inv σ1 τ1 → ZA κ 4 (zX εX σ1 ++ zM εM τ1) [(3, .int (nI i)), (2, .ref (εM.2.1 0)), (1, .ref (εX.2.1 0)), (0, .ref b)] 1237 [] kc ks) : ZA κ 4 (zX εX σ ++ zM εM τ) [(3, .int (nI i)), (2, .ref (εM.2.1 0)), (1, .ref (εX.2.1 0)), (0, .ref b)] 1214 [] kc ks := by
  obtain ⟨r, σ1, τ1, hx1, hy1, hI1⟩ := zOK_36 hOK σ τ hI ((xs (ix (nI i + (1 : Int32)))))
  refine a_aload_n (i := 1) X dL_law_1214 2 rfl rfl ?_
  refine a_aload_n (i := 0) X dL_law_1215 3 rfl rfl ?_
  refine a_iload_n (i := 3) X dL_law_1216 0 rfl rfl ?_
  refine a_iconst (v := (1 : Int32)) X dL_law_1217 (by decide) ?_
  refine a_iadd X dL_law_1218 ?_
  refine a_sld X hX hbl hbA (show vp_in (nI i + (1 : Int32)) L from (nI_add i 1 : nI i + (1 : Int32) = nI (i + 1)) ▸ vp_in_nI (by omega) (by omega)) dL_law_1219 ?_
  refine a_callX (d1 := 1) (As := [.int (xs (ix (nI i + (1 : Int32))))]) (rest := []) X hX3 (by decide) hkc hks (fun Ac hZ => C_X8_told hZ hx1) tw794 tw795 tw796 tw69 tw797 (by decide) ds_X8_told rfl rfl (Nat.le_of_ble_eq_true rfl) dL_law_1220 ?_
  refine a_aload_n (i := 2) X dL_law_1223 1 rfl rfl ?_
  refine a_aload_n (i := 0) X dL_law_1224 3 rfl rfl ?_
  refine a_iload_n (i := 3) X dL_law_1225 0 rfl rfl ?_
  refine a_iconst (v := (1 : Int32)) X dL_law_1226 (by decide) ?_
  refine a_iadd X dL_law_1227 ?_
  refine a_sld X hX hbl hbA (show vp_in (nI i + (1 : Int32)) L from (nI_add i 1 : nI i + (1 : Int32) = nI (i + 1)) ▸ vp_in_nI (by omega) (by omega)) dL_law_1228 ?_
  refine a_callM (d1 := 1) (As := [.int (xs (ix (nI i + (1 : Int32))))]) (rest := [.int r]) X hM3 (by decide) hkc hks (fun Ac hZ => C_X9_told hZ hy1) tw1266 tw1267 tw1268 tw77 tw1269 (by decide) ds_X9_told rfl rfl (Nat.le_of_ble_eq_true rfl) dL_law_1229 ?_
  exact a_icmp_eq_t (tgt := 1237) X dL_law_1232 (by decide) (k σ1 τ1 hI1)
set_option maxHeartbeats 8000000 in
set_option maxRecDepth 100000 in
theorem law_loop {κ : zT} {mc ms kc ks b L : Nat} {xs : Nat → Int32} {εX εM : zV} {Inv : S3 → S3 → Prop} (hOK : zOK Inv) (X : zCA κ R_law code 4 2000 mc ms) (hkc : kc ≤ mc) (hks : ks ≤ ms) (hX3 : εX.1 = κ.1.2.2.2.1) (hM3 : εM.1 = κ.1.2.2.2.1) (hX : va_X b L xs κ.2.2.2.2.1 κ.2.2.2.2.1.heap) (hbl : b < κ.2.2.2.2.1.heap.size) (hbA : ¬ κ.1.2.2.1 b) (hL : L ≤ 3072) (hend : ∀ (ws : va_W) (lv : List (Nat × Value)), ZA κ 4 ws lv 1244 [.int 1] kc ks) :
    ∀ (n i : Nat) (σ τ : S3), i ≤ L + 6 → L + 7 ≤ i + n → Inv σ τ → ZA κ 4 (zX εX σ ++ zM εM τ) [(3, .int (nI i)), (2, .ref (εM.2.1 0)), (1, .ref (εX.2.1 0)), (0, .ref b)] 18 [] kc ks := by
  intro n
  induction n with
  | zero =>
    intro i σ τ h1 h2
    exact absurd h2 (by omega)
  | succ n ih =>
    intro i σ τ hi6 hin hI
    refine a_iload_n (i := 3) X dL_law_18 0 rfl rfl ?_
    refine a_aload_n (i := 0) X dL_law_19 3 rfl rfl ?_
    refine a_slen X hX hbl hbA dL_law_20 ?_
    refine a_bipush (v := (6 : Int32)) X dL_law_21 (by decide) ?_
    refine a_isub X dL_law_23 ?_
    refine a_icmp_gt (tgt := 1243) X dL_law_24 (by decide) (fun _ => ?_) (fun q => ?_)
    · refine a_iconst (v := (1 : Int32)) X dL_law_1243 (by decide) ?_
      exact hend _ _
    have hi : i + 6 ≤ L := by
      have h1 : (nI L - (6 : Int32)).toInt = (L : Int) - 6 := pk_sub_toInt (a := L) (b := 6) (by omega) (by decide)
      have h2 : (nI i).toInt = (i : Int) := nI_toInt (by omega)
      rcases Nat.lt_or_ge L (i + 6) with h | h
      · exact absurd (Int32.lt_iff_toInt_lt.mpr (by rw [h1, h2]; omega)) q
      · exact h
    have hk : ∀ σ1 τ1 : S3, Inv σ1 τ1 → ZA κ 4 (zX εX σ1 ++ zM εM τ1) [(3, .int (nI i)), (2, .ref (εM.2.1 0)), (1, .ref (εX.2.1 0)), (0, .ref b)] 1237 [] kc ks := by
      intro σ1 τ1 hI1
      refine a_iinc (v := nI (i + 6)) (lv' := [(3, .int (nI (i + 6))), (2, .ref (εM.2.1 0)), (1, .ref (εX.2.1 0)), (0, .ref b)]) X dL_law_1237 0 rfl (nI_add i 6 : nI i + Int32.ofInt 6 = nI (i + 6)) (by decide) rfl ?_
      refine a_goto (tgt := 18) X dL_law_1240 (by decide) ?_
      exact ih (i + 6) σ1 τ1 (by omega) (by omega) hI1
    refine a_aload_n (i := 0) X dL_law_27 3 rfl rfl ?_
    refine a_iload_n (i := 3) X dL_law_28 0 rfl rfl ?_
    refine a_sld X hX hbl hbA (vp_in_nI (by omega) (by omega)) dL_law_29 ?_
    refine a_bipush (v := (63 : Int32)) X dL_law_30 (by decide) ?_
    refine a_iand X dL_law_32 ?_
    by_cases q0 : xs (ix (nI i)) &&& (63 : Int32) = (0 : Int32)
    · exact a_tabIn (tgt := 196) X dL_law_33 q0 (by decide) (by decide) rfl (by decide) (law_c0 hOK X hkc hks hX3 hM3 hX hbl hbA hL hi hI hk)
    by_cases q1 : xs (ix (nI i)) &&& (63 : Int32) = (1 : Int32)
    · exact a_tabIn (tgt := 219) X dL_law_33 q1 (by decide) (by decide) rfl (by decide) (law_c1 hOK X hkc hks hX3 hM3 hX hbl hbA hL hi hI hk)
    by_cases q2 : xs (ix (nI i)) &&& (63 : Int32) = (2 : Int32)
    · exact a_tabIn (tgt := 262) X dL_law_33 q2 (by decide) (by decide) rfl (by decide) (law_c2 hOK X hkc hks hX3 hM3 hX hbl hbA hL hi hI hk)
    by_cases q3 : xs (ix (nI i)) &&& (63 : Int32) = (3 : Int32)
    · exact a_tabIn (tgt := 295) X dL_law_33 q3 (by decide) (by decide) rfl (by decide) (law_c3 hOK X hkc hks hX3 hM3 hX hbl hbA hL hi hI hk)
    by_cases q4 : xs (ix (nI i)) &&& (63 : Int32) = (4 : Int32)
    · exact a_tabIn (tgt := 318) X dL_law_33 q4 (by decide) (by decide) rfl (by decide) (law_c4 hOK X hkc hks hX3 hM3 hX hbl hbA hL hi hI hk)
    by_cases q5 : xs (ix (nI i)) &&& (63 : Int32) = (5 : Int32)
    · exact a_tabIn (tgt := 351) X dL_law_33 q5 (by decide) (by decide) rfl (by decide) (law_c5 hOK X hkc hks hX3 hM3 hX hbl hbA hL hi hI hk)
    by_cases q6 : xs (ix (nI i)) &&& (63 : Int32) = (6 : Int32)
    · exact a_tabIn (tgt := 384) X dL_law_33 q6 (by decide) (by decide) rfl (by decide) (law_c6 hOK X hkc hks hX3 hM3 hX hbl hbA hL hi hI hk)
    by_cases q7 : xs (ix (nI i)) &&& (63 : Int32) = (7 : Int32)
    · exact a_tabIn (tgt := 397) X dL_law_33 q7 (by decide) (by decide) rfl (by decide) (law_c7 hOK X hkc hks hX3 hM3 hX hbl hbA hL hi hI hk)
    by_cases q8 : xs (ix (nI i)) &&& (63 : Int32) = (8 : Int32)
    · exact a_tabIn (tgt := 430) X dL_law_33 q8 (by decide) (by decide) rfl (by decide) (law_c8 hOK X hkc hks hX3 hM3 hX hbl hbA hL hi hI hk)
    by_cases q9 : xs (ix (nI i)) &&& (63 : Int32) = (9 : Int32)
    · exact a_tabIn (tgt := 443) X dL_law_33 q9 (by decide) (by decide) rfl (by decide) (law_c9 hOK X hkc hks hX3 hM3 hX hbl hbA hL hi hI hk)
    by_cases q10 : xs (ix (nI i)) &&& (63 : Int32) = (10 : Int32)
    · exact a_tabIn (tgt := 466) X dL_law_33 q10 (by decide) (by decide) rfl (by decide) (law_c10 hOK X hkc hks hX3 hM3 hX hbl hbA hL hi hI hk)
    by_cases q11 : xs (ix (nI i)) &&& (63 : Int32) = (11 : Int32)
    · exact a_tabIn (tgt := 529) X dL_law_33 q11 (by decide) (by decide) rfl (by decide) (law_c11 hOK X hkc hks hX3 hM3 hX hbl hbA hL hi hI hk)
    by_cases q12 : xs (ix (nI i)) &&& (63 : Int32) = (12 : Int32)
    · exact a_tabIn (tgt := 542) X dL_law_33 q12 (by decide) (by decide) rfl (by decide) (law_c12 hOK X hkc hks hX3 hM3 hX hbl hbA hL hi hI hk)
    by_cases q13 : xs (ix (nI i)) &&& (63 : Int32) = (13 : Int32)
    · exact a_tabIn (tgt := 575) X dL_law_33 q13 (by decide) (by decide) rfl (by decide) (law_c13 hOK X hkc hks hX3 hM3 hX hbl hbA hL hi hI hk)
    by_cases q14 : xs (ix (nI i)) &&& (63 : Int32) = (14 : Int32)
    · exact a_tabIn (tgt := 598) X dL_law_33 q14 (by decide) (by decide) rfl (by decide) (law_c14 hOK X hkc hks hX3 hM3 hX hbl hbA hL hi hI hk)
    by_cases q15 : xs (ix (nI i)) &&& (63 : Int32) = (15 : Int32)
    · exact a_tabIn (tgt := 611) X dL_law_33 q15 (by decide) (by decide) rfl (by decide) (law_c15 hOK X hkc hks hX3 hM3 hX hbl hbA hL hi hI hk)
    by_cases q16 : xs (ix (nI i)) &&& (63 : Int32) = (16 : Int32)
    · exact a_tabIn (tgt := 634) X dL_law_33 q16 (by decide) (by decide) rfl (by decide) (law_c16 hOK X hkc hks hX3 hM3 hX hbl hbA hL hi hI hk)
    by_cases q17 : xs (ix (nI i)) &&& (63 : Int32) = (17 : Int32)
    · exact a_tabIn (tgt := 657) X dL_law_33 q17 (by decide) (by decide) rfl (by decide) (law_c17 hOK X hkc hks hX3 hM3 hX hbl hbA hL hi hI hk)
    by_cases q18 : xs (ix (nI i)) &&& (63 : Int32) = (18 : Int32)
    · exact a_tabIn (tgt := 680) X dL_law_33 q18 (by decide) (by decide) rfl (by decide) (law_c18 hOK X hkc hks hX3 hM3 hX hbl hbA hL hi hI hk)
    by_cases q19 : xs (ix (nI i)) &&& (63 : Int32) = (19 : Int32)
    · exact a_tabIn (tgt := 703) X dL_law_33 q19 (by decide) (by decide) rfl (by decide) (law_c19 hOK X hkc hks hX3 hM3 hX hbl hbA hL hi hI hk)
    by_cases q20 : xs (ix (nI i)) &&& (63 : Int32) = (20 : Int32)
    · exact a_tabIn (tgt := 716) X dL_law_33 q20 (by decide) (by decide) rfl (by decide) (law_c20 hOK X hkc hks hX3 hM3 hX hbl hbA hL hi hI hk)
    by_cases q21 : xs (ix (nI i)) &&& (63 : Int32) = (21 : Int32)
    · exact a_tabIn (tgt := 739) X dL_law_33 q21 (by decide) (by decide) rfl (by decide) (law_c21 hOK X hkc hks hX3 hM3 hX hbl hbA hL hi hI hk)
    by_cases q22 : xs (ix (nI i)) &&& (63 : Int32) = (22 : Int32)
    · exact a_tabIn (tgt := 762) X dL_law_33 q22 (by decide) (by decide) rfl (by decide) (law_c22 hOK X hkc hks hX3 hM3 hX hbl hbA hL hi hI hk)
    by_cases q23 : xs (ix (nI i)) &&& (63 : Int32) = (23 : Int32)
    · exact a_tabIn (tgt := 805) X dL_law_33 q23 (by decide) (by decide) rfl (by decide) (law_c23 hOK X hkc hks hX3 hM3 hX hbl hbA hL hi hI hk)
    by_cases q24 : xs (ix (nI i)) &&& (63 : Int32) = (24 : Int32)
    · exact a_tabIn (tgt := 848) X dL_law_33 q24 (by decide) (by decide) rfl (by decide) (law_c24 hOK X hkc hks hX3 hM3 hX hbl hbA hL hi hI hk)
    by_cases q25 : xs (ix (nI i)) &&& (63 : Int32) = (25 : Int32)
    · exact a_tabIn (tgt := 871) X dL_law_33 q25 (by decide) (by decide) rfl (by decide) (law_c25 hOK X hkc hks hX3 hM3 hX hbl hbA hL hi hI hk)
    by_cases q26 : xs (ix (nI i)) &&& (63 : Int32) = (26 : Int32)
    · exact a_tabIn (tgt := 894) X dL_law_33 q26 (by decide) (by decide) rfl (by decide) (law_c26 hOK X hkc hks hX3 hM3 hX hbl hbA hL hi hI hk)
    by_cases q27 : xs (ix (nI i)) &&& (63 : Int32) = (27 : Int32)
    · exact a_tabIn (tgt := 937) X dL_law_33 q27 (by decide) (by decide) rfl (by decide) (law_c27 hOK X hkc hks hX3 hM3 hX hbl hbA hL hi hI hk)
    by_cases q28 : xs (ix (nI i)) &&& (63 : Int32) = (28 : Int32)
    · exact a_tabIn (tgt := 980) X dL_law_33 q28 (by decide) (by decide) rfl (by decide) (law_c28 hOK X hkc hks hX3 hM3 hX hbl hbA hL hi hI hk)
    by_cases q29 : xs (ix (nI i)) &&& (63 : Int32) = (29 : Int32)
    · exact a_tabIn (tgt := 1013) X dL_law_33 q29 (by decide) (by decide) rfl (by decide) (law_c29 hOK X hkc hks hX3 hM3 hX hbl hbA hL hi hI hk)
    by_cases q30 : xs (ix (nI i)) &&& (63 : Int32) = (30 : Int32)
    · exact a_tabIn (tgt := 1076) X dL_law_33 q30 (by decide) (by decide) rfl (by decide) (law_c30 hOK X hkc hks hX3 hM3 hX hbl hbA hL hi hI hk)
    by_cases q31 : xs (ix (nI i)) &&& (63 : Int32) = (31 : Int32)
    · exact a_tabIn (tgt := 1109) X dL_law_33 q31 (by decide) (by decide) rfl (by decide) (law_c31 hOK X hkc hks hX3 hM3 hX hbl hbA hL hi hI hk)
    by_cases q32 : xs (ix (nI i)) &&& (63 : Int32) = (32 : Int32)
    · exact a_tabIn (tgt := 1142) X dL_law_33 q32 (by decide) (by decide) rfl (by decide) (law_c32 hOK X hkc hks hX3 hM3 hX hbl hbA hL hi hI hk)
    by_cases q33 : xs (ix (nI i)) &&& (63 : Int32) = (33 : Int32)
    · exact a_tabIn (tgt := 1165) X dL_law_33 q33 (by decide) (by decide) rfl (by decide) (law_c33 hOK X hkc hks hX3 hM3 hX hbl hbA hL hi hI hk)
    by_cases q34 : xs (ix (nI i)) &&& (63 : Int32) = (34 : Int32)
    · exact a_tabIn (tgt := 1178) X dL_law_33 q34 (by decide) (by decide) rfl (by decide) (law_c34 hOK X hkc hks hX3 hM3 hX hbl hbA hL hi hI hk)
    by_cases q35 : xs (ix (nI i)) &&& (63 : Int32) = (35 : Int32)
    · exact a_tabIn (tgt := 1191) X dL_law_33 q35 (by decide) (by decide) rfl (by decide) (law_c35 hOK X hkc hks hX3 hM3 hX hbl hbA hL hi hI hk)
    by_cases q36 : xs (ix (nI i)) &&& (63 : Int32) = (36 : Int32)
    · exact a_tabIn (tgt := 1214) X dL_law_33 q36 (by decide) (by decide) rfl (by decide) (law_c36 hOK X hkc hks hX3 hM3 hX hbl hbA hL hi hI hk)
    have t0 : (xs (ix (nI i)) &&& (63 : Int32)).toInt ≠ 0 := tab_ne q0
    have t1 : (xs (ix (nI i)) &&& (63 : Int32)).toInt ≠ 1 := tab_ne q1
    have t2 : (xs (ix (nI i)) &&& (63 : Int32)).toInt ≠ 2 := tab_ne q2
    have t3 : (xs (ix (nI i)) &&& (63 : Int32)).toInt ≠ 3 := tab_ne q3
    have t4 : (xs (ix (nI i)) &&& (63 : Int32)).toInt ≠ 4 := tab_ne q4
    have t5 : (xs (ix (nI i)) &&& (63 : Int32)).toInt ≠ 5 := tab_ne q5
    have t6 : (xs (ix (nI i)) &&& (63 : Int32)).toInt ≠ 6 := tab_ne q6
    have t7 : (xs (ix (nI i)) &&& (63 : Int32)).toInt ≠ 7 := tab_ne q7
    have t8 : (xs (ix (nI i)) &&& (63 : Int32)).toInt ≠ 8 := tab_ne q8
    have t9 : (xs (ix (nI i)) &&& (63 : Int32)).toInt ≠ 9 := tab_ne q9
    have t10 : (xs (ix (nI i)) &&& (63 : Int32)).toInt ≠ 10 := tab_ne q10
    have t11 : (xs (ix (nI i)) &&& (63 : Int32)).toInt ≠ 11 := tab_ne q11
    have t12 : (xs (ix (nI i)) &&& (63 : Int32)).toInt ≠ 12 := tab_ne q12
    have t13 : (xs (ix (nI i)) &&& (63 : Int32)).toInt ≠ 13 := tab_ne q13
    have t14 : (xs (ix (nI i)) &&& (63 : Int32)).toInt ≠ 14 := tab_ne q14
    have t15 : (xs (ix (nI i)) &&& (63 : Int32)).toInt ≠ 15 := tab_ne q15
    have t16 : (xs (ix (nI i)) &&& (63 : Int32)).toInt ≠ 16 := tab_ne q16
    have t17 : (xs (ix (nI i)) &&& (63 : Int32)).toInt ≠ 17 := tab_ne q17
    have t18 : (xs (ix (nI i)) &&& (63 : Int32)).toInt ≠ 18 := tab_ne q18
    have t19 : (xs (ix (nI i)) &&& (63 : Int32)).toInt ≠ 19 := tab_ne q19
    have t20 : (xs (ix (nI i)) &&& (63 : Int32)).toInt ≠ 20 := tab_ne q20
    have t21 : (xs (ix (nI i)) &&& (63 : Int32)).toInt ≠ 21 := tab_ne q21
    have t22 : (xs (ix (nI i)) &&& (63 : Int32)).toInt ≠ 22 := tab_ne q22
    have t23 : (xs (ix (nI i)) &&& (63 : Int32)).toInt ≠ 23 := tab_ne q23
    have t24 : (xs (ix (nI i)) &&& (63 : Int32)).toInt ≠ 24 := tab_ne q24
    have t25 : (xs (ix (nI i)) &&& (63 : Int32)).toInt ≠ 25 := tab_ne q25
    have t26 : (xs (ix (nI i)) &&& (63 : Int32)).toInt ≠ 26 := tab_ne q26
    have t27 : (xs (ix (nI i)) &&& (63 : Int32)).toInt ≠ 27 := tab_ne q27
    have t28 : (xs (ix (nI i)) &&& (63 : Int32)).toInt ≠ 28 := tab_ne q28
    have t29 : (xs (ix (nI i)) &&& (63 : Int32)).toInt ≠ 29 := tab_ne q29
    have t30 : (xs (ix (nI i)) &&& (63 : Int32)).toInt ≠ 30 := tab_ne q30
    have t31 : (xs (ix (nI i)) &&& (63 : Int32)).toInt ≠ 31 := tab_ne q31
    have t32 : (xs (ix (nI i)) &&& (63 : Int32)).toInt ≠ 32 := tab_ne q32
    have t33 : (xs (ix (nI i)) &&& (63 : Int32)).toInt ≠ 33 := tab_ne q33
    have t34 : (xs (ix (nI i)) &&& (63 : Int32)).toInt ≠ 34 := tab_ne q34
    have t35 : (xs (ix (nI i)) &&& (63 : Int32)).toInt ≠ 35 := tab_ne q35
    have t36 : (xs (ix (nI i)) &&& (63 : Int32)).toInt ≠ 36 := tab_ne q36
    exact a_tabOut (tgt := 1237) X dL_law_33 (by omega) (by decide) (hk σ τ hI)
theorem tw83 : Cond.classLink RL 7 RX8 ∈ zt := zt_at 83 (by decide +kernel)
theorem tw798 : Cond.classLink RL 10 RX9 ∈ zt := zt_at 798 (by decide +kernel)
theorem tw84 : Cond.instantiable RX8 11 ∈ zt := zt_at 84 (by decide +kernel)
theorem tw799 : Cond.instantiable RX9 33 ∈ zt := zt_at 799 (by decide +kernel)
theorem tw85 : Cond.methodLink RL 9 yX8_init ∈ zt := zt_at 85 (by decide +kernel)
theorem tw86 : Cond.instanceMethod yX8_init ∈ zt := zt_at 86 (by decide +kernel)
theorem tw87 : Cond.code yX8_init cX8_init 2 none ∈ zt := zt_at 87 (by decide +kernel)
theorem tw800 : Cond.methodLink RL 12 yX9_init ∈ zt := zt_at 800 (by decide +kernel)
theorem tw801 : Cond.instanceMethod yX9_init ∈ zt := zt_at 801 (by decide +kernel)
theorem tw802 : Cond.code yX9_init cX9_init 1 none ∈ zt := zt_at 802 (by decide +kernel)
set_option maxHeartbeats 8000000 in
set_option maxRecDepth 100000 in
theorem law_all {Inv : S3 → S3 → Prop} (hOK : zOK Inv) (h0 : Inv sg0 tu0) {p : Program} {e : Env} {s : State} {m : MethodId} {below : List Frame} {meth : Method} {c : Code} (l : Launch) {b L : Nat} {xs : Nat → Int32} (hL : L ≤ 3072) (C0 : lw_At p s m meth c b L xs) : W p l e room_1 s m #[Value.ref b] below meth c s.heap [] 0 0 (lw_Z below #[Value.ref b] s) (entryFrame m ([Value.ref b] : List Value).toArray 4) := by
  obtain ⟨hx, hb, hr, hml, hown, hts0, hX, hbl, hlocks, hgv⟩ := C0
  have hts : ∀ w ∈ zt, w.before #[Value.ref b] s = true := fun w hw => hts0 w (List.mem_filter.mp hw).1
  obtain ⟨c0, iS0, hKn0⟩ := u_known (C := RX0) (T := TX0) (N := 5) (n := 5) hts inX0 (hts _ tw210)
  obtain ⟨c1, iS1, hKn1⟩ := u_known (C := RX1) (T := TX1) (N := 4) (n := 4) hts inX1 (hts _ tw142)
  obtain ⟨c2, iS2, hKn2⟩ := u_known (C := RX2) (T := TX2) (N := 10) (n := 10) hts inX2 (hts _ tw92)
  obtain ⟨c3, iS3, hKn3⟩ := u_known (C := RX3) (T := TX3) (N := 3) (n := 3) hts inX3 (hts _ tw161)
  obtain ⟨c4, iS4, hKn4⟩ := u_known (C := RX4) (T := TX4) (N := 3) (n := 3) hts inX4 (hts _ tw251)
  obtain ⟨c5, iS5, hKn5⟩ := u_known (C := RX6) (T := TX6) (N := 2) (n := 2) hts inX6 (hts _ tw236)
  obtain ⟨c6, iS6, hKn6⟩ := u_known (C := RX7) (T := TX7) (N := 7) (n := 7) hts inX7 (hts _ tw178)
  obtain ⟨c7, iS7, hKn7⟩ := u_known (C := RX8) (T := TX8) (N := 11) (n := 11) hts inX8 (hts _ tw84)
  obtain ⟨c8, iS8, hKn8⟩ := u_known (C := RX9) (T := TX9) (N := 33) (n := 33) hts inX9 (hts _ tw799)
  obtain ⟨dC, dI, hKc⟩ : ∃ (dC : Nat → ClassId) (dI : Nat → Nat → Nat), ∀ (k : Nat) (q : vw_C), vwCl[k]? = some q → u_Kn s q.1 q.2.1 q.2.2 (dC k) (dI k) := by
    refine ⟨fun k => if k = 0 then c0 else if k = 1 then c1 else if k = 2 then c2 else if k = 3 then c3 else if k = 4 then c4 else if k = 5 then c5 else if k = 6 then c6 else if k = 7 then c7 else c8, fun k => if k = 0 then iS0 else if k = 1 then iS1 else if k = 2 then iS2 else if k = 3 then iS3 else if k = 4 then iS4 else if k = 5 then iS5 else if k = 6 then iS6 else if k = 7 then iS7 else iS8, ?_⟩
    intro k q hq
    match k, hq with
    | 0, hq => cases hq; exact hKn0
    | 1, hq => cases hq; exact hKn1
    | 2, hq => cases hq; exact hKn2
    | 3, hq => cases hq; exact hKn3
    | 4, hq => cases hq; exact hKn4
    | 5, hq => cases hq; exact hKn5
    | 6, hq => cases hq; exact hKn6
    | 7, hq => cases hq; exact hKn7
    | 8, hq => cases hq; exact hKn8
    | k + 9, hq => simp [vwCl] at hq
  obtain ⟨cI, kI, coI, hfI, hkI, hdI⟩ := Cond.arrayClass_spec (hts _ tw140)
  obtain ⟨cZ, kZ, coZ, hfZ, hkZ, hdZ⟩ := Cond.arrayClass_spec (hts _ tw905)
  have hao : (Cond.arrayOver (.object "MarkerWalks$Sheet")).before #[Value.ref b] s = true := hts0 _ (List.mem_of_getElem? (i := 250) (by decide +kernel))
  obtain ⟨coS, cS, kS, hcS, hiS, hkS, hdS, hfS⟩ := Cond.arrayOver_spec hao
  have hK : va_K (dC, dI) vwCl (zty ((cI, cZ, cS), fun _ => 0, fun _ _ => 0)) s := by
    refine ⟨hKc, fun k q hq => ?_⟩
    match k, hq with
    | 0, hq => cases hq; exact ⟨fun n z => ⟨fun k h => (by cases h), kI, hkI, coI, hdI⟩, hfI⟩
    | 1, hq => cases hq; exact ⟨fun n z => ⟨fun k h => (by cases h), kZ, hkZ, coZ, hdZ⟩, hfZ⟩
    | 2, hq => cases hq; exact ⟨fun n z => ⟨fun k h => (by cases h), kS, hkS, coS, hdS⟩, ⟨kS, coS, hkS, hdS, hcS, hfS⟩⟩
    | k + 3, hq => simp [zty] at hq
  have hP : va_P (dC, dI) vwCl [] s.heap := fun k q h => by simp at h
  have hD : va_D (fun q : Nat => s.heap.size ≤ q) [] := ⟨fun i j p q h => by simp at h, fun k q h => by simp at h⟩
  have hl := lv_entry ([.ref b]) (n := 4) (Nat.le_of_ble_eq_true rfl)
  rw [lg_entry_eq]
  have X : zCA (((l, (dC, dI), (fun q : Nat => s.heap.size ≤ q), ((cI, cZ, cS), fun _ => 0, fun _ _ => 0)), p, e, room_1, s, m, #[Value.ref b], below, meth, c, lw_Z below #[Value.ref b] s) : zT) R_law code 4 2000 600000 7302250 :=
    ⟨⟨hx, hb, hml, hown, hts, Nat.le_of_ble_eq_true rfl, Nat.le_of_ble_eq_true rfl, hK, hlocks⟩, Nat.le_of_ble_eq_true rfl, Nat.le_of_ble_eq_true rfl, fun _ h => h⟩
  refine (show ZA (((l, (dC, dI), (fun q : Nat => s.heap.size ≤ q), ((cI, cZ, cS), fun _ => 0, fun _ _ => 0)), p, e, room_1, s, m, #[Value.ref b], below, meth, c, lw_Z below #[Value.ref b] s) : zT) 4 [] [(0, .ref b)] 0 [] 0 0 from ?_) s.heap [] _ hP hD va_S.rf hl
  generalize hκ : (((l, (dC, dI), (fun q : Nat => s.heap.size ≤ q), ((cI, cZ, cS), fun _ => 0, fun _ _ => 0)), p, e, room_1, s, m, #[Value.ref b], below, meth, c, lw_Z below #[Value.ref b] s) : zT) = κ at X ⊢
  have hex : ∀ U : State, κ.2.2.2.2.1.WarmedH U.vm → va_AO "MarkerWalks$Sheet" U ∧ va_Nw (.methodLinkNest RX8 9 yX2_init "MarkerWalks") U ∧ va_Nw (.methodLinkNest RX8 46 yX0_init "MarkerWalks") U ∧ va_Nw (.methodLinkNest RX8 53 yX6_init "MarkerWalks") U ∧ va_Nw (.methodLinkNest RX8 68 yX4_init "MarkerWalks") U := by
    subst hκ
    intro U hW
    exact ⟨va_AO.moved hW.alike (va_AO.of hao), va_Nw.warmM hW (va_Nw.of rfl (hts0 (.methodLinkNest RX8 9 yX2_init "MarkerWalks") (List.mem_of_getElem? (i := 93) (by decide +kernel)))), va_Nw.warmM hW (va_Nw.of rfl (hts0 (.methodLinkNest RX8 46 yX0_init "MarkerWalks") (List.mem_of_getElem? (i := 211) (by decide +kernel)))), va_Nw.warmM hW (va_Nw.of rfl (hts0 (.methodLinkNest RX8 53 yX6_init "MarkerWalks") (List.mem_of_getElem? (i := 237) (by decide +kernel)))), va_Nw.warmM hW (va_Nw.of rfl (hts0 (.methodLinkNest RX8 68 yX4_init "MarkerWalks") (List.mem_of_getElem? (i := 252) (by decide +kernel))))⟩
  have hbX : va_X b L xs κ.2.2.2.2.1 κ.2.2.2.2.1.heap := by subst hκ; exact hX
  have hbl' : b < κ.2.2.2.2.1.heap.size := by subst hκ; exact hbl
  have hbA : ¬ κ.1.2.2.1 b := by subst hκ; exact Nat.not_le.mpr hbl
  have hend : ∀ (ws : va_W) (lv : List (Nat × Value)), ZA κ 4 ws lv 1244 [.int 1] 55 132462 := by
    subst hκ
    intro ws lv H locs ls hP hD hS hl
    refine va_forget (fun q hq => hS.2.2 q hq) ?_
    refine W.widen (k := 600000) (n := 7302250) (Nat.le_of_ble_eq_true rfl) (Nat.le_of_ble_eq_true rfl) ?_
    exact lw_ret hx hb hr hlocks dL_law_1244
  refine a_new (ci := 7) (fs := [.null, .null, .null, .null, .null, .null, .null, .null, .null, .int 0, .int 0]) (C := RX8) (T := TX8) (N := 11) (ws' := fun q => [(q, .inr (7, [.null, .null, .null, .null, .null, .null, .null, .null, .null, .int 0, .int 0]))]) X inX8 tyX8 tyX8_ok tw83 tw84 tw69 rfl (fun j hj => by rcases (show j = 0 ∨ j = 1 ∨ j = 2 ∨ j = 3 ∨ j = 4 ∨ j = 5 ∨ j = 6 ∨ j = 7 ∨ j = 8 ∨ j = 9 ∨ j = 10 by omega) with rfl | rfl | rfl | rfl | rfl | rfl | rfl | rfl | rfl | rfl | rfl <;> rfl) (Nat.le_of_ble_eq_true rfl) (Nat.le_of_ble_eq_true rfl) (fun _ => rfl) dL_law_0 (fun q0 => ?_)
  refine a_dup X dL_law_3 rfl ?_
  refine a_init (d1 := 2) (mc1 := 38) (ms1 := 8969) (b := q0) (As := []) (rest := [.ref q0]) (wr := []) (ws' := fun u => zX (eX κ.1.2.2.2.1 q0 u) sg0) X (by decide) I_X8 hex (fun U g mk a h => h) [0] [] rfl rfl rfl (by decide) (by decide) tw85 tw86 tw69 tw87 rfl (by decide) ds_X8_init rfl rfl (Nat.le_of_ble_eq_true rfl) (Nat.le_of_ble_eq_true rfl) (Nat.le_of_ble_eq_true rfl) dL_law_4 (fun _ => rfl) (fun u0 => ?_)
  refine a_astore_n (i := 1) (lv' := [(1, .ref q0), (0, .ref b)]) X dL_law_7 rfl (by decide) rfl ?_
  refine a_new (ci := 8) (fs := [.null, .int 0, .int 0, .null, .null, .null, .null, .int 0, .int 0, .null, .int 0, .int 0, .int 0, .int 0, .int 0, .int 0, .int 0, .int 0, .null, .int 0, .null, .null, .int 0, .null, .int 0, .int 0, .int 0, .null, .null, .null, .null, .null, .int 0]) (C := RX9) (T := TX9) (N := 33) (ws' := fun q => zX (eX κ.1.2.2.2.1 q0 u0) sg0 ++ [(q, .inr (8, [.null, .int 0, .int 0, .null, .null, .null, .null, .int 0, .int 0, .null, .int 0, .int 0, .int 0, .int 0, .int 0, .int 0, .int 0, .int 0, .null, .int 0, .null, .null, .int 0, .null, .int 0, .int 0, .int 0, .null, .null, .null, .null, .null, .int 0]))]) X inX9 tyX9 tyX9_ok tw798 tw799 tw77 rfl (fun j hj => by rcases (show j = 0 ∨ j = 1 ∨ j = 2 ∨ j = 3 ∨ j = 4 ∨ j = 5 ∨ j = 6 ∨ j = 7 ∨ j = 8 ∨ j = 9 ∨ j = 10 ∨ j = 11 ∨ j = 12 ∨ j = 13 ∨ j = 14 ∨ j = 15 ∨ j = 16 ∨ j = 17 ∨ j = 18 ∨ j = 19 ∨ j = 20 ∨ j = 21 ∨ j = 22 ∨ j = 23 ∨ j = 24 ∨ j = 25 ∨ j = 26 ∨ j = 27 ∨ j = 28 ∨ j = 29 ∨ j = 30 ∨ j = 31 ∨ j = 32 by omega) with rfl | rfl | rfl | rfl | rfl | rfl | rfl | rfl | rfl | rfl | rfl | rfl | rfl | rfl | rfl | rfl | rfl | rfl | rfl | rfl | rfl | rfl | rfl | rfl | rfl | rfl | rfl | rfl | rfl | rfl | rfl | rfl | rfl <;> rfl) (Nat.le_of_ble_eq_true rfl) (Nat.le_of_ble_eq_true rfl) (fun _ => rfl) dL_law_8 (fun q1 => ?_)
  refine a_dup X dL_law_11 rfl ?_
  refine a_init (d1 := 1) (mc1 := 15) (ms1 := 123449) (b := q1) (As := []) (rest := [.ref q1]) (wr := zX (eX κ.1.2.2.2.1 q0 u0) sg0) (ws' := fun u => zX (eX κ.1.2.2.2.1 q0 u0) sg0 ++ zM (eM κ.1.2.2.2.1 q1 u) tu0) X (by decide) I_X9 (fun _ _ => trivial) (fun _ _ _ _ _ => trivial) [39] [0, 1, 2, 3, 4, 5, 6, 7, 8, 9, 10, 11, 12, 13, 14, 15, 16, 17, 18, 19, 20, 21, 22, 23, 24, 25, 26, 27, 28, 29, 30, 31, 32, 33, 34, 35, 36, 37, 38] rfl rfl rfl (by decide) (by decide) tw800 tw801 tw77 tw802 rfl (by decide) ds_X9_init rfl rfl (Nat.le_of_ble_eq_true rfl) (Nat.le_of_ble_eq_true rfl) (Nat.le_of_ble_eq_true rfl) dL_law_12 (fun _ => rfl) (fun u1 => ?_)
  refine a_astore_n (i := 2) (lv' := [(2, .ref q1), (1, .ref q0), (0, .ref b)]) X dL_law_15 rfl (by decide) rfl ?_
  refine a_iconst (v := (0 : Int32)) X dL_law_16 (by decide) ?_
  refine a_istore_n (i := 3) (lv' := [(3, .int (0 : Int32)), (2, .ref q1), (1, .ref q0), (0, .ref b)]) X dL_law_17 rfl (by decide) rfl ?_
  exact law_loop (εX := eX κ.1.2.2.2.1 q0 u0) (εM := eM κ.1.2.2.2.1 q1 u1) hOK X (Nat.le_of_ble_eq_true rfl) (Nat.le_of_ble_eq_true rfl) rfl rfl hbX hbl' hbA hL hend (L + 7) 0 sg0 tu0 (by omega) (by omega) h0
