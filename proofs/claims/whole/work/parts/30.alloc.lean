/-! CONSTRUCTORS: frames that make cells -/
def ZA (κ : zT) (nL : Nat) (ws : va_W) (lv : List (Nat × Value)) (pc : Nat) (st : List Value) (kc ks : Nat) : Prop := match κ with
  | ((l, D, A, ε), p, e, R, s, m, args, below, meth, c, Q) => ∀ (H : Heap) (locs : List Loc) (ls : Array Slot), va_P D vwCl ws H → va_D A ws → va_S A s.heap H locs → lv_has ls nL lv → W p l e R s m args below meth c H locs kc ks Q (F0 m pc ls st)
def zCA (κ : zT) (own : String) (cc : ByteArray) (nL d mc ms : Nat) : Prop := zC0 κ own cc nL d ∧ match κ with
  | ((l, D, A, ε), p, e, R, s, m, args, below, meth, c, Q) => mc ≤ R.cells ∧ ms ≤ R.slots ∧ ∀ q, s.heap.size ≤ q → A q
def zCI (κ : zT) (own : String) (cc : ByteArray) (nL d mc ms : Nat) (w1 : (Nat → Nat) → va_W) (ex : State → Prop) : Prop := zCA κ own cc nL d mc ms ∧ match κ with
  | ((l, D, A, ε), p, e, R, s, m, args, below, meth, c, Q) => meth.name = "<init>" ∧ meth.sig.returnType = none ∧ Q = MQ below (va_Qv (fun _ : Nat → Nat => True) (fun u t => va_P D vwCl (w1 u) t.heap ∧ va_D A (w1 u)) A) args s mc ms A ∧ ex s
def zIn (l : Launch) (D : va_G) (ε : zV) (d mc ms : Nat) (y : MethodName) (cc : ByteArray) (nL : Nat) (av : List Value) (w0 : va_W) (w1 : (Nat → Nat) → va_W) (ex : State → Prop) : Prop := ∀ sz : Nat,
  Met l y (zws y cc nL none) { frames := d, cells := mc, slots := ms, locals := 40 * d } (va_Pc av (fun U => U.heap.size = sz ∧ va_P D vwCl w0 U.heap ∧ va_K D vwCl (zty ε) U ∧ va_D (fun _ => True) w0 ∧ ex U)) (va_Qv (fun _ : Nat → Nat => True) (fun u t => va_P D vwCl (w1 u) t.heap ∧ va_D (va_A w0 sz) (w1 u)) (va_A w0 sz)) mc ms (va_A w0 sz)
section ZALL
variable {κ : zT} {own : String} {cc : ByteArray} {nL d mc ms kc ks : Nat} {ws : va_W} {lv : List (Nat × Value)} {pc : Nat} {st : List Value}
theorem a_iconst {n : Int} {v : Int32} (X : zCA κ own cc nL d mc ms) (hdg : decode cc pc = .ok (.iconst n, 1)) (hv : Int32.ofInt n = v) (k : ZA κ nL ws lv (pc + 1) (.int v :: st) kc ks) : ZA κ nL ws lv pc (st) kc ks := by
  obtain ⟨⟨l, D, A, ε⟩, p, e, R, s, m, args, below, meth, c, Q⟩ := κ
  obtain ⟨⟨hx, hb, hml, hown, hts, hfr, hlo, hK, hlk⟩, hmc, hms, hA⟩ := X
  exact fun H locs ls hP hD hS hl => lv_iconst hx hb hdg hv (k H locs ls hP hD hS hl)
theorem a_bipush {n : Int} {v : Int32} (X : zCA κ own cc nL d mc ms) (hdg : decode cc pc = .ok (.bipush n, 2)) (hv : (Int8.ofInt n).toInt32 = v) (k : ZA κ nL ws lv (pc + 2) (.int v :: st) kc ks) : ZA κ nL ws lv pc (st) kc ks := by
  obtain ⟨⟨l, D, A, ε⟩, p, e, R, s, m, args, below, meth, c, Q⟩ := κ
  obtain ⟨⟨hx, hb, hml, hown, hts, hfr, hlo, hK, hlk⟩, hmc, hms, hA⟩ := X
  exact fun H locs ls hP hD hS hl => lv_bipush hx hb hdg hv (k H locs ls hP hD hS hl)
theorem a_sipush {n : Int} {v : Int32} (X : zCA κ own cc nL d mc ms) (hdg : decode cc pc = .ok (.sipush n, 3)) (hv : (Int16.ofInt n).toInt32 = v) (k : ZA κ nL ws lv (pc + 3) (.int v :: st) kc ks) : ZA κ nL ws lv pc (st) kc ks := by
  obtain ⟨⟨l, D, A, ε⟩, p, e, R, s, m, args, below, meth, c, Q⟩ := κ
  obtain ⟨⟨hx, hb, hml, hown, hts, hfr, hlo, hK, hlk⟩, hmc, hms, hA⟩ := X
  exact fun H locs ls hP hD hS hl => lv_sipush hx hb hdg hv (k H locs ls hP hD hS hl)
theorem a_ldc {idx : Nat} {v : Int32} (X : zCA κ own cc nL d mc ms) (hdg : decode cc pc = .ok (.ldc idx, 2)) (hw : Cond.constant own idx v ∈ zt) (k : ZA κ nL ws lv (pc + 2) (.int v :: st) kc ks) : ZA κ nL ws lv pc (st) kc ks := by
  obtain ⟨⟨l, D, A, ε⟩, p, e, R, s, m, args, below, meth, c, Q⟩ := κ
  obtain ⟨⟨hx, hb, hml, hown, hts, hfr, hlo, hK, hlk⟩, hmc, hms, hA⟩ := X
  exact fun H locs ls hP hD hS hl => lv_ldc hx hb hown (hts _ hw) hdg (k H locs ls hP hD hS hl)
theorem a_iload_n {j : Fin 4} {i : Nat} {x : Int32} (X : zCA κ own cc nL d mc ms) (hdg : decode cc pc = .ok (.iload_n j, 1)) (q : Nat) (hi : (j : Nat) = i) (hq : lv[q]? = some (i, .int x)) (k : ZA κ nL ws lv (pc + 1) (.int x :: st) kc ks) : ZA κ nL ws lv pc (st) kc ks := by
  obtain ⟨⟨l, D, A, ε⟩, p, e, R, s, m, args, below, meth, c, Q⟩ := κ
  obtain ⟨⟨hx, hb, hml, hown, hts, hfr, hlo, hK, hlk⟩, hmc, hms, hA⟩ := X
  exact fun H locs ls hP hD hS hl => lv_iload_n hx hb hdg hi (lv_at hl q hq) (k H locs ls hP hD hS hl)
theorem a_aload_n {j : Fin 4} {i : Nat} {x : Nat} (X : zCA κ own cc nL d mc ms) (hdg : decode cc pc = .ok (.aload_n j, 1)) (q : Nat) (hi : (j : Nat) = i) (hq : lv[q]? = some (i, .ref x)) (k : ZA κ nL ws lv (pc + 1) (.ref x :: st) kc ks) : ZA κ nL ws lv pc (st) kc ks := by
  obtain ⟨⟨l, D, A, ε⟩, p, e, R, s, m, args, below, meth, c, Q⟩ := κ
  obtain ⟨⟨hx, hb, hml, hown, hts, hfr, hlo, hK, hlk⟩, hmc, hms, hA⟩ := X
  exact fun H locs ls hP hD hS hl => lv_aload_n hx hb hdg hi (lv_at hl q hq) (k H locs ls hP hD hS hl)
theorem a_dup {va : Value} (X : zCA κ own cc nL d mc ms) (hdg : decode cc pc = .ok (.dup, 1)) (hva : va.category = 1) (k : ZA κ nL ws lv (pc + 1) (va :: va :: st) kc ks) : ZA κ nL ws lv pc (va :: st) kc ks := by
  obtain ⟨⟨l, D, A, ε⟩, p, e, R, s, m, args, below, meth, c, Q⟩ := κ
  obtain ⟨⟨hx, hb, hml, hown, hts, hfr, hlo, hK, hlk⟩, hmc, hms, hA⟩ := X
  exact fun H locs ls hP hD hS hl => lv_dup hx hb hdg hva (k H locs ls hP hD hS hl)
theorem a_istore_n {j : Fin 4} {i : Nat} {x : Int32} {lv' : List (Nat × Value)} (X : zCA κ own cc nL d mc ms) (hdg : decode cc pc = .ok (.istore_n j, 1)) (hi : (j : Nat) = i) (hn : i < nL) (hl : (i, Value.int x) :: lv.filter (fun q => !(q.1 == i) && !(q.1 + 1 == i && q.2.category == 2)) = lv') (k : ZA κ nL ws lv' (pc + 1) st kc ks) : ZA κ nL ws lv pc (.int x :: st) kc ks := by
  obtain ⟨⟨l, D, A, ε⟩, p, e, R, s, m, args, below, meth, c, Q⟩ := κ
  obtain ⟨⟨hx, hb, hml, hown, hts, hfr, hlo, hK, hlk⟩, hmc, hms, hA⟩ := X
  exact fun H locs ls hP hD hS hl0 => lv_istore_n hx hb hdg hi hl0 hn hl (fun ls1 hl1 => k H locs ls1 hP hD hS hl1)
theorem a_astore_n {j : Fin 4} {i : Nat} {x : Nat} {lv' : List (Nat × Value)} (X : zCA κ own cc nL d mc ms) (hdg : decode cc pc = .ok (.astore_n j, 1)) (hi : (j : Nat) = i) (hn : i < nL) (hl : (i, Value.ref x) :: lv.filter (fun q => !(q.1 == i) && !(q.1 + 1 == i && q.2.category == 2)) = lv') (k : ZA κ nL ws lv' (pc + 1) st kc ks) : ZA κ nL ws lv pc (.ref x :: st) kc ks := by
  obtain ⟨⟨l, D, A, ε⟩, p, e, R, s, m, args, below, meth, c, Q⟩ := κ
  obtain ⟨⟨hx, hb, hml, hown, hts, hfr, hlo, hK, hlk⟩, hmc, hms, hA⟩ := X
  exact fun H locs ls hP hD hS hl0 => lv_astore_n hx hb hdg hi hl0 hn hl (fun ls1 hl1 => k H locs ls1 hP hD hS hl1)
theorem a_iinc {i : Nat} {n : Int} {x v : Int32} {lv' : List (Nat × Value)} (X : zCA κ own cc nL d mc ms) (hdg : decode cc pc = .ok (.iinc i n, 3)) (q : Nat) (hq : lv[q]? = some (i, .int x)) (hv : x + Int32.ofInt n = v) (hn : i < nL) (hl : (i, Value.int v) :: lv.filter (fun q => !(q.1 == i) && !(q.1 + 1 == i && q.2.category == 2)) = lv') (k : ZA κ nL ws lv' (pc + 3) st kc ks) : ZA κ nL ws lv pc st kc ks := by
  obtain ⟨⟨l, D, A, ε⟩, p, e, R, s, m, args, below, meth, c, Q⟩ := κ
  obtain ⟨⟨hx, hb, hml, hown, hts, hfr, hlo, hK, hlk⟩, hmc, hms, hA⟩ := X
  exact fun H locs ls hP hD hS hl0 => lv_iinc hx hb hdg hl0 hq hv hn hl (fun ls1 hl1 => k H locs ls1 hP hD hS hl1)
theorem a_goto {off : Int} {tgt : Nat} (X : zCA κ own cc nL d mc ms) (hdg : decode cc pc = .ok (.goto off, 3)) (ht : (pc : Int) + off = (tgt : Int)) (k : ZA κ nL ws lv tgt st kc ks) : ZA κ nL ws lv pc st kc ks := by
  obtain ⟨⟨l, D, A, ε⟩, p, e, R, s, m, args, below, meth, c, Q⟩ := κ
  obtain ⟨⟨hx, hb, hml, hown, hts, hfr, hlo, hK, hlk⟩, hmc, hms, hA⟩ := X
  exact fun H locs ls hP hD hS hl => lv_goto hx hb hdg ht (k H locs ls hP hD hS hl)
theorem a_icmp_ge_t {x y : Int32} {off : Int} {tgt : Nat} (X : zCA κ own cc nL d mc ms) (hdg : decode cc pc = .ok (.if_icmp .ge off, 3)) (ht : (pc : Int) + off = (tgt : Int)) (hc : y ≤ x) (k : ZA κ nL ws lv tgt st kc ks) : ZA κ nL ws lv pc (.int y :: .int x :: st) kc ks := by
  obtain ⟨⟨l, D, A, ε⟩, p, e, R, s, m, args, below, meth, c, Q⟩ := κ
  obtain ⟨⟨hx, hb, hml, hown, hts, hfr, hlo, hK, hlk⟩, hmc, hms, hA⟩ := X
  exact fun H locs ls hP hD hS hl => lv_icmp_ge hx hb hdg ht (fun _ => (k H locs ls hP hD hS hl)) (fun q => absurd hc q)
theorem a_icmp_ge_f {x y : Int32} {off : Int} (X : zCA κ own cc nL d mc ms) (hdg : decode cc pc = .ok (.if_icmp .ge off, 3)) {tgt : Nat} (ht : (pc : Int) + off = (tgt : Int)) (hc : ¬ y ≤ x) (k : ZA κ nL ws lv (pc + 3) st kc ks) : ZA κ nL ws lv pc (.int y :: .int x :: st) kc ks := by
  obtain ⟨⟨l, D, A, ε⟩, p, e, R, s, m, args, below, meth, c, Q⟩ := κ
  obtain ⟨⟨hx, hb, hml, hown, hts, hfr, hlo, hK, hlk⟩, hmc, hms, hA⟩ := X
  exact fun H locs ls hP hD hS hl => lv_icmp_ge hx hb hdg ht (fun q => absurd q hc) (fun _ => (k H locs ls hP hD hS hl))
theorem a_objInit {a idx : Nat} (X : zCA κ own cc nL d mc ms) (hd : 1 ≤ d) (h1 : Cond.methodLink own idx objectInit ∈ zt) (h2 : Cond.instanceMethod objectInit ∈ zt) (h3 : Cond.code objectInit ⟨#[0xb1]⟩ 1 none ∈ zt) (hst : (st.map fun v => v.category).sum ≤ 8) (hdg : decode cc pc = .ok (.invokespecial idx, 3)) (k : ZA κ nL ws lv (pc + 3) st kc ks) : ZA κ nL ws lv pc (.ref a :: st) kc ks := by
  obtain ⟨⟨l, D, A, ε⟩, p, e, R, s, m, args, below, meth, c, Q⟩ := κ
  obtain ⟨⟨hx, hb, hml, hown, hts, hfr, hlo, hK, hlk⟩, hmc, hms, hA⟩ := X
  exact fun H locs ls hP hD hS hl => W.objInit hx hb hown (hts _ h1) (hts _ h2) (hts _ h3) rfl (by rw [hml]; exact hl.1) rfl hdg (by omega) (by have := lv_room (m := m) (pc := pc) (ls := ls) (rest := .ref a :: st) hst; omega) (k H locs ls hP hD hS hl)
theorem a_get {a ci k q idx : Nat} {fs : List Value} {C : String} {T : u_T} {N : Nat} {v : Value} (X : zCA κ own cc nL d mc ms) (he : ws[q]? = some (a, .inr (ci, fs))) (hc : vwCl[ci]? = some (C, T, N)) (hk : k < N) (hin : ∀ w ∈ u_ws C T N, w ∈ zt) (hw : Cond.fieldLink own idx (T k).1 (T k).2.1 (T k).2.2.1 ∈ zt) (hv : fs[k]? = some v) (hdg : decode cc pc = .ok (.getfield idx, 3)) (kk : ZA κ nL ws lv (pc + 3) (v :: st) kc ks) : ZA κ nL ws lv pc (.ref a :: st) kc ks := by
  obtain ⟨⟨l, D, A, ε⟩, p, e, R, s, m, args, below, meth, c, Q⟩ := κ
  obtain ⟨⟨hx, hb, hml, hown, hts, hfr, hlo, hK, hlk⟩, hmc, hms, hA⟩ := X
  exact fun H locs ls hP hD hS hl => va_get (D := D) (ci := ci) (C := C) (T := T) (N := N) hx hb hts hin hown hK hP q he hc k hk (hts _ hw) (fun _ h9 => h9) hv hdg (kk H locs ls hP hD hS hl)
theorem a_put {a ci k q idx : Nat} {fs : List Value} {C : String} {T : u_T} {N : Nat} {v : Value} {ty : FieldType} {ws' : va_W} (X : zCA κ own cc nL d mc ms) (he : ws[q]? = some (a, .inr (ci, fs))) (hc : vwCl[ci]? = some (C, T, N)) (hk : k < N) (hin : ∀ w ∈ u_ws C T N, w ∈ zt) (ty0 : Nat → FieldType) (hty : ∀ k, k < N → parseFieldDescriptor (T k).2.2.1 = some (ty0 k)) (hnm : ∀ a, a < N → ∀ b, b < N → a ≠ b → (T a).2.1 ≠ (T b).2.1) (hw : Cond.fieldLink own idx (T k).1 (T k).2.1 (T k).2.2.1 ∈ zt) (hfin : (T k).2.2.2 = false) (hd : parseFieldDescriptor (T k).2.2.1 = some ty) (hn : narrow ty v = v) (hfit : fits ty v = true) (hlen : k < fs.length) (hws : ws.set q (a, .inr (ci, fs.set k v)) = ws') (hdg : decode cc pc = .ok (.putfield idx, 3)) (kk : ZA κ nL ws' lv (pc + 3) st kc ks) : ZA κ nL ws lv pc (v :: .ref a :: st) kc ks := by
  obtain ⟨⟨l, D, A, ε⟩, p, e, R, s, m, args, below, meth, c, Q⟩ := κ
  obtain ⟨⟨hx, hb, hml, hown, hts, hfr, hlo, hK, hlk⟩, hmc, hms, hA⟩ := X
  subst hws
  exact fun H locs ls hP hD hS hl => va_put (D := D) (ci := ci) (C := C) (T := T) (N := N) hx hb hts hin ty0 hty hnm hown hK hP hD hS q he hc k hk (hts _ hw) (fun _ h9 => h9) hfin hd hn hfit hlen hdg (fun H1 locs1 hP1 hD1 hS1 => kk H1 locs1 ls hP1 hD1 hS1 hl)
theorem a_newi {n : Int32} {N : Nat} {ws' : Nat → va_W} (X : zCA κ own cc nL d mc ms) (harr : Cond.arrayClass .int ∈ zt) (hn : ¬ n < 0) (hN : n.toNatClampNeg = N) (hby : N * 4 ≤ 536870912) (h1 : kc + 1 ≤ mc) (h2 : ks + N ≤ ms) (hws : ∀ q : Nat, ws ++ [(q, .inl ((ze κ.1).1.1, N, .inl (fun _ => 0)))] = ws' q) (hdg : decode cc pc = .ok (.newarray .int, 2)) (kk : ∀ q : Nat, ZA κ nL (ws' q) lv (pc + 2) (.ref q :: st) (kc + 1) (ks + N)) : ZA κ nL ws lv pc (.int n :: st) kc ks := by
  obtain ⟨⟨l, D, A, ε⟩, p, e, R, s, m, args, below, meth, c, Q⟩ := κ
  obtain ⟨⟨hx, hb, hml, hown, hts, hfr, hlo, hK, hlk⟩, hmc, hms, hA⟩ := X
  intro H locs ls hP hD hS hl
  refine va_newa (atype := .int) (a0 := (N, .inl (fun _ => 0))) hx hb (hts _ harr) rfl hK hP hD hS hA (fun cA => rfl) hn hN hby (by omega) (by omega) hdg (fun q cA H1 hK1 hP1 hD1 hS1 => ?_)
  have e1 : s.vm.findClass ("[" ++ FieldType.int.toString) = some cA := (hK1.2 3 (cA, .int) rfl).2
  have e2 : s.vm.findClass ("[" ++ FieldType.int.toString) = some ε.1.1 := (hK.2 0 (ε.1.1, .int) rfl).2
  have e3 : cA = ε.1.1 := Option.some.inj (e1.symm.trans e2)
  subst e3
  have hw := hws q
  have k1 := kk q
  rw [← hw] at k1
  exact k1 H1 locs ls hP1 hD1 hS1 hl
theorem a_newz {n : Int32} {N : Nat} {ws' : Nat → va_W} (X : zCA κ own cc nL d mc ms) (harr : Cond.arrayClass .boolean ∈ zt) (hn : ¬ n < 0) (hN : n.toNatClampNeg = N) (hby : N * 1 ≤ 536870912) (h1 : kc + 1 ≤ mc) (h2 : ks + N ≤ ms) (hws : ∀ q : Nat, ws ++ [(q, .inl ((ze κ.1).1.2.1, N, .inl (fun _ => 0)))] = ws' q) (hdg : decode cc pc = .ok (.newarray .boolean, 2)) (kk : ∀ q : Nat, ZA κ nL (ws' q) lv (pc + 2) (.ref q :: st) (kc + 1) (ks + N)) : ZA κ nL ws lv pc (.int n :: st) kc ks := by
  obtain ⟨⟨l, D, A, ε⟩, p, e, R, s, m, args, below, meth, c, Q⟩ := κ
  obtain ⟨⟨hx, hb, hml, hown, hts, hfr, hlo, hK, hlk⟩, hmc, hms, hA⟩ := X
  intro H locs ls hP hD hS hl
  refine va_newa (atype := .boolean) (a0 := (N, .inl (fun _ => 0))) hx hb (hts _ harr) rfl hK hP hD hS hA (fun cA => rfl) hn hN hby (by omega) (by omega) hdg (fun q cA H1 hK1 hP1 hD1 hS1 => ?_)
  have e1 : s.vm.findClass ("[" ++ FieldType.boolean.toString) = some cA := (hK1.2 3 (cA, .boolean) rfl).2
  have e2 : s.vm.findClass ("[" ++ FieldType.boolean.toString) = some ε.1.2.1 := (hK.2 1 (ε.1.2.1, .boolean) rfl).2
  have e3 : cA = ε.1.2.1 := Option.some.inj (e1.symm.trans e2)
  subst e3
  have hw := hws q
  have k1 := kk q
  rw [← hw] at k1
  exact k1 H1 locs ls hP1 hD1 hS1 hl
theorem a_newq {n : Int32} {N idx : Nat} {ws' : Nat → va_W} (X : zCA κ own cc nL d mc ms) (hAO : va_AO "MarkerWalks$Sheet" κ.2.2.2.2.1) (hcl : Cond.classLink own idx "MarkerWalks$Sheet" ∈ zt) (hn : ¬ n < 0) (hN : n.toNatClampNeg = N) (hby : N * 4 ≤ 536870912) (h1 : kc + 1 ≤ mc) (h2 : ks + N ≤ ms) (hws : ∀ q : Nat, ws ++ [(q, .inl ((ze κ.1).1.2.2, N, .inr (.inr (.inr (.inr (fun _ => none))))))] = ws' q) (hdg : decode cc pc = .ok (.anewarray idx, 3)) (kk : ∀ q : Nat, ZA κ nL (ws' q) lv (pc + 3) (.ref q :: st) (kc + 1) (ks + N)) : ZA κ nL ws lv pc (.int n :: st) kc ks := by
  obtain ⟨⟨l, D, A, ε⟩, p, e, R, s, m, args, below, meth, c, Q⟩ := κ
  obtain ⟨⟨hx, hb, hml, hown, hts, hfr, hlo, hK, hlk⟩, hmc, hms, hA⟩ := X
  intro H locs ls hP hD hS hl
  refine va_newq hx hb hown (hts _ hcl) hAO hK hP hD hS hA hn hN hby (by omega) (by omega) hdg (fun q cA H1 hK1 hP1 hD1 hS1 => ?_)
  obtain ⟨k1, c1, -, -, -, e1⟩ := (hK1.2 3 (cA, .object "MarkerWalks$Sheet") rfl).2
  obtain ⟨k2, c2, -, -, -, e2⟩ := (hK.2 2 (ε.1.2.2, .object "MarkerWalks$Sheet") rfl).2
  have e3 : cA = ε.1.2.2 := Option.some.inj (e1.symm.trans e2)
  subst e3
  have hw := hws q
  have k1 := kk q
  rw [← hw] at k1
  exact k1 H1 locs ls hP1 hD1 hS1 hl
theorem a_astq {a q qk ci n v : Nat} {vs : List Value} {f : Nat → Option Nat} {i : Int32} {T : u_T} {N : Nat} {ws' : va_W} (X : zCA κ own cc nL d mc ms) (he : ws[q]? = some (a, .inl ((ze κ.1).1.2.2, n, .inr (.inr (.inr (.inr f)))))) (hv : ws[qk]? = some (v, .inr (ci, vs))) (hc : vwCl[ci]? = some ("MarkerWalks$Sheet", T, N)) (hin : vp_in i n) (hws : ws.set q (a, .inl ((ze κ.1).1.2.2, n, .inr (.inr (.inr (.inr (va_up f (ix i) (some v))))))) = ws') (hdg : decode cc pc = .ok (.aastore, 1)) (kk : ZA κ nL ws' lv (pc + 1) st kc ks) : ZA κ nL ws lv pc (.ref v :: .int i :: .ref a :: st) kc ks := by
  obtain ⟨⟨l, D, A, ε⟩, p, e, R, s, m, args, below, meth, c, Q⟩ := κ
  obtain ⟨⟨hx, hb, hml, hown, hts, hfr, hlo, hK, hlk⟩, hmc, hms, hA⟩ := X
  subst hws
  exact fun H locs ls hP hD hS hl => va_astq hx hb hK hP hD hS q 2 qk ci he rfl hv hc hin hdg (fun H1 locs1 hP1 hD1 hS1 => kk H1 locs1 ls hP1 hD1 hS1 hl)
theorem a_new {ci idx : Nat} {fs : List Value} {C : String} {T : u_T} {N : Nat} {ws' : Nat → va_W} (X : zCA κ own cc nL d mc ms) (hin : ∀ w ∈ u_ws C T N, w ∈ zt) (ty : Nat → FieldType) (hty : ∀ k, k < N → parseFieldDescriptor (T k).2.2.1 = some (ty k)) (hcl : Cond.classLink own idx C ∈ zt) (hinst : Cond.instantiable C N ∈ zt) (hini : Cond.initialized C ∈ zt) (hc : vwCl[ci]? = some (C, T, N)) (hfs : ∀ j, j < N → defaultValue (ty j) = vp_V fs j) (h1 : kc + 1 ≤ mc) (h2 : ks + N ≤ ms) (hws : ∀ q : Nat, ws ++ [(q, .inr (ci, fs))] = ws' q) (hdg : decode cc pc = .ok (.new idx, 3)) (kk : ∀ q : Nat, ZA κ nL (ws' q) lv (pc + 3) (.ref q :: st) (kc + 1) (ks + N)) : ZA κ nL ws lv pc st kc ks := by
  obtain ⟨⟨l, D, A, ε⟩, p, e, R, s, m, args, below, meth, c, Q⟩ := κ
  obtain ⟨⟨hx, hb, hml, hown, hts, hfr, hlo, hK, hlk⟩, hmc, hms, hA⟩ := X
  intro H locs ls hP hD hS hl
  refine va_new (ci := ci) (fs := fs) (C := C) (T := T) (N := N) hx hb hts hin ty hty hown (hts _ hcl) (hts _ hinst) (hts _ hini) hK hP hD hS hA hc hfs (by omega) (by omega) hdg (fun q H1 hP1 hD1 hS1 => ?_)
  have hw := hws q
  have k1 := kk q
  rw [← hw] at k1
  exact k1 H1 locs ls hP1 hD1 hS1 hl
theorem a_run {l : Launch} {D : va_G} {A : Nat → Prop} {p : Program} {e : Env} {R : Room} {s : State} {m : MethodId} {args : Array Value} {below : List Frame} {meth : Method} {c : Code} {Q : State → Prop} {H : Heap} {locs : List Loc} {ls : Array Slot} {st0 rest : List Value} {a : Array Value} {w0 wr : va_W} {w1 : (Nat → Nat) → va_W} {mc1 ms1 : Nat} (isC isR : List Nat) (hC : isC.map (fun i => ws[i]?) = w0.map some) (hR : isR.map (fun i => ws[i]?) = wr.map some) (hn : va_nd isR = true) (hdis : ∀ i ∈ isR, i ∉ isC) (hP : va_P D vwCl ws H) (hD : va_D A ws) (hS : va_S A s.heap H locs) (hA : ∀ q, s.heap.size ≤ q → A q)
    (hr : va_Run p l e R s m args below meth c H locs kc ks mc1 ms1 (F0 m pc ls st0) rest (va_Qv (fun _ : Nat → Nat => True) (fun u t => va_P D vwCl (w1 u) t.heap ∧ va_D (va_A w0 H.size) (w1 u)) (va_A w0 H.size) a) (va_A w0 H.size))
    (kk : ∀ (u : Nat → Nat) (H1 : Heap) (locs1 : List Loc), va_P D vwCl (wr ++ w1 u) H1 → va_D A (wr ++ w1 u) → va_S A s.heap H1 locs1 → W p l e R s m args below meth c H1 locs1 (kc + mc1) (ks + ms1) Q (F0 m (pc + 3) ls rest)) : W p l e R s m args below meth c H locs kc ks Q (F0 m pc ls st0) := by
  have hFc := va_free (wc := w0) hD hS hA isC hC
  refine va_callv hr hS (fun q _ h => hFc q h) hFc (fun u t H1 locs1 ht hvm hw hB hz1 hk1 hS1 => ?_)
  obtain ⟨hP1, hD1⟩ := hB
  rw [ht] at hP1
  obtain ⟨hP2, hD2⟩ := va_join (wr := wr) (w1 := w1 u) hP hD isC isR hC hR hn hdis hk1 hFc hP1 hD1
  exact kk u H1 locs1 hP2 hD2 hS1
theorem a_init {y : MethodName} {cc1 : ByteArray} {nL1 d1 mc1 ms1 idx b n : Nat} {As rest st0 : List Value} {w0 wr : va_W} {w1 : (Nat → Nat) → va_W} {ex : State → Prop} {ws' : (Nat → Nat) → va_W} (X : zCA κ own cc nL d mc ms) (hd : d1 + 1 ≤ d) (hM : zIn κ.1.1 κ.1.2.1 κ.1.2.2.2 d1 mc1 ms1 y cc1 nL1 (.ref b :: As) w0 w1 ex) (hex : ∀ U : State, κ.2.2.2.2.1.WarmedH U.vm → ex U) (hbl : ∀ (U : State) (g : JFrame) (mk : MethodId) (a : Array Value), ex U → ex (U.calling g mk a)) (isC isR : List Nat) (hC : isC.map (fun i => ws[i]?) = w0.map some) (hR : isR.map (fun i => ws[i]?) = wr.map some) (hnC : va_nd isC = true) (hn : va_nd isR = true) (hdis : ∀ i ∈ isR, i ∉ isC) (h1 : Cond.methodLink own idx y ∈ zt) (h2 : Cond.instanceMethod y ∈ zt) (h3 : Cond.initialized y.cls ∈ zt) (h4 : Cond.code y cc1 nL1 none ∈ zt) (hnm : y.name = "<init>") (hn1 : nL1 ≤ 21)
    (hd1 : y.cls ≠ "java/lang/invoke/MethodHandle" ∧ y.cls ≠ "java/lang/invoke/VarHandle" ∧ (parseMethodDescriptor y.desc).map (fun d => d.parameters.length) = some n) (hlen : As.length = n) (hst : st0 = As.reverse ++ .ref b :: rest) (hcat : (rest.map fun v => v.category).sum ≤ 8) (hkc : kc + mc1 ≤ mc) (hks : ks + ms1 ≤ ms) (hdg : decode cc pc = .ok (.invokespecial idx, 3)) (hws : ∀ u : Nat → Nat, wr ++ w1 u = ws' u) (kk : ∀ u : Nat → Nat, ZA κ nL (ws' u) lv (pc + 3) rest (kc + mc1) (ks + ms1)) : ZA κ nL ws lv pc st0 kc ks := by
  obtain ⟨⟨l, D, A, ε⟩, p, e, R, s, m, args, below, meth, c, Q⟩ := κ
  obtain ⟨⟨hx, hb, hml, hown, hts, hfr, hlo, hK, hlk⟩, hmc, hms, hA⟩ := X
  intro H locs ls hP hD hS hl
  have hPc := hP.sub (ws' := w0) isC (by
    have h := congrArg (List.filterMap id) hC
    rw [List.filterMap_map, List.filterMap_map] at h
    simpa using h)
  have hDc := hD.sub (ws' := w0) isC hnC hC
  refine a_run isC isR hC hR hn hdis hP hD hS hA (va_runI (As := As) (rest := rest) ⟨hx, hb, hml, hown, hts⟩ (hM H.size) (cwI n hts (zgoodIn (fun w hw => by rcases List.mem_cons.mp hw with rfl | hw; exact h4; exact hw)) rfl rfl rfl (hts _ h3) (hts _ h1) (hts _ h2) hnm hd1 ⟨show d1 + 1 ≤ R.frames by omega, show 8 + (nL1 + 11) + 40 * d1 ≤ R.locals by omega⟩) ⟨fun a U g mk q => ?_, fun U hU hW => ⟨rfl, by rw [hU], by rw [hU]; exact hPc, va_K.moved hW.alike hK, hDc.weaken (fun _ _ _ _ => trivial), hex U hW⟩⟩ rfl hlen hl.1 hst (lv_room hcat) hdg ⟨by omega, by omega⟩) (fun u H1 locs1 hP1 hD1 hS1 => ?_)
  · obtain ⟨q0, q1, qP, qK, qD, qE⟩ := q
    exact ⟨q0, q1, qP, va_K.moved (u := U) (U := U.calling g mk a) (Vm.Alike.refl U.vm) qK, qD, hbl U g mk a qE⟩
  · have hw := hws u
    rw [hw] at hP1 hD1
    exact kk u H1 locs1 ls hP1 hD1 hS1 hl
theorem a_initN {y : MethodName} {host : String} {cc1 : ByteArray} {nL1 d1 mc1 ms1 idx b n : Nat} {As rest st0 : List Value} {w0 wr : va_W} {w1 : (Nat → Nat) → va_W} {ws' : (Nat → Nat) → va_W} (X : zCA κ own cc nL d mc ms) (hd : d1 + 1 ≤ d) (hM : zIn κ.1.1 κ.1.2.1 κ.1.2.2.2 d1 mc1 ms1 y cc1 nL1 (.ref b :: As) w0 w1 (fun _ => True)) (hN : va_Nw (.methodLinkNest own idx y host) κ.2.2.2.2.1) (isC isR : List Nat) (hC : isC.map (fun i => ws[i]?) = w0.map some) (hR : isR.map (fun i => ws[i]?) = wr.map some) (hnC : va_nd isC = true) (hn : va_nd isR = true) (hdis : ∀ i ∈ isR, i ∉ isC) (h2 : Cond.instanceMethod y ∈ zt) (h3 : Cond.initialized y.cls ∈ zt) (h4 : Cond.code y cc1 nL1 none ∈ zt) (hnm : y.name = "<init>") (hn1 : nL1 ≤ 21)
    (hd1 : y.cls ≠ "java/lang/invoke/MethodHandle" ∧ y.cls ≠ "java/lang/invoke/VarHandle" ∧ (parseMethodDescriptor y.desc).map (fun d => d.parameters.length) = some n) (hlen : As.length = n) (hst : st0 = As.reverse ++ .ref b :: rest) (hcat : (rest.map fun v => v.category).sum ≤ 8) (hkc : kc + mc1 ≤ mc) (hks : ks + ms1 ≤ ms) (hdg : decode cc pc = .ok (.invokespecial idx, 3)) (hws : ∀ u : Nat → Nat, wr ++ w1 u = ws' u) (kk : ∀ u : Nat → Nat, ZA κ nL (ws' u) lv (pc + 3) rest (kc + mc1) (ks + ms1)) : ZA κ nL ws lv pc st0 kc ks := by
  obtain ⟨⟨l, D, A, ε⟩, p, e, R, s, m, args, below, meth, c, Q⟩ := κ
  obtain ⟨⟨hx, hb, hml, hown, hts, hfr, hlo, hK, hlk⟩, hmc, hms, hA⟩ := X
  intro H locs ls hP hD hS hl
  have hPc := hP.sub (ws' := w0) isC (by
    have h := congrArg (List.filterMap id) hC
    rw [List.filterMap_map, List.filterMap_map] at h
    simpa using h)
  have hDc := hD.sub (ws' := w0) isC hnC hC
  refine a_run isC isR hC hR hn hdis hP hD hS hA (va_runIN (As := As) (rest := rest) ⟨hx, hb, hml, hown, hts⟩ (hM H.size) ⟨va_cnB n hts (zgoodIn (fun w hw => by rcases List.mem_cons.mp hw with rfl | hw; exact h4; exact hw)) rfl rfl rfl hN (hts _ h3) hd1 ⟨show d1 + 1 ≤ R.frames by omega, show 8 + (nL1 + 11) + 40 * d1 ≤ R.locals by omega⟩, hnm, hts _ h2⟩ ⟨fun a U g mk q => ?_, fun U hU hW => ⟨rfl, by rw [hU], by rw [hU]; exact hPc, va_K.moved hW.alike hK, hDc.weaken (fun _ _ _ _ => trivial), trivial⟩⟩ rfl hlen hl.1 hst (lv_room hcat) hdg ⟨by omega, by omega⟩) (fun u H1 locs1 hP1 hD1 hS1 => ?_)
  · obtain ⟨q0, q1, qP, qK, qD, qE⟩ := q
    exact ⟨q0, q1, qP, va_K.moved (u := U) (U := U.calling g mk a) (Vm.Alike.refl U.vm) qK, qD, trivial⟩
  · have hw := hws u
    rw [hw] at hP1 hD1
    exact kk u H1 locs1 ls hP1 hD1 hS1 hl
theorem a_putF {a ci k q idx : Nat} {fs : List Value} {C : String} {T : u_T} {N : Nat} {v : Value} {ty : FieldType} {ws' : va_W} {w1 : (Nat → Nat) → va_W} {ex : State → Prop} (X : zCI κ own cc nL d mc ms w1 ex) (he : ws[q]? = some (a, .inr (ci, fs))) (hc : vwCl[ci]? = some (C, T, N)) (hk : k < N) (hin : ∀ w ∈ u_ws C T N, w ∈ zt) (ty0 : Nat → FieldType) (hty : ∀ k, k < N → parseFieldDescriptor (T k).2.2.1 = some (ty0 k)) (hnm : ∀ a, a < N → ∀ b, b < N → a ≠ b → (T a).2.1 ≠ (T b).2.1) (hw : Cond.fieldLink own idx (T k).1 (T k).2.1 (T k).2.2.1 ∈ zt) (hfin : (T k).2.2.2 = true) (hdecl : (T k).1 = own) (hd : parseFieldDescriptor (T k).2.2.1 = some ty) (hn : narrow ty v = v) (hfit : fits ty v = true) (hlen : k < fs.length) (hws : ws.set q (a, .inr (ci, fs.set k v)) = ws') (hdg : decode cc pc = .ok (.putfield idx, 3)) (kk : ZA κ nL ws' lv (pc + 3) st kc ks) : ZA κ nL ws lv pc (v :: .ref a :: st) kc ks := by
  obtain ⟨⟨l, D, A, ε⟩, p, e, R, s, m, args, below, meth, c, Q⟩ := κ
  obtain ⟨⟨⟨hx, hb, hml, hown, hts, hfr, hlo, hK, hlk⟩, hmc, hms, hA⟩, hni, hr, hQ, hex⟩ := X
  subst hws
  exact fun H locs ls hP hD hS hl => va_putF (D := D) (ci := ci) (C := C) (T := T) (N := N) hx hb hts hin ty0 hty hnm hown hK hP hD hS q he hc k hk (hts _ hw) (fun _ h9 => h9) hfin hni hdecl hd hn hfit hlen hdg (fun H1 locs1 hP1 hD1 hS1 => kk H1 locs1 ls hP1 hD1 hS1 hl)
theorem a_ret {w1 : (Nat → Nat) → va_W} {ex : State → Prop} (X : zCI κ own cc nL d mc ms w1 ex) (hdg : decode cc pc = .ok (.return_, 1)) (u : Nat → Nat) (is : List Nat) (hi : is.map (fun i => ws[i]?) = (w1 u).map some) (hnd : va_nd is = true) (hkc : kc = mc) (hks : ks = ms) : ZA κ nL ws lv pc [] kc ks := by
  obtain ⟨⟨l, D, A, ε⟩, p, e, R, s, m, args, below, meth, c, Q⟩ := κ
  obtain ⟨⟨⟨hx, hb, hml, hown, hts, hfr, hlo, hK, hlk⟩, hmc, hms, hA⟩, hni, hr, rfl, hex⟩ := X
  subst hkc hks
  intro H locs ls hP hD hS hl
  have hP2 := hP.sub (ws' := w1 u) is (by
    have h := congrArg (List.filterMap id) hi
    rw [List.filterMap_map, List.filterMap_map] at h
    simpa using h)
  have hD2 := hD.sub (ws' := w1 u) is hnd hi
  exact W.vret hx hb hr (fun t ht hW => ⟨⟨u, rfl, trivial, by rw [ht]; exact hP2, hD2⟩, hS.F ht⟩) hS.2.2 hdg hlk
end ZALL
theorem zIn_of {l : Launch} {D : va_G} {ε : zV} {d mc ms : Nat} {y : MethodName} {cc : ByteArray} {nL : Nat} {av : List Value} {w0 : va_W} {w1 : (Nat → Nat) → va_W} {ex : State → Prop} (hy : plainName y.cls = true) (hnm : y.name = "<init>") (hlen : (lg_sl av).length ≤ nL)
    (B : ∀ κ : zT, κ.1.1 = l → κ.1.2.1 = D → κ.1.2.2.2 = ε → zCI κ y.cls cc nL d mc ms w1 ex → ZA κ nL w0 (lv_args 0 av) 0 [] 0 0) : zIn l D ε d mc ms y cc nL av w0 w1 ex := by
  intro sz
  refine Met.ofW (cc := cc) (maxL := nL) (ret := none) hy rfl ?_
  intro p e s m args below meth c s₁ B1 hml hv
  obtain ⟨rfl, hsz, hP, hK, hD0, hex⟩ := hv
  subst hsz
  have hts : ∀ w ∈ zt, w.before av.toArray s = true := fun w hw => atoms_spec (ws := zws y cc nL none) B1.pre w (List.mem_cons_of_mem _ hw)
  have X : zCI ((l, D, va_A w0 s.heap.size, ε), p, e, (headSpec (zws y cc nL none) { frames := d, cells := mc, slots := ms, locals := 40 * d }).room, s, m, av.toArray, below, meth, c, MQ below (va_Qv (fun _ : Nat → Nat => True) (fun u t => va_P D vwCl (w1 u) t.heap ∧ va_D (va_A w0 s.heap.size) (w1 u)) (va_A w0 s.heap.size)) av.toArray s mc ms (va_A w0 s.heap.size)) y.cls cc nL d mc ms w1 ex :=
    ⟨⟨⟨B1.exec, B1.bytes, hml, findClass_of_methodNamed B1.named, hts, Nat.le_refl _, Nat.le_refl _, hK, B1.notSynchronized⟩, Nat.le_refl _, Nat.le_refl _, fun q h => Or.inr h⟩, (name_of_methodNamed B1.named B1.method).1.trans hnm, B1.returns, rfl, hex⟩
  have hl := lv_entry av (n := nL) hlen
  rw [lg_entry_eq]
  exact B _ rfl rfl rfl X s.heap [] _ hP hD0.self va_S.rf hl
