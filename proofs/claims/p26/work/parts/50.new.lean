/-! A WORLD THAT GROWS: the rows for the constructors -/
def KC (V : EV) (U : State) : Prop := TK V U ∧ va_AO RX1 U
theorem KC.warm {V : EV} {s U : State} (h : KC V s) (hW : s.WarmedH U.vm) : KC V U := ⟨h.1.warm hW, va_AO.moved hW.alike h.2⟩
def OC (V : EV) (X : CX) (own : String) (cc : ByteArray) (nL : Nat) (R : Room) : Prop := match X with
  | (p, l, e, R', s, m, args, below, meth, c, A, kc, ks, Q) => R' = R ∧ p.tables.exec = Jvm.exec ∧ c.code = cc ∧ c.maxLocals = nL ∧ s.vm.findClass own = some m.cls ∧ (∀ w ∈ AW, w.before args s = true) ∧ KC V s ∧ (∀ q, s.heap.size ≤ q → A q)
def GC (V : EV) (X : CX) (ws : va_W) (kk nn : Nat) (pc : Nat) (L : List (Option Value)) (st : List Value) : Prop := match X with
  | (p, l, e, R, s, m, args, below, meth, c, A, kc, ks, Q) => ∀ (H : Heap) (locs : List Loc) (ls : Array Slot), va_P V.1 clv ws H → va_D A ws → va_S A s.heap H locs → lh ls L → W p l e R s m args below meth c H locs kk nn Q (F0 m pc ls st)

theorem n_iconst {V : EV} {X : CX} {own : String} {cc : ByteArray} {nL : Nat} {R : Room} (C : OC V X own cc nL R) {ws : va_W} {kk nn : Nat} {pc pc' : Nat} {L : List (Option Value)} {st : List Value} {n : Int} {v : Int32} (d : decode cc pc = .ok (.iconst n, 1)) (hv : Int32.ofInt n = v) (hp : pc + 1 = pc') (k : GC V X ws kk nn pc' L (.int v :: st)) : GC V X ws kk nn pc L (st) := by
  obtain ⟨p, l, e, R', s, m, args, below, meth, c, A, kc, ks, Q⟩ := X
  obtain ⟨rfl, hx, hb, hml, hown, hts, hK, hA⟩ := C
  subst hp
  intro H locs ls hP hD hS hL
  exact lv_iconst hx hb d hv (k H locs ls hP hD hS hL)

theorem n_bipush {V : EV} {X : CX} {own : String} {cc : ByteArray} {nL : Nat} {R : Room} (C : OC V X own cc nL R) {ws : va_W} {kk nn : Nat} {pc pc' : Nat} {L : List (Option Value)} {st : List Value} {n : Int} {v : Int32} (d : decode cc pc = .ok (.bipush n, 2)) (hv : (Int8.ofInt n).toInt32 = v) (hp : pc + 2 = pc') (k : GC V X ws kk nn pc' L (.int v :: st)) : GC V X ws kk nn pc L (st) := by
  obtain ⟨p, l, e, R', s, m, args, below, meth, c, A, kc, ks, Q⟩ := X
  obtain ⟨rfl, hx, hb, hml, hown, hts, hK, hA⟩ := C
  subst hp
  intro H locs ls hP hD hS hL
  exact lv_bipush hx hb d hv (k H locs ls hP hD hS hL)

theorem n_sipush {V : EV} {X : CX} {own : String} {cc : ByteArray} {nL : Nat} {R : Room} (C : OC V X own cc nL R) {ws : va_W} {kk nn : Nat} {pc pc' : Nat} {L : List (Option Value)} {st : List Value} {n : Int} {v : Int32} (d : decode cc pc = .ok (.sipush n, 3)) (hv : (Int16.ofInt n).toInt32 = v) (hp : pc + 3 = pc') (k : GC V X ws kk nn pc' L (.int v :: st)) : GC V X ws kk nn pc L (st) := by
  obtain ⟨p, l, e, R', s, m, args, below, meth, c, A, kc, ks, Q⟩ := X
  obtain ⟨rfl, hx, hb, hml, hown, hts, hK, hA⟩ := C
  subst hp
  intro H locs ls hP hD hS hL
  exact lv_sipush hx hb d hv (k H locs ls hP hD hS hL)

theorem n_iload_n {V : EV} {X : CX} {own : String} {cc : ByteArray} {nL : Nat} {R : Room} (C : OC V X own cc nL R) {ws : va_W} {kk nn : Nat} {pc pc' : Nat} {L : List (Option Value)} {st : List Value} {j : Fin 4} {i : Nat} {x : Int32} (d : decode cc pc = .ok (.iload_n j, 1)) (hi : (j : Nat) = i) (hl : L[i]? = some (some (.int x))) (hp : pc + 1 = pc') (k : GC V X ws kk nn pc' L (.int x :: st)) : GC V X ws kk nn pc L (st) := by
  obtain ⟨p, l, e, R', s, m, args, below, meth, c, A, kc, ks, Q⟩ := X
  obtain ⟨rfl, hx, hb, hml, hown, hts, hK, hA⟩ := C
  subst hp
  intro H locs ls hP hD hS hL
  exact lv_iload_n hx hb d hi (hL.2.2 i _ hl).1 (k H locs ls hP hD hS hL)

theorem n_aload_n {V : EV} {X : CX} {own : String} {cc : ByteArray} {nL : Nat} {R : Room} (C : OC V X own cc nL R) {ws : va_W} {kk nn : Nat} {pc pc' : Nat} {L : List (Option Value)} {st : List Value} {j : Fin 4} {i : Nat} {x : Nat} (d : decode cc pc = .ok (.aload_n j, 1)) (hi : (j : Nat) = i) (hl : L[i]? = some (some (.ref x))) (hp : pc + 1 = pc') (k : GC V X ws kk nn pc' L (.ref x :: st)) : GC V X ws kk nn pc L (st) := by
  obtain ⟨p, l, e, R', s, m, args, below, meth, c, A, kc, ks, Q⟩ := X
  obtain ⟨rfl, hx, hb, hml, hown, hts, hK, hA⟩ := C
  subst hp
  intro H locs ls hP hD hS hL
  exact lv_aload_n hx hb d hi (hL.2.2 i _ hl).1 (k H locs ls hP hD hS hL)

theorem n_istore_n {V : EV} {X : CX} {own : String} {cc : ByteArray} {nL : Nat} {R : Room} (C : OC V X own cc nL R) {ws : va_W} {kk nn : Nat} {pc pc' : Nat} {L : List (Option Value)} {st : List Value} {j : Fin 4} {i : Nat} {x : Int32} {L' : List (Option Value)} (d : decode cc pc = .ok (.istore_n j, 1)) (hj : (j : Nat) = i) (hi : i < L.length) (hl : L.set i (some (.int x)) = L') (hp : pc + 1 = pc') (k : GC V X ws kk nn pc' L' st) : GC V X ws kk nn pc L (.int x :: st) := by
  obtain ⟨p, l, e, R', s, m, args, below, meth, c, A, kc, ks, Q⟩ := X
  obtain ⟨rfl, hx, hb, hml, hown, hts, hK, hA⟩ := C
  subst hp
  intro H locs ls hP hD hS hL
  subst hj
  obtain ⟨ls', e1, h1⟩ := lh_store (v := .int x) hL hi rfl
  intro T hT X
  obtain ⟨t, a, b⟩ := k H locs ls' hP hD hS (hl ▸ h1) T hT X
  refine ⟨t, ?_, b⟩
  jvm_step X.here [X.here.top, ↓top_set X.here.top, hx, hb, d, e1, Value.isRef]
  exact a

theorem n_astore_n {V : EV} {X : CX} {own : String} {cc : ByteArray} {nL : Nat} {R : Room} (C : OC V X own cc nL R) {ws : va_W} {kk nn : Nat} {pc pc' : Nat} {L : List (Option Value)} {st : List Value} {j : Fin 4} {i : Nat} {x : Nat} {L' : List (Option Value)} (d : decode cc pc = .ok (.astore_n j, 1)) (hj : (j : Nat) = i) (hi : i < L.length) (hl : L.set i (some (.ref x)) = L') (hp : pc + 1 = pc') (k : GC V X ws kk nn pc' L' st) : GC V X ws kk nn pc L (.ref x :: st) := by
  obtain ⟨p, l, e, R', s, m, args, below, meth, c, A, kc, ks, Q⟩ := X
  obtain ⟨rfl, hx, hb, hml, hown, hts, hK, hA⟩ := C
  subst hp
  intro H locs ls hP hD hS hL
  subst hj
  obtain ⟨ls', e1, h1⟩ := lh_store (v := .ref x) hL hi rfl
  intro T hT X
  obtain ⟨t, a, b⟩ := k H locs ls' hP hD hS (hl ▸ h1) T hT X
  refine ⟨t, ?_, b⟩
  jvm_step X.here [X.here.top, ↓top_set X.here.top, hx, hb, d, e1, Value.isRef]
  exact a

theorem n_iinc {V : EV} {X : CX} {own : String} {cc : ByteArray} {nL : Nat} {R : Room} (C : OC V X own cc nL R) {ws : va_W} {kk nn : Nat} {pc pc' : Nat} {L : List (Option Value)} {st : List Value} {i : Nat} {n : Int} {x v : Int32} {L' : List (Option Value)} (d : decode cc pc = .ok (.iinc i n, 3)) (hv : x + Int32.ofInt n = v) (hx0 : L[i]? = some (some (.int x))) (hi : i < L.length) (hl : L.set i (some (.int v)) = L') (hp : pc + 3 = pc') (k : GC V X ws kk nn pc' L' st) : GC V X ws kk nn pc L (st) := by
  obtain ⟨p, l, e, R', s, m, args, below, meth, c, A, kc, ks, Q⟩ := X
  obtain ⟨rfl, hx, hb, hml, hown, hts, hK, hA⟩ := C
  subst hp
  intro H locs ls hP hD hS hL
  subst hv
  obtain ⟨ls', e1, h1⟩ := lh_store (v := .int (x + Int32.ofInt n)) hL hi rfl
  have hg := (hL.2.2 i _ hx0).1
  intro T hT X
  obtain ⟨t, a, b⟩ := k H locs ls' hP hD hS (hl ▸ h1) T hT X
  refine ⟨t, ?_, b⟩
  jvm_step X.here [X.here.top, ↓top_set X.here.top, hx, hb, d, hg, e1]
  exact a

theorem n_dup {V : EV} {X : CX} {own : String} {cc : ByteArray} {nL : Nat} {R : Room} (C : OC V X own cc nL R) {ws : va_W} {kk nn : Nat} {pc pc' : Nat} {L : List (Option Value)} {st : List Value} {v : Value} (d : decode cc pc = .ok (.dup, 1)) (hv : v.category = 1) (hp : pc + 1 = pc') (k : GC V X ws kk nn pc' L (v :: v :: st)) : GC V X ws kk nn pc L (v :: st) := by
  obtain ⟨p, l, e, R', s, m, args, below, meth, c, A, kc, ks, Q⟩ := X
  obtain ⟨rfl, hx, hb, hml, hown, hts, hK, hA⟩ := C
  subst hp
  intro H locs ls hP hD hS hL
  exact lv_dup hx hb d hv (k H locs ls hP hD hS hL)

theorem n_goto {V : EV} {X : CX} {own : String} {cc : ByteArray} {nL : Nat} {R : Room} (C : OC V X own cc nL R) {ws : va_W} {kk nn : Nat} {pc pc' : Nat} {L : List (Option Value)} {st : List Value} {off : Int} (d : decode cc pc = .ok (.goto off, 3)) (ht : (pc : Int) + off = (pc' : Int)) (k : GC V X ws kk nn pc' L st) : GC V X ws kk nn pc L st := by
  obtain ⟨p, l, e, R', s, m, args, below, meth, c, A, kc, ks, Q⟩ := X
  obtain ⟨rfl, hx, hb, hml, hown, hts, hK, hA⟩ := C
  intro H locs ls hP hD hS hL
  exact lv_goto hx hb d ht (k H locs ls hP hD hS hL)

theorem n_icmp_ge {V : EV} {X : CX} {own : String} {cc : ByteArray} {nL : Nat} {R : Room} (C : OC V X own cc nL R) {ws : va_W} {kk nn : Nat} {pc pc' : Nat} {L : List (Option Value)} {st : List Value} {tgt : Nat} {off : Int} {x y : Int32} (d : decode cc pc = .ok (.if_icmp .ge off, 3)) (ht : (pc : Int) + off = (tgt : Int)) (hp : pc + 3 = pc') (kt : y ≤ x → GC V X ws kk nn tgt L st) (kf : ¬ y ≤ x → GC V X ws kk nn pc' L st) : GC V X ws kk nn pc L (.int y :: .int x :: st) := by
  obtain ⟨p, l, e, R', s, m, args, below, meth, c, A, kc, ks, Q⟩ := X
  obtain ⟨rfl, hx, hb, hml, hown, hts, hK, hA⟩ := C
  subst hp
  intro H locs ls hP hD hS hL
  exact lv_icmp_ge hx hb d ht (fun q => kt q H locs ls hP hD hS hL) (fun q => kf q H locs ls hP hD hS hL)

theorem n_new {V : EV} {X : CX} {own : String} {cc : ByteArray} {nL : Nat} {R : Room} (C : OC V X own cc nL R) {ws : va_W} {kk nn : Nat} {pc pc' : Nat} {L : List (Option Value)} {st : List Value} {ci N idx : Nat} {Cn : String} {T : u_T} {fs : List Value} (d : decode cc pc = .ok (.new idx, 3)) (ty : Nat → FieldType) (hty : ∀ k, k < N → parseFieldDescriptor (T k).2.2.1 = some (ty k)) (hin : ∀ w ∈ u_ws Cn T N, w ∈ AW) (cl : Cond.classLink own idx Cn ∈ AW) (ins : Cond.instantiable Cn N ∈ AW) (ini : Cond.initialized Cn ∈ AW) (hc : clv[ci]? = some (Cn, T, N)) (hfs : ∀ j, j < N → defaultValue (ty j) = vp_V fs j) (h1 : kk + 1 ≤ R.cells) (h2 : nn + N ≤ R.slots) (hp : pc + 3 = pc') (k : ∀ q, GC V X (ws ++ [(q, .inr (ci, fs))]) (kk + 1) (nn + N) pc' L (.ref q :: st)) : GC V X ws kk nn pc L st := by
  obtain ⟨p, l, e, R', s, m, args, below, meth, c, A, kc, ks, Q⟩ := X
  obtain ⟨rfl, hx, hb, hml, hown, hts, hK, hA⟩ := C
  subst hp
  intro H locs ls hP hD hS hL
  exact va_new hx hb hts hin ty hty hown (hts _ cl) (hts _ ins) (hts _ ini) hK.1.1 hP hD hS hA hc hfs h1 h2 d (fun q H1 hP hD hS => k q H1 locs ls hP hD hS hL)

theorem n_newa_int {V : EV} {X : CX} {own : String} {cc : ByteArray} {nL : Nat} {R : Room} (C : OC V X own cc nL R) {ws : va_W} {kk nn : Nat} {pc pc' : Nat} {L : List (Option Value)} {st : List Value} {n : Int32} {N' : Nat} (d : decode cc pc = .ok (.newarray .int, 2)) (ac : Cond.arrayClass .int ∈ AW) (hn : ¬ n < 0) (hN : n.toNatClampNeg = N') (hN2 : N' ≤ 2000) (h1 : kk + 1 ≤ R.cells) (h2 : nn + N' ≤ R.slots) (hp : pc + 2 = pc') (k : ∀ q, GC V X (ws ++ [(q, .inl (V.2.1.1, N', .inl (fun _ => 0)))]) (kk + 1) (nn + N') pc' L (.ref q :: st)) : GC V X ws kk nn pc L (.int n :: st) := by
  obtain ⟨p, l, e, R', s, m, args, below, meth, c, A, kc, ks, Q⟩ := X
  obtain ⟨rfl, hx, hb, hml, hown, hts, hK, hA⟩ := C
  subst hp
  intro H locs ls hP hD hS hL
  refine va_newa (atype := .int) (ty := .int) (a0 := (N', .inl (fun _ => 0))) hx hb (hts _ ac) rfl hK.1.1 hP hD hS hA (fun _ => rfl) hn hN (Nat.le_trans (Nat.mul_le_mul_right _ hN2) (by decide)) h1 h2 d (fun q cA H1 hK1 hP hD hS => ?_)
  have e1 : s.vm.findClass ("[" ++ (FieldType.int).toString) = some cA := (hK1.2 4 (cA, .int) rfl).2
  have e2 : s.vm.findClass ("[" ++ (FieldType.int).toString) = some V.2.1.1 := (hK.1.1.2 0 (V.2.1.1, .int) rfl).2
  have e3 : V.2.1.1 = cA := by rw [e1] at e2; exact (Option.some.inj e2).symm
  subst e3
  exact k q H1 locs ls hP hD hS hL

theorem n_newa_boolean {V : EV} {X : CX} {own : String} {cc : ByteArray} {nL : Nat} {R : Room} (C : OC V X own cc nL R) {ws : va_W} {kk nn : Nat} {pc pc' : Nat} {L : List (Option Value)} {st : List Value} {n : Int32} {N' : Nat} (d : decode cc pc = .ok (.newarray .boolean, 2)) (ac : Cond.arrayClass .boolean ∈ AW) (hn : ¬ n < 0) (hN : n.toNatClampNeg = N') (hN2 : N' ≤ 2000) (h1 : kk + 1 ≤ R.cells) (h2 : nn + N' ≤ R.slots) (hp : pc + 2 = pc') (k : ∀ q, GC V X (ws ++ [(q, .inl (V.2.1.2.1, N', .inl (fun _ => 0)))]) (kk + 1) (nn + N') pc' L (.ref q :: st)) : GC V X ws kk nn pc L (.int n :: st) := by
  obtain ⟨p, l, e, R', s, m, args, below, meth, c, A, kc, ks, Q⟩ := X
  obtain ⟨rfl, hx, hb, hml, hown, hts, hK, hA⟩ := C
  subst hp
  intro H locs ls hP hD hS hL
  refine va_newa (atype := .boolean) (ty := .boolean) (a0 := (N', .inl (fun _ => 0))) hx hb (hts _ ac) rfl hK.1.1 hP hD hS hA (fun _ => rfl) hn hN (Nat.le_trans (Nat.mul_le_mul_right _ hN2) (by decide)) h1 h2 d (fun q cA H1 hK1 hP hD hS => ?_)
  have e1 : s.vm.findClass ("[" ++ (FieldType.boolean).toString) = some cA := (hK1.2 4 (cA, .boolean) rfl).2
  have e2 : s.vm.findClass ("[" ++ (FieldType.boolean).toString) = some V.2.1.2.1 := (hK.1.1.2 1 (V.2.1.2.1, .boolean) rfl).2
  have e3 : V.2.1.2.1 = cA := by rw [e1] at e2; exact (Option.some.inj e2).symm
  subst e3
  exact k q H1 locs ls hP hD hS hL

theorem n_newa_char {V : EV} {X : CX} {own : String} {cc : ByteArray} {nL : Nat} {R : Room} (C : OC V X own cc nL R) {ws : va_W} {kk nn : Nat} {pc pc' : Nat} {L : List (Option Value)} {st : List Value} {n : Int32} {N' : Nat} (d : decode cc pc = .ok (.newarray .char, 2)) (ac : Cond.arrayClass .char ∈ AW) (hn : ¬ n < 0) (hN : n.toNatClampNeg = N') (hN2 : N' ≤ 2000) (h1 : kk + 1 ≤ R.cells) (h2 : nn + N' ≤ R.slots) (hp : pc + 2 = pc') (k : ∀ q, GC V X (ws ++ [(q, .inl (V.2.1.2.2.1, N', .inl (fun _ => 0)))]) (kk + 1) (nn + N') pc' L (.ref q :: st)) : GC V X ws kk nn pc L (.int n :: st) := by
  obtain ⟨p, l, e, R', s, m, args, below, meth, c, A, kc, ks, Q⟩ := X
  obtain ⟨rfl, hx, hb, hml, hown, hts, hK, hA⟩ := C
  subst hp
  intro H locs ls hP hD hS hL
  refine va_newa (atype := .char) (ty := .char) (a0 := (N', .inl (fun _ => 0))) hx hb (hts _ ac) rfl hK.1.1 hP hD hS hA (fun _ => rfl) hn hN (Nat.le_trans (Nat.mul_le_mul_right _ hN2) (by decide)) h1 h2 d (fun q cA H1 hK1 hP hD hS => ?_)
  have e1 : s.vm.findClass ("[" ++ (FieldType.char).toString) = some cA := (hK1.2 4 (cA, .char) rfl).2
  have e2 : s.vm.findClass ("[" ++ (FieldType.char).toString) = some V.2.1.2.2.1 := (hK.1.1.2 2 (V.2.1.2.2.1, .char) rfl).2
  have e3 : V.2.1.2.2.1 = cA := by rw [e1] at e2; exact (Option.some.inj e2).symm
  subst e3
  exact k q H1 locs ls hP hD hS hL

theorem n_newq {V : EV} {X : CX} {own : String} {cc : ByteArray} {nL : Nat} {R : Room} (C : OC V X own cc nL R) {ws : va_W} {kk nn : Nat} {pc pc' : Nat} {L : List (Option Value)} {st : List Value} {idx : Nat} {n : Int32} {N' : Nat} (d : decode cc pc = .ok (.anewarray idx, 3)) (cl : Cond.classLink own idx RX1 ∈ AW) (hn : ¬ n < 0) (hN : n.toNatClampNeg = N') (hN2 : N' ≤ 2000) (h1 : kk + 1 ≤ R.cells) (h2 : nn + N' ≤ R.slots) (hp : pc + 3 = pc') (k : ∀ q, GC V X (ws ++ [(q, .inl (V.2.1.2.2.2, N', .inr (.inr (.inr (.inr (fun _ => none))))))]) (kk + 1) (nn + N') pc' L (.ref q :: st)) : GC V X ws kk nn pc L (.int n :: st) := by
  obtain ⟨p, l, e, R', s, m, args, below, meth, c, A, kc, ks, Q⟩ := X
  obtain ⟨rfl, hx, hb, hml, hown, hts, hK, hA⟩ := C
  subst hp
  intro H locs ls hP hD hS hL
  refine va_newq hx hb hown (hts _ cl) hK.2 hK.1.1 hP hD hS hA hn hN (Nat.le_trans (Nat.mul_le_mul_right _ hN2) (by decide)) h1 h2 d (fun q cA H1 hK1 hP hD hS => ?_)
  obtain ⟨-, -, -, -, -, e1⟩ : va_RA s cA (.object RX1) := (hK1.2 4 (cA, .object RX1) rfl).2
  obtain ⟨-, -, -, -, -, e2⟩ : va_RA s V.2.1.2.2.2 (.object RX1) := (hK.1.1.2 3 (V.2.1.2.2.2, .object RX1) rfl).2
  have e3 : V.2.1.2.2.2 = cA := by rw [e1] at e2; exact (Option.some.inj e2).symm
  subst e3
  exact k q H1 locs ls hP hD hS hL

theorem n_get {V : EV} {X : CX} {own : String} {cc : ByteArray} {nL : Nat} {R : Room} (C : OC V X own cc nL R) {ws : va_W} {kk nn : Nat} {pc pc' : Nat} {L : List (Option Value)} {st : List Value} {q0 ci j idx N a : Nat} {Cn ref : String} {T : u_T} {fs : List Value} {v : Value} (d : decode cc pc = .ok (.getfield idx, 3)) (he : ws[q0]? = some (a, .inr (ci, fs))) (hc : clv[ci]? = some (Cn, T, N)) (hk : j < N) (hw : Cond.fieldLink own idx ref (T j).2.1 (T j).2.2.1 ∈ AW) (hin : ∀ w ∈ u_ws Cn T N, w ∈ AW) (href : (T j).1 = ref) (hv : fs[j]? = some v) (hp : pc + 3 = pc') (k : GC V X ws kk nn pc' L (v :: st)) : GC V X ws kk nn pc L (.ref a :: st) := by
  obtain ⟨p, l, e, R', s, m, args, below, meth, c, A, kc, ks, Q⟩ := X
  obtain ⟨rfl, hx, hb, hml, hown, hts, hK, hA⟩ := C
  subst hp
  subst href
  intro H locs ls hP hD hS hL
  exact va_get hx hb hts hin hown hK.1.1 hP q0 he hc j hk (hts _ hw) (fun _ h9 => h9) hv d (k H locs ls hP hD hS hL)
theorem n_put {V : EV} {X : CX} {own : String} {cc : ByteArray} {nL : Nat} {R : Room} (C : OC V X own cc nL R) {ws : va_W} {kk nn : Nat} {pc pc' : Nat} {L : List (Option Value)} {st : List Value} {q0 ci j idx N a : Nat} {Cn ref : String} {T : u_T} {fs : List Value} {v : Value} {ty : FieldType} {ws' : va_W} (d : decode cc pc = .ok (.putfield idx, 3)) (ty0 : Nat → FieldType) (he : ws[q0]? = some (a, .inr (ci, fs))) (hc : clv[ci]? = some (Cn, T, N)) (hk : j < N) (hw : Cond.fieldLink own idx ref (T j).2.1 (T j).2.2.1 ∈ AW) (hin : ∀ w ∈ u_ws Cn T N, w ∈ AW) (hty : ∀ k, k < N → parseFieldDescriptor (T k).2.2.1 = some (ty0 k)) (hnm : ∀ a, a < N → ∀ b, b < N → a ≠ b → (T a).2.1 ≠ (T b).2.1) (href : (T j).1 = ref) (hfin : (T j).2.2.2 = false) (hd : parseFieldDescriptor (T j).2.2.1 = some ty) (hn : narrow ty v = v) (hfit : fits ty v = true) (hl : j < fs.length) (hws : ws.set q0 (a, .inr (ci, fs.set j v)) = ws') (hp : pc + 3 = pc') (k : GC V X ws' kk nn pc' L st) : GC V X ws kk nn pc L (v :: .ref a :: st) := by
  obtain ⟨p, l, e, R', s, m, args, below, meth, c, A, kc, ks, Q⟩ := X
  obtain ⟨rfl, hx, hb, hml, hown, hts, hK, hA⟩ := C
  subst hp
  subst href; subst hws
  intro H locs ls hP hD hS hL
  exact va_put hx hb hts hin ty0 hty hnm hown hK.1.1 hP hD hS q0 he hc j hk (hts _ hw) (fun _ h9 => h9) hfin hd hn hfit hl d (fun H1 locs1 hP1 hD1 hS1 => k H1 locs1 ls hP1 hD1 hS1 hL)
theorem n_putF {V : EV} {X : CX} {own : String} {cc : ByteArray} {nL : Nat} {R : Room} (C : OC V X own cc nL R) {ws : va_W} {kk nn : Nat} {pc pc' : Nat} {L : List (Option Value)} {st : List Value} {q0 ci j idx N a : Nat} {Cn ref : String} {T : u_T} {fs : List Value} {v : Value} {ty : FieldType} {ws' : va_W} (hin2 : (X.2.2.2.2.2.2.2.2.1).name = "<init>") (d : decode cc pc = .ok (.putfield idx, 3)) (ty0 : Nat → FieldType) (he : ws[q0]? = some (a, .inr (ci, fs))) (hc : clv[ci]? = some (Cn, T, N)) (hk : j < N) (hw : Cond.fieldLink own idx ref (T j).2.1 (T j).2.2.1 ∈ AW) (hin : ∀ w ∈ u_ws Cn T N, w ∈ AW) (hty : ∀ k, k < N → parseFieldDescriptor (T k).2.2.1 = some (ty0 k)) (hnm : ∀ a, a < N → ∀ b, b < N → a ≠ b → (T a).2.1 ≠ (T b).2.1) (href : (T j).1 = ref) (hfin : (T j).2.2.2 = true) (hdecl : (T j).1 = own) (hd : parseFieldDescriptor (T j).2.2.1 = some ty) (hn : narrow ty v = v) (hfit : fits ty v = true) (hl : j < fs.length) (hws : ws.set q0 (a, .inr (ci, fs.set j v)) = ws') (hp : pc + 3 = pc') (k : GC V X ws' kk nn pc' L st) : GC V X ws kk nn pc L (v :: .ref a :: st) := by
  obtain ⟨p, l, e, R', s, m, args, below, meth, c, A, kc, ks, Q⟩ := X
  obtain ⟨rfl, hx, hb, hml, hown, hts, hK, hA⟩ := C
  subst hp
  subst href; subst hws
  intro H locs ls hP hD hS hL
  exact va_putF hx hb hts hin ty0 hty hnm hown hK.1.1 hP hD hS q0 he hc j hk (hts _ hw) (fun _ h9 => h9) hfin hin2 hdecl hd hn hfit hl d (fun H1 locs1 hP1 hD1 hS1 => k H1 locs1 ls hP1 hD1 hS1 hL)
theorem n_iast {V : EV} {X : CX} {own : String} {cc : ByteArray} {nL : Nat} {R : Room} (C : OC V X own cc nL R) {ws : va_W} {kk nn : Nat} {pc pc' : Nat} {L : List (Option Value)} {st : List Value} {q0 a n : Nat} {f : Nat → Int32} {i x : Int32} {ws' : va_W} (d : decode cc pc = .ok (.iastore, 1)) (he : ws[q0]? = some (a, .inl (V.2.1.1, n, .inl f))) (hin : vp_in i n) (hws : ws.set q0 (a, .inl (V.2.1.1, n, .inl (upd f i.toNatClampNeg x))) = ws') (hp : pc + 1 = pc') (k : GC V X ws' kk nn pc' L st) : GC V X ws kk nn pc L (.int x :: .int i :: .ref a :: st) := by
  obtain ⟨p, l, e, R', s, m, args, below, meth, c, A, kc, ks, Q⟩ := X
  obtain ⟨rfl, hx, hb, hml, hown, hts, hK, hA⟩ := C
  subst hp
  subst hws
  intro H locs ls hP hD hS hL
  exact va_iast hx hb hK.1.1 hP hD hS q0 0 he rfl hin d (fun H1 locs1 hP1 hD1 hS1 => k H1 locs1 ls hP1 hD1 hS1 hL)
theorem n_astq {V : EV} {X : CX} {own : String} {cc : ByteArray} {nL : Nat} {R : Room} (C : OC V X own cc nL R) {ws : va_W} {kk nn : Nat} {pc pc' : Nat} {L : List (Option Value)} {st : List Value} {q0 qk a n v : Nat} {vs : List Value} {f : Nat → Option Nat} {i : Int32} {ws' : va_W} (d : decode cc pc = .ok (.aastore, 1)) (he : ws[q0]? = some (a, .inl (V.2.1.2.2.2, n, .inr (.inr (.inr (.inr f)))))) (hv : ws[qk]? = some (v, .inr (1, vs))) (hin : vp_in i n) (hws : ws.set q0 (a, .inl (V.2.1.2.2.2, n, .inr (.inr (.inr (.inr (va_up f i.toNatClampNeg (some v))))))) = ws') (hp : pc + 1 = pc') (k : GC V X ws' kk nn pc' L st) : GC V X ws kk nn pc L (.ref v :: .int i :: .ref a :: st) := by
  obtain ⟨p, l, e, R', s, m, args, below, meth, c, A, kc, ks, Q⟩ := X
  obtain ⟨rfl, hx, hb, hml, hown, hts, hK, hA⟩ := C
  subst hp
  subst hws
  intro H locs ls hP hD hS hL
  exact va_astq hx hb hK.1.1 hP hD hS q0 3 qk 1 (r := (RX1, TX1, 17)) he rfl hv rfl hin d (fun H1 locs1 hP1 hD1 hS1 => k H1 locs1 ls hP1 hD1 hS1 hL)
theorem n_obj {V : EV} {X : CX} {own : String} {cc : ByteArray} {nL : Nat} {R : Room} (C : OC V X own cc nL R) {ws : va_W} {kk nn : Nat} {pc pc' : Nat} {L : List (Option Value)} {st : List Value} {idx a : Nat} (d : decode cc pc = .ok (.invokespecial idx, 3)) (ml : Cond.methodLink own idx objectInit ∈ AW) (hr : 1 ≤ R.frames ∧ 20 ≤ R.locals) (hL0 : L.length = nL) (hst : st = []) (hp : pc + 3 = pc') (k : GC V X ws kk nn pc' L st) : GC V X ws kk nn pc L (.ref a :: st) := by
  obtain ⟨p, l, e, R', s, m, args, below, meth, c, A, kc, ks, Q⟩ := X
  obtain ⟨rfl, hx, hb, hml, hown, hts, hK, hA⟩ := C
  subst hp
  subst hst
  intro H locs ls hP hD hS hL
  refine W.objInit hx hb hown (hts _ ml) (hts _ im_objectInit) (hts _ co_objectInit) rfl (by rw [hml, hL.1, hL0]) rfl d hr.1 (Nat.le_trans (Nat.le_of_ble_eq_true rfl : _ ≤ 20) hr.2) ?_
  exact W.eq (g2 := F0 m (pc + 3) ls []) rfl (k H locs ls hP hD hS hL)
/-- the contract of a constructor: its cells before, its cells behind -/
def cMet (V : EV) (l : Launch) (y : MethodName) (bytes : ByteArray) (maxL : Nat) (R : Room) (a : Nat) (av : List Value) (wc : va_W) (sz : Nat) (P : va_W → Prop) (mc ms : Nat) : Prop :=
  Met l y (.code y bytes maxL none :: AW) R (va_Pc (.ref a :: av) (fun U => U.heap.size = sz ∧ va_P V.1 clv wc U.heap ∧ KC V U ∧ va_D (fun _ => True) wc)) (va_Qv P (fun w1 t => va_P V.1 clv w1 t.heap ∧ va_D (va_A wc sz) w1) (va_A wc sz)) mc ms (va_A wc sz)

theorem rng_map (w1 w2 : va_W) : ((List.range w2.length).map (fun i => w1.length + i)).map (fun i => (w1 ++ w2)[i]?) = w2.map some := by
  apply List.ext_getElem?
  intro i
  simp only [List.map_map, List.getElem?_map]
  by_cases h : i < w2.length
  · rw [List.getElem?_range h]
    simp [h]
  · rw [List.getElem?_eq_none (by simpa using h), List.getElem?_eq_none (by simpa using h)]
    rfl
theorem rng_map0 (w1 w2 : va_W) : (List.range w1.length).map (fun i => (w1 ++ w2)[i]?) = w1.map some := by
  apply List.ext_getElem?
  intro i
  simp only [List.getElem?_map]
  by_cases h : i < w1.length
  · rw [List.getElem?_range h]
    simp [h, List.getElem?_append_left h]
  · rw [List.getElem?_eq_none (by simpa using h), List.getElem?_eq_none (by simpa using h)]
    rfl
theorem va_nd_of : ∀ (l : List Nat), l.Nodup → va_nd l = true
  | [], _ => rfl
  | a :: l, h => by
    have h2 := List.nodup_cons.mp h
    simp [va_nd, h2.1, va_nd_of l h2.2]
theorem n_init {V : EV} {X : CX} {own : String} {cc : ByteArray} {nL : Nat} {R : Room} (C : OC V X own cc nL R) {ws : va_W} {kk nn : Nat} {pc pc' : Nat} {L : List (Option Value)} {st : List Value} {y : MethodName} {bytes : ByteArray} {maxL idx a n : Nat} {av : List Value} {R2 : Room} {wr wc : va_W} {P : va_W → Prop} {mc ms : Nat} {st0 : List Value} (d : decode cc pc = .ok (.invokespecial idx, 3)) (hM : ∀ l sz, cMet V l y bytes maxL R2 a av wc sz P mc ms) (hws : ws = wr ++ wc) (ml : Cond.methodLink own idx y ∈ AW) (im : Cond.instanceMethod y ∈ AW) (ini : Cond.initialized y.cls ∈ AW) (co : Cond.code y bytes maxL none ∈ AW) (hin : y.name = "<init>") (hd : y.cls ≠ "java/lang/invoke/MethodHandle" ∧ y.cls ≠ "java/lang/invoke/VarHandle" ∧ (parseMethodDescriptor y.desc).map (fun d => d.parameters.length) = some n) (hn : av.length = n) (h0 : R2.cells = mc ∧ R2.slots = ms) (hr : R2.frames + 1 ≤ R.frames ∧ 8 + (maxL + 11) + R2.locals ≤ R.locals) (hst : (st.map fun v => v.category).sum ≤ 8) (hL0 : L.length = nL) (h1 : kk + mc ≤ R.cells) (h2 : nn + ms ≤ R.slots) (hp : pc + 3 = pc') (hst0 : st0 = av.reverse ++ .ref a :: st) (k : ∀ w1, P w1 → GC V X (wr ++ w1) (kk + mc) (nn + ms) pc' L st) : GC V X ws kk nn pc L st0 := by
  obtain ⟨p, l, e, R', s, m, args, below, meth, c, A, kc, ks, Q⟩ := X
  obtain ⟨rfl, hx, hb, hml, hown, hts, hK, hA⟩ := C
  subst hp
  subst hws; subst hst0
  intro H locs ls hP hD hS hL
  have hPc : va_P V.1 clv wc H := fun i q hi => hP (wr.length + i) q (by rw [List.getElem?_append_right (by omega), Nat.add_sub_cancel_left]; exact hi)
  have hDc : va_D A wc := hD.sub _ (va_nd_of _ (List.pairwise_map.mpr (List.Pairwise.imp (fun h => by omega) List.nodup_range))) (rng_map wr wc)
  have hFc := va_free (wc := wc) hD hS hA _ (rng_map wr wc)
  have cw := cwI (R := R') (Ts := AW) (ws' := AW) (rm := R2) (mc := mc) (ms := ms) n hts (aw_goodIn co) rfl h0.1 h0.2 (hts _ ini) (hts _ ml) (hts _ im) hin hd hr
  refine va_callv (va_runI (As := av) (rest := st) ⟨hx, hb, hml, hown, hts⟩ (hM l H.size) cw ⟨fun a U g mk q => by obtain ⟨q0, q1, qP, qK, qD⟩ := q; exact ⟨q0, q1, qP, ⟨qK.1.same rfl, va_AO.moved (u := U) (U := U.calling g mk a) (Vm.Alike.refl U.vm) qK.2⟩, qD⟩, fun U hU hW => ⟨rfl, by rw [hU], by rw [hU]; exact hPc, hK.warm hW, hDc.weaken (fun _ _ _ _ => trivial)⟩⟩ rfl hn (hL.1.trans hL0) rfl (lv_room hst) d ⟨h1, h2⟩) hS (fun q _ h => hFc q h) hFc (fun w1 t H1 locs1 ht hvm hw hB hz hk1 hS1 => ?_)
  obtain ⟨hP1, hD1⟩ := hB
  rw [ht] at hP1
  obtain ⟨hP2, hD2⟩ := va_join (wr := wr) (w1 := w1) hP hD _ (List.range wr.length) (rng_map wr wc) (rng_map0 wr wc) (va_nd_of _ List.nodup_range) (fun i hi hj => by
    obtain ⟨j, -, e⟩ := List.mem_map.mp hj
    have := List.mem_range.mp hi
    omega) hk1 hFc hP1 hD1
  exact k w1 hw H1 locs1 ls hP2 hD2 hS1 hL

def RN (V : EV) (X : CX) (wc : va_W) (P : va_W → Prop) (mc ms : Nat) : Prop := match X with
  | (p, l, e, R', s, m, args, below, meth, c, A, kc, ks, Q) => meth.sig.returnType = none ∧ meth.locks = false ∧ A = va_A wc s.heap.size ∧ Q = MQ below (va_Qv P (fun w1 t => va_P V.1 clv w1 t.heap ∧ va_D (va_A wc s.heap.size) w1) (va_A wc s.heap.size)) args s mc ms (va_A wc s.heap.size)
theorem met_n {y : MethodName} {cc : ByteArray} {nL : Nat} {R : Room} {own : String} (V : EV) {a : Nat} {av : List Value} {wc : va_W} {P : va_W → Prop} {mc ms : Nat} (hy : plainName y.cls = true) (hown : y.cls = own) (hin : y.name = "<init>") (hc : ∀ v ∈ Value.ref a :: av, v.category = 1) (hn : (Value.ref a :: av).length ≤ nL) (k : ∀ X, OC V X own cc nL R → (X.2.2.2.2.2.2.2.2.1).name = "<init>" → RN V X wc P mc ms → GC V X wc 0 0 0 ((Value.ref a :: av).map some ++ List.replicate (nL - (Value.ref a :: av).length) none) []) (l : Launch) (sz : Nat) : cMet V l y cc nL R a av wc sz P mc ms := by
  unfold cMet
  refine Met.ofW (cc := cc) (maxL := nL) (ret := none) hy rfl ?_
  intro p e s m args below meth c s₁ B hml hv
  obtain ⟨rfl, rfl, hP, hK, hD⟩ := hv
  have hts := atoms_spec (ws := .code y cc nL none :: AW) B.pre
  have hf : s.vm.findClass own = some m.cls := by rw [← hown]; exact findClass_of_methodNamed B.named
  have hname : meth.name = "<init>" := (name_of_methodNamed B.named B.method).1.trans hin
  have hl := lh_entry (Value.ref a :: av) hc hn
  rw [lg_entry_eq]
  have hk := k (p, l, e, R, s, m, (Value.ref a :: av).toArray, below, meth, c, va_A wc s.heap.size, 0, 0, MQ below (va_Qv P (fun w1 t => va_P V.1 clv w1 t.heap ∧ va_D (va_A wc s.heap.size) w1) (va_A wc s.heap.size)) (Value.ref a :: av).toArray s mc ms (va_A wc s.heap.size)) ⟨rfl, B.exec, B.bytes, hml, hf, fun w hw => hts w (List.mem_cons_of_mem _ hw), hK, fun q h => Or.inr h⟩ hname ⟨B.returns, B.notSynchronized, rfl, rfl⟩
  exact hk s.heap [] _ hP hD.self va_S.rf hl
theorem n_vret {V : EV} {X : CX} {own : String} {cc : ByteArray} {nL : Nat} {R : Room} (C : OC V X own cc nL R) {ws wc : va_W} {kk nn pc : Nat} {L : List (Option Value)} {P : va_W → Prop} {mc ms : Nat} (d : decode cc pc = .ok (.return_, 1)) (D : RN V X wc P mc ms) (hk : kk = mc) (hn : nn = ms) (h : P ws) : GC V X ws kk nn pc L [] := by
  obtain ⟨p, l, e, R', s, m, args, below, meth, c, A, kc, ks, Q⟩ := X
  obtain ⟨rfl, hx, hb, hml, hown, hts, hK, hA⟩ := C
  obtain ⟨hr, hlocks, rfl, rfl⟩ := D
  subst hk; subst hn
  intro H locs ls hP hD hS hL
  exact W.vret hx hb hr (fun t ht hW => ⟨⟨ws, rfl, h, by rw [ht]; exact hP, hD⟩, hS.F ht⟩) hS.2.2 d hlocks

theorem n_swap {V : EV} {X : CX} {w1 w2 : va_W} {kk nn pc : Nat} {L : List (Option Value)} {st : List Value} (k : GC V X (w2 ++ w1) kk nn pc L st) : GC V X (w1 ++ w2) kk nn pc L st := by
  obtain ⟨p, l, e, R', s, m, args, below, meth, c, A, kc, ks, Q⟩ := X
  intro H locs ls hP hD hS hL
  have at1 : ∀ (i : Nat) (q : Nat × va_E), (w2 ++ w1)[i]? = some q → ∃ j, (w1 ++ w2)[j]? = some q ∧ (j = if i < w2.length then w1.length + i else i - w2.length) ∧ i < w2.length + w1.length := by
    intro i q hq
    have hlt := (List.getElem?_eq_some_iff.mp hq).1
    rw [List.length_append] at hlt
    by_cases h : i < w2.length
    · rw [List.getElem?_append_left h] at hq
      exact ⟨w1.length + i, by rw [List.getElem?_append_right (by omega), Nat.add_sub_cancel_left]; exact hq, by rw [if_pos h], hlt⟩
    · rw [List.getElem?_append_right (by omega)] at hq
      exact ⟨i - w2.length, by rw [List.getElem?_append_left (by omega)]; exact hq, by rw [if_neg h], hlt⟩
  refine k H locs ls (fun i q hq => ?_) ⟨fun i j p q hi hj e => ?_, fun i q hq => ?_⟩ hS hL
  · obtain ⟨j, hj, -⟩ := at1 i q hq
    exact hP j q hj
  · obtain ⟨i', hi', ei, li⟩ := at1 i p hi
    obtain ⟨j', hj', ej, lj⟩ := at1 j q hj
    have := hD.1 i' j' p q hi' hj' e
    rw [ei, ej] at this
    by_cases a : i < w2.length <;> by_cases b : j < w2.length <;> simp only [a, b, if_true, if_false] at this <;> omega
  · obtain ⟨j, hj, -⟩ := at1 i q hq
    exact hD.2 j q hj
theorem n_refs {V : EV} {X : CX} {ws : va_W} {kk nn pc q0 a n : Nat} {cA : ClassId} {f f2 : Nat → Option Nat} {L : List (Option Value)} {st : List Value} {ws' : va_W} (he : ws[q0]? = some (a, .inl (cA, n, .inr (.inr (.inr (.inr f)))))) (hf : ∀ i, i < n → f i = f2 i) (hws : ws.set q0 (a, .inl (cA, n, .inr (.inr (.inr (.inr f2))))) = ws') (k : GC V X ws' kk nn pc L st) : GC V X ws kk nn pc L st := by
  obtain ⟨p, l, e, R', s, m, args, below, meth, c, A, kc, ks, Q⟩ := X
  subst hws
  intro H locs ls hP hD hS hL
  refine k H locs ls (fun i q hq => ?_) (hD.set he) hS hL
  by_cases h : i = q0
  · subst h
    have hlt := (List.getElem?_eq_some_iff.mp he).1
    rw [List.getElem?_set_self hlt] at hq
    cases hq
    have h1 : H[a]? = some (vp_cell cA (n, .inr (.inr (.inr (.inr f))))) := hP i _ he
    show H[a]? = some (vp_cell cA (n, .inr (.inr (.inr (.inr f2)))))
    rw [h1, vp_cell_q, vp_cell_q]
    congr 1
    unfold arrV
    have e : (Array.ofFn fun j : Fin n => (fun j => va_rf (f j)) ↑j) = (Array.ofFn fun j : Fin n => (fun j => va_rf (f2 j)) ↑j) := congrArg Array.ofFn (funext (fun j => by
      show va_rf (f j) = va_rf (f2 j)
      rw [hf j j.isLt]))
    rw [e]
  · rw [List.getElem?_set_ne (Ne.symm h)] at hq
    exact hP i q hq
/-- the world is whole: from here on in the fixed world's judgement -/
def RG2 (V : EV) (X : CX) (wc : va_W) (P : va_W → Prop) (mc ms : Nat) : Prop := match X with
  | (p, l, e, R', s, m, args, below, meth, c, A, kc, ks, Q) => kc = mc ∧ ks = ms ∧ meth.sig.returnType = none ∧ meth.locks = false ∧ A = va_A wc s.heap.size ∧ Q = MQ below (va_Qv P (fun w1 t => va_P V.1 clv w1 t.heap ∧ va_D (va_A wc s.heap.size) w1) (va_A wc s.heap.size)) args s mc ms (va_A wc s.heap.size)
theorem g_nret {V : EV} {X : CX} {own : String} {cc : ByteArray} {nL : Nat} {R : Room} (C : OK V X own cc nL R) {σ : Mem} {pc : Nat} {L : List (Option Value)} {wc : va_W} {P : va_W → Prop} {mc ms : Nat} (d : decode cc pc = .ok (.return_, 1)) (D : RG2 V X wc P mc ms) (h : P (wsOf V σ)) : GG V X σ pc L [] := by
  obtain ⟨p, l, e, R', s, m, args, below, meth, c, A, kc, ks, Q⟩ := X
  obtain ⟨rfl, hx, hb, hml, hown, hts, hT, hI, hA, hk1, hk2⟩ := C
  obtain ⟨rfl, rfl, hr, hlocks, rfl, rfl⟩ := D
  intro H locs ls hP hS hL
  exact W.vret hx hb hr (fun t ht hW => ⟨⟨wsOf V σ, rfl, h, by rw [ht]; exact hP, ws_D hI hA σ⟩, hS.F ht⟩) hS.2.2 d hlocks
theorem n_toG {V : EV} {X : CX} {own : String} {cc : ByteArray} {nL : Nat} {R : Room} (C : OC V X own cc nL R) {ws wc : va_W} {kk nn pc : Nat} {L : List (Option Value)} {st : List Value} {P : va_W → Prop} {mc ms : Nat} {σ : Mem} (f : Nat → Nat) (ix : List Nat) (hix : ix.map (fun i => ws[i]?) = (wsOf (V.1, V.2.1, f) σ).map some) (hnd : va_nd ix = true) (D : RN V X wc P mc ms) (hk : kk = mc) (hn : nn = ms) (h1 : mc ≤ R.cells ∧ ms ≤ R.slots) (k : ∀ X', OK (V.1, V.2.1, f) X' own cc nL R → RG2 (V.1, V.2.1, f) X' wc P mc ms → GG (V.1, V.2.1, f) X' σ pc L st) : GC V X ws kk nn pc L st := by
  obtain ⟨p, l, e, R', s, m, args, below, meth, c, A, kc, ks, Q⟩ := X
  obtain ⟨rfl, hx, hb, hml, hown, hts, hK, hA⟩ := C
  subst hk; subst hn
  intro H locs ls hP hD hS hL
  have hD2 : va_D A (wsOf (V.1, V.2.1, f) σ) := hD.sub ix hnd hix
  have hP2 : va_P V.1 clv (wsOf (V.1, V.2.1, f) σ) H := by
    intro i q hq
    have h2 : (ix.map (fun i => ws[i]?))[i]? = some (some q) := by rw [hix, List.getElem?_map, hq]; rfl
    rw [List.getElem?_map] at h2
    cases hi : ix[i]? with
    | none => rw [hi] at h2; cases h2
    | some j => rw [hi] at h2; exact hP j q (Option.some.inj h2)
  have hI : INJ (V.1, V.2.1, f) := fun i j hi hj e => hD2.1 i j _ _ (ws_at _ σ hi) (ws_at _ σ hj) e
  obtain ⟨r1, r2, r3, r4⟩ := D
  exact k (p, l, e, R', s, m, args, below, meth, c, A, kk, nn, Q) ⟨rfl, hx, hb, hml, hown, hts, hK.1, hI, fun i hi => hD2.2 i _ (ws_at _ σ hi), h1.1, h1.2⟩ ⟨rfl, rfl, r1, r2, r3, r4⟩ H locs ls hP2 hS hL
