/-! what a method needs and gives, as a statement: a named value, a place that is reached by two roads, loops (the least of all that are closed) -/
def bm {A : Type} (x : A) (f : A → Prop) : Prop := f x
def jn {A : Type} (k : A) (b : A → Prop) : Prop := b k
theorem jn_go {A : Type} {k : A} {b : A → Prop} {G : Prop} (h : jn k b) (R : A → Prop) (h1 : R k) (h2 : ∀ J, R J → b J → G) : G := h2 k h1 h
def lq1 {A : Type} (F : (A → Prop) → A → Prop) (a : A) : Prop := ∀ P : A → Prop, (∀ a, F P a → P a) → P a
def lq2 {A B : Type} (F : (A → B → Prop) → A → B → Prop) (a : A) (b : B) : Prop := ∀ P : A → B → Prop, (∀ a b, F P a b → P a b) → P a b
def lq3 {A B C : Type} (F : (A → B → C → Prop) → A → B → C → Prop) (a : A) (b : B) (c : C) : Prop := ∀ P : A → B → C → Prop, (∀ a b c, F P a b c → P a b c) → P a b c
def lq4 {A B C D : Type} (F : (A → B → C → D → Prop) → A → B → C → D → Prop) (a : A) (b : B) (c : C) (d : D) : Prop := ∀ P : A → B → C → D → Prop, (∀ a b c d, F P a b c d → P a b c d) → P a b c d
theorem g_iconst {V : EV} {X : CX} {own : String} {cc : ByteArray} {nL : Nat} {R : Room} (C : OK V X own cc nL R) {σ : Mem} {pc pc' : Nat} {L : List (Option Value)} {st : List Value} {n : Int} {v : Int32} (d : decode cc pc = .ok (.iconst n, 1)) (hv : Int32.ofInt n = v) (hp : pc + 1 = pc') (k : GG V X σ pc' L (.int v :: st)) : GG V X σ pc L (st) := by
  obtain ⟨p, l, e, R', s, m, args, below, meth, c, A, kc, ks, Q⟩ := X
  obtain ⟨rfl, hx, hb, hml, hown, hts, hT, hI, hA, hk1, hk2⟩ := C
  subst hp
  intro H locs ls hP hS hL
  exact lv_iconst hx hb d hv (k H locs ls hP hS hL)
theorem g_bipush {V : EV} {X : CX} {own : String} {cc : ByteArray} {nL : Nat} {R : Room} (C : OK V X own cc nL R) {σ : Mem} {pc pc' : Nat} {L : List (Option Value)} {st : List Value} {n : Int} {v : Int32} (d : decode cc pc = .ok (.bipush n, 2)) (hv : (Int8.ofInt n).toInt32 = v) (hp : pc + 2 = pc') (k : GG V X σ pc' L (.int v :: st)) : GG V X σ pc L (st) := by
  obtain ⟨p, l, e, R', s, m, args, below, meth, c, A, kc, ks, Q⟩ := X
  obtain ⟨rfl, hx, hb, hml, hown, hts, hT, hI, hA, hk1, hk2⟩ := C
  subst hp
  intro H locs ls hP hS hL
  exact lv_bipush hx hb d hv (k H locs ls hP hS hL)
theorem g_sipush {V : EV} {X : CX} {own : String} {cc : ByteArray} {nL : Nat} {R : Room} (C : OK V X own cc nL R) {σ : Mem} {pc pc' : Nat} {L : List (Option Value)} {st : List Value} {n : Int} {v : Int32} (d : decode cc pc = .ok (.sipush n, 3)) (hv : (Int16.ofInt n).toInt32 = v) (hp : pc + 3 = pc') (k : GG V X σ pc' L (.int v :: st)) : GG V X σ pc L (st) := by
  obtain ⟨p, l, e, R', s, m, args, below, meth, c, A, kc, ks, Q⟩ := X
  obtain ⟨rfl, hx, hb, hml, hown, hts, hT, hI, hA, hk1, hk2⟩ := C
  subst hp
  intro H locs ls hP hS hL
  exact lv_sipush hx hb d hv (k H locs ls hP hS hL)
theorem g_iload_n {V : EV} {X : CX} {own : String} {cc : ByteArray} {nL : Nat} {R : Room} (C : OK V X own cc nL R) {σ : Mem} {pc pc' : Nat} {L : List (Option Value)} {st : List Value} {j : Fin 4} {i : Nat} {x : Int32} (d : decode cc pc = .ok (.iload_n j, 1)) (hi : (j : Nat) = i) (hl : L[i]? = some (some (.int x))) (hp : pc + 1 = pc') (k : GG V X σ pc' L (.int x :: st)) : GG V X σ pc L (st) := by
  obtain ⟨p, l, e, R', s, m, args, below, meth, c, A, kc, ks, Q⟩ := X
  obtain ⟨rfl, hx, hb, hml, hown, hts, hT, hI, hA, hk1, hk2⟩ := C
  subst hp
  intro H locs ls hP hS hL
  exact lv_iload_n hx hb d hi (hL.2.2 i _ hl).1 (k H locs ls hP hS hL)
theorem g_iload {V : EV} {X : CX} {own : String} {cc : ByteArray} {nL : Nat} {R : Room} (C : OK V X own cc nL R) {σ : Mem} {pc pc' : Nat} {L : List (Option Value)} {st : List Value} {i : Nat} {x : Int32} (d : decode cc pc = .ok (.iload i, 2)) (hl : L[i]? = some (some (.int x))) (hp : pc + 2 = pc') (k : GG V X σ pc' L (.int x :: st)) : GG V X σ pc L (st) := by
  obtain ⟨p, l, e, R', s, m, args, below, meth, c, A, kc, ks, Q⟩ := X
  obtain ⟨rfl, hx, hb, hml, hown, hts, hT, hI, hA, hk1, hk2⟩ := C
  subst hp
  intro H locs ls hP hS hL
  exact lv_iload hx hb d (hL.2.2 i _ hl).1 (k H locs ls hP hS hL)
theorem g_aload_n {V : EV} {X : CX} {own : String} {cc : ByteArray} {nL : Nat} {R : Room} (C : OK V X own cc nL R) {σ : Mem} {pc pc' : Nat} {L : List (Option Value)} {st : List Value} {j : Fin 4} {i : Nat} {x : Nat} (d : decode cc pc = .ok (.aload_n j, 1)) (hi : (j : Nat) = i) (hl : L[i]? = some (some (.ref x))) (hp : pc + 1 = pc') (k : GG V X σ pc' L (.ref x :: st)) : GG V X σ pc L (st) := by
  obtain ⟨p, l, e, R', s, m, args, below, meth, c, A, kc, ks, Q⟩ := X
  obtain ⟨rfl, hx, hb, hml, hown, hts, hT, hI, hA, hk1, hk2⟩ := C
  subst hp
  intro H locs ls hP hS hL
  exact lv_aload_n hx hb d hi (hL.2.2 i _ hl).1 (k H locs ls hP hS hL)
/-! stores into a local: by the machine's own step -/
theorem g_istore_n {V : EV} {X : CX} {own : String} {cc : ByteArray} {nL : Nat} {R : Room} (C : OK V X own cc nL R) {σ : Mem} {pc pc' : Nat} {L : List (Option Value)} {st : List Value} {j : Fin 4} {i : Nat} {x : Int32} {L' : List (Option Value)} (d : decode cc pc = .ok (.istore_n j, 1)) (hj : (j : Nat) = i) (hi : i < L.length) (hl : L.set i (some (.int x)) = L') (hp : pc + 1 = pc') (k : GG V X σ pc' L' st) : GG V X σ pc L (.int x :: st) := by
  obtain ⟨p, l, e, R', s, m, args, below, meth, c, A, kc, ks, Q⟩ := X
  obtain ⟨rfl, hx, hb, hml, hown, hts, hT, hI, hA, hk1, hk2⟩ := C
  subst hp
  intro H locs ls hP hS hL
  subst hj
  obtain ⟨ls', e1, h1⟩ := lh_store (v := .int x) hL hi rfl
  intro T hT X
  obtain ⟨t, a, b⟩ := k H locs ls' hP hS (hl ▸ h1) T hT X
  refine ⟨t, ?_, b⟩
  jvm_step X.here [X.here.top, ↓top_set X.here.top, hx, hb, d, e1, Value.isRef]
  exact a
theorem g_astore_n {V : EV} {X : CX} {own : String} {cc : ByteArray} {nL : Nat} {R : Room} (C : OK V X own cc nL R) {σ : Mem} {pc pc' : Nat} {L : List (Option Value)} {st : List Value} {j : Fin 4} {i : Nat} {x : Nat} {L' : List (Option Value)} (d : decode cc pc = .ok (.astore_n j, 1)) (hj : (j : Nat) = i) (hi : i < L.length) (hl : L.set i (some (.ref x)) = L') (hp : pc + 1 = pc') (k : GG V X σ pc' L' st) : GG V X σ pc L (.ref x :: st) := by
  obtain ⟨p, l, e, R', s, m, args, below, meth, c, A, kc, ks, Q⟩ := X
  obtain ⟨rfl, hx, hb, hml, hown, hts, hT, hI, hA, hk1, hk2⟩ := C
  subst hp
  intro H locs ls hP hS hL
  subst hj
  obtain ⟨ls', e1, h1⟩ := lh_store (v := .ref x) hL hi rfl
  intro T hT X
  obtain ⟨t, a, b⟩ := k H locs ls' hP hS (hl ▸ h1) T hT X
  refine ⟨t, ?_, b⟩
  jvm_step X.here [X.here.top, ↓top_set X.here.top, hx, hb, d, e1, Value.isRef]
  exact a
theorem g_istore {V : EV} {X : CX} {own : String} {cc : ByteArray} {nL : Nat} {R : Room} (C : OK V X own cc nL R) {σ : Mem} {pc pc' : Nat} {L : List (Option Value)} {st : List Value} {i : Nat} {x : Int32} {L' : List (Option Value)} (d : decode cc pc = .ok (.istore i, 2)) (hi : i < L.length) (hl : L.set i (some (.int x)) = L') (hp : pc + 2 = pc') (k : GG V X σ pc' L' st) : GG V X σ pc L (.int x :: st) := by
  obtain ⟨p, l, e, R', s, m, args, below, meth, c, A, kc, ks, Q⟩ := X
  obtain ⟨rfl, hx, hb, hml, hown, hts, hT, hI, hA, hk1, hk2⟩ := C
  subst hp
  intro H locs ls hP hS hL
  obtain ⟨ls', e1, h1⟩ := lh_store (v := .int x) hL hi rfl
  intro T hT X
  obtain ⟨t, a, b⟩ := k H locs ls' hP hS (hl ▸ h1) T hT X
  refine ⟨t, ?_, b⟩
  jvm_step X.here [X.here.top, ↓top_set X.here.top, hx, hb, d, e1]
  exact a
theorem g_iinc {V : EV} {X : CX} {own : String} {cc : ByteArray} {nL : Nat} {R : Room} (C : OK V X own cc nL R) {σ : Mem} {pc pc' : Nat} {L : List (Option Value)} {st : List Value} {i : Nat} {n : Int} {x v : Int32} {L' : List (Option Value)} (d : decode cc pc = .ok (.iinc i n, 3)) (hv : x + Int32.ofInt n = v) (hx0 : L[i]? = some (some (.int x))) (hi : i < L.length) (hl : L.set i (some (.int v)) = L') (hp : pc + 3 = pc') (k : GG V X σ pc' L' st) : GG V X σ pc L (st) := by
  obtain ⟨p, l, e, R', s, m, args, below, meth, c, A, kc, ks, Q⟩ := X
  obtain ⟨rfl, hx, hb, hml, hown, hts, hT, hI, hA, hk1, hk2⟩ := C
  subst hp
  intro H locs ls hP hS hL
  subst hv
  obtain ⟨ls', e1, h1⟩ := lh_store (v := .int (x + Int32.ofInt n)) hL hi rfl
  have hg := (hL.2.2 i _ hx0).1
  intro T hT X
  obtain ⟨t, a, b⟩ := k H locs ls' hP hS (hl ▸ h1) T hT X
  refine ⟨t, ?_, b⟩
  jvm_step X.here [X.here.top, ↓top_set X.here.top, hx, hb, d, hg, e1]
  exact a
theorem g_iadd {V : EV} {X : CX} {own : String} {cc : ByteArray} {nL : Nat} {R : Room} (C : OK V X own cc nL R) {σ : Mem} {pc pc' : Nat} {L : List (Option Value)} {st : List Value} {x y : Int32} (d : decode cc pc = .ok (.iadd, 1)) (hp : pc + 1 = pc') (k : GG V X σ pc' L (.int (x + y) :: st)) : GG V X σ pc L (.int y :: .int x :: st) := by
  obtain ⟨p, l, e, R', s, m, args, below, meth, c, A, kc, ks, Q⟩ := X
  obtain ⟨rfl, hx, hb, hml, hown, hts, hT, hI, hA, hk1, hk2⟩ := C
  subst hp
  intro H locs ls hP hS hL
  exact lv_iadd hx hb d (k H locs ls hP hS hL)
theorem g_isub {V : EV} {X : CX} {own : String} {cc : ByteArray} {nL : Nat} {R : Room} (C : OK V X own cc nL R) {σ : Mem} {pc pc' : Nat} {L : List (Option Value)} {st : List Value} {x y : Int32} (d : decode cc pc = .ok (.isub, 1)) (hp : pc + 1 = pc') (k : GG V X σ pc' L (.int (x - y) :: st)) : GG V X σ pc L (.int y :: .int x :: st) := by
  obtain ⟨p, l, e, R', s, m, args, below, meth, c, A, kc, ks, Q⟩ := X
  obtain ⟨rfl, hx, hb, hml, hown, hts, hT, hI, hA, hk1, hk2⟩ := C
  subst hp
  intro H locs ls hP hS hL
  exact lv_isub hx hb d (k H locs ls hP hS hL)
theorem g_imul {V : EV} {X : CX} {own : String} {cc : ByteArray} {nL : Nat} {R : Room} (C : OK V X own cc nL R) {σ : Mem} {pc pc' : Nat} {L : List (Option Value)} {st : List Value} {x y : Int32} (d : decode cc pc = .ok (.imul, 1)) (hp : pc + 1 = pc') (k : GG V X σ pc' L (.int (x * y) :: st)) : GG V X σ pc L (.int y :: .int x :: st) := by
  obtain ⟨p, l, e, R', s, m, args, below, meth, c, A, kc, ks, Q⟩ := X
  obtain ⟨rfl, hx, hb, hml, hown, hts, hT, hI, hA, hk1, hk2⟩ := C
  subst hp
  intro H locs ls hP hS hL
  exact lv_imul hx hb d (k H locs ls hP hS hL)
theorem g_iand {V : EV} {X : CX} {own : String} {cc : ByteArray} {nL : Nat} {R : Room} (C : OK V X own cc nL R) {σ : Mem} {pc pc' : Nat} {L : List (Option Value)} {st : List Value} {x y : Int32} (d : decode cc pc = .ok (.iand, 1)) (hp : pc + 1 = pc') (k : GG V X σ pc' L (.int (x &&& y) :: st)) : GG V X σ pc L (.int y :: .int x :: st) := by
  obtain ⟨p, l, e, R', s, m, args, below, meth, c, A, kc, ks, Q⟩ := X
  obtain ⟨rfl, hx, hb, hml, hown, hts, hT, hI, hA, hk1, hk2⟩ := C
  subst hp
  intro H locs ls hP hS hL
  exact lv_iand hx hb d (k H locs ls hP hS hL)
theorem g_idiv {V : EV} {X : CX} {own : String} {cc : ByteArray} {nL : Nat} {R : Room} (C : OK V X own cc nL R) {σ : Mem} {pc pc' : Nat} {L : List (Option Value)} {st : List Value} {x y : Int32} (d : decode cc pc = .ok (.idiv, 1)) (hne : ¬ y = 0) (hp : pc + 1 = pc') (k : GG V X σ pc' L (.int (x / y) :: st)) : GG V X σ pc L (.int y :: .int x :: st) := by
  obtain ⟨p, l, e, R', s, m, args, below, meth, c, A, kc, ks, Q⟩ := X
  obtain ⟨rfl, hx, hb, hml, hown, hts, hT, hI, hA, hk1, hk2⟩ := C
  subst hp
  intro H locs ls hP hS hL
  exact lv_idiv hx hb d hne (k H locs ls hP hS hL)
theorem g_irem {V : EV} {X : CX} {own : String} {cc : ByteArray} {nL : Nat} {R : Room} (C : OK V X own cc nL R) {σ : Mem} {pc pc' : Nat} {L : List (Option Value)} {st : List Value} {x y : Int32} (d : decode cc pc = .ok (.irem, 1)) (hne : ¬ y = 0) (hp : pc + 1 = pc') (k : GG V X σ pc' L (.int (x - x / y * y) :: st)) : GG V X σ pc L (.int y :: .int x :: st) := by
  obtain ⟨p, l, e, R', s, m, args, below, meth, c, A, kc, ks, Q⟩ := X
  obtain ⟨rfl, hx, hb, hml, hown, hts, hT, hI, hA, hk1, hk2⟩ := C
  subst hp
  intro H locs ls hP hS hL
  exact lv_irem hx hb d hne (k H locs ls hP hS hL)
theorem g_i2c {V : EV} {X : CX} {own : String} {cc : ByteArray} {nL : Nat} {R : Room} (C : OK V X own cc nL R) {σ : Mem} {pc pc' : Nat} {L : List (Option Value)} {st : List Value} {x : Int32} (d : decode cc pc = .ok (.i2c, 1)) (hp : pc + 1 = pc') (k : GG V X σ pc' L (.int (x.toUInt32 % 65536).toInt32 :: st)) : GG V X σ pc L (.int x :: st) := by
  obtain ⟨p, l, e, R', s, m, args, below, meth, c, A, kc, ks, Q⟩ := X
  obtain ⟨rfl, hx, hb, hml, hown, hts, hT, hI, hA, hk1, hk2⟩ := C
  subst hp
  intro H locs ls hP hS hL
  exact lv_i2c hx hb d rfl (k H locs ls hP hS hL)
theorem g_dup {V : EV} {X : CX} {own : String} {cc : ByteArray} {nL : Nat} {R : Room} (C : OK V X own cc nL R) {σ : Mem} {pc pc' : Nat} {L : List (Option Value)} {st : List Value} {v : Value} (d : decode cc pc = .ok (.dup, 1)) (hv : v.category = 1) (hp : pc + 1 = pc') (k : GG V X σ pc' L (v :: v :: st)) : GG V X σ pc L (v :: st) := by
  obtain ⟨p, l, e, R', s, m, args, below, meth, c, A, kc, ks, Q⟩ := X
  obtain ⟨rfl, hx, hb, hml, hown, hts, hT, hI, hA, hk1, hk2⟩ := C
  subst hp
  intro H locs ls hP hS hL
  exact lv_dup hx hb d hv (k H locs ls hP hS hL)
theorem g_pop {V : EV} {X : CX} {own : String} {cc : ByteArray} {nL : Nat} {R : Room} (C : OK V X own cc nL R) {σ : Mem} {pc pc' : Nat} {L : List (Option Value)} {st : List Value} {v : Value} (d : decode cc pc = .ok (.pop, 1)) (hv : v.category = 1) (hp : pc + 1 = pc') (k : GG V X σ pc' L (st)) : GG V X σ pc L (v :: st) := by
  obtain ⟨p, l, e, R', s, m, args, below, meth, c, A, kc, ks, Q⟩ := X
  obtain ⟨rfl, hx, hb, hml, hown, hts, hT, hI, hA, hk1, hk2⟩ := C
  subst hp
  intro H locs ls hP hS hL
  exact lv_pop hx hb d hv (k H locs ls hP hS hL)
theorem g_dup2 {V : EV} {X : CX} {own : String} {cc : ByteArray} {nL : Nat} {R : Room} (C : OK V X own cc nL R) {σ : Mem} {pc pc' : Nat} {L : List (Option Value)} {st : List Value} {v w : Value} (d : decode cc pc = .ok (.dup2, 1)) (hv : v.category = 1) (hw : w.category = 1) (hp : pc + 1 = pc') (k : GG V X σ pc' L (v :: w :: v :: w :: st)) : GG V X σ pc L (v :: w :: st) := by
  obtain ⟨p, l, e, R', s, m, args, below, meth, c, A, kc, ks, Q⟩ := X
  obtain ⟨rfl, hx, hb, hml, hown, hts, hT, hI, hA, hk1, hk2⟩ := C
  subst hp
  intro H locs ls hP hS hL
  exact lv_dup2_11 hx hb d hv hw (k H locs ls hP hS hL)
theorem g_goto {V : EV} {X : CX} {own : String} {cc : ByteArray} {nL : Nat} {R : Room} (C : OK V X own cc nL R) {σ : Mem} {pc pc' : Nat} {L : List (Option Value)} {st : List Value} {off : Int} (d : decode cc pc = .ok (.goto off, 3)) (ht : (pc : Int) + off = (pc' : Int)) (k : GG V X σ pc' L st) : GG V X σ pc L st := by
  obtain ⟨p, l, e, R', s, m, args, below, meth, c, A, kc, ks, Q⟩ := X
  obtain ⟨rfl, hx, hb, hml, hown, hts, hT, hI, hA, hk1, hk2⟩ := C
  intro H locs ls hP hS hL
  exact lv_goto hx hb d ht (k H locs ls hP hS hL)
theorem g_if_eq {V : EV} {X : CX} {own : String} {cc : ByteArray} {nL : Nat} {R : Room} (C : OK V X own cc nL R) {σ : Mem} {pc pc' : Nat} {L : List (Option Value)} {st : List Value} {tgt : Nat} {off : Int} {x : Int32} (d : decode cc pc = .ok (.ifCond .eq off, 3)) (ht : (pc : Int) + off = (tgt : Int)) (hp : pc + 3 = pc') (kt : x = 0 → GG V X σ tgt L st) (kf : ¬ x = 0 → GG V X σ pc' L st) : GG V X σ pc L (.int x :: st) := by
  obtain ⟨p, l, e, R', s, m, args, below, meth, c, A, kc, ks, Q⟩ := X
  obtain ⟨rfl, hx, hb, hml, hown, hts, hT, hI, hA, hk1, hk2⟩ := C
  subst hp
  intro H locs ls hP hS hL
  exact lv_if_eq hx hb d ht (fun q => kt q H locs ls hP hS hL) (fun q => kf q H locs ls hP hS hL)
theorem g_icmp_eq {V : EV} {X : CX} {own : String} {cc : ByteArray} {nL : Nat} {R : Room} (C : OK V X own cc nL R) {σ : Mem} {pc pc' : Nat} {L : List (Option Value)} {st : List Value} {tgt : Nat} {off : Int} {x y : Int32} (d : decode cc pc = .ok (.if_icmp .eq off, 3)) (ht : (pc : Int) + off = (tgt : Int)) (hp : pc + 3 = pc') (kt : x = y → GG V X σ tgt L st) (kf : ¬ x = y → GG V X σ pc' L st) : GG V X σ pc L (.int y :: .int x :: st) := by
  obtain ⟨p, l, e, R', s, m, args, below, meth, c, A, kc, ks, Q⟩ := X
  obtain ⟨rfl, hx, hb, hml, hown, hts, hT, hI, hA, hk1, hk2⟩ := C
  subst hp
  intro H locs ls hP hS hL
  exact lv_icmp_eq hx hb d ht (fun q => kt q H locs ls hP hS hL) (fun q => kf q H locs ls hP hS hL)
theorem g_if_ne {V : EV} {X : CX} {own : String} {cc : ByteArray} {nL : Nat} {R : Room} (C : OK V X own cc nL R) {σ : Mem} {pc pc' : Nat} {L : List (Option Value)} {st : List Value} {tgt : Nat} {off : Int} {x : Int32} (d : decode cc pc = .ok (.ifCond .ne off, 3)) (ht : (pc : Int) + off = (tgt : Int)) (hp : pc + 3 = pc') (kt : ¬ x = 0 → GG V X σ tgt L st) (kf : x = 0 → GG V X σ pc' L st) : GG V X σ pc L (.int x :: st) := by
  obtain ⟨p, l, e, R', s, m, args, below, meth, c, A, kc, ks, Q⟩ := X
  obtain ⟨rfl, hx, hb, hml, hown, hts, hT, hI, hA, hk1, hk2⟩ := C
  subst hp
  intro H locs ls hP hS hL
  exact lv_if_ne hx hb d ht (fun q => kt q H locs ls hP hS hL) (fun q => kf q H locs ls hP hS hL)
theorem g_icmp_ne {V : EV} {X : CX} {own : String} {cc : ByteArray} {nL : Nat} {R : Room} (C : OK V X own cc nL R) {σ : Mem} {pc pc' : Nat} {L : List (Option Value)} {st : List Value} {tgt : Nat} {off : Int} {x y : Int32} (d : decode cc pc = .ok (.if_icmp .ne off, 3)) (ht : (pc : Int) + off = (tgt : Int)) (hp : pc + 3 = pc') (kt : ¬ x = y → GG V X σ tgt L st) (kf : x = y → GG V X σ pc' L st) : GG V X σ pc L (.int y :: .int x :: st) := by
  obtain ⟨p, l, e, R', s, m, args, below, meth, c, A, kc, ks, Q⟩ := X
  obtain ⟨rfl, hx, hb, hml, hown, hts, hT, hI, hA, hk1, hk2⟩ := C
  subst hp
  intro H locs ls hP hS hL
  exact lv_icmp_ne hx hb d ht (fun q => kt q H locs ls hP hS hL) (fun q => kf q H locs ls hP hS hL)
theorem g_if_lt {V : EV} {X : CX} {own : String} {cc : ByteArray} {nL : Nat} {R : Room} (C : OK V X own cc nL R) {σ : Mem} {pc pc' : Nat} {L : List (Option Value)} {st : List Value} {tgt : Nat} {off : Int} {x : Int32} (d : decode cc pc = .ok (.ifCond .lt off, 3)) (ht : (pc : Int) + off = (tgt : Int)) (hp : pc + 3 = pc') (kt : x < 0 → GG V X σ tgt L st) (kf : ¬ x < 0 → GG V X σ pc' L st) : GG V X σ pc L (.int x :: st) := by
  obtain ⟨p, l, e, R', s, m, args, below, meth, c, A, kc, ks, Q⟩ := X
  obtain ⟨rfl, hx, hb, hml, hown, hts, hT, hI, hA, hk1, hk2⟩ := C
  subst hp
  intro H locs ls hP hS hL
  exact lv_if_lt hx hb d ht (fun q => kt q H locs ls hP hS hL) (fun q => kf q H locs ls hP hS hL)
theorem g_icmp_lt {V : EV} {X : CX} {own : String} {cc : ByteArray} {nL : Nat} {R : Room} (C : OK V X own cc nL R) {σ : Mem} {pc pc' : Nat} {L : List (Option Value)} {st : List Value} {tgt : Nat} {off : Int} {x y : Int32} (d : decode cc pc = .ok (.if_icmp .lt off, 3)) (ht : (pc : Int) + off = (tgt : Int)) (hp : pc + 3 = pc') (kt : x < y → GG V X σ tgt L st) (kf : ¬ x < y → GG V X σ pc' L st) : GG V X σ pc L (.int y :: .int x :: st) := by
  obtain ⟨p, l, e, R', s, m, args, below, meth, c, A, kc, ks, Q⟩ := X
  obtain ⟨rfl, hx, hb, hml, hown, hts, hT, hI, hA, hk1, hk2⟩ := C
  subst hp
  intro H locs ls hP hS hL
  exact lv_icmp_lt hx hb d ht (fun q => kt q H locs ls hP hS hL) (fun q => kf q H locs ls hP hS hL)
theorem g_if_ge {V : EV} {X : CX} {own : String} {cc : ByteArray} {nL : Nat} {R : Room} (C : OK V X own cc nL R) {σ : Mem} {pc pc' : Nat} {L : List (Option Value)} {st : List Value} {tgt : Nat} {off : Int} {x : Int32} (d : decode cc pc = .ok (.ifCond .ge off, 3)) (ht : (pc : Int) + off = (tgt : Int)) (hp : pc + 3 = pc') (kt : 0 ≤ x → GG V X σ tgt L st) (kf : ¬ 0 ≤ x → GG V X σ pc' L st) : GG V X σ pc L (.int x :: st) := by
  obtain ⟨p, l, e, R', s, m, args, below, meth, c, A, kc, ks, Q⟩ := X
  obtain ⟨rfl, hx, hb, hml, hown, hts, hT, hI, hA, hk1, hk2⟩ := C
  subst hp
  intro H locs ls hP hS hL
  exact lv_if_ge hx hb d ht (fun q => kt q H locs ls hP hS hL) (fun q => kf q H locs ls hP hS hL)
theorem g_icmp_ge {V : EV} {X : CX} {own : String} {cc : ByteArray} {nL : Nat} {R : Room} (C : OK V X own cc nL R) {σ : Mem} {pc pc' : Nat} {L : List (Option Value)} {st : List Value} {tgt : Nat} {off : Int} {x y : Int32} (d : decode cc pc = .ok (.if_icmp .ge off, 3)) (ht : (pc : Int) + off = (tgt : Int)) (hp : pc + 3 = pc') (kt : y ≤ x → GG V X σ tgt L st) (kf : ¬ y ≤ x → GG V X σ pc' L st) : GG V X σ pc L (.int y :: .int x :: st) := by
  obtain ⟨p, l, e, R', s, m, args, below, meth, c, A, kc, ks, Q⟩ := X
  obtain ⟨rfl, hx, hb, hml, hown, hts, hT, hI, hA, hk1, hk2⟩ := C
  subst hp
  intro H locs ls hP hS hL
  exact lv_icmp_ge hx hb d ht (fun q => kt q H locs ls hP hS hL) (fun q => kf q H locs ls hP hS hL)
theorem g_if_gt {V : EV} {X : CX} {own : String} {cc : ByteArray} {nL : Nat} {R : Room} (C : OK V X own cc nL R) {σ : Mem} {pc pc' : Nat} {L : List (Option Value)} {st : List Value} {tgt : Nat} {off : Int} {x : Int32} (d : decode cc pc = .ok (.ifCond .gt off, 3)) (ht : (pc : Int) + off = (tgt : Int)) (hp : pc + 3 = pc') (kt : 0 < x → GG V X σ tgt L st) (kf : ¬ 0 < x → GG V X σ pc' L st) : GG V X σ pc L (.int x :: st) := by
  obtain ⟨p, l, e, R', s, m, args, below, meth, c, A, kc, ks, Q⟩ := X
  obtain ⟨rfl, hx, hb, hml, hown, hts, hT, hI, hA, hk1, hk2⟩ := C
  subst hp
  intro H locs ls hP hS hL
  exact lv_if_gt hx hb d ht (fun q => kt q H locs ls hP hS hL) (fun q => kf q H locs ls hP hS hL)
theorem g_icmp_gt {V : EV} {X : CX} {own : String} {cc : ByteArray} {nL : Nat} {R : Room} (C : OK V X own cc nL R) {σ : Mem} {pc pc' : Nat} {L : List (Option Value)} {st : List Value} {tgt : Nat} {off : Int} {x y : Int32} (d : decode cc pc = .ok (.if_icmp .gt off, 3)) (ht : (pc : Int) + off = (tgt : Int)) (hp : pc + 3 = pc') (kt : y < x → GG V X σ tgt L st) (kf : ¬ y < x → GG V X σ pc' L st) : GG V X σ pc L (.int y :: .int x :: st) := by
  obtain ⟨p, l, e, R', s, m, args, below, meth, c, A, kc, ks, Q⟩ := X
  obtain ⟨rfl, hx, hb, hml, hown, hts, hT, hI, hA, hk1, hk2⟩ := C
  subst hp
  intro H locs ls hP hS hL
  exact lv_icmp_gt hx hb d ht (fun q => kt q H locs ls hP hS hL) (fun q => kf q H locs ls hP hS hL)
theorem g_if_le {V : EV} {X : CX} {own : String} {cc : ByteArray} {nL : Nat} {R : Room} (C : OK V X own cc nL R) {σ : Mem} {pc pc' : Nat} {L : List (Option Value)} {st : List Value} {tgt : Nat} {off : Int} {x : Int32} (d : decode cc pc = .ok (.ifCond .le off, 3)) (ht : (pc : Int) + off = (tgt : Int)) (hp : pc + 3 = pc') (kt : x ≤ 0 → GG V X σ tgt L st) (kf : ¬ x ≤ 0 → GG V X σ pc' L st) : GG V X σ pc L (.int x :: st) := by
  obtain ⟨p, l, e, R', s, m, args, below, meth, c, A, kc, ks, Q⟩ := X
  obtain ⟨rfl, hx, hb, hml, hown, hts, hT, hI, hA, hk1, hk2⟩ := C
  subst hp
  intro H locs ls hP hS hL
  exact lv_if_le hx hb d ht (fun q => kt q H locs ls hP hS hL) (fun q => kf q H locs ls hP hS hL)
theorem g_icmp_le {V : EV} {X : CX} {own : String} {cc : ByteArray} {nL : Nat} {R : Room} (C : OK V X own cc nL R) {σ : Mem} {pc pc' : Nat} {L : List (Option Value)} {st : List Value} {tgt : Nat} {off : Int} {x y : Int32} (d : decode cc pc = .ok (.if_icmp .le off, 3)) (ht : (pc : Int) + off = (tgt : Int)) (hp : pc + 3 = pc') (kt : x ≤ y → GG V X σ tgt L st) (kf : ¬ x ≤ y → GG V X σ pc' L st) : GG V X σ pc L (.int y :: .int x :: st) := by
  obtain ⟨p, l, e, R', s, m, args, below, meth, c, A, kc, ks, Q⟩ := X
  obtain ⟨rfl, hx, hb, hml, hown, hts, hT, hI, hA, hk1, hk2⟩ := C
  subst hp
  intro H locs ls hP hS hL
  exact lv_icmp_le hx hb d ht (fun q => kt q H locs ls hP hS hL) (fun q => kf q H locs ls hP hS hL)
theorem g_tin {V : EV} {X : CX} {own : String} {cc : ByteArray} {nL : Nat} {R : Room} (C : OK V X own cc nL R) {σ : Mem} {pc pc' : Nat} {L : List (Option Value)} {st : List Value} {dflt lo hi : Int} {offs : Array Int} {len : Nat} {x : Int32} {off : Int} (d : decode cc pc = .ok (.tableswitch dflt lo hi offs, len)) (h1 : ¬ x.toInt < lo) (h2 : ¬ hi < x.toInt) (ho : offs[(x.toInt - lo).toNat]? = some off) (ht : (pc : Int) + off = (pc' : Int)) (k : GG V X σ pc' L st) : GG V X σ pc L (.int x :: st) := by
  obtain ⟨p, l, e, R', s, m, args, below, meth, c, A, kc, ks, Q⟩ := X
  obtain ⟨rfl, hx, hb, hml, hown, hts, hT, hI, hA, hk1, hk2⟩ := C
  intro H locs ls hP hS hL
  exact lv_tableIn hx hb d h1 h2 ho ht (k H locs ls hP hS hL)
theorem g_tout {V : EV} {X : CX} {own : String} {cc : ByteArray} {nL : Nat} {R : Room} (C : OK V X own cc nL R) {σ : Mem} {pc pc' : Nat} {L : List (Option Value)} {st : List Value} {dflt lo hi : Int} {offs : Array Int} {len : Nat} {x : Int32} (d : decode cc pc = .ok (.tableswitch dflt lo hi offs, len)) (h : x.toInt < lo ∨ hi < x.toInt) (ht : (pc : Int) + dflt = (pc' : Int)) (k : GG V X σ pc' L st) : GG V X σ pc L (.int x :: st) := by
  obtain ⟨p, l, e, R', s, m, args, below, meth, c, A, kc, ks, Q⟩ := X
  obtain ⟨rfl, hx, hb, hml, hown, hts, hT, hI, hA, hk1, hk2⟩ := C
  intro H locs ls hP hS hL
  exact lv_tableOut hx hb d h ht (k H locs ls hP hS hL)
theorem g_look {V : EV} {X : CX} {own : String} {cc : ByteArray} {nL : Nat} {R : Room} (C : OK V X own cc nL R) {σ : Mem} {pc pc' : Nat} {L : List (Option Value)} {st : List Value} {dflt : Int} {ps : Array (Int × Int)} {len : Nat} {x : Int32} {off : Int} (d : decode cc pc = .ok (.lookupswitch dflt ps, len)) (hs : (ps.toList.zip (ps.toList.drop 1)).all (fun (a, next) => a.1 < next.1) = true) (ho : Op.lookupswitch.offset ps.toList dflt x.toInt = off) (ht : (pc : Int) + off = (pc' : Int)) (k : GG V X σ pc' L st) : GG V X σ pc L (.int x :: st) := by
  obtain ⟨p, l, e, R', s, m, args, below, meth, c, A, kc, ks, Q⟩ := X
  obtain ⟨rfl, hx, hb, hml, hown, hts, hT, hI, hA, hk1, hk2⟩ := C
  intro H locs ls hP hS hL
  exact lv_lookup hx hb d hs ho ht (k H locs ls hP hS hL)
theorem g_tinK {V : EV} {X : CX} {own : String} {cc : ByteArray} {nL : Nat} {R : Room} (C : OK V X own cc nL R) {σ : Mem} {pc pc' : Nat} {L : List (Option Value)} {st : List Value} {dflt lo hi : Int} {offs : Array Int} {len : Nat} {x y : Int32} {off : Int} (d : decode cc pc = .ok (.tableswitch dflt lo hi offs, len)) (hy : x = y) (h1 : ¬ y.toInt < lo) (h2 : ¬ hi < y.toInt) (ho : offs[(y.toInt - lo).toNat]? = some off) (ht : (pc : Int) + off = (pc' : Int)) (k : GG V X σ pc' L st) : GG V X σ pc L (.int x :: st) := by
  subst hy
  exact g_tin C d h1 h2 ho ht k
theorem g_lookK {V : EV} {X : CX} {own : String} {cc : ByteArray} {nL : Nat} {R : Room} (C : OK V X own cc nL R) {σ : Mem} {pc pc' : Nat} {L : List (Option Value)} {st : List Value} {dflt : Int} {ps : Array (Int × Int)} {len : Nat} {x y : Int32} {off : Int} (d : decode cc pc = .ok (.lookupswitch dflt ps, len)) (hy : x = y) (hs : (ps.toList.zip (ps.toList.drop 1)).all (fun (a, next) => a.1 < next.1) = true) (ho : Op.lookupswitch.offset ps.toList dflt y.toInt = off) (ht : (pc : Int) + off = (pc' : Int)) (k : GG V X σ pc' L st) : GG V X σ pc L (.int x :: st) := by
  subst hy
  exact g_look C d hs ho ht k
theorem tsw_cases (x : Int32) (lo : Int) (n : Nat) : (x.toInt < lo ∨ lo + n ≤ x.toInt) ∨ ∃ k : Nat, k < n ∧ x.toInt = lo + k := by
  by_cases h : x.toInt < lo ∨ lo + n ≤ x.toInt
  · exact Or.inl h
  · exact Or.inr ⟨(x.toInt - lo).toNat, by omega, by omega⟩
theorem i32_of {x y : Int32} {a : Int} (h : x.toInt = a) (hy : y.toInt = a) : x = y := Int32.toInt_inj.mp (h.trans hy.symm)
/-! arrays of ints, booleans, chars -/
def iA (id n : Nat) : Prop := id < 100 ∧ ∀ (V : EV) (σ : Mem), ent V σ id = .inl (V.2.1.1, n, .inl (σ id))
def zA (id n : Nat) : Prop := id < 100 ∧ ∀ (V : EV) (σ : Mem), ent V σ id = .inl (V.2.1.2.1, n, .inl (σ id))
def cA (id n : Nat) : Prop := id < 100 ∧ ∀ (V : EV) (σ : Mem), ent V σ id = .inl (V.2.1.2.2.1, n, .inl (σ id))
theorem ws_e {V : EV} {σ : Mem} {k : Nat} {e : va_E} (hk : k < 100) (he : ent V σ k = e) : (wsOf V σ)[k]? = some (ad V k, e) := by rw [ws_at V σ hk, he]
theorem g_ild {V : EV} {X : CX} {own : String} {cc : ByteArray} {nL : Nat} {R : Room} (C : OK V X own cc nL R) {σ : Mem} {pc pc' : Nat} {L : List (Option Value)} {st : List Value} {id n : Nat} {i : Int32} (d : decode cc pc = .ok (.iaload, 1)) (hE : iA id n) (hin : vp_in i n) (hp : pc + 1 = pc') (k : GG V X σ pc' L (.int (σ id i.toNatClampNeg) :: st)) : GG V X σ pc L (.int i :: .ref (ad V id) :: st) := by
  obtain ⟨p, l, e, R', s, m, args, below, meth, c, A, kc, ks, Q⟩ := X
  obtain ⟨rfl, hx, hb, hml, hown, hts, hT, hI, hA, hk1, hk2⟩ := C
  subst hp
  intro H locs ls hP hS hL
  exact va_iald hx hb hT.1 hP id 0 (ws_e hE.1 (hE.2 V σ)) rfl hin d (k H locs ls hP hS hL)
theorem g_ist {V : EV} {X : CX} {own : String} {cc : ByteArray} {nL : Nat} {R : Room} (C : OK V X own cc nL R) {σ : Mem} {pc pc' : Nat} {L : List (Option Value)} {st : List Value} {id n : Nat} {i x : Int32} {f : Mem → Prop} (d : decode cc pc = .ok (.iastore, 1)) (hE : iA id n) (hin : vp_in i n) (hp : pc + 1 = pc') (h : bm (up2 σ id i.toNatClampNeg (x)) f) (k : ∀ τ, f τ → GG V X τ pc' L st) : GG V X σ pc L (.int x :: .int i :: .ref (ad V id) :: st) := by
  obtain ⟨p, l, e, R', s, m, args, below, meth, c, A, kc, ks, Q⟩ := X
  obtain ⟨rfl, hx, hb, hml, hown, hts, hT, hI, hA, hk1, hk2⟩ := C
  subst hp
  intro H locs ls hP hS hL
  have hD := ws_D hI hA σ
  refine va_iast hx hb hT.1 hP hD hS id 0 (ws_e hE.1 (hE.2 V σ)) rfl hin d (fun H1 locs1 hP1 hD1 hS1 => ?_)
  rw [ws_set V (τ := up2 σ id i.toNatClampNeg (x)) hE.1 (by rw [hE.2, up2_eq]) (fun j hj => up2_ne σ hj)] at hP1
  exact k _ h H1 locs1 ls hP1 hS1 hL
theorem g_zld {V : EV} {X : CX} {own : String} {cc : ByteArray} {nL : Nat} {R : Room} (C : OK V X own cc nL R) {σ : Mem} {pc pc' : Nat} {L : List (Option Value)} {st : List Value} {id n : Nat} {i : Int32} (d : decode cc pc = .ok (.baload, 1)) (hE : zA id n) (hin : vp_in i n) (hp : pc + 1 = pc') (k : GG V X σ pc' L (.int (σ id i.toNatClampNeg) :: st)) : GG V X σ pc L (.int i :: .ref (ad V id) :: st) := by
  obtain ⟨p, l, e, R', s, m, args, below, meth, c, A, kc, ks, Q⟩ := X
  obtain ⟨rfl, hx, hb, hml, hown, hts, hT, hI, hA, hk1, hk2⟩ := C
  subst hp
  intro H locs ls hP hS hL
  exact va_zald hx hb hT.1 hP id 1 (ws_e hE.1 (hE.2 V σ)) rfl hin d (k H locs ls hP hS hL)
theorem g_zst {V : EV} {X : CX} {own : String} {cc : ByteArray} {nL : Nat} {R : Room} (C : OK V X own cc nL R) {σ : Mem} {pc pc' : Nat} {L : List (Option Value)} {st : List Value} {id n : Nat} {i x : Int32} {f : Mem → Prop} (d : decode cc pc = .ok (.bastore, 1)) (hE : zA id n) (hin : vp_in i n) (hp : pc + 1 = pc') (h : bm (up2 σ id i.toNatClampNeg (vp_nar .boolean x)) f) (k : ∀ τ, f τ → GG V X τ pc' L st) : GG V X σ pc L (.int x :: .int i :: .ref (ad V id) :: st) := by
  obtain ⟨p, l, e, R', s, m, args, below, meth, c, A, kc, ks, Q⟩ := X
  obtain ⟨rfl, hx, hb, hml, hown, hts, hT, hI, hA, hk1, hk2⟩ := C
  subst hp
  intro H locs ls hP hS hL
  have hD := ws_D hI hA σ
  refine va_zast hx hb hT.1 hP hD hS id 1 (ws_e hE.1 (hE.2 V σ)) rfl hin d (fun H1 locs1 hP1 hD1 hS1 => ?_)
  rw [ws_set V (τ := up2 σ id i.toNatClampNeg (vp_nar .boolean x)) hE.1 (by rw [hE.2, up2_eq]) (fun j hj => up2_ne σ hj)] at hP1
  exact k _ h H1 locs1 ls hP1 hS1 hL
theorem g_cld {V : EV} {X : CX} {own : String} {cc : ByteArray} {nL : Nat} {R : Room} (C : OK V X own cc nL R) {σ : Mem} {pc pc' : Nat} {L : List (Option Value)} {st : List Value} {id n : Nat} {i : Int32} (d : decode cc pc = .ok (.caload, 1)) (hE : cA id n) (hin : vp_in i n) (hp : pc + 1 = pc') (k : GG V X σ pc' L (.int (σ id i.toNatClampNeg) :: st)) : GG V X σ pc L (.int i :: .ref (ad V id) :: st) := by
  obtain ⟨p, l, e, R', s, m, args, below, meth, c, A, kc, ks, Q⟩ := X
  obtain ⟨rfl, hx, hb, hml, hown, hts, hT, hI, hA, hk1, hk2⟩ := C
  subst hp
  intro H locs ls hP hS hL
  exact va_cald hx hb hT.1 hP id 2 (ws_e hE.1 (hE.2 V σ)) rfl hin d (k H locs ls hP hS hL)
theorem g_cst {V : EV} {X : CX} {own : String} {cc : ByteArray} {nL : Nat} {R : Room} (C : OK V X own cc nL R) {σ : Mem} {pc pc' : Nat} {L : List (Option Value)} {st : List Value} {id n : Nat} {i x : Int32} {f : Mem → Prop} (d : decode cc pc = .ok (.castore, 1)) (hE : cA id n) (hin : vp_in i n) (hp : pc + 1 = pc') (h : bm (up2 σ id i.toNatClampNeg (vp_nar .char x)) f) (k : ∀ τ, f τ → GG V X τ pc' L st) : GG V X σ pc L (.int x :: .int i :: .ref (ad V id) :: st) := by
  obtain ⟨p, l, e, R', s, m, args, below, meth, c, A, kc, ks, Q⟩ := X
  obtain ⟨rfl, hx, hb, hml, hown, hts, hT, hI, hA, hk1, hk2⟩ := C
  subst hp
  intro H locs ls hP hS hL
  have hD := ws_D hI hA σ
  refine va_cast hx hb hT.1 hP hD hS id 2 (ws_e hE.1 (hE.2 V σ)) rfl hin d (fun H1 locs1 hP1 hD1 hS1 => ?_)
  rw [ws_set V (τ := up2 σ id i.toNatClampNeg (vp_nar .char x)) hE.1 (by rw [hE.2, up2_eq]) (fun j hj => up2_ne σ hj)] at hP1
  exact k _ h H1 locs1 ls hP1 hS1 hL
theorem g_ildk {V : EV} {X : CX} {own : String} {cc : ByteArray} {nL : Nat} {R : Room} (C : OK V X own cc nL R) {σ : Mem} {pc pc' : Nat} {L : List (Option Value)} {st : List Value} {id n q : Nat} {i : Int32} (d : decode cc pc = .ok (.iaload, 1)) (hE : iA id n) (hin : vp_in i n) (hq : i.toNatClampNeg = q) (hp : pc + 1 = pc') (k : GG V X σ pc' L (.int (σ id q) :: st)) : GG V X σ pc L (.int i :: .ref (ad V id) :: st) := by
  subst hq
  exact g_ild C d hE hin hp k
theorem g_istk {V : EV} {X : CX} {own : String} {cc : ByteArray} {nL : Nat} {R : Room} (C : OK V X own cc nL R) {σ : Mem} {pc pc' : Nat} {L : List (Option Value)} {st : List Value} {id n q : Nat} {i x : Int32} {f : Mem → Prop} (d : decode cc pc = .ok (.iastore, 1)) (hE : iA id n) (hin : vp_in i n) (hq : i.toNatClampNeg = q) (hp : pc + 1 = pc') (h : bm (up2 σ id q (x)) f) (k : ∀ τ, f τ → GG V X τ pc' L st) : GG V X σ pc L (.int x :: .int i :: .ref (ad V id) :: st) := by
  subst hq
  exact g_ist C d hE hin hp h k
theorem g_zldk {V : EV} {X : CX} {own : String} {cc : ByteArray} {nL : Nat} {R : Room} (C : OK V X own cc nL R) {σ : Mem} {pc pc' : Nat} {L : List (Option Value)} {st : List Value} {id n q : Nat} {i : Int32} (d : decode cc pc = .ok (.baload, 1)) (hE : zA id n) (hin : vp_in i n) (hq : i.toNatClampNeg = q) (hp : pc + 1 = pc') (k : GG V X σ pc' L (.int (σ id q) :: st)) : GG V X σ pc L (.int i :: .ref (ad V id) :: st) := by
  subst hq
  exact g_zld C d hE hin hp k
theorem g_zstk {V : EV} {X : CX} {own : String} {cc : ByteArray} {nL : Nat} {R : Room} (C : OK V X own cc nL R) {σ : Mem} {pc pc' : Nat} {L : List (Option Value)} {st : List Value} {id n q : Nat} {i x : Int32} {f : Mem → Prop} (d : decode cc pc = .ok (.bastore, 1)) (hE : zA id n) (hin : vp_in i n) (hq : i.toNatClampNeg = q) (hp : pc + 1 = pc') (h : bm (up2 σ id q (vp_nar .boolean x)) f) (k : ∀ τ, f τ → GG V X τ pc' L st) : GG V X σ pc L (.int x :: .int i :: .ref (ad V id) :: st) := by
  subst hq
  exact g_zst C d hE hin hp h k
theorem g_cldk {V : EV} {X : CX} {own : String} {cc : ByteArray} {nL : Nat} {R : Room} (C : OK V X own cc nL R) {σ : Mem} {pc pc' : Nat} {L : List (Option Value)} {st : List Value} {id n q : Nat} {i : Int32} (d : decode cc pc = .ok (.caload, 1)) (hE : cA id n) (hin : vp_in i n) (hq : i.toNatClampNeg = q) (hp : pc + 1 = pc') (k : GG V X σ pc' L (.int (σ id q) :: st)) : GG V X σ pc L (.int i :: .ref (ad V id) :: st) := by
  subst hq
  exact g_cld C d hE hin hp k
theorem g_cstk {V : EV} {X : CX} {own : String} {cc : ByteArray} {nL : Nat} {R : Room} (C : OK V X own cc nL R) {σ : Mem} {pc pc' : Nat} {L : List (Option Value)} {st : List Value} {id n q : Nat} {i x : Int32} {f : Mem → Prop} (d : decode cc pc = .ok (.castore, 1)) (hE : cA id n) (hin : vp_in i n) (hq : i.toNatClampNeg = q) (hp : pc + 1 = pc') (h : bm (up2 σ id q (vp_nar .char x)) f) (k : ∀ τ, f τ → GG V X τ pc' L st) : GG V X σ pc L (.int x :: .int i :: .ref (ad V id) :: st) := by
  subst hq
  exact g_cst C d hE hin hp h k
theorem g_ialen {V : EV} {X : CX} {own : String} {cc : ByteArray} {nL : Nat} {R : Room} (C : OK V X own cc nL R) {σ : Mem} {pc pc' : Nat} {L : List (Option Value)} {st : List Value} {id n : Nat} {v : Int32} (d : decode cc pc = .ok (.arraylength, 1)) (hE : iA id n) (hv : Int32.ofNat n = v) (hp : pc + 1 = pc') (k : GG V X σ pc' L (.int v :: st)) : GG V X σ pc L (.ref (ad V id) :: st) := by
  obtain ⟨p, l, e, R', s, m, args, below, meth, c, A, kc, ks, Q⟩ := X
  obtain ⟨rfl, hx, hb, hml, hown, hts, hT, hI, hA, hk1, hk2⟩ := C
  subst hp
  intro H locs ls hP hS hL
  exact va_alen hx hb hT.1 hP id 0 (ws_e hE.1 (hE.2 V σ)) rfl hv d (k H locs ls hP hS hL)
theorem g_aald {V : EV} {X : CX} {own : String} {cc : ByteArray} {nL : Nat} {R : Room} (C : OK V X own cc nL R) {σ : Mem} {pc pc' : Nat} {L : List (Option Value)} {st : List Value} {i : Int32} (d : decode cc pc = .ok (.aaload, 1)) (hin : vp_in i 4) (hp : pc + 1 = pc') (k : GG V X σ pc' L (.ref (ad V (36 + 12 * i.toNatClampNeg)) :: st)) : GG V X σ pc L (.int i :: .ref (ad V 86) :: st) := by
  obtain ⟨p, l, e, R', s, m, args, below, meth, c, A, kc, ks, Q⟩ := X
  obtain ⟨rfl, hx, hb, hml, hown, hts, hT, hI, hA, hk1, hk2⟩ := C
  subst hp
  intro H locs ls hP hS hL
  exact va_aldq hx hb hT.1 hP 86 3 (C := RX1) (ws_e (by decide) (ent_oth V σ (by decide))) rfl hin d (k H locs ls hP hS hL)
theorem g_get {V : EV} {X : CX} {own : String} {cc : ByteArray} {nL : Nat} {R : Room} (C : OK V X own cc nL R) {σ : Mem} {pc pc' : Nat} {L : List (Option Value)} {st : List Value} {id ci j idx N : Nat} {Cn ref : String} {T : u_T} {fs : List Value} {v : Value} (d : decode cc pc = .ok (.getfield idx, 3)) (hid : id < 100) (he : ent V σ id = .inr (ci, fs)) (hc : clv[ci]? = some (Cn, T, N)) (hk : j < N) (hw : Cond.fieldLink own idx ref (T j).2.1 (T j).2.2.1 ∈ AW) (hin : ∀ w ∈ u_ws Cn T N, w ∈ AW) (href : (T j).1 = ref) (hv : fs[j]? = some v) (hp : pc + 3 = pc') (k : GG V X σ pc' L (v :: st)) : GG V X σ pc L (.ref (ad V id) :: st) := by
  obtain ⟨p, l, e, R', s, m, args, below, meth, c, A, kc, ks, Q⟩ := X
  obtain ⟨rfl, hx, hb, hml, hown, hts, hT, hI, hA, hk1, hk2⟩ := C
  subst hp; subst href
  intro H locs ls hP hS hL
  exact va_get hx hb hts hin hown hT.1 hP id (ws_e hid he) hc j hk (hts _ hw) (fun _ h9 => h9) hv d (k H locs ls hP hS hL)
theorem g_put {V : EV} {X : CX} {own : String} {cc : ByteArray} {nL : Nat} {R : Room} (C : OK V X own cc nL R) {σ : Mem} {pc pc' : Nat} {L : List (Option Value)} {st : List Value} {id ci j idx N : Nat} {Cn ref : String} {T : u_T} {fs : List Value} {x : Int32} {ty : FieldType} {f : Mem → Prop} (d : decode cc pc = .ok (.putfield idx, 3)) (ty0 : Nat → FieldType) (hid : id < 100) (he : ent V σ id = .inr (ci, fs)) (hc : clv[ci]? = some (Cn, T, N)) (hk : j < N) (hw : Cond.fieldLink own idx ref (T j).2.1 (T j).2.2.1 ∈ AW) (hin : ∀ w ∈ u_ws Cn T N, w ∈ AW) (hty : ∀ k, k < N → parseFieldDescriptor (T k).2.2.1 = some (ty0 k)) (hnm : ∀ a, a < N → ∀ b, b < N → a ≠ b → (T a).2.1 ≠ (T b).2.1) (href : (T j).1 = ref) (hfin : (T j).2.2.2 = false) (hd : parseFieldDescriptor (T j).2.2.1 = some ty) (hn : narrow ty (.int x) = .int x) (hfit : fits ty (.int x) = true) (hl : j < fs.length) (he2 : ent V (up2 σ id j x) id = .inr (ci, fs.set j (.int x))) (hp : pc + 3 = pc') (h : bm (up2 σ id j x) f) (k : ∀ τ, f τ → GG V X τ pc' L st) : GG V X σ pc L (.int x :: .ref (ad V id) :: st) := by
  obtain ⟨p, l, e, R', s, m, args, below, meth, c, A, kc, ks, Q⟩ := X
  obtain ⟨rfl, hx, hb, hml, hown, hts, hT, hI, hA, hk1, hk2⟩ := C
  subst hp; subst href
  intro H locs ls hP hS hL
  have hD := ws_D hI hA σ
  refine va_put hx hb hts hin ty0 hty hnm hown hT.1 hP hD hS id (ws_e hid he) hc j hk (hts _ hw) (fun _ h9 => h9) hfin hd hn hfit hl d (fun H1 locs1 hP1 hD1 hS1 => ?_)
  rw [ws_set V (τ := up2 σ id j x) hid he2 (fun j hj => up2_ne σ hj)] at hP1
  exact k _ h H1 locs1 ls hP1 hS1 hL
theorem g_iret {V : EV} {X : CX} {own : String} {cc : ByteArray} {nL : Nat} {R : Room} (C : OK V X own cc nL R) {σ : Mem} {pc : Nat} {L : List (Option Value)} {x : Int32} {P : Int32 → Mem → Prop} (d : decode cc pc = .ok (.ireturn, 1)) (D : RI V X (some .int) P) (h : P x σ) : GG V X σ pc L [.int x] := by
  obtain ⟨p, l, e, R', s, m, args, below, meth, c, A, kc, ks, Q⟩ := X
  obtain ⟨rfl, hx, hb, hml, hown, hts, hT, hI, hA, hk1, hk2⟩ := C
  obtain ⟨hr, hlocks, rfl, rfl, rfl, rfl⟩ := D
  intro H locs ls hP hS hL
  exact W.iret hx hb hr (fun t ht hW => ⟨⟨x, σ, rfl, h, by unfold wB; rw [ht]; exact hP⟩, hS.F ht⟩) hS.2.2 d hlocks
theorem g_zret {V : EV} {X : CX} {own : String} {cc : ByteArray} {nL : Nat} {R : Room} (C : OK V X own cc nL R) {σ : Mem} {pc : Nat} {L : List (Option Value)} {x : Int32} {P : Int32 → Mem → Prop} (d : decode cc pc = .ok (.ireturn, 1)) (D : RI V X (some .boolean) P) (hz : x = 0 ∨ x = 1) (h : P x σ) : GG V X σ pc L [.int x] := by
  obtain ⟨p, l, e, R', s, m, args, below, meth, c, A, kc, ks, Q⟩ := X
  obtain ⟨rfl, hx, hb, hml, hown, hts, hT, hI, hA, hk1, hk2⟩ := C
  obtain ⟨hr, hlocks, rfl, rfl, rfl, rfl⟩ := D
  intro H locs ls hP hS hL
  have hn : narrow .boolean (.int x) = .int x := by rcases hz with rfl | rfl <;> rfl
  exact W.zret hx hb hr hn (fun t ht hW => ⟨⟨x, σ, rfl, h, by unfold wB; rw [ht]; exact hP⟩, hS.F ht⟩) hS.2.2 d hlocks
theorem g_cret {V : EV} {X : CX} {own : String} {cc : ByteArray} {nL : Nat} {R : Room} (C : OK V X own cc nL R) {σ : Mem} {pc : Nat} {L : List (Option Value)} {x : Int32} {P : Int32 → Mem → Prop} (d : decode cc pc = .ok (.ireturn, 1)) (D : RI V X (some .char) P) (hz : narrow .char (.int x) = .int x) (h : P x σ) : GG V X σ pc L [.int x] := by
  obtain ⟨p, l, e, R', s, m, args, below, meth, c, A, kc, ks, Q⟩ := X
  obtain ⟨rfl, hx, hb, hml, hown, hts, hT, hI, hA, hk1, hk2⟩ := C
  obtain ⟨hr, hlocks, rfl, rfl, rfl, rfl⟩ := D
  intro H locs ls hP hS hL
  exact W.zret hx hb hr hz (fun t ht hW => ⟨⟨x, σ, rfl, h, by unfold wB; rw [ht]; exact hP⟩, hS.F ht⟩) hS.2.2 d hlocks
theorem g_vret {V : EV} {X : CX} {own : String} {cc : ByteArray} {nL : Nat} {R : Room} (C : OK V X own cc nL R) {σ : Mem} {pc : Nat} {L : List (Option Value)} {P : Mem → Prop} (d : decode cc pc = .ok (.return_, 1)) (D : RV V X P) (h : P σ) : GG V X σ pc L [] := by
  obtain ⟨p, l, e, R', s, m, args, below, meth, c, A, kc, ks, Q⟩ := X
  obtain ⟨rfl, hx, hb, hml, hown, hts, hT, hI, hA, hk1, hk2⟩ := C
  obtain ⟨hr, hlocks, rfl, rfl, rfl, rfl⟩ := D
  intro H locs ls hP hS hL
  exact W.vret hx hb hr (fun t ht hW => ⟨⟨σ, rfl, h, by unfold wB; rw [ht]; exact hP⟩, hS.F ht⟩) hS.2.2 d hlocks
theorem g_drop {V : EV} {X : CX} {σ : Mem} {pc : Nat} {L L' : List (Option Value)} {st : List Value} (i : Nat) (hl : L.set i none = L') (k : GG V X σ pc L' st) : GG V X σ pc L st := by
  obtain ⟨p, l, e, R', s, m, args, below, meth, c, A, kc, ks, Q⟩ := X
  intro H locs ls hP hS hL
  subst hl
  refine k H locs ls hP hS ⟨by rw [hL.1, List.length_set], hL.2.1, fun j v hj => ?_⟩
  by_cases hji : j = i
  · subst hji
    by_cases hlt : j < L.length
    · rw [List.getElem?_set_self hlt] at hj; cases hj
    · rw [List.getElem?_eq_none (by rw [List.length_set]; omega)] at hj; cases hj
  · rw [List.getElem?_set_ne (Ne.symm hji)] at hj
    exact hL.2.2 j v hj
theorem met_i {y : MethodName} {cc : ByteArray} {nL : Nat} {ret : Option FieldType} {R : Room} {own : String} (V : EV) (σ : Mem) {av : List Value} {w : Prop} {P : Int32 → Mem → Prop} (hy : plainName y.cls = true) (hown : y.cls = own) (hc : ∀ v ∈ av, v.category = 1) (hn : av.length ≤ nL) (k : ∀ X, OK V X own cc nL R → RI V X ret P → w → GG V X σ 0 (av.map some ++ List.replicate (nL - av.length) none) []) (l : Launch) : Met l y (.code y cc nL ret :: AW) R (va_Pc av (fun U => wP V σ U ∧ w)) (va_Qi P (wB V) (AA V)) 0 0 (AA V) := by
  refine Met.ofW (cc := cc) (maxL := nL) (ret := ret) hy rfl ?_
  intro p e s m args below meth c s₁ B hml hv
  obtain ⟨rfl, ⟨hP, hT, hI⟩, hw⟩ := hv
  have hts := atoms_spec (ws := .code y cc nL ret :: AW) B.pre
  have hf : s.vm.findClass own = some m.cls := by rw [← hown]; exact findClass_of_methodNamed B.named
  have hl := lh_entry av hc hn
  rw [lg_entry_eq]
  have hk := k (p, l, e, R, s, m, av.toArray, below, meth, c, AA V, 0, 0, MQ below (va_Qi P (wB V) (AA V)) av.toArray s 0 0 (AA V)) ⟨rfl, B.exec, B.bytes, hml, hf, fun w hw => hts w (List.mem_cons_of_mem _ hw), hT, hI, fun k hk => ⟨k, hk, rfl⟩, Nat.zero_le _, Nat.zero_le _⟩ ⟨B.returns, B.notSynchronized, rfl, rfl, rfl, rfl⟩ hw
  exact hk s.heap [] _ hP va_S.rf hl
theorem met_v {y : MethodName} {cc : ByteArray} {nL : Nat} {R : Room} {own : String} (V : EV) (σ : Mem) {av : List Value} {w : Prop} {P : Mem → Prop} (hy : plainName y.cls = true) (hown : y.cls = own) (hc : ∀ v ∈ av, v.category = 1) (hn : av.length ≤ nL) (k : ∀ X, OK V X own cc nL R → RV V X P → w → GG V X σ 0 (av.map some ++ List.replicate (nL - av.length) none) []) (l : Launch) : Met l y (.code y cc nL none :: AW) R (va_Pc av (fun U => wP V σ U ∧ w)) (va_Qv P (wB V) (AA V)) 0 0 (AA V) := by
  refine Met.ofW (cc := cc) (maxL := nL) (ret := none) hy rfl ?_
  intro p e s m args below meth c s₁ B hml hv
  obtain ⟨rfl, ⟨hP, hT, hI⟩, hw⟩ := hv
  have hts := atoms_spec (ws := .code y cc nL none :: AW) B.pre
  have hf : s.vm.findClass own = some m.cls := by rw [← hown]; exact findClass_of_methodNamed B.named
  have hl := lh_entry av hc hn
  rw [lg_entry_eq]
  have hk := k (p, l, e, R, s, m, av.toArray, below, meth, c, AA V, 0, 0, MQ below (va_Qv P (wB V) (AA V)) av.toArray s 0 0 (AA V)) ⟨rfl, B.exec, B.bytes, hml, hf, fun w hw => hts w (List.mem_cons_of_mem _ hw), hT, hI, fun k hk => ⟨k, hk, rfl⟩, Nat.zero_le _, Nat.zero_le _⟩ ⟨B.returns, B.notSynchronized, rfl, rfl, rfl, rfl⟩ hw
  exact hk s.heap [] _ hP va_S.rf hl
