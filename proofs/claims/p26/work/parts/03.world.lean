/-! THE WORLD: a hundred cells at fixed addresses; what changes in them are ints: by cell and place -/
abbrev Mem : Type := Nat → Nat → Int32
def up2 (σ : Mem) (k i : Nat) (v : Int32) : Mem := fun a => if a = k then upd (σ k) i v else σ a
def cpA (σ : Mem) (a b n : Nat) : Mem := fun k => if k = b then va_cpy (σ a) (σ b) 0 0 n else σ k
abbrev EV : Type := va_G × (ClassId × ClassId × ClassId × ClassId) × (Nat → Nat)
def ad (V : EV) : Nat → Nat := V.2.2
abbrev clv : List vw_C := [(RX0, TX0, 3), (RX1, TX1, 17), (RX2, TX2, 6), (RX3, TX3, 2), (RX4, TX4, 9), (RX5, TX5, 13)]
abbrev tyv (V : EV) : List (ClassId × FieldType) := [(V.2.1.1, .int), (V.2.1.2.1, .boolean), (V.2.1.2.2.1, .char), (V.2.1.2.2.2, .object RX1)]
/-- a memory's cells: the object at b, its arrays behind it -/
def memE (V : EV) (σ : Mem) (b j : Nat) : va_E := match j with
  | 0 => .inr (1, [.ref (ad V (b + 1)), .ref (ad V (b + 2)), .ref (ad V (b + 3)), .ref (ad V (b + 4)), .ref (ad V (b + 5)), .ref (ad V (b + 6)), .ref (ad V (b + 7)), .ref (ad V (b + 8)), .ref (ad V (b + 9)), .ref (ad V (b + 10)), .int (σ b 10), .ref (ad V (b + 11)), .int (σ b 12), .int (σ b 13), .int (σ b 14), .int (σ b 15), .int (σ b 16)])
  | 1 => .inl (V.2.1.2.1, 40, .inl (σ (b + 1)))
  | 2 => .inl (V.2.1.1, 40, .inl (σ (b + 2)))
  | 3 => .inl (V.2.1.1, 40, .inl (σ (b + 3)))
  | 4 => .inl (V.2.1.1, 50, .inl (σ (b + 4)))
  | 5 => .inl (V.2.1.1, 50, .inl (σ (b + 5)))
  | 6 => .inl (V.2.1.2.1, 50, .inl (σ (b + 6)))
  | 7 => .inl (V.2.1.1, 50, .inl (σ (b + 7)))
  | 8 => .inl (V.2.1.1, 5, .inl (σ (b + 8)))
  | 9 => .inl (V.2.1.1, 5, .inl (σ (b + 9)))
  | 10 => .inl (V.2.1.1, 12, .inl (σ (b + 10)))
  | _ => .inl (V.2.1.1, 3, .inl (σ (b + 11)))
def othE (V : EV) (σ : Mem) (k : Nat) : va_E := match k with
  | 0 => .inr (4, [.ref (ad V 0), .ref (ad V 12), .ref (ad V 24), .int (σ 84 3), .ref (ad V 85), .ref (ad V 87), .ref (ad V 89), .int (σ 84 7), .int (σ 84 8)])
  | 1 => .inr (0, [.ref (ad V 86), .int (σ 85 1), .int (σ 85 2)])
  | 2 => .inl (V.2.1.2.2.2, 4, .inr (.inr (.inr (.inr (fun i => some (ad V (36 + 12 * i)))))))
  | 3 => .inr (3, [.ref (ad V 88), .int (σ 87 1)])
  | 4 => .inl (V.2.1.2.2.1, 60, .inl (σ 88))
  | 5 => .inr (2, [.ref (ad V 87), .ref (ad V 90), .ref (ad V 91), .ref (ad V 92), .int (σ 89 4), .int (σ 89 5)])
  | 6 => .inl (V.2.1.2.2.1, 30, .inl (σ 90))
  | 7 => .inl (V.2.1.1, 30, .inl (σ 91))
  | 8 => .inl (V.2.1.1, 30, .inl (σ 92))
  | 9 => .inr (5, [.ref (ad V 94), .ref (ad V 95), .ref (ad V 96), .int (σ 93 3), .ref (ad V 97), .int (σ 93 5), .ref (ad V 98), .int (σ 93 7), .int (σ 93 8), .int (σ 93 9), .ref (ad V 99), .int (σ 93 11), .int (σ 93 12)])
  | 10 => .inl (V.2.1.1, 313, .inl (σ 94))
  | 11 => .inl (V.2.1.1, 313, .inl (σ 95))
  | 12 => .inl (V.2.1.1, 1252, .inl (σ 96))
  | 13 => .inl (V.2.1.1, 313, .inl (σ 97))
  | 14 => .inl (V.2.1.1, 60, .inl (σ 98))
  | 15 => .inl (V.2.1.1, 93, .inl (σ 99))
  | _ => .inr (0, [])
def ent (V : EV) (σ : Mem) (k : Nat) : va_E := if k < 84 then memE V σ (12 * (k / 12)) (k % 12) else othE V σ (k - 84)
def wsOf (V : EV) (σ : Mem) : va_W := (List.range 100).map (fun k => (ad V k, ent V σ k))
theorem ws_at (V : EV) (σ : Mem) {k : Nat} (hk : k < 100) : (wsOf V σ)[k]? = some (ad V k, ent V σ k) := by
  simp [wsOf, hk]
theorem ws_inv {V : EV} {σ : Mem} {k : Nat} {q : Nat × va_E} (h : (wsOf V σ)[k]? = some q) : k < 100 ∧ q = (ad V k, ent V σ k) := by
  have hk : k < 100 := by
    have := (List.getElem?_eq_some_iff.mp h).1
    simpa [wsOf] using this
  rw [ws_at V σ hk] at h
  exact ⟨hk, (Option.some.inj h).symm⟩
theorem ent_mem (V : EV) (σ : Mem) {b j : Nat} (hb : b % 12 = 0) (h84 : b < 84) (hj : j < 12) : ent V σ (b + j) = memE V σ b j := by
  have h1 : 12 * ((b + j) / 12) = b := by omega
  have h2 : (b + j) % 12 = j := by omega
  unfold ent
  rw [if_pos (by omega), h1, h2]
theorem ent_oth (V : EV) (σ : Mem) {k : Nat} (hk : 84 ≤ k) : ent V σ k = othE V σ (k - 84) := by
  unfold ent
  rw [if_neg (by omega)]
theorem ent_congr (V : EV) {σ τ : Mem} {k : Nat} (hk : k < 100) (h : σ k = τ k) : ent V σ k = ent V τ k := by
  by_cases h84 : k < 84
  · obtain ⟨b, j, hb, hb84, hj, rfl⟩ : ∃ b j, b % 12 = 0 ∧ b < 84 ∧ j < 12 ∧ k = b + j := ⟨12 * (k / 12), k % 12, by omega, by omega, by omega, by omega⟩
    rw [ent_mem V σ hb hb84 hj, ent_mem V τ hb hb84 hj]
    rcases (show j = 0 ∨ j = 1 ∨ j = 2 ∨ j = 3 ∨ j = 4 ∨ j = 5 ∨ j = 6 ∨ j = 7 ∨ j = 8 ∨ j = 9 ∨ j = 10 ∨ j = 11 by omega) with rfl | rfl | rfl | rfl | rfl | rfl | rfl | rfl | rfl | rfl | rfl | rfl <;> simp only [memE] <;> (try simp only [Nat.add_zero] at h) <;> rw [h]
  · rw [ent_oth V σ (by omega), ent_oth V τ (by omega)]
    obtain ⟨j, hj, rfl⟩ : ∃ j, j < 16 ∧ k = 84 + j := ⟨k - 84, by omega, by omega⟩
    rcases (show j = 0 ∨ j = 1 ∨ j = 2 ∨ j = 3 ∨ j = 4 ∨ j = 5 ∨ j = 6 ∨ j = 7 ∨ j = 8 ∨ j = 9 ∨ j = 10 ∨ j = 11 ∨ j = 12 ∨ j = 13 ∨ j = 14 ∨ j = 15 by omega) with rfl | rfl | rfl | rfl | rfl | rfl | rfl | rfl | rfl | rfl | rfl | rfl | rfl | rfl | rfl | rfl <;> simp only [othE] <;> (try simp only [Nat.reduceAdd, Nat.add_zero] at h) <;> (try rw [h])
theorem up2_ne (σ : Mem) {k i : Nat} {v : Int32} {a : Nat} (h : a ≠ k) : up2 σ k i v a = σ a := by simp [up2, h]
theorem up2_eq (σ : Mem) (k i : Nat) (v : Int32) : up2 σ k i v k = upd (σ k) i v := by simp [up2]
theorem cpA_ne (σ : Mem) {a b n k : Nat} (h : k ≠ b) : cpA σ a b n k = σ k := by simp [cpA, h]
theorem cpA_eq (σ : Mem) (a b n : Nat) : cpA σ a b n b = va_cpy (σ a) (σ b) 0 0 n := by simp [cpA]
theorem ws_set (V : EV) {σ τ : Mem} {k : Nat} {e : va_E} (hk : k < 100) (he : ent V τ k = e) (ho : ∀ j, j ≠ k → τ j = σ j) : (wsOf V σ).set k (ad V k, e) = wsOf V τ := by
  apply List.ext_getElem?
  intro j
  by_cases hj : j < 100
  · by_cases hjk : j = k
    · subst hjk
      rw [List.getElem?_set_self (by simpa [wsOf] using hj), ws_at V τ hj, he]
    · rw [List.getElem?_set_ne (Ne.symm hjk), ws_at V σ hj, ws_at V τ hj, ent_congr V hj (ho j hjk)]
  · rw [List.getElem?_eq_none (by simpa [wsOf] using hj), List.getElem?_eq_none (by simpa [wsOf] using hj)]
/-! the locals: a list, a place a local; none where nothing is known -/
def lh (ls : Array Slot) (L : List (Option Value)) : Prop := ls.size = L.length ∧ lv_wf ls ∧ ∀ (i : Nat) (v : Value), L[i]? = some (some v) → ls[i]? = some (.val v) ∧ v.category = 1
theorem lh_store {ls : Array Slot} {L : List (Option Value)} {i : Nat} {v : Value} (h : lh ls L) (hi : i < L.length) (hc : v.category = 1) : ∃ ls', storeLocals ls i v = some ls' ∧ lh ls' (L.set i (some v)) := by
  obtain ⟨hs, hw, hl⟩ := h
  let l : List (Nat × Value) := (List.range L.length).filterMap (fun j => match L[j]? with | some (some w) => some (j, w) | _ => none)
  have hmem : ∀ j w, (j, w) ∈ l ↔ L[j]? = some (some w) := by
    intro j w
    constructor
    · intro hm
      obtain ⟨k, -, hk⟩ := List.mem_filterMap.mp hm
      split at hk
      · next w' hw' =>
        cases hk
        exact hw'
      · cases hk
    · intro hj
      refine List.mem_filterMap.mpr ⟨j, List.mem_range.mpr (List.getElem?_eq_some_iff.mp hj).1, ?_⟩
      rw [hj]
  obtain ⟨ls', e, h1, h2, h3⟩ := lv_store1 (v := v) (l := l) ⟨rfl, hw, fun q hq => (hl q.1 q.2 ((hmem q.1 q.2).mp hq)).1⟩ (by rw [hs]; exact hi) hc
  refine ⟨ls', e, by rw [h1, hs, List.length_set], h2, fun j w hj => ?_⟩
  by_cases hji : j = i
  · subst hji
    rw [List.getElem?_set_self hi] at hj
    cases hj
    exact ⟨h3 (j, v) List.mem_cons_self, hc⟩
  · rw [List.getElem?_set_ne (Ne.symm hji)] at hj
    have hcw := (hl j w hj).2
    refine ⟨h3 (j, w) (List.mem_cons_of_mem _ (List.mem_filter.mpr ⟨(hmem j w).mpr hj, ?_⟩)), hcw⟩
    simp [hji, hcw]
theorem lv_args_at : ∀ (vs : List Value) (k : Nat), (∀ v ∈ vs, v.category = 1) → ∀ (i : Nat) (v : Value), vs[i]? = some v → (k + i, v) ∈ lv_args k vs
  | [], k, _, i, v, h => by simp at h
  | w :: vs, k, hc, i, v, h => by
    have hw : ¬ w.category = 2 := by rw [hc w List.mem_cons_self]; decide
    simp only [lv_args, if_neg hw]
    cases i with
    | zero => cases h; exact List.mem_cons_self
    | succ i =>
      rw [show k + (i + 1) = (k + 1) + i by omega]
      exact List.mem_cons_of_mem _ (lv_args_at vs (k + 1) (fun v hv => hc v (List.mem_cons_of_mem _ hv)) i v h)
theorem lg_sl_len : ∀ (vs : List Value), (∀ v ∈ vs, v.category = 1) → (lg_sl vs).length = vs.length
  | [], _ => rfl
  | w :: vs, hc => by
    have hw : ¬ w.category = 2 := by rw [hc w List.mem_cons_self]; decide
    have ih := lg_sl_len vs (fun v hv => hc v (List.mem_cons_of_mem _ hv))
    simp only [lg_sl, List.flatMap_cons, if_neg hw, List.length_append, List.length_cons, List.length_nil]
    simp only [lg_sl] at ih
    rw [ih]
    omega
theorem lh_entry (vs : List Value) {n : Nat} (hc : ∀ v ∈ vs, v.category = 1) (h : vs.length ≤ n) : lh ((lg_sl vs ++ List.replicate (n - (lg_sl vs).length) Slot.unset).toArray) (vs.map some ++ List.replicate (n - vs.length) none) := by
  have h2 := lv_entry vs (n := n) (by rw [lg_sl_len vs hc]; exact h)
  refine ⟨by rw [h2.1]; simp; omega, h2.2.1, fun i v hv => ?_⟩
  have hi : vs[i]? = some v := by
    by_cases hl : i < (vs.map some).length
    · rw [List.getElem?_append_left hl, List.getElem?_map] at hv
      cases hq : vs[i]? with
      | none => rw [hq] at hv; cases hv
      | some w => rw [hq] at hv; cases hv; rfl
    · rw [List.getElem?_append_right (by omega)] at hv
      have := List.mem_of_getElem? hv
      have := List.eq_of_mem_replicate this
      cases this
  refine ⟨h2.2.2 (i, v) ?_, hc v (List.mem_of_getElem? hi)⟩
  have := lv_args_at vs 0 hc i v hi
  rwa [Nat.zero_add] at this
/-! THE JUDGEMENT: whatever heap holds the world, the machine at this place comes to its end -/
abbrev CX : Type := Program × Launch × Env × Room × State × MethodId × Array Value × List Frame × Method × Code × (Nat → Prop) × Nat × Nat × (State → Prop)
def GG (V : EV) (X : CX) (σ : Mem) (pc : Nat) (L : List (Option Value)) (st : List Value) : Prop := match X with
  | (p, l, e, R, s, m, args, below, meth, c, A, kc, ks, Q) => ∀ (H : Heap) (locs : List Loc) (ls : Array Slot), va_P V.1 clv (wsOf V σ) H → va_S A s.heap H locs → lh ls L → W p l e R s m args below meth c H locs kc ks Q (F0 m pc ls st)
/-- what the tables say of the classes, and the nest mates -/
def TK (V : EV) (U : State) : Prop := va_K V.1 clv (tyv V) U ∧ va_Nw (.methodLinkNest RX1 153 yX4_pageIndex "RetiredCells") U ∧ va_Nw (.methodLinkNest RX2 65 yX4_isWithin "RetiredCells") U ∧ va_Nw (.methodLinkNest RX2 68 yX4_pageIndex "RetiredCells") U
theorem TK.warm {V : EV} {s U : State} (h : TK V s) (hW : s.WarmedH U.vm) : TK V U := ⟨va_K.moved hW.alike h.1, va_Nw.warmM hW h.2.1, va_Nw.warmM hW h.2.2.1, va_Nw.warmM hW h.2.2.2⟩
theorem TK.same {V : EV} {s U : State} (h : TK V s) (hv : s.vm = U.vm) : TK V U := ⟨va_K.moved (by rw [hv]; exact Vm.Alike.refl _) h.1, va_Nw.same rfl hv h.2.1, va_Nw.same rfl hv h.2.2.1, va_Nw.same rfl hv h.2.2.2⟩
def INJ (V : EV) : Prop := ∀ i j, i < 100 → j < 100 → ad V i = ad V j → i = j
def AA (V : EV) : Nat → Prop := fun q => ∃ k, k < 100 ∧ q = ad V k
def wP (V : EV) (σ : Mem) (U : State) : Prop := va_P V.1 clv (wsOf V σ) U.heap ∧ TK V U ∧ INJ V
def wB (V : EV) (σ : Mem) (t : State) : Prop := va_P V.1 clv (wsOf V σ) t.heap
def OK (V : EV) (X : CX) (own : String) (cc : ByteArray) (nL : Nat) (R : Room) : Prop := match X with
  | (p, l, e, R', s, m, args, below, meth, c, A, kc, ks, Q) => R' = R ∧ p.tables.exec = Jvm.exec ∧ c.code = cc ∧ c.maxLocals = nL ∧ s.vm.findClass own = some m.cls ∧ (∀ w ∈ AW, w.before args s = true) ∧ TK V s ∧ INJ V ∧ (∀ k, k < 100 → A (ad V k)) ∧ kc ≤ R'.cells ∧ ks ≤ R'.slots
def RI (V : EV) (X : CX) (ret : Option FieldType) (P : Int32 → Mem → Prop) : Prop := match X with
  | (p, l, e, R', s, m, args, below, meth, c, A, kc, ks, Q) => meth.sig.returnType = ret ∧ meth.locks = false ∧ A = AA V ∧ kc = 0 ∧ ks = 0 ∧ Q = MQ below (va_Qi P (wB V) (AA V)) args s 0 0 (AA V)
def RV (V : EV) (X : CX) (P : Mem → Prop) : Prop := match X with
  | (p, l, e, R', s, m, args, below, meth, c, A, kc, ks, Q) => meth.sig.returnType = none ∧ meth.locks = false ∧ A = AA V ∧ kc = 0 ∧ ks = 0 ∧ Q = MQ below (va_Qv P (wB V) (AA V)) args s 0 0 (AA V)
theorem ws_D {V : EV} {A : Nat → Prop} (hi : INJ V) (hA : ∀ k, k < 100 → A (ad V k)) (σ : Mem) : va_D A (wsOf V σ) := by
  refine ⟨fun i j p q h1 h2 h => ?_, fun k q h => ?_⟩
  · obtain ⟨a1, rfl⟩ := ws_inv h1
    obtain ⟨a2, rfl⟩ := ws_inv h2
    exact hi i j a1 a2 h
  · obtain ⟨a1, rfl⟩ := ws_inv h
    exact hA k a1
