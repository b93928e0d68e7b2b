/-! PURE PART: numbers, loops -/
abbrev Z : Type := Nat → Int32
theorem n10 : ¬ (1 : Int32) = 0 := by decide
theorem n01 : ¬ (0 : Int32) = 1 := by decide
theorem nI_inj {a b : Nat} (ha : a < 2 ^ 31) (hb : b < 2 ^ 31) (h : nI a = nI b) : a = b := (nI_eq ha hb).mp h
theorem nI_nm5 {a : Nat} (ha : a < 2 ^ 31) : ¬ nI a = -5 := by
  intro h
  have := congrArg Int32.toInt h
  rw [nI_toInt ha] at this
  have h5 : (-5 : Int32).toInt = -5 := by decide
  omega
theorem nI_nn {a : Nat} (ha : a < 2 ^ 31) : ¬ nI a < 0 := nI_pos ha
theorem m5_lt : (-5 : Int32) < 0 := by decide
theorem m5_nge : ¬ (0 : Int32) ≤ -5 := by decide
theorem nI_ge0 {a : Nat} (ha : a < 2 ^ 31) : (0 : Int32) ≤ nI a := nI_pos' ha
theorem ltI {a b : Nat} (ha : a < 2 ^ 31) (hb : b < 2 ^ 31) : nI a < nI b ↔ a < b := nI_ltI ha hb
theorem leI {a b : Nat} (ha : a < 2 ^ 31) (hb : b < 2 ^ 31) : nI a ≤ nI b ↔ a ≤ b := nI_leI ha hb
theorem ix1 {a k n : Nat} (h : a + k < n) (hn : n < 2 ^ 31) : vp_in (nI a + nI k) n ∧ (nI a + nI k).toNatClampNeg = a + k := by
  rw [nI_add]
  exact ⟨vp_in_nI h hn, nI_clamp (by omega)⟩
theorem ixp {p j : Nat} (hp : p < 50) (hj : j < 4) : vp_in (((103 : Int32) + 4 * nI p) + nI j) 313 ∧ (((103 : Int32) + 4 * nI p) + nI j).toNatClampNeg = 103 + 4 * p + j := by
  have e : ((103 : Int32) + 4 * nI p) + nI j = nI (103 + 4 * p + j) := by
    show (nI 103 + nI 4 * nI p) + nI j = _
    rw [pk_mul, nI_add, nI_add]
  rw [e]
  exact ⟨vp_in_nI (by omega) (by omega), nI_clamp (by omega)⟩
theorem inI {k n : Nat} (h : k < n) (hn : n < 2 ^ 31) : vp_in (nI k) n := vp_in_nI h hn
theorem clI {k : Nat} (h : k < 2 ^ 31) : (nI k).toNatClampNeg = k := nI_clamp h
/-! loops -/
theorem lq1_inv {F : (Int32 → Prop) → Int32 → Prop} (N : Nat) (I : Nat → Prop) (hs : ∀ k rec, k < N → I k → (I (k + 1) → rec (nI k + 1)) → F rec (nI k)) (he : ∀ rec, I N → F rec (nI N)) {x : Int32} (h0 : I 0) (hx : x = nI 0) : lq1 F x := by
  intro P hP
  have key : ∀ n k, k + n = N → I k → P (nI k) := by
    intro n
    induction n with
    | zero => intro k hk hI; have : k = N := by omega
              subst this; exact hP _ (he P hI)
    | succ n ih => intro k hk hI; exact hP _ (hs k P (by omega) hI (fun h => by rw [nI_1]; exact ih (k + 1) (by omega) h))
  rw [hx]
  exact key N 0 (by omega) h0
theorem lq2_inv {A : Type} {F : (A → Int32 → Prop) → A → Int32 → Prop} (N : Nat) (I : Nat → A → Prop) (hs : ∀ k a rec, k < N → I k a → (∀ a', I (k + 1) a' → rec a' (nI k + 1)) → F rec a (nI k)) (he : ∀ a rec, I N a → F rec a (nI N)) {a : A} {x : Int32} (h0 : I 0 a) (hx : x = nI 0) : lq2 F a x := by
  intro P hP
  have key : ∀ n k a, k + n = N → I k a → P a (nI k) := by
    intro n
    induction n with
    | zero => intro k a hk hI; have : k = N := by omega
              subst this; exact hP _ _ (he a P hI)
    | succ n ih => intro k a hk hI; exact hP _ _ (hs k a P (by omega) hI (fun a' h => by rw [nI_1]; exact ih (k + 1) a' (by omega) h))
  rw [hx]
  exact key N 0 a (by omega) h0
/-- a loop that goes down, from N - 1 to 0, and ends below 0 -/
theorem lq2_down {A : Type} {F : (A → Int32 → Prop) → A → Int32 → Prop} (N : Nat) (hN : N < 2 ^ 31) (I : Nat → A → Prop) (hs : ∀ k a rec, k < N → I (k + 1) a → (∀ a', I k a' → rec a' (nI k + (-1))) → F rec a (nI k)) (he : ∀ a rec x, x < 0 → I 0 a → F rec a x) {a : A} {x : Int32} (h0 : I N a) (hx : x = nI N + (-1)) : lq2 F a x := by
  intro P hP
  have hm : ∀ k, nI (k + 1) + (-1) = nI k := fun k => pk_m1 k
  have key : ∀ k a, k ≤ N → I k a → P a (nI k + (-1)) := by
    intro k
    induction k with
    | zero => intro a hk hI; exact hP _ _ (he a P _ (by decide) hI)
    | succ k ih => intro a hk hI; rw [hm]; exact hP _ _ (hs k a P (by omega) hI (fun a' h => ih a' (by omega) h))
  rw [hx]
  exact key N a (Nat.le_refl _) h0
theorem lq3_inv {A B : Type} {F : (A → B → Int32 → Prop) → A → B → Int32 → Prop} (N : Nat) (I : Nat → A → B → Prop) (hs : ∀ k a b rec, k < N → I k a b → (∀ a' b', I (k + 1) a' b' → rec a' b' (nI k + 1)) → F rec a b (nI k)) (he : ∀ a b rec, I N a b → F rec a b (nI N)) {a : A} {b : B} {x : Int32} (h0 : I 0 a b) (hx : x = nI 0) : lq3 F a b x := by
  intro P hP
  have key : ∀ n k a b, k + n = N → I k a b → P a b (nI k) := by
    intro n
    induction n with
    | zero => intro k a b hk hI; have : k = N := by omega
              subst this; exact hP _ _ _ (he a b P hI)
    | succ n ih => intro k a b hk hI; exact hP _ _ _ (hs k a b P (by omega) hI (fun a' b' h => by rw [nI_1]; exact ih (k + 1) a' b' (by omega) h))
  rw [hx]
  exact key N 0 a b (by omega) h0
theorem ge_no {n k : Nat} (h : k < n) (hn : n < 2 ^ 31) {A : Prop} : nI n ≤ nI k → A := fun q => absurd q (nI_ge h hn)
theorem ge_yes {n : Nat} {A : Prop} : (¬ nI n ≤ nI n) → A := fun q => absurd (Int32.le_refl _) q
/-! THE STATE as the reference holds it: its numbers; what is read off it -/
def zpg (z : Z) (c : Int32) : Nat → Int32
  | 0 => -5
  | n + 1 => if z (103 + 4 * n + 0) = c then nI n else zpg z c n
def zcn (z : Z) (h : Int32) : Nat → Nat
  | 0 => 0
  | n + 1 => zcn z h n + (if z (23 + n) = h then 1 else 0)
def bad (z : Z) (c : Nat) : Prop := ¬ z (23 + c) = 2 ∧ ¬ z (63 + c) < z 0
theorem zcn_le (z : Z) (h : Int32) : ∀ n, zcn z h n ≤ n
  | 0 => Nat.le_refl _
  | n + 1 => by
    have := zcn_le z h n
    unfold zcn
    split <;> omega
/-- the cell that is looked at as the k-th -/
def zat (z : Z) (k : Nat) : Nat := if z 2 = 2 then ((z 9).toNatClampNeg + 1 + k) % 40 else k
/-- a cell that can be given: of all, or of those that are not bad and not one cell -/
def zcan (z : Z) (all : Prop) (nt : Int32) (c : Nat) : Prop := z (23 + c) = 0 ∧ ¬ nI c = nt ∧ (all ∨ ¬ bad z c)
/-- the j-th is no worse than the k-th -/
def zbet (z : Z) (j k : Nat) : Prop := if z 2 = 1 then (z (63 + j) < z (63 + k) ∨ (z (63 + j) = z (63 + k) ∧ j ≤ k)) else j ≤ k
/-- r is the best of those places that are looked at -/
def Best (z : Z) (all : Prop) (nt : Int32) (D : Nat → Prop) (r : Int32) : Prop :=
  (r = -5 ∧ ∀ k, k < 40 → D k → ¬ zcan z all nt (zat z k)) ∨ ∃ j, j < 40 ∧ D j ∧ r = nI (zat z j) ∧ zcan z all nt (zat z j) ∧ ∀ k, k < 40 → D k → zcan z all nt (zat z k) → zbet z j k
