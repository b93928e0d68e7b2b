/-! PURE PART: what holds of the reference's state; when a memory of the class holds it -/
def sum5 (z : Z) (b : Nat) : Int32 := 0 + z (b + 0) + z (b + 1) + z (b + 2) + z (b + 3) + z (b + 4)
def zhas (z : Z) (p : Nat) : Prop := ¬ z (103 + 4 * p + 0) = -5
def Iz (z : Z) : Prop :=
  (∃ n, n ≤ 12 ∧ z 10 = nI n ∧ ∀ k, k < n → ∃ c, c < 40 ∧ z (11 + k) = nI c) ∧
  (∃ c, c < 40 ∧ z 9 = nI c) ∧
  (0 < z 1) ∧
  (∀ p, p < 50 → (z (103 + 4 * p + 0) = -5 ∧ z (103 + 4 * p + 1) = -5 ∧ z (103 + 4 * p + 2) = 0) ∨ ∃ c, c < 40 ∧ z (103 + 4 * p + 0) = nI c ∧ z (23 + c) = 1 ∧ 0 ≤ z (103 + 4 * p + 1) ∧ isZ (z (103 + 4 * p + 2))) ∧
  (∀ p q, p < 50 → q < 50 → zhas z p → z (103 + 4 * p + 0) = z (103 + 4 * q + 0) → p = q) ∧
  (∀ c, c < 40 → z (23 + c) = 0 ∨ z (23 + c) = 2 ∨ (z (23 + c) = 1 ∧ ∃ p, p < 50 ∧ z (103 + 4 * p + 0) = nI c)) ∧
  (z 6 = sum5 z 308 ∧ z 7 = sum5 z 303)
/-- no free cell is bad -/
def Fz (z : Z) : Prop := ∀ c, c < 40 → z (23 + c) = 0 → ¬ bad z c
/-- the class's memory at b holds z -/
def Rel (σ : Mem) (b : Nat) (z : Z) : Prop :=
  (∀ c, c < 40 → σ (b + 1) c = if z (23 + c) = 2 then 1 else 0) ∧
  (∀ c, c < 40 → σ (b + 2) c = z (63 + c)) ∧
  (∀ c, c < 40 → σ (b + 3) c = zpg z (nI c) 50) ∧
  (∀ p, p < 50 → σ (b + 4) p = z (103 + 4 * p + 0)) ∧
  (∀ p, p < 50 → zhas z p → σ (b + 5) p = z (103 + 4 * p + 1)) ∧
  (∀ p, p < 50 → σ (b + 6) p = z (103 + 4 * p + 2)) ∧
  (∀ k, k < 5 → σ (b + 8) k = z (303 + k)) ∧
  (∀ k, k < 5 → σ (b + 9) k = z (308 + k)) ∧
  (∀ k, k < 12 → σ (b + 10) k = z (11 + k)) ∧
  (∀ k, k < 3 → σ (b + 11) k = z k) ∧
  σ b 10 = z 10 ∧ σ b 12 = z 3 ∧ σ b 13 = z 9 ∧ σ b 14 = z 4 ∧ σ b 15 = z 5 ∧ σ b 16 = z 8
theorem Rel.ret {σ : Mem} {b : Nat} {z : Z} (h : Rel σ b z) : ∀ c, c < 40 → σ (b + 1) c = if z (23 + c) = 2 then 1 else 0 := h.1
theorem Rel.err {σ : Mem} {b : Nat} {z : Z} (h : Rel σ b z) : ∀ c, c < 40 → σ (b + 2) c = z (63 + c) := h.2.1
theorem Rel.own {σ : Mem} {b : Nat} {z : Z} (h : Rel σ b z) : ∀ c, c < 40 → σ (b + 3) c = zpg z (nI c) 50 := h.2.2.1
theorem Rel.cel {σ : Mem} {b : Nat} {z : Z} (h : Rel σ b z) : ∀ p, p < 50 → σ (b + 4) p = z (103 + 4 * p + 0) := h.2.2.2.1
theorem Rel.val {σ : Mem} {b : Nat} {z : Z} (h : Rel σ b z) : ∀ p, p < 50 → zhas z p → σ (b + 5) p = z (103 + 4 * p + 1) := h.2.2.2.2.1
theorem Rel.pin {σ : Mem} {b : Nat} {z : Z} (h : Rel σ b z) : ∀ p, p < 50 → σ (b + 6) p = z (103 + 4 * p + 2) := h.2.2.2.2.2.1
theorem Rel.los {σ : Mem} {b : Nat} {z : Z} (h : Rel σ b z) : ∀ k, k < 5 → σ (b + 8) k = z (303 + k) := h.2.2.2.2.2.2.1
theorem Rel.mov {σ : Mem} {b : Nat} {z : Z} (h : Rel σ b z) : ∀ k, k < 5 → σ (b + 9) k = z (308 + k) := h.2.2.2.2.2.2.2.1
theorem Rel.lis {σ : Mem} {b : Nat} {z : Z} (h : Rel σ b z) : ∀ k, k < 12 → σ (b + 10) k = z (11 + k) := h.2.2.2.2.2.2.2.2.1
theorem Rel.set {σ : Mem} {b : Nat} {z : Z} (h : Rel σ b z) : ∀ k, k < 3 → σ (b + 11) k = z k := h.2.2.2.2.2.2.2.2.2.1
theorem Rel.len {σ : Mem} {b : Nat} {z : Z} (h : Rel σ b z) : σ b 10 = z 10 := h.2.2.2.2.2.2.2.2.2.2.1
theorem Rel.day {σ : Mem} {b : Nat} {z : Z} (h : Rel σ b z) : σ b 12 = z 3 := h.2.2.2.2.2.2.2.2.2.2.2.1
theorem Rel.las {σ : Mem} {b : Nat} {z : Z} (h : Rel σ b z) : σ b 13 = z 9 := h.2.2.2.2.2.2.2.2.2.2.2.2.1
theorem Rel.ers {σ : Mem} {b : Nat} {z : Z} (h : Rel σ b z) : σ b 14 = z 4 := h.2.2.2.2.2.2.2.2.2.2.2.2.2.1
theorem Rel.hrd {σ : Mem} {b : Nat} {z : Z} (h : Rel σ b z) : σ b 15 = z 5 := h.2.2.2.2.2.2.2.2.2.2.2.2.2.2.1
theorem Rel.sta {σ : Mem} {b : Nat} {z : Z} (h : Rel σ b z) : σ b 16 = z 8 := h.2.2.2.2.2.2.2.2.2.2.2.2.2.2.2
/-! the page in a cell -/
theorem zpg_cases (z : Z) (x : Int32) : ∀ n, (zpg z x n = -5 ∧ ∀ q, q < n → ¬ z (103 + 4 * q + 0) = x) ∨ ∃ p, p < n ∧ zpg z x n = nI p ∧ z (103 + 4 * p + 0) = x
  | 0 => Or.inl ⟨rfl, fun q h => absurd h (Nat.not_lt_zero _)⟩
  | n + 1 => by
    by_cases h : z (103 + 4 * n + 0) = x
    · exact Or.inr ⟨n, Nat.lt_succ_self _, by rw [zpg, if_pos h], h⟩
    · rcases zpg_cases z x n with ⟨e, q⟩ | ⟨p, hp, e, q⟩
      · refine Or.inl ⟨by rw [zpg, if_neg h, e], fun i hi => ?_⟩
        rcases Nat.lt_succ_iff_lt_or_eq.mp hi with w | w
        · exact q i w
        · rw [w]; exact h
      · exact Or.inr ⟨p, by omega, by rw [zpg, if_neg h, e], q⟩
theorem zpg_congr {z w : Z} {x : Int32} : ∀ n, (∀ q, q < n → (z (103 + 4 * q + 0) = x ↔ w (103 + 4 * q + 0) = x)) → zpg z x n = zpg w x n
  | 0, _ => rfl
  | n + 1, h => by
    have ih := zpg_congr n (fun q hq => h q (by omega))
    by_cases e : z (103 + 4 * n + 0) = x
    · rw [zpg, zpg, if_pos e, if_pos ((h n (by omega)).mp e)]
    · rw [zpg, zpg, if_neg e, if_neg (fun q => e ((h n (by omega)).mpr q)), ih]
theorem zpg_none {z : Z} {x : Int32} {n : Nat} (h : ∀ q, q < n → ¬ z (103 + 4 * q + 0) = x) : zpg z x n = -5 := by
  rcases zpg_cases z x n with ⟨e, -⟩ | ⟨p, hp, -, q⟩
  · exact e
  · exact absurd q (h p hp)
theorem zpg_one {z : Z} {x : Int32} {n p : Nat} (hp : p < n) (e : z (103 + 4 * p + 0) = x) (h : ∀ q, q < n → z (103 + 4 * q + 0) = x → q = p) : zpg z x n = nI p := by
  rcases zpg_cases z x n with ⟨-, q⟩ | ⟨q, hq, e2, w⟩
  · exact absurd e (q p hp)
  · rw [e2, h q hq w]
/-- a used cell has its page; a page its used cell -/
theorem Iz.pg {z : Z} (h : Iz z) {c : Nat} (hc : c < 40) : (zpg z (nI c) 50 = -5 ∧ ¬ z (23 + c) = 1 ∧ ∀ q, q < 50 → ¬ z (103 + 4 * q + 0) = nI c) ∨ ∃ p, p < 50 ∧ zpg z (nI c) 50 = nI p ∧ z (103 + 4 * p + 0) = nI c ∧ z (23 + c) = 1 ∧ ∀ q, q < 50 → z (103 + 4 * q + 0) = nI c → q = p := by
  obtain ⟨-, -, -, hpg, hinj, hcell, -⟩ := h
  rcases zpg_cases z (nI c) 50 with ⟨e, q⟩ | ⟨p, hp, e, q⟩
  · refine Or.inl ⟨e, fun h1 => ?_, q⟩
    rcases hcell c hc with w | w | ⟨-, p, hp, w⟩
    · rw [w] at h1; exact absurd h1 (by decide)
    · rw [w] at h1; exact absurd h1 (by decide)
    · exact q p hp w
  · refine Or.inr ⟨p, hp, e, q, ?_, fun i hi w => ?_⟩
    · rcases hpg p hp with ⟨w, -⟩ | ⟨c2, hc2, w, w2, -⟩
      · rw [q] at w; exact absurd w (nI_nm5 (by omega))
      · rw [q] at w
        have := nI_inj (by omega) (by omega) w
        rw [this]; exact w2
    · refine (hinj p i hp hi ?_ (by rw [q, w])).symm
      unfold zhas
      rw [q]
      exact nI_nm5 (by omega)
theorem Iz.nohas {z : Z} (h : Iz z) {p : Nat} (hp : p < 50) (hn : ¬ zhas z p) : z (103 + 4 * p + 0) = -5 ∧ z (103 + 4 * p + 1) = -5 ∧ z (103 + 4 * p + 2) = 0 := by
  rcases h.2.2.2.1 p hp with w | ⟨c, hc, w, -⟩
  · exact w
  · exact absurd (show zhas z p by unfold zhas; rw [w]; exact nI_nm5 (by omega)) hn
theorem Iz.has {z : Z} (h : Iz z) {p : Nat} (hp : p < 50) (hn : zhas z p) : ∃ c, c < 40 ∧ z (103 + 4 * p + 0) = nI c ∧ z (23 + c) = 1 ∧ 0 ≤ z (103 + 4 * p + 1) ∧ isZ (z (103 + 4 * p + 2)) := by
  rcases h.2.2.2.1 p hp with w | w
  · exact absurd w.1 hn
  · exact w
theorem Iz.how {z : Z} (h : Iz z) {c : Nat} (hc : c < 40) : z (23 + c) = 0 ∨ z (23 + c) = 2 ∨ z (23 + c) = 1 := by
  rcases h.2.2.2.2.2.1 c hc with w | w | w
  · exact Or.inl w
  · exact Or.inr (Or.inl w)
  · exact Or.inr (Or.inr w.1)
/-! THE CLASS'S LEAVES over a memory that holds z: they are asked of the memory at 0 -/
theorem hasCell_ok {σ : Mem} {z : Z} {y : Int32} {P : Int32 → Prop} {p : Nat} (R : Rel σ 0 z) (I : Iz z) (hy : y = nI p) (hp : p < 50) (h1 : zhas z p → P 1) (h0 : ¬ zhas z p → P 0) : wp_X1_hasCell σ y P := by
  subst hy
  unfold wp_X1_hasCell
  rw [clI (by omega), show σ 4 p = _ from R.cel p hp]
  refine ⟨inI hp (by decide), fun q => h0 (fun w => ?_), fun q => h1 (fun w => ?_)⟩
  · obtain ⟨c, hc, e, -⟩ := I.has hp w
    rw [e] at q
    exact absurd q (nI_nn (by omega))
  · rw [w] at q
    exact q m5_lt
theorem isGivable_ok {σ : Mem} {z : Z} {y nt : Int32} {P : Int32 → Prop} {c : Nat} (R : Rel σ 0 z) (I : Iz z) (hy : y = nI c) (hc : c < 40) (hnt : z (23 + c) = 0 → ¬ nI c = nt) (h1 : zcan z False nt c → P 1) (h0 : ¬ zcan z False nt c → P 0) : wp_X1_isGivable σ y P := by
  subst hy
  unfold wp_X1_isGivable
  rw [clI (by omega), show σ 1 c = _ from R.ret c hc, show σ 2 c = _ from R.err c hc, show σ 3 c = _ from R.own c hc, show σ 11 0 = _ from R.set 0 (by decide)]
  have hin := inI hc (n := 40) (by decide)
  refine ⟨hin, fun q => ⟨hin, fun q2 => h0 (fun w => ?_), fun q2 => ⟨hin, fun q3 => h0 (fun w => ?_), fun q3 => h1 ?_⟩⟩, fun q => h0 (fun w => ?_)⟩
  · rcases I.pg hc with ⟨e, -⟩ | ⟨p, hp, e, e2, e3, -⟩
    · rw [e] at q2; exact absurd q2 m5_nge
    · rw [w.1] at e3; exact absurd e3 (by decide)
  · rcases w.2.2 with w3 | w3
    · exact w3
    · exact w3 ⟨by rw [w.1]; decide, Int32.not_lt.mpr q3⟩
  · have h20 : ¬ z (23 + c) = 2 := fun e => by rw [if_pos e] at q; exact absurd q n10
    have hz0 : z (23 + c) = 0 := by
      rcases I.how hc with w | w | w
      · exact w
      · exact absurd w h20
      · rcases I.pg hc with ⟨e, e2, -⟩ | ⟨p, hp, e, -⟩
        · exact absurd w e2
        · rw [e] at q2; exact absurd (nI_ge0 (by omega)) q2
    exact ⟨hz0, hnt hz0, Or.inr (fun hb => hb.2 (Int32.not_le.mp q3))⟩
  · rw [w.1] at q
    exact q rfl
