/-! PURE PART: one change, and that a memory (at 0) holds a state; the owners of cells apart -/
def RelN (σ : Mem) (z : Z) : Prop :=
  (∀ c, c < 40 → σ 1 c = if z (23 + c) = 2 then 1 else 0) ∧
  (∀ c, c < 40 → σ 2 c = z (63 + c)) ∧
  (∀ p, p < 50 → σ 4 p = z (103 + 4 * p + 0)) ∧
  (∀ p, p < 50 → zhas z p → σ 5 p = z (103 + 4 * p + 1)) ∧
  (∀ p, p < 50 → σ 6 p = z (103 + 4 * p + 2)) ∧
  (∀ k, k < 5 → σ 8 k = z (303 + k)) ∧
  (∀ k, k < 5 → σ 9 k = z (308 + k)) ∧
  (∀ k, k < 12 → σ 10 k = z (11 + k)) ∧
  (∀ k, k < 3 → σ 11 k = z k) ∧
  σ 0 10 = z 10 ∧ σ 0 12 = z 3 ∧ σ 0 13 = z 9 ∧ σ 0 14 = z 4 ∧ σ 0 15 = z 5 ∧ σ 0 16 = z 8
def Own (σ : Mem) (z : Z) : Prop := ∀ c, c < 40 → σ 3 c = zpg z (nI c) 50
theorem Rel_iff {σ : Mem} {z : Z} : Rel σ 0 z ↔ RelN σ z ∧ Own σ z := by
  constructor
  · rintro ⟨a1, a2, a3, a4, a5, a6, a7, a8, a9, a10, a11⟩
    exact ⟨⟨a1, a2, a4, a5, a6, a7, a8, a9, a10, a11⟩, a3⟩
  · rintro ⟨⟨a1, a2, a4, a5, a6, a7, a8, a9, a10, a11⟩, a3⟩
    exact ⟨a1, a2, a3, a4, a5, a6, a7, a8, a9, a10, a11⟩
theorem Own_congr {σ τ : Mem} {z w : Z} (h : Own σ z) (h3 : τ 3 = σ 3) (hz : ∀ q, q < 50 → w (103 + 4 * q + 0) = z (103 + 4 * q + 0)) : Own τ w := by
  intro c hc
  rw [h3, h c hc]
  exact zpg_congr 50 (fun q hq => by rw [hz q hq])
theorem RelN_ret {σ : Mem} {z : Z} {i : Nat} {v w : Int32} (R : RelN σ z) (hi : i < 40) (hw : w = if v = 2 then 1 else 0) : RelN (up2 σ 1 i w) (upd z (23 + i) v) := by
  obtain ⟨hret, herr, hcel, hval, hpin, hlos, hmov, hlis, hset, hlen, hday, hlas, hers, hhrd, hsta⟩ := R
  refine ⟨fun x hx => ?_, fun x hx => ?_, fun x hx => ?_, fun x hx hh => ?_, fun x hx => ?_, fun x hx => ?_, fun x hx => ?_, fun x hx => ?_, fun x hx => ?_, ?_, ?_, ?_, ?_, ?_, ?_⟩
  · by_cases e : x = i
    · subst e
      rw [up2_eq, pk_us, pk_us]; exact hw
    · simp (disch := omega) only [up2_eq, pk_un]
      exact hret x hx
  · simp (disch := omega) only [up2_ne, pk_un]
    exact herr x hx
  · simp (disch := omega) only [up2_ne, pk_un]
    exact hcel x hx
  · unfold zhas at hh
    simp (disch := omega) only [pk_un] at hh
    simp (disch := omega) only [up2_ne, pk_un]
    exact hval x hx hh
  · simp (disch := omega) only [up2_ne, pk_un]
    exact hpin x hx
  · simp (disch := omega) only [up2_ne, pk_un]
    exact hlos x hx
  · simp (disch := omega) only [up2_ne, pk_un]
    exact hmov x hx
  · simp (disch := omega) only [up2_ne, pk_un]
    exact hlis x hx
  · simp (disch := omega) only [up2_ne, pk_un]
    exact hset x hx
  · simp (disch := omega) only [up2_ne, pk_un]
    exact hlen
  · simp (disch := omega) only [up2_ne, pk_un]
    exact hday
  · simp (disch := omega) only [up2_ne, pk_un]
    exact hlas
  · simp (disch := omega) only [up2_ne, pk_un]
    exact hers
  · simp (disch := omega) only [up2_ne, pk_un]
    exact hhrd
  · simp (disch := omega) only [up2_ne, pk_un]
    exact hsta
theorem RelN_err {σ : Mem} {z : Z} {i : Nat} {v : Int32} (R : RelN σ z) (hi : i < 40) : RelN (up2 σ 2 i v) (upd z (63 + i) v) := by
  obtain ⟨hret, herr, hcel, hval, hpin, hlos, hmov, hlis, hset, hlen, hday, hlas, hers, hhrd, hsta⟩ := R
  refine ⟨fun x hx => ?_, fun x hx => ?_, fun x hx => ?_, fun x hx hh => ?_, fun x hx => ?_, fun x hx => ?_, fun x hx => ?_, fun x hx => ?_, fun x hx => ?_, ?_, ?_, ?_, ?_, ?_, ?_⟩
  · simp (disch := omega) only [up2_ne, pk_un]
    exact hret x hx
  · by_cases e : x = i
    · subst e
      rw [up2_eq, pk_us, pk_us]
    · simp (disch := omega) only [up2_eq, pk_un]
      exact herr x hx
  · simp (disch := omega) only [up2_ne, pk_un]
    exact hcel x hx
  · unfold zhas at hh
    simp (disch := omega) only [pk_un] at hh
    simp (disch := omega) only [up2_ne, pk_un]
    exact hval x hx hh
  · simp (disch := omega) only [up2_ne, pk_un]
    exact hpin x hx
  · simp (disch := omega) only [up2_ne, pk_un]
    exact hlos x hx
  · simp (disch := omega) only [up2_ne, pk_un]
    exact hmov x hx
  · simp (disch := omega) only [up2_ne, pk_un]
    exact hlis x hx
  · simp (disch := omega) only [up2_ne, pk_un]
    exact hset x hx
  · simp (disch := omega) only [up2_ne, pk_un]
    exact hlen
  · simp (disch := omega) only [up2_ne, pk_un]
    exact hday
  · simp (disch := omega) only [up2_ne, pk_un]
    exact hlas
  · simp (disch := omega) only [up2_ne, pk_un]
    exact hers
  · simp (disch := omega) only [up2_ne, pk_un]
    exact hhrd
  · simp (disch := omega) only [up2_ne, pk_un]
    exact hsta
theorem RelN_cel {σ : Mem} {z : Z} {i : Nat} {v : Int32} (R : RelN σ z) (hi : i < 50) (hv : ¬ v = -5 → σ 5 i = z (103 + 4 * i + 1)) : RelN (up2 σ 4 i v) (upd z (103 + 4 * i + 0) v) := by
  obtain ⟨hret, herr, hcel, hval, hpin, hlos, hmov, hlis, hset, hlen, hday, hlas, hers, hhrd, hsta⟩ := R
  refine ⟨fun x hx => ?_, fun x hx => ?_, fun x hx => ?_, fun x hx hh => ?_, fun x hx => ?_, fun x hx => ?_, fun x hx => ?_, fun x hx => ?_, fun x hx => ?_, ?_, ?_, ?_, ?_, ?_, ?_⟩
  · simp (disch := omega) only [up2_ne, pk_un]
    exact hret x hx
  · simp (disch := omega) only [up2_ne, pk_un]
    exact herr x hx
  · by_cases e : x = i
    · subst e
      rw [up2_eq, pk_us, pk_us]
    · simp (disch := omega) only [up2_eq, pk_un]
      exact hcel x hx
  · unfold zhas at hh
    by_cases e : x = i
    · subst e; rw [pk_us] at hh; simp (disch := omega) only [up2_ne, pk_un]; exact hv hh
    · simp (disch := omega) only [pk_un] at hh
      simp (disch := omega) only [up2_ne, pk_un]
      exact hval x hx hh
  · simp (disch := omega) only [up2_ne, pk_un]
    exact hpin x hx
  · simp (disch := omega) only [up2_ne, pk_un]
    exact hlos x hx
  · simp (disch := omega) only [up2_ne, pk_un]
    exact hmov x hx
  · simp (disch := omega) only [up2_ne, pk_un]
    exact hlis x hx
  · simp (disch := omega) only [up2_ne, pk_un]
    exact hset x hx
  · simp (disch := omega) only [up2_ne, pk_un]
    exact hlen
  · simp (disch := omega) only [up2_ne, pk_un]
    exact hday
  · simp (disch := omega) only [up2_ne, pk_un]
    exact hlas
  · simp (disch := omega) only [up2_ne, pk_un]
    exact hers
  · simp (disch := omega) only [up2_ne, pk_un]
    exact hhrd
  · simp (disch := omega) only [up2_ne, pk_un]
    exact hsta
theorem RelN_val {σ : Mem} {z : Z} {i : Nat} {v : Int32} (R : RelN σ z) (hi : i < 50) : RelN (up2 σ 5 i v) (upd z (103 + 4 * i + 1) v) := by
  obtain ⟨hret, herr, hcel, hval, hpin, hlos, hmov, hlis, hset, hlen, hday, hlas, hers, hhrd, hsta⟩ := R
  refine ⟨fun x hx => ?_, fun x hx => ?_, fun x hx => ?_, fun x hx hh => ?_, fun x hx => ?_, fun x hx => ?_, fun x hx => ?_, fun x hx => ?_, fun x hx => ?_, ?_, ?_, ?_, ?_, ?_, ?_⟩
  · simp (disch := omega) only [up2_ne, pk_un]
    exact hret x hx
  · simp (disch := omega) only [up2_ne, pk_un]
    exact herr x hx
  · simp (disch := omega) only [up2_ne, pk_un]
    exact hcel x hx
  · by_cases e : x = i
    · subst e
      rw [up2_eq, pk_us, pk_us]
    · unfold zhas at hh
      simp (disch := omega) only [pk_un] at hh
      simp (disch := omega) only [up2_eq, pk_un]
      exact hval x hx hh
  · simp (disch := omega) only [up2_ne, pk_un]
    exact hpin x hx
  · simp (disch := omega) only [up2_ne, pk_un]
    exact hlos x hx
  · simp (disch := omega) only [up2_ne, pk_un]
    exact hmov x hx
  · simp (disch := omega) only [up2_ne, pk_un]
    exact hlis x hx
  · simp (disch := omega) only [up2_ne, pk_un]
    exact hset x hx
  · simp (disch := omega) only [up2_ne, pk_un]
    exact hlen
  · simp (disch := omega) only [up2_ne, pk_un]
    exact hday
  · simp (disch := omega) only [up2_ne, pk_un]
    exact hlas
  · simp (disch := omega) only [up2_ne, pk_un]
    exact hers
  · simp (disch := omega) only [up2_ne, pk_un]
    exact hhrd
  · simp (disch := omega) only [up2_ne, pk_un]
    exact hsta
theorem RelN_pin {σ : Mem} {z : Z} {i : Nat} {v : Int32} (R : RelN σ z) (hi : i < 50) : RelN (up2 σ 6 i v) (upd z (103 + 4 * i + 2) v) := by
  obtain ⟨hret, herr, hcel, hval, hpin, hlos, hmov, hlis, hset, hlen, hday, hlas, hers, hhrd, hsta⟩ := R
  refine ⟨fun x hx => ?_, fun x hx => ?_, fun x hx => ?_, fun x hx hh => ?_, fun x hx => ?_, fun x hx => ?_, fun x hx => ?_, fun x hx => ?_, fun x hx => ?_, ?_, ?_, ?_, ?_, ?_, ?_⟩
  · simp (disch := omega) only [up2_ne, pk_un]
    exact hret x hx
  · simp (disch := omega) only [up2_ne, pk_un]
    exact herr x hx
  · simp (disch := omega) only [up2_ne, pk_un]
    exact hcel x hx
  · unfold zhas at hh
    simp (disch := omega) only [pk_un] at hh
    simp (disch := omega) only [up2_ne, pk_un]
    exact hval x hx hh
  · by_cases e : x = i
    · subst e
      rw [up2_eq, pk_us, pk_us]
    · simp (disch := omega) only [up2_eq, pk_un]
      exact hpin x hx
  · simp (disch := omega) only [up2_ne, pk_un]
    exact hlos x hx
  · simp (disch := omega) only [up2_ne, pk_un]
    exact hmov x hx
  · simp (disch := omega) only [up2_ne, pk_un]
    exact hlis x hx
  · simp (disch := omega) only [up2_ne, pk_un]
    exact hset x hx
  · simp (disch := omega) only [up2_ne, pk_un]
    exact hlen
  · simp (disch := omega) only [up2_ne, pk_un]
    exact hday
  · simp (disch := omega) only [up2_ne, pk_un]
    exact hlas
  · simp (disch := omega) only [up2_ne, pk_un]
    exact hers
  · simp (disch := omega) only [up2_ne, pk_un]
    exact hhrd
  · simp (disch := omega) only [up2_ne, pk_un]
    exact hsta
theorem RelN_los {σ : Mem} {z : Z} {i : Nat} {v : Int32} (R : RelN σ z) (hi : i < 5) : RelN (up2 σ 8 i v) (upd z (303 + i) v) := by
  obtain ⟨hret, herr, hcel, hval, hpin, hlos, hmov, hlis, hset, hlen, hday, hlas, hers, hhrd, hsta⟩ := R
  refine ⟨fun x hx => ?_, fun x hx => ?_, fun x hx => ?_, fun x hx hh => ?_, fun x hx => ?_, fun x hx => ?_, fun x hx => ?_, fun x hx => ?_, fun x hx => ?_, ?_, ?_, ?_, ?_, ?_, ?_⟩
  · simp (disch := omega) only [up2_ne, pk_un]
    exact hret x hx
  · simp (disch := omega) only [up2_ne, pk_un]
    exact herr x hx
  · simp (disch := omega) only [up2_ne, pk_un]
    exact hcel x hx
  · unfold zhas at hh
    simp (disch := omega) only [pk_un] at hh
    simp (disch := omega) only [up2_ne, pk_un]
    exact hval x hx hh
  · simp (disch := omega) only [up2_ne, pk_un]
    exact hpin x hx
  · by_cases e : x = i
    · subst e
      rw [up2_eq, pk_us, pk_us]
    · simp (disch := omega) only [up2_eq, pk_un]
      exact hlos x hx
  · simp (disch := omega) only [up2_ne, pk_un]
    exact hmov x hx
  · simp (disch := omega) only [up2_ne, pk_un]
    exact hlis x hx
  · simp (disch := omega) only [up2_ne, pk_un]
    exact hset x hx
  · simp (disch := omega) only [up2_ne, pk_un]
    exact hlen
  · simp (disch := omega) only [up2_ne, pk_un]
    exact hday
  · simp (disch := omega) only [up2_ne, pk_un]
    exact hlas
  · simp (disch := omega) only [up2_ne, pk_un]
    exact hers
  · simp (disch := omega) only [up2_ne, pk_un]
    exact hhrd
  · simp (disch := omega) only [up2_ne, pk_un]
    exact hsta
theorem RelN_mov {σ : Mem} {z : Z} {i : Nat} {v : Int32} (R : RelN σ z) (hi : i < 5) : RelN (up2 σ 9 i v) (upd z (308 + i) v) := by
  obtain ⟨hret, herr, hcel, hval, hpin, hlos, hmov, hlis, hset, hlen, hday, hlas, hers, hhrd, hsta⟩ := R
  refine ⟨fun x hx => ?_, fun x hx => ?_, fun x hx => ?_, fun x hx hh => ?_, fun x hx => ?_, fun x hx => ?_, fun x hx => ?_, fun x hx => ?_, fun x hx => ?_, ?_, ?_, ?_, ?_, ?_, ?_⟩
  · simp (disch := omega) only [up2_ne, pk_un]
    exact hret x hx
  · simp (disch := omega) only [up2_ne, pk_un]
    exact herr x hx
  · simp (disch := omega) only [up2_ne, pk_un]
    exact hcel x hx
  · unfold zhas at hh
    simp (disch := omega) only [pk_un] at hh
    simp (disch := omega) only [up2_ne, pk_un]
    exact hval x hx hh
  · simp (disch := omega) only [up2_ne, pk_un]
    exact hpin x hx
  · simp (disch := omega) only [up2_ne, pk_un]
    exact hlos x hx
  · by_cases e : x = i
    · subst e
      rw [up2_eq, pk_us, pk_us]
    · simp (disch := omega) only [up2_eq, pk_un]
      exact hmov x hx
  · simp (disch := omega) only [up2_ne, pk_un]
    exact hlis x hx
  · simp (disch := omega) only [up2_ne, pk_un]
    exact hset x hx
  · simp (disch := omega) only [up2_ne, pk_un]
    exact hlen
  · simp (disch := omega) only [up2_ne, pk_un]
    exact hday
  · simp (disch := omega) only [up2_ne, pk_un]
    exact hlas
  · simp (disch := omega) only [up2_ne, pk_un]
    exact hers
  · simp (disch := omega) only [up2_ne, pk_un]
    exact hhrd
  · simp (disch := omega) only [up2_ne, pk_un]
    exact hsta
theorem RelN_lis {σ : Mem} {z : Z} {i : Nat} {v : Int32} (R : RelN σ z) (hi : i < 12) : RelN (up2 σ 10 i v) (upd z (11 + i) v) := by
  obtain ⟨hret, herr, hcel, hval, hpin, hlos, hmov, hlis, hset, hlen, hday, hlas, hers, hhrd, hsta⟩ := R
  refine ⟨fun x hx => ?_, fun x hx => ?_, fun x hx => ?_, fun x hx hh => ?_, fun x hx => ?_, fun x hx => ?_, fun x hx => ?_, fun x hx => ?_, fun x hx => ?_, ?_, ?_, ?_, ?_, ?_, ?_⟩
  · simp (disch := omega) only [up2_ne, pk_un]
    exact hret x hx
  · simp (disch := omega) only [up2_ne, pk_un]
    exact herr x hx
  · simp (disch := omega) only [up2_ne, pk_un]
    exact hcel x hx
  · unfold zhas at hh
    simp (disch := omega) only [pk_un] at hh
    simp (disch := omega) only [up2_ne, pk_un]
    exact hval x hx hh
  · simp (disch := omega) only [up2_ne, pk_un]
    exact hpin x hx
  · simp (disch := omega) only [up2_ne, pk_un]
    exact hlos x hx
  · simp (disch := omega) only [up2_ne, pk_un]
    exact hmov x hx
  · by_cases e : x = i
    · subst e
      rw [up2_eq, pk_us, pk_us]
    · simp (disch := omega) only [up2_eq, pk_un]
      exact hlis x hx
  · simp (disch := omega) only [up2_ne, pk_un]
    exact hset x hx
  · simp (disch := omega) only [up2_ne, pk_un]
    exact hlen
  · simp (disch := omega) only [up2_ne, pk_un]
    exact hday
  · simp (disch := omega) only [up2_ne, pk_un]
    exact hlas
  · simp (disch := omega) only [up2_ne, pk_un]
    exact hers
  · simp (disch := omega) only [up2_ne, pk_un]
    exact hhrd
  · simp (disch := omega) only [up2_ne, pk_un]
    exact hsta
theorem RelN_set {σ : Mem} {z : Z} {i : Nat} {v : Int32} (R : RelN σ z) (hi : i < 3) : RelN (up2 σ 11 i v) (upd z (i) v) := by
  obtain ⟨hret, herr, hcel, hval, hpin, hlos, hmov, hlis, hset, hlen, hday, hlas, hers, hhrd, hsta⟩ := R
  refine ⟨fun x hx => ?_, fun x hx => ?_, fun x hx => ?_, fun x hx hh => ?_, fun x hx => ?_, fun x hx => ?_, fun x hx => ?_, fun x hx => ?_, fun x hx => ?_, ?_, ?_, ?_, ?_, ?_, ?_⟩
  · simp (disch := omega) only [up2_ne, pk_un]
    exact hret x hx
  · simp (disch := omega) only [up2_ne, pk_un]
    exact herr x hx
  · simp (disch := omega) only [up2_ne, pk_un]
    exact hcel x hx
  · unfold zhas at hh
    simp (disch := omega) only [pk_un] at hh
    simp (disch := omega) only [up2_ne, pk_un]
    exact hval x hx hh
  · simp (disch := omega) only [up2_ne, pk_un]
    exact hpin x hx
  · simp (disch := omega) only [up2_ne, pk_un]
    exact hlos x hx
  · simp (disch := omega) only [up2_ne, pk_un]
    exact hmov x hx
  · simp (disch := omega) only [up2_ne, pk_un]
    exact hlis x hx
  · by_cases e : x = i
    · subst e
      rw [up2_eq, pk_us, pk_us]
    · simp (disch := omega) only [up2_eq, pk_un]
      exact hset x hx
  · simp (disch := omega) only [up2_ne, pk_un]
    exact hlen
  · simp (disch := omega) only [up2_ne, pk_un]
    exact hday
  · simp (disch := omega) only [up2_ne, pk_un]
    exact hlas
  · simp (disch := omega) only [up2_ne, pk_un]
    exact hers
  · simp (disch := omega) only [up2_ne, pk_un]
    exact hhrd
  · simp (disch := omega) only [up2_ne, pk_un]
    exact hsta
theorem RelN_len {σ : Mem} {z : Z} {v : Int32} (R : RelN σ z)  : RelN (up2 σ 0 10 v) (upd z 10 v) := by
  obtain ⟨hret, herr, hcel, hval, hpin, hlos, hmov, hlis, hset, hlen, hday, hlas, hers, hhrd, hsta⟩ := R
  refine ⟨fun x hx => ?_, fun x hx => ?_, fun x hx => ?_, fun x hx hh => ?_, fun x hx => ?_, fun x hx => ?_, fun x hx => ?_, fun x hx => ?_, fun x hx => ?_, ?_, ?_, ?_, ?_, ?_, ?_⟩
  · simp (disch := omega) only [up2_ne, pk_un]
    exact hret x hx
  · simp (disch := omega) only [up2_ne, pk_un]
    exact herr x hx
  · simp (disch := omega) only [up2_ne, pk_un]
    exact hcel x hx
  · unfold zhas at hh
    simp (disch := omega) only [pk_un] at hh
    simp (disch := omega) only [up2_ne, pk_un]
    exact hval x hx hh
  · simp (disch := omega) only [up2_ne, pk_un]
    exact hpin x hx
  · simp (disch := omega) only [up2_ne, pk_un]
    exact hlos x hx
  · simp (disch := omega) only [up2_ne, pk_un]
    exact hmov x hx
  · simp (disch := omega) only [up2_ne, pk_un]
    exact hlis x hx
  · simp (disch := omega) only [up2_ne, pk_un]
    exact hset x hx
  · rw [up2_eq, pk_us, pk_us]
  · rw [up2_eq]; simp (disch := omega) only [pk_un]
    exact hday
  · rw [up2_eq]; simp (disch := omega) only [pk_un]
    exact hlas
  · rw [up2_eq]; simp (disch := omega) only [pk_un]
    exact hers
  · rw [up2_eq]; simp (disch := omega) only [pk_un]
    exact hhrd
  · rw [up2_eq]; simp (disch := omega) only [pk_un]
    exact hsta
theorem RelN_day {σ : Mem} {z : Z} {v : Int32} (R : RelN σ z)  : RelN (up2 σ 0 12 v) (upd z 3 v) := by
  obtain ⟨hret, herr, hcel, hval, hpin, hlos, hmov, hlis, hset, hlen, hday, hlas, hers, hhrd, hsta⟩ := R
  refine ⟨fun x hx => ?_, fun x hx => ?_, fun x hx => ?_, fun x hx hh => ?_, fun x hx => ?_, fun x hx => ?_, fun x hx => ?_, fun x hx => ?_, fun x hx => ?_, ?_, ?_, ?_, ?_, ?_, ?_⟩
  · simp (disch := omega) only [up2_ne, pk_un]
    exact hret x hx
  · simp (disch := omega) only [up2_ne, pk_un]
    exact herr x hx
  · simp (disch := omega) only [up2_ne, pk_un]
    exact hcel x hx
  · unfold zhas at hh
    simp (disch := omega) only [pk_un] at hh
    simp (disch := omega) only [up2_ne, pk_un]
    exact hval x hx hh
  · simp (disch := omega) only [up2_ne, pk_un]
    exact hpin x hx
  · simp (disch := omega) only [up2_ne, pk_un]
    exact hlos x hx
  · simp (disch := omega) only [up2_ne, pk_un]
    exact hmov x hx
  · simp (disch := omega) only [up2_ne, pk_un]
    exact hlis x hx
  · simp (disch := omega) only [up2_ne, pk_un]
    exact hset x hx
  · rw [up2_eq]; simp (disch := omega) only [pk_un]
    exact hlen
  · rw [up2_eq, pk_us, pk_us]
  · rw [up2_eq]; simp (disch := omega) only [pk_un]
    exact hlas
  · rw [up2_eq]; simp (disch := omega) only [pk_un]
    exact hers
  · rw [up2_eq]; simp (disch := omega) only [pk_un]
    exact hhrd
  · rw [up2_eq]; simp (disch := omega) only [pk_un]
    exact hsta
theorem RelN_las {σ : Mem} {z : Z} {v : Int32} (R : RelN σ z)  : RelN (up2 σ 0 13 v) (upd z 9 v) := by
  obtain ⟨hret, herr, hcel, hval, hpin, hlos, hmov, hlis, hset, hlen, hday, hlas, hers, hhrd, hsta⟩ := R
  refine ⟨fun x hx => ?_, fun x hx => ?_, fun x hx => ?_, fun x hx hh => ?_, fun x hx => ?_, fun x hx => ?_, fun x hx => ?_, fun x hx => ?_, fun x hx => ?_, ?_, ?_, ?_, ?_, ?_, ?_⟩
  · simp (disch := omega) only [up2_ne, pk_un]
    exact hret x hx
  · simp (disch := omega) only [up2_ne, pk_un]
    exact herr x hx
  · simp (disch := omega) only [up2_ne, pk_un]
    exact hcel x hx
  · unfold zhas at hh
    simp (disch := omega) only [pk_un] at hh
    simp (disch := omega) only [up2_ne, pk_un]
    exact hval x hx hh
  · simp (disch := omega) only [up2_ne, pk_un]
    exact hpin x hx
  · simp (disch := omega) only [up2_ne, pk_un]
    exact hlos x hx
  · simp (disch := omega) only [up2_ne, pk_un]
    exact hmov x hx
  · simp (disch := omega) only [up2_ne, pk_un]
    exact hlis x hx
  · simp (disch := omega) only [up2_ne, pk_un]
    exact hset x hx
  · rw [up2_eq]; simp (disch := omega) only [pk_un]
    exact hlen
  · rw [up2_eq]; simp (disch := omega) only [pk_un]
    exact hday
  · rw [up2_eq, pk_us, pk_us]
  · rw [up2_eq]; simp (disch := omega) only [pk_un]
    exact hers
  · rw [up2_eq]; simp (disch := omega) only [pk_un]
    exact hhrd
  · rw [up2_eq]; simp (disch := omega) only [pk_un]
    exact hsta
theorem RelN_ers {σ : Mem} {z : Z} {v : Int32} (R : RelN σ z)  : RelN (up2 σ 0 14 v) (upd z 4 v) := by
  obtain ⟨hret, herr, hcel, hval, hpin, hlos, hmov, hlis, hset, hlen, hday, hlas, hers, hhrd, hsta⟩ := R
  refine ⟨fun x hx => ?_, fun x hx => ?_, fun x hx => ?_, fun x hx hh => ?_, fun x hx => ?_, fun x hx => ?_, fun x hx => ?_, fun x hx => ?_, fun x hx => ?_, ?_, ?_, ?_, ?_, ?_, ?_⟩
  · simp (disch := omega) only [up2_ne, pk_un]
    exact hret x hx
  · simp (disch := omega) only [up2_ne, pk_un]
    exact herr x hx
  · simp (disch := omega) only [up2_ne, pk_un]
    exact hcel x hx
  · unfold zhas at hh
    simp (disch := omega) only [pk_un] at hh
    simp (disch := omega) only [up2_ne, pk_un]
    exact hval x hx hh
  · simp (disch := omega) only [up2_ne, pk_un]
    exact hpin x hx
  · simp (disch := omega) only [up2_ne, pk_un]
    exact hlos x hx
  · simp (disch := omega) only [up2_ne, pk_un]
    exact hmov x hx
  · simp (disch := omega) only [up2_ne, pk_un]
    exact hlis x hx
  · simp (disch := omega) only [up2_ne, pk_un]
    exact hset x hx
  · rw [up2_eq]; simp (disch := omega) only [pk_un]
    exact hlen
  · rw [up2_eq]; simp (disch := omega) only [pk_un]
    exact hday
  · rw [up2_eq]; simp (disch := omega) only [pk_un]
    exact hlas
  · rw [up2_eq, pk_us, pk_us]
  · rw [up2_eq]; simp (disch := omega) only [pk_un]
    exact hhrd
  · rw [up2_eq]; simp (disch := omega) only [pk_un]
    exact hsta
theorem RelN_hrd {σ : Mem} {z : Z} {v : Int32} (R : RelN σ z)  : RelN (up2 σ 0 15 v) (upd z 5 v) := by
  obtain ⟨hret, herr, hcel, hval, hpin, hlos, hmov, hlis, hset, hlen, hday, hlas, hers, hhrd, hsta⟩ := R
  refine ⟨fun x hx => ?_, fun x hx => ?_, fun x hx => ?_, fun x hx hh => ?_, fun x hx => ?_, fun x hx => ?_, fun x hx => ?_, fun x hx => ?_, fun x hx => ?_, ?_, ?_, ?_, ?_, ?_, ?_⟩
  · simp (disch := omega) only [up2_ne, pk_un]
    exact hret x hx
  · simp (disch := omega) only [up2_ne, pk_un]
    exact herr x hx
  · simp (disch := omega) only [up2_ne, pk_un]
    exact hcel x hx
  · unfold zhas at hh
    simp (disch := omega) only [pk_un] at hh
    simp (disch := omega) only [up2_ne, pk_un]
    exact hval x hx hh
  · simp (disch := omega) only [up2_ne, pk_un]
    exact hpin x hx
  · simp (disch := omega) only [up2_ne, pk_un]
    exact hlos x hx
  · simp (disch := omega) only [up2_ne, pk_un]
    exact hmov x hx
  · simp (disch := omega) only [up2_ne, pk_un]
    exact hlis x hx
  · simp (disch := omega) only [up2_ne, pk_un]
    exact hset x hx
  · rw [up2_eq]; simp (disch := omega) only [pk_un]
    exact hlen
  · rw [up2_eq]; simp (disch := omega) only [pk_un]
    exact hday
  · rw [up2_eq]; simp (disch := omega) only [pk_un]
    exact hlas
  · rw [up2_eq]; simp (disch := omega) only [pk_un]
    exact hers
  · rw [up2_eq, pk_us, pk_us]
  · rw [up2_eq]; simp (disch := omega) only [pk_un]
    exact hsta
theorem RelN_sta {σ : Mem} {z : Z} {v : Int32} (R : RelN σ z)  : RelN (up2 σ 0 16 v) (upd z 8 v) := by
  obtain ⟨hret, herr, hcel, hval, hpin, hlos, hmov, hlis, hset, hlen, hday, hlas, hers, hhrd, hsta⟩ := R
  refine ⟨fun x hx => ?_, fun x hx => ?_, fun x hx => ?_, fun x hx hh => ?_, fun x hx => ?_, fun x hx => ?_, fun x hx => ?_, fun x hx => ?_, fun x hx => ?_, ?_, ?_, ?_, ?_, ?_, ?_⟩
  · simp (disch := omega) only [up2_ne, pk_un]
    exact hret x hx
  · simp (disch := omega) only [up2_ne, pk_un]
    exact herr x hx
  · simp (disch := omega) only [up2_ne, pk_un]
    exact hcel x hx
  · unfold zhas at hh
    simp (disch := omega) only [pk_un] at hh
    simp (disch := omega) only [up2_ne, pk_un]
    exact hval x hx hh
  · simp (disch := omega) only [up2_ne, pk_un]
    exact hpin x hx
  · simp (disch := omega) only [up2_ne, pk_un]
    exact hlos x hx
  · simp (disch := omega) only [up2_ne, pk_un]
    exact hmov x hx
  · simp (disch := omega) only [up2_ne, pk_un]
    exact hlis x hx
  · simp (disch := omega) only [up2_ne, pk_un]
    exact hset x hx
  · rw [up2_eq]; simp (disch := omega) only [pk_un]
    exact hlen
  · rw [up2_eq]; simp (disch := omega) only [pk_un]
    exact hday
  · rw [up2_eq]; simp (disch := omega) only [pk_un]
    exact hlas
  · rw [up2_eq]; simp (disch := omega) only [pk_un]
    exact hers
  · rw [up2_eq]; simp (disch := omega) only [pk_un]
    exact hhrd
  · rw [up2_eq, pk_us, pk_us]
theorem RelN_z6 {σ : Mem} {z : Z} {v : Int32} (R : RelN σ z)  : RelN σ (upd z 6 v) := by
  obtain ⟨hret, herr, hcel, hval, hpin, hlos, hmov, hlis, hset, hlen, hday, hlas, hers, hhrd, hsta⟩ := R
  refine ⟨fun x hx => ?_, fun x hx => ?_, fun x hx => ?_, fun x hx hh => ?_, fun x hx => ?_, fun x hx => ?_, fun x hx => ?_, fun x hx => ?_, fun x hx => ?_, ?_, ?_, ?_, ?_, ?_, ?_⟩
  · simp (disch := omega) only [pk_un]; exact hret x hx
  · simp (disch := omega) only [pk_un]; exact herr x hx
  · simp (disch := omega) only [pk_un]; exact hcel x hx
  · unfold zhas at hh; simp (disch := omega) only [pk_un] at hh
    simp (disch := omega) only [pk_un]; exact hval x hx hh
  · simp (disch := omega) only [pk_un]; exact hpin x hx
  · simp (disch := omega) only [pk_un]; exact hlos x hx
  · simp (disch := omega) only [pk_un]; exact hmov x hx
  · simp (disch := omega) only [pk_un]; exact hlis x hx
  · simp (disch := omega) only [pk_un]; exact hset x hx
  · simp (disch := omega) only [pk_un]; exact hlen
  · simp (disch := omega) only [pk_un]; exact hday
  · simp (disch := omega) only [pk_un]; exact hlas
  · simp (disch := omega) only [pk_un]; exact hers
  · simp (disch := omega) only [pk_un]; exact hhrd
  · simp (disch := omega) only [pk_un]; exact hsta
theorem RelN_z7 {σ : Mem} {z : Z} {v : Int32} (R : RelN σ z)  : RelN σ (upd z 7 v) := by
  obtain ⟨hret, herr, hcel, hval, hpin, hlos, hmov, hlis, hset, hlen, hday, hlas, hers, hhrd, hsta⟩ := R
  refine ⟨fun x hx => ?_, fun x hx => ?_, fun x hx => ?_, fun x hx hh => ?_, fun x hx => ?_, fun x hx => ?_, fun x hx => ?_, fun x hx => ?_, fun x hx => ?_, ?_, ?_, ?_, ?_, ?_, ?_⟩
  · simp (disch := omega) only [pk_un]; exact hret x hx
  · simp (disch := omega) only [pk_un]; exact herr x hx
  · simp (disch := omega) only [pk_un]; exact hcel x hx
  · unfold zhas at hh; simp (disch := omega) only [pk_un] at hh
    simp (disch := omega) only [pk_un]; exact hval x hx hh
  · simp (disch := omega) only [pk_un]; exact hpin x hx
  · simp (disch := omega) only [pk_un]; exact hlos x hx
  · simp (disch := omega) only [pk_un]; exact hmov x hx
  · simp (disch := omega) only [pk_un]; exact hlis x hx
  · simp (disch := omega) only [pk_un]; exact hset x hx
  · simp (disch := omega) only [pk_un]; exact hlen
  · simp (disch := omega) only [pk_un]; exact hday
  · simp (disch := omega) only [pk_un]; exact hlas
  · simp (disch := omega) only [pk_un]; exact hers
  · simp (disch := omega) only [pk_un]; exact hhrd
  · simp (disch := omega) only [pk_un]; exact hsta
theorem RelN_z3p {σ : Mem} {z : Z} {i : Nat} {v : Int32} (R : RelN σ z) (hi : i < 50) : RelN σ (upd z (103 + 4 * i + 3) v) := by
  obtain ⟨hret, herr, hcel, hval, hpin, hlos, hmov, hlis, hset, hlen, hday, hlas, hers, hhrd, hsta⟩ := R
  refine ⟨fun x hx => ?_, fun x hx => ?_, fun x hx => ?_, fun x hx hh => ?_, fun x hx => ?_, fun x hx => ?_, fun x hx => ?_, fun x hx => ?_, fun x hx => ?_, ?_, ?_, ?_, ?_, ?_, ?_⟩
  · simp (disch := omega) only [pk_un]; exact hret x hx
  · simp (disch := omega) only [pk_un]; exact herr x hx
  · simp (disch := omega) only [pk_un]; exact hcel x hx
  · unfold zhas at hh; simp (disch := omega) only [pk_un] at hh
    simp (disch := omega) only [pk_un]; exact hval x hx hh
  · simp (disch := omega) only [pk_un]; exact hpin x hx
  · simp (disch := omega) only [pk_un]; exact hlos x hx
  · simp (disch := omega) only [pk_un]; exact hmov x hx
  · simp (disch := omega) only [pk_un]; exact hlis x hx
  · simp (disch := omega) only [pk_un]; exact hset x hx
  · simp (disch := omega) only [pk_un]; exact hlen
  · simp (disch := omega) only [pk_un]; exact hday
  · simp (disch := omega) only [pk_un]; exact hlas
  · simp (disch := omega) only [pk_un]; exact hers
  · simp (disch := omega) only [pk_un]; exact hhrd
  · simp (disch := omega) only [pk_un]; exact hsta
theorem RelN_c7 {σ : Mem} {z : Z} {i : Nat} {v : Int32} (R : RelN σ z)  : RelN (up2 σ 7 i v) z := by
  obtain ⟨hret, herr, hcel, hval, hpin, hlos, hmov, hlis, hset, hlen, hday, hlas, hers, hhrd, hsta⟩ := R
  refine ⟨fun x hx => ?_, fun x hx => ?_, fun x hx => ?_, fun x hx hh => ?_, fun x hx => ?_, fun x hx => ?_, fun x hx => ?_, fun x hx => ?_, fun x hx => ?_, ?_, ?_, ?_, ?_, ?_, ?_⟩
  · simp (disch := omega) only [up2_ne]; exact hret x hx
  · simp (disch := omega) only [up2_ne]; exact herr x hx
  · simp (disch := omega) only [up2_ne]; exact hcel x hx
  · simp (disch := omega) only [up2_ne]; exact hval x hx hh
  · simp (disch := omega) only [up2_ne]; exact hpin x hx
  · simp (disch := omega) only [up2_ne]; exact hlos x hx
  · simp (disch := omega) only [up2_ne]; exact hmov x hx
  · simp (disch := omega) only [up2_ne]; exact hlis x hx
  · simp (disch := omega) only [up2_ne]; exact hset x hx
  · simp (disch := omega) only [up2_ne]; exact hlen
  · simp (disch := omega) only [up2_ne]; exact hday
  · simp (disch := omega) only [up2_ne]; exact hlas
  · simp (disch := omega) only [up2_ne]; exact hers
  · simp (disch := omega) only [up2_ne]; exact hhrd
  · simp (disch := omega) only [up2_ne]; exact hsta
theorem RelN_c3 {σ : Mem} {z : Z} {i : Nat} {v : Int32} (R : RelN σ z)  : RelN (up2 σ 3 i v) z := by
  obtain ⟨hret, herr, hcel, hval, hpin, hlos, hmov, hlis, hset, hlen, hday, hlas, hers, hhrd, hsta⟩ := R
  refine ⟨fun x hx => ?_, fun x hx => ?_, fun x hx => ?_, fun x hx hh => ?_, fun x hx => ?_, fun x hx => ?_, fun x hx => ?_, fun x hx => ?_, fun x hx => ?_, ?_, ?_, ?_, ?_, ?_, ?_⟩
  · simp (disch := omega) only [up2_ne]; exact hret x hx
  · simp (disch := omega) only [up2_ne]; exact herr x hx
  · simp (disch := omega) only [up2_ne]; exact hcel x hx
  · simp (disch := omega) only [up2_ne]; exact hval x hx hh
  · simp (disch := omega) only [up2_ne]; exact hpin x hx
  · simp (disch := omega) only [up2_ne]; exact hlos x hx
  · simp (disch := omega) only [up2_ne]; exact hmov x hx
  · simp (disch := omega) only [up2_ne]; exact hlis x hx
  · simp (disch := omega) only [up2_ne]; exact hset x hx
  · simp (disch := omega) only [up2_ne]; exact hlen
  · simp (disch := omega) only [up2_ne]; exact hday
  · simp (disch := omega) only [up2_ne]; exact hlas
  · simp (disch := omega) only [up2_ne]; exact hers
  · simp (disch := omega) only [up2_ne]; exact hhrd
  · simp (disch := omega) only [up2_ne]; exact hsta
theorem RelN_far {σ τ : Mem} {z : Z} (R : RelN σ z) (h : ∀ a, a < 12 → τ a = σ a) : RelN τ z := by
  unfold RelN
  rw [h 0 (by decide), h 1 (by decide), h 2 (by decide), h 4 (by decide), h 5 (by decide), h 6 (by decide), h 8 (by decide), h 9 (by decide), h 10 (by decide), h 11 (by decide)]
  exact R
