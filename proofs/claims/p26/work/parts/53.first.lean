/-! PURE PART: the first state -/
theorem zems_at : ∀ n, n ≤ 50 → (∀ p, p < n → zems n (103 + 4 * p + 0) = -5 ∧ zems n (103 + 4 * p + 1) = -5 ∧ zems n (103 + 4 * p + 2) = 0 ∧ zems n (103 + 4 * p + 3) = 0) ∧ ∀ i, (i < 103 ∨ 103 + 4 * n ≤ i) → zems n i = ini1 94 i := by
  intro n
  induction n with
  | zero => intro _; exact ⟨fun p hp => absurd hp (Nat.not_lt_zero _), fun i _ => rfl⟩
  | succ n ih =>
    intro hn
    obtain ⟨h1, h2⟩ := ih (by omega)
    have e : zems (n + 1) = zem (zems n) n := rfl
    rw [e]
    unfold zem
    refine ⟨fun p hp => ?_, fun i hi => ?_⟩
    · by_cases q : p = n
      · subst q
        refine ⟨?_, ?_, ?_, pk_us⟩
        · rw [pk_un (by omega), pk_un (by omega), pk_un (by omega), pk_us]
        · rw [pk_un (by omega), pk_un (by omega), pk_us]
        · rw [pk_un (by omega), pk_us]
      · have := h1 p (by omega)
        refine ⟨?_, ?_, ?_, ?_⟩
        · rw [pk_un (by omega), pk_un (by omega), pk_un (by omega), pk_un (by omega)]; exact this.1
        · rw [pk_un (by omega), pk_un (by omega), pk_un (by omega), pk_un (by omega)]; exact this.2.1
        · rw [pk_un (by omega), pk_un (by omega), pk_un (by omega), pk_un (by omega)]; exact this.2.2.1
        · rw [pk_un (by omega), pk_un (by omega), pk_un (by omega), pk_un (by omega)]; exact this.2.2.2
    · rw [pk_un (by omega), pk_un (by omega), pk_un (by omega), pk_un (by omega)]
      exact h2 i (by omega)
theorem z0_i {i : Nat} (h : i < 103 ∨ 303 ≤ i) : zems 50 i = if i = 9 then 39 else if i = 1 then 10 else if i = 0 then 3 else 0 := by
  rw [(zems_at 50 (Nat.le_refl _)).2 i (by omega)]
  show upd (upd (upd (fun _ => 0) 0 3) 1 10) 9 39 i = _
  by_cases h9 : i = 9
  · rw [h9, pk_us]; rfl
  · rw [pk_un h9, if_neg h9]
    by_cases h1 : i = 1
    · rw [h1, pk_us]; rfl
    · rw [pk_un h1, if_neg h1]
      by_cases h0 : i = 0
      · rw [h0, pk_us]; rfl
      · rw [pk_un h0, if_neg h0]
theorem z0_0 {i : Nat} (h : i < 103 ∨ 303 ≤ i) (h9 : ¬ i = 9) (h1 : ¬ i = 1) (h0 : ¬ i = 0) : zems 50 i = 0 := by rw [z0_i h, if_neg h9, if_neg h1, if_neg h0]
theorem z0_p {p : Nat} (hp : p < 50) : zems 50 (103 + 4 * p + 0) = -5 ∧ zems 50 (103 + 4 * p + 1) = -5 ∧ zems 50 (103 + 4 * p + 2) = 0 ∧ zems 50 (103 + 4 * p + 3) = 0 := (zems_at 50 (Nat.le_refl _)).1 p hp
theorem z0_n {p : Nat} (hp : p < 50) : ¬ zhas (zems 50) p := fun w => w (z0_p hp).1
theorem z0_s {b : Nat} (hb : 303 ≤ b) : (0 : Int32) = sum5 (zems 50) b := by
  unfold sum5
  rw [z0_0 (by omega) (by omega) (by omega) (by omega), z0_0 (by omega) (by omega) (by omega) (by omega), z0_0 (by omega) (by omega) (by omega) (by omega), z0_0 (by omega) (by omega) (by omega) (by omega), z0_0 (by omega) (by omega) (by omega) (by omega)]
  decide
theorem z0_Iz : Iz (zems 50) := by
  refine ⟨⟨0, by decide, ?_, fun k hk => absurd hk (Nat.not_lt_zero _)⟩, ⟨39, by decide, ?_⟩, ?_, fun p hp => Or.inl ⟨(z0_p hp).1, (z0_p hp).2.1, (z0_p hp).2.2.1⟩, fun p q hp _ hh _ => absurd hh (z0_n hp), fun c hc => Or.inl (z0_0 (by omega) (by omega) (by omega) (by omega)), ?_, ?_⟩
  · rw [z0_0 (by omega) (by omega) (by omega) (by omega)]; exact nI_0.symm
  · rw [z0_i (by omega)]; rfl
  · rw [z0_i (by omega)]; decide
  · rw [z0_0 (by omega) (by omega) (by omega) (by omega)]; exact z0_s (by omega)
  · rw [z0_0 (by omega) (by omega) (by omega) (by omega)]; exact z0_s (by omega)
theorem i2 {k : Nat} (h : k ≠ 94) : ini2 k = ini1 k := sz_ne _ _ h
theorem z0_Rel : Rel ini2 0 (zems 50) := by
  refine ⟨fun c hc => ?_, fun c hc => ?_, fun c hc => ?_, fun p hp => ?_, fun p hp hh => absurd hh (z0_n hp), fun p hp => ?_, fun k hk => ?_, fun k hk => ?_, fun k hk => ?_, fun k hk => ?_, ?_, ?_, ?_, ?_, ?_, ?_⟩
  · rw [z0_0 (by omega) (by omega) (by omega) (by omega), if_neg (by decide), i2 (by decide)]; rfl
  · rw [z0_0 (by omega) (by omega) (by omega) (by omega), i2 (by decide)]; rfl
  · rw [i2 (by decide)]
    show fil 40 c = _
    unfold fil
    rw [if_pos hc]
    rcases zpg_cases (zems 50) (nI c) 50 with ⟨e, -⟩ | ⟨p, hp, -, e⟩
    · rw [e]
    · rw [(z0_p hp).1] at e
      exact absurd e.symm (nI_nm5 (by omega))
  · rw [i2 (by decide), (z0_p hp).1]
    show fil 50 p = _
    unfold fil
    rw [if_pos hp]
  · rw [i2 (by decide), (z0_p hp).2.2.1]; rfl
  · rw [z0_0 (by omega) (by omega) (by omega) (by omega), i2 (by decide)]; rfl
  · rw [z0_0 (by omega) (by omega) (by omega) (by omega), i2 (by decide)]; rfl
  · rw [z0_0 (by omega) (by omega) (by omega) (by omega), i2 (by decide)]; rfl
  · rw [z0_i (by omega), i2 (by decide)]
    rcases (show k = 0 ∨ k = 1 ∨ k = 2 by omega) with rfl | rfl | rfl <;> decide
  · rw [z0_0 (by omega) (by omega) (by omega) (by omega), i2 (by decide)]; rfl
  · rw [z0_0 (by omega) (by omega) (by omega) (by omega), i2 (by decide)]; rfl
  · rw [z0_i (by omega), i2 (by decide)]; rfl
  · rw [z0_0 (by omega) (by omega) (by omega) (by omega), i2 (by decide)]; rfl
  · rw [z0_0 (by omega) (by omega) (by omega) (by omega), i2 (by decide)]; rfl
  · rw [z0_0 (by omega) (by omega) (by omega) (by omega), i2 (by decide)]; rfl
theorem z0_Gz : Gz (zems 50) := by
  refine ⟨z0_Iz, fun c hc h w => w.2 ?_, ⟨0, by decide, ?_, fun k hk => absurd hk (Nat.not_lt_zero _), fun j k hj => absurd hj (Nat.not_lt_zero _)⟩, ?_, ?_⟩
  · rw [z0_0 (by omega) (by omega) (by omega) (by omega), z0_i (by omega)]; decide
  · rw [z0_0 (by omega) (by omega) (by omega) (by omega)]; exact nI_0.symm
  · rw [z0_i (by omega)]; decide
  · rw [z0_i (by omega)]; decide
theorem ini2_94 : ini2 94 = zems 50 := sz_94 _ _
theorem SS_first : SS ini2 := by
  have e : ∀ k i, k ≠ 94 → ini2 k i = ini1 k i := fun k i h => by rw [i2 h]
  refine ⟨0, 0, fun _ => zems 50, ?_, ?_, fun i hi => absurd hi (Nat.not_lt_zero _), ?_, ?_, ?_, ?_⟩
  · rw [ini2_94]
    exact ⟨by decide, by decide, z0_Rel, by rw [e _ _ (by decide)]; exact nI_0.symm, by rw [e _ _ (by decide)]; exact nI_0.symm, fun i hi => absurd hi (Nat.not_lt_zero _)⟩
  · exact ⟨by decide, rfl, by rw [e _ _ (by decide)]; exact nI_0.symm, fun i hi => absurd hi (Nat.not_lt_zero _)⟩
  · rw [ini2_94]; exact z0_Gz
  · exact Or.inl ⟨by rw [e _ _ (by decide)]; rfl, by rw [e _ _ (by decide)]; rfl⟩
  · exact ⟨0, by decide, by rw [e _ _ (by decide)]; exact nI_0.symm, by rw [e _ _ (by decide)]; exact nI_0.symm, fun i hi => absurd hi (Nat.not_lt_zero _)⟩
  · exact Or.inl ⟨by rw [e _ _ (by decide)]; rfl, by rw [e _ _ (by decide)]; rfl, by rw [e _ _ (by decide)]; rfl⟩
theorem first_moved : ∀ p, p < 50 → ini2 7 p = ini2 94 (103 + 4 * p + 3) := fun p hp => by
  rw [ini2_94, (z0_p hp).2.2.2, i2 (by decide)]
  rfl
