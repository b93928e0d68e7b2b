/-! PURE PART: retiring, giving, moving: on the state, in the reference, in the class -/
noncomputable def cif {A : Type} (P : Prop) (a b : A) : A := @ite A P (Classical.propDecidable P) a b
theorem cif_pos {A : Type} {P : Prop} {a b : A} (h : P) : cif P a b = a := by unfold cif; exact if_pos h
theorem cif_neg {A : Type} {P : Prop} {a b : A} (h : ¬ P) : cif P a b = b := by unfold cif; exact if_neg h
theorem nar1 : vp_nar .boolean 1 = 1 := by decide
theorem nar0 : vp_nar .boolean 0 = 0 := by decide
/-- cell c is retired, and comes to the list's end -/
def zre (z : Z) (c : Nat) : Z := if 12 ≤ z 10 then upd z (23 + c) 2 else upd (upd (upd z (23 + c) 2) (11 + (z 10).toNatClampNeg) (nI c)) 10 (z 10 + 1)
def zgi (z : Z) (p c : Nat) : Z := upd (upd (upd z (103 + 4 * p + 0) (nI c)) (23 + c) 1) 9 (nI c)
def zmv (z : Z) (p c : Nat) : Z := upd (upd (upd (zgi z p c) (103 + 4 * p + 3) (z (103 + 4 * p + 3) + 1)) (308 + p / 10) (z (308 + p / 10) + 1)) 6 (z 6 + 1)
theorem sum5_up {z : Z} {b i : Nat} (h : i < 5) (v : Int32) : sum5 (upd z (b + i) (z (b + i) + v)) b = sum5 z b + v := by
  unfold sum5
  have e : ∀ j, j < 5 → upd z (b + i) (z (b + i) + v) (b + j) = if j = i then z (b + i) + v else z (b + j) := by
    intro j hj
    by_cases q : j = i
    · rw [q, if_pos rfl, pk_us]
    · rw [if_neg q, pk_un (by omega)]
  rw [e 0 (by decide), e 1 (by decide), e 2 (by decide), e 3 (by decide), e 4 (by decide)]
  rcases (show i = 0 ∨ i = 1 ∨ i = 2 ∨ i = 3 ∨ i = 4 by omega) with rfl | rfl | rfl | rfl | rfl <;> simp <;> ac_rfl
theorem sum5_un {z w : Z} {b : Nat} (h : ∀ j, j < 5 → w (b + j) = z (b + j)) : sum5 w b = sum5 z b := by
  unfold sum5
  rw [h 0 (by decide), h 1 (by decide), h 2 (by decide), h 3 (by decide), h 4 (by decide)]
/-- all of Iz but that cell c may be called used though no page has it -/
def Ix (z : Z) (c : Nat) : Prop :=
  (∃ n, n ≤ 12 ∧ z 10 = nI n ∧ ∀ k, k < n → ∃ x, x < 40 ∧ z (11 + k) = nI x) ∧
  (∃ x, x < 40 ∧ z 9 = nI x) ∧
  (0 < z 1) ∧
  (∀ p, p < 50 → (z (103 + 4 * p + 0) = -5 ∧ z (103 + 4 * p + 1) = -5 ∧ z (103 + 4 * p + 2) = 0) ∨ ∃ x, x < 40 ∧ z (103 + 4 * p + 0) = nI x ∧ z (23 + x) = 1 ∧ 0 ≤ z (103 + 4 * p + 1) ∧ isZ (z (103 + 4 * p + 2))) ∧
  (∀ p q, p < 50 → q < 50 → zhas z p → z (103 + 4 * p + 0) = z (103 + 4 * q + 0) → p = q) ∧
  (∀ x, x < 40 → ¬ x = c → z (23 + x) = 0 ∨ z (23 + x) = 2 ∨ (z (23 + x) = 1 ∧ ∃ p, p < 50 ∧ z (103 + 4 * p + 0) = nI x)) ∧
  (z 6 = sum5 z 308 ∧ z 7 = sum5 z 303) ∧
  (∀ q, q < 50 → ¬ z (103 + 4 * q + 0) = nI c)
theorem Iz.ix {z : Z} (h : Iz z) {c : Nat} (hc : c < 40) (hn : ¬ z (23 + c) = 1) : Ix z c := by
  have hp : ∀ q, q < 50 → ¬ z (103 + 4 * q + 0) = nI c := by
    rcases h.pg hc with ⟨-, -, w⟩ | ⟨p, -, -, -, w, -⟩
    · exact w
    · exact absurd w hn
  obtain ⟨a1, a2, a3, a4, a5, a6, a7⟩ := h
  exact ⟨a1, a2, a3, a4, a5, fun x hx _ => a6 x hx, a7, hp⟩
theorem Ix.re {z : Z} {c : Nat} (h : Ix z c) (hc : c < 40) : Iz (zre z c) := by
  obtain ⟨⟨n, hn, e10, hl⟩, a2, a3, a4, a5, a6, a7, a8⟩ := h
  have hpage : ∀ (w : Z), (∀ i, 103 ≤ i → i < 303 → w i = z i) → (∀ x, x < 40 → w (23 + x) = if x = c then 2 else z (23 + x)) → (∃ n, n ≤ 12 ∧ w 10 = nI n ∧ ∀ k, k < n → ∃ x, x < 40 ∧ w (11 + k) = nI x) → w 9 = z 9 → w 1 = z 1 → w 6 = z 6 → w 7 = z 7 → (∀ i, 303 ≤ i → i < 313 → w i = z i) → Iz w := by
    intro w hp hh hlist h9 h1 h6 h7 hs
    have hpi : ∀ p j, p < 50 → j < 4 → w (103 + 4 * p + j) = z (103 + 4 * p + j) := fun p j h1 h2 => hp _ (by omega) (by omega)
    refine ⟨hlist, by rw [h9]; exact a2, by rw [h1]; exact a3, fun p hp50 => ?_, fun p q hp50 hq hz e => ?_, fun x hx => ?_, ?_⟩
    · rw [hpi p 0 hp50 (by decide), hpi p 1 hp50 (by decide), hpi p 2 hp50 (by decide)]
      rcases a4 p hp50 with q | ⟨x, hx, q1, q2, q3⟩
      · exact Or.inl q
      · refine Or.inr ⟨x, hx, q1, ?_, q3⟩
        rw [hh x hx, if_neg ?_, q2]
        intro e
        rw [e] at q1
        exact a8 p hp50 q1
    · unfold zhas at hz
      rw [hpi p 0 hp50 (by decide)] at hz e
      rw [hpi q 0 hq (by decide)] at e
      exact a5 p q hp50 hq hz e
    · rw [hh x hx]
      by_cases e : x = c
      · rw [if_pos e]; exact Or.inr (Or.inl rfl)
      · rw [if_neg e]
        rcases a6 x hx e with q | q | ⟨q, p, hp50, q2⟩
        · exact Or.inl q
        · exact Or.inr (Or.inl q)
        · exact Or.inr (Or.inr ⟨q, p, hp50, by rw [hpi p 0 hp50 (by decide)]; exact q2⟩)
    · rw [h6, h7, sum5_un (z := z) (b := 308) (fun j hj => hs _ (by omega) (by omega)), sum5_un (z := z) (b := 303) (fun j hj => hs _ (by omega) (by omega))]
      exact a7
  have hcell : ∀ (w : Z), w = upd z (23 + c) 2 → ∀ x, x < 40 → w (23 + x) = if x = c then 2 else z (23 + x) := by
    intro w hw x hx
    rw [hw]
    by_cases e : x = c
    · rw [e, pk_us, if_pos rfl]
    · rw [if_neg e, pk_un (by omega)]
  unfold zre
  by_cases h12 : 12 ≤ z 10
  · rw [if_pos h12]
    refine hpage _ (fun i h1 h2 => pk_un (by omega)) (hcell _ rfl) ⟨n, hn, by rw [pk_un (by omega)]; exact e10, fun k hk => by rw [pk_un (by omega)]; exact hl k hk⟩ (pk_un (by omega)) (pk_un (by omega)) (pk_un (by omega)) (pk_un (by omega)) (fun i h1 h2 => pk_un (by omega))
  · rw [if_neg h12]
    have hn12 : n < 12 := by
      rw [e10] at h12
      rcases Nat.lt_or_ge n 12 with q | q
      · exact q
      · exact absurd (nI_le q (by omega)) h12
    have en : (z 10).toNatClampNeg = n := by rw [e10]; exact clI (by omega)
    rw [en]
    refine hpage _ (fun i h1 h2 => by simp (disch := omega) only [pk_un]) (fun x hx => ?_) ⟨n + 1, by omega, by rw [pk_us, e10, nI_1], fun k hk => ?_⟩ (by simp (disch := omega) only [pk_un]) (by simp (disch := omega) only [pk_un]) (by simp (disch := omega) only [pk_un]) (by simp (disch := omega) only [pk_un]) (fun i h1 h2 => by simp (disch := omega) only [pk_un])
    · have := hcell _ rfl x hx
      rw [pk_un (by omega), pk_un (by omega)]
      exact this
    · by_cases e : k = n
      · rw [e, pk_un (by omega), pk_us]; exact ⟨c, hc, rfl⟩
      · simp (disch := omega) only [pk_un]; exact hl k (by omega)
theorem Iz.mv {z : Z} (h : Iz z) {c c' p : Nat} (hc : c < 40) (hc' : c' < 40) (hp : p < 50) (hpc : z (103 + 4 * p + 0) = nI c) (h0 : z (23 + c') = 0) : Ix (zmv z p c') c := by
  have hp1 : z (23 + c) = 1 := by
    rcases h.pg hc with ⟨-, -, w⟩ | ⟨q, hq, -, w1, w2, -⟩
    · exact absurd hpc (w p hp)
    · exact w2
  have hne : ¬ c' = c := fun e => by rw [e, hp1] at h0; exact absurd h0 (by decide)
  have hno : ∀ q, q < 50 → ¬ z (103 + 4 * q + 0) = nI c' := by
    rcases h.pg hc' with ⟨-, -, w⟩ | ⟨q, hq, -, w1, w2, -⟩
    · exact w
    · rw [h0] at w2; exact absurd w2 (by decide)
  obtain ⟨⟨n, hn, e10, hl⟩, a2, a3, a4, a5, a6, a7⟩ := h
  have hz : zhas z p := by unfold zhas; rw [hpc]; exact nI_nm5 (by omega)
  have d10 : p / 10 < 5 := by omega
  have epp : ∀ q, q < 50 → zmv z p c' (103 + 4 * q + 0) = if q = p then nI c' else z (103 + 4 * q + 0) := by
    intro q hq
    unfold zmv zgi
    by_cases e : q = p
    · subst e; simp (disch := omega) only [pk_un, pk_us, if_true]
    · simp (disch := omega) only [pk_un, if_neg e]
  have ehh : ∀ x, x < 40 → zmv z p c' (23 + x) = if x = c' then 1 else z (23 + x) := by
    intro x hx
    unfold zmv zgi
    by_cases e : x = c'
    · subst e; simp (disch := omega) only [pk_un, pk_us, if_true]
    · simp (disch := omega) only [pk_un, if_neg e]
  refine ⟨⟨n, hn, ?_, fun k hk => ?_⟩, ⟨c', hc', ?_⟩, ?_, fun q hq => ?_, fun q1 q2 hq1 hq2 hz1 e => ?_, fun x hx hxc => ?_, ?_, fun q hq => ?_⟩
  · unfold zmv zgi; simp (disch := omega) only [pk_un]; exact e10
  · unfold zmv zgi; simp (disch := omega) only [pk_un]; exact hl k hk
  · unfold zmv zgi; simp (disch := omega) only [pk_un, pk_us]
  · unfold zmv zgi; simp (disch := omega) only [pk_un]; exact a3
  · have e1 : zmv z p c' (103 + 4 * q + 1) = z (103 + 4 * q + 1) := by unfold zmv zgi; simp (disch := omega) only [pk_un]
    have e2 : zmv z p c' (103 + 4 * q + 2) = z (103 + 4 * q + 2) := by unfold zmv zgi; simp (disch := omega) only [pk_un]
    rw [epp q hq, e1, e2]
    by_cases e : q = p
    · rw [if_pos e]
      rcases a4 q hq with w | ⟨x, hx, w1, w2, w3⟩
      · rw [e] at w; exact absurd w.1 hz
      · exact Or.inr ⟨c', hc', rfl, by rw [ehh c' hc', if_pos rfl], w3⟩
    · rw [if_neg e]
      rcases a4 q hq with w | ⟨x, hx, w1, w2, w3⟩
      · exact Or.inl w
      · refine Or.inr ⟨x, hx, w1, ?_, w3⟩
        rw [ehh x hx]
        by_cases e4 : x = c'
        · rw [if_pos e4]
        · rw [if_neg e4, w2]
  · unfold zhas at hz1
    rw [epp q1 hq1] at hz1 e
    rw [epp q2 hq2] at e
    by_cases x1 : q1 = p <;> by_cases x2 : q2 = p
    · rw [x1, x2]
    · rw [if_pos x1, if_neg x2] at e
      exact absurd e.symm (hno q2 hq2)
    · rw [if_neg x1, if_pos x2] at e
      exact absurd e (hno q1 hq1)
    · rw [if_neg x1] at hz1
      rw [if_neg x1, if_neg x2] at e
      exact a5 q1 q2 hq1 hq2 hz1 e
  · rw [ehh x hx]
    by_cases e4 : x = c'
    · rw [if_pos e4]
      exact Or.inr (Or.inr ⟨rfl, p, hp, by rw [epp p hp, if_pos rfl, e4]⟩)
    · rw [if_neg e4]
      rcases a6 x hx with w | w | ⟨w, q, hq, w2⟩
      · exact Or.inl w
      · exact Or.inr (Or.inl w)
      · refine Or.inr (Or.inr ⟨w, q, hq, ?_⟩)
        rw [epp q hq, if_neg ?_, w2]
        intro e
        rw [e, hpc] at w2
        exact hxc (nI_inj (by omega) (by omega) w2).symm
  · have s1 : sum5 (zmv z p c') 308 = sum5 z 308 + 1 := by
      rw [← sum5_up d10 (1 : Int32)]
      refine sum5_un (fun j hj => ?_)
      unfold zmv zgi
      by_cases e : j = p / 10
      · rw [e]; simp (disch := omega) only [pk_un, pk_us]
      · simp (disch := omega) only [pk_un]
    have s2 : sum5 (zmv z p c') 303 = sum5 z 303 := sum5_un (fun j hj => by unfold zmv zgi; simp (disch := omega) only [pk_un])
    rw [s1, s2]
    unfold zmv zgi
    simp (disch := omega) only [pk_un, pk_us]
    rw [a7.1, a7.2]
    exact ⟨rfl, rfl⟩
  · rw [epp q hq]
    by_cases e : q = p
    · rw [if_pos e]; exact fun w => hne (nI_inj (by omega) (by omega) w)
    · rw [if_neg e]
      intro w
      exact e (a5 p q hp hq hz (by rw [hpc, w])).symm
