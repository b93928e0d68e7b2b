/-! PURE PART: the acts on the state: what holds stays -/
theorem zst_keep (z : Z) {c : Nat} (I : Iz z) (hc : c < 40) : (∀ x, x < 40 → zst z c (63 + x) = z (63 + x)) ∧ zst z c 0 = z 0 ∧ (∀ x, x < 40 → zst z c (23 + x) = 0 → z (23 + x) = 0) ∧ (zst z c (23 + c) = 0 → ¬ bad z c) := by
  have hre : ∀ w : Z, (∃ n, n ≤ 12 ∧ w 10 = nI n) → (∀ x, x < 40 → zre w c (63 + x) = w (63 + x)) ∧ zre w c 0 = w 0 ∧ (∀ x, x < 40 → zre w c (23 + x) = if x = c then 2 else w (23 + x)) := by
    intro w hl
    obtain ⟨n, hn, e10⟩ := hl
    unfold zre
    by_cases q : 12 ≤ w 10
    · rw [if_pos q]
      refine ⟨fun x hx => pk_un (by omega), pk_un (by omega), fun x hx => ?_⟩
      by_cases e : x = c
      · rw [e, pk_us, if_pos rfl]
      · rw [pk_un (by omega), if_neg e]
    · have hn12 : n < 12 := by
        rw [e10] at q
        rcases Nat.lt_or_ge n 12 with w | w
        · exact w
        · exact absurd (nI_le w (by omega)) q
      rw [if_neg q, e10, clI (by omega)]
      refine ⟨fun x hx => by simp (disch := omega) only [pk_un], by simp (disch := omega) only [pk_un], fun x hx => ?_⟩
      by_cases e : x = c
      · rw [e, if_pos rfl]; simp (disch := omega) only [pk_un, pk_us]
      · rw [if_neg e]; simp (disch := omega) only [pk_un]
  have hl : ∃ n, n ≤ 12 ∧ z 10 = nI n := by obtain ⟨n, hn, q, -⟩ := I.1; exact ⟨n, hn, q⟩
  by_cases hb : bad z c
  · by_cases h1 : z (23 + c) = 1
    · rcases I.pg hc with ⟨-, w, -⟩ | ⟨p, hp, ep, e2, -, -⟩
      · exact absurd h1 w
      · have hno : zst z c = z → (∀ x, x < 40 → zst z c (63 + x) = z (63 + x)) ∧ zst z c 0 = z 0 ∧ (∀ x, x < 40 → zst z c (23 + x) = 0 → z (23 + x) = 0) ∧ (zst z c (23 + c) = 0 → ¬ bad z c) := by
          intro e
          rw [e]
          exact ⟨fun _ _ => rfl, rfl, fun _ _ h => h, fun h => by rw [h1] at h; exact absurd h (by decide)⟩
        by_cases h2 : z (103 + 4 * p + 2) = 0
        · rcases gv_cases z with hg | ⟨c', hc', hg, h0, -⟩
          · exact hno (zst_wait hb h1 hp ep (Or.inr hg))
          · rw [zst_mv hb h1 hp ep h2 hc' hg]
            have hl2 : ∃ n, n ≤ 12 ∧ zmv z p c' 10 = nI n := by
              obtain ⟨n, hn, q⟩ := hl
              refine ⟨n, hn, ?_⟩
              unfold zmv zgi
              simp (disch := omega) only [pk_un]
              exact q
            obtain ⟨r1, r2, r3⟩ := hre (zmv z p c') hl2
            refine ⟨fun x hx => ?_, ?_, fun x hx h => ?_, fun h => ?_⟩
            · rw [r1 x hx]; unfold zmv zgi; simp (disch := omega) only [pk_un]
            · rw [r2]; unfold zmv zgi; simp (disch := omega) only [pk_un]
            · rw [r3 x hx] at h
              by_cases e : x = c
              · rw [if_pos e] at h; exact absurd h (by decide)
              · rw [if_neg e] at h
                by_cases e3 : x = c'
                · rw [e3]; exact h0
                · unfold zmv zgi at h
                  simp (disch := omega) only [pk_un] at h
                  exact h
            · rw [r3 c hc, if_pos rfl] at h; exact absurd h (by decide)
        · exact hno (zst_wait hb h1 hp ep (Or.inl h2))
    · rw [zst_free hb h1]
      obtain ⟨r1, r2, r3⟩ := hre z hl
      refine ⟨r1, r2, fun x hx h => ?_, fun h => ?_⟩
      · rw [r3 x hx] at h
        by_cases e : x = c
        · rw [if_pos e] at h; exact absurd h (by decide)
        · rw [if_neg e] at h; exact h
      · rw [r3 c hc, if_pos rfl] at h; exact absurd h (by decide)
  · rw [zst_no hb]
    exact ⟨fun _ _ => rfl, rfl, fun _ _ h => h, fun _ => hb⟩
theorem Iz.lkF {z : Z} (I : Iz z) : Fz (zlk z 40) := by
  have key : ∀ n, n ≤ 40 → (∀ x, x < 40 → zlk z n (63 + x) = z (63 + x)) ∧ zlk z n 0 = z 0 ∧ ∀ c, c < n → zlk z n (23 + c) = 0 → z (63 + c) < z 0 := by
    intro n
    induction n with
    | zero => intro _; exact ⟨fun _ _ => rfl, rfl, fun c hc => absurd hc (Nat.not_lt_zero _)⟩
    | succ n ih =>
      intro hn
      obtain ⟨i1, i2, i3⟩ := ih (by omega)
      obtain ⟨k1, k2, k3, k4⟩ := zst_keep (zlk z n) (I.lk n (by omega)) (c := n) (by omega)
      refine ⟨fun x hx => (k1 x hx).trans (i1 x hx), k2.trans i2, fun c hc h => ?_⟩
      have h0 := k3 c (by omega) h
      by_cases e : c = n
      · subst e
        have hb := k4 h
        have : ¬ ¬ zlk z c (63 + c) < zlk z c 0 := fun w => hb ⟨by rw [h0]; decide, w⟩
        rw [i1 c (by omega), i2] at this
        exact Classical.byContradiction this
      · exact i3 c (by omega) h0
  obtain ⟨k1, k2, k3⟩ := key 40 (Nat.le_refl _)
  intro c hc h hb
  refine hb.2 ?_
  rw [k1 c hc, k2]
  exact k3 c hc h
/-- what the conditions don't speak of may change -/
theorem Iz.cg {z w : Z} (h : Iz z) (e : ∀ i, i < 313 → (i = 1 ∨ i = 6 ∨ i = 7 ∨ (9 ≤ i ∧ i < 63) ∨ 103 ≤ i) → w i = z i) : Iz w := by
  obtain ⟨⟨n, hn, e10, hl⟩, a2, a3, a4, a5, a6, a7⟩ := h
  refine ⟨⟨n, hn, by rw [e 10 (by omega) (by omega)]; exact e10, fun k hk => by rw [e (11 + k) (by omega) (by omega)]; exact hl k hk⟩, by rw [e 9 (by omega) (by omega)]; exact a2, by rw [e 1 (by omega) (by omega)]; exact a3, fun p hp => ?_, fun p q hp hq hz he => ?_, fun c hc => ?_, ?_⟩
  · rw [e _ (by omega) (by omega), e (103 + 4 * p + 1) (by omega) (by omega), e (103 + 4 * p + 2) (by omega) (by omega)]
    rcases a4 p hp with q | ⟨x, hx, q1, q2, q3⟩
    · exact Or.inl q
    · exact Or.inr ⟨x, hx, q1, by rw [e _ (by omega) (by omega)]; exact q2, q3⟩
  · unfold zhas at hz
    rw [e _ (by omega) (by omega)] at hz he
    rw [e (103 + 4 * q + 0) (by omega) (by omega)] at he
    exact a5 p q hp hq hz he
  · rw [e _ (by omega) (by omega)]
    rcases a6 c hc with q | q | ⟨q, p, hp, q2⟩
    · exact Or.inl q
    · exact Or.inr (Or.inl q)
    · exact Or.inr (Or.inr ⟨q, p, hp, by rw [e _ (by omega) (by omega)]; exact q2⟩)
  · rw [e 6 (by omega) (by omega), e 7 (by omega) (by omega), sum5_un (z := z) (b := 308) (fun j hj => e _ (by omega) (by omega)), sum5_un (z := z) (b := 303) (fun j hj => e _ (by omega) (by omega))]
    exact a7
/-- a page's value or pin -/
theorem Iz.pv {z w : Z} (h : Iz z) {p : Nat} (hp : p < 50) (hz : zhas z p) (e : ∀ i, i < 313 → ¬ i = 103 + 4 * p + 1 → ¬ i = 103 + 4 * p + 2 → ¬ i = 103 + 4 * p + 3 → w i = z i) (hv : 0 ≤ w (103 + 4 * p + 1)) (hb : isZ (w (103 + 4 * p + 2))) : Iz w := by
  obtain ⟨⟨n, hn, e10, hl⟩, a2, a3, a4, a5, a6, a7⟩ := h
  have e0 : ∀ q, q < 50 → w (103 + 4 * q + 0) = z (103 + 4 * q + 0) := fun q hq => e _ (by omega) (by omega) (by omega) (by omega)
  refine ⟨⟨n, hn, by rw [e 10 (by omega) (by omega) (by omega) (by omega)]; exact e10, fun k hk => by rw [e (11 + k) (by omega) (by omega) (by omega) (by omega)]; exact hl k hk⟩, by rw [e 9 (by omega) (by omega) (by omega) (by omega)]; exact a2, by rw [e 1 (by omega) (by omega) (by omega) (by omega)]; exact a3, fun q hq => ?_, fun p1 q hp1 hq hz1 he => ?_, fun c hc => ?_, ?_⟩
  · rw [e0 q hq]
    by_cases x : q = p
    · subst x
      rcases a4 q hq with y | ⟨x, hx, q1, q2, q3⟩
      · exact absurd y.1 hz
      · exact Or.inr ⟨x, hx, q1, by rw [e _ (by omega) (by omega) (by omega) (by omega)]; exact q2, hv, hb⟩
    · rw [e (103 + 4 * q + 1) (by omega) (by omega) (by omega) (by omega), e (103 + 4 * q + 2) (by omega) (by omega) (by omega) (by omega)]
      rcases a4 q hq with y | ⟨x, hx, q1, q2, q3⟩
      · exact Or.inl y
      · exact Or.inr ⟨x, hx, q1, by rw [e _ (by omega) (by omega) (by omega) (by omega)]; exact q2, q3⟩
  · unfold zhas at hz1
    rw [e0 p1 hp1] at hz1 he
    rw [e0 q hq] at he
    exact a5 p1 q hp1 hq hz1 he
  · rw [e (23 + c) (by omega) (by omega) (by omega) (by omega)]
    rcases a6 c hc with q | q | ⟨q, p1, hp1, q2⟩
    · exact Or.inl q
    · exact Or.inr (Or.inl q)
    · exact Or.inr (Or.inr ⟨q, p1, hp1, by rw [e0 p1 hp1]; exact q2⟩)
  · rw [e 6 (by omega) (by omega) (by omega) (by omega), e 7 (by omega) (by omega) (by omega) (by omega), sum5_un (z := z) (b := 308) (fun j hj => e _ (by omega) (by omega) (by omega) (by omega)), sum5_un (z := z) (b := 303) (fun j hj => e _ (by omega) (by omega) (by omega) (by omega))]
    exact a7
/-- a page gets a cell -/
theorem Iz.gi {z : Z} (h : Iz z) {p c : Nat} {v : Int32} (hp : p < 50) (hn : ¬ zhas z p) (hc : c < 40) (h0 : z (23 + c) = 0) (hv : 0 ≤ v) : Iz (upd (zgi z p c) (103 + 4 * p + 1) v) := by
  have hem := h.nohas hp hn
  have hno : ∀ q, q < 50 → ¬ z (103 + 4 * q + 0) = nI c := by
    rcases h.pg hc with ⟨-, -, w⟩ | ⟨q, hq, -, w1, w2, -⟩
    · exact w
    · rw [h0] at w2; exact absurd w2 (by decide)
  obtain ⟨⟨n, hn12, e10, hl⟩, a2, a3, a4, a5, a6, a7⟩ := h
  have e0 : ∀ q, q < 50 → upd (zgi z p c) (103 + 4 * p + 1) v (103 + 4 * q + 0) = if q = p then nI c else z (103 + 4 * q + 0) := by
    intro q hq
    unfold zgi
    by_cases e : q = p
    · subst e; simp (disch := omega) only [pk_un, pk_us, if_true]
    · simp (disch := omega) only [pk_un, if_neg e]
  have eh : ∀ x, x < 40 → upd (zgi z p c) (103 + 4 * p + 1) v (23 + x) = if x = c then 1 else z (23 + x) := by
    intro x hx
    unfold zgi
    by_cases e : x = c
    · subst e; simp (disch := omega) only [pk_un, pk_us, if_true]
    · simp (disch := omega) only [pk_un, if_neg e]
  have ex : ∀ i, i < 313 → (i < 9 ∨ (10 ≤ i ∧ i < 23) ∨ 303 ≤ i) → upd (zgi z p c) (103 + 4 * p + 1) v i = z i := by
    intro i hi hq
    unfold zgi
    simp (disch := omega) only [pk_un]
  refine ⟨⟨n, hn12, by rw [ex 10 (by omega) (by omega)]; exact e10, fun k hk => by rw [ex (11 + k) (by omega) (by omega)]; exact hl k hk⟩, ⟨c, hc, by unfold zgi; simp (disch := omega) only [pk_un, pk_us]⟩, by rw [ex 1 (by omega) (by omega)]; exact a3, fun q hq => ?_, fun p1 q hp1 hq hz1 he => ?_, fun x hx => ?_, ?_⟩
  · rw [e0 q hq]
    by_cases e : q = p
    · subst e
      rw [if_pos rfl]
      refine Or.inr ⟨c, hc, rfl, by rw [eh c hc, if_pos rfl], by rw [pk_us]; exact hv, ?_⟩
      unfold zgi
      simp (disch := omega) only [pk_un]
      exact Or.inl hem.2.2
    · rw [if_neg e]
      have e1 : upd (zgi z p c) (103 + 4 * p + 1) v (103 + 4 * q + 1) = z (103 + 4 * q + 1) := by unfold zgi; simp (disch := omega) only [pk_un]
      have e2 : upd (zgi z p c) (103 + 4 * p + 1) v (103 + 4 * q + 2) = z (103 + 4 * q + 2) := by unfold zgi; simp (disch := omega) only [pk_un]
      rw [e1, e2]
      rcases a4 q hq with y | ⟨x, hx, q1, q2, q3⟩
      · exact Or.inl y
      · refine Or.inr ⟨x, hx, q1, ?_, q3⟩
        rw [eh x hx, q2]
        split <;> rfl
  · unfold zhas at hz1
    rw [e0 p1 hp1] at hz1 he
    rw [e0 q hq] at he
    by_cases x1 : p1 = p <;> by_cases x2 : q = p
    · rw [x1, x2]
    · rw [if_pos x1, if_neg x2] at he; exact absurd he.symm (hno q hq)
    · rw [if_neg x1, if_pos x2] at he; exact absurd he (hno p1 hp1)
    · rw [if_neg x1] at hz1; rw [if_neg x1, if_neg x2] at he; exact a5 p1 q hp1 hq hz1 he
  · rw [eh x hx]
    by_cases e : x = c
    · rw [if_pos e, e]; exact Or.inr (Or.inr ⟨rfl, p, hp, by rw [e0 p hp, if_pos rfl]⟩)
    · rw [if_neg e]
      rcases a6 x hx with q | q | ⟨q, p1, hp1, q2⟩
      · exact Or.inl q
      · exact Or.inr (Or.inl q)
      · refine Or.inr (Or.inr ⟨q, p1, hp1, ?_⟩)
        rw [e0 p1 hp1, if_neg ?_, q2]
        intro w
        rw [w, hem.1] at q2
        exact nI_nm5 (by omega) q2.symm
  · rw [ex 6 (by omega) (by omega), ex 7 (by omega) (by omega), sum5_un (z := z) (b := 308) (fun j hj => ex _ (by omega) (by omega)), sum5_un (z := z) (b := 303) (fun j hj => ex _ (by omega) (by omega))]
    exact a7
/-- a page is emptied: what is told of its places -/
theorem zem_at (z : Z) {p : Nat} (hp : p < 50) : (∀ q, q < 50 → zem z p (103 + 4 * q + 0) = if q = p then -5 else z (103 + 4 * q + 0)) ∧ (∀ q, q < 50 → zem z p (103 + 4 * q + 1) = if q = p then -5 else z (103 + 4 * q + 1)) ∧ (∀ q, q < 50 → zem z p (103 + 4 * q + 2) = if q = p then 0 else z (103 + 4 * q + 2)) ∧ (∀ i, i < 313 → (i < 103 ∨ 303 ≤ i) → zem z p i = z i) := by
  refine ⟨fun q hq => ?_, fun q hq => ?_, fun q hq => ?_, fun i hi hh => ?_⟩
  · unfold zem
    by_cases e : q = p
    · subst e; simp (disch := omega) only [pk_un, pk_us, if_true]
    · simp (disch := omega) only [pk_un, if_neg e]
  · unfold zem
    by_cases e : q = p
    · subst e; simp (disch := omega) only [pk_un, pk_us, if_true]
    · simp (disch := omega) only [pk_un, if_neg e]
  · unfold zem
    by_cases e : q = p
    · subst e; simp (disch := omega) only [pk_un, pk_us, if_true]
    · simp (disch := omega) only [pk_un, if_neg e]
  · unfold zem
    simp (disch := omega) only [pk_un]
/-- a page that has cell c is emptied: but for c's own word all holds -/
theorem Iz.em {z : Z} (h : Iz z) {p c : Nat} (hp : p < 50) (hc : c < 40) (hpc : z (103 + 4 * p + 0) = nI c) : Ix (zem z p) c := by
  have hz : zhas z p := by unfold zhas; rw [hpc]; exact nI_nm5 (by omega)
  obtain ⟨⟨n, hn12, e10, hl⟩, a2, a3, a4, a5, a6, a7⟩ := h
  obtain ⟨e0, e1, e2, ex⟩ := zem_at z hp
  refine ⟨⟨n, hn12, by rw [ex 10 (by omega) (by omega)]; exact e10, fun k hk => by rw [ex (11 + k) (by omega) (by omega)]; exact hl k hk⟩, by rw [ex 9 (by omega) (by omega)]; exact a2, by rw [ex 1 (by omega) (by omega)]; exact a3, fun q hq => ?_, fun p1 q hp1 hq hz1 he => ?_, fun x hx hxc => ?_, ?_, fun q hq => ?_⟩
  · rw [e0 q hq, e1 q hq, e2 q hq]
    by_cases e : q = p
    · rw [if_pos e, if_pos e, if_pos e]; exact Or.inl ⟨rfl, rfl, rfl⟩
    · rw [if_neg e, if_neg e, if_neg e]
      rcases a4 q hq with y | ⟨x, hx, q1, q2, q3⟩
      · exact Or.inl y
      · exact Or.inr ⟨x, hx, q1, by rw [ex _ (by omega) (by omega)]; exact q2, q3⟩
  · unfold zhas at hz1
    rw [e0 p1 hp1] at hz1 he
    rw [e0 q hq] at he
    by_cases x1 : p1 = p
    · rw [if_pos x1] at hz1; exact absurd rfl hz1
    · rw [if_neg x1] at hz1 he
      by_cases x2 : q = p
      · rw [if_pos x2] at he; exact absurd he hz1
      · rw [if_neg x2] at he; exact a5 p1 q hp1 hq hz1 he
  · rw [ex _ (by omega) (by omega)]
    rcases a6 x hx with q | q | ⟨q, p1, hp1, q2⟩
    · exact Or.inl q
    · exact Or.inr (Or.inl q)
    · refine Or.inr (Or.inr ⟨q, p1, hp1, ?_⟩)
      rw [e0 p1 hp1, if_neg ?_, q2]
      intro w
      rw [w, hpc] at q2
      exact hxc (nI_inj (by omega) (by omega) q2).symm
  · rw [ex 6 (by omega) (by omega), ex 7 (by omega) (by omega), sum5_un (z := z) (b := 308) (fun j hj => ex _ (by omega) (by omega)), sum5_un (z := z) (b := 303) (fun j hj => ex _ (by omega) (by omega))]
    exact a7
  · rw [e0 q hq]
    by_cases e : q = p
    · rw [if_pos e]; exact fun w => nI_nm5 (by omega) w.symm
    · rw [if_neg e]
      intro w
      exact e (a5 p q hp hq hz (by rw [hpc, w])).symm
theorem Ix.free {z : Z} {c : Nat} (h : Ix z c) (hc : c < 40) : Iz (upd z (23 + c) 0) := by
  obtain ⟨⟨n, hn12, e10, hl⟩, a2, a3, a4, a5, a6, a7, a8⟩ := h
  have ex : ∀ i, ¬ i = 23 + c → upd z (23 + c) 0 i = z i := fun i hi => pk_un hi
  refine ⟨⟨n, hn12, by rw [ex 10 (by omega)]; exact e10, fun k hk => by rw [ex (11 + k) (by omega)]; exact hl k hk⟩, by rw [ex 9 (by omega)]; exact a2, by rw [ex 1 (by omega)]; exact a3, fun q hq => ?_, fun p1 q hp1 hq hz1 he => ?_, fun x hx => ?_, ?_⟩
  · rw [ex _ (by omega), ex (103 + 4 * q + 1) (by omega), ex (103 + 4 * q + 2) (by omega)]
    rcases a4 q hq with y | ⟨x, hx, q1, q2, q3⟩
    · exact Or.inl y
    · refine Or.inr ⟨x, hx, q1, ?_, q3⟩
      rw [ex _ ?_]
      · exact q2
      · intro w
        have : x = c := by omega
        rw [this] at q1
        exact a8 q hq q1
  · unfold zhas at hz1
    rw [ex _ (by omega)] at hz1 he
    rw [ex (103 + 4 * q + 0) (by omega)] at he
    exact a5 p1 q hp1 hq hz1 he
  · by_cases e : x = c
    · rw [e, pk_us]; exact Or.inl rfl
    · rw [ex _ (by omega)]
      rcases a6 x hx e with q | q | ⟨q, p1, hp1, q2⟩
      · exact Or.inl q
      · exact Or.inr (Or.inl q)
      · exact Or.inr (Or.inr ⟨q, p1, hp1, by rw [ex _ (by omega)]; exact q2⟩)
  · rw [ex 6 (by omega), ex 7 (by omega), sum5_un (z := z) (b := 308) (fun j hj => ex _ (by omega)), sum5_un (z := z) (b := 303) (fun j hj => ex _ (by omega))]
    exact a7
