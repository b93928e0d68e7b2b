/-! PURE PART: the history, on both sides -/
def pushN (n : Nat) : Nat := if n < 4 then n + 1 else 4
def pushH (n : Nat) (H : Nat → Z) (z : Z) : Nat → Z := fun i => if n < 4 then (if i = n then z else H i) else (if i = 3 then z else H (i + 1))
/-- the class's half: its memory, its history -/
def CH (σ : Mem) (z : Z) (n o : Nat) (H : Nat → Z) : Prop := n ≤ 4 ∧ o < 4 ∧ Rel σ 0 z ∧ σ 85 2 = nI n ∧ σ 85 1 = nI o ∧ ∀ i, i < n → Rel σ (36 + 12 * ((o + i) % 4)) (H i)
/-- the reference's half -/
def RH (σ : Mem) (z : Z) (n : Nat) (H : Nat → Z) : Prop := n ≤ 4 ∧ σ 94 = z ∧ σ 93 3 = nI n ∧ ∀ i, i < n → zeq (H i) (fun k => σ 96 (313 * i + k))
def CR (σ τ : Mem) : Prop := (∀ k, 24 ≤ k → k < 36 → τ k = σ k) ∧ ∀ k, 84 ≤ k → ¬ k = 85 → τ k = σ k
def RR (σ τ : Mem) : Prop := (∀ k, ¬ k = 93 → ¬ k = 94 → ¬ k = 95 → ¬ k = 96 → τ k = σ k) ∧ ∀ i, ¬ i = 3 → τ 93 i = σ 93 i
theorem CR.tr {σ τ ρ : Mem} (h : CR σ τ) (h2 : CR τ ρ) : CR σ ρ := ⟨fun k a b => (h2.1 k a b).trans (h.1 k a b), fun k a b => (h2.2 k a b).trans (h.2 k a b)⟩
theorem RR.tr {σ τ ρ : Mem} (h : RR σ τ) (h2 : RR τ ρ) : RR σ ρ := ⟨fun k a b c d => (h2.1 k a b c d).trans (h.1 k a b c d), fun i a => (h2.2 i a).trans (h.2 i a)⟩
theorem RR.sz {σ τ : Mem} (h : RR σ τ) (z : Z) : RR σ (sz τ z) := ⟨fun k a b c d => by rw [sz_ne τ z b]; exact h.1 k a b c d, fun i a => by rw [sz_ne τ z (by decide)]; exact h.2 i a⟩
theorem RR.rf (σ : Mem) : RR σ σ := ⟨fun _ _ _ _ _ => rfl, fun _ _ => rfl⟩
theorem CR.rf (σ : Mem) : CR σ σ := ⟨fun _ _ _ => rfl, fun _ _ _ => rfl⟩
theorem RH.set {σ : Mem} {z w : Z} {n : Nat} {H : Nat → Z} (h : RH σ z n H) : RH (sz σ w) w n H := by
  obtain ⟨h1, h2, h3, h4⟩ := h
  exact ⟨h1, sz_94 σ w, by rw [sz_ne σ w (by decide)]; exact h3, fun i hi => by rw [sz_ne σ w (by decide)]; exact h4 i hi⟩
theorem RH.far {σ τ : Mem} {z : Z} {n : Nat} {H : Nat → Z} (h : RH σ z n H) (h93 : τ 93 = σ 93) (h94 : τ 94 = σ 94) (h96 : τ 96 = σ 96) : RH τ z n H := by
  obtain ⟨h1, h2, h3, h4⟩ := h
  exact ⟨h1, by rw [h94]; exact h2, by rw [h93]; exact h3, fun i hi => by rw [h96]; exact h4 i hi⟩
theorem CH.far {σ τ : Mem} {z : Z} {n o : Nat} {H : Nat → Z} (h : CH σ z n o H) (hf : ∀ k, (k < 12 ∨ (36 ≤ k ∧ k < 84) ∨ k = 85) → τ k = σ k) : CH τ z n o H := by
  obtain ⟨h1, h2, h3, h4, h5, h6⟩ := h
  exact ⟨h1, h2, h3.far (fun k _ hk => hf k (by omega)), by rw [hf 85 (by omega)]; exact h4, by rw [hf 85 (by omega)]; exact h5, fun i hi => (h6 i hi).far (fun k a b => hf k (by omega))⟩
theorem CH.mem {σ τ : Mem} {z w : Z} {n o : Nat} {H : Nat → Z} (h : CH σ z n o H) (hr : Rel τ 0 w) (hf : ∀ k, ((36 ≤ k ∧ k < 84) ∨ k = 85) → τ k = σ k) : CH τ w n o H := by
  obtain ⟨h1, h2, h3, h4, h5, h6⟩ := h
  exact ⟨h1, h2, hr, by rw [hf 85 (by omega)]; exact h4, by rw [hf 85 (by omega)]; exact h5, fun i hi => (h6 i hi).far (fun k a b => hf k (by omega))⟩
theorem isM_h {i : Nat} (hi : i < 4) : isM (36 + 12 * i) := by unfold isM; omega
theorem before_ok {σ : Mem} {z : Z} {P : Mem → Prop} (R : Rel σ 0 z) (I : Iz z) (h : ∀ τ, Rel τ 12 z → (∀ k, ¬ (12 ≤ k ∧ k < 24) → τ k = σ k) → P τ) : wp_X1_copyFrom σ 12 0 P := copy_ok isM_0 isM_12 (by decide) R I h
theorem mod4 {o n : Nat} : (nI o + nI n) - (nI o + nI n) / 4 * 4 = nI ((o + n) % 4) ∨ ¬ o + n < 2 ^ 31 := by
  by_cases h : o + n < 2 ^ 31
  · refine Or.inl ?_
    show (nI o + nI n) - (nI o + nI n) / nI 4 * nI 4 = _
    rw [nI_add, pk_rem h (by decide) (by decide)]
  · exact Or.inr h
theorem add_ok {σ : Mem} {z zb : Z} {n o : Nat} {H : Nat → Z} {P : Mem → Prop} (C : CH σ z n o H) (R : Rel σ 12 zb) (I : Iz zb) (h : ∀ τ o', CH τ z (pushN n) o' (pushH n H zb) → (∀ k, ¬ (36 ≤ k ∧ k < 84) → ¬ k = 85 → τ k = σ k) → P τ) : wp_X0_add σ P := by
  obtain ⟨hn, ho, hR, e2, e1, hH⟩ := C
  unfold wp_X0_add
  simp only [bm]
  rw [e1, e2, (mod4 (o := o) (n := n)).resolve_right (fun q => q (by omega)), clI (by omega)]
  have hm : (o + n) % 4 < 4 := Nat.mod_lt _ (by decide)
  refine ⟨inI hm (by decide), copy_ok isM_12 (isM_h hm) (by omega) R I (fun τ Rτ hτ => ?_)⟩
  have t2 : τ 85 2 = nI n := by rw [hτ 85 (by omega)]; exact e2
  have t1 : τ 85 1 = nI o := by rw [hτ 85 (by omega)]; exact e1
  have hR0 : Rel τ 0 z := hR.far (fun k _ hk => hτ k (by omega))
  rw [t1, t2]
  refine ⟨fun q => ?_, fun q => ?_⟩
  · have hn4 : n = 4 := by
      rcases Nat.lt_or_ge n 4 with w | w
      · exact absurd q (nI_ge w (by decide))
      · omega
    subst hn4
    have e : (nI o + 1) - (nI o + 1) / 4 * 4 = nI ((o + 1) % 4) := (mod4 (o := o) (n := 1)).resolve_right (fun q => q (by omega))
    rw [e]
    refine h _ ((o + 1) % 4) ⟨by decide, Nat.mod_lt _ (by decide), hR0.far (fun k _ hk => up2_ne _ (by omega)), ?_, ?_, fun i hi => ?_⟩ (fun k h1 h2 => by rw [up2_ne _ h2, hτ k (by omega)])
    · rw [up2_eq, pk_un (by decide)]; exact t2
    · rw [up2_eq, pk_us]
    · have hi4 : i < 4 := hi
      unfold pushH
      rw [if_neg (by decide)]
      by_cases e3 : i = 3
      · rw [if_pos e3, e3]
        have : ((o + 1) % 4 + 3) % 4 = (o + 4) % 4 := by omega
        rw [this]
        exact Rτ.far (fun k a b => up2_ne _ (by omega))
      · rw [if_neg e3]
        have : ((o + 1) % 4 + i) % 4 = (o + (i + 1)) % 4 := by omega
        rw [this]
        refine ((hH (i + 1) (by omega)).far (fun k a b => hτ k ?_)).far (fun k a b => up2_ne _ (by omega))
        have : (o + (i + 1)) % 4 ≠ (o + 4) % 4 := by omega
        omega
  · have hn4 : n < 4 := by
      rcases Nat.lt_or_ge n 4 with w | w
      · exact w
      · exact absurd (nI_le w (by omega)) q
    have ep : pushN n = n + 1 := by unfold pushN; rw [if_pos hn4]
    refine h _ o ⟨by rw [ep]; omega, ho, hR0.far (fun k _ hk => up2_ne _ (by omega)), ?_, ?_, fun i hi => ?_⟩ (fun k h1 h2 => by rw [up2_ne _ h2, hτ k (by omega)])
    · rw [up2_eq, pk_us, ep, nI_1]
    · rw [up2_eq, pk_un (by decide)]; exact t1
    · rw [ep] at hi
      unfold pushH
      rw [if_pos hn4]
      by_cases e3 : i = n
      · rw [if_pos e3, e3]
        exact Rτ.far (fun k a b => up2_ne _ (by omega))
      · rw [if_neg e3]
        refine ((hH i (by omega)).far (fun k a b => hτ k ?_)).far (fun k a b => up2_ne _ (by omega))
        have : (o + i) % 4 ≠ (o + n) % 4 := by omega
        omega
theorem recorded_no {σ : Mem} {r : Int32} {P : Int32 → Mem → Prop} (hr : ¬ 0 ≤ r) (h : P r σ) : wp_X4_recorded σ r P := by
  unfold wp_X4_recorded
  exact ⟨fun _ => h, fun q => absurd (Int32.not_lt.mp q) hr⟩
theorem recorded_yes {σ : Mem} {r : Int32} {z zb : Z} {n o : Nat} {H : Nat → Z} {P : Int32 → Mem → Prop} (hr : 0 ≤ r) (C : CH σ z n o H) (R : Rel σ 12 zb) (I : Iz zb) (h : ∀ τ o', CH τ z (pushN n) o' (pushH n H zb) → (∀ k, ¬ (36 ≤ k ∧ k < 84) → ¬ k = 85 → τ k = σ k) → P r τ) : wp_X4_recorded σ r P := by
  unfold wp_X4_recorded
  exact ⟨fun q => absurd hr (Int32.not_le.mpr q), fun _ => add_ok C R I h⟩
/-! the reference's record -/
theorem recordRow_ok {σ : Mem} {a : Nat} {z zb : Z} {n : Nat} {H : Nat → Z} {P : Mem → Prop} (C : RH σ z n H) (ha : a = 94 ∨ a = 95) (hb : σ a = zb) (h : ∀ τ, RH τ z (pushN n) (pushH n H zb) → (∀ k, ¬ k = 93 → ¬ k = 96 → τ k = σ k) → (∀ i, ¬ i = 3 → τ 93 i = σ 93 i) → P τ) : wp_X5_recordRow σ a P := by
  obtain ⟨hn, e94, e3, hH⟩ := C
  have ala : aln a = 313 := by rcases ha with rfl | rfl <;> rfl
  unfold wp_X5_recordRow
  simp only [jn, bm]
  have tail : ∀ (ρ : Mem) (m : Nat) (K : Nat → Z), m < 4 → ρ 93 3 = nI m → (∀ i, i < m → zeq (K i) (fun k => ρ 96 (313 * i + k))) → (∀ k, ¬ k = 93 → ¬ k = 96 → ρ k = σ k) → (∀ i, ¬ i = 3 → ρ 93 i = σ 93 i) → pushN n = m + 1 → (∀ i, i < m → pushH n H zb i = K i) → pushH n H zb m = zb →
      wp_X5_copyState ρ a 0 96 (313 * (ρ 93 3)) (fun σ3 => P (up2 σ3 93 3 ((σ3 93 3) + 1))) := by
    intro ρ m K hm em hK hf h93 ep h1 h2
    have e : (313 : Int32) * ρ 93 3 = nI (313 * m) := by
      rw [em]
      show nI 313 * nI m = _
      rw [pk_mul]
    refine copyState_ok (f := 0) (t := 313 * m) nI_0.symm e (by rw [ala]; omega) (by show _ ≤ 1252; omega) (by omega) (fun τ c1 c2 c3 => ?_)
    have t93 : τ 93 = ρ 93 := c3 93 (by decide)
    rw [t93, em]
    refine h _ ⟨by rw [ep]; omega, ?_, ?_, fun i hi => ?_⟩ (fun k k1 k2 => ?_) (fun i hi => ?_)
    · rw [up2_ne _ (by decide), c3 94 (by decide), hf 94 (by decide) (by decide)]; exact e94
    · rw [up2_eq, pk_us, ep, nI_1]
    · rw [ep] at hi
      intro k hk
      show up2 τ 93 3 _ 96 (313 * i + k) = _
      rw [up2_ne _ (by decide)]
      by_cases q : i = m
      · rw [q, c1 k hk, h2, hf a (by omega) (by omega), hb, Nat.zero_add]
      · rw [c2 _ (by omega), h1 i (by omega)]
        exact hK i (by omega) k hk
    · rw [up2_ne _ k1, c3 k k2, hf k k1 k2]
    · rw [up2_eq, pk_un hi, t93]; exact h93 i hi
  rw [e3]
  refine ⟨fun q => ?_, fun q => ?_⟩
  · have hn4 : n = 4 := nI_inj (by omega) (by decide) q
    subst hn4
    refine lq2_inv 939 (fun k (τ : Mem) => (∀ i, i < k → τ 96 i = σ 96 (i + 313)) ∧ (∀ i, k ≤ i → τ 96 i = σ 96 i) ∧ ∀ j, ¬ j = 96 → τ j = σ j) (fun k τ rec hk hI hrec => ?_) (fun τ rec hI => ?_) ⟨fun i hi => absurd hi (Nat.not_lt_zero _), fun i _ => rfl, fun j _ => rfl⟩ nI_0.symm
    · obtain ⟨i1, i2, i3⟩ := hI
      have p1 := ix1 (a := k) (k := 313) (n := 1252) (by omega) (by decide)
      have e1 : (nI k + 313).toNatClampNeg = k + 313 := p1.2
      rw [e1, clI (by omega)]
      refine ⟨ge_no hk (by decide), fun _ => ⟨p1.1, inI (by omega) (by decide), hrec _ ⟨fun i hi => ?_, fun i hi => ?_, fun j hj => ?_⟩⟩⟩
      · rw [up2_eq]
        by_cases e : i = k
        · rw [e, pk_us]; exact i2 _ (by omega)
        · rw [pk_un e]; exact i1 i (by omega)
      · rw [up2_eq, pk_un (by omega)]; exact i2 i (by omega)
      · rw [up2_ne _ hj]; exact i3 j hj
    · obtain ⟨i1, i2, i3⟩ := hI
      refine ⟨fun _ => ?_, ge_yes⟩
      have e9 : τ 93 3 = nI 4 := by rw [i3 93 (by decide)]; exact e3
      rw [e9]
      have e4 : nI 4 - 1 = nI 3 := by decide
      rw [e4]
      refine tail (up2 τ 93 3 (nI 3)) 3 (fun i => H (i + 1)) (by decide) (by rw [up2_eq, pk_us]) (fun i hi k hk => ?_) (fun k k1 k2 => by rw [up2_ne _ k1, i3 k k2]) (fun i hi => by rw [up2_eq, pk_un hi, i3 93 (by decide)]) rfl (fun i hi => ?_) ?_
      · show up2 τ 93 3 _ 96 (313 * i + k) = _
        rw [up2_ne _ (by decide), i1 _ (by omega)]
        have := hH (i + 1) (by omega) k hk
        rw [← this]
        show σ 96 (313 * i + k + 313) = σ 96 (313 * (i + 1) + k)
        congr 1
        omega
      · unfold pushH; rw [if_neg (by decide), if_neg (by omega)]
      · unfold pushH; rw [if_neg (by decide), if_pos rfl]
  · have hn4 : n < 4 := by
      rcases Nat.lt_or_ge n 4 with w | w
      · exact w
      · have : n = 4 := by omega
        rw [this] at q
        exact absurd rfl q
    have T := tail σ n H hn4 e3 hH (fun k _ _ => rfl) (fun i _ => rfl) (by unfold pushN; rw [if_pos hn4]) (fun i hi => by unfold pushH; rw [if_pos hn4, if_neg (by omega)]) (by unfold pushH; rw [if_pos hn4, if_pos rfl])
    rw [e3] at T
    exact T
theorem record_ok {σ : Mem} {z : Z} {n : Nat} {H : Nat → Z} {P : Mem → Prop} (C : RH σ z n H) (h : ∀ τ, RH τ z (pushN n) (pushH n H z) → RR σ τ → P τ) : wp_X5_record σ P := by
  unfold wp_X5_record
  exact recordRow_ok C (Or.inl rfl) C.2.1 (fun τ hτ h1 h2 => h τ hτ ⟨fun k a b c d => h1 k a d, h2⟩)
/-- behind a record the state is still z -/
theorem RH.asz {σ : Mem} {z : Z} {n : Nat} {H : Nat → Z} (h : RH σ z n H) : sz σ z = σ := by rw [← h.2.1]; exact sz_id σ
