/-! PURE PART: the whole text is read -/
def st (t : Z) (N : Nat) : Nat → Nat
  | 0 => 0
  | m + 1 => (thg t N (st t N m)).1 + 1
def Go (t : Z) (N m : Nat) : Prop := ∃ k' o, thg t N (st t N m) = (k', some o) ∧ k' < N ∧ t k' = 59
def Flt (t : Z) (N m p : Nat) : Prop := thg t N (st t N m) = (p, none) ∨ ∃ o, thg t N (st t N m) = (p, some o) ∧ p < N ∧ ¬ t p = 59
def Fin1 (t : Z) (N m : Nat) : Prop := ∃ p o, thg t N (st t N m) = (p, some o) ∧ ¬ p < N
def Pre (t : Z) (N m : Nat) : Prop := ∀ i, i < m → Go t N i
theorem Flt.ng {t : Z} {N m p : Nat} (h : Flt t N m p) : ¬ Go t N m := by
  rintro ⟨k', o, e, h1, h2⟩
  rcases h with q | ⟨o2, q, q1, q2⟩
  · rw [q] at e; simp at e
  · rw [q] at e; simp only [Prod.mk.injEq] at e; rw [e.1] at q2; exact q2 h2
theorem Fin1.ng {t : Z} {N m : Nat} (h : Fin1 t N m) : ¬ Go t N m := by
  rintro ⟨k', o, e, h1, h2⟩
  obtain ⟨p, o2, q, q1⟩ := h
  rw [q] at e; simp only [Prod.mk.injEq] at e; omega
theorem Flt.nf {t : Z} {N m p : Nat} (h : Flt t N m p) : ¬ Fin1 t N m := by
  rintro ⟨k', o, e, h1⟩
  rcases h with q | ⟨o2, q, q1, q2⟩
  · rw [q] at e; simp at e
  · rw [q] at e; simp only [Prod.mk.injEq] at e; omega
theorem Flt.un {t : Z} {N m p q : Nat} (h : Flt t N m p) (h2 : Flt t N m q) : p = q := by
  rcases h with a | ⟨o, a, -⟩ <;> rcases h2 with b | ⟨o2, b, -⟩ <;> rw [a] at b <;> simp only [Prod.mk.injEq] at b <;> exact b.1
theorem Pre.un {t : Z} {N m n : Nat} (h : Pre t N m) (h1 : ¬ Go t N m) (h2 : Pre t N n) (h3 : ¬ Go t N n) : m = n := by
  rcases Nat.lt_trichotomy m n with w | w | w
  · exact absurd (h2 m w) h1
  · exact w
  · exact absurd (h n w) h3
theorem Pre.s {t : Z} {N m : Nat} (h : Pre t N m) (h1 : Go t N m) : Pre t N (m + 1) := by
  intro i hi
  rcases Nat.lt_succ_iff_lt_or_eq.mp hi with w | w
  · exact h i w
  · rw [w]; exact h1
theorem st_p {t : Z} {N : Nat} : ∀ m, Pre t N m → st t N m ≤ N ∧ 2 * m ≤ st t N m := by
  intro m
  induction m with
  | zero => intro _; exact ⟨Nat.zero_le _, Nat.zero_le _⟩
  | succ m ih =>
    intro h
    have a := ih (fun i hi => h i (by omega))
    obtain ⟨k', o, e, h1, h2⟩ := h m (by omega)
    have b := thg_p e a.1
    have : st t N (m + 1) = k' + 1 := by
      show (thg t N (st t N m)).1 + 1 = _
      rw [e]
    have c := b.2.2 (by simp)
    omega
theorem st_s {t : Z} {N m k' : Nat} {o : Option (Int32 × Int32 × Int32)} (e : thg t N (st t N m) = (k', o)) : st t N (m + 1) = k' + 1 := by
  show (thg t N (st t N m)).1 + 1 = _
  rw [e]
theorem thg_some {t : Z} {N k k' : Nat} {o : Int32 × Int32 × Int32} (e : thg t N k = (k', some o)) : k < N := by
  by_cases h : k < N
  · exact h
  · rw [thg_no h] at e; simp at e
theorem Fin1.lt {t : Z} {N m : Nat} (C : Ch t N) (hp : Pre t N m) (h : Fin1 t N m) : m < 30 := by
  obtain ⟨p, o, q, -⟩ := h
  have a := thg_some q
  have b := st_p m hp
  have := C.1
  omega
def CD (t : Z) (N : Nat) (σ : Mem) (j : Nat) : Prop := ∃ k' s a b, thg t N (st t N j) = (k', some (s, a, b)) ∧ σ 90 j = s ∧ TH s a b (σ 91 j) (σ 92 j)
def RD (t : Z) (N : Nat) (σ : Mem) (j : Nat) : Prop := ∃ k' s a b, thg t N (st t N j) = (k', some (s, a, b)) ∧ σ 99 (3 * j) = s ∧ σ 99 (3 * j + 1) = a ∧ σ 99 (3 * j + 2) = b
def PG (σ τ : Mem) : Prop := ∀ c, ¬ c = 89 → ¬ c = 90 → ¬ c = 91 → ¬ c = 92 → τ c = σ c
def RG (σ τ : Mem) : Prop := (∀ i, ¬ i = 11 → ¬ i = 12 → τ 93 i = σ 93 i) ∧ ∀ c, ¬ c = 93 → ¬ c = 99 → τ c = σ c
theorem TA.pg {σ τ : Mem} {t : Z} {N : Nat} (T : TA σ t N) (h : PG σ τ) : TA τ t N := T.far (h 87 (by decide) (by decide) (by decide) (by decide)) (h 88 (by decide) (by decide) (by decide) (by decide))
theorem TB.rg {σ τ : Mem} {t : Z} {N : Nat} (T : TB σ t N) (h : RG σ τ) : TB τ t N := T.far (h.1 7 (by decide) (by decide)) (h.2 98 (by decide) (by decide))
theorem call_ok {σ : Mem} {t : Z} {N : Nat} {P : Int32 → Mem → Prop} (T : TA σ t N) (C : Ch t N) (hf : ∀ m p τ, Pre t N m → Flt t N m p → p ≤ 60 → PG σ τ → P (nI p) τ) (ho : ∀ m τ, Pre t N m → Fin1 t N m → PG σ τ → τ 89 4 = nI (m + 1) → (∀ j, j ≤ m → CD t N τ j) → P (-5) τ) : wp_X2_readAll σ P := by
  have hN := C.1
  unfold wp_X2_readAll
  simp only [bm]
  refine lq2_inv 30 (fun k τ => Pre t N k ∧ PG σ τ ∧ τ 89 5 = nI (st t N k) ∧ τ 89 4 = nI k ∧ ∀ j, j < k → CD t N τ j) (fun k τ rec hk hI hrec => ?_) (fun τ rec hI => ?_) ⟨fun i hi => absurd hi (Nat.not_lt_zero _), fun c a _ _ _ => by rw [up2_ne _ a, up2_ne _ a], ?_, up2_at _ _ _ _, fun j hj => absurd hj (Nat.not_lt_zero _)⟩ nI_0.symm
  · obtain ⟨hpre, hg, h5, h4, hd⟩ := hI
    have sp := st_p k hpre
    refine ⟨ge_no hk (by decide), fun _ => cthing_ok (T.pg hg) C h5 (by omega) rfl hk (fun k' ρ e F => br_t rfl ?_) (fun k' s a b' ρ e F e90 eTH => br_f n10 ?_)⟩
    · have b := thg_p e sp.1
      rw [F.1]
      exact hf k k' ρ hpre (Or.inl e) (by omega) (fun c a1 a2 a3 a4 => (F.2.2.1 c a1 a2 a3 a4).trans (hg c a1 a2 a3 a4))
    · have b := thg_p e sp.1
      have q4 : ρ 89 4 = nI k := (F.2.1 4 (by decide)).trans h4
      rw [nI_1] at hrec
      rw [q4, nI_1]
      have g2 : PG σ (up2 ρ 89 4 (nI (k + 1))) := fun c a1 a2 a3 a4 => by rw [up2_ne _ a1, F.2.2.1 c a1 a2 a3 a4]; exact hg c a1 a2 a3 a4
      have p5 : up2 ρ 89 4 (nI (k + 1)) 89 5 = nI k' := by rw [up2_eq, pk_un (by decide)]; exact F.1
      have d2 : ∀ j, j ≤ k → CD t N (up2 ρ 89 4 (nI (k + 1))) j := by
        intro j hj
        unfold CD
        rw [up2_ne _ (by decide), up2_ne _ (by decide), up2_ne _ (by decide)]
        by_cases q : j = k
        · rw [q]; exact ⟨k', s, a, b', e, e90, eTH⟩
        · rw [F.2.2.2 90 j (by omega) q, F.2.2.2 91 j (by omega) q, F.2.2.2 92 j (by omega) q]
          exact hd j (by omega)
      have T2 := T.pg g2
      unfold wp_X3_length
      rw [p5, T2.1]
      refine ⟨fun q => sign_ok T2 hN p5 (by omega) (by decide) (fun q1 q2 => br_f n10 (hrec (up2 (up2 ρ 89 4 (nI (k + 1))) 89 5 (nI (k' + 1))) ?_)) (fun q1 => br_t rfl ?_), fun q => ho k _ hpre ⟨k', _, e, fun w => q ((ltI (by omega) (by omega)).mpr w)⟩ g2 (up2_at _ _ _ _) d2⟩
      · refine ⟨hpre.s ⟨k', _, e, q1, q2⟩, fun c a1 a2 a3 a4 => by rw [up2_ne _ a1]; exact g2 c a1 a2 a3 a4, by rw [up2_at, st_s e], by rw [up2_eq, pk_un (by decide), up2_at], fun j hj => ?_⟩
        have := d2 j (by omega)
        unfold CD at this ⊢
        rw [up2_ne _ (by decide), up2_ne _ (by decide), up2_ne _ (by decide)]
        exact this
      · have q2 : k' < N := (ltI (by omega) (by omega)).mp q
        rw [p5]
        exact hf k k' _ hpre (Or.inr ⟨_, e, q2, fun w => q1 ⟨q2, w⟩⟩) (by omega) g2
  · obtain ⟨hpre, hg, h5, h4, hd⟩ := hI
    have sp := st_p 30 hpre
    refine ⟨fun _ => ?_, ge_yes⟩
    rw [h5]
    exact hf 30 _ τ hpre (Or.inl (thg_no (by omega))) (by omega) hg
  · rw [up2_eq, pk_un (by decide), up2_at]; exact nI_0.symm
theorem takes_ok' {σ : Mem} {t : Z} {N k : Nat} {s : Int32} {P : Int32 → Mem → Prop} (T : TB σ t N) (hN : N ≤ 60) (hp : σ 93 12 = nI k) (hk : k < 2 ^ 31) (h1 : k < N → t k = s → P 1 (up2 σ 93 12 (nI (k + 1)))) (h0 : ¬ (k < N ∧ t k = s) → P 0 σ) : wp_X5_takes σ s P := by
  have e : up2 σ 93 12 (nI k) = σ := by rw [← hp]; exact up2_id σ 93 12
  have := takes_ok (w := 0) (P := P) (s := s) T hN hk h1 (by rw [e]; exact h0)
  rw [e] at this
  exact this
theorem RG.rf {σ τ ρ : Mem} {m k : Nat} (h : RG σ τ) (h2 : RF τ ρ m k) : RG σ ρ := ⟨fun i a b => (h2.2.1 i a b).trans (h.1 i a b), fun c a b => (h2.2.2.1 c a b).trans (h.2 c a b)⟩
def rdF (P : Int32 → Mem → Prop) (rec7 : Mem → Int32 → Prop) (σ5 : Mem) (x6 : Int32) : Prop :=
    ((x6 = 0 →
      isZ x6 ∧ P x6 σ5) ∧
      (¬ x6 = 0 →
      (((σ5 93 7) ≤ (σ5 93 12) →
        isZ x6 ∧ P x6 σ5) ∧
        (¬ (σ5 93 7) ≤ (σ5 93 12) →
        wp_X5_takes σ5 59 (fun r8 σ9 =>
          ((r8 = 0 →
          rec7 σ9 0) ∧
          (¬ r8 = 0 →
          wp_X5_readThing σ9  (fun r10 σ11 =>
            ((r10 = 0 →
            rec7 σ11 0) ∧
            (¬ r10 = 0 →
            rec7 σ11 1))))))))))
theorem rtext_ok {σ : Mem} {t : Z} {N : Nat} {P : Int32 → Mem → Prop} (T : TB σ t N) (C : Ch t N) (hf : ∀ m p τ, Pre t N m → Flt t N m p → RG σ τ → τ 93 12 = nI p → P 0 τ) (ho : ∀ m τ, Pre t N m → Fin1 t N m → RG σ τ → τ 93 11 = nI (m + 1) → (∀ j, j ≤ m → RD t N τ j) → P 1 τ) : wp_X5_readText σ P := by
  have hN := C.1
  unfold wp_X5_readText
  simp only [bm]
  have g0 : RG σ (up2 (up2 σ 93 12 0) 93 11 0) := ⟨fun i a b => by rw [up2_eq, pk_un a, up2_eq, pk_un b], fun c a b => by rw [up2_ne _ a, up2_ne _ a]⟩
  have p0 : up2 (up2 σ 93 12 0) 93 11 0 93 12 = nI 0 := by rw [up2_eq, pk_un (by decide), up2_at]; exact nI_0.symm
  have m0 : up2 (up2 σ 93 12 0) 93 11 0 93 11 = nI 0 := by rw [up2_at]; exact nI_0.symm
  have pre0 : Pre t N 0 := fun i hi => absurd hi (Nat.not_lt_zero _)
  -- the loop
  have loop : ∀ (P' : Mem → Int32 → Prop), (∀ a b, rdF P P' a b → P' a b) →
      (∀ m p τ, Pre t N m → Flt t N m p → RG σ τ → τ 93 12 = nI p → P' τ 0) ∧ (∀ m τ k' o, Pre t N m → thg t N (st t N m) = (k', some o) → RG σ τ → τ 93 12 = nI k' → τ 93 11 = nI (m + 1) → (∀ j, j ≤ m → RD t N τ j) → P' τ 1) := by
    intro P' hP'
    have fl : ∀ m p τ, Pre t N m → Flt t N m p → RG σ τ → τ 93 12 = nI p → P' τ 0 := fun m p τ a b c d => hP' _ _ (br_t rfl ⟨Or.inl rfl, hf m p τ a b c d⟩)
    refine ⟨fl, ?_⟩
    have key : ∀ f m τ k' o, m + f = 30 → Pre t N m → thg t N (st t N m) = (k', some o) → RG σ τ → τ 93 12 = nI k' → τ 93 11 = nI (m + 1) → (∀ j, j ≤ m → RD t N τ j) → P' τ 1 := by
      intro f
      induction f with
      | zero =>
        intro m τ k' o hm hpre e
        have a := thg_some e
        have b := st_p m hpre
        omega
      | succ f ih =>
        intro m τ k' o hm hpre e hg hp h11 hd
        have sp := st_p m hpre
        have b := thg_p e sp.1
        have T2 := T.rg hg
        refine hP' _ _ (br_f n10 ?_)
        rw [T2.1, hp]
        refine ⟨fun q => ⟨Or.inr rfl, ho m τ hpre ⟨k', o, e, fun w => absurd q (nI_ge w (by omega))⟩ hg h11 hd⟩, fun q => ?_⟩
        have hkN : k' < N := by
          rcases Nat.lt_or_ge k' N with w | w
          · exact w
          · exact absurd (nI_le w (by omega)) q
        refine takes_ok' T2 hN hp (by omega) (fun q1 q2 => br_f n10 ?_) (fun q1 => br_t rfl (fl m k' τ hpre (Or.inr ⟨o, e, hkN, fun w => q1 ⟨hkN, w⟩⟩) hg hp))
        have pre2 := hpre.s ⟨k', o, e, q1, q2⟩
        have sp2 := st_p (m + 1) pre2
        have es := st_s e
        have g2 : RG σ (up2 τ 93 12 (nI (k' + 1))) := ⟨fun i x y => by rw [up2_eq, pk_un y]; exact hg.1 i x y, fun c x y => by rw [up2_ne _ x]; exact hg.2 c x y⟩
        refine rthing_ok (m := m + 1) (T.rg g2) C (up2_at _ _ _ _) (by rw [up2_eq, pk_un (by decide)]; exact h11) (by omega) (fun w => by omega) (fun k2 ρ e2 F => br_t rfl (fl (m + 1) k2 ρ pre2 (Or.inl (by rw [es]; exact e2)) (g2.rf F) F.1)) (fun k2 s a b2 ρ e2 F e11 y0 y1 y2 => br_f n10 (ih (m + 1) ρ k2 (s, a, b2) (by omega) pre2 (by rw [es]; exact e2) (g2.rf F) F.1 e11 (fun j hj => ?_)))
        by_cases w : j = m + 1
        · rw [w]; exact ⟨k2, s, a, b2, by rw [es]; exact e2, y0, y1, y2⟩
        · obtain ⟨k3, s3, a3, b3, z1, z2, z3, z4⟩ := hd j (by omega)
          refine ⟨k3, s3, a3, b3, z1, ?_, ?_, ?_⟩
          · rw [F.2.2.2 _ (by omega), up2_ne _ (by decide)]; exact z2
          · rw [F.2.2.2 _ (by omega), up2_ne _ (by decide)]; exact z3
          · rw [F.2.2.2 _ (by omega), up2_ne _ (by decide)]; exact z4
    intro m τ k' o hpre e
    have a := thg_some e
    have b := st_p m hpre
    exact key (30 - m) m τ k' o (by omega) hpre e
  refine rthing_ok (m := 0) (T.rg g0) C p0 m0 (by omega) (fun _ => by decide) (fun k' τ e F => ?_) (fun k' s a b τ e F e11 y0 y1 y2 => ?_)
  · intro P' hP'
    exact (loop P' hP').1 0 k' τ pre0 (Or.inl e) (g0.rf F) F.1
  · intro P' hP'
    refine (loop P' hP').2 0 τ k' (s, a, b) pre0 e (g0.rf F) F.1 e11 (fun j hj => ?_)
    have : j = 0 := by omega
    subst this
    exact ⟨k', s, a, b, e, y0, y1, y2⟩
