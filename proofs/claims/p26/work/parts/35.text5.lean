/-! PURE PART: the reference reads the text -/
theorem TB.far {σ τ : Mem} {t : Z} {N : Nat} (T : TB σ t N) (h1 : τ 93 7 = σ 93 7) (h2 : τ 98 = σ 98) : TB τ t N := by
  unfold TB
  rw [h1, h2]
  exact T
theorem TB.up {σ : Mem} {t : Z} {N : Nat} (T : TB σ t N) (w : Int32) : TB (up2 σ 93 12 w) t N := T.far (by rw [up2_eq, pk_un (by decide)]) (up2_ne _ (by decide))
theorem e12 (σ : Mem) (w : Int32) : up2 σ 93 12 w 93 12 = w := by rw [up2_eq, pk_us]
theorem sees_ok {σ : Mem} {t : Z} {N k : Nat} {lo hi : Int32} {P : Int32 → Prop} (T : TB σ t N) (hN : N ≤ 60) (hp : σ 93 12 = nI k) (hk : k < 2 ^ 31) (h1 : k < N → lo ≤ t k → t k ≤ hi → P 1) (h0 : ¬ (k < N ∧ lo ≤ t k ∧ t k ≤ hi) → P 0) : wp_X5_sees σ lo hi P := by
  unfold wp_X5_sees
  rw [T.1, hp]
  refine ⟨fun q => h0 (fun w => absurd q (nI_ge w.1 (by omega))), fun q => ?_⟩
  have hkN : k < N := by
    rcases Nat.lt_or_ge k N with w | w
    · exact w
    · exact absurd (nI_le w hk) q
  rw [clI hk, T.2 k hkN]
  exact ⟨inI (by omega) (by decide), in_ok (fun a b => br_f n10 (h1 hkN a b)) (fun w => br_t rfl (h0 (fun w2 => w w2.2)))⟩
theorem seed_ok {σ : Mem} {t : Z} {N k a b : Nat} {lo hi : Int32} {P : Int32 → Prop} (T : TB σ t N) (C : Ch t N) (hp : σ 93 12 = nI k) (hk : k < 2 ^ 31) (hlo : lo = nI (48 + a)) (hhi : hi = nI (48 + b)) (hb : b ≤ 9) (h1 : ∀ d, d < 10 → k < N → dig t N k = some d → t k = nI (48 + d) → a ≤ d → d ≤ b → P 1) (hn : dig t N k = none → P 0) (hs : ∀ d, dig t N k = some d → ¬ (a ≤ d ∧ d ≤ b) → P 0) (ha : a ≤ 9) : wp_X5_sees σ lo hi P := by
  subst hlo; subst hhi
  rcases dig_cases C k with ⟨d, hd, hkN, e, et⟩ | ⟨e, hw⟩
  · refine sees_ok T C.1 hp hk (fun _ q1 q2 => ?_) (fun w => hs d e (fun w2 => w ⟨hkN, ?_, ?_⟩))
    · rw [et] at q1 q2
      have x1 := (leI (by omega) (by omega)).mp q1
      have x2 := (leI (by omega) (by omega)).mp q2
      exact h1 d hd hkN e et (by omega) (by omega)
    · rw [et]; exact (leI (by omega) (by omega)).mpr (by omega)
    · rw [et]; exact (leI (by omega) (by omega)).mpr (by omega)
  · refine sees_ok T C.1 hp hk (fun q q1 q2 => ?_) (fun _ => hn e)
    obtain ⟨c, hc, et, hx⟩ := hw q
    rw [et] at q1 q2
    have x1 := (leI (by omega) (by omega)).mp q1
    have x2 := (leI (by omega) (by omega)).mp q2
    omega
theorem num_ok {σ : Mem} {t : Z} {N k ll hh : Nat} {lo hi : Int32} {P : Int32 → Mem → Prop} (T : TB σ t N) (C : Ch t N) (hk : k ≤ 60) (hlo : lo = nI ll) (hhi : hi = nI hh) (hl : ll ≤ 1) (hH : hh ≤ 9999) (h0 : num t N ll hh k = none → P (-5) (up2 σ 93 12 (nI k))) (h1 : ∀ v k', num t N ll hh k = some (v, k') → P (nI v) (up2 σ 93 12 (nI k'))) : wp_X5_number (up2 σ 93 12 (nI k)) lo hi P := by
  subst hlo; subst hhi
  have hN := C.1
  unfold wp_X5_number
  have body : ∀ b, b ≤ 9 → (b = hh ∨ (b = 9 ∧ 9 ≤ hh)) → wp_X5_sees (up2 σ 93 12 (nI k)) (48 + nI ll) (nI (48 + b)) (fun r3 =>
      ((r3 = 0 → P (-5) (up2 σ 93 12 (nI k))) ∧
      (¬ r3 = 0 → vp_in ((up2 σ 93 12 (nI k)) 93 12) 60 ∧ bm (up2 (up2 σ 93 12 (nI k)) 93 12 (((up2 σ 93 12 (nI k)) 93 12) + 1)) (fun σ4 =>
        lq2 (fun rec7 (σ5 : Mem) (x6 : Int32) =>
        ((x6 ≤ 0 → P x6 σ5) ∧
          (¬ x6 ≤ 0 → wp_X5_sees σ5 48 57 (fun r8 =>
            ((r8 = 0 → P x6 σ5) ∧
            (¬ r8 = 0 → vp_in (σ5 93 12) 60 ∧ ((nI hh < (((10 * x6) + (σ5 98 (σ5 93 12).toNatClampNeg)) - 48) → P x6 σ5) ∧
              (¬ nI hh < (((10 * x6) + (σ5 98 (σ5 93 12).toNatClampNeg)) - 48) →
              vp_in (σ5 93 12) 60 ∧ bm (up2 σ5 93 12 ((σ5 93 12) + 1)) (fun σ9 =>
                rec7 σ9 ((((10 * x6) + (σ5 98 (σ5 93 12).toNatClampNeg)) - 48))))))))))) σ4 (((up2 σ 93 12 (nI k)) 98 ((up2 σ 93 12 (nI k)) 93 12).toNatClampNeg) - 48))))) := by
    intro b hb9 hb
    have el : (48 : Int32) + nI ll = nI (48 + ll) := by
      show nI 48 + nI ll = _
      rw [nI_add]
    rw [el]
    have sub48 : ∀ d, nI (48 + d) - 48 = nI d := fun d => by
      rw [← nI_add]
      show nI 48 + nI d - nI 48 = _
      rw [Int32.add_comm, Int32.add_sub_cancel]
    refine seed_ok (T.up _) C (e12 _ _) (by omega) rfl rfl hb9 (fun d hd hkN e et ha hb2 => br_f n10 ?_) (fun e => br_t rfl (h0 (num_n e))) (fun d e w => br_t rfl (h0 (num_b e (fun w2 => w ⟨w2.1, by rcases dig_cases C k with ⟨d2, q, -, q2, -⟩ | ⟨q2, -⟩ <;> rw [e] at q2 <;> cases q2; omega⟩)))) (by omega)
    have x98 : (up2 σ 93 12 (nI k)) 98 = σ 98 := up2_ne _ (by decide)
    simp only [bm, e12, up2_up2]
    rw [x98, clI (by omega), T.2 k hkN, et, sub48, nI_1]
    have en := num_s (lo := ll) (hi := hh) e ⟨ha, by omega⟩
    refine ⟨inI (by omega) (by decide), ?_⟩
    intro P' hP'
    have key : ∀ f v j, 60 ≤ j + f → j ≤ 60 → v ≤ hh → numL t N hh f v j = numL t N hh 60 d (k + 1) → P' (up2 σ 93 12 (nI j)) (nI v) := by
      intro f
      induction f with
      | zero =>
        intro v j hj hj2 hv ej
        have hfin : P (nI v) (up2 σ 93 12 (nI j)) := h1 v j (by rw [en, ← ej]; rfl)
        refine hP' _ _ ⟨fun _ => hfin, fun _ => sees_ok (T.up _) C.1 (e12 _ _) (by omega) (fun w => absurd w (by omega)) (fun _ => br_t rfl hfin)⟩
      | succ f ih =>
        intro v j hj hj2 hv ej
        have fin : numL t N hh (f + 1) v j = (v, j) → P (nI v) (up2 σ 93 12 (nI j)) := fun w => h1 v j (by rw [en, ← ej, w])
        refine hP' _ _ ⟨fun w => fin ?_, fun w => ?_⟩
        · have : v ≤ 0 := (leI (b := 0) (by omega) (by omega)).mp w
          have : v = 0 := by omega
          rw [this]; exact numL_z
        · have hv0 : v ≠ 0 := fun w3 => w (by rw [w3]; exact Int32.le_refl _)
          refine seed_ok (a := 0) (b := 9) (T.up _) C (e12 _ _) (by omega) rfl rfl (by omega) (fun d2 hd2 hjN e2 et2 _ _ => br_f n10 ?_) (fun e2 => br_t rfl (fin (numL_n e2))) (fun d2 e2 w2 => absurd (by rcases dig_cases C j with ⟨d3, q, -, q2, -⟩ | ⟨q2, -⟩ <;> rw [e2] at q2 <;> cases q2; omega) w2) (by omega)
          have y98 : (up2 σ 93 12 (nI j)) 98 = σ 98 := up2_ne _ (by decide)
          rw [e12, y98, clI (by omega), T.2 j hjN, et2]
          have ev : (10 : Int32) * nI v + nI (48 + d2) - 48 = nI (10 * v + d2) := by
            have : (10 : Int32) * nI v + nI (48 + d2) = nI (48 + (10 * v + d2)) := by
              show nI 10 * nI v + nI (48 + d2) = _
              rw [pk_mul, nI_add]
              congr 1
              omega
            rw [this, sub48]
          rw [ev]
          refine ⟨inI (by omega) (by decide), fun w3 => fin (numL_b e2 ?_), fun w3 => ⟨inI (by omega) (by decide), ?_⟩⟩
          · have := (ltI (by omega) (by omega)).mp w3
            omega
          · have hb2 : 10 * v + d2 ≤ hh := by
              rcases Nat.lt_or_ge hh (10 * v + d2) with q | q
              · exact absurd ((ltI (by omega) (by omega)).mpr q) w3
              · exact q
            simp only [up2_up2, nI_1]
            exact ih (10 * v + d2) (j + 1) (by omega) (by omega) hb2 (by rw [← ej, numL_s hv0 e2 hb2])
    exact key 60 d (k + 1) (by omega) (by omega) (by omega) rfl
  unfold jn
  refine ⟨fun q => body 9 (by omega) (Or.inr ⟨rfl, (leI (a := 9) (by omega) (by omega)).mp q⟩), fun q => ?_⟩
  have h9 : hh < 9 := by
    rcases Nat.lt_or_ge hh 9 with w | w
    · exact w
    · exact absurd ((leI (a := 9) (by omega) (by omega)).mpr w) q
  have eh : (48 : Int32) + nI hh = nI (48 + hh) := by
    show nI 48 + nI hh = _
    rw [nI_add]
  rw [eh]
  exact body hh (by omega) (Or.inl rfl)
theorem num_1 {t : Z} {N k hh : Nat} (hh9 : hh ≤ 9) {v k' : Nat} (h : num t N 0 hh k = some (v, k')) : dig t N k = some v ∧ v ≤ hh ∧ k' = k + 1 := by
  unfold num at h
  cases hd : dig t N k with
  | none => rw [hd] at h; cases h
  | some d =>
    rw [hd] at h
    by_cases hb : 0 ≤ d ∧ d ≤ hh
    · simp only [if_pos hb, Option.some.injEq, numL_1 hh9, Prod.mk.injEq] at h
      obtain ⟨h1, h2⟩ := h
      subst h1
      exact ⟨rfl, hb.2, h2.symm⟩
    · simp only [if_neg hb] at h; cases h
theorem num_0 {t : Z} {N k hh : Nat} (h : num t N 0 hh k = none) : dig t N k = none ∨ ∃ d, dig t N k = some d ∧ ¬ d ≤ hh := by
  cases hd : dig t N k with
  | none => exact Or.inl rfl
  | some d =>
    refine Or.inr ⟨d, rfl, fun w => ?_⟩
    rw [num_s hd ⟨Nat.zero_le _, w⟩] at h
    cases h
theorem page5_ok {σ : Mem} {t : Z} {N k : Nat} {P : Int32 → Mem → Prop} (T : TB σ t N) (C : Ch t N) (hk : k ≤ 60) (h0 : ∀ k', pgT t N k = (k', none) → P (-5) (up2 σ 93 12 (nI k'))) (h1 : ∀ p k', p < 50 → pgT t N k = (k', some p) → P (nI p) (up2 σ 93 12 (nI k'))) : wp_X5_readPage (up2 σ 93 12 (nI k)) P := by
  unfold wp_X5_readPage jn
  refine num_ok (ll := 0) (hh := 4) T C hk nI_0.symm rfl (by omega) (by omega) (fun e => br_t rfl (br_t rfl (h0 k ?_))) (fun v k' e => ?_)
  · unfold pgT
    rcases num_0 e with w | ⟨d, w, w2⟩
    · rw [w]
    · rw [w]; simp only [if_neg w2]
  · obtain ⟨q1, q2, rfl⟩ := num_1 (by decide) e
    have hkN := dig_lt q1
    have hN := C.1
    refine br_f (nI_nm5 (by omega)) (num_ok (ll := 0) (hh := 9) T C (by omega) nI_0.symm rfl (by omega) (by omega) (fun e2 => br_t rfl (h0 (k + 1) ?_)) (fun v2 k2 e2 => ?_))
    · unfold pgT
      rw [q1]
      simp only [if_pos q2]
      rcases num_0 e2 with w | ⟨d, w, w2⟩
      · rw [w]
      · rcases dig_cases C (k + 1) with ⟨d3, q, -, q3, -⟩ | ⟨q3, -⟩ <;> rw [w] at q3 <;> cases q3
        omega
    · obtain ⟨q3, q4, rfl⟩ := num_1 (by decide) e2
      have ev : (10 : Int32) * nI v + nI v2 = nI (10 * v + v2) := num10
      refine br_f (nI_nm5 (by omega)) ?_
      rw [ev]
      refine h1 _ _ (by omega) ?_
      unfold pgT
      rw [q1]
      simp only [if_pos q2, q3]
