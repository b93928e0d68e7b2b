/-! PURE PART: a start, in the class -/
theorem startAnew_ok {σ : Mem} {z : Z} {P : Int32 → Mem → Prop} (R : Rel σ 0 z) (I : Iz z) (h : ∀ τ, Rel τ 0 (zlk (zsta z) 40) → Fr σ τ → P (nI (zcn (zlk (zsta z) 40) 0 40)) τ) : wp_X1_startAnew σ P := by
  obtain ⟨n, hn, e10, en, b1, b8, b63, bh, bp⟩ := zsta_at I
  unfold wp_X1_startAnew
  simp only [bm]
  rw [show σ 0 16 = _ from R.sta]
  refine lq2_inv 50 (fun k (τ : Mem) => (∀ a, ¬ a = 3 → ¬ a = 4 → ¬ a = 6 → τ a = up2 σ 0 16 (z 8 + 1) a) ∧ (∀ p, p < 50 → (p < k → τ 4 p = -5 ∧ τ 6 p = 0) ∧ (k ≤ p → τ 4 p = z (103 + 4 * p + 0) ∧ τ 6 p = z (103 + 4 * p + 2))) ∧ (∀ c, c < 40 → τ 3 c = -5 ∨ ∃ p, k ≤ p ∧ p < 50 ∧ z (103 + 4 * p + 0) = nI c ∧ τ 3 c = nI p)) (fun k τ rec hk hI hrec => ?_) (fun τ rec hI => ?_) ?_ nI_0.symm
  · obtain ⟨i1, i2, i3⟩ := hI
    refine ⟨ge_no hk (by decide), fun _ => ?_⟩
    unfold wp_X1_release
    simp only [bm]
    have ek := (i2 k hk).2 (Nat.le_refl _)
    rw [clI (by omega), ek.1, nar0]
    refine ⟨inI hk (by decide), ?_⟩
    by_cases hz : zhas z k
    · obtain ⟨c, hc, ec, e1, -⟩ := I.has hk hz
      have huq : ∀ q, q < 50 → z (103 + 4 * q + 0) = nI c → q = k := by
        rcases I.pg hc with ⟨-, -, w⟩ | ⟨q, hq, -, w1, w2, w3⟩
        · exact absurd ec (w k hk)
        · intro i hi hii
          rw [w3 i hi hii, w3 k hk ec]
      rw [ec, clI (by omega)]
      refine br_t (nI_ge0 (by omega)) ⟨inI hc (by decide), inI hk (by decide), inI hk (by decide), hrec _ ⟨fun a h3 h4 h6 => ?_, fun p hp => ⟨fun hpk => ?_, fun hpk => ?_⟩, fun x hx => ?_⟩⟩
      · rw [up2_ne _ h6, up2_ne _ h4, up2_ne _ h3]; exact i1 a h3 h4 h6
      · rw [up2_ne _ (show (4 : Nat) ≠ 6 by decide), up2_eq, up2_eq]
        by_cases e : p = k
        · rw [e, pk_us, pk_us]; exact ⟨rfl, rfl⟩
        · rw [pk_un e, pk_un e, up2_ne _ (show (4 : Nat) ≠ 3 by decide), up2_ne _ (show (6 : Nat) ≠ 4 by decide), up2_ne _ (show (6 : Nat) ≠ 3 by decide)]
          exact (i2 p hp).1 (by omega)
      · rw [up2_ne _ (show (4 : Nat) ≠ 6 by decide), up2_eq, up2_eq, pk_un (by omega), pk_un (by omega), up2_ne _ (show (4 : Nat) ≠ 3 by decide), up2_ne _ (show (6 : Nat) ≠ 4 by decide), up2_ne _ (show (6 : Nat) ≠ 3 by decide)]
        exact (i2 p hp).2 (by omega)
      · rw [up2_ne _ (show (3 : Nat) ≠ 6 by decide), up2_ne _ (show (3 : Nat) ≠ 4 by decide), up2_eq]
        by_cases e : x = c
        · rw [e, pk_us]; exact Or.inl rfl
        · rw [pk_un e]
          rcases i3 x hx with w | ⟨p, hkp, hp, w1, w2⟩
          · exact Or.inl w
          · refine Or.inr ⟨p, ?_, hp, w1, w2⟩
            rcases Nat.lt_or_ge k p with q | q
            · exact q
            · have : p = k := by omega
              rw [this, ec] at w1
              exact absurd (nI_inj (by omega) (by omega) w1).symm e
    · have hem := I.nohas hk hz
      rw [hem.1]
      refine br_f m5_nge (hrec _ ⟨i1, fun p hp => ⟨fun hpk => ?_, fun hpk => (i2 p hp).2 (by omega)⟩, fun x hx => ?_⟩)
      · by_cases e : p = k
        · rw [e, ek.1, ek.2, hem.1, hem.2.2]; exact ⟨rfl, rfl⟩
        · exact (i2 p hp).1 (by omega)
      · rcases i3 x hx with w | ⟨p, hkp, hp, w1, w2⟩
        · exact Or.inl w
        · refine Or.inr ⟨p, ?_, hp, w1, w2⟩
          rcases Nat.lt_or_ge k p with q | q
          · exact q
          · have : p = k := by omega
            rw [this, hem.1] at w1
            exact absurd w1.symm (nI_nm5 (by omega))
  · obtain ⟨i1, i2, i3⟩ := hI
    refine ⟨fun _ => ?_, ge_yes⟩
    refine lq2_inv 40 (fun k (ρ : Mem) => (∀ a, ¬ a = 1 → ¬ a = 2 → ρ a = τ a) ∧ (∀ c, c < 40 → (c < k → ρ 2 c = 0 ∧ ρ 1 c = if zsta z (23 + c) = 2 then 1 else 0))) (fun k ρ rec hk hI hrec => ?_) (fun ρ rec hI => ?_) ⟨fun a _ _ => rfl, fun c hc h => absurd h (Nat.not_lt_zero _)⟩ nI_0.symm
    · obtain ⟨j1, j2⟩ := hI
      rw [clI (by omega), nar0, nar1]
      refine ⟨ge_no hk (by decide), fun _ => ⟨inI hk (by decide), ?_⟩⟩
      have e0 : up2 ρ 2 k 0 0 10 = nI n := by
        rw [up2_ne _ (show (0 : Nat) ≠ 2 by decide), j1 0 (by decide) (by decide), i1 0 (by decide) (by decide) (by decide), up2_eq, pk_un (by decide), R.len, e10]
      have e1 : ∀ j, j < 12 → up2 ρ 2 k 0 10 j = z (11 + j) := by
        intro j hj
        rw [up2_ne _ (show (10 : Nat) ≠ 2 by decide), j1 10 (by decide) (by decide), i1 10 (by decide) (by decide) (by decide), up2_ne _ (show (10 : Nat) ≠ 0 by decide)]
        exact R.lis j hj
      have next : ∀ v, (v = if zsta z (23 + k) = 2 then 1 else 0) → rec (up2 (up2 ρ 2 k 0) 1 k v) (nI k + 1) := by
        intro v hv
        refine hrec _ ⟨fun a h1 h2 => ?_, fun c hc hck => ?_⟩
        · rw [up2_ne _ h1, up2_ne _ h2]; exact j1 a h1 h2
        · rw [up2_ne _ (show (2 : Nat) ≠ 1 by decide), up2_eq, up2_eq]
          by_cases e : c = k
          · rw [e, pk_us, pk_us, hv]; exact ⟨rfl, rfl⟩
          · rw [pk_un e, pk_un e, up2_ne _ (show (1 : Nat) ≠ 2 by decide)]
            exact j2 c hc (by omega)
      refine place_ok hn e0 (fun hno => ?_) (fun j hj hje _ => ?_)
      · refine br_t m5_lt ⟨inI hk (by decide), next 0 ?_⟩
        rw [(bh k hk).2 (fun ⟨j, hj, w⟩ => hno j hj (by rw [e1 j (by omega)]; exact w))]
        rfl
      · refine br_f (nI_nn (by omega)) ⟨inI hk (by decide), next 1 ?_⟩
        rw [e1 j (by omega)] at hje
        rw [(bh k hk).1 ⟨j, hj, hje⟩]
        rfl
    · obtain ⟨j1, j2⟩ := hI
      refine ⟨fun _ => ?_, ge_yes⟩
      have k1 : ∀ a, ¬ a = 1 → ¬ a = 2 → ¬ a = 3 → ¬ a = 4 → ¬ a = 6 → ρ a = up2 σ 0 16 (z 8 + 1) a := fun a h1 h2 h3 h4 h6 => (j1 a h1 h2).trans (i1 a h3 h4 h6)
      have hR : Rel ρ 0 (zsta z) := by
        refine ⟨fun c hc => (j2 c hc hc).2, fun c hc => ?_, fun c hc => ?_, fun p hp => ?_, fun p hp hz => absurd (bp p hp).1 hz, fun p hp => ?_, fun k hk => ?_, fun k hk => ?_, fun k hk => ?_, fun k hk => ?_, ?_, ?_, ?_, ?_, ?_, ?_⟩
        · rw [b63 c hc]; exact (j2 c hc hc).1
        · rw [zpg_none (fun q hq w => by rw [(bp q hq).1] at w; exact nI_nm5 (by omega) w.symm)]
          show ρ 3 c = -5
          rw [j1 3 (by decide) (by decide)]
          rcases i3 c hc with w | ⟨p, hkp, hp, -⟩
          · exact w
          · omega
        · show ρ 4 p = _
          rw [j1 4 (by decide) (by decide), ((i2 p hp).1 hp).1, (bp p hp).1]
        · show ρ 6 p = _
          rw [j1 6 (by decide) (by decide), ((i2 p hp).1 hp).2, (bp p hp).2.2]
        · show ρ 8 k = _
          rw [k1 8 (by decide) (by decide) (by decide) (by decide) (by decide), up2_ne _ (show (8 : Nat) ≠ 0 by decide), b1 _ (by omega) (by omega)]
          exact R.los k hk
        · show ρ 9 k = _
          rw [k1 9 (by decide) (by decide) (by decide) (by decide) (by decide), up2_ne _ (show (9 : Nat) ≠ 0 by decide), b1 _ (by omega) (by omega)]
          exact R.mov k hk
        · show ρ 10 k = _
          rw [k1 10 (by decide) (by decide) (by decide) (by decide) (by decide), up2_ne _ (show (10 : Nat) ≠ 0 by decide), b1 _ (by omega) (by omega)]
          exact R.lis k hk
        · show ρ 11 k = _
          rw [k1 11 (by decide) (by decide) (by decide) (by decide) (by decide), up2_ne _ (show (11 : Nat) ≠ 0 by decide), b1 _ (by omega) (by omega)]
          exact R.set k hk
        all_goals rw [k1 0 (by decide) (by decide) (by decide) (by decide) (by decide), up2_eq]
        · rw [pk_un (by decide), b1 _ (by decide) (by decide)]; exact R.len
        · rw [pk_un (by decide), b1 _ (by decide) (by decide)]; exact R.day
        · rw [pk_un (by decide), b1 _ (by decide) (by decide)]; exact R.las
        · rw [pk_un (by decide), b1 _ (by decide) (by decide)]; exact R.ers
        · rw [pk_un (by decide), b1 _ (by decide) (by decide)]; exact R.hrd
        · rw [pk_us, b8]
      have hF : Fr σ ρ := fun a ha => by
        rw [k1 a (by omega) (by omega) (by omega) (by omega) (by omega), up2_ne _ (by omega)]
      refine retireWhatCan_ok hR I.sta (fun υ d Rυ Fυ _ => ?_)
      unfold wp_X1_freeCells
      exact cellsThatAre_ok Rυ (I.sta.lk 40 (Nat.le_refl _)) (h υ Rυ (hF.tr Fυ))
  · refine ⟨fun a _ _ _ => rfl, fun p hp => ⟨fun hk => absurd hk (Nat.not_lt_zero _), fun _ => ⟨?_, ?_⟩⟩, fun c hc => ?_⟩
    · rw [up2_ne _ (show (4 : Nat) ≠ 0 by decide)]; exact R.cel p hp
    · rw [up2_ne _ (show (6 : Nat) ≠ 0 by decide)]; exact R.pin p hp
    · rw [up2_ne _ (show (3 : Nat) ≠ 0 by decide), show σ 3 c = _ from R.own c hc]
      rcases I.pg hc with ⟨e, -⟩ | ⟨p, hp, e, e2, -⟩
      · exact Or.inl e
      · exact Or.inr ⟨p, Nat.zero_le _, hp, e2, e⟩
