/-! PURE PART: days, settings -/
/-- the errors of the first n cells are forgotten by one -/
def zfg (z : Z) (n : Nat) : Z := fun i => if (63 ≤ i ∧ i < 63 + n) ∧ ¬ z (i - 40) = 2 ∧ 0 < z i then z i - 1 else z i
def zdy (z : Z) : Z := if (z 3 + 1) - (z 3 + 1) / z 1 * z 1 = 0 then zfg (upd z 3 (z 3 + 1)) 40 else upd z 3 (z 3 + 1)
def zps (z : Z) : Nat → Z
  | 0 => z
  | d + 1 => zdy (zps z d)
theorem zfg_un (z : Z) {n i : Nat} (h : ¬ (63 ≤ i ∧ i < 63 + n)) : zfg z n i = z i := by
  unfold zfg
  rw [if_neg (fun q => h q.1)]
theorem zfg_st (z : Z) {k : Nat} (hk : k < 40) : (¬ z (23 + k) = 2 ∧ 0 < z (63 + k) → upd (zfg z k) (63 + k) (z (63 + k) - 1) = zfg z (k + 1)) ∧ (¬ (¬ z (23 + k) = 2 ∧ 0 < z (63 + k)) → zfg z k = zfg z (k + 1)) := by
  have e40 : 63 + k - 40 = 23 + k := by omega
  constructor
  · intro h
    funext i
    unfold upd
    by_cases h0 : i = 63 + k
    · subst h0
      rw [if_pos rfl]
      unfold zfg
      rw [e40, if_pos ⟨by omega, h⟩]
    · rw [if_neg h0]
      unfold zfg
      by_cases q : (63 ≤ i ∧ i < 63 + k) ∧ ¬ z (i - 40) = 2 ∧ 0 < z i
      · rw [if_pos q, if_pos ⟨by omega, q.2⟩]
      · rw [if_neg q, if_neg (fun w => q ⟨by omega, w.2⟩)]
  · intro h
    funext i
    unfold zfg
    by_cases h0 : i = 63 + k
    · subst h0
      rw [e40, if_neg (fun w => h w.2), if_neg (fun w => h w.2)]
    · by_cases q : (63 ≤ i ∧ i < 63 + k) ∧ ¬ z (i - 40) = 2 ∧ 0 < z i
      · rw [if_pos q, if_pos ⟨by omega, q.2⟩]
      · rw [if_neg q, if_neg (fun w => q ⟨by omega, w.2⟩)]
theorem zdy_un (z : Z) {i : Nat} (h3 : ¬ i = 3) (h : ¬ (63 ≤ i ∧ i < 103)) : zdy z i = z i := by
  unfold zdy
  by_cases q : (z 3 + 1) - (z 3 + 1) / z 1 * z 1 = 0
  · rw [if_pos q, zfg_un _ h, pk_un h3]
  · rw [if_neg q, pk_un h3]
theorem zps_un (z : Z) {i : Nat} (h3 : ¬ i = 3) (h : ¬ (63 ≤ i ∧ i < 103)) : ∀ d, zps z d i = z i
  | 0 => rfl
  | d + 1 => (zdy_un _ h3 h).trans (zps_un z h3 h d)
theorem Iz.ps {z : Z} (I : Iz z) (d : Nat) : Iz (zps z d) := I.cg (fun i hi h => zps_un z (by omega) (by omega) d)
theorem Lz.ps {z : Z} (L : Lz z) (d : Nat) : Lz (zps z d) := L.cg (fun i h1 h2 => zps_un z (by omega) (by omega) d) (fun c hc q => by rw [zps_un z (by omega) (by omega)]; exact q)
/-- bad ones that wait -/
noncomputable def zwt (z : Z) : Nat → Int32
  | 0 => 0
  | n + 1 => zwt z n + cif (bad z n) 1 0
theorem waiting_ok {σ : Mem} {P : Int32 → Prop} (h : P (zwt (σ 94) 40)) : wp_X5_waiting σ P := by
  unfold wp_X5_waiting
  simp only [jn]
  refine lq2_inv 40 (fun k a => a = zwt (σ 94) k) (fun k a rec hk hI hrec => ?_) (fun a rec hI => ?_) rfl nI_0.symm
  · subst hI
    refine ⟨ge_no hk (by decide), fun _ => rbad_ok rfl hk (fun hb => br_f n10 (hrec _ ?_)) (fun hb => br_t rfl (hrec _ ?_))⟩
    · show _ = zwt (σ 94) k + cif (bad (σ 94) k) 1 0
      rw [cif_pos hb]
    · show _ = zwt (σ 94) k + cif (bad (σ 94) k) 1 0
      rw [cif_neg hb]
  · subst hI
    exact ⟨fun _ => h, ge_yes⟩
theorem waitingCells_ok {σ : Mem} {z : Z} {P : Int32 → Prop} (R : Rel σ 0 z) (h : P (zwt z 40)) : wp_X1_waitingCells σ P := by
  unfold wp_X1_waitingCells
  refine lq2_inv 40 (fun k a => a = zwt z k) (fun k a rec hk hI hrec => ?_) (fun a rec hI => ?_) rfl nI_0.symm
  · subst hI
    refine ⟨ge_no hk (by decide), fun _ => waits_ok R rfl hk (fun hb => br_f n10 (hrec _ ?_)) (fun hb => br_t rfl (hrec _ ?_))⟩
    · show _ = zwt z k + cif (bad z k) 1 0
      rw [cif_pos hb]
    · show _ = zwt z k + cif (bad z k) 1 0
      rw [cif_neg hb, Int32.add_zero]
  · subst hI
    exact ⟨fun _ => h, ge_yes⟩
theorem nle_lt {x : Int32} (h : ¬ x ≤ 0) : 0 < x := Int32.not_le.mp h
theorem passNow_ok {σ : Mem} {z : Z} {x : Int32} {P : Int32 → Mem → Prop} {d : Nat} (I : Iz z) (hx : x = nI d) (hd : d < 2 ^ 31) (h : P (zwt (zlk (zps z d) 40) 40) (sz σ (zlk (zps z d) 40))) : wp_X5_passNow (sz σ z) x P := by
  subst hx
  unfold wp_X5_passNow
  simp only [bm, jn]
  refine lq2_inv d (fun k a => a = sz σ (zps z k)) (fun k a rec hk hI hrec => ?_) (fun a rec hI => ?_) rfl nI_0.symm
  · subst hI
    have Ik := I.ps k
    have hz : zps z (k + 1) = zdy (zps z k) := rfl
    rw [hz] at hrec
    generalize zps z k = w at Ik hrec ⊢
    refine ⟨ge_no hk hd, fun _ => ?_⟩
    rw [up2_sz, sz_94]
    have w1 : ¬ w 1 = 0 := fun q => by have := Ik.2.2.1; rw [q] at this; exact absurd this (by decide)
    by_cases hday : (w 3 + 1) - (w 3 + 1) / w 1 * w 1 = 0
    · have hzd : zdy w = zfg (upd w 3 (w 3 + 1)) 40 := by unfold zdy; rw [if_pos hday]
      rw [hzd] at hrec
      have v3 : upd w 3 (w 3 + 1) 3 = w 3 + 1 := pk_us
      have v1 : upd w 3 (w 3 + 1) 1 = w 1 := pk_un (by decide)
      generalize upd w 3 (w 3 + 1) = v at hrec v3 v1 ⊢
      refine lq2_inv 40 (fun j a => a = sz σ (zfg v j)) (fun j a rec2 hj hI hrec2 => ?_) (fun a rec2 hI => ?_) ?_ nI_0.symm
      · subst hI
        have a1 := ix1 (a := 63) (k := j) (n := 313) (by omega) (by decide)
        have a2 := ix1 (a := 23) (k := j) (n := 313) (by omega) (by decide)
        have e1 : ((63 : Int32) + nI j).toNatClampNeg = 63 + j := a1.2
        have e2 : ((23 : Int32) + nI j).toNatClampNeg = 23 + j := a2.2
        have f1 : sz σ (zfg v j) 94 1 = w 1 := by rw [sz_94, zfg_un _ (by omega), v1]
        have f3 : sz σ (zfg v j) 94 3 = w 3 + 1 := by rw [sz_94, zfg_un _ (by omega), v3]
        have f4 : sz σ (zfg v j) 94 (63 + j) = v (63 + j) := by rw [sz_94, zfg_un _ (by omega)]
        have f5 : sz σ (zfg v j) 94 (23 + j) = v (23 + j) := by rw [sz_94, zfg_un _ (by omega)]
        rw [e1, e2, f1, f3, f4, f5]
        refine ⟨ge_no hj (by decide), fun _ => ⟨w1, fun _ => ⟨a1.1, a1.1, fun q => ⟨a1.1, ?_⟩, fun q => ⟨a2.1, fun q2 => ⟨a1.1, ?_⟩, fun q2 => ⟨a1.1, ?_⟩⟩⟩, fun q => absurd hday q⟩⟩
        · refine hrec2 _ ?_
          rw [up2_sz, ← (zfg_st v hj).2 (fun w => absurd w.2 (Int32.not_lt.mpr q))]
          congr 1
          funext i
          by_cases hi : i = 63 + j
          · rw [hi, pk_us, zfg_un _ (by omega), Int32.sub_zero]
          · rw [pk_un hi]
        · refine hrec2 _ ?_
          rw [up2_sz, ← (zfg_st v hj).2 (fun w => w.1 q2)]
          congr 1
          funext i
          by_cases hi : i = 63 + j
          · rw [hi, pk_us, zfg_un _ (by omega), Int32.sub_zero]
          · rw [pk_un hi]
        · refine hrec2 _ ?_
          rw [up2_sz, (zfg_st v hj).1 ⟨q2, nle_lt q⟩]
      · subst hI
        exact ⟨fun _ => hrec _ rfl, ge_yes⟩
      · have : zfg v 0 = v := by funext i; exact zfg_un v (by omega)
        rw [this]
    · have hzd : zdy w = upd w 3 (w 3 + 1) := by unfold zdy; rw [if_neg hday]
      rw [hzd] at hrec
      refine lq2_inv 40 (fun j a => j = 0 ∧ a = sz σ (upd w 3 (w 3 + 1))) (fun j a rec2 hj hI hrec2 => ?_) (fun a rec2 hI => absurd hI.1 (by decide)) ⟨rfl, rfl⟩ nI_0.symm
      obtain ⟨rfl, rfl⟩ := hI
      have f1 : sz σ (upd w 3 (w 3 + 1)) 94 1 = w 1 := by rw [sz_94, pk_un (by decide)]
      have f3 : sz σ (upd w 3 (w 3 + 1)) 94 3 = w 3 + 1 := by rw [sz_94, pk_us]
      rw [f1, f3]
      exact ⟨ge_no hj (by decide), fun _ => ⟨w1, fun q => absurd q hday, fun _ => hrec _ rfl⟩⟩
  · subst hI
    refine ⟨fun _ => look_ok (I.ps d) (waiting_ok ?_), fun q => absurd (Int32.le_refl _) q⟩
    rw [sz_94]
    exact h
theorem letPass_ok {σ : Mem} {z : Z} {x : Int32} {P : Int32 → Mem → Prop} {d : Nat} (R : Rel σ 0 z) (I : Iz z) (hx : x = nI d) (hd : d < 2 ^ 31) (h3 : ¬ z 3 + x ≤ 9999 → P (-3) σ) (h : z 3 + x ≤ 9999 → ∀ τ, Rel τ 0 (zlk (zps z d) 40) → Fr σ τ → P (zwt (zlk (zps z d) 40) 40) τ) : wp_X1_letPass σ x P := by
  subst hx
  unfold wp_X1_letPass
  simp only [bm]
  rw [show σ 0 12 = _ from R.day]
  refine ⟨fun q => ?_, h3⟩
  refine lq2_inv d (fun k a => Rel a 0 (zps z k) ∧ Fr σ a) (fun k a rec hk hI hrec => ?_) (fun a rec hI => ?_) ⟨R, Fr.rf σ⟩ nI_0.symm
  · obtain ⟨Rk, Fk⟩ := hI
    have Ik := I.ps k
    have hz : zps z (k + 1) = zdy (zps z k) := rfl
    rw [hz] at hrec
    generalize zps z k = w at Ik hrec Rk
    refine ⟨ge_no hk hd, fun _ => ?_⟩
    obtain ⟨RN, RO⟩ := Rel_iff.mp Rk
    rw [show a 0 12 = _ from Rk.day]
    have R1 : Rel (up2 a 0 12 (w 3 + 1)) 0 (upd w 3 (w 3 + 1)) := Rel_iff.mpr ⟨RelN_day RN, Own_congr RO (up2_ne _ (by decide)) (fun q hq => pk_un (by omega))⟩
    have F1 : Fr σ (up2 a 0 12 (w 3 + 1)) := Fk.up (by decide)
    have w1 : ¬ w 1 ≤ 0 := Int32.not_le.mpr Ik.2.2.1
    have w10 : ¬ w 1 = 0 := fun q => by rw [q] at w1; exact w1 (Int32.le_refl _)
    unfold wp_X1_isForgettingDay
    rw [show up2 a 0 12 (w 3 + 1) 11 1 = w 1 by rw [up2_ne _ (show (11 : Nat) ≠ 0 by decide)]; exact Rk.set 1 (by decide), show up2 a 0 12 (w 3 + 1) 0 12 = w 3 + 1 by rw [up2_eq, pk_us]]
    refine br_f w1 ⟨w10, fun hday => br_f n10 ?_, fun hday => br_t rfl (hrec _ ⟨?_, F1⟩)⟩
    · have hzd : zdy w = zfg (upd w 3 (w 3 + 1)) 40 := by unfold zdy; rw [if_pos hday]
      rw [hzd] at hrec
      generalize upd w 3 (w 3 + 1) = v at hrec R1
      generalize up2 a 0 12 (w 3 + 1) = ρ at R1 F1
      unfold wp_X1_forgetErrors
      simp only [bm]
      refine lq2_inv 40 (fun j τ => Rel τ 0 (zfg v j) ∧ Fr σ τ) (fun j τ rec2 hj hI hrec2 => ?_) (fun τ rec2 hI => ⟨fun _ => hrec τ hI, ge_yes⟩) ⟨?_, F1⟩ nI_0.symm
      · obtain ⟨Rj, Fj⟩ := hI
        rw [clI (by omega), show τ 1 j = _ from Rj.ret j hj, show τ 2 j = _ from Rj.err j hj, zfg_un v (i := 23 + j) (by omega), zfg_un v (i := 63 + j) (by omega)]
        have hin := inI hj (n := 40) (by decide)
        refine ⟨ge_no hj (by decide), fun _ => ⟨hin, fun q1 => ⟨hin, fun q2 => hrec2 _ ⟨?_, Fj⟩, fun q2 => ⟨hin, hin, hrec2 _ ⟨?_, Fj.up (by decide)⟩⟩⟩, fun q1 => hrec2 _ ⟨?_, Fj⟩⟩⟩
        · rw [← (zfg_st v hj).2 (fun w => absurd w.2 (Int32.not_lt.mpr q2))]; exact Rj
        · have h2 : ¬ v (23 + j) = 2 := fun w => by rw [if_pos w] at q1; exact n10 q1
          rw [← (zfg_st v hj).1 ⟨h2, nle_lt q2⟩]
          obtain ⟨RNj, ROj⟩ := Rel_iff.mp Rj
          exact Rel_iff.mpr ⟨RelN_err RNj hj, Own_congr ROj (up2_ne _ (by decide)) (fun q hq => pk_un (by omega))⟩
        · have h2 : v (23 + j) = 2 := Classical.byContradiction (fun w => q1 (by rw [if_neg w]))
          rw [← (zfg_st v hj).2 (fun w => w.1 h2)]; exact Rj
      · have : zfg v 0 = v := by funext i; exact zfg_un v (by omega)
        rw [this]; exact R1
    · have hzd : zdy w = upd w 3 (w 3 + 1) := by unfold zdy; rw [if_neg hday]
      rw [hzd]; exact R1
  · obtain ⟨Rk, Fk⟩ := hI
    exact ⟨fun _ => retireWhatCan_ok Rk (I.ps d) (fun τ e Rτ Fτ _ => waitingCells_ok Rτ (h q τ Rτ (Fk.tr Fτ))), fun w => absurd (Int32.le_refl _) w⟩
/-! a setting -/
theorem Iz.se {z : Z} (I : Iz z) {k : Nat} {v : Int32} (hk : k < 3) (hv : k = 1 → 0 < v) : Iz (upd z k v) := by
  by_cases h1 : k = 1
  · subst h1
    obtain ⟨⟨n, hn, e10, hl⟩, a2, a3, a4, a5, a6, a7⟩ := I
    have ex : ∀ i, ¬ i = 1 → upd z 1 v i = z i := fun i hi => pk_un hi
    refine ⟨⟨n, hn, by rw [ex 10 (by decide)]; exact e10, fun k hk => by rw [ex _ (by omega)]; exact hl k hk⟩, by rw [ex 9 (by decide)]; exact a2, by rw [pk_us]; exact hv rfl, fun p hp => ?_, fun p q hp hq hz he => ?_, fun c hc => ?_, ?_⟩
    · rw [ex _ (by omega), ex (103 + 4 * p + 1) (by omega), ex (103 + 4 * p + 2) (by omega)]
      rcases a4 p hp with q | ⟨x, hx, q1, q2, q3⟩
      · exact Or.inl q
      · exact Or.inr ⟨x, hx, q1, by rw [ex _ (by omega)]; exact q2, q3⟩
    · unfold zhas at hz
      rw [ex _ (by omega)] at hz he
      rw [ex (103 + 4 * q + 0) (by omega)] at he
      exact a5 p q hp hq hz he
    · rw [ex _ (by omega)]
      rcases a6 c hc with q | q | ⟨q, p, hp, q2⟩
      · exact Or.inl q
      · exact Or.inr (Or.inl q)
      · exact Or.inr (Or.inr ⟨q, p, hp, by rw [ex _ (by omega)]; exact q2⟩)
    · rw [ex 6 (by decide), ex 7 (by decide), sum5_un (z := z) (b := 308) (fun j hj => ex _ (by omega)), sum5_un (z := z) (b := 303) (fun j hj => ex _ (by omega))]
      exact a7
  · exact I.cg (fun i hi h => pk_un (by omega))
theorem Lz.se {z : Z} (L : Lz z) {k : Nat} {v : Int32} (hk : k < 3) : Lz (upd z k v) := L.cg (fun i h1 h2 => pk_un (by omega)) (fun c hc q => by rw [pk_un (by omega)]; exact q)
theorem changeSetting_ok {σ : Mem} {z : Z} {x v : Int32} {P : Int32 → Mem → Prop} {k : Nat} (R : Rel σ 0 z) (I : Iz z) (hx : x = nI k) (hk : k < 3) (hv : k = 1 → 0 < v) (h5 : z k = v → P (-5) σ) (h : ¬ z k = v → ∀ τ, Rel τ 0 (zlk (upd z k v) 40) → Fr σ τ → P (z k) τ) : wp_X1_changeSetting σ x v P := by
  subst hx
  unfold wp_X1_changeSetting
  simp only [bm]
  rw [clI (by omega), show σ 11 k = _ from R.set k hk]
  obtain ⟨RN, RO⟩ := Rel_iff.mp R
  have Rs : Rel (up2 σ 11 k v) 0 (upd z k v) := Rel_iff.mpr ⟨RelN_set RN hk, Own_congr RO (up2_ne _ (by decide)) (fun q hq => pk_un (by omega))⟩
  exact ⟨inI hk (by decide), h5, fun q => ⟨inI hk (by decide), retireWhatCan_ok Rs (I.se hk hv) (fun τ d Rτ Fτ _ => h q τ Rτ (((Fr.rf σ).up (by decide)).tr Fτ))⟩⟩
