/-! PURE PART: what is looked for behind each act, in the class -/
/-- nothing but the memory at 0 has changed -/
def Fr (σ τ : Mem) : Prop := ∀ a, 12 ≤ a → τ a = σ a
theorem Fr.rf (σ : Mem) : Fr σ σ := fun _ _ => rfl
theorem Fr.tr {σ τ ρ : Mem} (h : Fr σ τ) (h2 : Fr τ ρ) : Fr σ ρ := fun a ha => (h2 a ha).trans (h a ha)
theorem Fr.up {σ τ : Mem} (h : Fr σ τ) {k i : Nat} {v : Int32} (hk : k < 12) : Fr σ (up2 τ k i v) := fun a ha => by rw [up2_ne τ (by omega)]; exact h a ha
theorem RelN_zh {σ : Mem} {z : Z} {i : Nat} {v : Int32} (R : RelN σ z) (hi : i < 40) (h : v = 2 ↔ z (23 + i) = 2) : RelN σ (upd z (23 + i) v) := by
  have R2 := RelN_ret (i := i) (v := v) (w := σ 1 i) R hi (by
    rw [R.1 i hi]
    by_cases q : v = 2
    · rw [if_pos q, if_pos (h.mp q)]
    · rw [if_neg q, if_neg (fun w => q (h.mpr w))])
  have e : up2 σ 1 i (σ 1 i) = σ := by
    funext a b
    unfold up2 upd
    by_cases ha : a = 1
    · rw [if_pos ha, ha]; by_cases hb : b = i
      · rw [hb]; simp
      · simp [hb]
    · rw [if_neg ha]
  rwa [e] at R2
theorem cretire_ok {σ : Mem} {z : Z} {x : Int32} {P : Mem → Prop} {c : Nat} (R : Rel σ 0 z) (hx : x = nI c) (hc : c < 40) (hl : ∃ n, n ≤ 12 ∧ z 10 = nI n) (h : ∀ τ, Rel τ 0 (zre z c) → Fr σ τ → P τ) : wp_X1_retire σ x P := by
  subst hx
  obtain ⟨RN, RO⟩ := Rel_iff.mp R
  obtain ⟨n, hn, e10⟩ := hl
  have hlen : σ 0 10 = z 10 := R.len
  unfold wp_X1_retire
  simp only [bm]
  rw [clI (by omega), nar1, up2_ne σ (by decide), hlen]
  have R1 := RelN_ret (i := c) (v := 2) (w := 1) RN hc (by rw [if_pos rfl])
  refine ⟨inI hc (by decide), fun q => h _ (Rel_iff.mpr ⟨?_, ?_⟩) ((Fr.rf σ).up (by decide)), fun q => ?_⟩
  · unfold zre; rw [if_pos q]; exact R1
  · refine Own_congr RO (up2_ne σ (by decide)) (fun p hp => ?_)
    unfold zre; rw [if_pos q, pk_un (by omega)]
  · have hn12 : n < 12 := by
      rw [e10] at q
      rcases Nat.lt_or_ge n 12 with w | w
      · exact w
      · exact absurd (nI_le w (by omega)) q
    have hz : zre z c = upd (upd (upd z (23 + c) 2) (11 + n) (nI c)) 10 (z 10 + 1) := by unfold zre; rw [if_neg q, e10, clI (by omega)]
    have e1 : (up2 (up2 σ 1 c 1) 10 (z 10).toNatClampNeg (nI c)) 0 10 = z 10 := by
      rw [up2_ne _ (by decide), up2_ne _ (by decide), hlen]
    rw [e1, e10, clI (by omega)]
    refine ⟨inI hn12 (by decide), h _ (Rel_iff.mpr ⟨?_, ?_⟩) (((Fr.rf σ).up (by decide)).up (by decide) |>.up (by decide))⟩
    · rw [hz, e10]
      exact RelN_len (RelN_lis R1 hn12)
    · refine Own_congr RO (by rw [up2_ne _ (by decide), up2_ne _ (by decide), up2_ne _ (by decide)]) (fun p hp => ?_)
      rw [hz]
      simp (disch := omega) only [pk_un]
theorem moveAway_ok {σ : Mem} {z : Z} {x : Int32} {P : Mem → Prop} {c p c' : Nat} (R : Rel σ 0 z) (I : Iz z) (hx : x = nI c) (hc : c < 40) (hp : p < 50) (hpc : z (103 + 4 * p + 0) = nI c) (hc' : c' < 40) (hg : gv z = nI c') (h0 : z (23 + c') = 0) (h : ∀ τ, Rel τ 0 (zmv z p c') → Fr σ τ → P τ) : wp_X1_moveAwayFrom σ x P := by
  subst hx
  obtain ⟨RN, RO⟩ := Rel_iff.mp R
  have hpg : zpg z (nI c) 50 = nI p ∧ z (23 + c) = 1 := by
    rcases I.pg hc with ⟨-, -, w⟩ | ⟨q, hq, e, w1, w2, w3⟩
    · exact absurd hpc (w p hp)
    · rw [w3 p hp hpc]; exact ⟨e, w2⟩
  have hne : ¬ c' = c := fun e => by rw [e, hpg.2] at h0; exact absurd h0 (by decide)
  have hown : σ 3 c = nI p := by rw [RO c hc, hpg.1]
  unfold wp_X1_moveAwayFrom
  rw [clI (by omega), hown]
  refine ⟨inI hc (by decide), cellToGive_ok (nt := nI c) R I (free_ne hc (by rw [hpg.2]; decide)) (fun r hr => ?_)⟩
  have hr2 : r = nI c' := by rw [← gv_eq hr (can_free (free_ne hc (by rw [hpg.2]; decide))), hg]
  subst hr2
  refine br_f (nI_nn (by omega)) (br_t (nI_ge0 (by omega)) ⟨inI hc (by decide), ?_⟩)
  unfold wp_X1_give
  simp only [bm]
  have hd : nI p / 10 = nI (p / 10) := pk_div (by omega) (by decide) (by decide)
  rw [clI (by omega), clI (by omega), hd, clI (by omega)]
  refine ⟨inI hc' (by decide), inI hp (by decide), inI hp (by decide), inI hp (by decide), inI (by omega) (by decide), inI (by omega) (by decide), h _ (Rel_iff.mpr ⟨?_, ?_⟩) ?_⟩
  · have hz : zhas z p := by unfold zhas; rw [hpc]; exact nI_nm5 (by omega)
    have A1 := RelN_c3 (i := c) (v := -5) RN
    have A2 := RelN_c3 (i := c') (v := nI p) A1
    have A3 := RelN_cel (i := p) (v := nI c') A2 hp (fun _ => by rw [up2_ne _ (by decide), up2_ne _ (by decide)]; exact R.val p hp hz)
    have A4 := RelN_zh (i := c') (v := 1) A3 hc' (by rw [pk_un (by omega), h0]; decide)
    have A5 := RelN_las (v := nI c') A4
    have A6 := RelN_z3p (i := p) (v := z (103 + 4 * p + 3) + 1) A5 hp
    have A7 := RelN_c7 (i := p) (v := (up2 (up2 (up2 (up2 σ 3 c (-5)) 3 c' (nI p)) 4 p (nI c')) 0 13 (nI c')) 7 p + 1) A6
    have A8 := RelN_mov (i := p / 10) (v := z (308 + p / 10) + 1) A7 (by omega)
    have A9 := RelN_z6 (v := z 6 + 1) A8
    have e9 : (up2 (up2 (up2 (up2 (up2 σ 3 c (-5)) 3 c' (nI p)) 4 p (nI c')) 0 13 (nI c')) 7 p ((up2 (up2 (up2 (up2 σ 3 c (-5)) 3 c' (nI p)) 4 p (nI c')) 0 13 (nI c')) 7 p + 1)) 9 (p / 10) = z (308 + p / 10) := by
      simp (disch := omega) only [up2_ne]
      exact R.mov (p / 10) (by omega)
    rw [e9]
    exact A9
  · intro y hy
    simp (disch := omega) only [up2_ne]
    rw [up2_eq]
    have epp : ∀ q, q < 50 → zmv z p c' (103 + 4 * q + 0) = if q = p then nI c' else z (103 + 4 * q + 0) := by
      intro q hq
      unfold zmv zgi
      by_cases e : q = p
      · subst e; simp (disch := omega) only [pk_un, pk_us, if_true]
      · simp (disch := omega) only [pk_un, if_neg e]
    have hno : ∀ q, q < 50 → ¬ z (103 + 4 * q + 0) = nI c' := by
      rcases I.pg hc' with ⟨-, -, w⟩ | ⟨q, hq, -, w1, w2, -⟩
      · exact w
      · rw [h0] at w2; exact absurd w2 (by decide)
    have huq : ∀ q, q < 50 → z (103 + 4 * q + 0) = nI c → q = p := by
      rcases I.pg hc with ⟨-, -, w⟩ | ⟨q, hq, e, w1, w2, w3⟩
      · exact absurd hpc (w p hp)
      · intro i hi hii
        rw [w3 i hi hii, w3 p hp hpc]
    by_cases e1 : y = c'
    · rw [e1, pk_us, zpg_one hp (by rw [epp p hp, if_pos rfl]) (fun q hq w => ?_)]
      rw [epp q hq] at w
      by_cases e : q = p
      · exact e
      · rw [if_neg e] at w; exact absurd w (hno q hq)
    · rw [pk_un (by omega), up2_eq]
      by_cases e2 : y = c
      · rw [e2, pk_us, zpg_none (fun q hq w => ?_)]
        rw [epp q hq] at w
        by_cases e : q = p
        · rw [if_pos e] at w; exact hne (nI_inj (by omega) (by omega) w)
        · rw [if_neg e] at w; exact e (huq q hq w)
      · rw [pk_un (by omega), RO y hy]
        refine zpg_congr 50 (fun q hq => ?_)
        rw [epp q hq]
        by_cases e : q = p
        · rw [if_pos e, e, hpc]
          exact ⟨fun w => absurd (nI_inj (by omega) (by omega) w).symm e2, fun w => absurd (nI_inj (by omega) (by omega) w).symm e1⟩
        · rw [if_neg e]
  · exact (((((((Fr.rf σ).up (by decide)).up (by decide)).up (by decide)).up (by decide)).up (by decide)).up (by decide))
theorem zcn_up {z : Z} {c : Nat} {v h : Int32} : ∀ n, zcn (upd z (23 + c) v) h n + (if c < n ∧ z (23 + c) = h then 1 else 0) = zcn z h n + (if c < n ∧ v = h then 1 else 0)
  | 0 => by simp [zcn]
  | n + 1 => by
    have ih := zcn_up (z := z) (c := c) (v := v) (h := h) n
    unfold zcn
    by_cases e : n = c
    · subst e
      rw [pk_us]
      have x1 : ¬ (n < n ∧ z (23 + n) = h) := fun q => absurd q.1 (Nat.lt_irrefl _)
      have x2 : ¬ (n < n ∧ v = h) := fun q => absurd q.1 (Nat.lt_irrefl _)
      rw [if_neg x1, if_neg x2] at ih
      have x3 : (n < n + 1 ∧ z (23 + n) = h) ↔ z (23 + n) = h := ⟨fun q => q.2, fun q => ⟨Nat.lt_succ_self n, q⟩⟩
      have x4 : (n < n + 1 ∧ v = h) ↔ v = h := ⟨fun q => q.2, fun q => ⟨Nat.lt_succ_self n, q⟩⟩
      simp only [x3, x4]
      omega
    · rw [pk_un (by omega)]
      have x3 : (c < n + 1 ∧ z (23 + c) = h) ↔ (c < n ∧ z (23 + c) = h) := ⟨fun q => ⟨by omega, q.2⟩, fun q => ⟨by omega, q.2⟩⟩
      have x4 : (c < n + 1 ∧ v = h) ↔ (c < n ∧ v = h) := ⟨fun q => ⟨by omega, q.2⟩, fun q => ⟨by omega, q.2⟩⟩
      simp only [x3, x4]
      omega
theorem zcn_congr {z w : Z} {h : Int32} : ∀ n, (∀ c, c < n → w (23 + c) = z (23 + c)) → zcn w h n = zcn z h n
  | 0, _ => rfl
  | n + 1, e => by
    unfold zcn
    rw [zcn_congr n (fun c hc => e c (by omega)), e n (by omega)]
theorem zcn_re {z : Z} {c : Nat} (hc : c < 40) (h : ¬ z (23 + c) = 2) (hl : ∃ n, n ≤ 12 ∧ z 10 = nI n) : zcn (zre z c) 2 40 = zcn z 2 40 + 1 := by
  have e : zcn (zre z c) 2 40 = zcn (upd z (23 + c) 2) 2 40 := by
    refine zcn_congr 40 (fun x hx => ?_)
    unfold zre
    by_cases q : 12 ≤ z 10
    · rw [if_pos q]
    · rw [if_neg q]
      obtain ⟨n, hn, e10⟩ := hl
      have hn12 : n < 12 := by
        rw [e10] at q
        rcases Nat.lt_or_ge n 12 with w | w
        · exact w
        · exact absurd (nI_le w (by omega)) q
      rw [e10, clI (by omega), pk_un (by omega), pk_un (by omega)]
  rw [e]
  have := zcn_up (z := z) (c := c) (v := 2) (h := 2) 40
  rw [if_neg (fun q => h q.2), if_pos ⟨hc, rfl⟩] at this
  omega
theorem zcn_mv {z : Z} {p c' : Nat} (hp : p < 50) (hc' : c' < 40) (h0 : z (23 + c') = 0) : zcn (zmv z p c') 2 40 = zcn z 2 40 := by
  have e : zcn (zmv z p c') 2 40 = zcn (upd z (23 + c') 1) 2 40 := by
    refine zcn_congr 40 (fun x hx => ?_)
    unfold zmv zgi
    by_cases e : x = c'
    · subst e; simp (disch := omega) only [pk_un, pk_us]
    · simp (disch := omega) only [pk_un]
  rw [e]
  have := zcn_up (z := z) (c := c') (v := 1) (h := 2) 40
  rw [if_neg (fun q => by rw [h0] at q; exact absurd q.2 (by decide)), if_neg (fun q => absurd q.2 (by decide))] at this
  omega
theorem retireWhatCan_ok {σ : Mem} {z : Z} {P : Int32 → Mem → Prop} (R : Rel σ 0 z) (I : Iz z) (h : ∀ τ d, Rel τ 0 (zlk z 40) → Fr σ τ → zcn (zlk z 40) 2 40 = zcn z 2 40 + d → P (nI d) τ) : wp_X1_retireWhatCan σ P := by
  unfold wp_X1_retireWhatCan
  refine lq3_inv 40 (fun k a b => Rel a 0 (zlk z k) ∧ Fr σ a ∧ ∃ d, b = nI d ∧ zcn (zlk z k) 2 40 = zcn z 2 40 + d) (fun k a b rec hk hI hrec => ?_) (fun a b rec hI => ?_) ⟨R, Fr.rf σ, 0, nI_0.symm, rfl⟩ nI_0.symm
  · obtain ⟨Rk, Fk, d, rfl, hd⟩ := hI
    have Ik := I.lk k (by omega)
    have hz : zlk z (k + 1) = zst (zlk z k) k := rfl
    rw [hz] at hrec
    generalize zlk z k = w at Ik Rk hd hrec
    have hl : ∃ n, n ≤ 12 ∧ w 10 = nI n := by obtain ⟨n, hn, q, -⟩ := Ik.1; exact ⟨n, hn, q⟩
    refine ⟨ge_no hk (by decide), fun _ => waits_ok Rk rfl hk (fun hb => br_f n10 ?_) (fun hb => br_t rfl (hrec _ _ ⟨by rw [zst_no hb]; exact Rk, Fk, d, rfl, by rw [zst_no hb]; exact hd⟩))⟩
    refine canRetire_ok Rk Ik rfl hk (fun hm => br_f n10 ?_) (fun hm => br_t rfl ?_)
    · -- it can be retired
      rcases Ik.pg hk with ⟨e, e1, -⟩ | ⟨p, hp, e, e2, e3, e4⟩
      · unfold wp_X1_moveAwayFrom
        have hown : a 3 k = -5 := by rw [show a 3 k = _ from Rk.own k hk, e]
        rw [clI (by omega), hown]
        refine ⟨inI hk (by decide), cellToGive_ok (nt := -5) Rk Ik (fun c hc _ => nI_nm5 (by omega)) (fun r hr => ?_)⟩
        refine br_t m5_lt (cretire_ok Rk rfl hk hl (fun τ Rτ Fτ => hrec _ _ ⟨?_, Fk.tr Fτ, d + 1, nI_1 d, ?_⟩))
        · rw [zst_free hb e1]; exact Rτ
        · rw [zst_free hb e1, zcn_re hk hb.1 hl]; omega
      · have hpin : w (103 + 4 * p + 2) = 0 ∧ ¬ gv w = -5 := by
          rcases hm with q | ⟨i, hi, w1, w2, w3⟩
          · exact absurd e3 q
          · rw [e4 i hi w1] at w2
            obtain ⟨r, hr⟩ := B_ex w False (nI k)
            refine ⟨w2, ?_⟩
            rw [gv_eq hr (can_free (free_ne hk (by rw [e3]; decide)))]
            exact w3 r hr
        rcases gv_cases w with hg | ⟨c', hc', hg, h0, -⟩
        · exact absurd hg hpin.2
        · refine moveAway_ok Rk Ik rfl hk hp e2 hc' hg h0 (fun τ Rτ Fτ => ?_)
          have hl2 : ∃ n, n ≤ 12 ∧ zmv w p c' 10 = nI n := by
            obtain ⟨n, hn, q⟩ := hl
            refine ⟨n, hn, ?_⟩
            unfold zmv zgi
            simp (disch := omega) only [pk_un]
            exact q
          refine cretire_ok Rτ rfl hk hl2 (fun ρ Rρ Fρ => hrec _ _ ⟨?_, (Fk.tr Fτ).tr Fρ, d + 1, nI_1 d, ?_⟩)
          · rw [zst_mv hb e3 hp e hpin.1 hc' hg]; exact Rρ
          · have hne : ¬ k = c' := fun q => by rw [← q, e3] at h0; exact absurd h0 (by decide)
            rw [zst_mv hb e3 hp e hpin.1 hc' hg, zcn_re hk ?_ hl2, zcn_mv hp hc' h0]
            · omega
            · unfold zmv zgi
              simp (disch := omega) only [pk_un]
              exact hb.1
    · -- it waits
      rcases Ik.pg hk with ⟨e, e1, -⟩ | ⟨p, hp, e, e2, e3, e4⟩
      · exact absurd (Or.inl e1) hm
      · have hw : ¬ w (103 + 4 * p + 2) = 0 ∨ gv w = -5 := by
          by_cases q : w (103 + 4 * p + 2) = 0
          · refine Or.inr (Classical.byContradiction (fun g => hm (Or.inr ⟨p, hp, e2, q, fun r hr => ?_⟩)))
            rw [← gv_eq hr (can_free (free_ne hk (by rw [e3]; decide)))]
            exact g
          · exact Or.inl q
        refine hrec _ _ ⟨?_, Fk, d, rfl, ?_⟩
        · rw [zst_wait hb e3 hp e hw]; exact Rk
        · rw [zst_wait hb e3 hp e hw]; exact hd
  · obtain ⟨Rk, Fk, d, rfl, hd⟩ := hI
    exact ⟨fun _ => h a d Rk Fk hd, ge_yes⟩
