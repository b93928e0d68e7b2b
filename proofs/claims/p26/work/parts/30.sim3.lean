theorem Gz.se {z : Z} (g : Gz z) {k : Nat} {v : Int32} (hk : k < 3) (hv : 0 ≤ v) (h1 : k = 1 → 0 < v) : Gz (zlk (upd z k v) 40) := by
  obtain ⟨I, F, L, g0, g2⟩ := g
  refine Gz.lk (z := z) (I.se hk h1) (L.se hk) ?_ ?_
  · by_cases e : k = 0
    · rw [e, pk_us]; exact hv
    · rw [pk_un (by omega)]; exact g0
  · by_cases e : k = 2
    · rw [e, pk_us]; exact hv
    · rw [pk_un (by omega)]; exact g2
theorem Gz.nn {z : Z} (g : Gz z) {k : Nat} (hk : k < 3) : 0 ≤ z k := by
  obtain ⟨I, F, L, g0, g2⟩ := g
  rcases (show k = 0 ∨ k = 1 ∨ k = 2 by omega) with rfl | rfl | rfl
  · exact g0
  · exact Int32.le_of_lt I.2.2.1
  · exact g2
theorem le_tr {a b c : Int32} (h : a ≤ b) (h2 : b ≤ c) : a ≤ c := Int32.le_trans h h2
theorem lt_of1 {v : Int32} (h : 1 ≤ v) : 0 < v := by
  rw [Int32.le_iff_toInt_le] at h
  rw [Int32.lt_iff_toInt_lt]
  have e0 : (0 : Int32).toInt = 0 := by decide
  have e1 : (1 : Int32).toInt = 1 := by decide
  omega
theorem set_tail {σ : Mem} {z : Z} {n o : Nat} {H : Nat → Z} {k : Nat} {v : Int32} {Q : Int32 → Int32 → Mem → Prop} (C : CH σ z n o H) (R : RH σ z n H) (gH : ∀ i, i < n → Gz (H i)) (g : Gz z) (s1 : Sn σ) (s2 : Tx σ) (s3 : Sp σ) (hk : k < 3) (hv : 0 ≤ v) (h1 : k = 1 → 0 < v) (h : ∀ r ρ, SS ρ → Q r r ρ) {G : Int32 → Mem → Prop} (hG : ∀ r τ, (vp_in (nI k) 313 ∧ ((τ 94 (nI k).toNatClampNeg = v → Q r (-5) τ) ∧ (¬ τ 94 (nI k).toNatClampNeg = v → wp_X5_record τ (fun σ7 => vp_in (nI k) 313 ∧ bm (up2 σ7 94 (nI k).toNatClampNeg v) (fun σ8 => wp_X5_look σ8 (fun σ9 => Q r (τ 94 (nI k).toNatClampNeg) σ9)))))) → G r τ) :
    wp_X1_copyFrom σ 12 0 (fun σ5 => wp_X1_changeSetting σ5 (nI k) v (fun r6 σ7 => wp_X4_recorded σ7 r6 (fun r8 σ9 => G r8 σ9))) := by
  obtain ⟨I, F, L, g0, g2⟩ := id g
  refine before_ok C.2.2.1 I (fun τ R12 hτ => ?_)
  have R0 : Rel τ 0 z := C.2.2.1.far (fun k _ hk => hτ k (by omega))
  refine changeSetting_ok R0 I rfl hk h1 (fun he => act_no C hτ m5 (fun υ Cυ fυ => hG _ _ ?_)) (fun he ρ Rρ Fρ => act_yes C hτ R12 I Rρ Fρ (g.nn hk) (fun υ o' Cυ fυ => hG _ _ ?_))
  · have Rυ := R.cr fυ
    rw [clI (by omega), Rυ.2.1]
    exact ⟨inI (by omega) (by decide), fun _ => h _ _ (SS.mk' Cυ fυ Rυ (RR.rf υ) gH g s1 s2 s3), fun w => absurd he w⟩
  · have Rυ := R.cr fυ
    simp only [bm]
    rw [clI (by omega), Rυ.2.1]
    refine ⟨inI (by omega) (by decide), fun w => absurd w he, fun _ => record_ok Rυ (fun ω Rω fω => ⟨inI (by omega) (by decide), ?_⟩)⟩
    rw [← Rω.asz, up2_sz]
    exact look_ok (I.se hk h1) (h _ _ (SS.mk' Cυ fυ Rω.set (fω.sz _) (pushG gH R.1 g) (g.se hk hv h1) s1 s2 s3))
theorem sim_set {σ : Mem} (S : SS σ) (y1 y2 : Int32) {Q : Int32 → Int32 → Mem → Prop} (h : ∀ r ρ, SS ρ → Q r r ρ) : wp_X4_set σ y1 y2 (fun r τ => wp_X5_set τ y1 y2 (fun r' ρ => Q r r' ρ)) := by
  obtain ⟨n, o, H, C, R, gH, g, s1, s2, s3⟩ := id S
  generalize hz : σ 94 = z at C R g
  unfold wp_X4_set wp_X5_set wp_X4_lowestSetting wp_X4_highestSetting
  simp only [jn]
  by_cases hw : 0 ≤ y1 ∧ y1 ≤ 2
  · obtain ⟨k, hk, rfl⟩ : ∃ k, k ≤ 2 ∧ y1 = nI k := nI_of2 (M := 2) (n := 2) (by decide) (Int32.not_lt.mpr hw.1) hw.2
    refine w4_yes hw.1 hw.2 (br_f n10 ?_)
    rcases (show k = 0 ∨ k = 1 ∨ k = 2 by omega) with rfl | rfl | rfl
    · refine br_f (by decide) (br_t rfl ?_)
      by_cases hv : 1 ≤ y2 ∧ y2 ≤ 20
      · refine w4_yes hv.1 hv.2 (br_f n10 (set_tail (Q := Q) C R gH g s1 s2 s3 (by decide) (le_tr (by decide) hv.1) (fun q => absurd q (by decide)) h (fun r τ hh => ?_)))
        exact w5_yes hw.1 hw.2 (br_f n10 (br_f (by decide) (br_t rfl (w5_yes hv.1 hv.2 (br_f n10 hh)))))
      · exact w4_no hv (br_t rfl (w5_yes hw.1 hw.2 (br_f n10 (br_f (by decide) (br_t rfl (w5_no hv (br_t rfl (h _ _ S))))))))
    · refine br_f (by decide) (br_f (by decide) (br_t rfl ?_))
      by_cases hv : 1 ≤ y2 ∧ y2 ≤ 99
      · refine w4_yes hv.1 hv.2 (br_f n10 (set_tail (Q := Q) C R gH g s1 s2 s3 (by decide) (le_tr (by decide) hv.1) (fun _ => lt_of1 hv.1) h (fun r τ hh => ?_)))
        exact w5_yes hw.1 hw.2 (br_f n10 (br_f (by decide) (br_f (by decide) (br_t rfl (w5_yes hv.1 hv.2 (br_f n10 hh))))))
      · exact w4_no hv (br_t rfl (w5_yes hw.1 hw.2 (br_f n10 (br_f (by decide) (br_f (by decide) (br_t rfl (w5_no hv (br_t rfl (h _ _ S)))))))))
    · refine br_t rfl (br_f (by decide) (br_f (by decide) ?_))
      by_cases hv : 0 ≤ y2 ∧ y2 ≤ 2
      · refine w4_yes hv.1 hv.2 (br_f n10 (set_tail (Q := Q) C R gH g s1 s2 s3 (by decide) hv.1 (fun q => absurd q (by decide)) h (fun r τ hh => ?_)))
        exact w5_yes hw.1 hw.2 (br_f n10 (br_t rfl (br_f (by decide) (br_f (by decide) (w5_yes hv.1 hv.2 (br_f n10 hh))))))
      · exact w4_no hv (br_t rfl (w5_yes hw.1 hw.2 (br_f n10 (br_t rfl (br_f (by decide) (br_f (by decide) (w5_no hv (br_t rfl (h _ _ S)))))))))
  · exact w4_no hw (br_t rfl (w5_no hw (br_t rfl (h _ _ S))))
/-! undo, keep, restore -/
theorem pred_I {n : Nat} : nI (n + 1) - 1 = nI n := nI_pred n
theorem sim_undo {σ : Mem} (S : SS σ) {Q : Int32 → Int32 → Mem → Prop} (h : ∀ r ρ, SS ρ → Q r r ρ) : wp_X4_undo σ (fun r τ => wp_X5_undo τ (fun r' ρ => Q r r' ρ)) := by
  obtain ⟨n, o, H, C, R, gH, g, s1, s2, s3⟩ := id S
  obtain ⟨hn, ho, hR, e2, e1, hH⟩ := id C
  obtain ⟨-, -, e3, rH⟩ := id R
  unfold wp_X4_undo wp_X0_takeLatest wp_X5_undo
  simp only [bm]
  rw [e2]
  cases n with
  | zero =>
    refine br_t nI_0 ?_
    rw [e3]
    exact br_t nI_0 (h _ _ S)
  | succ m =>
    have hne : ¬ nI (m + 1) = 0 := nI_ne0 (by omega) (by omega)
    rw [pred_I]
    have t2 : up2 σ 85 2 (nI m) 85 2 = nI m := by rw [up2_eq, pk_us]
    have t1 : up2 σ 85 2 (nI m) 85 1 = nI o := by rw [up2_eq, pk_un (by decide)]; exact e1
    rw [t1, t2, (mod4 (o := o) (n := m)).resolve_right (fun q => q (by omega)), clI (by omega)]
    have hm : (o + m) % 4 < 4 := Nat.mod_lt _ (by decide)
    -- the state that comes back
    have hw : ∀ w : Z, (∀ i, i < 313 → w i = σ 96 (313 * m + i)) → zeq (H m) w := fun w hw i hi => (hw i hi).trans (rH m (by omega) i hi)
    have gm : Gz (H m) := gH m (by omega)
    refine br_f hne ⟨inI hm (by decide), copy_ok (isM_h hm) isM_0 (by omega) ((hH m (by omega)).far (fun k a b => up2_ne _ (by omega))) gm.1 (fun τ Rτ hτ => ?_)⟩
    have t3 : τ 85 2 = nI m := by rw [hτ 85 (by omega), up2_eq, pk_us]
    have t4 : τ 93 = σ 93 := by rw [hτ 93 (by omega), up2_ne _ (by decide)]
    rw [t3, t4, e3, pred_I]
    have t5 : up2 τ 93 3 (nI m) 93 3 = nI m := by rw [up2_eq, pk_us]
    rw [t5]
    refine br_f hne ?_
    have em : (313 : Int32) * nI m = nI (313 * m) := by
      show nI 313 * nI m = _
      rw [pk_mul]
    refine copyState_ok (f := 313 * m) (t := 0) em nI_0.symm (by show _ ≤ 1252; omega) (by decide) (by decide) (fun ρ c1 c2 c3 => ?_)
    have ρ93 : ρ 93 3 = nI m := by rw [c3 93 (by decide), up2_eq, pk_us]
    rw [ρ93]
    have other : ∀ k, ¬ k < 12 → ¬ k = 85 → ¬ k = 93 → ¬ k = 94 → ρ k = σ k := fun k a b c d => by
      rw [c3 k d, up2_ne _ c, hτ k (by omega), up2_ne _ b]
    have ρ94 : zeq (H m) (ρ 94) := hw _ (fun i hi => by
      have := c1 i hi
      rw [Nat.zero_add] at this
      rw [this, up2_ne _ (by decide), hτ 96 (by omega), up2_ne _ (by decide)])
    have low : ∀ k, k < 12 → ρ k = τ k := fun k hk => by rw [c3 k (by omega), up2_ne _ (by omega)]
    refine h _ _ ⟨m, o, H, ⟨by omega, ho, ?_, ?_, ?_, fun i hi => ?_⟩, ⟨by omega, rfl, ρ93, fun i hi => ?_⟩, fun i hi => gH i (by omega), gm.zeq ρ94, ?_, ?_, ?_⟩
    · exact (Rτ.zeq ρ94).far (fun k a b => low k (by omega))
    · rw [c3 85 (by decide), up2_ne _ (by decide)]; exact t3
    · rw [c3 85 (by decide), up2_ne _ (by decide), hτ 85 (by omega), up2_eq, pk_un (by decide)]; exact e1
    · exact (hH i (by omega)).far (fun k a b => other k (by omega) (by omega) (by omega) (by omega))
    · rw [other 96 (by decide) (by decide) (by decide) (by decide)]; exact rH i (by omega)
    · refine s1.far ?_ ?_ ?_ (fun k a b => other k (by omega) (by omega) (by omega) (by omega))
      · rw [other 84 (by decide) (by decide) (by decide) (by decide)]
      · rw [c3 93 (by decide), up2_eq, pk_un (by decide), t4]
      · rw [other 97 (by decide) (by decide) (by decide) (by decide)]
    · refine s2.far ?_ ?_ ?_ ?_
      · rw [other 87 (by decide) (by decide) (by decide) (by decide)]
      · rw [c3 93 (by decide), up2_eq, pk_un (by decide), t4]
      · rw [other 88 (by decide) (by decide) (by decide) (by decide)]
      · rw [other 98 (by decide) (by decide) (by decide) (by decide)]
    · refine s3.far ?_ ?_ ?_
      · rw [other 84 (by decide) (by decide) (by decide) (by decide)]
      · rw [c3 93 (by decide), up2_eq, pk_un (by decide), t4]
      · rw [c3 93 (by decide), up2_eq, pk_un (by decide), t4]
theorem zcn_zeq {z w : Z} (h : zeq z w) (x : Int32) : zcn w x 40 = zcn z x 40 := zcn_congr 40 (fun c hc => h _ (by omega))
theorem sim_keep {σ : Mem} (S : SS σ) {Q : Int32 → Int32 → Mem → Prop} (h : ∀ r ρ, SS ρ → Q r r ρ) : wp_X4_keep σ (fun r τ => wp_X5_keep τ (fun r' ρ => Q r r' ρ)) := by
  obtain ⟨n, o, H, C, R, gH, g, s1, s2, s3⟩ := id S
  generalize hz : σ 94 = z at C R g
  unfold wp_X4_keep wp_X5_keep wp_X1_retiredCells
  simp only [bm]
  refine copy_ok isM_0 isM_24 (by decide) C.2.2.1 g.1 (fun τ R24 hτ => ?_)
  have R0 : Rel (up2 τ 84 3 1) 0 z := C.2.2.1.far (fun k _ hk => by rw [up2_ne _ (by omega), hτ k (by omega)])
  refine cellsThatAre_ok R0 g.1 ?_
  refine copyState_ok (f := 0) (t := 0) nI_0.symm nI_0.symm (by decide) (by decide) (by decide) (fun ρ c1 c2 c3 => cells_ok ?_)
  have t94 : up2 τ 84 3 1 94 = z := by rw [up2_ne _ (by decide), hτ 94 (by omega), hz]
  have ρ94 : up2 ρ 93 5 1 94 = z := by rw [up2_ne _ (by decide), c3 94 (by decide), t94]
  have other : ∀ k, ¬ (24 ≤ k ∧ k < 36) → ¬ k = 84 → ¬ k = 93 → ¬ k = 97 → up2 ρ 93 5 1 k = σ k := fun k a b c d => by
    rw [up2_ne _ c, c3 k d, up2_ne _ b, hτ k a]
  have o93 : ∀ i, ¬ i = 5 → up2 ρ 93 5 1 93 i = σ 93 i := fun i hi => by
    rw [up2_eq, pk_un hi, c3 93 (by decide), up2_ne _ (by decide), hτ 93 (by omega)]
  have o84 : ∀ i, ¬ i = 3 → up2 ρ 93 5 1 84 i = σ 84 i := fun i hi => by
    rw [up2_ne _ (by decide), c3 84 (by decide), up2_eq, pk_un hi, hτ 84 (by omega)]
  have z97 : zeq z (up2 ρ 93 5 1 97) := fun i hi => by
    have := c1 i hi
    rw [Nat.zero_add] at this
    rw [up2_ne _ (by decide), this, t94]
  rw [ρ94]
  refine h _ _ ⟨n, o, H, ?_, ?_, gH, by rw [ρ94]; exact g, ?_, ?_, ?_⟩
  · rw [ρ94]; exact C.far (fun k hk => other k (by omega) (by omega) (by omega) (by omega))
  · obtain ⟨r1, r2, r3, r4⟩ := R
    exact ⟨r1, rfl, by rw [o93 3 (by decide)]; exact r3, fun i hi => by rw [other 96 (by omega) (by decide) (by decide) (by decide)]; exact r4 i hi⟩
  · refine Or.inr ⟨?_, ?_, g.zeq z97, ?_⟩
    · rw [up2_ne _ (by decide), c3 84 (by decide), up2_eq, pk_us]
    · rw [up2_eq, pk_us]
    · refine (R24.zeq z97).far (fun k a b => ?_)
      rw [up2_ne _ (by omega), c3 k (by omega), up2_ne _ (by omega)]
  · exact s2.far (by rw [other 87 (by omega) (by decide) (by decide) (by decide)]) (o93 7 (by decide)) (other 88 (by omega) (by decide) (by decide) (by decide)) (other 98 (by omega) (by decide) (by decide) (by decide))
  · unfold Sp
    rw [o93 8 (by decide), o93 9 (by decide), o84 7 (by decide), o84 8 (by decide)]
    exact s3
theorem sim_restore {σ : Mem} (S : SS σ) {Q : Int32 → Int32 → Mem → Prop} (h : ∀ r ρ, SS ρ → Q r r ρ) : wp_X4_restore σ (fun r τ => wp_X5_restore τ (fun r' ρ => Q r r' ρ)) := by
  obtain ⟨n, o, H, C, R, gH, g, s1, s2, s3⟩ := id S
  generalize hz : σ 94 = z at C R g
  unfold wp_X4_restore wp_X5_restore wp_X1_retiredCells
  rcases id s1 with ⟨q1, q2⟩ | ⟨q1, q2, gk, Rk⟩
  · rw [q1]
    refine br_t rfl ?_
    dsimp only
    rw [q2]
    exact br_t rfl (h _ _ S)
  · rw [q1]
    refine br_f n10 (before_ok C.2.2.1 g.1 (fun τ R12 hτ => ?_))
    -- the state that comes back
    obtain ⟨w, hw, hw2⟩ : ∃ w : Z, (∀ i, i < 313 → w i = σ 97 i) ∧ ∀ i, ¬ i < 313 → w i = z i := ⟨fun i => if i < 313 then σ 97 i else z i, fun i hi => if_pos hi, fun i hi => if_neg hi⟩
    have gw : Gz w := gk.zeq hw
    have R24 : Rel τ 24 w := (Rk.zeq hw).far (fun k a b => hτ k (by omega))
    refine copy_ok isM_24 isM_0 (by decide) R24 gw.1 (fun υ Rυ hυ => ?_)
    refine retireWhatCan_ok Rυ gw.1 (fun ρ d Rρ Fρ _ => cellsThatAre_ok Rρ (gw.1.lk 40 (Nat.le_refl _)) ?_)
    have F2 : Fr τ ρ := fun k hk => by rw [Fρ k hk, hυ k (by omega)]
    refine act_yes C hτ R12 g.1 Rρ F2 (nI_ge0 (by have := zcn_le (zlk w 40) 2 40; omega)) (fun x o' Cx fx => ?_)
    have Rx := R.cr fx
    have e5 : x 93 5 = 1 := by rw [fx.2 93 (by decide) (by decide), q2]
    dsimp only
    rw [e5]
    refine br_f n10 (record_ok Rx (fun y Ry fy => ?_))
    refine copyState_ok (f := 0) (t := 0) nI_0.symm nI_0.symm (by decide) (by decide) (by decide) (fun v c1 c2 c3 => ?_)
    have y97 : y 97 = σ 97 := by rw [fy.1 97 (by decide) (by decide) (by decide) (by decide), fx.2 97 (by decide) (by decide)]
    have v94 : v 94 = w := by
      funext i
      by_cases hi : i < 313
      · have := c1 i hi
        rw [Nat.zero_add] at this
        rw [this, y97, hw i hi]
      · rw [c2 i (by omega), Ry.2.1, hw2 i hi]
    have ev : v = sz y w := by
      funext k
      by_cases hk : k = 94
      · rw [hk, v94, sz_94]
      · rw [c3 k hk, sz_ne _ _ hk]
    rw [ev]
    refine look_ok gw.1 (cells_ok ?_)
    rw [sz_94]
    exact h _ _ (SS.mk' Cx fx (RH.set Ry) (fy.sz _) (pushG gH R.1 g) (Gz.lk (z := z) gw.1 gw.2.2.1 gw.2.2.2.1 gw.2.2.2.2) s1 s2 s3)
/-! texts -/
theorem nar_c {w : Nat} (hw : w < 65536) : vp_nar .char (nI w) = nI w := by
  have := (pk_charN hw).1
  unfold vp_nar
  rw [this]
theorem sim_type {σ : Mem} (S : SS σ) (y1 : Int32) (hy : ∃ w, w < 65536 ∧ y1 = nI w) {Q : Int32 → Int32 → Mem → Prop} (h : ∀ r ρ, SS ρ → Q r r ρ) : wp_X4_type σ y1 (fun r τ => wp_X5_type τ y1 (fun r' ρ => Q r r' ρ)) := by
  obtain ⟨n, o, H, C, R, gH, g, s1, s2, s3⟩ := id S
  obtain ⟨m, hm, e1, e2, hc⟩ := id s2
  obtain ⟨w, hw, rfl⟩ := hy
  unfold wp_X4_type wp_X3_append wp_X5_type
  simp only [bm]
  rw [e1, clI (by omega), nar_c hw]
  refine ⟨fun q => ?_, fun q => ?_⟩
  · have hm60 : m < 60 := (ltI (by omega) (by decide)).mp q
    refine ⟨inI hm60 (by decide), ?_⟩
    have t1 : up2 σ 88 m (nI w) 87 1 = nI m := by rw [up2_ne _ (by decide)]; exact e1
    rw [t1, nI_1]
    have t2 : up2 (up2 σ 88 m (nI w)) 87 1 (nI (m + 1)) 87 1 = nI (m + 1) := by rw [up2_eq, pk_us]
    rw [t2]
    have t3 : up2 (up2 σ 88 m (nI w)) 87 1 (nI (m + 1)) 93 = σ 93 := by rw [up2_ne _ (by decide), up2_ne _ (by decide)]
    rw [t3, e2, clI (by omega)]
    refine br_f (fun q2 => by have : m = 60 := nI_inj (by omega) (by decide) q2; omega) ⟨inI hm60 (by decide), ?_⟩
    generalize hτ : up2 (up2 σ 88 m (nI w)) 87 1 (nI (m + 1)) = τ at t3
    have t4 : up2 τ 98 m (nI w) 93 7 = nI m := by rw [up2_ne _ (by decide), t3]; exact e2
    rw [t4, nI_1]
    have t5 : up2 (up2 τ 98 m (nI w)) 93 7 (nI (m + 1)) 93 7 = nI (m + 1) := by rw [up2_eq, pk_us]
    rw [t5]
    have other : ∀ k, ¬ k = 87 → ¬ k = 88 → ¬ k = 93 → ¬ k = 98 → up2 (up2 τ 98 m (nI w)) 93 7 (nI (m + 1)) k = σ k := fun k a b c d => by
      rw [up2_ne _ c, up2_ne _ d, ← hτ, up2_ne _ a, up2_ne _ b]
    have o93 : ∀ i, ¬ i = 7 → up2 (up2 τ 98 m (nI w)) 93 7 (nI (m + 1)) 93 i = σ 93 i := fun i hi => by
      rw [up2_eq, pk_un hi, up2_ne _ (by decide), t3]
    have e94 := other 94 (by decide) (by decide) (by decide) (by decide)
    refine h _ _ ⟨n, o, H, ?_, ?_, gH, by rw [e94]; exact g, ?_, ⟨m + 1, by omega, ?_, t5, fun i hi => ?_⟩, ?_⟩
    · rw [e94]; exact C.far (fun k hk => other k (by omega) (by omega) (by omega) (by omega))
    · rw [e94]
      obtain ⟨r1, r2, r3, r4⟩ := R
      exact ⟨r1, e94, by rw [o93 3 (by decide)]; exact r3, fun i hi => by rw [other 96 (by decide) (by decide) (by decide) (by decide)]; exact r4 i hi⟩
    · exact s1.far (by rw [other 84 (by decide) (by decide) (by decide) (by decide)]) (o93 5 (by decide)) (other 97 (by decide) (by decide) (by decide) (by decide)) (fun k a b => other k (by omega) (by omega) (by omega) (by omega))
    · rw [up2_ne _ (by decide), up2_ne _ (by decide), ← hτ]; exact t2
    · have x88 : up2 (up2 τ 98 m (nI w)) 93 7 (nI (m + 1)) 88 i = upd (σ 88) m (nI w) i := by
        rw [up2_ne _ (by decide), up2_ne _ (by decide), ← hτ, up2_ne _ (by decide), up2_eq]
      have x98 : up2 (up2 τ 98 m (nI w)) 93 7 (nI (m + 1)) 98 i = upd (σ 98) m (nI w) i := by
        rw [up2_ne _ (by decide), up2_eq, ← hτ, up2_ne _ (by decide), up2_ne _ (by decide)]
      rw [x88, x98]
      by_cases e : i = m
      · rw [e, pk_us, pk_us]; exact ⟨rfl, w, hw, rfl⟩
      · rw [pk_un e, pk_un e]; exact hc i (by omega)
    · unfold Sp
      rw [o93 8 (by decide), o93 9 (by decide), other 84 (by decide) (by decide) (by decide) (by decide)]
      exact s3
  · have hm60 : m = 60 := by
      rcases Nat.lt_or_ge m 60 with q2 | q2
      · exact absurd ((ltI (a := m) (b := 60) (by omega) (by decide)).mpr q2) q
      · omega
    rw [e2, hm60]
    exact br_t rfl (h _ _ S)
theorem sim_clearText {σ : Mem} (S : SS σ) {Q : Int32 → Int32 → Mem → Prop} (h : ∀ r ρ, SS ρ → Q r r ρ) : wp_X4_clearText σ (fun r τ => wp_X5_clearText τ (fun r' ρ => Q r r' ρ)) := by
  obtain ⟨n, o, H, C, R, gH, g, s1, s2, s3⟩ := id S
  obtain ⟨m, hm, e1, e2, hc⟩ := id s2
  unfold wp_X4_clearText wp_X3_empty wp_X5_clearText
  simp only [bm]
  have t3 : up2 σ 87 1 0 93 = σ 93 := by rw [up2_ne _ (by decide)]
  rw [t3, e1, e2]
  have other : ∀ k, ¬ k = 87 → ¬ k = 93 → up2 (up2 σ 87 1 0) 93 7 0 k = σ k := fun k a b => by rw [up2_ne _ b, up2_ne _ a]
  have o93 : ∀ i, ¬ i = 7 → up2 (up2 σ 87 1 0) 93 7 0 93 i = σ 93 i := fun i hi => by rw [up2_eq, pk_un hi, t3]
  have e94 := other 94 (by decide) (by decide)
  refine h _ _ ⟨n, o, H, ?_, ?_, gH, by rw [e94]; exact g, ?_, ⟨0, by omega, ?_, ?_, fun i hi => absurd hi (Nat.not_lt_zero _)⟩, ?_⟩
  · rw [e94]; exact C.far (fun k hk => other k (by omega) (by omega))
  · rw [e94]
    obtain ⟨r1, r2, r3, r4⟩ := R
    exact ⟨r1, e94, by rw [o93 3 (by decide)]; exact r3, fun i hi => by rw [other 96 (by decide) (by decide)]; exact r4 i hi⟩
  · exact s1.far (by rw [other 84 (by decide) (by decide)]) (o93 5 (by decide)) (other 97 (by decide) (by decide)) (fun k a b => other k (by omega) (by omega))
  · rw [up2_ne _ (by decide), up2_eq, pk_us]; exact nI_0.symm
  · rw [up2_eq, pk_us]; exact nI_0.symm
  · unfold Sp
    rw [o93 8 (by decide), o93 9 (by decide), other 84 (by decide) (by decide)]
    exact s3
