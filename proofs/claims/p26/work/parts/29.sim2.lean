theorem keep3 {z w : Z} (e0 : w 0 = z 0) (e2 : w 2 = z 2) (h : 0 ≤ z 0 ∧ 0 ≤ z 2) : 0 ≤ w 0 ∧ 0 ≤ w 2 := ⟨by rw [e0]; exact h.1, by rw [e2]; exact h.2⟩
theorem zgb_at {z : Z} {p c : Nat} (hp : p < 50) (hc : c < 40) {i : Nat} (hi : i < 23) : zgb z p c i = z i := by
  rw [zgb_eq z hp hc, pk_un (by omega), (zem_at z hp).2.2.2 i (by omega) (by omega)]
theorem Lz.gb {z : Z} (L : Lz z) {p c : Nat} (hp : p < 50) (hc : c < 40) (h1 : z (23 + c) = 1) : Lz (zgb z p c) := by
  refine L.cg (fun i a b => zgb_at hp hc b) (fun x hx q => ?_)
  have : ¬ x = c := fun e => by rw [e, h1] at q; exact absurd q (by decide)
  rw [zgb_eq z hp hc, pk_un (by omega), (zem_at z hp).2.2.2 _ (by omega) (by omega)]
  exact q
theorem ge_ne {x : Int32} (h : 0 ≤ x) : ¬ x = -5 := fun e => by rw [e] at h; exact m5 h
theorem sim_giveBack {σ : Mem} (S : SS σ) (y1 y2 : Int32) {Q : Int32 → Int32 → Mem → Prop} (h : ∀ r ρ, SS ρ → Q r r ρ) : wp_X4_giveBack σ y1 y2 (fun r τ => wp_X5_giveBack τ y1 y2 (fun r' ρ => Q r r' ρ)) := by
  obtain ⟨n, o, H, C, R, gH, g, s1, s2, s3⟩ := id S
  generalize hz : σ 94 = z at C R g
  obtain ⟨I, F, L, g0, g2⟩ := id g
  unfold wp_X4_giveBack wp_X5_giveBack
  by_cases hp : okP y1 y2
  · obtain ⟨a, b, ha, hb, rfl, rfl⟩ := okP_num hp
    have hpp : 10 * a + b < 50 := by omega
    refine pg4_yes hp (br_f n10 (before_ok C.2.2.1 I (fun τ R12 hτ => pageIndex_ok rfl rfl ?_)))
    have R0 : Rel τ 0 z := C.2.2.1.far (fun k _ hk => hτ k (by omega))
    refine takeBack_ok R0 I rfl hpp (fun hn => act_no C hτ m5 (fun υ Cυ fυ => ?_)) (fun c hc ec ρ Rρ Fρ => ?_)
    · refine pg5_yes hp (br_f n10 ?_)
      rw [num10]
      have Rυ := R.cr fυ
      rw [← Rυ.asz]
      refine of_ok (p := 10 * a + b) (j := 1) rfl rfl hpp (by decide) ?_
      rw [sz_94, (I.nohas hpp hn).2.1]
      refine br_t rfl (h _ _ ?_)
      rw [Rυ.asz]
      exact SS.mk' Cυ fυ Rυ (RR.rf υ) gH g s1 s2 s3
    · have hz1 : zhas z (10 * a + b) := by unfold zhas; rw [ec]; exact nI_nm5 (by omega)
      obtain ⟨c2, hc2, ec2, hu, hv, -⟩ := I.has hpp hz1
      have : c2 = c := nI_inj (by omega) (by omega) (ec2.symm.trans ec)
      subst this
      refine act_yes C hτ R12 I Rρ Fρ hv (fun υ o' Cυ fυ => ?_)
      refine pg5_yes hp (br_f n10 ?_)
      rw [num10]
      have Rυ := R.cr fυ
      rw [← Rυ.asz]
      refine of_ok (p := 10 * a + b) (j := 1) rfl rfl hpp (by decide) ?_
      rw [sz_94]
      refine br_f (ge_ne hv) ?_
      rw [Rυ.asz]
      refine record_ok Rυ (fun ω Rω fω => ?_)
      rw [← Rω.asz]
      refine giveBackNow_ok I rfl hpp (fun w => absurd hz1 w) (fun c3 hc3 ec3 => h _ _ ?_)
      have : c3 = c2 := nI_inj (by omega) (by omega) (ec3.symm.trans ec)
      subst this
      have k := keep3 (zgb_at (z := z) hpp hc3 (show 0 < 23 by decide)) (zgb_at (z := z) hpp hc3 (show 2 < 23 by decide)) ⟨g0, g2⟩
      exact SS.mk' Cυ fυ Rω.set (fω.sz _) (pushG gH R.1 g) (Gz.lk (z := z) (I.gb hpp hc3 ec3) (L.gb hpp hc3 hu) k.1 k.2) s1 s2 s3
  · exact pg4_no hp (br_t rfl (pg5_no hp (br_t rfl (h _ _ S))))
theorem zpn_ge (z : Z) (I : Iz z) : ∃ m, m ≤ 50 ∧ zpn z 0 50 = nI m := by
  have key : ∀ n, n ≤ 50 → ∃ m, m ≤ n ∧ zpn z 0 n = nI m := by
    intro n
    induction n with
    | zero => intro _; exact ⟨0, Nat.le_refl _, nI_0.symm⟩
    | succ n ih =>
      intro hn
      obtain ⟨m, hm, e⟩ := ih (by omega)
      have hz : isZ (z (103 + 4 * (0 + n) + 2)) := by
        by_cases hh : zhas z (0 + n)
        · obtain ⟨c, -, -, -, -, w⟩ := I.has (by omega) hh
          exact w
        · exact Or.inl (I.nohas (by omega) hh).2.2
      unfold zpn
      rcases hz with w | w
      · exact ⟨m, by omega, by rw [w, e, Int32.add_zero]⟩
      · exact ⟨m + 1, by omega, by rw [w, e, nI_1]⟩
  exact key 50 (Nat.le_refl _)
theorem Lz.pi {z : Z} (L : Lz z) {p : Nat} {b : Int32} : Lz (zpi z p b) := L.cg (fun i h1 h2 => by unfold zpi; rw [pk_un (by omega)]) (fun c hc q => by unfold zpi; rw [pk_un (by omega)]; exact q)
theorem pin_tail {σ : Mem} {z : Z} {p : Nat} {v : Int32} {P : Int32 → Mem → Prop} (I : Iz z) (hp : p < 50) (h4 : ¬ zhas z p → P (-4) (sz σ z)) (h5 : zhas z p → z (103 + 4 * p + 2) = v → P (-5) (sz σ z)) (h : zhas z p → ¬ z (103 + 4 * p + 2) = v → wp_X5_record (sz σ z) (fun σ8 => wp_X5_pinNow σ8 (nI p) v (fun σ9 => wp_X5_pinned σ9 0 50 (fun r10 => P r10 σ9)))) :
    wp_X5_of (sz σ z) (nI p) 0 (fun r4 => jn (A := Prop) (wp_X5_of (sz σ z) (nI p) 0 (fun r6 => ((r6 = (-5) → P (-4) (sz σ z)) ∧ (¬ r6 = (-5) → P (-5) (sz σ z)))))
        (fun J5 => ((r4 = (-5) → J5) ∧ (¬ r4 = (-5) → wp_X5_of (sz σ z) (nI p) 2 (fun r7 => ((r7 = v → J5) ∧ (¬ r7 = v → wp_X5_record (sz σ z) (fun σ8 => wp_X5_pinNow σ8 (nI p) v (fun σ9 => wp_X5_pinned σ9 0 50 (fun r10 => P r10 σ9)))))))))) := by
  refine of_ok (p := p) (j := 0) rfl rfl hp (by decide) ?_
  rw [sz_94]
  unfold jn
  refine ⟨fun q => of_ok (p := p) (j := 0) rfl rfl hp (by decide) ?_, fun q => of_ok (p := p) (j := 2) rfl rfl hp (by decide) ?_⟩
  · rw [sz_94]
    exact br_t q (h4 (fun w => w q))
  · rw [sz_94]
    refine ⟨fun q2 => of_ok (p := p) (j := 0) rfl rfl hp (by decide) ?_, fun q2 => h q q2⟩
    rw [sz_94]
    exact br_f q (h5 q q2)
theorem sim_pin {σ : Mem} (S : SS σ) (y1 y2 y3 : Int32) (hb3 : isZ y3) {Q : Int32 → Int32 → Mem → Prop} (h : ∀ r ρ, SS ρ → Q r r ρ) : wp_X4_pin σ y1 y2 y3 (fun r τ => wp_X5_pin τ y1 y2 y3 (fun r' ρ => Q r r' ρ)) := by
  obtain ⟨n, o, H, C, R, gH, g, s1, s2, s3⟩ := id S
  generalize hz : σ 94 = z at C R g
  obtain ⟨I, F, L, g0, g2⟩ := id g
  unfold wp_X4_pin wp_X5_pin
  by_cases hp : okP y1 y2
  · obtain ⟨a, b, ha, hb, rfl, rfl⟩ := okP_num hp
    have hpp : 10 * a + b < 50 := by omega
    refine pg4_yes hp (br_f n10 (before_ok C.2.2.1 I (fun τ R12 hτ => pageIndex_ok rfl rfl ?_)))
    have R0 : Rel τ 0 z := C.2.2.1.far (fun k _ hk => hτ k (by omega))
    -- the reference's choice of the bit
    have sel : ∀ (G : Int32 → Prop), G y3 → jn (A := Int32 → Prop) G (fun J3 => ((y3 = 0 → J3 0) ∧ (¬ y3 = 0 → J3 1))) := by
      intro G hG
      unfold jn
      rcases hb3 with e | e
      · rw [e] at hG ⊢; exact br_t rfl hG
      · rw [e] at hG ⊢; exact br_f n10 hG
    refine changePin_ok R0 I rfl hpp hb3 (fun hn => act_no C hτ m4 (fun υ Cυ fυ => ?_)) (fun hh he => act_no C hτ m5 (fun υ Cυ fυ => ?_)) (fun hh he ρ Rρ Fρ => ?_)
    · refine pg5_yes hp (br_f n10 (sel _ ?_))
      have Rυ := R.cr fυ
      have SSυ := SS.mk' Cυ fυ Rυ (RR.rf υ) gH g s1 s2 s3
      rw [num10]
      rw [← Rυ.asz] at SSυ ⊢
      exact pin_tail I hpp (fun _ => h _ _ SSυ) (fun w => absurd w hn) (fun w => absurd w hn)
    · refine pg5_yes hp (br_f n10 (sel _ ?_))
      have Rυ := R.cr fυ
      have SSυ := SS.mk' Cυ fυ Rυ (RR.rf υ) gH g s1 s2 s3
      rw [num10]
      rw [← Rυ.asz] at SSυ ⊢
      exact pin_tail I hpp (fun w => absurd hh w) (fun _ _ => h _ _ SSυ) (fun _ w => absurd he w)
    · have Ip := I.pi hpp hh hb3
      obtain ⟨m, hm, em⟩ := zpn_ge _ (Ip.lk 40 (Nat.le_refl _))
      refine act_yes C hτ R12 I Rρ Fρ (by rw [em]; exact nI_ge0 (by omega)) (fun υ o' Cυ fυ => ?_)
      refine pg5_yes hp (br_f n10 (sel _ ?_))
      have Rυ := R.cr fυ
      rw [num10, ← Rυ.asz]
      refine pin_tail I hpp (fun w => absurd hh w) (fun _ w => absurd w he) (fun _ _ => ?_)
      rw [Rυ.asz]
      refine record_ok Rυ (fun ω Rω fω => ?_)
      rw [← Rω.asz]
      refine pinNow_ok I rfl hpp hh hb3 (pinned_ok (f := 0) (n := 50) nI_0.symm rfl (by decide) ?_)
      rw [sz_94]
      refine h _ _ (SS.mk' Cυ fυ Rω.set (fω.sz _) (pushG gH R.1 g) (Gz.lk (z := z) Ip L.pi ?_ ?_) s1 s2 s3)
      · unfold zpi; rw [pk_un (by omega)]; exact g0
      · unfold zpi; rw [pk_un (by omega)]; exact g2
  · exact pg4_no hp (br_t rfl (pg5_no hp (br_t rfl (h _ _ S))))
theorem sim_error {σ : Mem} (S : SS σ) (y1 : Int32) {Q : Int32 → Int32 → Mem → Prop} (h : ∀ r ρ, SS ρ → Q r r ρ) : wp_X4_error σ y1 (fun r τ => wp_X5_error τ y1 (fun r' ρ => Q r r' ρ)) := by
  obtain ⟨n, o, H, C, R, gH, g, s1, s2, s3⟩ := id S
  generalize hz : σ 94 = z at C R g
  obtain ⟨I, F, L, g0, g2⟩ := id g
  unfold wp_X4_error wp_X5_error
  by_cases hp : okC y1
  · obtain ⟨c, hc, rfl⟩ := okC_num hp
    refine ce4_yes hp (br_f n10 (before_ok C.2.2.1 I (fun τ R12 hτ => ?_)))
    have R0 : Rel τ 0 z := C.2.2.1.far (fun k _ hk => hτ k (by omega))
    refine meetError_ok R0 I rfl hc (fun h2 => act_no C hτ m4 (fun υ Cυ fυ => ?_)) (fun h2 ρ d Rρ Fρ hd => ?_)
    · have Rυ := R.cr fυ
      exact wne_yes hp rfl hc (fun _ => br_f m4 (h _ _ (SS.mk' Cυ fυ Rυ (RR.rf υ) gH g s1 s2 s3))) (fun w => absurd (by rw [Rυ.2.1]; exact h2) w)
    · have hd40 : d < 2 ^ 31 := by have := zcn_le (zlk (zer z c) 40) 2 40; omega
      refine act_yes C hτ R12 I Rρ Fρ (nI_ge0 hd40) (fun υ o' Cυ fυ => ?_)
      have Rυ := R.cr fυ
      refine wne_yes hp rfl hc (fun w => absurd (by rw [← Rυ.2.1]; exact w) h2) (fun _ => br_t (by decide) (record_ok Rυ (fun ω Rω fω => ?_)))
      rw [← Rω.asz]
      refine errorNow_ok I rfl hc hd (h _ _ (SS.mk' Cυ fυ Rω.set (fω.sz _) (pushG gH R.1 g) (Gz.lk (z := z) (I.er hc) ?_ ?_ ?_) s1 s2 s3))
      · exact L.cg (fun i h1 h2 => by unfold zer; rw [pk_un (by omega), pk_un (by omega)]) (fun x hx q => by unfold zer; rw [pk_un (by omega), pk_un (by omega)]; exact q)
      · unfold zer; rw [pk_un (by omega), pk_un (by omega)]; exact g0
      · unfold zer; rw [pk_un (by omega), pk_un (by omega)]; exact g2
  · exact ce4_no hp (br_t rfl (wne_no hp (br_f m1 (h _ _ S))))
theorem zhd_at {z : Z} (I : Iz z) {c i : Nat} (hc : c < 40) (hi : i = 0 ∨ i = 2) : zhd z c i = z i := by
  have l2 : ∀ w : Z, (∃ n, n ≤ 12 ∧ w 10 = nI n) → ∃ n, n ≤ 12 ∧ zh2 w 10 = nI n := fun w ⟨n, hn, e⟩ => ⟨n, hn, by unfold zh2; rw [pk_un (by omega)]; exact e⟩
  unfold zhd
  by_cases h1 : z (23 + c) = 1
  · rw [cif_pos h1]
    rcases I.pg hc with ⟨-, w, -⟩ | ⟨p, hp, ep, e2, -, -⟩
    · exact absurd h1 w
    · have ex := (zem_at z hp).2.2.2
      rw [ep, clI (by omega), zre_un _ hc (l2 _ ?_) (by omega)]
      · unfold zh2 zh1; rw [pk_un (by omega), pk_un (by omega), pk_un (by omega), ex _ (by omega) (by omega)]
      · obtain ⟨n, hn, e⟩ := I.l10
        exact ⟨n, hn, by unfold zh1; rw [pk_un (by omega), pk_un (by omega), ex _ (by omega) (by omega)]; exact e⟩
  · rw [cif_neg h1, zre_un _ hc (l2 _ I.l10) (by omega)]
    unfold zh2; rw [pk_un (by omega)]
theorem zhv_ge {z : Z} (I : Iz z) {c : Nat} (hc : c < 40) : 0 ≤ zhv z c := by
  unfold zhv
  by_cases h1 : z (23 + c) = 1
  · rw [cif_pos h1]
    rcases I.pg hc with ⟨-, w, -⟩ | ⟨p, hp, ep, e2, -, -⟩
    · exact absurd h1 w
    · rw [ep, clI (by omega)]
      obtain ⟨x, -, -, -, q, -⟩ := I.has hp (show zhas z p by unfold zhas; rw [e2]; exact nI_nm5 (by omega))
      exact q
  · rw [cif_neg h1]; decide
theorem sim_hardError {σ : Mem} (S : SS σ) (y1 : Int32) {Q : Int32 → Int32 → Mem → Prop} (h : ∀ r ρ, SS ρ → Q r r ρ) : wp_X4_hardError σ y1 (fun r τ => wp_X5_hardError τ y1 (fun r' ρ => Q r r' ρ)) := by
  obtain ⟨n, o, H, C, R, gH, g, s1, s2, s3⟩ := id S
  generalize hz : σ 94 = z at C R g
  obtain ⟨I, F, L, g0, g2⟩ := id g
  unfold wp_X4_hardError wp_X5_hardError
  by_cases hp : okC y1
  · obtain ⟨c, hc, rfl⟩ := okC_num hp
    refine ce4_yes hp (br_f n10 (before_ok C.2.2.1 I (fun τ R12 hτ => ?_)))
    have R0 : Rel τ 0 z := C.2.2.1.far (fun k _ hk => hτ k (by omega))
    refine meetHardError_ok R0 I rfl hc (fun h2 => act_no C hτ m4 (fun υ Cυ fυ => ?_)) (fun h2 ρ Rρ Fρ => ?_)
    · have Rυ := R.cr fυ
      exact wne_yes hp rfl hc (fun _ => br_f m4 (h _ _ (SS.mk' Cυ fυ Rυ (RR.rf υ) gH g s1 s2 s3))) (fun w => absurd (by rw [Rυ.2.1]; exact h2) w)
    · refine act_yes C hτ R12 I Rρ Fρ (zhv_ge I hc) (fun υ o' Cυ fυ => ?_)
      have Rυ := R.cr fυ
      refine wne_yes hp rfl hc (fun w => absurd (by rw [← Rυ.2.1]; exact w) h2) (fun _ => br_t (by decide) (record_ok Rυ (fun ω Rω fω => ?_)))
      rw [← Rω.asz]
      refine hardNow_ok I rfl hc (h _ _ (SS.mk' Cυ fυ Rω.set (fω.sz _) (pushG gH R.1 g) (Gz.lk (z := z) (I.hd hc) (L.hd I hc h2) ?_ ?_) s1 s2 s3))
      · rw [zhd_at I hc (Or.inl rfl)]; exact g0
      · rw [zhd_at I hc (Or.inr rfl)]; exact g2
  · exact ce4_no hp (br_t rfl (wne_no hp (br_f m1 (h _ _ S))))
theorem sim_start {σ : Mem} (S : SS σ) {Q : Int32 → Int32 → Mem → Prop} (h : ∀ r ρ, SS ρ → Q r r ρ) : wp_X4_start σ (fun r τ => wp_X5_start τ (fun r' ρ => Q r r' ρ)) := by
  obtain ⟨n, o, H, C, R, gH, g, s1, s2, s3⟩ := id S
  generalize hz : σ 94 = z at C R g
  obtain ⟨I, F, L, g0, g2⟩ := id g
  unfold wp_X4_start wp_X5_start
  refine before_ok C.2.2.1 I (fun τ R12 hτ => ?_)
  have R0 : Rel τ 0 z := C.2.2.1.far (fun k _ hk => hτ k (by omega))
  obtain ⟨m, hm, e10, em, b1, -⟩ := zsta_at I
  refine startAnew_ok R0 I (fun ρ Rρ Fρ => act_yes C hτ R12 I Rρ Fρ (nI_ge0 (by have := zcn_le (zlk (zsta z) 40) 0 40; omega)) (fun υ o' Cυ fυ => ?_))
  have Rυ := R.cr fυ
  refine record_ok Rυ (fun ω Rω fω => ?_)
  rw [← Rω.asz]
  refine startNow_ok I (cells_ok ?_)
  rw [sz_94]
  refine h _ _ (SS.mk' Cυ fυ Rω.set (fω.sz _) (pushG gH R.1 g) (Gz.lk (z := z) I.sta (L.sta I) ?_ ?_) s1 s2 s3)
  · rw [b1 0 (by omega) (by omega)]; exact g0
  · rw [b1 2 (by omega) (by omega)]; exact g2
theorem zwt_ge (z : Z) : ∃ m, m ≤ 40 ∧ zwt z 40 = nI m := by
  have key : ∀ n, ∃ m, m ≤ n ∧ zwt z n = nI m := by
    intro n
    induction n with
    | zero => exact ⟨0, Nat.le_refl _, nI_0.symm⟩
    | succ n ih =>
      obtain ⟨m, hm, e⟩ := ih
      unfold zwt
      by_cases q : bad z n
      · rw [cif_pos q]; exact ⟨m + 1, by omega, by rw [e, nI_1]⟩
      · rw [cif_neg q]; exact ⟨m, by omega, by rw [e, Int32.add_zero]⟩
  exact key 40
theorem sim_pass {σ : Mem} (S : SS σ) (y1 : Int32) {Q : Int32 → Int32 → Mem → Prop} (h : ∀ r ρ, SS ρ → Q r r ρ) : wp_X4_pass σ y1 (fun r τ => wp_X5_pass τ y1 (fun r' ρ => Q r r' ρ)) := by
  obtain ⟨n, o, H, C, R, gH, g, s1, s2, s3⟩ := id S
  generalize hz : σ 94 = z at C R g
  obtain ⟨I, F, L, g0, g2⟩ := id g
  unfold wp_X4_pass wp_X5_pass wp_X5_whyNotPass
  by_cases hv : 1 ≤ y1 ∧ y1 ≤ 99
  · obtain ⟨d, hd, rfl⟩ : ∃ d, d ≤ 99 ∧ y1 = nI d := nI_of2 (M := 99) (n := 99) (by decide) (fun q => by
      have h1 := hv.1
      rw [Int32.lt_iff_toInt_lt] at q
      rw [Int32.le_iff_toInt_le] at h1
      have e0 : (0 : Int32).toInt = 0 := by decide
      have e1 : (1 : Int32).toInt = 1 := by decide
      omega) hv.2
    refine w4_yes hv.1 hv.2 (br_f n10 (before_ok C.2.2.1 I (fun τ R12 hτ => ?_)))
    have R0 : Rel τ 0 z := C.2.2.1.far (fun k _ hk => hτ k (by omega))
    refine letPass_ok R0 I rfl (by omega) (fun hn => act_no C hτ m3 (fun υ Cυ fυ => ?_)) (fun hn ρ Rρ Fρ => ?_)
    · have Rυ := R.cr fυ
      refine w5_yes hv.1 hv.2 (br_f n10 ?_)
      rw [Rυ.2.1]
      exact br_f hn (br_f m3 (h _ _ (SS.mk' Cυ fυ Rυ (RR.rf υ) gH g s1 s2 s3)))
    · obtain ⟨m, hm, em⟩ := zwt_ge (zlk (zps z d) 40)
      refine act_yes C hτ R12 I Rρ Fρ (by rw [em]; exact nI_ge0 (by omega)) (fun υ o' Cυ fυ => ?_)
      have Rυ := R.cr fυ
      refine w5_yes hv.1 hv.2 (br_f n10 ?_)
      rw [Rυ.2.1]
      refine br_t hn (br_t (by decide) (record_ok Rυ (fun ω Rω fω => ?_)))
      rw [← Rω.asz]
      refine passNow_ok I rfl (by omega) (h _ _ (SS.mk' Cυ fυ Rω.set (fω.sz _) (pushG gH R.1 g) (Gz.lk (z := z) (I.ps d) (L.ps d) ?_ ?_) s1 s2 s3))
      · rw [zps_un z (by omega) (by omega)]; exact g0
      · rw [zps_un z (by omega) (by omega)]; exact g2
  · exact w4_no hv (br_t rfl (w5_no hv (br_t rfl (br_f (by decide) (h _ _ S)))))
