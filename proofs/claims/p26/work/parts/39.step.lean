/-! PURE PART: one thing is done, by the class and by the reference -/
def Stq (z : Z) (s a e : Int32) : Prop :=
  (s = 119 ∧ e = -3 ∧ ∃ p, p < 50 ∧ a = nI p ∧ ¬ zhas z p ∧ gv z = -5) ∨ (s = 112 ∧ e = -4 ∧ ∃ p, p < 50 ∧ a = nI p ∧ ¬ zhas z p) ∨ ((s = 101 ∨ s = 104) ∧ e = -4 ∧ ∃ c, c < 40 ∧ a = nI c ∧ z (23 + c) = 2) ∨ (s = 46 ∧ e = -3 ∧ ∃ d, 1 ≤ d ∧ d ≤ 99 ∧ a = nI d ∧ ¬ z 3 + a ≤ 9999)
def Gon (z : Z) (s a b : Int32) (w : Z) : Prop :=
  (s = 46 ∧ ∃ d, 1 ≤ d ∧ d ≤ 99 ∧ a = nI d ∧ z 3 + a ≤ 9999 ∧ w = zlk (zps z d) 40) ∨
  (s = 101 ∧ ∃ c d, c < 40 ∧ a = nI c ∧ ¬ z (23 + c) = 2 ∧ zcn (zlk (zer z c) 40) 2 40 = zcn z 2 40 + d ∧ w = zlk (zer z c) 40) ∨
  (s = 102 ∧ ∃ p, p < 50 ∧ a = nI p ∧ ((¬ zhas z p ∧ w = z) ∨ ∃ c, c < 40 ∧ z (103 + 4 * p + 0) = nI c ∧ w = zlk (zgb z p c) 40)) ∨
  (s = 104 ∧ ∃ c, c < 40 ∧ a = nI c ∧ ¬ z (23 + c) = 2 ∧ w = zlk (zhd z c) 40) ∨
  (s = 112 ∧ ∃ p, p < 50 ∧ a = nI p ∧ zhas z p ∧ w = zlk (zpi z p (1 - z (103 + 4 * p + 2))) 40) ∨
  (s = 115 ∧ w = zlk (zsta z) 40) ∨
  (s = 119 ∧ ∃ p v, p < 50 ∧ v ≤ 9999 ∧ a = nI p ∧ b = nI v ∧ (zhas z p ∨ ¬ gv z = -5) ∧ w = zlk (zw z p (nI v)) 40)
theorem bitZ {z : Z} (I : Iz z) {p : Nat} (hp : p < 50) : isZ (z (103 + 4 * p + 2)) := by
  by_cases hh : zhas z p
  · obtain ⟨x, -, -, -, -, w⟩ := I.has hp hh
    exact w
  · exact Or.inl (I.nohas hp hh).2.2
theorem isZ_fl {x : Int32} (h : isZ x) : isZ (1 - x) ∧ ¬ x = 1 - x := by
  rcases h with e | e
  · rw [e]; exact ⟨Or.inr (by decide), by decide⟩
  · rw [e]; exact ⟨Or.inl (by decide), by decide⟩
theorem Gon.g {z w : Z} {s a b : Int32} (g : Gz z) (h : Gon z s a b w) : Gz w := by
  obtain ⟨I, F, L, g0, g2⟩ := id g
  rcases h with ⟨-, d, h1, h2, -, -, rfl⟩ | ⟨-, c, d, hc, -, -, -, rfl⟩ | ⟨-, p, hp, -, ⟨-, rfl⟩ | ⟨c, hc, e, rfl⟩⟩ | ⟨-, c, hc, -, h2, rfl⟩ | ⟨-, p, hp, -, hh, rfl⟩ | ⟨-, rfl⟩ | ⟨-, p, v, hp, hv, -, -, hf, rfl⟩
  · refine Gz.lk (z := z) (I.ps d) (L.ps d) ?_ ?_
    · rw [zps_un z (by omega) (by omega)]; exact g0
    · rw [zps_un z (by omega) (by omega)]; exact g2
  · refine Gz.lk (z := z) (I.er hc) ?_ ?_ ?_
    · exact L.cg (fun i h1 h2 => by unfold zer; rw [pk_un (by omega), pk_un (by omega)]) (fun x hx q => by unfold zer; rw [pk_un (by omega), pk_un (by omega)]; exact q)
    · unfold zer; rw [pk_un (by omega), pk_un (by omega)]; exact g0
    · unfold zer; rw [pk_un (by omega), pk_un (by omega)]; exact g2
  · exact g
  · have hz1 : zhas z p := by unfold zhas; rw [e]; exact nI_nm5 (by omega)
    obtain ⟨c2, hc2, ec2, hu, hv, -⟩ := I.has hp hz1
    have : c2 = c := nI_inj (by omega) (by omega) (ec2.symm.trans e)
    subst this
    have k := keep3 (zgb_at (z := z) hp hc (show 0 < 23 by decide)) (zgb_at (z := z) hp hc (show 2 < 23 by decide)) ⟨g0, g2⟩
    exact Gz.lk (z := z) (I.gb hp hc e) (L.gb hp hc hu) k.1 k.2
  · refine Gz.lk (z := z) (I.hd hc) (L.hd I hc h2) ?_ ?_
    · rw [zhd_at I hc (Or.inl rfl)]; exact g0
    · rw [zhd_at I hc (Or.inr rfl)]; exact g2
  · refine Gz.lk (z := z) (I.pi hp hh (isZ_fl (bitZ I hp)).1) L.pi ?_ ?_
    · unfold zpi; rw [pk_un (by omega)]; exact g0
    · unfold zpi; rw [pk_un (by omega)]; exact g2
  · obtain ⟨m, hm, e10, em, b1, -⟩ := zsta_at I
    refine Gz.lk (z := z) I.sta (L.sta I) ?_ ?_
    · rw [b1 0 (by omega) (by omega)]; exact g0
    · rw [b1 2 (by omega) (by omega)]; exact g2
  · have zk := zw_keep I hp hf (v := nI v)
    exact Gz.lk (z := z) (I.w hp (nI_ge0 (by omega)) hf).1 (zk.2.2 L) (by rw [zk.1]; exact g0) (by rw [zk.2.1]; exact g2)
theorem Stq.neg {z : Z} {s a e : Int32} (h : Stq z s a e) : ¬ 0 ≤ e ∧ ¬ e = -5 ∧ ¬ e = 0 := by
  rcases h with ⟨-, rfl, -⟩ | ⟨-, rfl, -⟩ | ⟨-, rfl, -⟩ | ⟨-, rfl, -⟩ <;> exact ⟨by decide, by decide, by decide⟩
theorem isC_n {x : Int32} {w : Nat} (e : x = nI w) (hw : w < 65536) : isC x := by
  rw [e]
  exact (pk_charN hw).1
theorem cdo_ok {σ : Mem} {z : Z} {s a b : Int32} {i : Nat} {P : Int32 → Mem → Prop} (R : Rel σ 0 z) (g : Gz z) (hi : i < 30) (hs : σ 90 i = s) (hT : TH s a b (σ 91 i) (σ 92 i)) (hst : ∀ e, Stq z s a e → P e σ) (hgo : ∀ r τ w, Gon z s a b w → Rel τ 0 w → Fr σ τ → (0 ≤ r ∨ r = -5) → P r τ) : wp_X4_doThing σ (nI i) P := by
  obtain ⟨I, F, L, g0, g2⟩ := id g
  have hin := inI hi (n := 30) (by decide)
  unfold wp_X4_doThing wp_X2_pageOf wp_X2_numberOf wp_X2_kindOf
  rw [clI (by omega), hs]
  rcases hT with ⟨rfl, v, v1, v2, ea, ey⟩ | ⟨rfl, c, hc, ea, ey⟩ | ⟨rfl, p, hp, ea, ex⟩ | ⟨rfl, c, hc, ea, ey⟩ | ⟨rfl, p, hp, ea, ex⟩ | rfl | ⟨rfl, p, v, hp, hv, ea, eb, ex, ey⟩
  · refine ⟨hin, hin, hin, isC_n (w := 46) rfl (by decide), ?_⟩
    refine br_f (by decide) (br_f (by decide) (br_f (by decide) (br_f (by decide) (br_f (by decide) (br_f (by decide) ?_)))))
    rw [ey]
    refine letPass_ok R I rfl (by omega) (fun q => hst _ (Or.inr (Or.inr (Or.inr ⟨rfl, rfl, v, v1, v2, ea, by rw [ea]; exact q⟩)))) (fun q τ Rτ Fτ => hgo _ τ _ (Or.inl ⟨rfl, v, v1, v2, ea, by rw [ea]; exact q, rfl⟩) Rτ Fτ (Or.inl ?_))
    obtain ⟨m, hm, em⟩ := zwt_ge (zlk (zps z v) 40)
    rw [em]; exact nI_ge0 (by omega)
  · refine ⟨hin, hin, hin, isC_n (w := 101) rfl (by decide), ?_⟩
    refine br_t rfl ?_
    rw [ey]
    refine meetError_ok R I rfl hc (fun q => hst _ (Or.inr (Or.inr (Or.inl ⟨Or.inl rfl, rfl, c, hc, ea, q⟩)))) (fun q τ d Rτ Fτ hd => hgo _ τ _ (Or.inr (Or.inl ⟨rfl, c, d, hc, ea, q, hd, rfl⟩)) Rτ Fτ (Or.inl ?_))
    have := zcn_le (zlk (zer z c) 40) 2 40
    exact nI_ge0 (by omega)
  · refine ⟨hin, hin, hin, isC_n (w := 102) rfl (by decide), ?_⟩
    refine br_f (by decide) (br_t rfl ?_)
    rw [ex]
    refine takeBack_ok R I rfl hp (fun q => hgo _ σ z (Or.inr (Or.inr (Or.inl ⟨rfl, p, hp, ea, Or.inl ⟨q, rfl⟩⟩))) R (fun _ _ => rfl) (Or.inr rfl)) (fun c hc e τ Rτ Fτ => hgo _ τ _ (Or.inr (Or.inr (Or.inl ⟨rfl, p, hp, ea, Or.inr ⟨c, hc, e, rfl⟩⟩))) Rτ Fτ (Or.inl ?_))
    obtain ⟨c2, -, -, -, w, -⟩ := I.has hp (show zhas z p by unfold zhas; rw [e]; exact nI_nm5 (by omega))
    exact w
  · refine ⟨hin, hin, hin, isC_n (w := 104) rfl (by decide), ?_⟩
    refine br_f (by decide) (br_f (by decide) (br_t rfl ?_))
    rw [ey]
    exact meetHardError_ok R I rfl hc (fun q => hst _ (Or.inr (Or.inr (Or.inl ⟨Or.inr rfl, rfl, c, hc, ea, q⟩)))) (fun q τ Rτ Fτ => hgo _ τ _ (Or.inr (Or.inr (Or.inr (Or.inl ⟨rfl, c, hc, ea, q, rfl⟩)))) Rτ Fτ (Or.inl (zhv_ge I hc)))
  · refine ⟨hin, hin, hin, isC_n (w := 112) rfl (by decide), ?_⟩
    refine br_f (by decide) (br_f (by decide) (br_f (by decide) (br_t rfl ?_)))
    rw [ex]
    unfold wp_X1_isPinned jn
    rw [clI (by omega), show σ 6 p = _ from R.pin p hp]
    have hz := bitZ I hp
    have hfl := isZ_fl hz
    have fin : ∀ v, v = 1 - z (103 + 4 * p + 2) → wp_X1_changePin σ (nI p) v (fun r13 σ14 => P r13 σ14) := by
      intro v ev
      subst ev
      refine changePin_ok R I rfl hp hfl.1 (fun q => hst _ (Or.inr (Or.inl ⟨rfl, rfl, p, hp, ea, q⟩))) (fun _ q => absurd q hfl.2) (fun q _ τ Rτ Fτ => hgo _ τ _ (Or.inr (Or.inr (Or.inr (Or.inr (Or.inl ⟨rfl, p, hp, ea, q, rfl⟩))))) Rτ Fτ (Or.inl ?_))
      obtain ⟨m, hm, em⟩ := zpn_ge _ ((I.pi hp q hfl.1).lk 40 (Nat.le_refl _))
      rw [em]; exact nI_ge0 (by omega)
    exact ⟨inI hp (by decide), hz, fun q => fin 1 (by rw [q]; decide), fun q => fin 0 (by rw [hz.resolve_left q]; decide)⟩
  · refine ⟨hin, hin, hin, isC_n (w := 115) rfl (by decide), ?_⟩
    refine br_f (by decide) (br_f (by decide) (br_f (by decide) (br_f (by decide) (br_t rfl ?_))))
    refine startAnew_ok R I (fun τ Rτ Fτ => hgo _ τ _ (Or.inr (Or.inr (Or.inr (Or.inr (Or.inr (Or.inl ⟨rfl, rfl⟩)))))) Rτ Fτ (Or.inl ?_))
    have := zcn_le (zlk (zsta z) 40) 0 40
    exact nI_ge0 (by omega)
  · refine ⟨hin, hin, hin, isC_n (w := 119) rfl (by decide), ?_⟩
    refine br_f (by decide) (br_f (by decide) (br_f (by decide) (br_f (by decide) (br_f (by decide) (br_t rfl ?_)))))
    rw [ex, ey]
    refine put_ok R I rfl hp (nI_ge0 (by omega)) (fun q q2 => hst _ (Or.inl ⟨rfl, rfl, p, hp, ea, q, q2⟩)) (fun q τ Rτ Fτ => hgo _ τ _ (Or.inr (Or.inr (Or.inr (Or.inr (Or.inr (Or.inr ⟨rfl, p, v, hp, hv, ea, eb, q, rfl⟩)))))) Rτ Fτ (Or.inl ?_))
    have Iw := I.w hp (nI_ge0 (a := v) (by omega)) q
    have hh := ((zlk_pg Iw.1 hp 40 (Nat.le_refl _)).1).mpr Iw.2
    obtain ⟨c, hc, e, -⟩ := (Iw.1.lk 40 (Nat.le_refl _)).has hp hh
    rw [e]; exact nI_ge0 (by omega)
/-! the reference -/
theorem a3 {i : Nat} : (3 : Int32) * nI i = nI (3 * i) := by
  show nI 3 * nI i = _
  rw [pk_mul]
theorem okC_n {c : Nat} (hc : c < 40) : okC (nI c) := ⟨nI_ge0 (by omega), (leI (b := 39) (by omega) (by omega)).mpr (by omega)⟩
theorem rwhy_s {σ : Mem} {z : Z} {s a e : Int32} {i : Nat} {P : Int32 → Prop} (g : Gz z) (hi : i < 30) (hs : σ 99 (3 * i) = s) (ha : σ 99 (3 * i + 1) = a) (h : Stq z s a e) (hP : P e) : wp_X5_whyNot (sz σ z) (nI i) P := by
  obtain ⟨I, F, L, g0, g2⟩ := id g
  have x99 : sz σ z 99 = σ 99 := sz_ne σ z (by decide)
  unfold wp_X5_whyNot
  rw [x99, a3, nI_1, clI (by omega), clI (by omega), hs, ha]
  refine ⟨inI (by omega) (by decide), inI (by omega) (by decide), ?_⟩
  rcases h with ⟨rfl, rfl, p, hp, rfl, q, q2⟩ | ⟨rfl, rfl, p, hp, rfl, q⟩ | ⟨q1, rfl, c, hc, rfl, q⟩ | ⟨rfl, rfl, d, h1, h2, rfl, q⟩
  · refine br_f (by decide) (br_f (by decide) (br_f (by decide) (br_f (by decide) (br_t rfl ?_))))
    exact whyNotWrite_ok I F rfl hp (fun w => absurd w (fun w => w.elim q (fun w => w q2))) (fun _ _ => hP)
  · refine br_f (by decide) (br_f (by decide) (br_f (by decide) (br_t rfl ?_)))
    refine of_ok (p := p) (j := 0) rfl rfl hp (by decide) ?_
    rw [sz_94, (I.nohas hp q).1]
    exact br_t rfl hP
  · have fin : wp_X5_whyNotError (sz σ z) (nI c) (fun r => P r) := wne_yes (okC_n hc) rfl hc (fun _ => hP) (fun w => absurd (by rw [sz_94]; exact q) w)
    rcases q1 with rfl | rfl
    · exact br_f (by decide) (br_t rfl fin)
    · exact br_f (by decide) (br_f (by decide) (br_t rfl fin))
  · refine br_t rfl ?_
    unfold wp_X5_whyNotPass
    refine w5_yes ((leI (a := 1) (by omega) (by omega)).mpr h1) ((leI (b := 99) (by omega) (by omega)).mpr h2) (br_f n10 ?_)
    rw [sz_94]
    exact br_f q hP
theorem rwhy_g {σ : Mem} {z w : Z} {s a b : Int32} {i : Nat} {P : Int32 → Prop} (g : Gz z) (hi : i < 30) (hs : σ 99 (3 * i) = s) (ha : σ 99 (3 * i + 1) = a) (h : Gon z s a b w) (hP : P 0) : wp_X5_whyNot (sz σ z) (nI i) P := by
  obtain ⟨I, F, L, g0, g2⟩ := id g
  have x99 : sz σ z 99 = σ 99 := sz_ne σ z (by decide)
  unfold wp_X5_whyNot
  rw [x99, a3, nI_1, clI (by omega), clI (by omega), hs, ha]
  refine ⟨inI (by omega) (by decide), inI (by omega) (by decide), ?_⟩
  rcases h with ⟨rfl, d, h1, h2, rfl, q, -⟩ | ⟨rfl, c, d, hc, rfl, q, -, -⟩ | ⟨rfl, p, hp, rfl, -⟩ | ⟨rfl, c, hc, rfl, q, -⟩ | ⟨rfl, p, hp, rfl, q, -⟩ | ⟨rfl, -⟩ | ⟨rfl, p, v, hp, hv, rfl, -, q, -⟩
  · refine br_t rfl ?_
    unfold wp_X5_whyNotPass
    refine w5_yes ((leI (a := 1) (by omega) (by omega)).mpr h1) ((leI (b := 99) (by omega) (by omega)).mpr h2) (br_f n10 ?_)
    rw [sz_94]
    exact br_t q hP
  · exact br_f (by decide) (br_t rfl (wne_yes (okC_n hc) rfl hc (fun w => absurd (by rw [sz_94] at w; exact w) q) (fun _ => hP)))
  · exact br_f (by decide) (br_f (by decide) (br_f (by decide) (br_f (by decide) (br_f (by decide) hP))))
  · exact br_f (by decide) (br_f (by decide) (br_t rfl (wne_yes (okC_n hc) rfl hc (fun w => absurd (by rw [sz_94] at w; exact w) q) (fun _ => hP))))
  · refine br_f (by decide) (br_f (by decide) (br_f (by decide) (br_t rfl ?_)))
    refine of_ok (p := p) (j := 0) rfl rfl hp (by decide) ?_
    rw [sz_94]
    exact br_f q hP
  · exact br_f (by decide) (br_f (by decide) (br_f (by decide) (br_f (by decide) (br_f (by decide) hP))))
  · refine br_f (by decide) (br_f (by decide) (br_f (by decide) (br_f (by decide) (br_t rfl ?_))))
    exact whyNotWrite_ok I F rfl hp (fun _ => hP) (fun w1 w2 => absurd q (fun w => w.elim w1 (fun w => w w2)))
theorem rdo_ok {σ : Mem} {z w : Z} {s a b : Int32} {i : Nat} {P : Mem → Prop} (g : Gz z) (hi : i < 30) (hs : σ 99 (3 * i) = s) (ha : σ 99 (3 * i + 1) = a) (hb : σ 99 (3 * i + 2) = b) (h : Gon z s a b w) (hP : P (sz σ w)) : wp_X5_doThing (sz σ z) (nI i) P := by
  obtain ⟨I, F, L, g0, g2⟩ := id g
  have x99 : sz σ z 99 = σ 99 := sz_ne σ z (by decide)
  have a2 : nI (3 * i) + 2 = nI (3 * i + 2) := by
    show nI (3 * i) + nI 2 = _
    rw [nI_add]
  unfold wp_X5_doThing
  rw [x99, a3, a2, nI_1, clI (by omega), clI (by omega), clI (by omega), hs, ha, hb]
  refine ⟨inI (by omega) (by decide), inI (by omega) (by decide), ?_⟩
  rcases h with ⟨rfl, d, h1, h2, rfl, q, rfl⟩ | ⟨rfl, c, d, hc, rfl, q, hd, rfl⟩ | ⟨rfl, p, hp, rfl, q⟩ | ⟨rfl, c, hc, rfl, q, rfl⟩ | ⟨rfl, p, hp, rfl, q, rfl⟩ | ⟨rfl, rfl⟩ | ⟨rfl, p, v, hp, hv, rfl, rfl, q, rfl⟩
  · exact br_f (by decide) (br_f (by decide) (br_f (by decide) (br_f (by decide) (br_f (by decide) (br_f (by decide) (passNow_ok I rfl (by omega) hP))))))
  · exact br_t rfl (errorNow_ok I rfl hc hd hP)
  · refine br_f (by decide) (br_t rfl ?_)
    rcases q with ⟨q, rfl⟩ | ⟨c, hc, e, rfl⟩
    · exact giveBackNow_ok I rfl hp (fun _ => hP) (fun c hc e => absurd (show zhas w p by unfold zhas; rw [e]; exact nI_nm5 (by omega)) q)
    · refine giveBackNow_ok I rfl hp (fun w => absurd (show zhas z p by unfold zhas; rw [e]; exact nI_nm5 (by omega)) w) (fun c2 hc2 e2 => ?_)
      have : c2 = c := nI_inj (by omega) (by omega) (e2.symm.trans e)
      subst this
      exact hP
  · exact br_f (by decide) (br_f (by decide) (br_t rfl (hardNow_ok I rfl hc hP)))
  · refine br_f (by decide) (br_f (by decide) (br_f (by decide) (br_t rfl ?_)))
    refine of_ok (p := p) (j := 2) rfl rfl hp (by decide) ?_
    rw [sz_94]
    exact pinNow_ok I rfl hp q (isZ_fl (bitZ I hp)).1 hP
  · exact br_f (by decide) (br_f (by decide) (br_f (by decide) (br_f (by decide) (br_t rfl (startNow_ok I hP)))))
  · exact br_f (by decide) (br_f (by decide) (br_f (by decide) (br_f (by decide) (br_f (by decide) (br_t rfl ⟨inI (by omega) (by decide), writeNow_ok I F rfl hp (nI_ge0 (by omega)) q hP⟩)))))
