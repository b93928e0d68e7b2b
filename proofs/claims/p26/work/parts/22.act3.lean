/-! the list: its cells are retired, and no two are one -/
def Lz (z : Z) : Prop := ∃ n, n ≤ 12 ∧ z 10 = nI n ∧ (∀ k, k < n → ∃ c, c < 40 ∧ z (11 + k) = nI c ∧ z (23 + c) = 2) ∧ ∀ j k, j < n → k < n → z (11 + j) = z (11 + k) → j = k
theorem Lz.cg {z w : Z} (h : Lz z) (e : ∀ i, 10 ≤ i → i < 23 → w i = z i) (h2 : ∀ c, c < 40 → z (23 + c) = 2 → w (23 + c) = 2) : Lz w := by
  obtain ⟨n, hn, e10, hl, hd⟩ := h
  refine ⟨n, hn, by rw [e 10 (by omega) (by omega)]; exact e10, fun k hk => ?_, fun j k hj hk he => ?_⟩
  · obtain ⟨c, hc, q1, q2⟩ := hl k hk
    exact ⟨c, hc, by rw [e _ (by omega) (by omega)]; exact q1, h2 c hc q2⟩
  · rw [e _ (by omega) (by omega), e (11 + k) (by omega) (by omega)] at he
    exact hd j k hj hk he
theorem Lz.re {z : Z} (h : Lz z) {c : Nat} (hc : c < 40) (h2 : ¬ z (23 + c) = 2) : Lz (zre z c) := by
  obtain ⟨n, hn, e10, hl, hd⟩ := h
  unfold zre
  by_cases q : 12 ≤ z 10
  · rw [if_pos q]
    refine Lz.cg ⟨n, hn, e10, hl, hd⟩ (fun i h1 h3 => pk_un (by omega)) (fun x hx q2 => ?_)
    by_cases e : x = c
    · rw [e, pk_us]
    · rw [pk_un (by omega)]; exact q2
  · have hn12 : n < 12 := by
      rw [e10] at q
      rcases Nat.lt_or_ge n 12 with w | w
      · exact w
      · exact absurd (nI_le w (by omega)) q
    rw [if_neg q, e10, clI (by omega)]
    have hx : ∀ k, k < n → upd (upd (upd z (23 + c) 2) (11 + n) (nI c)) 10 (nI n + 1) (11 + k) = z (11 + k) := fun k hk => by simp (disch := omega) only [pk_un]
    have hn' : upd (upd (upd z (23 + c) 2) (11 + n) (nI c)) 10 (nI n + 1) (11 + n) = nI c := by rw [pk_un (by omega), pk_us]
    have hh : ∀ x, x < 40 → upd (upd (upd z (23 + c) 2) (11 + n) (nI c)) 10 (nI n + 1) (23 + x) = if x = c then 2 else z (23 + x) := by
      intro x hx
      rw [pk_un (by omega), pk_un (by omega)]
      by_cases e : x = c
      · rw [e, pk_us, if_pos rfl]
      · rw [pk_un (by omega), if_neg e]
    have hnew : ∀ k, k < n → ¬ z (11 + k) = nI c := by
      intro k hk w
      obtain ⟨x, hx40, q1, q2⟩ := hl k hk
      rw [q1] at w
      have := nI_inj (by omega) (by omega) w
      rw [this] at q2
      exact h2 q2
    refine ⟨n + 1, by omega, by rw [pk_us, nI_1], fun k hk => ?_, fun j k hj hk he => ?_⟩
    · by_cases e : k = n
      · rw [e, hn']; exact ⟨c, hc, rfl, by rw [hh c hc, if_pos rfl]⟩
      · rw [hx k (by omega)]
        obtain ⟨x, hx40, q1, q2⟩ := hl k (by omega)
        refine ⟨x, hx40, q1, ?_⟩
        rw [hh x hx40, q2]
        split <;> rfl
    · by_cases e1 : j = n <;> by_cases e2 : k = n
      · rw [e1, e2]
      · rw [e1, hn', hx k (by omega)] at he; exact absurd he.symm (hnew k (by omega))
      · rw [e2, hn', hx j (by omega)] at he; exact absurd he (hnew j (by omega))
      · rw [hx j (by omega), hx k (by omega)] at he; exact hd j k (by omega) (by omega) he
theorem Lz.mv {z : Z} (h : Lz z) {p c' : Nat} (hp : p < 50) (hc' : c' < 40) (h0 : z (23 + c') = 0) : Lz (zmv z p c') := by
  refine h.cg (fun i h1 h2 => by unfold zmv zgi; simp (disch := omega) only [pk_un]) (fun c hc q => ?_)
  have : ¬ c = c' := fun e => by rw [e, h0] at q; exact absurd q (by decide)
  unfold zmv zgi
  simp (disch := omega) only [pk_un]
  exact q
theorem Lz.st {z : Z} (L : Lz z) (I : Iz z) {c : Nat} (hc : c < 40) : Lz (zst z c) := by
  rcases zst_way I hc with e | ⟨hb, e⟩ | ⟨p, c', hp, hc', hb, -, h0, e⟩
  · rw [e]; exact L
  · rw [e]; exact L.re hc hb.1
  · rw [e]
    refine (L.mv hp hc' h0).re hc ?_
    have hne : ¬ c = c' ∨ c = c' := (Classical.em _).symm
    by_cases q : c = c'
    · subst q
      unfold zmv zgi
      simp (disch := omega) only [pk_un, pk_us]
      decide
    · unfold zmv zgi
      simp (disch := omega) only [pk_un]
      exact hb.1
theorem Lz.lk {z : Z} (L : Lz z) (I : Iz z) : ∀ n, n ≤ 40 → Lz (zlk z n)
  | 0, _ => L
  | n + 1, hn => (L.lk I n (by omega)).st (I.lk n (by omega)) (by omega)
/-! hard error -/
theorem Ix.cg {z w : Z} {c : Nat} (h : Ix z c) (e : ∀ i, i < 313 → (i = 1 ∨ (9 ≤ i ∧ i < 63) ∨ (103 ≤ i ∧ i < 303)) → w i = z i) (hs : w 6 = sum5 w 308 ∧ w 7 = sum5 w 303) : Ix w c := by
  obtain ⟨⟨n, hn, e10, hl⟩, a2, a3, a4, a5, a6, a7, a8⟩ := h
  refine ⟨⟨n, hn, by rw [e 10 (by omega) (by omega)]; exact e10, fun k hk => by rw [e (11 + k) (by omega) (by omega)]; exact hl k hk⟩, by rw [e 9 (by omega) (by omega)]; exact a2, by rw [e 1 (by omega) (by omega)]; exact a3, fun p hp => ?_, fun p q hp hq hz he => ?_, fun x hx hxc => ?_, hs, fun q hq => by rw [e _ (by omega) (by omega)]; exact a8 q hq⟩
  · rw [e _ (by omega) (by omega), e (103 + 4 * p + 1) (by omega) (by omega), e (103 + 4 * p + 2) (by omega) (by omega)]
    rcases a4 p hp with q | ⟨x, hx, q1, q2, q3⟩
    · exact Or.inl q
    · exact Or.inr ⟨x, hx, q1, by rw [e _ (by omega) (by omega)]; exact q2, q3⟩
  · unfold zhas at hz
    rw [e _ (by omega) (by omega)] at hz he
    rw [e (103 + 4 * q + 0) (by omega) (by omega)] at he
    exact a5 p q hp hq hz he
  · rw [e _ (by omega) (by omega)]
    rcases a6 x hx hxc with q | q | ⟨q, p, hp, q2⟩
    · exact Or.inl q
    · exact Or.inr (Or.inl q)
    · exact Or.inr (Or.inr ⟨q, p, hp, by rw [e _ (by omega) (by omega)]; exact q2⟩)
/-- the page in a cell is lost -/
def zh1 (z : Z) (p : Nat) : Z := upd (upd (zem z p) (303 + p / 10) (z (303 + p / 10) + 1)) 7 (z 7 + 1)
def zh2 (z : Z) : Z := upd z 5 (z 5 + 1)
theorem Iz.h1 {z : Z} (I : Iz z) {p c : Nat} (hp : p < 50) (hc : c < 40) (hpc : z (103 + 4 * p + 0) = nI c) : Ix (zh2 (zh1 z p)) c := by
  have hx := I.em hp hc hpc
  obtain ⟨e0, e1, e2, ex⟩ := zem_at z hp
  have d : p / 10 < 5 := by omega
  refine hx.cg (fun i hi h => by unfold zh2 zh1; rw [pk_un (by omega), pk_un (by omega), pk_un (by omega)]) ⟨?_, ?_⟩
  · rw [sum5_un (z := zem z p) (b := 308) (fun j hj => by unfold zh2 zh1; rw [pk_un (by omega), pk_un (by omega), pk_un (by omega)])]
    have : zh2 (zh1 z p) 6 = zem z p 6 := by unfold zh2 zh1; rw [pk_un (by omega), pk_un (by omega), pk_un (by omega)]
    rw [this]
    exact hx.2.2.2.2.2.2.1.1
  · have s1 : sum5 (zh2 (zh1 z p)) 303 = sum5 z 303 + 1 := by
      rw [← sum5_up d (1 : Int32)]
      refine sum5_un (fun j hj => ?_)
      unfold zh2 zh1
      rw [pk_un (by omega), pk_un (by omega)]
      by_cases e : j = p / 10
      · rw [e, pk_us, pk_us]
      · rw [pk_un (by omega), pk_un (by omega), ex _ (by omega) (by omega)]
    rw [s1]
    unfold zh2 zh1
    rw [pk_un (by omega), pk_us, I.2.2.2.2.2.2.2]
noncomputable def zhd (z : Z) (c : Nat) : Z := cif (z (23 + c) = 1) (zre (zh2 (zh1 z (zpg z (nI c) 50).toNatClampNeg)) c) (zre (zh2 z) c)
noncomputable def zhv (z : Z) (c : Nat) : Int32 := cif (z (23 + c) = 1) (z (103 + 4 * (zpg z (nI c) 50).toNatClampNeg + 1)) 10000
theorem zh2_ix {z : Z} (I : Iz z) {c : Nat} (hc : c < 40) (h1 : ¬ z (23 + c) = 1) : Ix (zh2 z) c := by
  refine (I.ix hc h1).cg (fun i hi h => by unfold zh2; rw [pk_un (by omega)]) ?_
  rw [sum5_un (z := z) (b := 308) (fun j hj => by unfold zh2; rw [pk_un (by omega)]), sum5_un (z := z) (b := 303) (fun j hj => by unfold zh2; rw [pk_un (by omega)])]
  unfold zh2
  rw [pk_un (by omega), pk_un (by omega)]
  exact I.2.2.2.2.2.2
theorem Iz.hd {z : Z} (I : Iz z) {c : Nat} (hc : c < 40) : Iz (zhd z c) := by
  unfold zhd
  by_cases h1 : z (23 + c) = 1
  · rw [cif_pos h1]
    rcases I.pg hc with ⟨-, w, -⟩ | ⟨p, hp, ep, e2, -, -⟩
    · exact absurd h1 w
    · rw [ep, clI (by omega)]
      exact (I.h1 hp hc e2).re hc
  · rw [cif_neg h1]
    exact (zh2_ix I hc h1).re hc
theorem Lz.hd {z : Z} (L : Lz z) (I : Iz z) {c : Nat} (hc : c < 40) (h2 : ¬ z (23 + c) = 2) : Lz (zhd z c) := by
  unfold zhd
  by_cases h1 : z (23 + c) = 1
  · rw [cif_pos h1]
    rcases I.pg hc with ⟨-, w, -⟩ | ⟨p, hp, ep, e2, -, -⟩
    · exact absurd h1 w
    · rw [ep, clI (by omega)]
      have ex := (zem_at z hp).2.2.2
      have e : ∀ i, 10 ≤ i → i < 103 → zh2 (zh1 z p) i = z i := fun i h1 h2 => by unfold zh2 zh1; rw [pk_un (by omega), pk_un (by omega), pk_un (by omega), ex _ (by omega) (by omega)]
      exact (L.cg (fun i h1 h2 => e i h1 (by omega)) (fun x hx q => by rw [e _ (by omega) (by omega)]; exact q)).re hc (by rw [e _ (by omega) (by omega)]; exact h2)
  · rw [cif_neg h1]
    exact (L.cg (fun i h1 h2 => by unfold zh2; rw [pk_un (by omega)]) (fun x hx q => by unfold zh2; rw [pk_un (by omega)]; exact q)).re hc (by unfold zh2; rw [pk_un (by omega)]; exact h2)
theorem hardNow_ok {σ : Mem} {z : Z} {x : Int32} {P : Int32 → Mem → Prop} {c : Nat} (I : Iz z) (hx : x = nI c) (hc : c < 40) (h : P (zhv z c) (sz σ (zlk (zhd z c) 40))) : wp_X5_hardNow (sz σ z) x P := by
  subst hx
  have Ih := I.hd hc
  unfold wp_X5_hardNow
  refine pageIn_ok ?_
  rw [sz_94]
  simp only [jn, bm]
  have tail : ∀ w v, (∃ n, n ≤ 12 ∧ w 10 = nI n) → zre (zh2 w) c = zhd z c → v = zhv z c → wp_X5_retire (up2 (sz σ w) 94 5 (sz σ w 94 5 + 1)) (nI c) (fun σ7 => wp_X5_look σ7 (fun σ8 => P v σ8)) := by
    intro w v hl hw hv
    rw [up2_sz, sz_94]
    refine rretire_ok rfl hc ?_ ?_
    · obtain ⟨n, hn, e⟩ := hl
      exact ⟨n, hn, by rw [pk_un (by omega)]; exact e⟩
    · have : zre (upd w 5 (w 5 + 1)) c = zhd z c := hw
      rw [this, hv]
      exact look_ok Ih h
  rcases I.pg hc with ⟨e, h1, -⟩ | ⟨p, hp, e, e2, e3, -⟩
  · rw [e]
    refine br_t rfl (br_t rfl (tail z _ I.l10 ?_ ?_))
    · unfold zhd; rw [cif_neg h1]
    · unfold zhv; rw [cif_neg h1]
  · rw [e]
    refine br_f (nI_nm5 (by omega)) (of_ok (p := p) (j := 1) rfl rfl hp (by decide) (br_f (nI_nm5 (by omega)) (empty_ok rfl hp ?_)))
    have hd : nI p / 10 = nI (p / 10) := pk_div (by omega) (by decide) (by decide)
    have a := ix1 (a := 303) (k := p / 10) (n := 313) (by omega) (by decide)
    have ea : ((303 : Int32) + nI (p / 10)).toNatClampNeg = 303 + p / 10 := a.2
    rw [hd, ea, sz_sz, sz_94, sz_94, up2_sz, sz_94, up2_sz]
    have ex := (zem_at z hp).2.2.2
    refine ⟨a.1, a.1, tail _ _ ?_ ?_ ?_⟩
    · obtain ⟨n, hn, q⟩ := I.l10
      exact ⟨n, hn, by rw [pk_un (by omega), pk_un (by omega), ex _ (by omega) (by omega)]; exact q⟩
    · unfold zhd
      rw [cif_pos e3, e, clI (by omega)]
      unfold zh1
      rw [ex _ (by omega) (by omega), pk_un (by omega), ex 7 (by omega) (by omega)]
    · unfold zhv
      rw [cif_pos e3, e, clI (by omega)]
theorem meetHardError_ok {σ : Mem} {z : Z} {x : Int32} {P : Int32 → Mem → Prop} {c : Nat} (R : Rel σ 0 z) (I : Iz z) (hx : x = nI c) (hc : c < 40) (h4 : z (23 + c) = 2 → P (-4) σ) (h : ¬ z (23 + c) = 2 → ∀ τ, Rel τ 0 (zlk (zhd z c) 40) → Fr σ τ → P (zhv z c) τ) : wp_X1_meetHardError σ x P := by
  subst hx
  unfold wp_X1_meetHardError
  obtain ⟨RN, RO⟩ := Rel_iff.mp R
  simp only [bm]
  rw [clI (by omega), show σ 1 c = _ from R.ret c hc, show σ 0 15 = _ from R.hrd]
  refine ⟨inI hc (by decide), fun q => ?_, fun q => h4 (Classical.byContradiction (fun w => q (by rw [if_neg w])))⟩
  have h2 : ¬ z (23 + c) = 2 := fun w => by rw [if_pos w] at q; exact n10 q
  have R1 := RelN_hrd (v := z 5 + 1) RN
  have tail : ∀ (ρ : Mem) (w : Z) (v : Int32), Rel ρ 0 (zh2 w) → Fr σ ρ → (∃ n, n ≤ 12 ∧ zh2 w 10 = nI n) → zre (zh2 w) c = zhd z c → v = zhv z c → wp_X1_retire ρ (nI c) (fun σ4 => wp_X1_retireWhatCan σ4 (fun r5 σ6 => P v σ6)) := by
    intro ρ w v Rρ Fρ hl hw hv
    refine cretire_ok Rρ rfl hc hl (fun τ Rτ Fτ => ?_)
    rw [hw] at Rτ
    rw [hv]
    exact retireWhatCan_ok Rτ (I.hd hc) (fun υ d Rυ Fυ _ => h h2 υ Rυ ((Fρ.tr Fτ).tr Fυ))
  unfold wp_X1_loseWhatLiesIn
  simp only [bm]
  rw [clI (by omega), up2_ne σ (by decide), show σ 3 c = _ from R.own c hc]
  refine ⟨inI hc (by decide), ?_⟩
  rcases I.pg hc with ⟨e, h1, -⟩ | ⟨p, hp, e, e2, e3, e4⟩
  · rw [e]
    refine br_f m5_nge (tail _ z _ ?_ ((Fr.rf σ).up (by decide)) ?_ ?_ ?_)
    · exact Rel_iff.mpr ⟨R1, Own_congr RO (up2_ne _ (by decide)) (fun q hq => by unfold zh2; rw [pk_un (by omega)])⟩
    · obtain ⟨n, hn, w⟩ := I.l10
      exact ⟨n, hn, by unfold zh2; rw [pk_un (by omega)]; exact w⟩
    · unfold zhd; rw [cif_neg h1]
    · unfold zhv; rw [cif_neg h1]
  · rw [e]
    have hd : nI p / 10 = nI (p / 10) := pk_div (by omega) (by decide) (by decide)
    have d5 : p / 10 < 5 := by omega
    rw [hd, clI (by omega), clI (by omega)]
    refine br_t (nI_ge0 (by omega)) ⟨inI d5 (by decide), inI d5 (by decide), ?_⟩
    have el : (up2 σ 0 15 (z 5 + 1)) 8 (p / 10) = z (303 + p / 10) := by rw [up2_ne _ (by decide)]; exact R.los _ d5
    rw [el]
    have R2 := RelN_los (i := p / 10) (v := z (303 + p / 10) + 1) R1 d5
    have RO2 : Own (up2 (up2 σ 0 15 (z 5 + 1)) 8 (p / 10) (z (303 + p / 10) + 1)) (upd (upd z 5 (z 5 + 1)) (303 + p / 10) (z (303 + p / 10) + 1)) := Own_congr RO (by rw [up2_ne _ (by decide), up2_ne _ (by decide)]) (fun q hq => by rw [pk_un (by omega), pk_un (by omega)])
    refine release_ok R2 RO2 rfl hp hc (by rw [pk_un (by omega), pk_un (by omega)]; exact e2) (fun q hq w => ?_) (fun τ RNτ ROτ Fτ h5 => ⟨inI hp (by decide), ?_⟩)
    · rw [pk_un (by omega), pk_un (by omega)] at w
      exact e4 q hq w
    · have hz : zhas z p := by unfold zhas; rw [e2]; exact nI_nm5 (by omega)
      rw [h5, up2_ne _ (by decide), up2_ne _ (by decide), show σ 5 p = _ from R.val p hp hz]
      have RNe := RelN_z7 (v := z 7 + 1) (RelN_em hp RNτ)
      have hzz : upd (zem (upd (upd z 5 (z 5 + 1)) (303 + p / 10) (z (303 + p / 10) + 1)) p) 7 (z 7 + 1) = zh2 (zh1 z p) := by
        have e5 : zh1 z p 5 = z 5 := by unfold zh1; rw [pk_un (by omega), pk_un (by omega), (zem_at z hp).2.2.2 _ (by omega) (by omega)]
        unfold zh2
        rw [e5]
        funext i
        unfold zh1 zem upd
        by_cases i7 : i = 7
        · subst i7; simp
        · by_cases i5 : i = 5
          · subst i5
            simp only [if_neg i7]
            rw [if_neg (by omega), if_neg (by omega), if_neg (by omega), if_neg (by omega), if_neg (by omega)]
            simp only [if_true]
          · simp only [if_neg i7, if_neg i5]
            by_cases i3 : i = 303 + p / 10
            · rw [if_neg (by omega), if_neg (by omega), if_neg (by omega), if_neg (by omega), if_pos i3, if_pos i3]
            · simp only [if_neg i3]
      rw [hzz] at RNe
      refine tail τ (zh1 z p) _ (Rel_iff.mpr ⟨RNe, Own_congr ROτ rfl (fun q hq => ?_)⟩) (((Fr.rf σ).up (by decide)).up (by decide) |>.tr Fτ) ?_ ?_ ?_
      · unfold zh2 zh1
        rw [pk_un (by omega), pk_un (by omega), pk_un (by omega), (zem_at z hp).1 q hq]
        by_cases x : q = p
        · rw [if_pos x, x, pk_us]
        · rw [if_neg x, pk_un (by omega), pk_un (by omega), pk_un (by omega)]
      · obtain ⟨n, hn, w⟩ := I.l10
        exact ⟨n, hn, by unfold zh2 zh1; rw [pk_un (by omega), pk_un (by omega), pk_un (by omega), (zem_at z hp).2.2.2 _ (by omega) (by omega)]; exact w⟩
      · unfold zhd; rw [cif_pos e3, e, clI (by omega)]
      · unfold zhv; rw [cif_pos e3, e, clI (by omega)]
