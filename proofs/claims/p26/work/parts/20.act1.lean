/-! PURE PART: write, give back, pin, error, hard error: the reference and the class -/
theorem zre_un (z : Z) {c i : Nat} (hc : c < 40) (hl : ∃ n, n ≤ 12 ∧ z 10 = nI n) (hi : ¬ (10 ≤ i ∧ i < 63)) : zre z c i = z i := by
  unfold zre
  obtain ⟨n, hn, e10⟩ := hl
  by_cases q : 12 ≤ z 10
  · rw [if_pos q, pk_un (by omega)]
  · have hn12 : n < 12 := by
      rw [e10] at q
      rcases Nat.lt_or_ge n 12 with w | w
      · exact w
      · exact absurd (nI_le w (by omega)) q
    rw [if_neg q, e10, clI (by omega), pk_un (by omega), pk_un (by omega), pk_un (by omega)]
theorem Iz.l10 {z : Z} (h : Iz z) : ∃ n, n ≤ 12 ∧ z 10 = nI n := by
  obtain ⟨n, hn, q, -⟩ := h.1
  exact ⟨n, hn, q⟩
theorem zmv_l10 {z : Z} (h : Iz z) {p c' : Nat} (hp : p < 50) (hc' : c' < 40) : ∃ n, n ≤ 12 ∧ zmv z p c' 10 = nI n := by
  obtain ⟨n, hn, q⟩ := h.l10
  refine ⟨n, hn, ?_⟩
  unfold zmv zgi
  simp (disch := omega) only [pk_un]
  exact q
/-- what one look at a cell can do -/
theorem zst_way {z : Z} (I : Iz z) {c : Nat} (hc : c < 40) : zst z c = z ∨ (bad z c ∧ zst z c = zre z c) ∨ ∃ p c', p < 50 ∧ c' < 40 ∧ bad z c ∧ z (103 + 4 * p + 0) = nI c ∧ z (23 + c') = 0 ∧ zst z c = zre (zmv z p c') c := by
  by_cases hb : bad z c
  · by_cases h1 : z (23 + c) = 1
    · rcases I.pg hc with ⟨-, w, -⟩ | ⟨p, hp, ep, e2, -, -⟩
      · exact absurd h1 w
      · by_cases h2 : z (103 + 4 * p + 2) = 0
        · rcases gv_cases z with hg | ⟨c', hc', hg, h0, -⟩
          · exact Or.inl (zst_wait hb h1 hp ep (Or.inr hg))
          · exact Or.inr (Or.inr ⟨p, c', hp, hc', hb, e2, h0, zst_mv hb h1 hp ep h2 hc' hg⟩)
        · exact Or.inl (zst_wait hb h1 hp ep (Or.inl h2))
    · exact Or.inr (Or.inl ⟨hb, zst_free hb h1⟩)
  · exact Or.inl (zst_no hb)
theorem zst_un {z : Z} (I : Iz z) {c i : Nat} (hc : c < 40) (hi : i < 6 ∨ i = 7 ∨ i = 8 ∨ (63 ≤ i ∧ i < 103) ∨ (303 ≤ i ∧ i < 308)) : zst z c i = z i := by
  rcases zst_way I hc with e | ⟨-, e⟩ | ⟨p, c', hp, hc', -, -, -, e⟩
  · rw [e]
  · rw [e, zre_un z hc I.l10 (by omega)]
  · rw [e, zre_un _ hc (zmv_l10 I hp hc') (by omega)]
    unfold zmv zgi
    simp (disch := omega) only [pk_un]
theorem zlk_un {z : Z} (I : Iz z) {i : Nat} (hi : i < 6 ∨ i = 7 ∨ i = 8 ∨ (63 ≤ i ∧ i < 103) ∨ (303 ≤ i ∧ i < 308)) : ∀ n, n ≤ 40 → zlk z n i = z i
  | 0, _ => rfl
  | n + 1, hn => (zst_un (I.lk n (by omega)) (by omega) hi).trans (zlk_un I hi n (by omega))
/-- a look takes no page's cell away, nor its value or pin -/
theorem zst_pg {z : Z} (I : Iz z) {c q : Nat} (hc : c < 40) (hq : q < 50) : (zhas (zst z c) q ↔ zhas z q) ∧ zst z c (103 + 4 * q + 1) = z (103 + 4 * q + 1) ∧ zst z c (103 + 4 * q + 2) = z (103 + 4 * q + 2) := by
  rcases zst_way I hc with e | ⟨-, e⟩ | ⟨p, c', hp, hc', -, h2, -, e⟩
  · rw [e]; exact ⟨Iff.rfl, rfl, rfl⟩
  · rw [e]; unfold zhas
    rw [zre_un z hc I.l10 (by omega), zre_un z hc I.l10 (by omega), zre_un z hc I.l10 (by omega)]
    exact ⟨Iff.rfl, rfl, rfl⟩
  · rw [e]; unfold zhas
    have l := zmv_l10 I hp hc'
    rw [zre_un _ hc l (by omega), zre_un _ hc l (by omega), zre_un _ hc l (by omega)]
    refine ⟨?_, ?_, ?_⟩
    · unfold zmv zgi
      by_cases x : q = p
      · subst x
        simp (disch := omega) only [pk_un, pk_us]
        rw [h2]
        exact ⟨fun _ => nI_nm5 (by omega), fun _ => nI_nm5 (by omega)⟩
      · simp (disch := omega) only [pk_un]
    · unfold zmv zgi; simp (disch := omega) only [pk_un]
    · unfold zmv zgi; simp (disch := omega) only [pk_un]
theorem zlk_pg {z : Z} (I : Iz z) {q : Nat} (hq : q < 50) : ∀ n, n ≤ 40 → (zhas (zlk z n) q ↔ zhas z q) ∧ zlk z n (103 + 4 * q + 1) = z (103 + 4 * q + 1) ∧ zlk z n (103 + 4 * q + 2) = z (103 + 4 * q + 2)
  | 0, _ => ⟨Iff.rfl, rfl, rfl⟩
  | n + 1, hn => by
    obtain ⟨a1, a2, a3⟩ := zlk_pg I hq n (by omega)
    obtain ⟨b1, b2, b3⟩ := zst_pg (I.lk n (by omega)) (c := n) (by omega) hq
    exact ⟨b1.trans a1, b2.trans a2, b3.trans a3⟩
/-! write -/
noncomputable def zw (z : Z) (p : Nat) (v : Int32) : Z := cif (zhas z p) (upd z (103 + 4 * p + 1) v) (upd (zgi z p (gv z).toNatClampNeg) (103 + 4 * p + 1) v)
theorem Iz.w {z : Z} (I : Iz z) {p : Nat} {v : Int32} (hp : p < 50) (hv : 0 ≤ v) (hf : zhas z p ∨ ¬ gv z = -5) : Iz (zw z p v) ∧ zhas (zw z p v) p := by
  by_cases h : zhas z p
  · unfold zw
    rw [cif_pos h]
    refine ⟨I.pv hp h (fun i hi h1 _ _ => pk_un h1) (by rw [pk_us]; exact hv) ?_, ?_⟩
    · rw [pk_un (by omega)]
      obtain ⟨c, hc, -, -, -, q⟩ := I.has hp h
      exact q
    · unfold zhas at h ⊢
      rw [pk_un (by omega)]
      exact h
  · unfold zw
    rw [cif_neg h]
    rcases gv_cases z with g | ⟨c, hc, g, h0, -⟩
    · exact absurd g (hf.resolve_left h)
    · rw [g, clI (by omega)]
      refine ⟨I.gi hp h hc h0 hv, ?_⟩
      unfold zhas zgi
      simp (disch := omega) only [pk_un, pk_us]
      exact nI_nm5 (by omega)
theorem whyNotWrite_ok {σ : Mem} {z : Z} {x : Int32} {P : Int32 → Prop} {p : Nat} (I : Iz z) (F : Fz z) (hx : x = nI p) (hp : p < 50) (h0 : (zhas z p ∨ ¬ gv z = -5) → P 0) (h3 : ¬ zhas z p → gv z = -5 → P (-3)) : wp_X5_whyNotWrite (sz σ z) x P := by
  subst hx
  unfold wp_X5_whyNotWrite
  refine of_ok (p := p) (j := 0) rfl rfl hp (by decide) ?_
  rw [sz_94]
  refine ⟨fun q => given_ok (by rw [sz_94]; exact I.2.1) (fun r hr => ?_), fun q => h0 (Or.inl q)⟩
  rw [sz_94] at hr
  have hg : gv z = r := gv_eq hr (can_all n10 F)
  exact ⟨fun w => h3 (fun y => y q) (hg.trans w), fun w => h0 (Or.inr (fun y => w (hg.symm.trans y)))⟩
theorem writeNow_ok {σ : Mem} {z : Z} {x v : Int32} {P : Int32 → Mem → Prop} {p : Nat} (I : Iz z) (F : Fz z) (hx : x = nI p) (hp : p < 50) (hv : 0 ≤ v) (hf : zhas z p ∨ ¬ gv z = -5) (h : P (zlk (zw z p v) 40 (103 + 4 * p + 0)) (sz σ (zlk (zw z p v) 40))) : wp_X5_writeNow (sz σ z) x v P := by
  subst hx
  have Iw := I.w hp hv hf
  unfold wp_X5_writeNow
  refine of_ok (p := p) (j := 0) rfl rfl hp (by decide) ?_
  rw [sz_94]
  unfold jn
  have tail : ∀ w, upd w (103 + 4 * p + 1) v = zw z p v → wp_X5_lay (sz σ w) (nI p) 1 v (fun σ4 => wp_X5_look σ4 (fun σ5 => wp_X5_of σ5 (nI p) 0 (fun r6 => P r6 σ5))) := by
    intro w hw
    refine lay_ok (p := p) (j := 1) rfl rfl hp (by decide) ?_
    rw [up2_sz, hw]
    refine look_ok Iw.1 (of_ok (p := p) (j := 0) rfl rfl hp (by decide) ?_)
    rw [sz_94]
    exact h
  refine ⟨fun q => given_ok (by rw [sz_94]; exact I.2.1) (fun r hr => ?_), fun q => tail z ?_⟩
  · rw [sz_94] at hr
    have hg : gv z = r := gv_eq hr (can_all n10 F)
    have hn : ¬ zhas z p := fun w => w q
    rcases gv_cases z with g | ⟨c, hc, g, h0, -⟩
    · exact absurd g (hf.resolve_left hn)
    · refine rgive_ok rfl (hg.symm.trans g) hp hc (tail _ ?_)
      unfold zw
      rw [cif_neg hn, g, clI (by omega)]
  · unfold zw; rw [cif_pos (show zhas z p from q)]
theorem put_ok {σ : Mem} {z : Z} {x v : Int32} {P : Int32 → Mem → Prop} {p : Nat} (R : Rel σ 0 z) (I : Iz z) (hx : x = nI p) (hp : p < 50) (hv : 0 ≤ v) (h3 : ¬ zhas z p → gv z = -5 → P (-3) σ) (h : (zhas z p ∨ ¬ gv z = -5) → ∀ τ, Rel τ 0 (zlk (zw z p v) 40) → Fr σ τ → P (zlk (zw z p v) 40 (103 + 4 * p + 0)) τ) : wp_X1_put σ x v P := by
  subst hx
  unfold wp_X1_put
  unfold jn
  have tail : ∀ ρ, (zhas z p ∨ ¬ gv z = -5) → Fr σ ρ → Rel (up2 ρ 5 p v) 0 (zw z p v) → (vp_in (nI p) 50 ∧ bm (up2 ρ 5 (nI p).toNatClampNeg v) (fun σ4 => wp_X1_retireWhatCan σ4 (fun r5 σ6 => vp_in (nI p) 50 ∧ P (σ6 4 (nI p).toNatClampNeg) σ6))) := by
    intro ρ hf hF hR
    simp only [bm]
    rw [clI (by omega)]
    refine ⟨inI hp (by decide), retireWhatCan_ok hR (I.w hp hv hf).1 (fun τ d Rτ Fτ _ => ⟨inI hp (by decide), ?_⟩)⟩
    rw [show τ 4 p = _ from Rτ.cel p hp]
    exact h hf τ Rτ ((hF.up (by decide)).tr Fτ)
  obtain ⟨RN, RO⟩ := Rel_iff.mp R
  refine hasCell_ok R I rfl hp (fun hz => br_f n10 (tail σ (Or.inl hz) (Fr.rf σ) ?_)) (fun hz => br_t rfl (cellToGive_ok (nt := -5) R I (fun c hc _ => nI_nm5 (by omega)) (fun r hr => ?_)))
  · unfold zw
    rw [cif_pos hz]
    refine Rel_iff.mpr ⟨RelN_val RN hp, Own_congr RO (up2_ne _ (by decide)) (fun q hq => pk_un (by omega))⟩
  · have hg : gv z = r := gv_eq hr (fun _ _ => Iff.rfl)
    rcases gv_cases z with g | ⟨c, hc, g, h0, -⟩
    · have : r = -5 := hg.symm.trans g
      rw [this]
      exact br_f m5_nge (h3 hz g)
    · have er : r = nI c := hg.symm.trans g
      subst er
      refine br_t (nI_ge0 (by omega)) ⟨inI hp (by decide), ?_⟩
      unfold wp_X1_give
      simp only [bm]
      rw [clI (by omega), clI (by omega)]
      have hf : zhas z p ∨ ¬ gv z = -5 := Or.inr (by rw [g]; exact nI_nm5 (by omega))
      have T := tail (up2 (up2 (up2 (up2 σ 7 p 0) 3 c (nI p)) 4 p (nI c)) 0 13 (nI c)) hf ((((Fr.rf σ).up (by decide)).up (by decide)).up (by decide) |>.up (by decide)) ?_
      · simp only [bm] at T
        rw [clI (by omega)] at T
        exact ⟨inI hc (by decide), inI hp (by decide), T⟩
      · have hw : zw z p v = upd (zgi z p c) (103 + 4 * p + 1) v := by unfold zw; rw [cif_neg hz, g, clI (by omega)]
        rw [hw]
        refine Rel_iff.mpr ⟨?_, ?_⟩
        · have A1 := RelN_c7 (i := p) (v := 0) RN
          have A2 := RelN_c3 (i := c) (v := nI p) A1
          have A3 := RelN_val (i := p) (v := v) A2 hp
          have A4 := RelN_cel (i := p) (v := nI c) A3 hp (fun _ => by rw [up2_eq, pk_us, pk_us])
          have A5 := RelN_zh (i := c) (v := 1) A4 hc (by simp (disch := omega) only [pk_un]; rw [h0]; decide)
          have A6 := RelN_las (v := nI c) A5
          have e1 : up2 (up2 (up2 (up2 (up2 σ 7 p 0) 3 c (nI p)) 4 p (nI c)) 0 13 (nI c)) 5 p v = up2 (up2 (up2 (up2 (up2 σ 7 p 0) 3 c (nI p)) 5 p v) 4 p (nI c)) 0 13 (nI c) := by
            funext a
            by_cases h5 : a = 5
            · subst h5; simp [up2]
            · simp only [up2, h5, if_false]
              by_cases h0' : a = 0
              · subst h0'; simp
              · simp only [h0', if_false]
                by_cases h4 : a = 4
                · subst h4; simp
                · simp [h4, h5]
          have e2 : upd (zgi z p c) (103 + 4 * p + 1) v = upd (upd (upd (upd z (103 + 4 * p + 1) v) (103 + 4 * p + 0) (nI c)) (23 + c) 1) 9 (nI c) := by
            funext i
            unfold zgi upd
            by_cases x1 : i = 103 + 4 * p + 1
            · subst x1
              rw [if_pos rfl, if_neg (by omega), if_neg (by omega), if_neg (by omega), if_pos rfl]
            · rw [if_neg x1, if_neg x1]
          rw [e1, e2]
          exact A6
        · intro y hy
          simp (disch := omega) only [up2_ne]
          rw [up2_eq]
          have hno : ∀ q, q < 50 → ¬ z (103 + 4 * q + 0) = nI c := by
            rcases I.pg hc with ⟨-, -, w⟩ | ⟨q, hq, -, w1, w2, -⟩
            · exact w
            · rw [h0] at w2; exact absurd w2 (by decide)
          have epp : ∀ q, q < 50 → upd (zgi z p c) (103 + 4 * p + 1) v (103 + 4 * q + 0) = if q = p then nI c else z (103 + 4 * q + 0) := by
            intro q hq
            unfold zgi
            by_cases e : q = p
            · subst e; simp (disch := omega) only [pk_un, pk_us, if_true]
            · simp (disch := omega) only [pk_un, if_neg e]
          by_cases e1 : y = c
          · rw [e1, pk_us, zpg_one hp (by rw [epp p hp, if_pos rfl]) (fun q hq w => ?_)]
            rw [epp q hq] at w
            by_cases e : q = p
            · exact e
            · rw [if_neg e] at w; exact absurd w (hno q hq)
          · rw [pk_un e1, up2_ne _ (by decide), RO y hy]
            refine zpg_congr 50 (fun q hq => ?_)
            rw [epp q hq]
            by_cases e : q = p
            · rw [if_pos e, e]
              have hem := I.nohas hp hz
              rw [hem.1]
              exact ⟨fun w => absurd w.symm (nI_nm5 (by omega)), fun w => absurd (nI_inj (by omega) (by omega) w).symm e1⟩
            · rw [if_neg e]
