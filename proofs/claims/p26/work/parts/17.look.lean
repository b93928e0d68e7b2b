/-! PURE PART: what is looked for behind each act: on the state, in the reference, in the class -/
noncomputable def gv (z : Z) : Int32 := Classical.epsilon (fun r => Best z False (-5) (fun _ => True) r)
theorem B_congr {z : Z} {a a' : Prop} {n n' : Int32} {D : Nat → Prop} {r : Int32} (h : Best z a n D r) (hc : ∀ c, c < 40 → (zcan z a n c ↔ zcan z a' n' c)) : Best z a' n' D r := by
  rcases h with ⟨e, h⟩ | ⟨j, hj, hd, e, hcj, hb⟩
  · exact Or.inl ⟨e, fun k hk hd q => h k hk hd ((hc _ (zat_lt z hk)).mpr q)⟩
  · exact Or.inr ⟨j, hj, hd, e, (hc _ (zat_lt z hj)).mp hcj, fun k hk hd q => hb k hk hd ((hc _ (zat_lt z hk)).mpr q)⟩
theorem gv_eq {z : Z} {a : Prop} {n : Int32} {r : Int32} (h : Best z a n (fun _ => True) r) (hc : ∀ c, c < 40 → (zcan z a n c ↔ zcan z False (-5) c)) : gv z = r := by
  have h2 := B_congr h hc
  exact B_uniq (Classical.epsilon_spec (p := fun r => Best z False (-5) (fun _ => True) r) ⟨r, h2⟩) h2
theorem can_free {z : Z} {n : Int32} (hn : ∀ c, c < 40 → z (23 + c) = 0 → ¬ nI c = n) : ∀ c, c < 40 → (zcan z False n c ↔ zcan z False (-5) c) := by
  intro c hc
  constructor
  · rintro ⟨h1, -, h3⟩; exact ⟨h1, nI_nm5 (by omega), h3⟩
  · rintro ⟨h1, -, h3⟩; exact ⟨h1, hn c hc h1, h3⟩
theorem can_all {z : Z} {a : Prop} (ha : a) (hF : Fz z) : ∀ c, c < 40 → (zcan z a (-5) c ↔ zcan z False (-5) c) := by
  intro c hc
  constructor
  · rintro ⟨h1, h2, h3⟩; exact ⟨h1, h2, Or.inr (hF c hc h1)⟩
  · rintro ⟨h1, h2, h3⟩; exact ⟨h1, h2, Or.inl ha⟩
theorem can_F {z : Z} {a : Prop} {n : Int32} (ha : ¬ a) : ∀ c, c < 40 → (zcan z a n c ↔ zcan z False n c) := by
  intro c hc
  constructor
  · rintro ⟨h1, h2, h3⟩; exact ⟨h1, h2, Or.inr (h3.resolve_left ha)⟩
  · rintro ⟨h1, h2, h3⟩; exact ⟨h1, h2, Or.inr (h3.resolve_left id)⟩
/-- there is always a best one -/
theorem B_ex (z : Z) (a : Prop) (n : Int32) : ∃ r, Best z a n (fun _ => True) r := by
  have key : ∀ k, k ≤ 40 → ∃ r, Best z a n (fun j => j < k) r := by
    intro k
    induction k with
    | zero => intro _; exact ⟨_, B_start z a n (fun k hk => by omega)⟩
    | succ k ih =>
      intro hk
      obtain ⟨r, hr⟩ := ih (by omega)
      have hD : ∀ j, j < 40 → (j < k + 1 ↔ j < k ∨ j = k) := fun j _ => by omega
      by_cases hc : zcan z a n (zat z k)
      · rcases hr with ⟨e, h⟩ | ⟨j, hj, hd, e, hcj, hb⟩
        · refine ⟨_, B_take (Or.inl ⟨e, h⟩) hD (by omega) hc (fun j hj hd e2 => ?_)⟩
          rw [e] at e2
          exact absurd e2.symm (nI_nm5 (by have := zat_lt z hj; omega))
        · rcases zbet_tot z j k with q | q
          · exact ⟨r, Or.inr ⟨j, hj, Nat.lt_succ_of_lt hd, e, hcj, fun i hi hdi hci => by
              rcases (hD i hi).mp hdi with w | w
              · exact hb i hi w hci
              · rw [w]; exact q⟩⟩
          · refine ⟨_, Or.inr ⟨k, by omega, Nat.lt_succ_self k, rfl, hc, fun i hi hdi hci => ?_⟩⟩
            rcases (hD i hi).mp hdi with w | w
            · exact zbet_tr q (hb i hi w hci)
            · rw [w]; exact zbet_rf z k
      · exact ⟨r, B_skip hr hD hc⟩
  obtain ⟨r, hr⟩ := key 40 (Nat.le_refl _)
  exact ⟨r, hr.imp (fun k hk => ⟨fun _ => trivial, fun _ => hk⟩)⟩
theorem gv_best (z : Z) : Best z False (-5) (fun _ => True) (gv z) := Classical.epsilon_spec (p := fun r => Best z False (-5) (fun _ => True) r) (B_ex z False (-5))
theorem gv_cases (z : Z) : gv z = -5 ∨ ∃ c, c < 40 ∧ gv z = nI c ∧ z (23 + c) = 0 ∧ ¬ bad z c := by
  rcases B_cases (gv_best z) with ⟨e, -⟩ | ⟨c, hc, e, h⟩
  · exact Or.inl e
  · exact Or.inr ⟨c, hc, e, h.1, h.2.2.resolve_left id⟩
/-- one cell is looked at -/
noncomputable def zst (z : Z) (c : Nat) : Z := cif (bad z c) (cif (z (23 + c) = 1) (cif (z (103 + 4 * (zpg z (nI c) 50).toNatClampNeg + 2) = 0 ∧ ¬ gv z = -5) (zre (zmv z (zpg z (nI c) 50).toNatClampNeg (gv z).toNatClampNeg) c) z) (zre z c)) z
noncomputable def zlk (z : Z) : Nat → Z
  | 0 => z
  | n + 1 => zst (zlk z n) n
theorem zst_no {z : Z} {c : Nat} (h : ¬ bad z c) : zst z c = z := by unfold zst; rw [cif_neg h]
theorem zst_free {z : Z} {c : Nat} (h : bad z c) (h1 : ¬ z (23 + c) = 1) : zst z c = zre z c := by unfold zst; rw [cif_pos h, cif_neg h1]
theorem zst_mv {z : Z} {c p c' : Nat} (h : bad z c) (h1 : z (23 + c) = 1) (hp : p < 50) (ep : zpg z (nI c) 50 = nI p) (h2 : z (103 + 4 * p + 2) = 0) (hc' : c' < 40) (hg : gv z = nI c') : zst z c = zre (zmv z p c') c := by
  unfold zst
  rw [cif_pos h, cif_pos h1, ep, clI (by omega), hg, clI (by omega), cif_pos ⟨h2, nI_nm5 (by omega)⟩]
theorem zst_wait {z : Z} {c p : Nat} (h : bad z c) (h1 : z (23 + c) = 1) (hp : p < 50) (ep : zpg z (nI c) 50 = nI p) (h2 : ¬ z (103 + 4 * p + 2) = 0 ∨ gv z = -5) : zst z c = z := by
  unfold zst
  rw [cif_pos h, cif_pos h1, ep, clI (by omega), cif_neg (fun q => h2.elim (fun w => w q.1) (fun w => q.2 w))]
theorem Iz.st {z : Z} (h : Iz z) {c : Nat} (hc : c < 40) : Iz (zst z c) := by
  by_cases hb : bad z c
  · by_cases h1 : z (23 + c) = 1
    · rcases h.pg hc with ⟨-, w, -⟩ | ⟨p, hp, ep, e2, -, -⟩
      · exact absurd h1 w
      · by_cases h2 : z (103 + 4 * p + 2) = 0
        · rcases gv_cases z with hg | ⟨c', hc', hg, h0, -⟩
          · rw [zst_wait hb h1 hp ep (Or.inr hg)]; exact h
          · rw [zst_mv hb h1 hp ep h2 hc' hg]
            exact (h.mv hc hc' hp e2 h0).re hc
        · rw [zst_wait hb h1 hp ep (Or.inl h2)]; exact h
    · rw [zst_free hb h1]; exact (h.ix hc h1).re hc
  · rw [zst_no hb]; exact h
theorem Iz.lk {z : Z} (h : Iz z) : ∀ n, n ≤ 40 → Iz (zlk z n)
  | 0, _ => h
  | n + 1, hn => (h.lk n (by omega)).st (by omega)
/-! the reference -/
theorem rretire_ok {σ : Mem} {z : Z} {x : Int32} {P : Mem → Prop} {c : Nat} (hx : x = nI c) (hc : c < 40) (hl : ∃ n, n ≤ 12 ∧ z 10 = nI n) (h : P (sz σ (zre z c))) : wp_X5_retire (sz σ z) x P := by
  subst hx
  unfold wp_X5_retire
  simp only [bm]
  have a := ix1 (a := 23) (k := c) (n := 313) (by omega) (by decide)
  have e : ((23 : Int32) + nI c).toNatClampNeg = 23 + c := a.2
  rw [e, up2_sz, sz_94, pk_un (by omega)]
  refine ⟨a.1, fun q => ?_, fun q => ?_⟩
  · unfold zre at h
    rw [if_pos q] at h
    exact h
  · obtain ⟨n, hn, e10⟩ := hl
    have b := ix1 (a := 11) (k := n) (n := 313) (by omega) (by decide)
    have e2 : ((11 : Int32) + nI n).toNatClampNeg = 11 + n := b.2
    unfold zre at h
    rw [if_neg q] at h
    rw [e10, clI (by omega)] at h
    rw [e10, e2, up2_sz, sz_94, up2_sz]
    refine ⟨b.1, ?_⟩
    have hn12 : n < 12 := by
      rw [e10] at q
      rcases Nat.lt_or_ge n 12 with w | w
      · exact w
      · exact absurd (nI_le w (by omega)) q
    rw [pk_un (by omega), pk_un (by omega), e10]
    exact h
theorem rgive_ok {σ : Mem} {z : Z} {x y : Int32} {P : Mem → Prop} {p c : Nat} (hx : x = nI p) (hy : y = nI c) (hp : p < 50) (hc : c < 40) (h : P (sz σ (zgi z p c))) : wp_X5_give (sz σ z) x y P := by
  subst hx; subst hy
  unfold wp_X5_give
  simp only [bm]
  have a := ix1 (a := 23) (k := c) (n := 313) (by omega) (by decide)
  have e : ((23 : Int32) + nI c).toNatClampNeg = 23 + c := a.2
  refine lay_ok (j := 0) rfl rfl hp (by decide) ⟨a.1, ?_⟩
  rw [e, up2_sz, up2_sz, up2_sz]
  exact h
theorem look_ok {σ : Mem} {z : Z} {P : Mem → Prop} (I : Iz z) (h : P (sz σ (zlk z 40))) : wp_X5_look (sz σ z) P := by
  unfold wp_X5_look
  refine lq2_inv 40 (fun k a => a = sz σ (zlk z k)) (fun k a rec hk hI hrec => ?_) (fun a rec hI => ?_) rfl nI_0.symm
  · subst hI
    have Ik := I.lk k (by omega)
    have hz : zlk z (k + 1) = zst (zlk z k) k := rfl
    rw [hz] at hrec
    generalize zlk z k = w at Ik hrec ⊢
    refine ⟨ge_no hk (by decide), fun _ => rbad_ok rfl hk (fun hb => br_f n10 ?_) (fun hb => br_t rfl (hrec _ ?_))⟩
    · rw [sz_94] at hb
      refine pageIn_ok ?_
      rw [sz_94]
      refine given_ok (by rw [sz_94]; exact Ik.2.1) (fun r6 hr6 => ?_)
      rw [sz_94] at hr6
      rcases Ik.pg hk with ⟨e, e1, -⟩ | ⟨p, hp, e, e2, e3, -⟩
      · rw [e]
        refine br_t rfl (rretire_ok rfl hk (by obtain ⟨n, hn, q, -⟩ := Ik.1; exact ⟨n, hn, q⟩) (hrec _ ?_))
        rw [zst_free hb e1]
      · rw [e]
        have hg : gv w = r6 := gv_eq hr6 (fun c hc => (can_F (fun q => q rfl) c hc).trans (can_free (free_ne hk (by rw [e3]; decide)) c hc))
        refine br_f (nI_nm5 (by omega)) (of_ok (p := p) (j := 2) rfl rfl hp (by decide) ?_)
        rw [sz_94]
        refine ⟨fun q => ⟨fun q2 => hrec _ ?_, fun q2 => ?_⟩, fun q => hrec _ ?_⟩
        · rw [zst_wait hb e3 hp e (Or.inr (hg.trans q2))]
        · rcases gv_cases w with w1 | ⟨c', hc', w1, w2, -⟩
          · exact absurd (hg.symm.trans w1) q2
          · refine rgive_ok rfl (hg.symm.trans w1) hp hc' (of_ok (p := p) (j := 3) rfl rfl hp (by decide) (lay_ok (p := p) (j := 3) rfl rfl hp (by decide) ?_))
            have hd : nI p / 10 = nI (p / 10) := pk_div (by omega) (by decide) (by decide)
            rw [hd]
            have a := ix1 (a := 308) (k := p / 10) (n := 313) (by omega) (by decide)
            have ea : ((308 : Int32) + nI (p / 10)).toNatClampNeg = 308 + p / 10 := a.2
            simp only [bm]
            rw [ea, up2_sz, up2_sz, up2_sz]
            refine ⟨a.1, a.1, rretire_ok rfl hk ?_ (hrec _ ?_)⟩
            · obtain ⟨n, hn, q3, -⟩ := Ik.1
              refine ⟨n, hn, ?_⟩
              unfold zgi
              simp (disch := omega) only [pk_un, sz_94]
              exact q3
            · rw [zst_mv hb e3 hp e q hc' w1]
              unfold zmv
              have x1 : sz σ (zgi w p c') 94 (103 + 4 * p + 3) = w (103 + 4 * p + 3) := by rw [sz_94]; unfold zgi; simp (disch := omega) only [pk_un]
              rw [x1, sz_94, pk_un (by omega), sz_94]
              have x2 : zgi w p c' (308 + p / 10) = w (308 + p / 10) := by unfold zgi; simp (disch := omega) only [pk_un]
              rw [x2, pk_un (by omega), pk_un (by omega)]
              have x3 : zgi w p c' 6 = w 6 := by unfold zgi; simp (disch := omega) only [pk_un]
              rw [x3]
        · rw [zst_wait hb e3 hp e (Or.inl q)]
    · rw [sz_94] at hb
      rw [zst_no hb]
  · subst hI
    exact ⟨fun _ => h, ge_yes⟩
