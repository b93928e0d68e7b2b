/-! PURE PART: the things are done, in their order -/
def Tr (t : Z) (N : Nat) (z : Z) (zs : Nat → Z) (j : Nat) : Prop := zs 0 = z ∧ ∀ i, i < j → ∃ k' s a b, thg t N (st t N i) = (k', some (s, a, b)) ∧ Gon (zs i) s a b (zs (i + 1))
def Sa (t : Z) (N : Nat) (zs : Nat → Z) (j : Nat) (e : Int32) : Prop := ∃ k' s a b, thg t N (st t N j) = (k', some (s, a, b)) ∧ Stq (zs j) s a e
theorem Tr.g {t : Z} {N : Nat} {z : Z} {zs : Nat → Z} {j : Nat} (h : Tr t N z zs j) (g : Gz z) : ∀ i, i ≤ j → Gz (zs i) := by
  intro i
  induction i with
  | zero => intro _; rw [h.1]; exact g
  | succ i ih =>
    intro hi
    obtain ⟨k', s, a, b, -, q⟩ := h.2 i (by omega)
    exact q.g (ih (by omega))
theorem Tr.s {t : Z} {N : Nat} {z w : Z} {zs : Nat → Z} {j k' : Nat} {s a b : Int32} (h : Tr t N z zs j) (e : thg t N (st t N j) = (k', some (s, a, b))) (q : Gon (zs j) s a b w) : ∃ zs', Tr t N z zs' (j + 1) ∧ zs' (j + 1) = w := by
  refine ⟨fun i => if i ≤ j then zs i else w, ⟨?_, fun i hi => ?_⟩, ?_⟩
  · show (if 0 ≤ j then zs 0 else w) = z
    rw [if_pos (Nat.zero_le _)]; exact h.1
  · show ∃ k' s a b, _ ∧ Gon (if i ≤ j then zs i else w) s a b (if i + 1 ≤ j then zs (i + 1) else w)
    rw [if_pos (by omega)]
    by_cases c : i = j
    · rw [c, if_neg (by omega)]
      exact ⟨k', s, a, b, e, q⟩
    · rw [if_pos (by omega)]
      exact h.2 i (by omega)
  · show (if j + 1 ≤ j then zs (j + 1) else w) = w
    rw [if_neg (by omega)]
theorem crun_ok {σ : Mem} {t z : Z} {N m : Nat} {P : Int32 → Mem → Prop} (R : Rel σ 0 z) (g : Gz z) (hm : m < 30) (hd : ∀ j, j ≤ m → CD t N σ j) (hdone : ∀ zs τ, Tr t N z zs (m + 1) → Rel τ 0 (zs (m + 1)) → Fr σ τ → wp_X4_recorded τ (nI (m + 1)) (fun r8 σ9 => P r8 σ9)) (hstop : ∀ zs j e τ, j ≤ m → Tr t N z zs j → Sa t N zs j e → Fr σ τ → wp_X1_copyFrom τ 0 12 (fun σ12 => P (-4) (up2 (up2 σ12 84 7 (nI j)) 84 8 e))) :
    lq2 (fun rec7 (σ5 : Mem) (x6 : Int32) =>
      ((nI (m + 1) ≤ x6 →
        wp_X4_recorded σ5 (nI (m + 1)) (fun r8 σ9 =>
          P r8 σ9)) ∧
        (¬ nI (m + 1) ≤ x6 →
        wp_X4_doThing σ5 x6 (fun r10 σ11 =>
          ((0 ≤ r10 →
          rec7 σ11 (x6 + 1)) ∧
          (¬ 0 ≤ r10 →
          ((r10 = (-5) →
            rec7 σ11 (x6 + 1)) ∧
            (¬ r10 = (-5) →
            wp_X1_copyFrom σ11 0 12 (fun σ12 =>
              bm (up2 σ12 84 7 x6) (fun σ13 =>
              bm (up2 σ13 84 8 r10) (fun σ14 =>
              P (-4) σ14))))))))))) σ 0 := by
  refine lq2_inv (m + 1) (fun k τ => ∃ zs, Tr t N z zs k ∧ Rel τ 0 (zs k) ∧ Fr σ τ) (fun k τ rec hk hI hrec => ?_) (fun τ rec hI => ?_) ⟨fun _ => z, ⟨rfl, fun i hi => absurd hi (Nat.not_lt_zero _)⟩, R, fun _ _ => rfl⟩ nI_0.symm
  · obtain ⟨zs, hT, hR, hF⟩ := hI
    have gk := hT.g g k (Nat.le_refl _)
    obtain ⟨k', s, a, b, e, c90, cT⟩ := hd k (by omega)
    refine ⟨ge_no hk (by omega), fun _ => cdo_ok (s := s) (a := a) (b := b) hR gk (by omega) (by rw [hF 90 (by decide)]; exact c90) (by rw [hF 91 (by decide), hF 92 (by decide)]; exact cT) (fun r q => ?_) (fun r ρ w q Rρ Fρ hr => ?_)⟩
    · refine br_f q.neg.1 (br_f q.neg.2.1 ?_)
      exact hstop zs k r τ (by omega) hT ⟨k', s, a, b, e, q⟩ hF
    · obtain ⟨zs', hT', ew⟩ := hT.s e q
      have hrec' : rec ρ (nI k + 1) := hrec _ ⟨zs', hT', by rw [ew]; exact Rρ, fun c hc => (Fρ c hc).trans (hF c hc)⟩
      exact ⟨fun _ => hrec', fun w1 => ⟨fun _ => hrec', fun w2 => absurd hr (fun w => w.elim w1 w2)⟩⟩
  · obtain ⟨zs, hT, hR, hF⟩ := hI
    exact ⟨fun _ => hdone zs τ hT hR hF, ge_yes⟩
def rrF (P : Int32 → Mem → Prop) (rec6 : Mem → Int32 → Prop) (σ4 : Mem) (x5 : Int32) : Prop :=
      (((σ4 93 11) ≤ x5 →
        wp_X5_recordRow σ4 95 (fun σ7 =>
          P (σ7 93 11) σ7)) ∧
        (¬ (σ4 93 11) ≤ x5 →
        wp_X5_whyNot σ4 x5 (fun r8 =>
          ((0 ≤ r8 →
          wp_X5_doThing σ4 x5 (fun σ9 =>
            rec6 σ9 (x5 + 1))) ∧
          (¬ 0 ≤ r8 →
          wp_X5_copyState σ4 95 0 94 0 (fun σ10 =>
            bm (up2 σ10 93 8 x5) (fun σ11 =>
            bm (up2 σ11 93 9 r8) (fun σ12 =>
            P (-4) σ12))))))))
theorem rrun_ok {σ : Mem} {t z : Z} {N m j : Nat} {zs : Nat → Z} {P : Int32 → Mem → Prop} (h94 : σ 94 = z) (g : Gz z) (hm : m < 30) (hd : ∀ j, j ≤ m → RD t N σ j) (h11 : σ 93 11 = nI (m + 1)) (hT : Tr t N z zs j) (hj : j ≤ m + 1) (h : (j = m + 1 ∧ wp_X5_recordRow (sz σ (zs j)) 95 (fun σ7 => P (σ7 93 11) σ7)) ∨ (j ≤ m ∧ ∃ e, Sa t N zs j e ∧ wp_X5_copyState (sz σ (zs j)) 95 0 94 0 (fun σ10 => P (-4) (up2 (up2 σ10 93 8 (nI j)) 93 9 e)))) : lq2 (rrF P) σ 0 := by
  have s11 : ∀ w, sz σ w 93 11 = nI (m + 1) := fun w => by rw [sz_ne σ w (by decide)]; exact h11
  have hG := hT.g g
  refine lq2_inv j (fun k τ => τ = sz σ (zs k)) (fun k τ rec hk hI hrec => ?_) (fun τ rec hI => ?_) (by rw [hT.1, ← h94]; exact (sz_id σ).symm) nI_0.symm
  · subst hI
    unfold rrF
    rw [s11]
    obtain ⟨k', s, a, b, e, q⟩ := hT.2 k hk
    obtain ⟨k2, s2, a2, b2, e2, q1, q2, q3⟩ := hd k (by omega)
    rw [e] at e2
    simp only [Prod.mk.injEq, Option.some.injEq] at e2
    obtain ⟨-, rfl, rfl, rfl⟩ := e2
    exact ⟨ge_no (by omega) (by omega), fun _ => rwhy_g (hG k (by omega)) (by omega) q1 q2 q (br_t (Int32.le_refl _) (rdo_ok (hG k (by omega)) (by omega) q1 q2 q3 q (hrec _ rfl)))⟩
  · subst hI
    unfold rrF
    rw [s11]
    rcases h with ⟨rfl, h⟩ | ⟨hj2, r, ⟨k', s, a, b, e, q⟩, h⟩
    · exact ⟨fun _ => h, ge_yes⟩
    · obtain ⟨k2, s2, a2, b2, e2, q1, q2, q3⟩ := hd j (by omega)
      rw [e] at e2
      simp only [Prod.mk.injEq, Option.some.injEq] at e2
      obtain ⟨-, rfl, rfl, rfl⟩ := e2
      exact ⟨ge_no (by omega) (by omega), fun _ => rwhy_s (hG j (by omega)) (by omega) q1 q2 q (br_f q.neg.1 h)⟩
/-! what the two sides hold, through the reading -/
theorem SS.par {σ τ : Mem} (S : SS σ) (h : PG σ τ) : SS τ := by
  obtain ⟨n, o, H, C, R, gH, g, s1, s2, s3⟩ := S
  have f : ∀ c, (c < 89 ∨ 92 < c) → τ c = σ c := fun c hc => h c (by omega) (by omega) (by omega) (by omega)
  have e := f 94 (by omega)
  refine ⟨n, o, H, ?_, ?_, gH, by rw [e]; exact g, ?_, ?_, ?_⟩
  · rw [e]; exact C.far (fun k hk => f k (by omega))
  · rw [e]; exact R.far (f 93 (by omega)) e (f 96 (by omega))
  · exact s1.far (by rw [f 84 (by omega)]) (by rw [f 93 (by omega)]) (f 97 (by omega)) (fun k a b => f k (by omega))
  · exact s2.far (by rw [f 87 (by omega)]) (by rw [f 93 (by omega)]) (f 88 (by omega)) (f 98 (by omega))
  · exact s3.far (f 84 (by omega)) (by rw [f 93 (by omega)]) (by rw [f 93 (by omega)])
/-- all but the memory, 'before', the histories, the parsing -/
def FX (τ x : Mem) : Prop := (∀ k, 24 ≤ k → k < 36 → x k = τ k) ∧ (∀ k, 84 ≤ k → ¬ k = 85 → ¬ k = 93 → ¬ k = 95 → ¬ k = 99 → x k = τ k) ∧ ∀ i, ¬ i = 11 → ¬ i = 12 → x 93 i = τ 93 i
theorem FX.sn {τ x : Mem} (h : FX τ x) (s : Sn τ) : Sn x := s.far (by rw [h.2.1 84 (by decide) (by decide) (by decide) (by decide) (by decide)]) (h.2.2 5 (by decide) (by decide)) (h.2.1 97 (by decide) (by decide) (by decide) (by decide) (by decide)) h.1
theorem FX.tx {τ x : Mem} (h : FX τ x) (s : Tx τ) : Tx x := s.far (by rw [h.2.1 87 (by decide) (by decide) (by decide) (by decide) (by decide)]) (h.2.2 7 (by decide) (by decide)) (h.2.1 88 (by decide) (by decide) (by decide) (by decide) (by decide)) (h.2.1 98 (by decide) (by decide) (by decide) (by decide) (by decide))
theorem FX.sp {τ x : Mem} (h : FX τ x) (s : Sp τ) : Sp x := s.far (h.2.1 84 (by decide) (by decide) (by decide) (by decide) (by decide)) (h.2.2 8 (by decide) (by decide)) (h.2.2 9 (by decide) (by decide))
theorem FX.rh {τ x : Mem} {z : Z} {n : Nat} {H : Nat → Z} (h : FX τ x) (s : RH τ z n H) : RH x z n H := by
  obtain ⟨h1, h2, h3, h4⟩ := s
  exact ⟨h1, by rw [h.2.1 94 (by decide) (by decide) (by decide) (by decide) (by decide)]; exact h2, by rw [h.2.2 3 (by decide) (by decide)]; exact h3, fun i hi => by rw [h.2.1 96 (by decide) (by decide) (by decide) (by decide) (by decide)]; exact h4 i hi⟩
theorem SS.rpar {σ τ : Mem} (S : SS σ) (h : RG σ τ) : SS τ := by
  obtain ⟨n, o, H, C, R, gH, g, s1, s2, s3⟩ := S
  have fx : FX σ τ := ⟨fun k a b => h.2 k (by omega) (by omega), fun k a b c d e => h.2 k c e, h.1⟩
  have e := h.2 94 (by decide) (by decide)
  refine ⟨n, o, H, ?_, ?_, gH, by rw [e]; exact g, fx.sn s1, fx.tx s2, fx.sp s3⟩
  · rw [e]; exact C.far (fun k hk => h.2 k (by omega) (by omega))
  · rw [e]; exact fx.rh R
