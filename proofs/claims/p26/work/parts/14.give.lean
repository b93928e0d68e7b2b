/-! PURE PART: the class's cellToGive -/
theorem cellToGive_ok {σ : Mem} {z : Z} {nt : Int32} {P : Int32 → Prop} (R : Rel σ 0 z) (I : Iz z) (hnt : ∀ c, c < 40 → z (23 + c) = 0 → ¬ nI c = nt) (h : ∀ r, Best z False nt (fun _ => True) r → P r) : wp_X1_cellToGive σ P := by
  unfold wp_X1_cellToGive
  unfold jn
  obtain ⟨c9, hc9, e9⟩ := I.2.1
  have key : ∀ v1 v3 : Int32, (v1 = 0 ↔ ¬ z 2 = 1) → (∀ k, k < 40 → ((v3 + nI k) - (v3 + nI k) / 40 * 40) = nI (zat z k)) → lq2 (fun rec7 (x5 : Int32) (x6 : Int32) =>
        ((40 ≤ x6 → P x5) ∧ (¬ 40 ≤ x6 →
          wp_X1_isGivable σ (((v3 + x6) - (v3 + x6) / 40 * 40)) (fun r8 =>
            ((r8 = 0 → rec7 x5 (x6 + 1)) ∧ (¬ r8 = 0 →
            ((x5 < 0 → rec7 (((v3 + x6) - (v3 + x6) / 40 * 40)) (x6 + 1)) ∧
              (¬ x5 < 0 → ((v1 = 0 → rec7 x5 (x6 + 1)) ∧
                (¬ v1 = 0 →
                vp_in (((v3 + x6) - (v3 + x6) / 40 * 40)) 40 ∧ vp_in x5 40 ∧ (((σ 2 x5.toNatClampNeg) ≤ (σ 2 (((v3 + x6) - (v3 + x6) / 40 * 40)).toNatClampNeg) →
                  rec7 x5 (x6 + 1)) ∧
                  (¬ (σ 2 x5.toNatClampNeg) ≤ (σ 2 (((v3 + x6) - (v3 + x6) / 40 * 40)).toNatClampNeg) →
                  rec7 (((v3 + x6) - (v3 + x6) / 40 * 40)) (x6 + 1))))))))))))) (-5) 0 := by
    intro v1 v3 hv1 hv3
    refine lq2_inv 40 (fun k a => Best z False nt (fun j => j < k) a) (fun k a rec hk hI hrec => ?_) (fun a rec hI => ?_) (B_start _ _ _ (fun k hk => by omega)) nI_0.symm
    · rw [hv3 k hk]
      have hz : zat z k < 40 := zat_lt _ hk
      have hDk : ∀ j, j < 40 → (j < k + 1 ↔ j < k ∨ j = k) := fun j _ => by omega
      refine ⟨ge_no hk (by decide), fun _ => isGivable_ok (nt := nt) R I rfl hz (hnt _ hz) (fun hc => br_f n10 ?_) (fun hc => br_t rfl (hrec a (B_skip hI hDk hc)))⟩
      refine ⟨fun q => hrec _ (B_take hI hDk hk hc (fun j hj hd e => ?_)), fun q => ⟨fun q2 => hrec a (B_keep hI hDk ?_ (fun j hj hd e => ?_)), fun q2 => ?_⟩⟩
      · rw [e] at q; exact absurd q (nI_nn (by have := zat_lt z hj; omega))
      · intro e; rw [e] at q; exact q m5_lt
      · have h1 := hv1.mp q2
        unfold zbet
        rw [if_neg h1]
        omega
      · have h1 : z 2 = 1 := Classical.byContradiction (fun w => q2 (hv1.mpr w))
        have hz2 : ∀ i, zat z i = i := fun i => by unfold zat; rw [if_neg (by rw [h1]; decide)]
        rcases hI with ⟨e, -⟩ | ⟨j, hj, hd, e, hcj, hb⟩
        · rw [e] at q; exact absurd m5_lt q
        · have hI2 : Best z False nt (fun j => j < k) a := Or.inr ⟨j, hj, hd, e, hcj, hb⟩
          have ej : a = nI j := by rw [e, hz2 j]
          have hja : ∀ i, i < 40 → a = nI (zat z i) → i = j := fun i hi hei => by
            rw [hz2 i, ej] at hei
            exact (nI_inj (by omega) (by omega) hei).symm
          rw [ej, clI (by omega), clI (by omega), show σ 2 j = _ from R.err j hj, show σ 2 (zat z k) = _ from R.err _ hz]
          refine ⟨inI hz (by decide), inI hj (by decide), fun q3 => ?_, fun q3 => hrec _ (B_take hI2 hDk hk hc (fun i hi hdi hei => ?_))⟩
          · rw [← ej]
            refine hrec a (B_keep hI2 hDk ?_ (fun i hi hdi hei => ?_))
            · rw [ej]; exact nI_nm5 (by omega)
            · rw [hja i hi hei]
              unfold zbet
              rw [hz2 k] at q3
              rw [if_pos h1]
              rcases fa_three' (z (63 + j)) (z (63 + k)) with w | w | w
              · exact Or.inl w
              · exact Or.inr ⟨w, by omega⟩
              · exact absurd q3 (Int32.not_le.mpr w)
          · rw [hja i hi hei]
            unfold zbet
            rw [hz2 k] at q3
            rw [if_pos h1]
            exact Or.inl (Int32.not_le.mp q3)
    · exact ⟨fun _ => h a (hI.imp (fun k hk => ⟨fun _ => trivial, fun _ => hk⟩)), ge_yes⟩
  have e2 : σ 11 2 = z 2 := R.set 2 (by decide)
  have e0 : σ 0 13 = z 9 := R.las
  have k3 : ¬ z 2 = 2 → ∀ k, k < 40 → (((0 : Int32) + nI k) - ((0 : Int32) + nI k) / 40 * 40) = nI (zat z k) := by
    intro q k hk
    unfold zat
    rw [if_neg q]
    show ((nI 0 + nI k) - (nI 0 + nI k) / nI 40 * nI 40) = _
    rw [nI_add, pk_rem (by omega) (by decide) (by decide), Nat.zero_add, Nat.mod_eq_of_lt hk]
  have k2 : z 2 = 2 → ∀ k, k < 40 → (((z 9 + 1) + nI k) - ((z 9 + 1) + nI k) / 40 * 40) = nI (zat z k) := fun q k hk => zat_num e9 hc9 hk q
  rw [e2, e0]
  refine ⟨fun q => ⟨fun q2 => ?_, fun q2 => ?_⟩, fun q => ⟨fun q2 => ?_, fun q2 => ?_⟩⟩
  · rw [q] at q2; exact absurd q2 (by decide)
  · exact key 1 0 ⟨fun w => absurd w n10, fun w => absurd q w⟩ (k3 q2)
  · exact key 0 (z 9 + 1) ⟨fun _ => q, fun _ => rfl⟩ (k2 q2)
  · exact key 0 0 ⟨fun _ => q, fun _ => rfl⟩ (k3 q2)
theorem cbad_ok {σ : Mem} {z : Z} {y : Int32} {P : Int32 → Prop} {c : Nat} (R : Rel σ 0 z) (hy : y = nI c) (hc : c < 40) (h1 : ¬ z (63 + c) < z 0 → P 1) (h0 : z (63 + c) < z 0 → P 0) : wp_X1_isBad σ y P := by
  subst hy
  unfold wp_X1_isBad
  rw [clI (by omega), show σ 2 c = _ from R.err c hc, show σ 11 0 = _ from R.set 0 (by decide)]
  exact ⟨inI hc (by decide), h0, h1⟩
theorem waits_ok {σ : Mem} {z : Z} {y : Int32} {P : Int32 → Prop} {c : Nat} (R : Rel σ 0 z) (hy : y = nI c) (hc : c < 40) (h1 : bad z c → P 1) (h0 : ¬ bad z c → P 0) : wp_X1_waits σ y P := by
  subst hy
  unfold wp_X1_waits
  rw [clI (by omega), show σ 1 c = _ from R.ret c hc]
  refine ⟨inI hc (by decide), fun q => cbad_ok R rfl hc (fun w => br_f n10 (h1 ⟨fun e => ?_, w⟩)) (fun w => br_t rfl (h0 (fun b => b.2 w))), fun q => h0 (fun b => ?_)⟩
  · rw [if_pos e] at q; exact n10 q
  · rw [if_neg b.1] at q; exact q rfl
/-- a cell whose page stands in it: it can be moved away from -/
def zmov (z : Z) (c : Nat) : Prop := (¬ z (23 + c) = 1) ∨ ∃ p, p < 50 ∧ z (103 + 4 * p + 0) = nI c ∧ z (103 + 4 * p + 2) = 0 ∧ ∀ r, Best z False (nI c) (fun _ => True) r → ¬ r = -5
theorem free_ne {z : Z} {c : Nat} (hc : c < 40) (h : ¬ z (23 + c) = 0) : ∀ x, x < 40 → z (23 + x) = 0 → ¬ nI x = nI c := by
  intro x hx h0 e
  have := nI_inj (by omega) (by omega) e
  rw [this] at h0
  exact h h0
theorem B_neg {z : Z} {all : Prop} {nt : Int32} {D : Nat → Prop} {r : Int32} (h : Best z all nt D r) : (r < 0 ↔ r = -5) ∧ (0 ≤ r ↔ ¬ r = -5) := by
  rcases B_cases h with ⟨e, -⟩ | ⟨c, hc, e, -⟩
  · rw [e]; decide
  · rw [e]
    exact ⟨⟨fun q => absurd q (nI_nn (by omega)), fun q => absurd q (nI_nm5 (by omega))⟩, ⟨fun _ => nI_nm5 (by omega), fun _ => nI_ge0 (by omega)⟩⟩
theorem canRetire_ok {σ : Mem} {z : Z} {y : Int32} {P : Int32 → Prop} {c : Nat} (R : Rel σ 0 z) (I : Iz z) (hy : y = nI c) (hc : c < 40) (h1 : zmov z c → P 1) (h0 : ¬ zmov z c → P 0) : wp_X1_canRetire σ y P := by
  subst hy
  unfold wp_X1_canRetire
  rw [clI (by omega), show σ 3 c = _ from R.own c hc]
  refine ⟨inI hc (by decide), ?_⟩
  rcases I.pg hc with ⟨e, e2, -⟩ | ⟨p, hp, e, e2, e3, e4⟩
  · rw [e]
    exact br_t m5_lt (h1 (Or.inl e2))
  · rw [e, clI (by omega), show σ 6 p = _ from R.pin p hp]
    refine br_f (nI_nn (by omega)) ⟨inI hp (by decide), fun q => ?_, fun q => h0 (fun w => ?_)⟩
    · refine cellToGive_ok (nt := nI c) R I (free_ne hc (by rw [e3]; decide)) (fun r hr => ?_)
      refine ⟨fun q2 => h0 (fun w => ?_), fun q2 => h1 (Or.inr ⟨p, hp, e2, q, fun s hs => ?_⟩)⟩
      · rcases w with w | ⟨i, hi, w1, w2, w3⟩
        · exact w e3
        · exact w3 r hr ((B_neg hr).1.mp q2)
      · rw [B_uniq hs hr]
        exact fun w => q2 ((B_neg hr).1.mpr w)
    · rcases w with w | ⟨i, hi, w1, w2, w3⟩
      · exact w e3
      · rw [e4 i hi w1] at w2
        exact q w2
