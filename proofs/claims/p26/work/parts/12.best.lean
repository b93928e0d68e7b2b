/-! PURE PART: the cell that is given, in the reference and in the class -/
theorem B_start (z : Z) (all : Prop) (nt : Int32) {D : Nat → Prop} (hD : ∀ k, k < 40 → ¬ D k) : Best z all nt D (-5) := Or.inl ⟨rfl, fun k hk h => absurd h (hD k hk)⟩
theorem B_skip {z : Z} {all : Prop} {nt : Int32} {D D' : Nat → Prop} {r : Int32} {k : Nat} (h : Best z all nt D r) (hD : ∀ j, j < 40 → (D' j ↔ D j ∨ j = k)) (hc : ¬ zcan z all nt (zat z k)) : Best z all nt D' r := by
  rcases h with ⟨e, h⟩ | ⟨j, hj, hd, e, hcj, hb⟩
  · exact Or.inl ⟨e, fun i hi hd => by
      rcases (hD i hi).mp hd with q | q
      · exact h i hi q
      · rw [q]; exact hc⟩
  · exact Or.inr ⟨j, hj, (hD j hj).mpr (Or.inl hd), e, hcj, fun i hi hd hci => by
      rcases (hD i hi).mp hd with q | q
      · exact hb i hi q hci
      · rw [q] at hci; exact absurd hci hc⟩
theorem B_keep {z : Z} {all : Prop} {nt : Int32} {D D' : Nat → Prop} {r : Int32} {k : Nat} (h : Best z all nt D r) (hD : ∀ j, j < 40 → (D' j ↔ D j ∨ j = k)) (hr : ¬ r = -5) (hk : ∀ j, j < 40 → D j → r = nI (zat z j) → zbet z j k) : Best z all nt D' r := by
  rcases h with ⟨e, h⟩ | ⟨j, hj, hd, e, hcj, hb⟩
  · exact absurd e hr
  · exact Or.inr ⟨j, hj, (hD j hj).mpr (Or.inl hd), e, hcj, fun i hi hdi hci => by
      rcases (hD i hi).mp hdi with q | q
      · exact hb i hi q hci
      · rw [q]; exact hk j hj hd e⟩
theorem zbet_rf (z : Z) (k : Nat) : zbet z k k := by
  unfold zbet
  split
  · exact Or.inr ⟨rfl, Nat.le_refl _⟩
  · exact Nat.le_refl _
theorem zbet_tr {z : Z} {a b c : Nat} (h1 : zbet z a b) (h2 : zbet z b c) : zbet z a c := by
  unfold zbet at *
  split at h1
  · next q =>
    rw [if_pos q] at h2 ⊢
    simp only [Int32.lt_iff_toInt_lt, ← Int32.toInt_inj] at *
    omega
  · next q =>
    rw [if_neg q] at h2 ⊢
    omega
theorem zbet_as {z : Z} {a b : Nat} (h1 : zbet z a b) (h2 : zbet z b a) : a = b := by
  unfold zbet at *
  split at h1
  · next q =>
    rw [if_pos q] at h2
    simp only [Int32.lt_iff_toInt_lt, ← Int32.toInt_inj] at *
    omega
  · next q =>
    rw [if_neg q] at h2
    omega
theorem B_take {z : Z} {all : Prop} {nt : Int32} {D D' : Nat → Prop} {r : Int32} {k : Nat} (h : Best z all nt D r) (hD : ∀ j, j < 40 → (D' j ↔ D j ∨ j = k)) (hk40 : k < 40) (hc : zcan z all nt (zat z k)) (hk : ∀ j, j < 40 → D j → r = nI (zat z j) → zbet z k j) : Best z all nt D' (nI (zat z k)) := by
  refine Or.inr ⟨k, hk40, (hD k hk40).mpr (Or.inr rfl), rfl, hc, fun i hi hdi hci => ?_⟩
  rcases (hD i hi).mp hdi with q | q
  · rcases h with ⟨e, h⟩ | ⟨j, hj, hd, e, hcj, hb⟩
    · exact absurd hci (h i hi q)
    · exact zbet_tr (hk j hj hd e) (hb i hi q hci)
  · rw [q]; exact zbet_rf z k
theorem B_uniq {z : Z} {all : Prop} {nt : Int32} {D : Nat → Prop} {r s : Int32} (h : Best z all nt D r) (h2 : Best z all nt D s) : r = s := by
  rcases h with ⟨e, h⟩ | ⟨j, hj, hd, e, hcj, hb⟩ <;> rcases h2 with ⟨e2, h2⟩ | ⟨j2, hj2, hd2, e2, hcj2, hb2⟩
  · rw [e, e2]
  · exact absurd hcj2 (h j2 hj2 hd2)
  · exact absurd hcj (h2 j hj hd)
  · have := zbet_as (hb j2 hj2 hd2 hcj2) (hb2 j hj hd hcj)
    rw [e, e2, this]
theorem B_cases {z : Z} {all : Prop} {nt : Int32} {D : Nat → Prop} {r : Int32} (h : Best z all nt D r) : (r = -5 ∧ ∀ k, k < 40 → D k → ¬ zcan z all nt (zat z k)) ∨ ∃ c, c < 40 ∧ r = nI c ∧ zcan z all nt c := by
  rcases h with h | ⟨j, hj, hd, e, hcj, hb⟩
  · exact Or.inl h
  · exact Or.inr ⟨zat z j, zat_lt z hj, e, hcj⟩
/-- every cell is looked at -/
theorem zat_all (z : Z) {c : Nat} (hc : c < 40) : ∃ k, k < 40 ∧ zat z k = c := by
  unfold zat
  by_cases h : z 2 = 2
  · simp only [if_pos h]
    exact ⟨(40 * ((z 9).toNatClampNeg + 1) + c - ((z 9).toNatClampNeg + 1)) % 40, Nat.mod_lt _ (by decide), by omega⟩
  · simp only [if_neg h]
    exact ⟨c, hc, rfl⟩
theorem B_none {z : Z} {all : Prop} {nt : Int32} (h : Best z all nt (fun _ => True) (-5)) : ∀ c, c < 40 → ¬ zcan z all nt c := by
  intro c hc
  rcases h with ⟨-, h⟩ | ⟨j, hj, hd, e, -⟩
  · obtain ⟨k, hk, e⟩ := zat_all z hc
    rw [← e]
    exact h k hk trivial
  · exact absurd e.symm (nI_nm5 (by have := zat_lt z hj; omega))
theorem zat_num {z : Z} {c k : Nat} (h9 : z 9 = nI c) (hc : c < 40) (hk : k < 40) (h2 : z 2 = 2) : ((z 9 + 1 + nI k) - (z 9 + 1 + nI k) / 40 * 40) = nI (zat z k) := by
  unfold zat
  rw [if_pos h2, h9, clI (by omega)]
  show ((nI c + nI 1 + nI k) - (nI c + nI 1 + nI k) / nI 40 * nI 40) = _
  rw [nI_add, nI_add, pk_rem (by omega) (by decide) (by decide)]
theorem given_ok {σ : Mem} {y1 y2 : Int32} {P : Int32 → Prop} (h9 : ∃ c, c < 40 ∧ σ 94 9 = nI c) (h : ∀ r, Best (σ 94) (¬ y1 = 0) y2 (fun _ => True) r → P r) : wp_X5_given σ y1 y2 P := by
  unfold wp_X5_given
  obtain ⟨c9, hc9, e9⟩ := h9
  refine lq2_down 40 (by decide) (fun k a => Best (σ 94) (¬ y1 = 0) y2 (fun j => k ≤ j) a) (fun k a rec hk hI hrec => ?_) (fun a rec x hx hI => ?_) (B_start _ _ _ (fun k hk => by show ¬ 40 ≤ k; omega)) (by decide)
  · refine ⟨fun q => absurd q (nI_nn (by omega)), fun _ => ?_⟩
    have hz : zat (σ 94) k < 40 := zat_lt _ hk
    have key : ∀ v4, v4 = nI (zat (σ 94) k) →
        (vp_in (23 + v4) 313 ∧ jn (A := Int32 → Prop) (fun (v6 : Int32) =>
          jn (A := Int32 → Prop) (fun (v8 : Int32) =>
            ((v6 = 0 → rec a (nI k + (-1))) ∧ (¬ v6 = 0 → ((v8 = 0 → rec a (nI k + (-1))) ∧ (¬ v8 = 0 → rec v4 (nI k + (-1)))))))
            (fun J9 =>
            ((a = (-5) → J9 1) ∧
            (¬ a = (-5) →
            (((σ 94 2) = 1 →
              vp_in (63 + v4) 313 ∧ vp_in (63 + a) 313 ∧ (((σ 94 (63 + a).toNatClampNeg) < (σ 94 (63 + v4).toNatClampNeg) → J9 0) ∧
                (¬ (σ 94 (63 + a).toNatClampNeg) < (σ 94 (63 + v4).toNatClampNeg) → J9 1))) ∧
              (¬ (σ 94 2) = 1 → J9 1))))))
          (fun J7 =>
          (((σ 94 (23 + v4).toNatClampNeg) = 0 →
          ((v4 = y2 → J7 0) ∧ (¬ v4 = y2 →
            ((y1 = 0 → wp_X5_isBad σ v4 (fun r10 => ((r10 = 0 → J7 1) ∧ (¬ r10 = 0 → J7 0)))) ∧
              (¬ y1 = 0 → J7 1))))) ∧
          (¬ (σ 94 (23 + v4).toNatClampNeg) = 0 → J7 0)))) := by
      intro v4 hv
      subst hv
      have a1 := ix1 (a := 23) (k := zat (σ 94) k) (n := 313) (by omega) (by decide)
      have a2 := ix1 (a := 63) (k := zat (σ 94) k) (n := 313) (by omega) (by decide)
      have e1 : ((23 : Int32) + nI (zat (σ 94) k)).toNatClampNeg = 23 + zat (σ 94) k := a1.2
      have e2 : ((63 : Int32) + nI (zat (σ 94) k)).toNatClampNeg = 63 + zat (σ 94) k := a2.2
      have hDk : ∀ j, j < 40 → (k ≤ j ↔ k + 1 ≤ j ∨ j = k) := fun j _ => by omega
      unfold jn
      rw [e1, e2]
      refine ⟨a1.1, ?_⟩
      -- by whether it can be given
      have hno : ¬ zcan (σ 94) (¬ y1 = 0) y2 (zat (σ 94) k) → rec a (nI k + (-1)) := fun hn => hrec a (B_skip hI hDk hn)
      have hyes : zcan (σ 94) (¬ y1 = 0) y2 (zat (σ 94) k) → ((a = (-5) → rec (nI (zat (σ 94) k)) (nI k + (-1))) ∧
            (¬ a = (-5) → (((σ 94 2) = 1 →
              vp_in (63 + nI (zat (σ 94) k)) 313 ∧ vp_in (63 + a) 313 ∧ (((σ 94 (63 + a).toNatClampNeg) < (σ 94 (63 + zat (σ 94) k)) → rec a (nI k + (-1))) ∧
                (¬ (σ 94 (63 + a).toNatClampNeg) < (σ 94 (63 + zat (σ 94) k)) → rec (nI (zat (σ 94) k)) (nI k + (-1))))) ∧
              (¬ (σ 94 2) = 1 → rec (nI (zat (σ 94) k)) (nI k + (-1)))))) := by
        intro hc
        refine ⟨fun q => hrec _ (B_take hI hDk hk hc (fun j hj hd e => ?_)), fun q => ⟨fun q2 => ?_, fun q2 => hrec _ (B_take hI hDk hk hc (fun j hj hd e => ?_))⟩⟩
        · rw [q] at e
          exact absurd e.symm (nI_nm5 (by have := zat_lt (σ 94) hj; omega))
        · rcases hI with ⟨e, -⟩ | ⟨j, hj, hd, e, hcj, hb⟩
          · exact absurd e q
          · have hz2 : ∀ i, zat (σ 94) i = i := fun i => by unfold zat; rw [if_neg (by rw [q2]; decide)]
            have ej : a = nI j := by rw [e, hz2 j]
            have a3 := ix1 (a := 63) (k := j) (n := 313) (by omega) (by decide)
            have e3 : ((63 : Int32) + nI j).toNatClampNeg = 63 + j := a3.2
            have hI2 : Best (σ 94) (¬ y1 = 0) y2 (fun j => k + 1 ≤ j) a := Or.inr ⟨j, hj, hd, e, hcj, hb⟩
            have hja : ∀ i, i < 40 → a = nI (zat (σ 94) i) → i = j := fun i hi hei => by
              rw [hz2 i, ej] at hei
              exact (nI_inj (by omega) (by omega) hei).symm
            have hkj : k + 1 ≤ j := hd
            rw [ej, e3]
            refine ⟨a2.1, a3.1, fun q3 => ?_, fun q3 => ?_⟩
            · rw [← ej]
              refine hrec a (B_keep hI2 hDk q (fun i hi hdi hei => ?_))
              rw [hja i hi hei]
              unfold zbet
              rw [if_pos q2, hz2 k] at *
              exact Or.inl q3
            · refine hrec _ (B_take hI2 hDk hk hc (fun i hi hdi hei => ?_))
              rw [hja i hi hei]
              unfold zbet
              rw [hz2 k] at q3
              rw [if_pos q2]
              rcases fa_three' (σ 94 (63 + k)) (σ 94 (63 + j)) with w | w | w
              · exact Or.inl w
              · exact Or.inr ⟨w, by omega⟩
              · exact absurd w q3
        · unfold zbet
          rw [if_neg q2]
          have : k + 1 ≤ j := hd
          omega
      by_cases hc : zcan (σ 94) (¬ y1 = 0) y2 (zat (σ 94) k)
      · have hy := hyes hc
        obtain ⟨c1, c2, c3⟩ := hc
        refine ⟨fun _ => ⟨fun q => absurd q c2, fun _ => ⟨fun q => rbad_ok rfl hz (fun hb => ?_) (fun hb => ?_), fun q => ?_⟩⟩, fun q => absurd c1 q⟩
        · rcases c3 with w | w
          · exact absurd q w
          · exact absurd hb w
        · refine br_t rfl ?_
          refine ⟨fun q => br_f n10 (br_f n10 (hy.1 q)), fun q => ⟨fun q2 => ?_, fun q2 => br_f n10 (br_f n10 ((hy.2 q).2 q2))⟩⟩
          exact ⟨((hy.2 q).1 q2).1, ((hy.2 q).1 q2).2.1, fun q3 => br_f n10 (br_t rfl (((hy.2 q).1 q2).2.2.1 q3)), fun q3 => br_f n10 (br_f n10 (((hy.2 q).1 q2).2.2.2 q3))⟩
        · refine ⟨fun q => br_f n10 (br_f n10 (hy.1 q)), fun q => ⟨fun q2 => ?_, fun q2 => br_f n10 (br_f n10 ((hy.2 q).2 q2))⟩⟩
          exact ⟨((hy.2 q).1 q2).1, ((hy.2 q).1 q2).2.1, fun q3 => br_f n10 (br_t rfl (((hy.2 q).1 q2).2.2.1 q3)), fun q3 => br_f n10 (br_f n10 (((hy.2 q).1 q2).2.2.2 q3))⟩
      · have hn := hno hc
        -- whatever the comparison says, nothing changes; only the places must be there
        have hin : ¬ a = -5 → vp_in (63 + a) 313 := by
          intro q
          rcases B_cases hI with ⟨e, -⟩ | ⟨c, hcc, e, -⟩
          · exact absurd e q
          · rw [e]; exact (ix1 (a := 63) (k := c) (n := 313) (by omega) (by decide)).1
        have hall : ∀ v6 : Int32, v6 = 0 → ((a = (-5) → ((v6 = 0 → rec a (nI k + (-1))) ∧ (¬ v6 = 0 → (((1 : Int32) = 0 → rec a (nI k + (-1))) ∧ (¬ (1 : Int32) = 0 → rec (nI (zat (σ 94) k)) (nI k + (-1))))))) ∧
            (¬ a = (-5) →
            (((σ 94 2) = 1 →
              vp_in (63 + nI (zat (σ 94) k)) 313 ∧ vp_in (63 + a) 313 ∧ (((σ 94 (63 + a).toNatClampNeg) < (σ 94 (63 + zat (σ 94) k)) → ((v6 = 0 → rec a (nI k + (-1))) ∧ (¬ v6 = 0 → (((0 : Int32) = 0 → rec a (nI k + (-1))) ∧ (¬ (0 : Int32) = 0 → rec (nI (zat (σ 94) k)) (nI k + (-1))))))) ∧
                (¬ (σ 94 (63 + a).toNatClampNeg) < (σ 94 (63 + zat (σ 94) k)) → ((v6 = 0 → rec a (nI k + (-1))) ∧ (¬ v6 = 0 → (((1 : Int32) = 0 → rec a (nI k + (-1))) ∧ (¬ (1 : Int32) = 0 → rec (nI (zat (σ 94) k)) (nI k + (-1))))))))) ∧
              (¬ (σ 94 2) = 1 → ((v6 = 0 → rec a (nI k + (-1))) ∧ (¬ v6 = 0 → (((1 : Int32) = 0 → rec a (nI k + (-1))) ∧ (¬ (1 : Int32) = 0 → rec (nI (zat (σ 94) k)) (nI k + (-1)))))))))) := by
          intro v6 h6
          exact ⟨fun _ => br_t h6 hn, fun q => ⟨fun _ => ⟨a2.1, hin q, fun _ => br_t h6 hn, fun _ => br_t h6 hn⟩, fun _ => br_t h6 hn⟩⟩
        refine ⟨fun q0 => ⟨fun q => hall 0 rfl, fun q => ⟨fun q2 => rbad_ok rfl hz (fun hb => br_f n10 (hall 0 rfl)) (fun hb => absurd ⟨q0, q, Or.inr hb⟩ hc), fun q2 => absurd ⟨q0, q, Or.inl q2⟩ hc⟩⟩, fun q0 => hall 0 rfl⟩
    refine ⟨fun q2 => key _ (zat_num e9 hc9 hk q2), fun q2 => key _ ?_⟩
    unfold zat
    rw [if_neg q2]
  · refine ⟨fun _ => h a (hI.imp (fun k hk => ⟨fun _ => trivial, fun _ => Nat.zero_le _⟩)), fun q => absurd hx q⟩
