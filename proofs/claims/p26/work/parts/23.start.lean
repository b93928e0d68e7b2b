/-! PURE PART: a start -/
def zs1 (z : Z) (k : Nat) : Z := fun i => if 103 ≤ i ∧ i < 103 + 4 * k then (if (i - 103) % 4 < 2 then -5 else 0) else z i
def zs2 (z : Z) (k : Nat) : Z := fun i => if (23 ≤ i ∧ i < 23 + k) ∨ (63 ≤ i ∧ i < 63 + k) then 0 else z i
def zs3 (z : Z) : Nat → Z
  | 0 => z
  | n + 1 => upd (zs3 z n) (23 + (z (11 + n)).toNatClampNeg) 2
def zs0 (z : Z) : Z := zs2 (zs1 z 50) 40
def zsta (z : Z) : Z := upd (zs3 (zs0 z) (z 10).toNatClampNeg) 8 (z 8 + 1)
theorem zs1_st (z : Z) (k : Nat) : zem (zs1 z k) k = zs1 z (k + 1) := by
  funext i
  unfold zem upd zs1
  by_cases h0 : i = 103 + 4 * k + 0
  · rw [if_neg (by omega), if_neg (by omega), if_neg (by omega), if_pos h0, if_pos (by omega), if_pos (by omega)]
  · by_cases h1 : i = 103 + 4 * k + 1
    · rw [if_neg (by omega), if_neg (by omega), if_pos h1, if_pos (by omega), if_pos (by omega)]
    · by_cases h2 : i = 103 + 4 * k + 2
      · rw [if_neg (by omega), if_pos h2, if_pos (by omega), if_neg (by omega)]
      · by_cases h3 : i = 103 + 4 * k + 3
        · rw [if_pos h3, if_pos (by omega), if_neg (by omega)]
        · rw [if_neg h3, if_neg h2, if_neg h1, if_neg h0]
          by_cases h : 103 ≤ i ∧ i < 103 + 4 * k
          · rw [if_pos h, if_pos (show 103 ≤ i ∧ i < 103 + 4 * (k + 1) by omega)]
          · rw [if_neg h, if_neg (show ¬ (103 ≤ i ∧ i < 103 + 4 * (k + 1)) by omega)]
theorem zs2_st (z : Z) {k : Nat} (hk : k < 40) : upd (upd (zs2 z k) (23 + k) 0) (63 + k) 0 = zs2 z (k + 1) := by
  funext i
  unfold upd zs2
  by_cases h0 : i = 63 + k
  · rw [if_pos h0, if_pos (by omega)]
  · rw [if_neg h0]
    by_cases h1 : i = 23 + k
    · rw [if_pos h1, if_pos (by omega)]
    · rw [if_neg h1]
      by_cases h : (23 ≤ i ∧ i < 23 + k) ∨ (63 ≤ i ∧ i < 63 + k)
      · rw [if_pos h, if_pos (by omega)]
      · rw [if_neg h, if_neg (by omega)]
theorem zs0_at (z : Z) : (∀ i, i < 23 ∨ 303 ≤ i → zs0 z i = z i) ∧ (∀ c, c < 40 → zs0 z (23 + c) = 0 ∧ zs0 z (63 + c) = 0) ∧ (∀ p, p < 50 → zs0 z (103 + 4 * p + 0) = -5 ∧ zs0 z (103 + 4 * p + 1) = -5 ∧ zs0 z (103 + 4 * p + 2) = 0) := by
  unfold zs0 zs2 zs1
  refine ⟨fun i hi => ?_, fun c hc => ⟨?_, ?_⟩, fun p hp => ⟨?_, ?_, ?_⟩⟩
  · rw [if_neg (by omega), if_neg (by omega)]
  · rw [if_pos (by omega)]
  · rw [if_pos (by omega)]
  · rw [if_neg (by omega), if_pos (by omega), if_pos (by omega)]
  · rw [if_neg (by omega), if_pos (by omega), if_pos (by omega)]
  · rw [if_neg (by omega), if_pos (by omega), if_neg (by omega)]
theorem zs3_at {z : Z} : ∀ n, (∀ k, k < n → ∃ c, c < 40 ∧ z (11 + k) = nI c) → (∀ i, ¬ (23 ≤ i ∧ i < 63) → zs3 z n i = z i) ∧ (∀ c, c < 40 → ((∃ k, k < n ∧ z (11 + k) = nI c) → zs3 z n (23 + c) = 2) ∧ ((¬ ∃ k, k < n ∧ z (11 + k) = nI c) → zs3 z n (23 + c) = z (23 + c)))
  | 0, _ => ⟨fun _ _ => rfl, fun c _ => ⟨fun ⟨k, hk, _⟩ => absurd hk (Nat.not_lt_zero _), fun _ => rfl⟩⟩
  | n + 1, h => by
    obtain ⟨i1, i2⟩ := zs3_at n (fun k hk => h k (by omega))
    obtain ⟨x, hx, ex⟩ := h n (by omega)
    have e : (z (11 + n)).toNatClampNeg = x := by rw [ex]; exact clI (by omega)
    unfold zs3
    rw [e]
    refine ⟨fun i hi => by rw [pk_un (by omega)]; exact i1 i hi, fun c hc => ⟨fun ⟨k, hk, q⟩ => ?_, fun q => ?_⟩⟩
    · by_cases hxc : c = x
      · rw [hxc, pk_us]
      · rw [pk_un (by omega)]
        refine (i2 c hc).1 ⟨k, ?_, q⟩
        rcases Nat.lt_succ_iff_lt_or_eq.mp hk with w | w
        · exact w
        · rw [w, ex] at q
          exact absurd (nI_inj (by omega) (by omega) q).symm hxc
    · have hxc : ¬ c = x := fun w => q ⟨n, by omega, by rw [ex, w]⟩
      rw [pk_un (by omega)]
      exact (i2 c hc).2 (fun ⟨k, hk, w⟩ => q ⟨k, by omega, w⟩)
/-- what a start leaves -/
theorem zsta_at {z : Z} (I : Iz z) : ∃ n, n ≤ 12 ∧ z 10 = nI n ∧ (z 10).toNatClampNeg = n ∧ (∀ i, i < 23 ∨ 303 ≤ i → ¬ i = 8 → zsta z i = z i) ∧ zsta z 8 = z 8 + 1 ∧ (∀ c, c < 40 → zsta z (63 + c) = 0) ∧ (∀ c, c < 40 → ((∃ k, k < n ∧ z (11 + k) = nI c) → zsta z (23 + c) = 2) ∧ ((¬ ∃ k, k < n ∧ z (11 + k) = nI c) → zsta z (23 + c) = 0)) ∧ (∀ p, p < 50 → zsta z (103 + 4 * p + 0) = -5 ∧ zsta z (103 + 4 * p + 1) = -5 ∧ zsta z (103 + 4 * p + 2) = 0) := by
  obtain ⟨n, hn, e10, hl⟩ := I.1
  have en : (z 10).toNatClampNeg = n := by rw [e10]; exact clI (by omega)
  obtain ⟨a1, a2, a3⟩ := zs0_at z
  have hl0 : ∀ k, k < n → ∃ c, c < 40 ∧ zs0 z (11 + k) = nI c := fun k hk => by rw [a1 _ (by omega)]; exact hl k hk
  obtain ⟨b1, b2⟩ := zs3_at n hl0
  refine ⟨n, hn, e10, en, fun i hi h8 => ?_, ?_, fun c hc => ?_, fun c hc => ⟨fun ⟨k, hk, q⟩ => ?_, fun q => ?_⟩, fun p hp => ?_⟩
  · unfold zsta; rw [pk_un h8, en, b1 i (by omega), a1 i hi]
  · unfold zsta; rw [pk_us]
  · unfold zsta; rw [pk_un (by omega), en, b1 _ (by omega)]; exact (a2 c hc).2
  · unfold zsta; rw [pk_un (by omega), en]; exact (b2 c hc).1 ⟨k, hk, by rw [a1 _ (by omega)]; exact q⟩
  · unfold zsta; rw [pk_un (by omega), en, (b2 c hc).2 (fun ⟨k, hk, w⟩ => q ⟨k, hk, by rw [a1 _ (by omega)] at w; exact w⟩)]; exact (a2 c hc).1
  · unfold zsta; rw [pk_un (by omega), pk_un (by omega), pk_un (by omega), en, b1 _ (by omega), b1 _ (by omega), b1 _ (by omega)]; exact a3 p hp
theorem Iz.sta {z : Z} (I : Iz z) : Iz (zsta z) := by
  obtain ⟨n, hn, e10, en, b1, b8, b63, bh, bp⟩ := zsta_at I
  obtain ⟨⟨n', hn', e10', hl⟩, a2, a3, a4, a5, a6, a7⟩ := I
  refine ⟨⟨n', hn', by rw [b1 10 (by omega) (by omega)]; exact e10', fun k hk => by rw [b1 (11 + k) (by omega) (by omega)]; exact hl k hk⟩, by rw [b1 9 (by omega) (by omega)]; exact a2, by rw [b1 1 (by omega) (by omega)]; exact a3, fun p hp => Or.inl (bp p hp), fun p q hp hq hz he => absurd (bp p hp).1 hz, fun c hc => ?_, ?_⟩
  · by_cases q : ∃ k, k < n ∧ z (11 + k) = nI c
    · exact Or.inr (Or.inl ((bh c hc).1 q))
    · exact Or.inl ((bh c hc).2 q)
  · rw [b1 6 (by omega) (by omega), b1 7 (by omega) (by omega), sum5_un (z := z) (b := 308) (fun j hj => b1 _ (by omega) (by omega)), sum5_un (z := z) (b := 303) (fun j hj => b1 _ (by omega) (by omega))]
    exact a7
theorem Lz.sta {z : Z} (L : Lz z) (I : Iz z) : Lz (zsta z) := by
  obtain ⟨n, hn, e10, en, b1, b8, b63, bh, bp⟩ := zsta_at I
  obtain ⟨n', hn', e10', hl, hd⟩ := L
  have : n' = n := nI_inj (by omega) (by omega) (e10'.symm.trans e10)
  subst this
  refine ⟨n', hn', by rw [b1 10 (by omega) (by omega)]; exact e10', fun k hk => ?_, fun j k hj hk he => ?_⟩
  · obtain ⟨c, hc, q1, -⟩ := hl k hk
    exact ⟨c, hc, by rw [b1 _ (by omega) (by omega)]; exact q1, (bh c hc).1 ⟨k, hk, q1⟩⟩
  · rw [b1 _ (by omega) (by omega), b1 (11 + k) (by omega) (by omega)] at he
    exact hd j k hj hk he
theorem startNow_ok {σ : Mem} {z : Z} {P : Mem → Prop} (I : Iz z) (h : P (sz σ (zlk (zsta z) 40))) : wp_X5_startNow (sz σ z) P := by
  obtain ⟨n, hn, e10, hl⟩ := I.1
  have en : (z 10).toNatClampNeg = n := by rw [e10]; exact clI (by omega)
  obtain ⟨a1, a2, a3⟩ := zs0_at z
  have hl0 : ∀ k, k < n → ∃ c, c < 40 ∧ zs0 z (11 + k) = nI c := fun k hk => by rw [a1 _ (by omega)]; exact hl k hk
  unfold wp_X5_startNow
  refine lq2_inv 50 (fun k a => a = sz σ (zs1 z k)) (fun k a rec hk hI hrec => ?_) (fun a rec hI => ?_) ?_ nI_0.symm
  · subst hI
    refine ⟨ge_no hk (by decide), fun _ => empty_ok rfl hk (hrec _ ?_)⟩
    rw [sz_sz, sz_94, zs1_st]
  · subst hI
    refine ⟨fun _ => ?_, ge_yes⟩
    refine lq2_inv 40 (fun k a => a = sz σ (zs2 (zs1 z 50) k)) (fun k a rec hk hI hrec => ?_) (fun a rec hI => ?_) ?_ nI_0.symm
    · subst hI
      have x := ix1 (a := 23) (k := k) (n := 313) (by omega) (by decide)
      have y := ix1 (a := 63) (k := k) (n := 313) (by omega) (by decide)
      have ex : ((23 : Int32) + nI k).toNatClampNeg = 23 + k := x.2
      have ey : ((63 : Int32) + nI k).toNatClampNeg = 63 + k := y.2
      simp only [bm]
      rw [ex, ey, up2_sz, up2_sz, zs2_st _ hk]
      exact ⟨ge_no hk (by decide), fun _ => ⟨x.1, y.1, hrec _ rfl⟩⟩
    · subst hI
      refine ⟨fun _ => ?_, ge_yes⟩
      refine lq2_inv n (fun k a => a = sz σ (zs3 (zs0 z) k)) (fun k a rec hk hI hrec => ?_) (fun a rec hI => ?_) rfl nI_0.symm
      · subst hI
        obtain ⟨b1, b2⟩ := zs3_at k (fun j hj => hl0 j (by omega))
        obtain ⟨c, hc, ec⟩ := hl0 k hk
        have x := ix1 (a := 11) (k := k) (n := 313) (by omega) (by decide)
        have ex : ((11 : Int32) + nI k).toNatClampNeg = 11 + k := x.2
        have y := ix1 (a := 23) (k := c) (n := 313) (by omega) (by decide)
        have ey : ((23 : Int32) + nI c).toNatClampNeg = 23 + c := y.2
        have e1 : sz σ (zs3 (zs0 z) k) 94 10 = nI n := by rw [sz_94, b1 10 (by omega), a1 10 (by omega), e10]
        have e2 : sz σ (zs3 (zs0 z) k) 94 (11 + k) = nI c := by rw [sz_94, b1 _ (by omega), ec]
        simp only [bm]
        rw [ex, e1, e2, ey, up2_sz]
        refine ⟨ge_no hk (by omega), fun _ => ⟨x.1, y.1, hrec _ ?_⟩⟩
        show _ = sz σ (upd (zs3 (zs0 z) k) (23 + (zs0 z (11 + k)).toNatClampNeg) 2)
        rw [ec, clI (by omega)]
        try rw [up2_sz]
      · subst hI
        obtain ⟨b1, b2⟩ := zs3_at n hl0
        have e1 : sz σ (zs3 (zs0 z) n) 94 10 = nI n := by rw [sz_94, b1 10 (by omega), a1 10 (by omega), e10]
        have e2 : sz σ (zs3 (zs0 z) n) 94 8 = z 8 := by rw [sz_94, b1 8 (by omega), a1 8 (by omega)]
        simp only [bm]
        rw [e1, e2, up2_sz]
        refine ⟨fun _ => ?_, ge_yes⟩
        have : upd (zs3 (zs0 z) n) 8 (z 8 + 1) = zsta z := by unfold zsta; rw [en]
        rw [this]
        exact look_ok I.sta h
    · have : zs2 (zs1 z 50) 0 = zs1 z 50 := by funext i; unfold zs2; rw [if_neg (by omega)]
      rw [this]
  · have : zs1 z 0 = z := by funext i; unfold zs1; rw [if_neg (by omega)]
    rw [this]
/-! the class -/
theorem place_ok {σ : Mem} {x : Int32} {P : Int32 → Prop} {n : Nat} (hn : n ≤ 12) (e : σ 0 10 = nI n) (h0 : (∀ k, k < n → ¬ σ 10 k = x) → P (-5)) (h1 : ∀ k, k < n → σ 10 k = x → (∀ j, j < k → ¬ σ 10 j = x) → P (nI k)) : wp_X1_placeOnList σ x P := by
  unfold wp_X1_placeOnList
  rw [e]
  refine lq1_inv n (fun k => ∀ j, j < k → ¬ σ 10 j = x) (fun k rec hk hI hrec => ?_) (fun rec hI => ?_) (fun j hj => absurd hj (Nat.not_lt_zero _)) nI_0.symm
  · rw [clI (by omega)]
    refine ⟨ge_no hk (by omega), fun _ => ⟨inI (by omega) (by decide), fun q => h1 k hk q hI, fun q => hrec (fun j hj => ?_)⟩⟩
    rcases Nat.lt_succ_iff_lt_or_eq.mp hj with w | w
    · exact hI j w
    · rw [w]; exact q
  · exact ⟨fun _ => h0 hI, ge_yes⟩
theorem howCellIs_ok {σ : Mem} {z : Z} {x : Int32} {P : Int32 → Prop} {c : Nat} (R : Rel σ 0 z) (I : Iz z) (hx : x = nI c) (hc : c < 40) (h : P (z (23 + c))) : wp_X1_howCellIs σ x P := by
  subst hx
  unfold wp_X1_howCellIs
  rw [clI (by omega), show σ 1 c = _ from R.ret c hc, show σ 3 c = _ from R.own c hc]
  refine ⟨inI hc (by decide), fun q => ⟨inI hc (by decide), ?_⟩, fun q => ?_⟩
  · have h2 : ¬ z (23 + c) = 2 := fun w => by rw [if_pos w] at q; exact n10 q
    rcases I.pg hc with ⟨e, e1, -⟩ | ⟨p, hp, e, -, e1, -⟩
    · rw [e]
      refine br_f m5_nge ?_
      rcases I.how hc with w | w | w
      · rw [w] at h; exact h
      · exact absurd w h2
      · exact absurd w e1
    · rw [e]
      rw [e1] at h
      exact br_t (nI_ge0 (by omega)) h
  · have h2 : z (23 + c) = 2 := Classical.byContradiction (fun w => q (by rw [if_neg w]))
    rw [h2] at h
    exact h
theorem cellsThatAre_ok {σ : Mem} {z : Z} {x : Int32} {P : Int32 → Prop} (R : Rel σ 0 z) (I : Iz z) (h : P (nI (zcn z x 40))) : wp_X1_cellsThatAre σ x P := by
  unfold wp_X1_cellsThatAre
  refine lq2_inv 40 (fun k a => a = nI (zcn z x k)) (fun k a rec hk hI hrec => ?_) (fun a rec hI => ?_) nI_0.symm nI_0.symm
  · subst hI
    refine ⟨ge_no hk (by decide), fun _ => howCellIs_ok R I rfl hk ⟨fun q => hrec _ ?_, fun q => hrec _ ?_⟩⟩
    · rw [nI_1, zcn, if_pos q]
    · rw [zcn, if_neg q]; rfl
  · subst hI
    exact ⟨fun _ => h, ge_yes⟩
