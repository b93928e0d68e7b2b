/-! PURE PART: THE TEXT, what is read off it -/
theorem up2_up2 (σ : Mem) (k i : Nat) (v w : Int32) : up2 (up2 σ k i v) k i w = up2 σ k i w := by
  funext a
  by_cases h : a = k
  · subst h
    simp only [up2, if_true]
    funext j
    by_cases hj : j = i
    · rw [hj, pk_us, pk_us]
    · rw [pk_un hj, pk_un hj, pk_un hj]
  · simp [up2, h]
theorem up2_id (σ : Mem) (k i : Nat) : up2 σ k i (σ k i) = σ := by
  funext a
  by_cases h : a = k
  · subst h
    rw [up2_eq]
    funext j
    by_cases hj : j = i
    · rw [hj, pk_us]
    · rw [pk_un hj]
  · rw [up2_ne _ h]
def dig (t : Z) (N k : Nat) : Option Nat := if k < N then (if 48 ≤ (t k).toNatClampNeg ∧ (t k).toNatClampNeg ≤ 57 then some ((t k).toNatClampNeg - 48) else none) else none
def numL (t : Z) (N hi : Nat) : Nat → Nat → Nat → Nat × Nat
  | 0, v, k => (v, k)
  | f + 1, v, k => if v = 0 then (v, k) else match dig t N k with
    | none => (v, k)
    | some d => if 10 * v + d ≤ hi then numL t N hi f (10 * v + d) (k + 1) else (v, k)
def num (t : Z) (N lo hi k : Nat) : Option (Nat × Nat) := match dig t N k with
  | none => none
  | some d => if lo ≤ d ∧ d ≤ hi then some (numL t N hi 60 d (k + 1)) else none
def pgT (t : Z) (N k : Nat) : Nat × Option Nat := match dig t N k with
  | none => (k, none)
  | some d => if d ≤ 4 then (match dig t N (k + 1) with
    | none => (k + 1, none)
    | some e => (k + 2, some (10 * d + e))) else (k, none)
/-- characters -/
def Ch (t : Z) (N : Nat) : Prop := N ≤ 60 ∧ ∀ i, i < N → ∃ w, w < 65536 ∧ t i = nI w
def TA (σ : Mem) (t : Z) (N : Nat) : Prop := σ 87 1 = nI N ∧ ∀ i, i < N → σ 88 i = t i
def TB (σ : Mem) (t : Z) (N : Nat) : Prop := σ 93 7 = nI N ∧ ∀ i, i < N → σ 98 i = t i
theorem dig_cases {t : Z} {N : Nat} (C : Ch t N) (k : Nat) : (∃ d, d < 10 ∧ k < N ∧ dig t N k = some d ∧ t k = nI (48 + d)) ∨ (dig t N k = none ∧ (k < N → ∃ w, w < 65536 ∧ t k = nI w ∧ ¬ (48 ≤ w ∧ w ≤ 57))) := by
  by_cases hk : k < N
  · obtain ⟨w, hw, e⟩ := C.2 k hk
    by_cases hd : 48 ≤ w ∧ w ≤ 57
    · refine Or.inl ⟨w - 48, by omega, hk, ?_, ?_⟩
      · unfold dig
        rw [if_pos hk, e, clI (by omega), if_pos hd]
      · rw [e]; congr 1; omega
    · refine Or.inr ⟨?_, fun _ => ⟨w, hw, e, hd⟩⟩
      unfold dig
      rw [if_pos hk, e, clI (by omega), if_neg hd]
  · refine Or.inr ⟨?_, fun w => absurd w hk⟩
    unfold dig
    rw [if_neg hk]
theorem numL_z {t : Z} {N hi f k : Nat} : numL t N hi f 0 k = (0, k) := by cases f <;> simp [numL]
theorem numL_n {t : Z} {N hi f v k : Nat} (h : dig t N k = none) : numL t N hi f v k = (v, k) := by cases f <;> simp [numL, h]
theorem numL_b {t : Z} {N hi f v k d : Nat} (h : dig t N k = some d) (hb : ¬ 10 * v + d ≤ hi) : numL t N hi f v k = (v, k) := by cases f <;> simp [numL, h, hb]
theorem numL_s {t : Z} {N hi f v k d : Nat} (hv : v ≠ 0) (h : dig t N k = some d) (hb : 10 * v + d ≤ hi) : numL t N hi (f + 1) v k = numL t N hi f (10 * v + d) (k + 1) := by simp [numL, h, hb, hv]
theorem dig_lt {t : Z} {N k d : Nat} (h : dig t N k = some d) : k < N := by
  unfold dig at h
  by_cases hk : k < N
  · exact hk
  · rw [if_neg hk] at h; cases h
theorem numL_p {t : Z} {N hi : Nat} : ∀ f v k v' k', numL t N hi f v k = (v', k') → k ≤ N → v ≤ hi → k ≤ k' ∧ k' ≤ N ∧ v ≤ v' ∧ v' ≤ hi := by
  intro f
  induction f with
  | zero => intro v k v' k' h hk hv; simp only [numL, Prod.mk.injEq] at h; omega
  | succ f ih =>
    intro v k v' k' h hk hv
    by_cases h0 : v = 0
    · subst h0; rw [numL_z] at h; simp only [Prod.mk.injEq] at h; omega
    · cases hd : dig t N k with
      | none => rw [numL_n hd] at h; simp only [Prod.mk.injEq] at h; omega
      | some d =>
        have := dig_lt hd
        by_cases hb : 10 * v + d ≤ hi
        · rw [numL_s h0 hd hb] at h
          have := ih _ _ _ _ h (by omega) hb
          omega
        · rw [numL_b hd hb] at h; simp only [Prod.mk.injEq] at h; omega
theorem num_p {t : Z} {N lo hi k v k' : Nat} (h : num t N lo hi k = some (v, k')) : k < k' ∧ k' ≤ N ∧ lo ≤ v ∧ v ≤ hi := by
  unfold num at h
  cases hd : dig t N k with
  | none => rw [hd] at h; cases h
  | some d =>
    rw [hd] at h
    have hk := dig_lt hd
    by_cases hb : lo ≤ d ∧ d ≤ hi
    · simp only [if_pos hb, Option.some.injEq] at h
      have := numL_p _ _ _ _ _ h (by omega) hb.2
      omega
    · simp only [if_neg hb] at h; cases h
theorem num_s {t : Z} {N lo hi k d : Nat} (h : dig t N k = some d) (hb : lo ≤ d ∧ d ≤ hi) : num t N lo hi k = some (numL t N hi 60 d (k + 1)) := by unfold num; rw [h]; simp only [if_pos hb]
theorem num_n {t : Z} {N lo hi k : Nat} (h : dig t N k = none) : num t N lo hi k = none := by unfold num; rw [h]
theorem num_b {t : Z} {N lo hi k d : Nat} (h : dig t N k = some d) (hb : ¬ (lo ≤ d ∧ d ≤ hi)) : num t N lo hi k = none := by unfold num; rw [h]; simp only [if_neg hb]
/-- one digit only -/
theorem numL_1 {t : Z} {N hi f k d : Nat} (hh : hi ≤ 9) : numL t N hi f d k = (d, k) := by
  by_cases h0 : d = 0
  · rw [h0, numL_z]
  · cases hd : dig t N k with
    | none => exact numL_n hd
    | some e => exact numL_b hd (by omega)
/-! the class -/
theorem at_ok {σ : Mem} {t : Z} {N k : Nat} {x : Int32} {P : Int32 → Prop} (T : TA σ t N) (hN : N ≤ 60) (hx : x = nI k) (hk : k < 2 ^ 31) (h1 : k < N → P (t k)) (h0 : ¬ k < N → P (-5)) : wp_X3_at σ x P := by
  subst hx
  unfold wp_X3_at
  rw [T.1]
  refine br_f (nI_nn hk) ⟨fun q => h0 (fun w => absurd q (nI_ge w (by omega))), fun q => ?_⟩
  have hkN : k < N := by
    rcases Nat.lt_or_ge k N with w | w
    · exact w
    · exact absurd (nI_le w hk) q
  rw [clI hk, T.2 k hkN]
  exact ⟨inI (by omega) (by decide), h1 hkN⟩
theorem dg_ok {σ : Mem} {t : Z} {N k : Nat} {x : Int32} {P : Int32 → Prop} (T : TA σ t N) (C : Ch t N) (hx : x = nI k) (hk : k < 2 ^ 31) (h1 : ∀ d, d < 10 → dig t N k = some d → P (nI d)) (h0 : dig t N k = none → P (-5)) : wp_X2_digitAt σ x P := by
  unfold wp_X2_digitAt
  rcases dig_cases C k with ⟨d, hd, hkN, e, et⟩ | ⟨e, hw⟩
  · refine at_ok T C.1 hx hk (fun _ => ?_) (fun w => absurd hkN w)
    rw [et]
    refine w4_yes ((leI (a := 48) (by omega) (by omega)).mpr (by omega)) ((leI (b := 57) (by omega) (by omega)).mpr (by omega)) (br_f n10 ?_)
    have : nI (48 + d) - 48 = nI d := by
      rw [← nI_add]
      show nI 48 + nI d - nI 48 = _
      rw [Int32.add_comm, Int32.add_sub_cancel]
    rw [this]
    exact h1 d hd e
  · refine at_ok T C.1 hx hk (fun w => ?_) (fun _ => ?_)
    · obtain ⟨c, hc, et, hn⟩ := hw w
      rw [et]
      refine w4_no (fun q => hn ⟨?_, ?_⟩) (br_t rfl (h0 e))
      · exact (leI (a := 48) (by omega) (by omega)).mp q.1
      · exact (leI (b := 57) (by omega) (by omega)).mp q.2
    · exact w4_no (by decide) (br_t rfl (h0 e))
theorem TA.far {σ τ : Mem} {t : Z} {N : Nat} (T : TA σ t N) (h1 : τ 87 = σ 87) (h2 : τ 88 = σ 88) : TA τ t N := by
  unfold TA
  rw [h1, h2]
  exact T
theorem rnum_ok {σ : Mem} {t : Z} {N k i ll hh : Nat} {y lo hi : Int32} {P : Int32 → Mem → Prop} (T : TA σ t N) (C : Ch t N) (hk : k ≤ 60) (hy : y = nI i) (hi30 : i < 30) (hlo : lo = nI ll) (hhi : hi = nI hh) (hl : ll ≤ 1) (h9 : 9 ≤ hh) (hH : hh ≤ 9999) (h0 : num t N ll hh k = none → P 0 (up2 σ 89 5 (nI k))) (h1 : ∀ v k', num t N ll hh k = some (v, k') → P 1 (up2 (up2 σ 89 5 (nI k')) 92 i (nI v))) : wp_X2_readNumber (up2 σ 89 5 (nI k)) y lo hi P := by
  subst hy; subst hlo; subst hhi
  have TT : ∀ w, TA (up2 σ 89 5 w) t N := fun w => T.far (up2_ne _ (by decide)) (up2_ne _ (by decide))
  unfold wp_X2_readNumber
  simp only [bm]
  have e5 : ∀ w, up2 σ 89 5 w 89 5 = w := fun w => by rw [up2_eq, pk_us]
  simp only [e5, up2_up2]
  refine dg_ok (TT _) C rfl (by omega) (fun d hd e => ⟨fun q => ?_, fun q => h0 (num_b e (fun w => q ((leI (by omega) (by omega)).mpr w.1)))⟩) (fun e => ⟨fun q => absurd (le_tr (nI_ge0 (by omega)) q) m5, fun _ => h0 (num_n e)⟩)
  have hb : ll ≤ d ∧ d ≤ hh := ⟨(leI (by omega) (by omega)).mp q, by omega⟩
  have en := num_s e hb
  have hkN := dig_lt e
  have hN := C.1
  intro P' hP'
  have key : ∀ f v j, 60 ≤ j + f → j ≤ 60 → v ≤ hh → numL t N hh f v j = numL t N hh 60 d (k + 1) → P' (up2 σ 89 5 (nI j)) (nI v) (nI j) := by
    intro f
    induction f with
    | zero =>
      intro v j hj hj2 hv ej
      have : j = 60 := by omega
      subst this
      refine hP' _ _ _ ?_
      unfold jn
      refine br_t (Int32.le_refl _) ?_
      rw [clI (by omega)]
      exact ⟨inI hi30 (by decide), h1 v 60 (by rw [en, ← ej]; rfl)⟩
    | succ f ih =>
      intro v j hj hj2 hv ej
      refine hP' _ _ _ ?_
      have fin : numL t N hh (f + 1) v j = (v, j) → vp_in (nI i) 30 ∧ P 1 (up2 (up2 σ 89 5 (nI j)) 92 (nI i).toNatClampNeg (nI v)) := fun w => by
        rw [clI (by omega)]
        exact ⟨inI hi30 (by decide), h1 v j (by rw [en, ← ej, w])⟩
      unfold jn
      refine ⟨fun w => fin (numL_n ?_), fun w => dg_ok (TT _) C rfl (by omega) (fun d2 hd2 e2 => br_f (nI_nn (by omega)) ⟨fun w2 => fin ?_, fun w2 => ?_⟩) (fun e2 => br_t m5_lt (fin (numL_n e2)))⟩
      · have : 60 ≤ j := (leI (a := 60) (by omega) (by omega)).mp w
        rcases dig_cases C j with ⟨-, -, q2, -⟩ | ⟨q2, -⟩
        · omega
        · exact q2
      · have : v = 0 := nI_inj (b := 0) (by omega) (by omega) w2
        rw [this]; exact numL_z
      · have hv0 : v ≠ 0 := fun w3 => w2 (by rw [w3]; exact nI_0)
        have ev : nI v * 10 + nI d2 = nI (10 * v + d2) := by
          show nI v * nI 10 + nI d2 = _
          rw [pk_mul, nI_add, Nat.mul_comm]
        have ej1 : nI j + 1 = nI (j + 1) := nI_1 _
        rw [ev]
        refine ⟨fun w3 => ?_, fun w3 => fin (numL_b e2 (fun w4 => w3 ((leI (by omega) (by omega)).mpr w4)))⟩
        have hb2 : 10 * v + d2 ≤ hh := (leI (by omega) (by omega)).mp w3
        have := dig_lt e2
        rw [ej1, e5, ej1, up2_up2]
        exact ih (10 * v + d2) (j + 1) (by omega) (by omega) hb2 (by rw [← ej, numL_s hv0 e2 hb2])
  have e1 : nI k + 1 = nI (k + 1) := nI_1 _
  rw [e1]
  exact key 60 d (k + 1) (by omega) (by omega) (by omega) rfl
theorem rpage_ok {σ : Mem} {t : Z} {N k i : Nat} {y : Int32} {P : Int32 → Mem → Prop} (T : TA σ t N) (C : Ch t N) (hk : k ≤ 60) (hy : y = nI i) (hi30 : i < 30) (h0 : ∀ k', pgT t N k = (k', none) → P 0 (up2 σ 89 5 (nI k'))) (h1 : ∀ p k', p < 50 → pgT t N k = (k', some p) → P 1 (up2 (up2 σ 89 5 (nI k')) 91 i (nI p))) : wp_X2_readPage (up2 σ 89 5 (nI k)) y P := by
  subst hy
  have TT : ∀ w, TA (up2 σ 89 5 w) t N := fun w => T.far (up2_ne _ (by decide)) (up2_ne _ (by decide))
  unfold wp_X2_readPage
  have e5 : ∀ w, up2 σ 89 5 w 89 5 = w := fun w => by rw [up2_eq, pk_us]
  simp only [bm, e5, up2_up2, nI_1]
  refine dg_ok (TT _) C rfl (by omega) (fun d hd e => ?_) (fun e => w4_no (by decide) (br_t rfl (h0 k (by unfold pgT; rw [e]))))
  by_cases h4 : d ≤ 4
  · refine w4_yes (nI_ge0 (by omega)) ((leI (b := 4) (by omega) (by omega)).mpr h4) (br_f n10 ?_)
    refine dg_ok (TT _) C rfl (by omega) (fun d2 hd2 e2 => br_t (nI_ge0 (by omega)) (pageIndex_ok rfl rfl ?_)) (fun e2 => br_f m5 (h0 (k + 1) (by unfold pgT; rw [e]; simp only [if_pos h4, e2])))
    rw [clI (by omega)]
    exact ⟨inI hi30 (by decide), h1 _ (k + 2) (by omega) (by unfold pgT; rw [e]; simp only [if_pos h4, e2])⟩
  · exact w4_no (fun q => h4 ((leI (b := 4) (by omega) (by omega)).mp q.2)) (br_t rfl (h0 k (by unfold pgT; rw [e]; simp only [if_neg h4])))
