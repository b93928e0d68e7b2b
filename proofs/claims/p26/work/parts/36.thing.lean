/-! PURE PART: a thing of the text -/
theorem jn_c {A : Type} {k : A} {b : A → Prop} (C : A → Prop) (hk : C k) (hb : ∀ J, C J → b J) : jn k b := hb k hk
theorem up2_at (σ : Mem) (a i : Nat) (v : Int32) : up2 σ a i v a i = v := by rw [up2_eq, pk_us]
def nmT (t : Z) (N : Nat) (s : Int32) (lo hi k : Nat) : Nat × Option (Int32 × Int32 × Int32) := match num t N lo hi (k + 1) with
  | none => (k + 1, none)
  | some (v, k') => (k', some (s, nI v, 0))
def pmT (t : Z) (N : Nat) (s : Int32) (k : Nat) : Nat × Option (Int32 × Int32 × Int32) := match pgT t N (k + 1) with
  | (k', none) => (k', none)
  | (k', some p) => (k', some (s, nI p, 0))
def wrT (t : Z) (N k : Nat) : Nat × Option (Int32 × Int32 × Int32) := match pgT t N (k + 1) with
  | (k', none) => (k', none)
  | (k', some p) => if k' < N ∧ t k' = 61 then (match num t N 0 9999 (k' + 1) with
    | none => (k' + 1, none)
    | some (v, k2) => (k2, some (119, nI p, nI v))) else (k', none)
def thg (t : Z) (N k : Nat) : Nat × Option (Int32 × Int32 × Int32) := if k < N then (if t k = 46 then nmT t N 46 1 99 k else if t k = 101 then nmT t N 101 0 39 k else if t k = 102 then pmT t N 102 k else if t k = 104 then nmT t N 104 0 39 k else if t k = 112 then pmT t N 112 k else if t k = 115 then (k + 1, some (115, 0, 0)) else if t k = 119 then wrT t N k else (k, none)) else (k, none)
theorem thg_no {t : Z} {N k : Nat} (h : ¬ k < N) : thg t N k = (k, none) := by unfold thg; rw [if_neg h]
theorem thg_46 {t : Z} {N k : Nat} (h : k < N) (e : t k = 46) : thg t N k = nmT t N 46 1 99 k := by unfold thg; rw [if_pos h, if_pos e]
theorem thg_101 {t : Z} {N k : Nat} (h : k < N) (e : t k = 101) : thg t N k = nmT t N 101 0 39 k := by unfold thg; rw [if_pos h, e, if_neg (by decide), if_pos rfl]
theorem thg_102 {t : Z} {N k : Nat} (h : k < N) (e : t k = 102) : thg t N k = pmT t N 102 k := by unfold thg; rw [if_pos h, e, if_neg (by decide), if_neg (by decide), if_pos rfl]
theorem thg_104 {t : Z} {N k : Nat} (h : k < N) (e : t k = 104) : thg t N k = nmT t N 104 0 39 k := by unfold thg; rw [if_pos h, e, if_neg (by decide), if_neg (by decide), if_neg (by decide), if_pos rfl]
theorem thg_112 {t : Z} {N k : Nat} (h : k < N) (e : t k = 112) : thg t N k = pmT t N 112 k := by unfold thg; rw [if_pos h, e, if_neg (by decide), if_neg (by decide), if_neg (by decide), if_neg (by decide), if_pos rfl]
theorem thg_115 {t : Z} {N k : Nat} (h : k < N) (e : t k = 115) : thg t N k = (k + 1, some (115, 0, 0)) := by unfold thg; rw [if_pos h, e, if_neg (by decide), if_neg (by decide), if_neg (by decide), if_neg (by decide), if_neg (by decide), if_pos rfl]
theorem thg_119 {t : Z} {N k : Nat} (h : k < N) (e : t k = 119) : thg t N k = wrT t N k := by unfold thg; rw [if_pos h, e, if_neg (by decide), if_neg (by decide), if_neg (by decide), if_neg (by decide), if_neg (by decide), if_neg (by decide), if_pos rfl]
theorem thg_el {t : Z} {N k : Nat} (h1 : ¬ t k = 46) (h2 : ¬ t k = 101) (h3 : ¬ t k = 102) (h4 : ¬ t k = 104) (h5 : ¬ t k = 112) (h6 : ¬ t k = 115) (h7 : ¬ t k = 119) : thg t N k = (k, none) := by
  unfold thg
  by_cases h : k < N
  · rw [if_pos h, if_neg h1, if_neg h2, if_neg h3, if_neg h4, if_neg h5, if_neg h6, if_neg h7]
  · rw [if_neg h]
/-! how far it goes -/
theorem pgT_p {t : Z} {N k k' : Nat} {o : Option Nat} (h : pgT t N k = (k', o)) (hk : k ≤ N) : k ≤ k' ∧ k' ≤ N := by
  unfold pgT at h
  cases hd : dig t N k with
  | none => rw [hd] at h; simp only [Prod.mk.injEq] at h; omega
  | some d =>
    have := dig_lt hd
    rw [hd] at h
    by_cases h4 : d ≤ 4
    · simp only [if_pos h4] at h
      cases he : dig t N (k + 1) with
      | none => rw [he] at h; simp only [Prod.mk.injEq] at h; omega
      | some e => have := dig_lt he; rw [he] at h; simp only [Prod.mk.injEq] at h; omega
    · simp only [if_neg h4, Prod.mk.injEq] at h; omega
theorem nmT_p {t : Z} {N lo hi k k' : Nat} {s : Int32} {o : Option (Int32 × Int32 × Int32)} (h : nmT t N s lo hi k = (k', o)) (hk : k < N) : k < k' ∧ k' ≤ N := by
  unfold nmT at h
  cases hd : num t N lo hi (k + 1) with
  | none => rw [hd] at h; simp only [Prod.mk.injEq] at h; omega
  | some x =>
    obtain ⟨v, k2⟩ := x
    have := num_p hd
    rw [hd] at h; simp only [Prod.mk.injEq] at h; omega
theorem pmT_p {t : Z} {N k k' : Nat} {s : Int32} {o : Option (Int32 × Int32 × Int32)} (h : pmT t N s k = (k', o)) (hk : k < N) : k < k' ∧ k' ≤ N := by
  unfold pmT at h
  rcases hd : pgT t N (k + 1) with ⟨k2, _ | p⟩ <;> have := pgT_p hd (by omega) <;> rw [hd] at h <;> simp only [Prod.mk.injEq] at h <;> omega
theorem wrT_p {t : Z} {N k k' : Nat} {o : Option (Int32 × Int32 × Int32)} (h : wrT t N k = (k', o)) (hk : k < N) : k < k' ∧ k' ≤ N := by
  unfold wrT at h
  rcases hd : pgT t N (k + 1) with ⟨k2, _ | p⟩
  · have := pgT_p hd (by omega)
    rw [hd] at h; simp only [Prod.mk.injEq] at h; omega
  · have := pgT_p hd (by omega)
    rw [hd] at h
    by_cases hc : k2 < N ∧ t k2 = 61
    · simp only [if_pos hc] at h
      cases he : num t N 0 9999 (k2 + 1) with
      | none => rw [he] at h; simp only [Prod.mk.injEq] at h; omega
      | some x =>
        obtain ⟨v, k3⟩ := x
        have := num_p he
        rw [he] at h; simp only [Prod.mk.injEq] at h; omega
    · simp only [if_neg hc, Prod.mk.injEq] at h; omega
theorem thg_p {t : Z} {N k k' : Nat} {o : Option (Int32 × Int32 × Int32)} (h : thg t N k = (k', o)) (hk : k ≤ N) : k ≤ k' ∧ k' ≤ N ∧ (¬ o = none → k < k') := by
  by_cases hl : k < N
  · have r : (k < k' ∧ k' ≤ N) → k ≤ k' ∧ k' ≤ N ∧ (¬ o = none → k < k') := fun w => ⟨by omega, w.2, fun _ => w.1⟩
    by_cases h1 : t k = 46
    · rw [thg_46 hl h1] at h; exact r (nmT_p h hl)
    by_cases h2 : t k = 101
    · rw [thg_101 hl h2] at h; exact r (nmT_p h hl)
    by_cases h3 : t k = 102
    · rw [thg_102 hl h3] at h; exact r (pmT_p h hl)
    by_cases h4 : t k = 104
    · rw [thg_104 hl h4] at h; exact r (nmT_p h hl)
    by_cases h5 : t k = 112
    · rw [thg_112 hl h5] at h; exact r (pmT_p h hl)
    by_cases h6 : t k = 115
    · rw [thg_115 hl h6] at h
      simp only [Prod.mk.injEq] at h
      exact r (by omega)
    by_cases h7 : t k = 119
    · rw [thg_119 hl h7] at h; exact r (wrT_p h hl)
    · rw [thg_el h1 h2 h3 h4 h5 h6 h7] at h
      simp only [Prod.mk.injEq] at h
      exact ⟨by omega, by omega, fun w => absurd h.2.symm w⟩
  · rw [thg_no hl] at h
    simp only [Prod.mk.injEq] at h
    exact ⟨by omega, by omega, fun w => absurd h.2.symm w⟩
/-- a thing, as the reference holds it and as the class does -/
def TH (s a b x y : Int32) : Prop :=
  (s = 46 ∧ ∃ v, 1 ≤ v ∧ v ≤ 99 ∧ a = nI v ∧ y = nI v) ∨ (s = 101 ∧ ∃ c, c < 40 ∧ a = nI c ∧ y = nI c) ∨ (s = 102 ∧ ∃ p, p < 50 ∧ a = nI p ∧ x = nI p) ∨ (s = 104 ∧ ∃ c, c < 40 ∧ a = nI c ∧ y = nI c) ∨ (s = 112 ∧ ∃ p, p < 50 ∧ a = nI p ∧ x = nI p) ∨ s = 115 ∨ (s = 119 ∧ ∃ p v, p < 50 ∧ v ≤ 9999 ∧ a = nI p ∧ b = nI v ∧ x = nI p ∧ y = nI v)
def PF (σ τ : Mem) (i k : Nat) : Prop := τ 89 5 = nI k ∧ (∀ j, ¬ j = 5 → τ 89 j = σ 89 j) ∧ (∀ c, ¬ c = 89 → ¬ c = 90 → ¬ c = 91 → ¬ c = 92 → τ c = σ c) ∧ ∀ c j, (c = 90 ∨ c = 91 ∨ c = 92) → ¬ j = i → τ c j = σ c j
theorem PF.pos {σ τ : Mem} {i k : Nat} (h : PF σ τ i k) (k' : Nat) : PF σ (up2 τ 89 5 (nI k')) i k' := by
  obtain ⟨h1, h2, h3, h4⟩ := h
  refine ⟨up2_at _ _ _ _, fun j hj => ?_, fun c a b d e => ?_, fun c j hc hj => ?_⟩
  · rw [up2_eq, pk_un hj]; exact h2 j hj
  · rw [up2_ne _ a]; exact h3 c a b d e
  · rw [up2_ne _ (by omega)]; exact h4 c j hc hj
theorem PF.arr {σ τ : Mem} {i k : Nat} (h : PF σ τ i k) {c : Nat} (hc : c = 90 ∨ c = 91 ∨ c = 92) (v : Int32) : PF σ (up2 τ c i v) i k := by
  obtain ⟨h1, h2, h3, h4⟩ := h
  refine ⟨by rw [up2_ne _ (by omega)]; exact h1, fun j hj => ?_, fun e a b d f => ?_, fun e j he hj => ?_⟩
  · rw [up2_ne _ (by omega)]; exact h2 j hj
  · rw [up2_ne _ (by omega)]; exact h3 e a b d f
  · by_cases q : e = c
    · subst q; rw [up2_eq, pk_un hj]; exact h4 e j he hj
    · rw [up2_ne _ q]; exact h4 e j he hj
theorem PF.rf {σ : Mem} {i k : Nat} (h : σ 89 5 = nI k) : PF σ σ i k := ⟨h, fun _ _ => rfl, fun _ _ _ _ _ => rfl, fun _ _ _ _ => rfl⟩
theorem TA.pf {σ τ : Mem} {t : Z} {N i k : Nat} (T : TA σ t N) (h : PF σ τ i k) : TA τ t N := T.far (h.2.2.1 87 (by decide) (by decide) (by decide) (by decide)) (h.2.2.1 88 (by decide) (by decide) (by decide) (by decide))
theorem sign_ok {σ : Mem} {t : Z} {N k : Nat} {s : Int32} {P : Int32 → Mem → Prop} (T : TA σ t N) (hN : N ≤ 60) (hp : σ 89 5 = nI k) (hk : k < 2 ^ 31) (hs : ¬ (-5 : Int32) = s) (h1 : k < N → t k = s → P 1 (up2 σ 89 5 (nI (k + 1)))) (h0 : ¬ (k < N ∧ t k = s) → P 0 σ) : wp_X2_readSign σ s P := by
  unfold wp_X2_readSign
  simp only [bm]
  rw [hp, nI_1]
  exact at_ok T hN rfl hk (fun q => ⟨fun w => h1 q w, fun w => h0 (fun w2 => w w2.2)⟩) (fun q => br_f hs (h0 (fun w => q w.1)))
theorem kind_ok {σ : Mem} {t : Z} {N k i w : Nat} {s : Int32} {P : Int32 → Mem → Prop} (T : TA σ t N) (hN : N ≤ 60) (hp : σ 89 5 = nI k) (hkN : k < N) (hi : i < 30) (hs : s = nI w) (hw : w < 65536) (ht : t k = s) (h : P 1 (up2 (up2 σ 90 i s) 89 5 (nI (k + 1)))) : wp_X2_readKind σ (nI i) s P := by
  unfold wp_X2_readKind
  simp only [bm]
  have en : vp_nar .char s = s := by rw [hs]; exact nar_c hw
  rw [en, clI (by omega)]
  have T2 : TA (up2 σ 90 i s) t N := T.far (up2_ne _ (by decide)) (up2_ne _ (by decide))
  refine ⟨inI hi (by decide), sign_ok T2 hN (k := k) (by rw [up2_ne _ (by decide)]; exact hp) (by omega) ?_ (fun _ _ => ⟨Or.inr rfl, h⟩) (fun q => absurd ⟨hkN, ht⟩ q)⟩
  rw [hs]
  exact fun q => nI_nm5 (by omega) q.symm
