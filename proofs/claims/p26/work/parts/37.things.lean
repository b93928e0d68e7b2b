/-! PURE PART: a thing is read, by the class and by the reference -/
theorem nI_1' : (1 : Int32) = nI 1 := rfl
theorem cnm_ok {σ τ : Mem} {t : Z} {N k i w ll hh : Nat} {s lo hi : Int32} {P : Int32 → Mem → Prop} (T : TA τ t N) (C : Ch t N) (F : PF σ τ i k) (x0 : τ 91 i = 0) (hkN : k < N) (hi30 : i < 30) (hs : s = nI w) (hw : w < 65536) (ht : t k = s) (hlo : lo = nI ll) (hhi : hi = nI hh) (hl : ll ≤ 1) (h9 : 9 ≤ hh) (hH : hh ≤ 9999) (e : thg t N k = nmT t N s ll hh k) (hTH : ∀ v, ll ≤ v → v ≤ hh → TH s (nI v) 0 0 (nI v)) (h0 : ∀ k' τ, thg t N k = (k', none) → PF σ τ i k' → P 0 τ) (h1 : ∀ k' s a b τ, thg t N k = (k', some (s, a, b)) → PF σ τ i k' → τ 90 i = s → TH s a b (τ 91 i) (τ 92 i) → P 1 τ) :
    wp_X2_readKind τ (nI i) s (fun r4 σ5 => ((r4 = 0 → P 0 σ5) ∧ (¬ r4 = 0 → wp_X2_readNumber σ5 (nI i) lo hi (fun r6 σ7 => ((r6 = 0 → P 0 σ7) ∧ (¬ r6 = 0 → P 1 σ7)))))) := by
  have hN := C.1
  refine kind_ok T C.1 F.1 hkN hi30 hs hw ht (br_f n10 ?_)
  have F1 : PF σ (up2 τ 90 i s) i k := F.arr (Or.inl rfl) s
  have T1 : TA (up2 τ 90 i s) t N := T.far (up2_ne _ (by decide)) (up2_ne _ (by decide))
  refine rnum_ok T1 C (by omega) rfl hi30 hlo hhi hl h9 hH (fun q => br_t rfl (h0 (k + 1) _ ?_ (F1.pos _))) (fun v k' q => br_f n10 (h1 k' s (nI v) 0 _ ?_ ((F1.pos k').arr (Or.inr (Or.inr rfl)) _) ?_ ?_))
  · rw [e]; unfold nmT; rw [q]
  · rw [e]; unfold nmT; rw [q]
  · rw [up2_ne _ (by decide), up2_ne _ (by decide), up2_at]
  · have b := num_p q
    rw [up2_at, up2_ne _ (by decide), up2_ne _ (by decide), up2_ne _ (by decide), x0]
    exact hTH v b.2.2.1 b.2.2.2
theorem cpm_ok {σ τ : Mem} {t : Z} {N k i w : Nat} {s : Int32} {P : Int32 → Mem → Prop} (T : TA τ t N) (C : Ch t N) (F : PF σ τ i k) (hkN : k < N) (hi30 : i < 30) (hs : s = nI w) (hw : w < 65536) (ht : t k = s) (e : thg t N k = pmT t N s k) (hTH : ∀ p y, p < 50 → TH s (nI p) 0 (nI p) y) (h0 : ∀ k' τ, thg t N k = (k', none) → PF σ τ i k' → P 0 τ) (h1 : ∀ k' s a b τ, thg t N k = (k', some (s, a, b)) → PF σ τ i k' → τ 90 i = s → TH s a b (τ 91 i) (τ 92 i) → P 1 τ) :
    wp_X2_readKind τ (nI i) s (fun r4 σ5 => ((r4 = 0 → P 0 σ5) ∧ (¬ r4 = 0 → wp_X2_readPage σ5 (nI i) (fun r6 σ7 => ((r6 = 0 → P 0 σ7) ∧ (¬ r6 = 0 → P 1 σ7)))))) := by
  have hN := C.1
  refine kind_ok T C.1 F.1 hkN hi30 hs hw ht (br_f n10 ?_)
  have F1 : PF σ (up2 τ 90 i s) i k := F.arr (Or.inl rfl) s
  have T1 : TA (up2 τ 90 i s) t N := T.far (up2_ne _ (by decide)) (up2_ne _ (by decide))
  refine rpage_ok T1 C (by omega) rfl hi30 (fun k' q => br_t rfl (h0 k' _ ?_ (F1.pos _))) (fun p k' hp q => br_f n10 (h1 k' s (nI p) 0 _ ?_ ((F1.pos k').arr (Or.inr (Or.inl rfl)) _) ?_ ?_))
  · rw [e]; unfold pmT; rw [q]
  · rw [e]; unfold pmT; rw [q]
  · rw [up2_ne _ (by decide), up2_ne _ (by decide), up2_at]
  · rw [up2_at]
    exact hTH p _ hp
theorem cthing_ok {σ : Mem} {t : Z} {N k i : Nat} {y : Int32} {P : Int32 → Mem → Prop} (T : TA σ t N) (C : Ch t N) (hp : σ 89 5 = nI k) (hk : k ≤ 60) (hy : y = nI i) (hi30 : i < 30) (h0 : ∀ k' τ, thg t N k = (k', none) → PF σ τ i k' → P 0 τ) (h1 : ∀ k' s a b τ, thg t N k = (k', some (s, a, b)) → PF σ τ i k' → τ 90 i = s → TH s a b (τ 91 i) (τ 92 i) → P 1 τ) : wp_X2_readThing σ y P := by
  subst hy
  have hN := C.1
  unfold wp_X2_readThing
  simp only [bm]
  rw [hp, clI (by omega)]
  have F : PF σ (up2 (up2 σ 91 i 0) 92 i 0) i k := ((PF.rf hp).arr (Or.inr (Or.inl rfl)) 0).arr (Or.inr (Or.inr rfl)) 0
  have x0 : up2 (up2 σ 91 i 0) 92 i 0 91 i = 0 := by rw [up2_ne _ (by decide), up2_at]
  have T0 := T.pf F
  generalize up2 (up2 σ 91 i 0) 92 i 0 = τ at F x0 T0
  have hin := inI hi30 (n := 30) (by decide)
  refine at_ok T C.1 rfl (by omega) (fun hkN => ⟨hin, hin, fun ht => ?_, fun g1 => ⟨fun ht => ?_, fun g2 => ⟨fun ht => ?_, fun g3 => ⟨fun ht => ?_, fun g4 => ⟨fun ht => ?_, fun g5 => ⟨fun ht => ?_, fun g6 => ⟨fun ht => ?_, fun g7 => h0 k _ (thg_el g1 g2 g3 g4 g5 g6 g7) F⟩⟩⟩⟩⟩⟩⟩) (fun hkN => ⟨hin, hin, br_f (by decide) (br_f (by decide) (br_f (by decide) (br_f (by decide) (br_f (by decide) (br_f (by decide) (br_f (by decide) (h0 k _ (thg_no hkN) F)))))))⟩)
  · exact cnm_ok (w := 46) (ll := 1) (hh := 99) T0 C F x0 hkN hi30 rfl (by decide) ht nI_1' rfl (by decide) (by decide) (by decide) (thg_46 hkN ht) (fun v a b => Or.inl ⟨rfl, v, a, b, rfl, rfl⟩) h0 h1
  · exact cnm_ok (w := 101) (ll := 0) (hh := 39) T0 C F x0 hkN hi30 rfl (by decide) ht nI_0.symm rfl (by decide) (by decide) (by decide) (thg_101 hkN ht) (fun v a b => Or.inr (Or.inl ⟨rfl, v, by omega, rfl, rfl⟩)) h0 h1
  · exact cpm_ok (w := 102) T0 C F hkN hi30 rfl (by decide) ht (thg_102 hkN ht) (fun p y hp => Or.inr (Or.inr (Or.inl ⟨rfl, p, hp, rfl, rfl⟩))) h0 h1
  · exact cnm_ok (w := 104) (ll := 0) (hh := 39) T0 C F x0 hkN hi30 rfl (by decide) ht nI_0.symm rfl (by decide) (by decide) (by decide) (thg_104 hkN ht) (fun v a b => Or.inr (Or.inr (Or.inr (Or.inl ⟨rfl, v, by omega, rfl, rfl⟩)))) h0 h1
  · exact cpm_ok (w := 112) T0 C F hkN hi30 rfl (by decide) ht (thg_112 hkN ht) (fun p y hp => Or.inr (Or.inr (Or.inr (Or.inr (Or.inl ⟨rfl, p, hp, rfl, rfl⟩))))) h0 h1
  · refine kind_ok (w := 115) T0 C.1 F.1 hkN hi30 rfl (by decide) ht ⟨Or.inr rfl, h1 (k + 1) 115 0 0 _ (thg_115 hkN ht) ((F.arr (Or.inl rfl) _).pos _) ?_ (Or.inr (Or.inr (Or.inr (Or.inr (Or.inr (Or.inl rfl))))))⟩
    rw [up2_ne _ (by decide), up2_at]
  · have e := thg_119 hkN ht
    refine kind_ok (w := 119) T0 C.1 F.1 hkN hi30 rfl (by decide) ht (br_f n10 ?_)
    have F1 : PF σ (up2 τ 90 i 119) i k := F.arr (Or.inl rfl) 119
    refine rpage_ok (T.pf F1) C (by omega) rfl hi30 (fun k' q => br_t rfl (h0 k' _ ?_ (F1.pos _))) (fun p k' hpp q => br_f n10 ?_)
    · rw [e]; unfold wrT; rw [q]
    · have F2 : PF σ (up2 (up2 (up2 τ 90 i 119) 89 5 (nI k')) 91 i (nI p)) i k' := (F1.pos k').arr (Or.inr (Or.inl rfl)) _
      have b := pgT_p q (by omega)
      refine sign_ok (T.pf F2) C.1 F2.1 (by omega) (by decide) (fun q1 q2 => br_f n10 ?_) (fun q1 => br_t rfl (h0 k' _ ?_ F2))
      · refine rnum_ok (ll := 0) (hh := 9999) (T.pf F2) C (by omega) rfl hi30 nI_0.symm rfl (by decide) (by decide) (by decide) (fun q3 => br_t rfl (h0 (k' + 1) _ ?_ (F2.pos _))) (fun v k2 q3 => br_f n10 (h1 k2 119 (nI p) (nI v) _ ?_ ((F2.pos k2).arr (Or.inr (Or.inr rfl)) _) ?_ ?_))
        · rw [e]; unfold wrT; rw [q]; simp only [if_pos (show k' < N ∧ t k' = 61 from ⟨q1, q2⟩), q3]
        · rw [e]; unfold wrT; rw [q]; simp only [if_pos (show k' < N ∧ t k' = 61 from ⟨q1, q2⟩), q3]
        · rw [up2_ne _ (by decide), up2_ne _ (by decide), up2_ne _ (by decide), up2_ne _ (by decide), up2_at]
        · rw [up2_at, up2_ne _ (by decide), up2_ne _ (by decide), up2_at]
          exact Or.inr (Or.inr (Or.inr (Or.inr (Or.inr (Or.inr ⟨rfl, p, v, hpp, (num_p q3).2.2.2, rfl, rfl, rfl, rfl⟩)))))
      · rw [e]; unfold wrT; rw [q]; simp only [if_neg q1]
/-! the reference -/
def RF (σ τ : Mem) (m k : Nat) : Prop := τ 93 12 = nI k ∧ (∀ i, ¬ i = 11 → ¬ i = 12 → τ 93 i = σ 93 i) ∧ (∀ c, ¬ c = 93 → ¬ c = 99 → τ c = σ c) ∧ ∀ j, j < 3 * m → τ 99 j = σ 99 j
theorem takes_ok {σ : Mem} {t : Z} {N k w : Nat} {s : Int32} {P : Int32 → Mem → Prop} (T : TB σ t N) (hN : N ≤ 60) (hk : k < 2 ^ 31) (h1 : k < N → t k = s → P 1 (up2 σ 93 12 (nI (k + 1)))) (h0 : ¬ (k < N ∧ t k = s) → P 0 (up2 σ 93 12 (nI k))) : wp_X5_takes (up2 σ 93 12 (nI k)) s P := by
  unfold wp_X5_takes
  simp only [jn, bm, up2_up2, e12]
  refine sees_ok (T.up _) hN (e12 _ _) hk (fun q q1 q2 => br_f n10 ⟨Or.inr rfl, ?_⟩) (fun q => br_t rfl ⟨Or.inl rfl, ?_⟩)
  · rw [nI_1]; exact h1 q (Int32.le_antisymm q2 q1)
  · rw [Int32.add_zero]; exact h0 (fun w => q ⟨w.1, by rw [w.2]; exact Int32.le_refl _, by rw [w.2]; exact Int32.le_refl _⟩)
theorem rthing_ok {σ : Mem} {t : Z} {N k m : Nat} {P : Int32 → Mem → Prop} (T : TB σ t N) (C : Ch t N) (hp : σ 93 12 = nI k) (hm : σ 93 11 = nI m) (hk : k ≤ 60) (hmN : k < N → m < 30) (h0 : ∀ k' τ, thg t N k = (k', none) → RF σ τ m k' → P 0 τ) (h1 : ∀ k' s a b τ, thg t N k = (k', some (s, a, b)) → RF σ τ m k' → τ 93 11 = nI (m + 1) → τ 99 (3 * m) = s → τ 99 (3 * m + 1) = a → τ 99 (3 * m + 2) = b → P 1 τ) : wp_X5_readThing σ P := by
  have hN := C.1
  unfold wp_X5_readThing
  have rf : RF σ σ m k := ⟨hp, fun _ _ _ => rfl, fun _ _ _ => rfl, fun _ _ => rfl⟩
  refine jn_c (fun J => (¬ k < N → J 0) ∧ (k < N → J (t k))) ⟨fun hkN => ?_, fun hkN => ?_⟩ (fun J hJ => ?_)
  · refine jn_c (fun _ => True) trivial (fun J _ => ?_)
    exact br_f (by decide) (br_f (by decide) (br_f (by decide) (br_f (by decide) (br_f (by decide) (br_f (by decide) (br_f (by decide) (h0 k σ (thg_no hkN) rf)))))))
  · have hm30 := hmN hkN
    refine jn_c (fun J => (¬ (t k = 46 ∨ t k = 101 ∨ t k = 102 ∨ t k = 104 ∨ t k = 112 ∨ t k = 119) → t k = 115) → J) (fun kind => ?_) (fun J hJ => ?_)
    · simp only [bm]
      rw [hp, nI_1]
      refine jn_c (fun J => ∀ k' x6 x7, ((x6 = -5 ∨ x7 = -5) → thg t N k = (k', none)) → (¬ x6 = -5 → ¬ x7 = -5 → thg t N k = (k', some (t k, x6, x7))) → J (up2 σ 93 12 (nI k')) x6 x7) (fun k' x6 x7 e0 e1 => ?_) (fun J hJ => ?_)
      · have a0 : (3 : Int32) * nI m = nI (3 * m) := by
          show nI 3 * nI m = _
          rw [pk_mul]
        have a1 : nI (3 * m) + 1 = nI (3 * m + 1) := nI_1 _
        have a2 : nI (3 * m) + 2 = nI (3 * m + 2) := by
          show nI (3 * m) + nI 2 = _
          rw [nI_add]
        rw [hm, a0, a1, a2, clI (by omega), clI (by omega), clI (by omega)]
        refine ⟨inI (by omega) (by decide), inI (by omega) (by decide), inI (by omega) (by decide), ?_⟩
        generalize hρ : up2 (up2 (up2 (up2 σ 93 12 (nI k')) 99 (3 * m) (t k)) 99 (3 * m + 1) x6) 99 (3 * m + 2) x7 = ρ
        have r93 : ρ 93 = upd (σ 93) 12 (nI k') := by rw [← hρ, up2_ne _ (by decide), up2_ne _ (by decide), up2_ne _ (by decide), up2_eq]
        have r99 : ρ 99 = upd (upd (upd (σ 99) (3 * m) (t k)) (3 * m + 1) x6) (3 * m + 2) x7 := by rw [← hρ, up2_eq, up2_eq, up2_eq, up2_ne _ (by decide)]
        have ro : ∀ c, ¬ c = 93 → ¬ c = 99 → ρ c = σ c := fun c a b => by rw [← hρ, up2_ne _ b, up2_ne _ b, up2_ne _ b, up2_ne _ a]
        have m1 : ρ 93 11 = nI m := by rw [r93, pk_un (by decide)]; exact hm
        rw [m1, nI_1]
        have F : RF σ (up2 ρ 93 11 (nI (m + 1))) m k' := by
          refine ⟨?_, fun i q1 q2 => ?_, fun c a b => ?_, fun j hj => ?_⟩
          · rw [up2_eq, pk_un (by decide), r93, pk_us]
          · rw [up2_eq, pk_un q1, r93, pk_un q2]
          · rw [up2_ne _ a]; exact ro c a b
          · rw [up2_ne _ (by decide), r99, pk_un (by omega), pk_un (by omega), pk_un (by omega)]
        refine ⟨fun q => h0 k' _ (e0 (Or.inl q)) F, fun q => ⟨fun q2 => h0 k' _ (e0 (Or.inr q2)) F, fun q2 => h1 k' _ _ _ _ (e1 q q2) F (up2_at _ _ _ _) ?_ ?_ ?_⟩⟩
        · rw [up2_ne _ (by decide), r99, pk_un (by omega), pk_un (by omega), pk_us]
        · rw [up2_ne _ (by decide), r99, pk_un (by omega), pk_us]
        · rw [up2_ne _ (by decide), r99, pk_us]
      · have z5 : ¬ (0 : Int32) = -5 := by decide
        have nmc : ∀ (s : Int32) (ll hh : Nat) (lo hi : Int32), t k = s → lo = nI ll → hi = nI hh → ll ≤ 1 → hh ≤ 9999 → thg t N k = nmT t N s ll hh k → wp_X5_number (up2 σ 93 12 (nI (k + 1))) lo hi (fun r13 σ14 => J σ14 r13 0) := by
          intro s ll hh lo hi es elo ehi hl hh2 e
          refine num_ok T C (by omega) elo ehi hl hh2 (fun q => hJ _ _ _ (fun _ => ?_) (fun w => absurd rfl w)) (fun v k' q => hJ _ _ _ (fun w => w.elim (fun w2 => absurd w2 (nI_nm5 ?_)) (fun w2 => absurd w2 z5)) (fun _ _ => ?_))
          · rw [e]; unfold nmT; rw [q]
          · have := num_p q; omega
          · rw [e, es]; unfold nmT; rw [q]
        have pmc : ∀ (s : Int32), t k = s → thg t N k = pmT t N s k → wp_X5_readPage (up2 σ 93 12 (nI (k + 1))) (fun r17 σ18 => J σ18 r17 0) := by
          intro s es e
          refine page5_ok T C (by omega) (fun k' q => hJ _ _ _ (fun _ => ?_) (fun w => absurd rfl w)) (fun p k' hpp q => hJ _ _ _ (fun w => w.elim (fun w2 => absurd w2 (nI_nm5 (by omega))) (fun w2 => absurd w2 z5)) (fun _ _ => ?_))
          · rw [e]; unfold pmT; rw [q]
          · rw [e, es]; unfold pmT; rw [q]
        refine ⟨fun q => nmc 46 1 99 _ _ q nI_1' rfl (by decide) (by decide) (thg_46 hkN q), fun g1 => ⟨fun q => nmc 101 0 39 _ _ q nI_0.symm rfl (by decide) (by decide) (thg_101 hkN q), fun g2 => ⟨fun q => pmc 102 q (thg_102 hkN q), fun g3 => ⟨fun q => nmc 104 0 39 _ _ q nI_0.symm rfl (by decide) (by decide) (thg_104 hkN q), fun g4 => ⟨fun q => pmc 112 q (thg_112 hkN q), fun g5 => ⟨fun q => ?_, fun g6 => ?_⟩⟩⟩⟩⟩⟩
        · have e := thg_119 hkN q
          refine page5_ok T C (by omega) (fun k' q1 => br_t rfl (hJ _ _ _ (fun _ => ?_) (fun _ w => absurd rfl w))) (fun p k' hpp q1 => br_f (nI_nm5 (by omega)) ?_)
          · rw [e]; unfold wrT; rw [q1]
          · have b := pgT_p q1 (by omega)
            refine takes_ok (w := 0) T C.1 (by omega) (fun q2 q3 => br_f n10 (num_ok (ll := 0) (hh := 9999) T C (by omega) nI_0.symm rfl (by decide) (by decide) (fun q4 => hJ _ _ _ (fun _ => ?_) (fun _ w => absurd rfl w)) (fun v k2 q4 => hJ _ _ _ (fun w => w.elim (fun w2 => absurd w2 (nI_nm5 (by omega))) (fun w2 => absurd w2 (nI_nm5 ?_))) (fun _ _ => ?_)))) (fun q2 => br_t rfl (hJ _ _ _ (fun _ => ?_) (fun _ w => absurd rfl w)))
            · rw [e]; unfold wrT; rw [q1]; simp only [if_pos (show k' < N ∧ t k' = 61 from ⟨q2, q3⟩), q4]
            · have := num_p q4; omega
            · rw [e, q]; unfold wrT; rw [q1]; simp only [if_pos (show k' < N ∧ t k' = 61 from ⟨q2, q3⟩), q4]
            · rw [e]; unfold wrT; rw [q1]; simp only [if_neg q2]
        · have q := kind (fun w => w.elim g1 (fun w => w.elim g2 (fun w => w.elim g3 (fun w => w.elim g4 (fun w => w.elim g5 g6)))))
          refine hJ _ _ _ (fun w => w.elim (fun w2 => absurd w2 z5) (fun w2 => absurd w2 z5)) (fun _ _ => ?_)
          rw [thg_115 hkN q, q]
    · refine ⟨fun q => hJ (fun w => absurd (by simp [q]) w), fun g7 => ⟨fun q => hJ (fun w => absurd (by simp [q]) w), fun g3 => ⟨fun q => hJ (fun w => absurd (by simp [q]) w), fun g5 => ⟨fun q => hJ (fun w => absurd (by simp [q]) w), fun g2 => ⟨fun q => hJ (fun w => absurd (by simp [q]) w), fun g4 => ⟨fun q => hJ (fun w => absurd (by simp [q]) w), fun g1 => ⟨fun q => hJ (fun _ => q), fun g6 => h0 k σ (thg_el g1 g2 g3 g4 g5 g6 g7) rf⟩⟩⟩⟩⟩⟩⟩
  · rw [T.1, hp]
    refine ⟨fun q => hJ.1 (fun w => absurd q (nI_ge w (by omega))), fun q => ?_⟩
    have hkN : k < N := by
      rcases Nat.lt_or_ge k N with w | w
      · exact w
      · exact absurd (nI_le w (by omega)) q
    rw [clI (by omega), T.2 k hkN]
    exact ⟨inI (by omega) (by decide), hJ.2 hkN⟩
