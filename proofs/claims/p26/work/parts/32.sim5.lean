theorem sim_list {σ : Mem} (S : SS σ) (y1 : Int32) {Q : Int32 → Int32 → Prop} (h : ∀ r, Q r r) : wp_X4_list σ y1 (fun r => wp_X5_list σ y1 (fun r' => Q r r')) := by
  obtain ⟨R, I, F, L, -⟩ := S.z
  obtain ⟨n, hn, e10, -⟩ := L
  have el : σ 0 10 = nI n := by rw [R.len]; exact e10
  unfold wp_X4_list wp_X5_list
  refine ⟨fun q => ?_, fun q => br_f q (h _)⟩
  unfold wp_X1_listedAt
  rw [el, e10]
  refine br_f (Int32.not_lt.mpr q) ⟨fun q1 => br_t q (br_t q1 (h _)), fun q1 => ?_⟩
  obtain ⟨k, hk, rfl⟩ := nI_of (Int32.not_lt.mpr q)
  have hkn : k < n := by
    rcases Nat.lt_or_ge k n with w | w
    · exact w
    · exact absurd (nI_le w (by omega)) q1
  have p := ix1 (a := 11) (k := k) (n := 313) (by omega) (by decide)
  have e : ((11 : Int32) + nI k).toNatClampNeg = 11 + k := p.2
  rw [clI hk, e, show σ 10 k = _ from R.lis k (by omega)]
  exact ⟨inI (by omega) (by decide), br_t q (br_f q1 ⟨p.1, h _⟩)⟩
theorem sim_next {σ : Mem} (S : SS σ) {Q : Int32 → Int32 → Prop} (h : ∀ r, Q r r) : wp_X4_next σ (fun r => wp_X5_next σ (fun r' => Q r r')) := by
  obtain ⟨R, I, F, L, -⟩ := S.z
  unfold wp_X4_next wp_X5_next
  refine cellToGive_ok (nt := -5) R I (fun c hc _ => nI_nm5 (by omega)) (fun r hr => given_ok I.2.1 (fun r' hr' => ?_))
  rw [← gv_eq hr (fun _ _ => Iff.rfl), ← gv_eq hr' (can_all n10 F)]
  exact h _
theorem sim_reason {σ : Mem} (S : SS σ) (y1 : Int32) {Q : Int32 → Int32 → Prop} (h : ∀ r, Q r r) : wp_X4_reason σ y1 (fun r => wp_X5_reason σ y1 (fun r' => Q r r')) := by
  obtain ⟨R, I, F, L, -⟩ := S.z
  unfold wp_X4_reason wp_X5_reason
  by_cases hp : okC y1
  · obtain ⟨c, hc, rfl⟩ := okC_num hp
    have hin := inI hc (n := 40) (by decide)
    have p1 := ix1 (a := 23) (k := c) (n := 313) (by omega) (by decide)
    have e1 : ((23 : Int32) + nI c).toNatClampNeg = 23 + c := p1.2
    refine ce4_yes hp (br_f n10 ?_)
    unfold wp_X1_whyNotRetired
    rw [clI (by omega), show σ 1 c = _ from R.ret c hc, show σ 3 c = _ from R.own c hc, e1]
    refine ⟨hin, fun q => ?_, fun q => ?_⟩
    · have h2 : ¬ σ 94 (23 + c) = 2 := fun w => by rw [if_pos w] at q; exact n10 q
      refine cbad_ok R rfl hc (fun hb => br_f n10 ⟨hin, ?_⟩) (fun hb => br_t rfl ?_)
      · have bd : bad (σ 94) c := ⟨h2, hb⟩
        rcases I.pg hc with ⟨e, -⟩ | ⟨p, hpp, e, -⟩
        · rw [e]
          refine br_t m5_lt (ce5_yes hp (br_f n10 ⟨p1.1, br_f h2 (pageIn_ok (rbad_ok rfl hc (fun _ => br_f n10 ?_) (fun w => absurd bd w)))⟩))
          rw [e]
          exact br_t rfl (h _)
        · rw [e, clI (by omega), show σ 6 p = _ from R.pin p hpp]
          have hz : isZ (σ 94 (103 + 4 * p + 2)) := by
            by_cases hh : zhas (σ 94) p
            · obtain ⟨x, -, -, -, -, w⟩ := I.has hpp hh
              exact w
            · exact Or.inl (I.nohas hpp hh).2.2
          refine br_f (nI_nn (by omega)) ⟨inI hpp (by decide), fun w => ?_, fun w => ?_⟩
          · refine ce5_yes hp (br_f n10 ⟨p1.1, br_f h2 (pageIn_ok (rbad_ok rfl hc (fun _ => br_f n10 ?_) (fun w => absurd bd w)))⟩)
            rw [e]
            refine br_f (nI_nm5 (by omega)) (of_ok (p := p) (j := 2) rfl rfl hpp (by decide) (br_f (by rw [w]; decide) (h _)))
          · refine ce5_yes hp (br_f n10 ⟨p1.1, br_f h2 (pageIn_ok (rbad_ok rfl hc (fun _ => br_f n10 ?_) (fun w => absurd bd w)))⟩)
            rw [e]
            refine br_f (nI_nm5 (by omega)) (of_ok (p := p) (j := 2) rfl rfl hpp (by decide) (br_t (hz.resolve_left w) (h _)))
      · exact ce5_yes hp (br_f n10 ⟨p1.1, br_f h2 (pageIn_ok (rbad_ok rfl hc (fun w => absurd hb w.2) (fun _ => br_t rfl (h _))))⟩)
    · have h2 : σ 94 (23 + c) = 2 := Classical.byContradiction (fun w => q (by rw [if_neg w]))
      exact ce5_yes hp (br_f n10 ⟨p1.1, br_t h2 (h _)⟩)
  · exact ce4_no hp (br_t rfl (ce5_no hp (br_t rfl (h _))))
theorem sim_errorsLeft {σ : Mem} (S : SS σ) (y1 : Int32) {Q : Int32 → Int32 → Prop} (h : ∀ r, Q r r) : wp_X4_errorsLeft σ y1 (fun r => wp_X5_errorsLeft σ y1 (fun r' => Q r r')) := by
  obtain ⟨R, I, F, L, -⟩ := S.z
  unfold wp_X4_errorsLeft wp_X5_errorsLeft
  by_cases hp : okC y1
  · obtain ⟨c, hc, rfl⟩ := okC_num hp
    have hin := inI hc (n := 40) (by decide)
    have p2 := ix1 (a := 63) (k := c) (n := 313) (by omega) (by decide)
    have e2 : ((63 : Int32) + nI c).toNatClampNeg = 63 + c := p2.2
    refine ce4_yes hp (br_f n10 ?_)
    unfold wp_X1_errorsUntilRetired
    rw [clI (by omega), show σ 1 c = _ from R.ret c hc, show σ 2 c = _ from R.err c hc, show σ 11 0 = _ from R.set 0 (by decide), e2]
    refine ⟨hin, fun q => ?_, fun q => ?_⟩
    · have h2 : ¬ σ 94 (23 + c) = 2 := fun w => by rw [if_pos w] at q; exact n10 q
      -- the reference's choice: whether it can
      have ref : ∀ (P : Int32 → Prop), (zmov (σ 94) c → ((1 : Int32) = 0 → P (-5)) ∧ (¬ (1 : Int32) = 0 → wp_X5_isBad σ (nI c) (fun r5 => ((r5 = 0 → vp_in (63 + nI c) 313 ∧ P (σ 94 0 - σ 94 (63 + c))) ∧ (¬ r5 = 0 → P (-5)))))) → (¬ zmov (σ 94) c → P (-5)) →
          wp_X5_whyNotError σ (nI c) (fun r1 => ((0 ≤ r1 → wp_X5_pageIn σ (nI c) (fun r2 =>
            jn (A := Int32 → Prop) (fun (v3 : Int32) => ((v3 = 0 → P (-5)) ∧ (¬ v3 = 0 → wp_X5_isBad σ (nI c) (fun r5 => ((r5 = 0 → vp_in (63 + nI c) 313 ∧ P (σ 94 0 - σ 94 (63 + c))) ∧ (¬ r5 = 0 → P (-5)))))))
            (fun J4 => ((r2 = (-5) → J4 1) ∧ (¬ r2 = (-5) → wp_X5_of σ r2 2 (fun r6 => ((r6 = 0 → wp_X5_given σ 0 (nI c) (fun r7 => ((r7 = (-5) → J4 0) ∧ (¬ r7 = (-5) → J4 1)))) ∧ (¬ r6 = 0 → J4 0)))))))) ∧ (¬ 0 ≤ r1 → P r1))) := by
        intro P hy hn
        refine wne_yes hp rfl hc (fun w => absurd w h2) (fun _ => br_t (by decide) (pageIn_ok ?_))
        unfold jn
        rcases I.pg hc with ⟨e, e1, -⟩ | ⟨p, hpp, e, e1, e3, e4⟩
        · rw [e]
          exact br_t rfl (hy (Or.inl e1))
        · rw [e]
          refine br_f (nI_nm5 (by omega)) (of_ok (p := p) (j := 2) rfl rfl hpp (by decide) ⟨fun w => given_ok I.2.1 (fun r hr => ?_), fun w => br_t rfl (hn (fun m => ?_))⟩)
          · have hr2 : Best (σ 94) False (nI c) (fun _ => True) r := B_congr hr (can_F (fun q => q rfl))
            refine ⟨fun w2 => br_t rfl (hn (fun m => ?_)), fun w2 => hy (Or.inr ⟨p, hpp, e1, w, fun s hs => ?_⟩)⟩
            · rcases m with m | ⟨i, hi, m1, m2, m3⟩
              · exact m e3
              · exact m3 r hr2 w2
            · rw [B_uniq hs hr2]; exact w2
          · rcases m with m | ⟨i, hi, m1, m2, m3⟩
            · exact m e3
            · rw [e4 i hi m1] at m2; exact w m2
      refine cbad_ok R rfl hc (fun hb => br_f n10 ?_) (fun hb => br_t rfl (canRetire_ok R I rfl hc (fun hm => br_f n10 ⟨hin, ?_⟩) (fun hm => br_t rfl ?_)))
      · have bd : bad (σ 94) c := ⟨h2, hb⟩
        exact ref (fun r' => Q (-5) r') (fun _ => br_f n10 (rbad_ok rfl hc (fun _ => br_f n10 (h _)) (fun w => absurd bd w))) (fun _ => h _)
      · exact ref (fun r' => Q _ r') (fun _ => br_f n10 (rbad_ok rfl hc (fun w => absurd hb w.2) (fun _ => br_t rfl ⟨p2.1, h _⟩))) (fun w => absurd hm w)
      · exact ref (fun r' => Q (-5) r') (fun w => absurd w hm) (fun _ => h _)
    · have h2 : σ 94 (23 + c) = 2 := Classical.byContradiction (fun w => q (by rw [if_neg w]))
      exact wne_yes hp rfl hc (fun _ => br_f m4 (h _)) (fun w => absurd h2 w)
  · exact ce4_no hp (br_t rfl (wne_no hp (br_f m1 (h _))))
/-! the cell with the most errors -/
def zwo (z : Z) (k : Nat) : Prop := ¬ z (23 + k) = 2 ∧ 0 < z (63 + k)
def Wst (z : Z) (D : Nat → Prop) (r : Int32) : Prop := (r = -5 ∧ ∀ k, k < 40 → D k → ¬ zwo z k) ∨ ∃ j, j < 40 ∧ D j ∧ r = nI j ∧ zwo z j ∧ ∀ k, k < 40 → D k → zwo z k → (z (63 + k) < z (63 + j) ∨ (z (63 + k) = z (63 + j) ∧ j ≤ k))
theorem W_uniq {z : Z} {D : Nat → Prop} {r s : Int32} (h : Wst z D r) (h2 : Wst z D s) : r = s := by
  rcases h with ⟨e, h⟩ | ⟨j, hj, hd, e, hw, hb⟩ <;> rcases h2 with ⟨e2, h2⟩ | ⟨j2, hj2, hd2, e2, hw2, hb2⟩
  · rw [e, e2]
  · exact absurd hw2 (h j2 hj2 hd2)
  · exact absurd hw (h2 j hj hd)
  · have a := hb j2 hj2 hd2 hw2
    have b := hb2 j hj hd hw
    have : j = j2 := by
      simp only [Int32.lt_iff_toInt_lt, ← Int32.toInt_inj] at a b
      omega
    rw [e, e2, this]
theorem W_skip {z : Z} {D D' : Nat → Prop} {r : Int32} {k : Nat} (h : Wst z D r) (hD : ∀ j, j < 40 → (D' j ↔ D j ∨ j = k)) (hn : ¬ zwo z k) : Wst z D' r := by
  rcases h with ⟨e, h⟩ | ⟨j, hj, hd, e, hw, hb⟩
  · exact Or.inl ⟨e, fun i hi hdi => by
      rcases (hD i hi).mp hdi with q | q
      · exact h i hi q
      · rw [q]; exact hn⟩
  · exact Or.inr ⟨j, hj, (hD j hj).mpr (Or.inl hd), e, hw, fun i hi hdi hwi => by
      rcases (hD i hi).mp hdi with q | q
      · exact hb i hi q hwi
      · rw [q] at hwi; exact absurd hwi hn⟩
theorem cworst_ok {σ : Mem} {z : Z} {P : Int32 → Prop} (R : Rel σ 0 z) (h : ∀ r, Wst z (fun _ => True) r → P r) : wp_X1_cellWithMostErrors σ P := by
  unfold wp_X1_cellWithMostErrors
  refine lq3_inv 40 (fun k a b => Wst z (fun j => j < k) a ∧ ((a = -5 ∧ b = 0) ∨ ∃ j, j < k ∧ a = nI j ∧ b = z (63 + j))) (fun k a b rec hk hI hrec => ?_) (fun a b rec hI => ?_) ⟨Or.inl ⟨rfl, fun k hk hd => absurd hd (Nat.not_lt_zero _)⟩, Or.inl ⟨rfl, rfl⟩⟩ nI_0.symm
  · obtain ⟨hW, hb⟩ := hI
    have hin := inI hk (n := 40) (by decide)
    have hD : ∀ j, j < 40 → (j < k + 1 ↔ j < k ∨ j = k) := fun j _ => by omega
    rw [clI (by omega), show σ 1 k = _ from R.ret k hk, show σ 2 k = _ from R.err k hk]
    have keep : ∀ (b' : Int32), ((a = -5 ∧ b' = 0) ∨ ∃ j, j < k ∧ a = nI j ∧ b' = z (63 + j)) → ((a = -5 ∧ b' = 0) ∨ ∃ j, j < k + 1 ∧ a = nI j ∧ b' = z (63 + j)) := by
      intro b' hb'
      rcases hb' with w | ⟨j, hj, w⟩
      · exact Or.inl w
      · exact Or.inr ⟨j, by omega, w⟩
    refine ⟨ge_no hk (by decide), fun _ => ⟨hin, fun q => ⟨hin, fun q1 => hrec _ _ ⟨?_, keep b hb⟩, fun q1 => ⟨hin, hrec _ _ ⟨?_, Or.inr ⟨k, by omega, rfl, rfl⟩⟩⟩⟩, fun q => hrec _ _ ⟨?_, keep b hb⟩⟩⟩
    · have h2 : ¬ z (23 + k) = 2 := fun w => by rw [if_pos w] at q; exact n10 q
      rcases hb with ⟨ea, eb⟩ | ⟨j, hj, ea, eb⟩
      · rw [eb] at q1
        exact W_skip hW hD (fun w => absurd w.2 (Int32.not_lt.mpr q1))
      · rw [eb] at q1
        rcases hW with ⟨e, -⟩ | ⟨j', hj', hd, e, hw, hbb⟩
        · rw [ea] at e; exact absurd e (nI_nm5 (by omega))
        · have : j' = j := nI_inj (by omega) (by omega) (e.symm.trans ea)
          subst this
          refine Or.inr ⟨j', hj', Nat.lt_succ_of_lt hd, e, hw, fun i hi hdi hwi => ?_⟩
          rcases (hD i hi).mp hdi with w | w
          · exact hbb i hi w hwi
          · rw [w]
            rcases fa_three' (z (63 + k)) (z (63 + j')) with y | y | y
            · exact Or.inl y
            · exact Or.inr ⟨y, by omega⟩
            · exact absurd q1 (Int32.not_le.mpr y)
    · have h2 : ¬ z (23 + k) = 2 := fun w => by rw [if_pos w] at q; exact n10 q
      have q1' := Int32.not_le.mp q1
      rcases hb with ⟨ea, eb⟩ | ⟨j, hj, ea, eb⟩
      · rw [eb] at q1'
        refine Or.inr ⟨k, hk, Nat.lt_succ_self k, rfl, ⟨h2, q1'⟩, fun i hi hdi hwi => ?_⟩
        rcases (hD i hi).mp hdi with w | w
        · rcases hW with ⟨-, w2⟩ | ⟨j', hj', hd, e, -⟩
          · exact absurd hwi (w2 i hi w)
          · rw [ea] at e; exact absurd e.symm (nI_nm5 (by omega))
        · rw [w]; exact Or.inr ⟨rfl, Nat.le_refl _⟩
      · rw [eb] at q1'
        rcases hW with ⟨e, -⟩ | ⟨j', hj', hd, e, hw, hbb⟩
        · rw [ea] at e; exact absurd e (nI_nm5 (by omega))
        · have : j' = j := nI_inj (by omega) (by omega) (e.symm.trans ea)
          subst this
          refine Or.inr ⟨k, hk, Nat.lt_succ_self k, rfl, ⟨h2, ?_⟩, fun i hi hdi hwi => ?_⟩
          · exact Int32.lt_trans hw.2 q1'
          · rcases (hD i hi).mp hdi with w | w
            · rcases hbb i hi w hwi with y | ⟨y, -⟩
              · exact Or.inl (Int32.lt_trans y q1')
              · rw [y]; exact Or.inl q1'
            · rw [w]; exact Or.inr ⟨rfl, Nat.le_refl _⟩
    · have h2 : z (23 + k) = 2 := Classical.byContradiction (fun w => q (by rw [if_neg w]))
      exact W_skip hW hD (fun w => w.1 h2)
  · refine ⟨fun _ => h a ?_, ge_yes⟩
    rcases hI.1 with ⟨e, w⟩ | ⟨j, hj, hd, e, hw, hbb⟩
    · exact Or.inl ⟨e, fun k hk _ => w k hk hk⟩
    · exact Or.inr ⟨j, hj, trivial, e, hw, fun k hk _ => hbb k hk hk⟩
theorem rworst_ok {σ : Mem} {P : Int32 → Prop} (h : ∀ r, Wst (σ 94) (fun _ => True) r → P r) : wp_X5_worst σ P := by
  unfold wp_X5_worst
  simp only [jn]
  refine lq2_down 40 (by decide) (fun k a => Wst (σ 94) (fun j => k ≤ j) a) (fun k a rec hk hI hrec => ?_) (fun a rec x hx hI => ?_) (Or.inl ⟨rfl, fun k hk hd => absurd hd (by omega)⟩) (by decide)
  · have p1 := ix1 (a := 23) (k := k) (n := 313) (by omega) (by decide)
    have e1 : ((23 : Int32) + nI k).toNatClampNeg = 23 + k := p1.2
    have p2 := ix1 (a := 63) (k := k) (n := 313) (by omega) (by decide)
    have e2 : ((63 : Int32) + nI k).toNatClampNeg = 63 + k := p2.2
    have hD : ∀ j, j < 40 → (k ≤ j ↔ k + 1 ≤ j ∨ j = k) := fun j _ => by omega
    rw [e1, e2]
    refine ⟨fun q => absurd q (nI_nn (by omega)), fun _ => ⟨p1.1, fun q => br_t trivial (hrec _ (W_skip hI hD (fun w => w.1 q))), fun q => ⟨p2.1, fun q1 => br_t trivial (hrec _ (W_skip hI hD (fun w => absurd w.2 (Int32.not_lt.mpr q1)))), fun q1 => br_f n10 ?_⟩⟩⟩
    have hw : zwo (σ 94) k := ⟨q, Int32.not_le.mp q1⟩
    rcases hI with ⟨e, w⟩ | ⟨j, hj, hd, e, hwj, hbb⟩
    · refine br_t e (hrec _ (Or.inr ⟨k, hk, Nat.le_refl k, rfl, hw, fun i hi hdi hwi => ?_⟩))
      rcases (hD i hi).mp hdi with y | y
      · exact absurd hwi (w i hi y)
      · rw [y]; exact Or.inr ⟨rfl, Nat.le_refl _⟩
    · have hkj : k + 1 ≤ j := hd
      have p3 := ix1 (a := 63) (k := j) (n := 313) (by omega) (by decide)
      have e3 : ((63 : Int32) + nI j).toNatClampNeg = 63 + j := p3.2
      rw [e, e3]
      refine br_f (nI_nm5 (by omega)) ⟨p2.1, p3.1, fun q2 => hrec _ (Or.inr ⟨j, hj, Nat.le_of_succ_le hd, rfl, hwj, fun i hi hdi hwi => ?_⟩), fun q2 => hrec _ (Or.inr ⟨k, hk, Nat.le_refl k, rfl, hw, fun i hi hdi hwi => ?_⟩)⟩
      · rcases (hD i hi).mp hdi with y | y
        · exact hbb i hi y hwi
        · rw [y]; exact Or.inl q2
      · rcases (hD i hi).mp hdi with y | y
        · have a := hbb i hi y hwi
          have b := Int32.not_lt.mp q2
          simp only [Int32.lt_iff_toInt_lt, Int32.le_iff_toInt_le, ← Int32.toInt_inj] at a b ⊢
          omega
        · rw [y]; exact Or.inr ⟨rfl, Nat.le_refl _⟩
  · refine ⟨fun _ => h a ?_, fun q => absurd hx q⟩
    rcases hI with ⟨e, w⟩ | ⟨j, hj, hd, e, hw, hbb⟩
    · exact Or.inl ⟨e, fun k hk _ => w k hk (Nat.zero_le _)⟩
    · exact Or.inr ⟨j, hj, trivial, e, hw, fun k hk _ => hbb k hk (Nat.zero_le _)⟩
theorem sim_worst {σ : Mem} (S : SS σ) {Q : Int32 → Int32 → Prop} (h : ∀ r, Q r r) : wp_X4_worst σ (fun r => wp_X5_worst σ (fun r' => Q r r')) := by
  unfold wp_X4_worst
  refine cworst_ok S.z.1 (fun r hr => rworst_ok (fun r' hr' => ?_))
  rw [W_uniq hr hr']
  exact h _
theorem sim_ifStarted {σ : Mem} (S : SS σ) {Q : Int32 → Int32 → Prop} (h : ∀ r, Q r r) : wp_X4_ifStarted σ (fun r => wp_X5_ifStarted σ (fun r' => Q r r')) := by
  unfold wp_X4_ifStarted wp_X1_freeBehindStart wp_X5_ifStarted
  rw [show σ 0 10 = _ from S.z.1.len]
  exact h _
theorem csum_ok {σ : Mem} {a b : Nat} {z : Z} {P : Int32 → Prop} (e : ∀ k, k < 5 → σ a k = z (b + k)) (h : P (sum5 z b)) : wp_X1_sum σ a P := by
  unfold wp_X1_sum
  have key : ∀ k : Nat, Int32 := fun k => match k with
    | 0 => 0
    | _ => 0
  refine lq2_inv 5 (fun k x => (k = 0 ∧ x = 0) ∨ (k = 1 ∧ x = 0 + z (b + 0)) ∨ (k = 2 ∧ x = 0 + z (b + 0) + z (b + 1)) ∨ (k = 3 ∧ x = 0 + z (b + 0) + z (b + 1) + z (b + 2)) ∨ (k = 4 ∧ x = 0 + z (b + 0) + z (b + 1) + z (b + 2) + z (b + 3)) ∨ (k = 5 ∧ x = sum5 z b)) (fun k x rec hk hI hrec => ?_) (fun x rec hI => ?_) (Or.inl ⟨rfl, rfl⟩) nI_0.symm
  · rw [clI (by omega), e k hk]
    refine ⟨ge_no hk (by decide), fun _ => ⟨inI hk (by decide), hrec _ ?_⟩⟩
    rcases hI with ⟨rfl, rfl⟩ | ⟨rfl, rfl⟩ | ⟨rfl, rfl⟩ | ⟨rfl, rfl⟩ | ⟨rfl, rfl⟩ | ⟨rfl, rfl⟩
    · exact Or.inr (Or.inl ⟨rfl, rfl⟩)
    · exact Or.inr (Or.inr (Or.inl ⟨rfl, rfl⟩))
    · exact Or.inr (Or.inr (Or.inr (Or.inl ⟨rfl, rfl⟩)))
    · exact Or.inr (Or.inr (Or.inr (Or.inr (Or.inl ⟨rfl, rfl⟩))))
    · exact Or.inr (Or.inr (Or.inr (Or.inr (Or.inr ⟨rfl, rfl⟩))))
    · omega
  · rcases hI with ⟨q, -⟩ | ⟨q, -⟩ | ⟨q, -⟩ | ⟨q, -⟩ | ⟨q, -⟩ | ⟨-, rfl⟩
    · omega
    · omega
    · omega
    · omega
    · omega
    · exact ⟨fun _ => h, ge_yes⟩
