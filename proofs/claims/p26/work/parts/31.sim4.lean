/-! PURE PART: what is told -/
theorem SS.z {σ : Mem} (S : SS σ) : Rel σ 0 (σ 94) ∧ Gz (σ 94) := by
  obtain ⟨n, o, H, C, R, gH, g, -⟩ := S
  exact ⟨C.2.2.1, g⟩
theorem sim_stopped {σ : Mem} (S : SS σ) (y1 : Int32) {Q : Int32 → Int32 → Prop} (h : ∀ r, Q r r) : wp_X4_stopped σ y1 (fun r => wp_X5_stopped σ y1 (fun r' => Q r r')) := by
  obtain ⟨n, o, H, C, R, gH, g, s1, s2, s3⟩ := S
  unfold wp_X4_stopped wp_X5_stopped
  refine ⟨fun q => ?_, fun q => ⟨fun q1 => ?_, fun q1 => ?_⟩⟩
  · refine w5_yes (by rw [q]; decide) (by rw [q]; decide) (br_f n10 ?_)
    rcases s3 with ⟨a, b, c⟩ | ⟨a, b, c⟩
    · rw [b]; exact br_t a (h _)
    · rw [b]; exact br_f a (br_t q (h _))
  · refine w5_yes (by rw [q1]; decide) (by rw [q1]; decide) (br_f n10 ?_)
    rcases s3 with ⟨a, b, c⟩ | ⟨a, b, c⟩
    · rw [c]; exact br_t a (h _)
    · rw [c]; exact br_f a (br_f q (h _))
  · refine w5_no (fun w => ?_) (br_t rfl (h _))
    obtain ⟨k, hk, e⟩ := nI_of2 (M := 1) (n := 1) (by decide) (Int32.not_lt.mpr w.1) w.2
    rcases (show k = 0 ∨ k = 1 by omega) with rfl | rfl
    · exact q e
    · exact q1 e
theorem page3_any {σ : Mem} {P : Int32 → Prop} (h : ∀ r, P r) {x : Int32} {p : Nat} (hx : x = nI p) (hp : p < 50) (y : Int32) : wp_X1_tellPage σ x y P := by
  subst hx
  unfold wp_X1_tellPage wp_X1_hasCell
  have hin := inI hp (n := 50) (by decide)
  exact ⟨fun _ => ⟨hin, h _⟩, fun _ => ⟨fun _ => ⟨hin, fun _ => br_t rfl (h _), fun _ => br_f n10 ⟨hin, h _⟩⟩, fun _ => ⟨fun _ => ⟨hin, fun _ => h _, fun _ => h _⟩, fun _ => ⟨fun _ => ⟨hin, h _⟩, fun _ => h _⟩⟩⟩⟩
/-- page: whatever the two answer -/
theorem any_page {σ : Mem} (y1 y2 y3 : Int32) {Q : Int32 → Int32 → Prop} (h : ∀ r r', Q r r') : wp_X4_page σ y1 y2 y3 (fun r => wp_X5_page σ y1 y2 y3 (fun r' => Q r r')) := by
  have ref : ∀ r, wp_X5_page σ y1 y2 y3 (fun r' => Q r r') := by
    intro r
    unfold wp_X5_page
    by_cases hp : okP y1 y2
    · obtain ⟨a, b, ha, hb, rfl, rfl⟩ := okP_num hp
      refine pg5_yes hp (br_f n10 ?_)
      by_cases hw : 0 ≤ y3 ∧ y3 ≤ 3
      · obtain ⟨k, hk, rfl⟩ := nI_of2 (M := 3) (n := 3) (by decide) (Int32.not_lt.mpr hw.1) hw.2
        rw [num10]
        exact w5_yes hw.1 hw.2 (br_f n10 (of_ok rfl rfl (by omega) (by omega) (h _ _)))
      · exact w5_no hw (br_t rfl (h _ _))
    · exact pg5_no hp (br_t rfl (h _ _))
  unfold wp_X4_page
  by_cases hp : okP y1 y2
  · obtain ⟨a, b, ha, hb, rfl, rfl⟩ := okP_num hp
    exact pg4_yes hp (br_f n10 (pageIndex_ok rfl rfl (page3_any (fun r => ref r) rfl (by omega) y3)))
  · exact pg4_no hp (br_t rfl (ref _))
/-- page, where the moves since the giving agree -/
theorem sim_page {σ : Mem} (S : SS σ) (h7 : ∀ p, p < 50 → σ 7 p = σ 94 (103 + 4 * p + 3)) (y1 y2 y3 : Int32) {Q : Int32 → Int32 → Prop} (h : ∀ r, Q r r) : wp_X4_page σ y1 y2 y3 (fun r => wp_X5_page σ y1 y2 y3 (fun r' => Q r r')) := by
  obtain ⟨R, I, F, L, -⟩ := S.z
  unfold wp_X4_page wp_X5_page
  by_cases hp : okP y1 y2
  · obtain ⟨a, b, ha, hb, rfl, rfl⟩ := okP_num hp
    have hpp : 10 * a + b < 50 := by omega
    have hin := inI hpp (n := 50) (by decide)
    refine pg4_yes hp (br_f n10 (pageIndex_ok rfl rfl ?_))
    have ref : ∀ r (k : Nat), k < 4 → y3 = nI k → Q r (σ 94 (103 + 4 * (10 * a + b) + k)) → wp_X5_isPage σ (nI a) (nI b) (fun r1 => ((r1 = 0 → Q r (-1)) ∧ (¬ r1 = 0 → wp_X5_in σ y3 0 3 (fun r2 => ((r2 = 0 → Q r (-2)) ∧ (¬ r2 = 0 → wp_X5_of σ ((10 * nI a) + nI b) y3 (fun r3 => Q r r3))))))) := by
      intro r k hk e hq
      rw [num10]
      refine pg5_yes hp (br_f n10 (w5_yes ?_ ?_ (br_f n10 (of_ok rfl e hpp hk hq))))
      · rw [e]; exact nI_ge0 (by omega)
      · rw [e]; exact nI_le (b := 3) (by omega) (by decide)
    unfold wp_X1_tellPage
    rw [clI (by omega)]
    refine ⟨fun q => ⟨hin, ?_⟩, fun q => ⟨fun q1 => ?_, fun q1 => ⟨fun q2 => ?_, fun q2 => ⟨fun q3 => ?_, fun q3 => ?_⟩⟩⟩⟩
    · rw [show σ 4 (10 * a + b) = _ from R.cel _ hpp]; exact ref _ 0 (by decide) q (h _)
    · refine hasCell_ok R I rfl hpp (fun hz => br_f n10 ⟨hin, ?_⟩) (fun hz => br_t rfl ?_)
      · rw [show σ 5 (10 * a + b) = _ from R.val _ hpp hz]; exact ref _ 1 (by decide) q1 (h _)
      · exact ref _ 1 (by decide) q1 (by rw [(I.nohas hpp hz).2.1]; exact h _)
    · rw [show σ 6 (10 * a + b) = _ from R.pin _ hpp]
      refine ⟨hin, fun w => ref _ 2 (by decide) q2 (by rw [w]; exact h _), fun w => ref _ 2 (by decide) q2 ?_⟩
      have hz : isZ (σ 94 (103 + 4 * (10 * a + b) + 2)) := by
        by_cases hh : zhas (σ 94) (10 * a + b)
        · obtain ⟨c, -, -, -, -, x⟩ := I.has hpp hh
          exact x
        · exact Or.inl (I.nohas hpp hh).2.2
      rcases hz with x | x
      · exact absurd x w
      · rw [x]; exact h _
    · refine ⟨hin, ref _ 3 (by decide) q3 ?_⟩
      rw [h7 _ hpp]; exact h _
    · refine pg5_yes hp (br_f n10 (w5_no (fun w => ?_) (br_t rfl (h _))))
      obtain ⟨k, hk, e⟩ := nI_of2 (M := 3) (n := 3) (by decide) (Int32.not_lt.mpr w.1) w.2
      rcases (show k = 0 ∨ k = 1 ∨ k = 2 ∨ k = 3 by omega) with rfl | rfl | rfl | rfl
      · exact q e
      · exact q1 e
      · exact q2 e
      · exact q3 e
  · exact pg4_no hp (br_t rfl (pg5_no hp (br_t rfl (h _))))
/-- pages that have cells, of so many from one on -/
noncomputable def zwc (z : Z) (f : Nat) : Nat → Int32
  | 0 => 0
  | n + 1 => zwc z f n + cif (zhas z (f + n)) 1 0
theorem withCells_ok {σ : Mem} {x y : Int32} {P : Int32 → Prop} {f n : Nat} (hx : x = nI f) (hy : y = nI n) (hf : f + n ≤ 50) (h : P (zwc (σ 94) f n)) : wp_X5_withCells σ x y P := by
  subst hx; subst hy
  unfold wp_X5_withCells
  simp only [jn]
  refine lq2_inv' f n (fun k a => a = zwc (σ 94) f k) (fun k a rec hk hI hrec => ?_) (fun a rec hI => ?_) rfl rfl
  · subst hI
    rw [nI_add]
    refine ⟨fun q => absurd q (nI_ge (by omega) (by omega)), fun _ => of_ok (p := f + k) (j := 0) rfl rfl (by omega) (by decide) ⟨fun q => hrec _ ?_, fun q => hrec _ ?_⟩⟩
    · show _ = zwc (σ 94) f k + cif (zhas (σ 94) (f + k)) 1 0
      rw [cif_neg (fun w => w q)]
    · show _ = zwc (σ 94) f k + cif (zhas (σ 94) (f + k)) 1 0
      rw [cif_pos (show zhas (σ 94) (f + k) from q)]
  · subst hI
    rw [nI_add]
    exact ⟨fun _ => h, fun q => absurd (Int32.le_refl _) q⟩
theorem pagesWithCells_ok {σ : Mem} {z : Z} {x : Int32} {P : Int32 → Prop} {a : Nat} (R : Rel σ 0 z) (I : Iz z) (hx : x = nI a) (ha : a < 5) (h : P (zwc z (10 * a) 10)) : wp_X1_pagesWithCells σ x P := by
  subst hx
  unfold wp_X1_pagesWithCells
  refine lq2_inv 10 (fun k b => b = zwc z (10 * a) k) (fun k b rec hk hI hrec => ?_) (fun b rec hI => ?_) rfl nI_0.symm
  · subst hI
    refine ⟨ge_no hk (by decide), fun _ => pageIndex_ok rfl rfl (hasCell_ok R I rfl (by omega) (fun hz => br_f n10 (hrec _ ?_)) (fun hz => br_t rfl (hrec _ ?_)))⟩
    · show _ = zwc z (10 * a) k + cif (zhas z (10 * a + k)) 1 0
      rw [cif_pos hz]
    · show _ = zwc z (10 * a) k + cif (zhas z (10 * a + k)) 1 0
      rw [cif_neg hz, Int32.add_zero]
  · subst hI
    exact ⟨fun _ => h, ge_yes⟩
/-- the cells of a kind, counted -/
noncomputable def zqc (Q : Nat → Prop) : Nat → Nat
  | 0 => 0
  | n + 1 => zqc Q n + cif (Q n) 1 0
theorem zqc_congr {Q Q' : Nat → Prop} : ∀ n, (∀ c, c < n → (Q c ↔ Q' c)) → zqc Q n = zqc Q' n
  | 0, _ => rfl
  | n + 1, h => by
    unfold zqc
    rw [zqc_congr n (fun c hc => h c (by omega))]
    by_cases q : Q n
    · rw [cif_pos q, cif_pos ((h n (by omega)).mp q)]
    · rw [cif_neg q, cif_neg (fun w => q ((h n (by omega)).mpr w))]
theorem zqc_add {Q Q' : Nat → Prop} {x : Nat} (hn : ¬ Q x) (hq : ∀ c, Q' c ↔ Q c ∨ c = x) : ∀ n, zqc Q' n = zqc Q n + (if x < n then 1 else 0)
  | 0 => by simp [zqc]
  | n + 1 => by
    have ih := zqc_add hn hq n
    unfold zqc
    rw [ih]
    by_cases e : n = x
    · rw [cif_pos ((hq n).mpr (Or.inr e)), cif_neg (by rw [e]; exact hn), if_neg (by omega), if_pos (by omega)]
    · by_cases q : Q n
      · rw [cif_pos ((hq n).mpr (Or.inl q)), cif_pos q]
        by_cases w : x < n
        · rw [if_pos w, if_pos (by omega)]
        · rw [if_neg w, if_neg (by omega)]
      · rw [cif_neg (fun w => ((hq n).mp w).elim q e), cif_neg q]
        by_cases w : x < n
        · rw [if_pos w, if_pos (by omega)]
        · rw [if_neg w, if_neg (by omega)]
theorem zqc_none : ∀ n, zqc (fun _ => False) n = 0
  | 0 => rfl
  | n + 1 => by unfold zqc; rw [zqc_none n, cif_neg id]
theorem zqc_zcn (z : Z) : ∀ n, zqc (fun c => z (23 + c) = 1) n = zcn z 1 n
  | 0 => rfl
  | n + 1 => by
    unfold zqc zcn
    rw [zqc_zcn z n]
    by_cases q : z (23 + n) = 1
    · rw [cif_pos q, if_pos q]
    · rw [cif_neg q, if_neg q]
/-- as many used cells as pages that have cells -/
theorem used_pages {z : Z} (I : Iz z) : zwc z 0 50 = nI (zcn z 1 40) := by
  have key : ∀ n, n ≤ 50 → zwc z 0 n = nI (zqc (fun c => c < 40 ∧ ∃ p, p < n ∧ z (103 + 4 * p + 0) = nI c) 40) := by
    intro n
    induction n with
    | zero =>
      intro _
      rw [zqc_congr (Q' := fun _ => False) 40 (fun c hc => ⟨fun ⟨_, p, hp, _⟩ => absurd hp (Nat.not_lt_zero _), fun w => w.elim⟩), zqc_none]
      exact nI_0.symm
    | succ n ih =>
      intro hn
      unfold zwc
      rw [ih (by omega), Nat.zero_add]
      by_cases hz : zhas z n
      · obtain ⟨x, hx, ex, -⟩ := I.has (by omega) hz
        rw [cif_pos hz]
        have hnew : ¬ (x < 40 ∧ ∃ p, p < n ∧ z (103 + 4 * p + 0) = nI x) := by
          rintro ⟨-, p, hp, e⟩
          have := I.2.2.2.2.1 n p (by omega) (by omega) hz (by rw [ex, e])
          omega
        have := zqc_add (Q := fun c => c < 40 ∧ ∃ p, p < n ∧ z (103 + 4 * p + 0) = nI c) (Q' := fun c => c < 40 ∧ ∃ p, p < n + 1 ∧ z (103 + 4 * p + 0) = nI c) (x := x) hnew (fun c => ?_) 40
        · rw [this, if_pos hx, nI_1]
        · constructor
          · rintro ⟨hc, p, hp, e⟩
            rcases Nat.lt_succ_iff_lt_or_eq.mp hp with w | w
            · exact Or.inl ⟨hc, p, w, e⟩
            · rw [w, ex] at e
              exact Or.inr (nI_inj (by omega) (by omega) e).symm
          · rintro (⟨hc, p, hp, e⟩ | rfl)
            · exact ⟨hc, p, by omega, e⟩
            · exact ⟨hx, n, by omega, ex⟩
      · rw [cif_neg hz, Int32.add_zero]
        congr 1
        refine zqc_congr 40 (fun c hc => ⟨fun ⟨h1, p, hp, e⟩ => ⟨h1, p, by omega, e⟩, fun ⟨h1, p, hp, e⟩ => ⟨h1, p, ?_, e⟩⟩)
        rcases Nat.lt_succ_iff_lt_or_eq.mp hp with w | w
        · exact w
        · refine absurd (show zhas z n from ?_) hz
          unfold zhas
          rw [← w, e]
          exact nI_nm5 (by omega)
  rw [key 50 (Nat.le_refl _), ← zqc_zcn]
  congr 1
  refine zqc_congr 40 (fun c hc => ?_)
  rcases I.pg hc with ⟨-, h1, w⟩ | ⟨p, hp, -, e, h1, -⟩
  · exact ⟨fun ⟨_, p, hp, e⟩ => absurd e (w p hp), fun q => absurd q h1⟩
  · exact ⟨fun _ => h1, fun _ => ⟨hc, p, hp, e⟩⟩
theorem sim_program {σ : Mem} (S : SS σ) (y1 y2 : Int32) {Q : Int32 → Int32 → Prop} (h : ∀ r, Q r r) : wp_X4_program σ y1 y2 (fun r => wp_X5_program σ y1 y2 (fun r' => Q r r')) := by
  obtain ⟨R, I, F, L, -⟩ := S.z
  unfold wp_X4_program wp_X5_program
  by_cases hw : 0 ≤ y1 ∧ y1 ≤ 4
  · obtain ⟨a, ha, rfl⟩ := nI_of2 (M := 4) (n := 4) (by decide) (Int32.not_lt.mpr hw.1) hw.2
    have ha5 : a < 5 := by omega
    have e10 : (10 : Int32) * nI a = nI (10 * a) := by
      show nI 10 * nI a = _
      rw [pk_mul]
    refine w4_yes hw.1 hw.2 (br_f n10 ?_)
    unfold wp_X1_tellProgram
    rw [clI (by omega)]
    have hin := inI ha5 (n := 5) (by decide)
    refine ⟨fun q => pagesWithCells_ok R I rfl ha5 ?_, fun q => ⟨fun q1 => pinnedPagesOf_ok R I rfl ha5 ?_, fun q1 => ⟨fun q2 => ⟨hin, ?_⟩, fun q2 => ⟨fun q3 => ⟨hin, ?_⟩, fun q3 => ?_⟩⟩⟩⟩
    · refine w5_yes hw.1 hw.2 (br_f n10 (br_t q (withCells_ok e10 rfl (n := 10) (by omega) (h _))))
    · refine w5_yes hw.1 hw.2 (br_f n10 (br_f q (br_t q1 (pinned_ok e10 rfl (n := 10) (by omega) (h _)))))
    · refine w5_yes hw.1 hw.2 (br_f n10 (br_f q (br_f q1 (br_t q2 ?_))))
      have p := ix1 (a := 303) (k := a) (n := 313) (by omega) (by decide)
      have e : ((303 : Int32) + nI a).toNatClampNeg = 303 + a := p.2
      rw [e, show σ 8 a = _ from R.los a ha5]
      exact ⟨p.1, h _⟩
    · refine w5_yes hw.1 hw.2 (br_f n10 (br_f q (br_f q1 (br_f q2 (br_t q3 ?_)))))
      have p := ix1 (a := 308) (k := a) (n := 313) (by omega) (by decide)
      have e : ((308 : Int32) + nI a).toNatClampNeg = 308 + a := p.2
      rw [e, show σ 9 a = _ from R.mov a ha5]
      exact ⟨p.1, h _⟩
    · exact w5_yes hw.1 hw.2 (br_f n10 (br_f q (br_f q1 (br_f q2 (br_f q3 (h _))))))
  · exact w4_no hw (br_t rfl (w5_no hw (br_t rfl (h _))))
theorem rplace_ok {σ : Mem} {x : Int32} {P : Int32 → Prop} {n : Nat} (hn : n ≤ 12) (e : σ 94 10 = nI n) (hd : ∀ j k, j < n → k < n → σ 94 (11 + j) = σ 94 (11 + k) → j = k) (h0 : (∀ k, k < n → ¬ σ 94 (11 + k) = x) → P (-5)) (h1 : ∀ k, k < n → σ 94 (11 + k) = x → P (nI k)) : wp_X5_placeOnList σ x P := by
  unfold wp_X5_placeOnList
  rw [e]
  refine lq2_inv n (fun k a => (a = -5 ∧ ∀ j, j < k → ¬ σ 94 (11 + j) = x) ∨ ∃ j, j < k ∧ a = nI j ∧ σ 94 (11 + j) = x) (fun k a rec hk hI hrec => ?_) (fun a rec hI => ?_) (Or.inl ⟨rfl, fun j hj => absurd hj (Nat.not_lt_zero _)⟩) nI_0.symm
  · have p := ix1 (a := 11) (k := k) (n := 313) (by omega) (by decide)
    have e1 : ((11 : Int32) + nI k).toNatClampNeg = 11 + k := p.2
    rw [e1]
    refine ⟨ge_no hk (by omega), fun _ => ⟨p.1, fun q => hrec _ (Or.inr ⟨k, by omega, rfl, q⟩), fun q => hrec _ ?_⟩⟩
    rcases hI with ⟨ea, w⟩ | ⟨j, hj, ea, w⟩
    · refine Or.inl ⟨ea, fun j hj => ?_⟩
      rcases Nat.lt_succ_iff_lt_or_eq.mp hj with y | y
      · exact w j y
      · rw [y]; exact q
    · exact Or.inr ⟨j, by omega, ea, w⟩
  · refine ⟨fun _ => ?_, ge_yes⟩
    rcases hI with ⟨ea, w⟩ | ⟨j, hj, ea, w⟩
    · rw [ea]; exact h0 w
    · rw [ea]; exact h1 j hj w
theorem sim_cell {σ : Mem} (S : SS σ) (y1 y2 : Int32) {Q : Int32 → Int32 → Prop} (h : ∀ r, Q r r) : wp_X4_cell σ y1 y2 (fun r => wp_X5_cell σ y1 y2 (fun r' => Q r r')) := by
  obtain ⟨R, I, F, L, -⟩ := S.z
  unfold wp_X4_cell wp_X5_cell
  by_cases hp : okC y1
  · obtain ⟨c, hc, rfl⟩ := okC_num hp
    have hin := inI hc (n := 40) (by decide)
    have p1 := ix1 (a := 23) (k := c) (n := 313) (by omega) (by decide)
    have e1 : ((23 : Int32) + nI c).toNatClampNeg = 23 + c := p1.2
    have p2 := ix1 (a := 63) (k := c) (n := 313) (by omega) (by decide)
    have e2 : ((63 : Int32) + nI c).toNatClampNeg = 63 + c := p2.2
    refine ce4_yes hp (br_f n10 ?_)
    unfold wp_X1_tellCell
    rw [clI (by omega), show σ 2 c = _ from R.err c hc, show σ 3 c = _ from R.own c hc, e1, e2]
    refine ⟨hin, fun q => howCellIs_ok R I rfl hc ?_, fun q => ⟨fun q1 => ⟨hin, ?_⟩, fun q1 => ⟨fun q2 => ?_, fun q2 => ⟨fun q3 => ?_, fun q3 => ⟨fun q4 => ?_, fun q4 => ⟨fun q5 => ?_, fun q5 => ?_⟩⟩⟩⟩⟩⟩
    · exact ce5_yes hp (br_f n10 (pageIn_ok (br_t q ⟨p1.1, h _⟩)))
    · exact ce5_yes hp (br_f n10 (pageIn_ok (br_f q (br_t q1 ⟨p2.1, h _⟩))))
    · rcases I.pg hc with ⟨e, -⟩ | ⟨p, hpp, e, -⟩
      · refine ⟨fun w => absurd (by rw [← e]; exact w) m5_nge, fun w => ce5_yes hp (br_f n10 (pageIn_ok (br_f q (br_f q1 (br_t q2 ⟨fun _ => h _, fun x => absurd e x⟩)))))⟩
      · refine ⟨fun w => ce5_yes hp (br_f n10 (pageIn_ok (br_f q (br_f q1 (br_t q2 ⟨fun x => absurd (e.symm.trans x) (nI_nm5 (by omega)), fun _ => h _⟩))))), fun w => absurd (by rw [e]; exact nI_ge0 (by omega)) w⟩
    · rcases I.pg hc with ⟨e, -⟩ | ⟨p, hpp, e, -⟩
      · refine ⟨fun w => absurd (by rw [← e]; exact w) m5_nge, fun w => ce5_yes hp (br_f n10 (pageIn_ok (br_f q (br_f q1 (br_f q2 (br_t q3 ⟨fun _ => h _, fun x => absurd e x⟩))))))⟩
      · refine ⟨fun w => ce5_yes hp (br_f n10 (pageIn_ok (br_f q (br_f q1 (br_f q2 (br_t q3 ⟨fun x => absurd (e.symm.trans x) (nI_nm5 (by omega)), fun _ => h _⟩)))))), fun w => absurd (by rw [e]; exact nI_ge0 (by omega)) w⟩
    · refine waits_ok R rfl hc (fun hb => br_f n10 ?_) (fun hb => br_t rfl ?_)
      · exact ce5_yes hp (br_f n10 (pageIn_ok (br_f q (br_f q1 (br_f q2 (br_f q3 (br_t q4 (rbad_ok rfl hc (fun _ => br_f n10 (h _)) (fun w => absurd hb w)))))))))
      · exact ce5_yes hp (br_f n10 (pageIn_ok (br_f q (br_f q1 (br_f q2 (br_f q3 (br_t q4 (rbad_ok rfl hc (fun w => absurd w hb) (fun _ => br_t rfl (h _))))))))))
    · obtain ⟨n, hn, e10, hl, hd⟩ := L
      have el : σ 0 10 = nI n := by rw [R.len]; exact e10
      refine place_ok hn el (fun hno => ?_) (fun k hk hke _ => ?_)
      · refine ce5_yes hp (br_f n10 (pageIn_ok (br_f q (br_f q1 (br_f q2 (br_f q3 (br_f q4 (br_t q5 (rplace_ok hn e10 hd (fun _ => h _) (fun k hk w => ?_))))))))))
        exact absurd (by rw [show σ 10 k = _ from R.lis k (by omega)]; exact w) (hno k hk)
      · rw [show σ 10 k = _ from R.lis k (by omega)] at hke
        refine ce5_yes hp (br_f n10 (pageIn_ok (br_f q (br_f q1 (br_f q2 (br_f q3 (br_f q4 (br_t q5 (rplace_ok hn e10 hd (fun w => absurd hke (w k hk)) (fun j hj w => ?_))))))))))
        rw [hd j k hj hk (w.trans hke.symm)]
        exact h _
    · exact ce5_yes hp (br_f n10 (pageIn_ok (br_f q (br_f q1 (br_f q2 (br_f q3 (br_f q4 (br_f q5 (h _)))))))))
  · exact ce4_no hp (br_t rfl (ce5_no hp (br_t rfl (h _))))
