/-! PURE PART: both sides together -/
def Sn (σ : Mem) : Prop := (σ 84 3 = 0 ∧ σ 93 5 = 0) ∨ (σ 84 3 = 1 ∧ σ 93 5 = 1 ∧ Gz (σ 97) ∧ Rel σ 24 (σ 97))
def Tx (σ : Mem) : Prop := ∃ n, n ≤ 60 ∧ σ 87 1 = nI n ∧ σ 93 7 = nI n ∧ ∀ i, i < n → σ 88 i = σ 98 i ∧ ∃ w, w < 65536 ∧ σ 98 i = nI w
def Sp (σ : Mem) : Prop := (σ 93 9 = 0 ∧ σ 84 7 = -5 ∧ σ 84 8 = -5) ∨ (¬ σ 93 9 = 0 ∧ σ 84 7 = σ 93 8 ∧ σ 84 8 = σ 93 9)
/-- the two sides hold one and the same -/
def SS (σ : Mem) : Prop := ∃ n o H, CH σ (σ 94) n o H ∧ RH σ (σ 94) n H ∧ (∀ i, i < n → Gz (H i)) ∧ Gz (σ 94) ∧ Sn σ ∧ Tx σ ∧ Sp σ
theorem Sn.far {σ τ : Mem} (h : Sn σ) (h1 : τ 84 3 = σ 84 3) (h2 : τ 93 5 = σ 93 5) (h3 : τ 97 = σ 97) (h4 : ∀ k, 24 ≤ k → k < 36 → τ k = σ k) : Sn τ := by
  rcases h with ⟨a, b⟩ | ⟨a, b, c, d⟩
  · exact Or.inl ⟨h1.trans a, h2.trans b⟩
  · exact Or.inr ⟨h1.trans a, h2.trans b, by rw [h3]; exact c, by rw [h3]; exact d.far (fun k x y => h4 k x (by omega))⟩
theorem Tx.far {σ τ : Mem} (h : Tx σ) (h1 : τ 87 1 = σ 87 1) (h2 : τ 93 7 = σ 93 7) (h3 : τ 88 = σ 88) (h4 : τ 98 = σ 98) : Tx τ := by
  obtain ⟨n, hn, a, b, c⟩ := h
  exact ⟨n, hn, h1.trans a, h2.trans b, fun i hi => by rw [h3, h4]; exact c i hi⟩
theorem Sp.far {σ τ : Mem} (h : Sp σ) (h1 : τ 84 = σ 84) (h2 : τ 93 8 = σ 93 8) (h3 : τ 93 9 = σ 93 9) : Sp τ := by
  unfold Sp
  rw [h1, h2, h3]
  exact h
/-- both halves at their ends -/
theorem SS.mk' {σ τ ρ : Mem} {z' : Z} {n' o' : Nat} {H' : Nat → Z} (C : CH τ z' n' o' H') (fc : CR σ τ) (R : RH ρ z' n' H') (fr : RR τ ρ) (gH : ∀ i, i < n' → Gz (H' i)) (g : Gz z') (s1 : Sn σ) (s2 : Tx σ) (s3 : Sp σ) : SS ρ := by
  have e : ρ 94 = z' := R.2.1
  refine ⟨n', o', H', ?_, ?_, gH, by rw [e]; exact g, ?_, ?_, ?_⟩
  · rw [e]; exact C.far (fun k hk => fr.1 k (by omega) (by omega) (by omega) (by omega))
  · rw [e]; exact R
  · refine s1.far ?_ ?_ ?_ (fun k a b => ?_)
    · rw [fr.1 84 (by decide) (by decide) (by decide) (by decide), fc.2 84 (by decide) (by decide)]
    · rw [fr.2 5 (by decide), fc.2 93 (by decide) (by decide)]
    · rw [fr.1 97 (by decide) (by decide) (by decide) (by decide), fc.2 97 (by decide) (by decide)]
    · rw [fr.1 k (by omega) (by omega) (by omega) (by omega), fc.1 k a b]
  · refine s2.far ?_ ?_ ?_ ?_
    · rw [fr.1 87 (by decide) (by decide) (by decide) (by decide), fc.2 87 (by decide) (by decide)]
    · rw [fr.2 7 (by decide), fc.2 93 (by decide) (by decide)]
    · rw [fr.1 88 (by decide) (by decide) (by decide) (by decide), fc.2 88 (by decide) (by decide)]
    · rw [fr.1 98 (by decide) (by decide) (by decide) (by decide), fc.2 98 (by decide) (by decide)]
  · refine s3.far ?_ ?_ ?_
    · rw [fr.1 84 (by decide) (by decide) (by decide) (by decide), fc.2 84 (by decide) (by decide)]
    · rw [fr.2 8 (by decide), fc.2 93 (by decide) (by decide)]
    · rw [fr.2 9 (by decide), fc.2 93 (by decide) (by decide)]
theorem pushG {n : Nat} {H : Nat → Z} {z : Z} (h : ∀ i, i < n → Gz (H i)) (hn : n ≤ 4) (g : Gz z) : ∀ i, i < pushN n → Gz (pushH n H z i) := by
  intro i hi
  unfold pushN at hi
  unfold pushH
  by_cases q : n < 4
  · rw [if_pos q] at hi ⊢
    by_cases e : i = n
    · rw [if_pos e]; exact g
    · rw [if_neg e]; exact h i (by omega)
  · rw [if_neg q] at hi ⊢
    by_cases e : i = 3
    · rw [if_pos e]; exact g
    · rw [if_neg e]; exact h (i + 1) (by omega)
/-- a look behind what keeps the conditions -/
theorem Gz.lk {z w : Z} (I : Iz w) (L : Lz w) (h0 : 0 ≤ w 0) (h2 : 0 ≤ w 2) : Gz (zlk w 40) :=
  ⟨I.lk 40 (Nat.le_refl _), I.lkF, L.lk I 40 (Nat.le_refl _), by rw [zlk_un I (by omega) 40 (Nat.le_refl _)]; exact h0, by rw [zlk_un I (by omega) 40 (Nat.le_refl _)]; exact h2⟩
/-! the checks of arguments -/
theorem w4_yes {σ : Mem} {x lo hi : Int32} {P : Int32 → Prop} (a : lo ≤ x) (b : x ≤ hi) (h : P 1) : wp_X4_isWithin σ x lo hi P := by
  unfold wp_X4_isWithin
  exact br_f (Int32.not_lt.mpr a) (br_f (Int32.not_lt.mpr b) h)
theorem w4_no {σ : Mem} {x lo hi : Int32} {P : Int32 → Prop} (a : ¬ (lo ≤ x ∧ x ≤ hi)) (h : P 0) : wp_X4_isWithin σ x lo hi P := by
  unfold wp_X4_isWithin
  refine ⟨fun _ => h, fun q => ⟨fun _ => h, fun q2 => absurd ⟨Int32.not_lt.mp q, Int32.not_lt.mp q2⟩ a⟩⟩
theorem w5_yes {σ : Mem} {x lo hi : Int32} {P : Int32 → Prop} (a : lo ≤ x) (b : x ≤ hi) (h : P 1) : wp_X5_in σ x lo hi P := in_ok (fun _ _ => h) (fun q => absurd ⟨a, b⟩ q)
theorem w5_no {σ : Mem} {x lo hi : Int32} {P : Int32 → Prop} (a : ¬ (lo ≤ x ∧ x ≤ hi)) (h : P 0) : wp_X5_in σ x lo hi P := in_ok (fun p q => absurd ⟨p, q⟩ a) (fun _ => h)
def okP (x y : Int32) : Prop := (0 ≤ x ∧ x ≤ 4) ∧ 0 ≤ y ∧ y ≤ 9
def okC (x : Int32) : Prop := 0 ≤ x ∧ x ≤ 39
theorem okP_num {x y : Int32} (h : okP x y) : ∃ a b, a < 5 ∧ b < 10 ∧ x = nI a ∧ y = nI b := by
  obtain ⟨⟨h1, h2⟩, h3, h4⟩ := h
  obtain ⟨c, hc, e⟩ := nI_of2 (M := 4) (n := 4) (by decide) (Int32.not_lt.mpr h1) h2
  obtain ⟨c2, hc2, e2⟩ := nI_of2 (M := 9) (n := 9) (by decide) (Int32.not_lt.mpr h3) h4
  exact ⟨c, c2, by omega, by omega, e, e2⟩
theorem okC_num {x : Int32} (h : okC x) : ∃ c, c < 40 ∧ x = nI c := by
  obtain ⟨c, hc, e⟩ := nI_of2 (M := 39) (n := 39) (by decide) (Int32.not_lt.mpr h.1) h.2
  exact ⟨c, by omega, e⟩
theorem pg4_yes {σ : Mem} {x y : Int32} {P : Int32 → Prop} (a : okP x y) (h : P 1) : wp_X4_isPage σ x y P := by
  unfold wp_X4_isPage
  exact w4_yes a.1.1 a.1.2 (br_f n10 (w4_yes a.2.1 a.2.2 (br_f n10 h)))
theorem pg4_no {σ : Mem} {x y : Int32} {P : Int32 → Prop} (a : ¬ okP x y) (h : P 0) : wp_X4_isPage σ x y P := by
  unfold wp_X4_isPage
  by_cases q : 0 ≤ x ∧ x ≤ 4
  · exact w4_yes q.1 q.2 (br_f n10 (w4_no (fun w => a ⟨q, w⟩) (br_t rfl h)))
  · exact w4_no q (br_t rfl h)
theorem pg5_yes {σ : Mem} {x y : Int32} {P : Int32 → Prop} (a : okP x y) (h : P 1) : wp_X5_isPage σ x y P := isPage_ok (fun _ _ _ _ _ _ => h) (fun q => absurd a q)
theorem pg5_no {σ : Mem} {x y : Int32} {P : Int32 → Prop} (a : ¬ okP x y) (h : P 0) : wp_X5_isPage σ x y P := by
  unfold wp_X5_isPage
  by_cases q : 0 ≤ x ∧ x ≤ 4
  · exact w5_yes q.1 q.2 (br_f n10 (w5_no (fun w => a ⟨q, w⟩) (br_t rfl h)))
  · exact w5_no q (br_t rfl h)
theorem ce4_yes {σ : Mem} {x : Int32} {P : Int32 → Prop} (a : okC x) (h : P 1) : wp_X4_isCell σ x P := by
  unfold wp_X4_isCell
  exact w4_yes a.1 a.2 ⟨Or.inr rfl, h⟩
theorem ce4_no {σ : Mem} {x : Int32} {P : Int32 → Prop} (a : ¬ okC x) (h : P 0) : wp_X4_isCell σ x P := by
  unfold wp_X4_isCell
  exact w4_no a ⟨Or.inl rfl, h⟩
theorem ce5_yes {σ : Mem} {x : Int32} {P : Int32 → Prop} (a : okC x) (h : P 1) : wp_X5_isCell σ x P := isCell_ok (fun _ _ _ => h) (fun q => absurd a q)
theorem ce5_no {σ : Mem} {x : Int32} {P : Int32 → Prop} (a : ¬ okC x) (h : P 0) : wp_X5_isCell σ x P := by
  unfold wp_X5_isCell
  exact w5_no a ⟨Or.inl rfl, h⟩
theorem wne_yes {σ : Mem} {x : Int32} {P : Int32 → Prop} {c : Nat} (a : okC x) (e : x = nI c) (hc : c < 40) (h4 : σ 94 (23 + c) = 2 → P (-4)) (h0 : ¬ σ 94 (23 + c) = 2 → P 0) : wp_X5_whyNotError σ x P := by
  unfold wp_X5_whyNotError
  refine ce5_yes a (br_f n10 ?_)
  subst e
  have p := ix1 (a := 23) (k := c) (n := 313) (by omega) (by decide)
  have e1 : ((23 : Int32) + nI c).toNatClampNeg = 23 + c := p.2
  rw [e1]
  exact ⟨p.1, h4, h0⟩
theorem wne_no {σ : Mem} {x : Int32} {P : Int32 → Prop} (a : ¬ okC x) (h : P (-1)) : wp_X5_whyNotError σ x P := by
  unfold wp_X5_whyNotError
  exact ce5_no a (br_t rfl h)
/-- behind 'before' the class's half stands as it stood -/
theorem CH.bef {σ τ : Mem} {z : Z} {n o : Nat} {H : Nat → Z} (C : CH σ z n o H) (h : ∀ k, ¬ (12 ≤ k ∧ k < 24) → τ k = σ k) : CH τ z n o H ∧ CR σ τ := ⟨C.far (fun k hk => h k (by omega)), fun k a b => h k (by omega), fun k a b => h k (by omega)⟩
/-- the class's act is refused -/
theorem act_no {σ τ : Mem} {z : Z} {n o : Nat} {H : Nat → Z} {r : Int32} {P : Int32 → Mem → Prop} (C : CH σ z n o H) (hb : ∀ k, ¬ (12 ≤ k ∧ k < 24) → τ k = σ k) (hr : ¬ 0 ≤ r) (h : ∀ υ, CH υ z n o H → CR σ υ → P r υ) : wp_X4_recorded τ r P :=
  recorded_no hr (h τ (C.bef hb).1 (C.bef hb).2)
/-- it is done, and recorded -/
theorem act_yes {σ τ ρ : Mem} {z z' : Z} {n o : Nat} {H : Nat → Z} {r : Int32} {P : Int32 → Mem → Prop} (C : CH σ z n o H) (hb : ∀ k, ¬ (12 ≤ k ∧ k < 24) → τ k = σ k) (R12 : Rel τ 12 z) (I : Iz z) (R0 : Rel ρ 0 z') (F : Fr τ ρ) (hr : 0 ≤ r) (h : ∀ υ o', CH υ z' (pushN n) o' (pushH n H z) → CR σ υ → P r υ) : wp_X4_recorded ρ r P := by
  have C2 : CH ρ z' n o H := C.mem R0 (fun k hk => by rw [F k (by omega), hb k (by omega)])
  refine recorded_yes hr C2 (R12.far (fun k a b => F k (by omega))) I (fun υ o' Cυ fυ => h υ o' Cυ ⟨fun k a b => ?_, fun k a b => ?_⟩)
  · rw [fυ k (by omega) (by omega), F k (by omega), hb k (by omega)]
  · rw [fυ k (by omega) b, F k (by omega), hb k (by omega)]
theorem RH.cr {σ τ : Mem} {z : Z} {n : Nat} {H : Nat → Z} (R : RH σ z n H) (f : CR σ τ) : RH τ z n H := R.far (f.2 93 (by decide) (by decide)) (f.2 94 (by decide) (by decide)) (f.2 96 (by decide) (by decide))
theorem m1 : ¬ (0 : Int32) ≤ -1 := by decide
theorem m3 : ¬ (0 : Int32) ≤ -3 := by decide
theorem m4 : ¬ (0 : Int32) ≤ -4 := by decide
theorem m5 : ¬ (0 : Int32) ≤ -5 := by decide
theorem num10 {a b : Nat} : (10 : Int32) * nI a + nI b = nI (10 * a + b) := by
  show nI 10 * nI a + nI b = _
  rw [pk_mul, nI_add]
theorem zw_keep {z : Z} {p : Nat} {v : Int32} (I : Iz z) (hp : p < 50) (hf : zhas z p ∨ ¬ gv z = -5) : zw z p v 0 = z 0 ∧ zw z p v 2 = z 2 ∧ (Lz z → Lz (zw z p v)) := by
  unfold zw
  by_cases h : zhas z p
  · rw [cif_pos h]
    exact ⟨pk_un (by omega), pk_un (by omega), fun L => L.cg (fun i h1 h2 => pk_un (by omega)) (fun c hc q => by rw [pk_un (by omega)]; exact q)⟩
  · rw [cif_neg h]
    rcases gv_cases z with g | ⟨c, hc, g, h0, -⟩
    · exact absurd g (hf.resolve_left h)
    · rw [g, clI (by omega)]
      refine ⟨by unfold zgi; simp (disch := omega) only [pk_un], by unfold zgi; simp (disch := omega) only [pk_un], fun L => L.cg (fun i h1 h2 => by unfold zgi; simp (disch := omega) only [pk_un]) (fun x hx q => ?_)⟩
      have : ¬ x = c := fun e => by rw [e, h0] at q; exact absurd q (by decide)
      unfold zgi
      simp (disch := omega) only [pk_un]
      exact q
theorem sim_write {σ : Mem} (S : SS σ) (y1 y2 y3 : Int32) {Q : Int32 → Int32 → Mem → Prop} (h : ∀ r ρ, SS ρ → Q r r ρ) : wp_X4_write σ y1 y2 y3 (fun r τ => wp_X5_write τ y1 y2 y3 (fun r' ρ => Q r r' ρ)) := by
  obtain ⟨n, o, H, C, R, gH, g, s1, s2, s3⟩ := id S
  generalize hz : σ 94 = z at C R g
  obtain ⟨I, F, L, g0, g2⟩ := id g
  unfold wp_X4_write wp_X5_write
  by_cases hp : okP y1 y2
  · by_cases hv : 0 ≤ y3 ∧ y3 ≤ 9999
    · obtain ⟨a, b, ha, hb, rfl, rfl⟩ := okP_num hp
      have hpp : 10 * a + b < 50 := by omega
      refine pg4_yes hp (br_f n10 (w4_yes hv.1 hv.2 (br_f n10 (before_ok C.2.2.1 I (fun τ R12 hτ => pageIndex_ok rfl rfl ?_)))))
      have R0 : Rel τ 0 z := C.2.2.1.far (fun k _ hk => hτ k (by omega))
      refine put_ok R0 I rfl hpp hv.1 (fun hn hg => act_no C hτ m3 (fun υ Cυ fυ => ?_)) (fun hf ρ Rρ Fρ => ?_)
      · -- no cell
        refine pg5_yes hp (br_f n10 (w5_yes hv.1 hv.2 (br_f n10 ?_)))
        rw [num10]
        have Rυ := R.cr fυ
        rw [← Rυ.asz]
        refine whyNotWrite_ok I F rfl hpp (fun w => absurd w (fun w => w.elim hn (fun w => w hg))) (fun _ _ => br_f m3 (h _ _ ?_))
        rw [Rυ.asz]
        exact SS.mk' Cυ fυ Rυ (RR.rf υ) gH g s1 s2 s3
      · have hcell : ∃ c, c < 40 ∧ zlk (zw z (10 * a + b) y3) 40 (103 + 4 * (10 * a + b) + 0) = nI c := by
          have Iw := I.w hpp hv.1 hf
          have hh := ((zlk_pg Iw.1 hpp 40 (Nat.le_refl _)).1).mpr Iw.2
          obtain ⟨c, hc, e, -⟩ := (Iw.1.lk 40 (Nat.le_refl _)).has hpp hh
          exact ⟨c, hc, e⟩
        obtain ⟨c, hc, ec⟩ := hcell
        refine act_yes C hτ R12 I Rρ Fρ (by rw [ec]; exact nI_ge0 (by omega)) (fun υ o' Cυ fυ => ?_)
        refine pg5_yes hp (br_f n10 (w5_yes hv.1 hv.2 (br_f n10 ?_)))
        rw [num10]
        have Rυ := R.cr fυ
        rw [← Rυ.asz]
        refine whyNotWrite_ok I F rfl hpp (fun _ => br_t (by decide) ?_) (fun w1 w2 => absurd hf (fun w => w.elim w1 (fun w => w w2)))
        rw [Rυ.asz]
        refine record_ok Rυ (fun ω Rω fω => ?_)
        rw [← Rω.asz]
        refine writeNow_ok I F rfl hpp hv.1 hf (h _ _ ?_)
        have zk := zw_keep I hpp hf (v := y3)
        exact SS.mk' Cυ fυ Rω.set (fω.sz _) (pushG gH R.1 g) (Gz.lk (z := z) (I.w hpp hv.1 hf).1 (zk.2.2 L) (by rw [zk.1]; exact g0) (by rw [zk.2.1]; exact g2)) s1 s2 s3
    · exact pg4_yes hp (br_f n10 (w4_no hv (br_t rfl (pg5_yes hp (br_f n10 (w5_no hv (br_t rfl (h _ _ S))))))))
  · exact pg4_no hp (br_t rfl (pg5_no hp (br_t rfl (h _ _ S))))
