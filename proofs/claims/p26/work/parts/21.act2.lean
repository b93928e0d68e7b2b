/-! give back -/
def zgb (z : Z) (p c : Nat) : Z := zem (upd z (23 + c) 0) p
theorem zgb_eq (z : Z) {p c : Nat} (hp : p < 50) (hc : c < 40) : zgb z p c = upd (zem z p) (23 + c) 0 := by
  funext i
  unfold zgb zem upd
  by_cases h : i = 23 + c
  · subst h
    rw [if_neg (by omega), if_neg (by omega), if_neg (by omega), if_neg (by omega), if_pos rfl, if_pos rfl]
  · rw [if_neg h, if_neg h]
theorem Iz.gb {z : Z} (I : Iz z) {p c : Nat} (hp : p < 50) (hc : c < 40) (hpc : z (103 + 4 * p + 0) = nI c) : Iz (zgb z p c) := by
  rw [zgb_eq z hp hc]
  exact (I.em hp hc hpc).free hc
theorem giveBackNow_ok {σ : Mem} {z : Z} {x : Int32} {P : Mem → Prop} {p : Nat} (I : Iz z) (hx : x = nI p) (hp : p < 50) (h0 : ¬ zhas z p → P (sz σ z)) (h : ∀ c, c < 40 → z (103 + 4 * p + 0) = nI c → P (sz σ (zlk (zgb z p c) 40))) : wp_X5_giveBackNow (sz σ z) x P := by
  subst hx
  unfold wp_X5_giveBackNow
  refine of_ok (p := p) (j := 0) rfl rfl hp (by decide) ?_
  rw [sz_94]
  refine ⟨fun q => h0 (fun w => w q), fun q => of_ok (p := p) (j := 0) rfl rfl hp (by decide) ?_⟩
  obtain ⟨c, hc, e, -⟩ := I.has hp q
  rw [sz_94, e]
  have a := ix1 (a := 23) (k := c) (n := 313) (by omega) (by decide)
  have ea : ((23 : Int32) + nI c).toNatClampNeg = 23 + c := a.2
  simp only [bm]
  rw [ea, up2_sz]
  refine ⟨a.1, empty_ok rfl hp ?_⟩
  rw [sz_sz, sz_94]
  exact look_ok (I.gb hp hc e) (h c hc e)
/-- the class lets a page's cell go: the owners too -/
theorem release_ok {σ : Mem} {z : Z} {x : Int32} {P : Mem → Prop} {p c : Nat} (RN : RelN σ z) (RO : Own σ z) (hx : x = nI p) (hp : p < 50) (hc : c < 40) (hpc : z (103 + 4 * p + 0) = nI c) (huq : ∀ q, q < 50 → z (103 + 4 * q + 0) = nI c → q = p) (h : ∀ τ, RelN τ (upd (upd z (103 + 4 * p + 0) (-5)) (103 + 4 * p + 2) 0) → Own τ (upd z (103 + 4 * p + 0) (-5)) → Fr σ τ → τ 5 = σ 5 → P τ) : wp_X1_release σ x P := by
  subst hx
  unfold wp_X1_release
  have e4 : σ 4 p = nI c := by rw [RN.2.2.1 p hp, hpc]
  simp only [bm]
  rw [clI (by omega), e4, clI (by omega), nar0]
  refine ⟨inI hp (by decide), br_t (nI_ge0 (by omega)) ⟨inI hc (by decide), inI hp (by decide), inI hp (by decide), h _ ?_ ?_ ?_ ?_⟩⟩
  · exact RelN_pin (RelN_cel (v := -5) (RelN_c3 RN) hp (fun w => absurd rfl w)) hp
  · intro y hy
    simp (disch := omega) only [up2_ne]
    rw [up2_eq]
    have epp : ∀ q, q < 50 → upd z (103 + 4 * p + 0) (-5) (103 + 4 * q + 0) = if q = p then -5 else z (103 + 4 * q + 0) := by
      intro q hq
      by_cases e : q = p
      · subst e; rw [pk_us, if_pos rfl]
      · rw [pk_un (by omega), if_neg e]
    by_cases e1 : y = c
    · rw [e1, pk_us, zpg_none (fun q hq w => ?_)]
      rw [epp q hq] at w
      by_cases e : q = p
      · rw [if_pos e] at w; exact nI_nm5 (by omega) w.symm
      · rw [if_neg e] at w; exact e (huq q hq w)
    · rw [pk_un e1, RO y hy]
      refine zpg_congr 50 (fun q hq => ?_)
      rw [epp q hq]
      by_cases e : q = p
      · rw [if_pos e, e, hpc]
        exact ⟨fun w => absurd (nI_inj (by omega) (by omega) w).symm e1, fun w => absurd w.symm (nI_nm5 (by omega))⟩
      · rw [if_neg e]
  · exact (((Fr.rf σ).up (by decide)).up (by decide)).up (by decide)
  · rw [up2_ne _ (by decide), up2_ne _ (by decide), up2_ne _ (by decide)]
/-- the values of pages without cells are nothing to a memory -/
theorem RelN_v1 {σ : Mem} {z : Z} {i : Nat} {v : Int32} (R : RelN σ z) (hi : i < 50) (h : ¬ zhas z i) : RelN σ (upd z (103 + 4 * i + 1) v) := by
  obtain ⟨hret, herr, hcel, hval, hpin, hlos, hmov, hlis, hset, hlen, hday, hlas, hers, hhrd, hsta⟩ := R
  refine ⟨fun x hx => ?_, fun x hx => ?_, fun x hx => ?_, fun x hx hh => ?_, fun x hx => ?_, fun x hx => ?_, fun x hx => ?_, fun x hx => ?_, fun x hx => ?_, ?_, ?_, ?_, ?_, ?_, ?_⟩
  · rw [pk_un (by omega)]; exact hret x hx
  · rw [pk_un (by omega)]; exact herr x hx
  · rw [pk_un (by omega)]; exact hcel x hx
  · unfold zhas at hh
    rw [pk_un (by omega)] at hh
    by_cases e : x = i
    · rw [e] at hh; exact absurd hh h
    · rw [pk_un (by omega)]; exact hval x hx hh
  · rw [pk_un (by omega)]; exact hpin x hx
  · rw [pk_un (by omega)]; exact hlos x hx
  · rw [pk_un (by omega)]; exact hmov x hx
  · rw [pk_un (by omega)]; exact hlis x hx
  · rw [pk_un (by omega)]; exact hset x hx
  · rw [pk_un (by omega)]; exact hlen
  · rw [pk_un (by omega)]; exact hday
  · rw [pk_un (by omega)]; exact hlas
  · rw [pk_un (by omega)]; exact hers
  · rw [pk_un (by omega)]; exact hhrd
  · rw [pk_un (by omega)]; exact hsta
theorem upd_comm {z : Z} {i j : Nat} {a b : Int32} (h : ¬ i = j) : upd (upd z i a) j b = upd (upd z j b) i a := by
  funext k
  unfold upd
  by_cases h1 : k = i
  · subst h1; simp [h]
  · simp [h1]
theorem RelN_em {τ : Mem} {z : Z} {p : Nat} (hp : p < 50) (R : RelN τ (upd (upd z (103 + 4 * p + 0) (-5)) (103 + 4 * p + 2) 0)) : RelN τ (zem z p) := by
  have A := RelN_v1 (i := p) (v := -5) R hp (fun w => w (by rw [pk_un (by omega), pk_us]))
  have B := RelN_z3p (i := p) (v := 0) A hp
  unfold zem
  rw [upd_comm (z := upd z (103 + 4 * p + 0) (-5)) (i := 103 + 4 * p + 1) (by omega)]
  exact B
theorem takeBack_ok {σ : Mem} {z : Z} {x : Int32} {P : Int32 → Mem → Prop} {p : Nat} (R : Rel σ 0 z) (I : Iz z) (hx : x = nI p) (hp : p < 50) (h0 : ¬ zhas z p → P (-5) σ) (h : ∀ c, c < 40 → z (103 + 4 * p + 0) = nI c → ∀ τ, Rel τ 0 (zlk (zgb z p c) 40) → Fr σ τ → P (z (103 + 4 * p + 1)) τ) : wp_X1_takeBack σ x P := by
  subst hx
  unfold wp_X1_takeBack
  obtain ⟨RN, RO⟩ := Rel_iff.mp R
  refine hasCell_ok R I rfl hp (fun hz => br_f n10 ?_) (fun hz => br_t rfl (h0 hz))
  obtain ⟨c, hc, e, h1, -⟩ := I.has hp hz
  rw [clI (by omega), show σ 5 p = _ from R.val p hp hz]
  have huq : ∀ q, q < 50 → z (103 + 4 * q + 0) = nI c → q = p := by
    rcases I.pg hc with ⟨-, -, w⟩ | ⟨q, hq, -, w1, w2, w3⟩
    · exact absurd e (w p hp)
    · intro i hi hii
      rw [w3 i hi hii, w3 p hp e]
  refine ⟨inI hp (by decide), release_ok RN RO rfl hp hc e huq (fun τ RNτ ROτ Fτ _ => ?_)⟩
  have RNe := RelN_em hp RNτ
  have RNg : RelN τ (zgb z p c) := by
    rw [zgb_eq z hp hc]
    refine RelN_zh RNe hc ?_
    rw [(zem_at z hp).2.2.2 _ (by omega) (by omega), h1]
    decide
  have Rg : Rel τ 0 (zgb z p c) := by
    refine Rel_iff.mpr ⟨RNg, Own_congr ROτ rfl (fun q hq => ?_)⟩
    rw [zgb_eq z hp hc, pk_un (by omega), (zem_at z hp).1 q hq]
    by_cases e2 : q = p
    · rw [if_pos e2, e2, pk_us]
    · rw [if_neg e2, pk_un (by omega)]
  exact retireWhatCan_ok Rg (I.gb hp hc e) (fun ρ d Rρ Fρ _ => h c hc e ρ Rρ (Fτ.tr Fρ))
/-! pin -/
def zpi (z : Z) (p : Nat) (b : Int32) : Z := upd z (103 + 4 * p + 2) b
theorem Iz.pi {z : Z} (I : Iz z) {p : Nat} {b : Int32} (hp : p < 50) (hz : zhas z p) (hb : isZ b) : Iz (zpi z p b) := by
  unfold zpi
  refine I.pv hp hz (fun i hi _ h2 _ => pk_un h2) ?_ (by rw [pk_us]; exact hb)
  rw [pk_un (by omega)]
  obtain ⟨c, hc, -, -, q, -⟩ := I.has hp hz
  exact q
theorem pinNow_ok {σ : Mem} {z : Z} {x b : Int32} {P : Mem → Prop} {p : Nat} (I : Iz z) (hx : x = nI p) (hp : p < 50) (hz : zhas z p) (hb : isZ b) (h : P (sz σ (zlk (zpi z p b) 40))) : wp_X5_pinNow (sz σ z) x b P := by
  subst hx
  unfold wp_X5_pinNow
  refine lay_ok (p := p) (j := 2) rfl rfl hp (by decide) ?_
  rw [up2_sz]
  exact look_ok (I.pi hp hz hb) h
/-- pinned pages of so many, from one on -/
def zpn (z : Z) (f : Nat) : Nat → Int32
  | 0 => 0
  | n + 1 => zpn z f n + z (103 + 4 * (f + n) + 2)
theorem lq2_inv' {A : Type} {F : (A → Int32 → Prop) → A → Int32 → Prop} (f N : Nat) (I : Nat → A → Prop) (hs : ∀ k a rec, k < N → I k a → (∀ a', I (k + 1) a' → rec a' (nI (f + k) + 1)) → F rec a (nI (f + k))) (he : ∀ a rec, I N a → F rec a (nI (f + N))) {a : A} {x : Int32} (h0 : I 0 a) (hx : x = nI f) : lq2 F a x := by
  intro P hP
  have key : ∀ n k a, k + n = N → I k a → P a (nI (f + k)) := by
    intro n
    induction n with
    | zero => intro k a hk hI; have : k = N := by omega
              subst this; exact hP _ _ (he a P hI)
    | succ n ih => intro k a hk hI; exact hP _ _ (hs k a P (by omega) hI (fun a' h => by rw [nI_1]; exact ih (k + 1) a' (by omega) h))
  rw [hx]
  exact key N 0 a (by omega) h0
theorem pinned_ok {σ : Mem} {x y : Int32} {P : Int32 → Prop} {f n : Nat} (hx : x = nI f) (hy : y = nI n) (hf : f + n ≤ 50) (h : P (zpn (σ 94) f n)) : wp_X5_pinned σ x y P := by
  subst hx; subst hy
  unfold wp_X5_pinned
  refine lq2_inv' f n (fun k a => a = zpn (σ 94) f k) (fun k a rec hk hI hrec => ?_) (fun a rec hI => ?_) rfl rfl
  · subst hI
    rw [nI_add]
    refine ⟨fun q => absurd q (nI_ge (by omega) (by omega)), fun _ => of_ok (p := f + k) (j := 2) rfl rfl (by omega) (by decide) (hrec _ rfl)⟩
  · subst hI
    rw [nI_add]
    exact ⟨fun _ => h, fun q => absurd (Int32.le_refl _) q⟩
theorem zpn_add (z : Z) (f m : Nat) : ∀ n, zpn z f (m + n) = zpn z f m + zpn z (f + m) n
  | 0 => by simp [zpn]
  | n + 1 => by
    show zpn z f (m + n) + z (103 + 4 * (f + (m + n)) + 2) = zpn z f m + (zpn z (f + m) n + z (103 + 4 * (f + m + n) + 2))
    rw [zpn_add z f m n, Nat.add_assoc f m n, Int32.add_assoc]
theorem pageIndex_ok {σ : Mem} {x y : Int32} {P : Int32 → Prop} {a k : Nat} (hx : x = nI a) (hy : y = nI k) (h : P (nI (10 * a + k))) : wp_X4_pageIndex σ x y P := by
  subst hx; subst hy
  unfold wp_X4_pageIndex
  have e : nI a * 10 + nI k = nI (10 * a + k) := by
    show nI a * nI 10 + nI k = _
    rw [pk_mul, nI_add, Nat.mul_comm]
  rw [e]
  exact h
/-- the class counts them by programs -/
theorem pinnedPagesOf_ok {σ : Mem} {z : Z} {x : Int32} {P : Int32 → Prop} {a : Nat} (R : Rel σ 0 z) (I : Iz z) (hx : x = nI a) (ha : a < 5) (h : P (zpn z (10 * a) 10)) : wp_X1_pinnedPagesOf σ x P := by
  subst hx
  unfold wp_X1_pinnedPagesOf
  refine lq2_inv 10 (fun k b => b = zpn z (10 * a) k) (fun k b rec hk hI hrec => ?_) (fun b rec hI => ?_) rfl nI_0.symm
  · subst hI
    refine ⟨ge_no hk (by decide), fun _ => pageIndex_ok rfl rfl ?_⟩
    rw [clI (by omega), show σ 6 (10 * a + k) = _ from R.pin _ (by omega)]
    refine ⟨inI (by omega) (by decide), fun q => hrec _ ?_, fun q => hrec _ ?_⟩
    · show _ = zpn z (10 * a) k + z (103 + 4 * (10 * a + k) + 2)
      rw [q, Int32.add_zero]
    · show _ = zpn z (10 * a) k + z (103 + 4 * (10 * a + k) + 2)
      have hz : isZ (z (103 + 4 * (10 * a + k) + 2)) := by
        by_cases hh : zhas z (10 * a + k)
        · obtain ⟨c, -, -, -, -, w⟩ := I.has (by omega) hh
          exact w
        · exact Or.inl (I.nohas (by omega) hh).2.2
      rcases hz with w | w
      · exact absurd w q
      · rw [w]
  · subst hI
    exact ⟨fun _ => h, ge_yes⟩
theorem pinnedPages_ok {σ : Mem} {z : Z} {P : Int32 → Prop} (R : Rel σ 0 z) (I : Iz z) (h : P (zpn z 0 50)) : wp_X1_pinnedPages σ P := by
  unfold wp_X1_pinnedPages
  refine lq2_inv 5 (fun k b => b = zpn z 0 (10 * k)) (fun k b rec hk hI hrec => ?_) (fun b rec hI => ?_) rfl nI_0.symm
  · subst hI
    refine ⟨ge_no hk (by decide), fun _ => pinnedPagesOf_ok R I rfl hk (hrec _ ?_)⟩
    have := zpn_add z 0 (10 * k) 10
    rw [Nat.zero_add] at this
    rw [← this]
    congr 1
  · subst hI
    exact ⟨fun _ => h, ge_yes⟩
theorem changePin_ok {σ : Mem} {z : Z} {x b : Int32} {P : Int32 → Mem → Prop} {p : Nat} (R : Rel σ 0 z) (I : Iz z) (hx : x = nI p) (hp : p < 50) (hb : isZ b) (h4 : ¬ zhas z p → P (-4) σ) (h5 : zhas z p → z (103 + 4 * p + 2) = b → P (-5) σ) (h : zhas z p → ¬ z (103 + 4 * p + 2) = b → ∀ τ, Rel τ 0 (zlk (zpi z p b) 40) → Fr σ τ → P (zpn (zlk (zpi z p b) 40) 0 50) τ) : wp_X1_changePin σ x b P := by
  subst hx
  unfold wp_X1_changePin
  obtain ⟨RN, RO⟩ := Rel_iff.mp R
  refine hasCell_ok R I rfl hp (fun hz => br_f n10 ?_) (fun hz => br_t rfl (h4 hz))
  have nb : vp_nar .boolean b = b := by rcases hb with rfl | rfl <;> rfl
  simp only [bm]
  rw [clI (by omega), show σ 6 p = _ from R.pin p hp, nb]
  refine ⟨inI hp (by decide), fun q => h5 hz q, fun q => ⟨inI hp (by decide), ?_⟩⟩
  have Rp : Rel (up2 σ 6 p b) 0 (zpi z p b) := Rel_iff.mpr ⟨RelN_pin RN hp, Own_congr RO (up2_ne _ (by decide)) (fun q hq => by unfold zpi; rw [pk_un (by omega)])⟩
  have Ip := I.pi hp hz hb
  refine retireWhatCan_ok Rp Ip (fun τ d Rτ Fτ _ => pinnedPages_ok Rτ (Ip.lk 40 (Nat.le_refl _)) (h hz q τ Rτ (((Fr.rf σ).up (by decide)).tr Fτ)))
/-! error -/
def zer (z : Z) (c : Nat) : Z := upd (upd z (63 + c) (z (63 + c) + 1)) 4 (z 4 + 1)
theorem Iz.er {z : Z} (I : Iz z) {c : Nat} (hc : c < 40) : Iz (zer z c) := I.cg (fun i hi h => by unfold zer; rw [pk_un (by omega), pk_un (by omega)])
theorem errorNow_ok {σ : Mem} {z : Z} {x : Int32} {P : Int32 → Mem → Prop} {c d : Nat} (I : Iz z) (hx : x = nI c) (hc : c < 40) (hd : zcn (zlk (zer z c) 40) 2 40 = zcn z 2 40 + d) (h : P (nI d) (sz σ (zlk (zer z c) 40))) : wp_X5_errorNow (sz σ z) x P := by
  subst hx
  unfold wp_X5_errorNow
  refine cells_ok ?_
  have a := ix1 (a := 63) (k := c) (n := 313) (by omega) (by decide)
  have ea : ((63 : Int32) + nI c).toNatClampNeg = 63 + c := a.2
  simp only [bm]
  rw [ea, up2_sz, up2_sz, sz_94, sz_94, pk_un (by omega)]
  refine ⟨a.1, a.1, look_ok (I.er hc) (cells_ok ?_)⟩
  rw [sz_94]
  have e : nI (zcn (zlk (zer z c) 40) 2 40) - nI (zcn z 2 40) = nI d := by
    rw [hd, pk_sub (by omega)]
    congr 1
    omega
  show P (nI (zcn (zlk (zer z c) 40) 2 40) - nI (zcn z 2 40)) (sz σ (zlk (zer z c) 40))
  rw [e]
  exact h
theorem meetError_ok {σ : Mem} {z : Z} {x : Int32} {P : Int32 → Mem → Prop} {c : Nat} (R : Rel σ 0 z) (I : Iz z) (hx : x = nI c) (hc : c < 40) (h4 : z (23 + c) = 2 → P (-4) σ) (h : ¬ z (23 + c) = 2 → ∀ τ d, Rel τ 0 (zlk (zer z c) 40) → Fr σ τ → zcn (zlk (zer z c) 40) 2 40 = zcn z 2 40 + d → P (nI d) τ) : wp_X1_meetError σ x P := by
  subst hx
  unfold wp_X1_meetError
  obtain ⟨RN, RO⟩ := Rel_iff.mp R
  simp only [bm]
  rw [clI (by omega), show σ 1 c = _ from R.ret c hc, show σ 2 c = _ from R.err c hc, up2_ne σ (by decide), show σ 0 14 = _ from R.ers]
  refine ⟨inI hc (by decide), fun q => ⟨inI hc (by decide), inI hc (by decide), ?_⟩, fun q => h4 ?_⟩
  · have h2 : ¬ z (23 + c) = 2 := fun w => by rw [if_pos w] at q; exact n10 q
    have Re : Rel (up2 (up2 σ 2 c (z (63 + c) + 1)) 0 14 (z 4 + 1)) 0 (zer z c) := Rel_iff.mpr ⟨RelN_ers (RelN_err RN hc), Own_congr RO (by rw [up2_ne _ (by decide), up2_ne _ (by decide)]) (fun p hp => by unfold zer; rw [pk_un (by omega), pk_un (by omega)])⟩
    refine retireWhatCan_ok Re (I.er hc) (fun τ d Rτ Fτ hd => h h2 τ d Rτ ((((Fr.rf σ).up (by decide)).up (by decide)).tr Fτ) ?_)
    rw [hd]
    congr 1
    exact zcn_congr 40 (fun y hy => by unfold zer; rw [pk_un (by omega), pk_un (by omega)])
  · exact Classical.byContradiction (fun w => q (by rw [if_neg w]))
