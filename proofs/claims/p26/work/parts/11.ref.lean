/-! PURE PART: the reference's leaves -/
theorem fa_three' (a b : Int32) : a < b ∨ a = b ∨ b < a := by
  rcases Int.lt_trichotomy a.toInt b.toInt with h | h | h
  · exact Or.inl (Int32.lt_iff_toInt_lt.mpr h)
  · exact Or.inr (Or.inl (Int32.toInt_inj.mp h))
  · exact Or.inr (Or.inr (Int32.lt_iff_toInt_lt.mpr h))
theorem in_ok {σ : Mem} {x lo hi : Int32} {P : Int32 → Prop} (h1 : lo ≤ x → x ≤ hi → P 1) (h0 : ¬ (lo ≤ x ∧ x ≤ hi) → P 0) : wp_X5_in σ x lo hi P := by
  unfold wp_X5_in
  refine ⟨fun q => h0 (fun h => ?_), fun q => ⟨fun q2 => h0 (fun h => ?_), fun q2 => h1 (Int32.not_lt.mp q) (Int32.not_lt.mp q2)⟩⟩
  · exact absurd h.1 (Int32.not_le.mpr q)
  · exact absurd h.2 (Int32.not_le.mpr q2)
theorem of_ok {σ : Mem} {x y : Int32} {P : Int32 → Prop} {p j : Nat} (hx : x = nI p) (hy : y = nI j) (hp : p < 50) (hj : j < 4) (h : P (σ 94 (103 + 4 * p + j))) : wp_X5_of σ x y P := by
  subst hx; subst hy
  unfold wp_X5_of
  refine ⟨(ixp hp hj).1, ?_⟩
  rw [(ixp hp hj).2]
  exact h
theorem lay_ok {σ : Mem} {x y v : Int32} {P : Mem → Prop} {p j : Nat} (hx : x = nI p) (hy : y = nI j) (hp : p < 50) (hj : j < 4) (h : P (up2 σ 94 (103 + 4 * p + j) v)) : wp_X5_lay σ x y v P := by
  subst hx; subst hy
  unfold wp_X5_lay
  refine ⟨(ixp hp hj).1, ?_⟩
  rw [(ixp hp hj).2]
  exact h
theorem up2_94 (σ : Mem) (i : Nat) (v : Int32) : up2 σ 94 i v 94 = upd (σ 94) i v := up2_eq σ 94 i v
/-- the memory with another state of the reference -/
def sz (σ : Mem) (z : Z) : Mem := fun a => if a = 94 then z else σ a
theorem sz_94 (σ : Mem) (z : Z) : sz σ z 94 = z := by simp [sz]
theorem sz_ne (σ : Mem) (z : Z) {a : Nat} (h : a ≠ 94) : sz σ z a = σ a := by simp [sz, h]
theorem sz_sz (σ : Mem) (z w : Z) : sz (sz σ z) w = sz σ w := by funext a; by_cases h : a = 94 <;> simp [sz, h]
theorem sz_id (σ : Mem) : sz σ (σ 94) = σ := by funext a; by_cases h : a = 94 <;> simp [sz, h]
theorem up2_sz (σ : Mem) (z : Z) (i : Nat) (v : Int32) : up2 (sz σ z) 94 i v = sz σ (upd z i v) := by funext a; by_cases h : a = 94 <;> simp [sz, up2, h]
theorem up2_sz0 (σ : Mem) (i : Nat) (v : Int32) : up2 σ 94 i v = sz σ (upd (σ 94) i v) := by funext a; by_cases h : a = 94 <;> simp [sz, up2, h]
/-- a page without a cell -/
def zem (z : Z) (p : Nat) : Z := upd (upd (upd (upd z (103 + 4 * p + 0) (-5)) (103 + 4 * p + 1) (-5)) (103 + 4 * p + 2) 0) (103 + 4 * p + 3) 0
theorem empty_ok {σ : Mem} {x : Int32} {P : Mem → Prop} {p : Nat} (hx : x = nI p) (hp : p < 50) (h : P (sz σ (zem (σ 94) p))) : wp_X5_empty σ x P := by
  unfold wp_X5_empty
  refine lay_ok hx rfl hp (by decide) (lay_ok hx (j := 1) rfl hp (by decide) (lay_ok hx (j := 2) rfl hp (by decide) (lay_ok hx (j := 3) rfl hp (by decide) ?_)))
  simp only [up2_sz0, sz_sz, sz_94]
  exact h
theorem isCell_ok {σ : Mem} {x : Int32} {P : Int32 → Prop} (h1 : ∀ c, c < 40 → x = nI c → P 1) (h0 : ¬ (0 ≤ x ∧ x ≤ 39) → P 0) : wp_X5_isCell σ x P := by
  unfold wp_X5_isCell
  refine in_ok (fun a b => ⟨Or.inr rfl, ?_⟩) (fun a => ⟨Or.inl rfl, h0 a⟩)
  obtain ⟨c, hc, e⟩ := nI_of2 (M := 39) (n := 39) (by decide) (Int32.not_lt.mpr a) b
  exact h1 c (by omega) e
theorem isPage_ok {σ : Mem} {x y : Int32} {P : Int32 → Prop} (h1 : ∀ a b, a < 5 → b < 10 → x = nI a → y = nI b → P 1) (h0 : ¬ ((0 ≤ x ∧ x ≤ 4) ∧ 0 ≤ y ∧ y ≤ 9) → P 0) : wp_X5_isPage σ x y P := by
  unfold wp_X5_isPage
  refine in_ok (fun a b => br_f n10 (in_ok (fun a2 b2 => br_f n10 ?_) (fun a2 => br_t rfl (h0 (fun q => a2 q.2))))) (fun a => br_t rfl (h0 (fun q => a q.1)))
  obtain ⟨c, hc, e⟩ := nI_of2 (M := 4) (n := 4) (by decide) (Int32.not_lt.mpr a) b
  obtain ⟨c2, hc2, e2⟩ := nI_of2 (M := 9) (n := 9) (by decide) (Int32.not_lt.mpr a2) b2
  exact h1 c c2 (by omega) (by omega) e e2
theorem pageIn_ok {σ : Mem} {x : Int32} {P : Int32 → Prop} (h : P (zpg (σ 94) x 50)) : wp_X5_pageIn σ x P := by
  unfold wp_X5_pageIn
  refine lq2_inv 50 (fun k a => a = zpg (σ 94) x k) (fun k a rec hk hI hrec => ?_) (fun a rec hI => ?_) rfl nI_0.symm
  · subst hI
    refine ⟨ge_no hk (by decide), fun _ => of_ok (p := k) (j := 0) rfl rfl hk (by decide) ?_⟩
    refine ⟨fun q => hrec _ ?_, fun q => hrec _ ?_⟩
    · show nI k = zpg (σ 94) x (k + 1)
      unfold zpg
      rw [if_pos q]
    · show zpg (σ 94) x k = zpg (σ 94) x (k + 1)
      rw [zpg, if_neg q]
  · subst hI
    exact ⟨fun _ => h, ge_yes⟩
theorem cells_ok {σ : Mem} {x : Int32} {P : Int32 → Prop} (h : P (nI (zcn (σ 94) x 40))) : wp_X5_cells σ x P := by
  unfold wp_X5_cells
  refine lq2_inv 40 (fun k a => a = nI (zcn (σ 94) x k)) (fun k a rec hk hI hrec => ?_) (fun a rec hI => ?_) nI_0.symm nI_0.symm
  · subst hI
    have hx := ix1 (a := 23) (k := k) (n := 313) (by omega) (by decide)
    refine ⟨ge_no hk (by decide), fun _ => ⟨hx.1, ?_⟩⟩
    have e : ((23 : Int32) + nI k).toNatClampNeg = 23 + k := hx.2
    unfold jn
    rw [e]
    refine ⟨fun q => hrec _ ?_, fun q => hrec _ ?_⟩
    · show nI _ + nI 1 = nI _
      rw [nI_add, zcn, if_pos q]
    · show nI _ + nI 0 = nI _
      rw [nI_add, zcn, if_neg q]
  · subst hI
    exact ⟨fun _ => h, ge_yes⟩
theorem rbad_ok {σ : Mem} {x : Int32} {P : Int32 → Prop} {c : Nat} (hx : x = nI c) (hc : c < 40) (h1 : bad (σ 94) c → P 1) (h0 : ¬ bad (σ 94) c → P 0) : wp_X5_isBad σ x P := by
  subst hx
  have a := ix1 (a := 23) (k := c) (n := 313) (by omega) (by decide)
  have b := ix1 (a := 63) (k := c) (n := 313) (by omega) (by decide)
  have e : ((23 : Int32) + nI c).toNatClampNeg = 23 + c := a.2
  have e2 : ((63 : Int32) + nI c).toNatClampNeg = 63 + c := b.2
  unfold wp_X5_isBad
  rw [e, e2]
  exact ⟨a.1, fun q => h0 (fun w => w.1 q), fun q => ⟨b.1, fun q2 => h0 (fun w => w.2 q2), fun q2 => h1 ⟨q, q2⟩⟩⟩
theorem zat_lt (z : Z) {k : Nat} (hk : k < 40) : zat z k < 40 := by
  unfold zat
  split
  · exact Nat.mod_lt _ (by decide)
  · exact hk
theorem Best.imp {z : Z} {all : Prop} {nt : Int32} {D D' : Nat → Prop} {r : Int32} (h : Best z all nt D r) (hD : ∀ k, k < 40 → (D k ↔ D' k)) : Best z all nt D' r := by
  rcases h with ⟨e, h⟩ | ⟨j, hj, hd, e, hc, hb⟩
  · exact Or.inl ⟨e, fun k hk hd => h k hk ((hD k hk).mpr hd)⟩
  · exact Or.inr ⟨j, hj, (hD j hj).mp hd, e, hc, fun k hk hd => hb k hk ((hD k hk).mpr hd)⟩
theorem zbet_tot (z : Z) (j k : Nat) : zbet z j k ∨ zbet z k j := by
  unfold zbet
  split
  · rcases fa_three' (z (63 + j)) (z (63 + k)) with h | h | h
    · exact Or.inl (Or.inl h)
    · rcases Nat.le_total j k with q | q
      · exact Or.inl (Or.inr ⟨h, q⟩)
      · exact Or.inr (Or.inr ⟨h.symm, q⟩)
    · exact Or.inr (Or.inl h)
  · omega
