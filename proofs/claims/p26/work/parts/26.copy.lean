/-! PURE PART: copies of memories and of states -/
theorem bm_of {A : Type} {x : A} {f : A → Prop} (h : ∀ y, y = x → f y) : bm x f := h x rfl
theorem copyFrom_ok {σ : Mem} {a b : Nat} {P : Mem → Prop} (ha : isM a) (hb : isM b) (hne : a ≠ b) (hz1 : ∀ i, i < 40 → isZ (σ (a + 1) i)) (hz6 : ∀ i, i < 50 → isZ (σ (a + 6) i)) (h : ∀ τ, (∀ z, Rel σ a z → Rel τ b z) → (∀ k, ¬ (b ≤ k ∧ k < b + 12) → τ k = σ k) → P τ) : wp_X1_copyFrom σ b a P := by
  unfold isM at ha hb
  have hab : a + 12 ≤ b ∨ b + 12 ≤ a := by omega
  have ho : ∀ j, j < 12 → ¬ (b ≤ a + j ∧ a + j < b + 12) := fun j hj => by omega
  have hoa : ¬ (b ≤ a ∧ a < b + 12) := by omega
  unfold wp_X1_copyFrom
  refine ⟨hz1, ?_⟩
  refine bm_of (fun σ1 e1 => ?_)
  have o1 : ∀ k, ¬ (b ≤ k ∧ k < b + 12) → σ1 k = σ k := fun k hk => by rw [e1, cpA_ne _ (by omega)]
  have r1_1 : ∀ i, i < 40 → σ1 (b + 1) i = σ (a + 1) i := fun i hi => by rw [e1, cpA_eq, sb_cpy0 hi]
  refine bm_of (fun σ2 e2 => ?_)
  have o2 : ∀ k, ¬ (b ≤ k ∧ k < b + 12) → σ2 k = σ k := fun k hk => by rw [e2, cpA_ne _ (by omega)]; exact o1 k hk
  have r2_2 : ∀ i, i < 40 → σ2 (b + 2) i = σ (a + 2) i := fun i hi => by rw [e2, cpA_eq, sb_cpy0 hi, o1 _ (ho 2 (by decide))]
  have r2_1 : ∀ i, i < 40 → σ2 (b + 1) i = σ (a + 1) i := fun i hi => by rw [e2, cpA_ne _ (by omega)]; exact r1_1 i hi
  refine bm_of (fun σ3 e3 => ?_)
  have o3 : ∀ k, ¬ (b ≤ k ∧ k < b + 12) → σ3 k = σ k := fun k hk => by rw [e3, cpA_ne _ (by omega)]; exact o2 k hk
  have r3_3 : ∀ i, i < 40 → σ3 (b + 3) i = σ (a + 3) i := fun i hi => by rw [e3, cpA_eq, sb_cpy0 hi, o2 _ (ho 3 (by decide))]
  have r3_1 : ∀ i, i < 40 → σ3 (b + 1) i = σ (a + 1) i := fun i hi => by rw [e3, cpA_ne _ (by omega)]; exact r2_1 i hi
  have r3_2 : ∀ i, i < 40 → σ3 (b + 2) i = σ (a + 2) i := fun i hi => by rw [e3, cpA_ne _ (by omega)]; exact r2_2 i hi
  refine bm_of (fun σ4 e4 => ?_)
  have o4 : ∀ k, ¬ (b ≤ k ∧ k < b + 12) → σ4 k = σ k := fun k hk => by rw [e4, cpA_ne _ (by omega)]; exact o3 k hk
  have r4_4 : ∀ i, i < 50 → σ4 (b + 4) i = σ (a + 4) i := fun i hi => by rw [e4, cpA_eq, sb_cpy0 hi, o3 _ (ho 4 (by decide))]
  have r4_1 : ∀ i, i < 40 → σ4 (b + 1) i = σ (a + 1) i := fun i hi => by rw [e4, cpA_ne _ (by omega)]; exact r3_1 i hi
  have r4_2 : ∀ i, i < 40 → σ4 (b + 2) i = σ (a + 2) i := fun i hi => by rw [e4, cpA_ne _ (by omega)]; exact r3_2 i hi
  have r4_3 : ∀ i, i < 40 → σ4 (b + 3) i = σ (a + 3) i := fun i hi => by rw [e4, cpA_ne _ (by omega)]; exact r3_3 i hi
  refine bm_of (fun σ5 e5 => ?_)
  have o5 : ∀ k, ¬ (b ≤ k ∧ k < b + 12) → σ5 k = σ k := fun k hk => by rw [e5, cpA_ne _ (by omega)]; exact o4 k hk
  have r5_5 : ∀ i, i < 50 → σ5 (b + 5) i = σ (a + 5) i := fun i hi => by rw [e5, cpA_eq, sb_cpy0 hi, o4 _ (ho 5 (by decide))]
  have r5_1 : ∀ i, i < 40 → σ5 (b + 1) i = σ (a + 1) i := fun i hi => by rw [e5, cpA_ne _ (by omega)]; exact r4_1 i hi
  have r5_2 : ∀ i, i < 40 → σ5 (b + 2) i = σ (a + 2) i := fun i hi => by rw [e5, cpA_ne _ (by omega)]; exact r4_2 i hi
  have r5_3 : ∀ i, i < 40 → σ5 (b + 3) i = σ (a + 3) i := fun i hi => by rw [e5, cpA_ne _ (by omega)]; exact r4_3 i hi
  have r5_4 : ∀ i, i < 50 → σ5 (b + 4) i = σ (a + 4) i := fun i hi => by rw [e5, cpA_ne _ (by omega)]; exact r4_4 i hi
  refine ⟨fun i hi => by rw [o5 (a + 6) (ho 6 (by decide))]; exact hz6 i hi, ?_⟩
  refine bm_of (fun σ6 e6 => ?_)
  have o6 : ∀ k, ¬ (b ≤ k ∧ k < b + 12) → σ6 k = σ k := fun k hk => by rw [e6, cpA_ne _ (by omega)]; exact o5 k hk
  have r6_6 : ∀ i, i < 50 → σ6 (b + 6) i = σ (a + 6) i := fun i hi => by rw [e6, cpA_eq, sb_cpy0 hi, o5 _ (ho 6 (by decide))]
  have r6_1 : ∀ i, i < 40 → σ6 (b + 1) i = σ (a + 1) i := fun i hi => by rw [e6, cpA_ne _ (by omega)]; exact r5_1 i hi
  have r6_2 : ∀ i, i < 40 → σ6 (b + 2) i = σ (a + 2) i := fun i hi => by rw [e6, cpA_ne _ (by omega)]; exact r5_2 i hi
  have r6_3 : ∀ i, i < 40 → σ6 (b + 3) i = σ (a + 3) i := fun i hi => by rw [e6, cpA_ne _ (by omega)]; exact r5_3 i hi
  have r6_4 : ∀ i, i < 50 → σ6 (b + 4) i = σ (a + 4) i := fun i hi => by rw [e6, cpA_ne _ (by omega)]; exact r5_4 i hi
  have r6_5 : ∀ i, i < 50 → σ6 (b + 5) i = σ (a + 5) i := fun i hi => by rw [e6, cpA_ne _ (by omega)]; exact r5_5 i hi
  refine bm_of (fun σ7 e7 => ?_)
  have o7 : ∀ k, ¬ (b ≤ k ∧ k < b + 12) → σ7 k = σ k := fun k hk => by rw [e7, cpA_ne _ (by omega)]; exact o6 k hk
  have r7_7 : ∀ i, i < 50 → σ7 (b + 7) i = σ (a + 7) i := fun i hi => by rw [e7, cpA_eq, sb_cpy0 hi, o6 _ (ho 7 (by decide))]
  have r7_1 : ∀ i, i < 40 → σ7 (b + 1) i = σ (a + 1) i := fun i hi => by rw [e7, cpA_ne _ (by omega)]; exact r6_1 i hi
  have r7_2 : ∀ i, i < 40 → σ7 (b + 2) i = σ (a + 2) i := fun i hi => by rw [e7, cpA_ne _ (by omega)]; exact r6_2 i hi
  have r7_3 : ∀ i, i < 40 → σ7 (b + 3) i = σ (a + 3) i := fun i hi => by rw [e7, cpA_ne _ (by omega)]; exact r6_3 i hi
  have r7_4 : ∀ i, i < 50 → σ7 (b + 4) i = σ (a + 4) i := fun i hi => by rw [e7, cpA_ne _ (by omega)]; exact r6_4 i hi
  have r7_5 : ∀ i, i < 50 → σ7 (b + 5) i = σ (a + 5) i := fun i hi => by rw [e7, cpA_ne _ (by omega)]; exact r6_5 i hi
  have r7_6 : ∀ i, i < 50 → σ7 (b + 6) i = σ (a + 6) i := fun i hi => by rw [e7, cpA_ne _ (by omega)]; exact r6_6 i hi
  refine bm_of (fun σ8 e8 => ?_)
  have o8 : ∀ k, ¬ (b ≤ k ∧ k < b + 12) → σ8 k = σ k := fun k hk => by rw [e8, cpA_ne _ (by omega)]; exact o7 k hk
  have r8_8 : ∀ i, i < 5 → σ8 (b + 8) i = σ (a + 8) i := fun i hi => by rw [e8, cpA_eq, sb_cpy0 hi, o7 _ (ho 8 (by decide))]
  have r8_1 : ∀ i, i < 40 → σ8 (b + 1) i = σ (a + 1) i := fun i hi => by rw [e8, cpA_ne _ (by omega)]; exact r7_1 i hi
  have r8_2 : ∀ i, i < 40 → σ8 (b + 2) i = σ (a + 2) i := fun i hi => by rw [e8, cpA_ne _ (by omega)]; exact r7_2 i hi
  have r8_3 : ∀ i, i < 40 → σ8 (b + 3) i = σ (a + 3) i := fun i hi => by rw [e8, cpA_ne _ (by omega)]; exact r7_3 i hi
  have r8_4 : ∀ i, i < 50 → σ8 (b + 4) i = σ (a + 4) i := fun i hi => by rw [e8, cpA_ne _ (by omega)]; exact r7_4 i hi
  have r8_5 : ∀ i, i < 50 → σ8 (b + 5) i = σ (a + 5) i := fun i hi => by rw [e8, cpA_ne _ (by omega)]; exact r7_5 i hi
  have r8_6 : ∀ i, i < 50 → σ8 (b + 6) i = σ (a + 6) i := fun i hi => by rw [e8, cpA_ne _ (by omega)]; exact r7_6 i hi
  have r8_7 : ∀ i, i < 50 → σ8 (b + 7) i = σ (a + 7) i := fun i hi => by rw [e8, cpA_ne _ (by omega)]; exact r7_7 i hi
  refine bm_of (fun σ9 e9 => ?_)
  have o9 : ∀ k, ¬ (b ≤ k ∧ k < b + 12) → σ9 k = σ k := fun k hk => by rw [e9, cpA_ne _ (by omega)]; exact o8 k hk
  have r9_9 : ∀ i, i < 5 → σ9 (b + 9) i = σ (a + 9) i := fun i hi => by rw [e9, cpA_eq, sb_cpy0 hi, o8 _ (ho 9 (by decide))]
  have r9_1 : ∀ i, i < 40 → σ9 (b + 1) i = σ (a + 1) i := fun i hi => by rw [e9, cpA_ne _ (by omega)]; exact r8_1 i hi
  have r9_2 : ∀ i, i < 40 → σ9 (b + 2) i = σ (a + 2) i := fun i hi => by rw [e9, cpA_ne _ (by omega)]; exact r8_2 i hi
  have r9_3 : ∀ i, i < 40 → σ9 (b + 3) i = σ (a + 3) i := fun i hi => by rw [e9, cpA_ne _ (by omega)]; exact r8_3 i hi
  have r9_4 : ∀ i, i < 50 → σ9 (b + 4) i = σ (a + 4) i := fun i hi => by rw [e9, cpA_ne _ (by omega)]; exact r8_4 i hi
  have r9_5 : ∀ i, i < 50 → σ9 (b + 5) i = σ (a + 5) i := fun i hi => by rw [e9, cpA_ne _ (by omega)]; exact r8_5 i hi
  have r9_6 : ∀ i, i < 50 → σ9 (b + 6) i = σ (a + 6) i := fun i hi => by rw [e9, cpA_ne _ (by omega)]; exact r8_6 i hi
  have r9_7 : ∀ i, i < 50 → σ9 (b + 7) i = σ (a + 7) i := fun i hi => by rw [e9, cpA_ne _ (by omega)]; exact r8_7 i hi
  have r9_8 : ∀ i, i < 5 → σ9 (b + 8) i = σ (a + 8) i := fun i hi => by rw [e9, cpA_ne _ (by omega)]; exact r8_8 i hi
  refine bm_of (fun σ10 e10 => ?_)
  have o10 : ∀ k, ¬ (b ≤ k ∧ k < b + 12) → σ10 k = σ k := fun k hk => by rw [e10, cpA_ne _ (by omega)]; exact o9 k hk
  have r10_10 : ∀ i, i < 12 → σ10 (b + 10) i = σ (a + 10) i := fun i hi => by rw [e10, cpA_eq, sb_cpy0 hi, o9 _ (ho 10 (by decide))]
  have r10_1 : ∀ i, i < 40 → σ10 (b + 1) i = σ (a + 1) i := fun i hi => by rw [e10, cpA_ne _ (by omega)]; exact r9_1 i hi
  have r10_2 : ∀ i, i < 40 → σ10 (b + 2) i = σ (a + 2) i := fun i hi => by rw [e10, cpA_ne _ (by omega)]; exact r9_2 i hi
  have r10_3 : ∀ i, i < 40 → σ10 (b + 3) i = σ (a + 3) i := fun i hi => by rw [e10, cpA_ne _ (by omega)]; exact r9_3 i hi
  have r10_4 : ∀ i, i < 50 → σ10 (b + 4) i = σ (a + 4) i := fun i hi => by rw [e10, cpA_ne _ (by omega)]; exact r9_4 i hi
  have r10_5 : ∀ i, i < 50 → σ10 (b + 5) i = σ (a + 5) i := fun i hi => by rw [e10, cpA_ne _ (by omega)]; exact r9_5 i hi
  have r10_6 : ∀ i, i < 50 → σ10 (b + 6) i = σ (a + 6) i := fun i hi => by rw [e10, cpA_ne _ (by omega)]; exact r9_6 i hi
  have r10_7 : ∀ i, i < 50 → σ10 (b + 7) i = σ (a + 7) i := fun i hi => by rw [e10, cpA_ne _ (by omega)]; exact r9_7 i hi
  have r10_8 : ∀ i, i < 5 → σ10 (b + 8) i = σ (a + 8) i := fun i hi => by rw [e10, cpA_ne _ (by omega)]; exact r9_8 i hi
  have r10_9 : ∀ i, i < 5 → σ10 (b + 9) i = σ (a + 9) i := fun i hi => by rw [e10, cpA_ne _ (by omega)]; exact r9_9 i hi
  refine bm_of (fun σ11 e11 => ?_)
  have o11 : ∀ k, ¬ (b ≤ k ∧ k < b + 12) → σ11 k = σ k := fun k hk => by rw [e11, cpA_ne _ (by omega)]; exact o10 k hk
  have r11_11 : ∀ i, i < 3 → σ11 (b + 11) i = σ (a + 11) i := fun i hi => by rw [e11, cpA_eq, sb_cpy0 hi, o10 _ (ho 11 (by decide))]
  have r11_1 : ∀ i, i < 40 → σ11 (b + 1) i = σ (a + 1) i := fun i hi => by rw [e11, cpA_ne _ (by omega)]; exact r10_1 i hi
  have r11_2 : ∀ i, i < 40 → σ11 (b + 2) i = σ (a + 2) i := fun i hi => by rw [e11, cpA_ne _ (by omega)]; exact r10_2 i hi
  have r11_3 : ∀ i, i < 40 → σ11 (b + 3) i = σ (a + 3) i := fun i hi => by rw [e11, cpA_ne _ (by omega)]; exact r10_3 i hi
  have r11_4 : ∀ i, i < 50 → σ11 (b + 4) i = σ (a + 4) i := fun i hi => by rw [e11, cpA_ne _ (by omega)]; exact r10_4 i hi
  have r11_5 : ∀ i, i < 50 → σ11 (b + 5) i = σ (a + 5) i := fun i hi => by rw [e11, cpA_ne _ (by omega)]; exact r10_5 i hi
  have r11_6 : ∀ i, i < 50 → σ11 (b + 6) i = σ (a + 6) i := fun i hi => by rw [e11, cpA_ne _ (by omega)]; exact r10_6 i hi
  have r11_7 : ∀ i, i < 50 → σ11 (b + 7) i = σ (a + 7) i := fun i hi => by rw [e11, cpA_ne _ (by omega)]; exact r10_7 i hi
  have r11_8 : ∀ i, i < 5 → σ11 (b + 8) i = σ (a + 8) i := fun i hi => by rw [e11, cpA_ne _ (by omega)]; exact r10_8 i hi
  have r11_9 : ∀ i, i < 5 → σ11 (b + 9) i = σ (a + 9) i := fun i hi => by rw [e11, cpA_ne _ (by omega)]; exact r10_9 i hi
  have r11_10 : ∀ i, i < 12 → σ11 (b + 10) i = σ (a + 10) i := fun i hi => by rw [e11, cpA_ne _ (by omega)]; exact r10_10 i hi
  refine bm_of (fun σ12 e12 => ?_)
  have o12 : ∀ k, ¬ (b ≤ k ∧ k < b + 12) → σ12 k = σ k := fun k hk => by rw [e12, up2_ne _ (by omega)]; exact o11 k hk
  have r12_1 : ∀ i, i < 40 → σ12 (b + 1) i = σ (a + 1) i := fun i hi => by rw [e12, up2_ne _ (by omega)]; exact r11_1 i hi
  have r12_2 : ∀ i, i < 40 → σ12 (b + 2) i = σ (a + 2) i := fun i hi => by rw [e12, up2_ne _ (by omega)]; exact r11_2 i hi
  have r12_3 : ∀ i, i < 40 → σ12 (b + 3) i = σ (a + 3) i := fun i hi => by rw [e12, up2_ne _ (by omega)]; exact r11_3 i hi
  have r12_4 : ∀ i, i < 50 → σ12 (b + 4) i = σ (a + 4) i := fun i hi => by rw [e12, up2_ne _ (by omega)]; exact r11_4 i hi
  have r12_5 : ∀ i, i < 50 → σ12 (b + 5) i = σ (a + 5) i := fun i hi => by rw [e12, up2_ne _ (by omega)]; exact r11_5 i hi
  have r12_6 : ∀ i, i < 50 → σ12 (b + 6) i = σ (a + 6) i := fun i hi => by rw [e12, up2_ne _ (by omega)]; exact r11_6 i hi
  have r12_7 : ∀ i, i < 50 → σ12 (b + 7) i = σ (a + 7) i := fun i hi => by rw [e12, up2_ne _ (by omega)]; exact r11_7 i hi
  have r12_8 : ∀ i, i < 5 → σ12 (b + 8) i = σ (a + 8) i := fun i hi => by rw [e12, up2_ne _ (by omega)]; exact r11_8 i hi
  have r12_9 : ∀ i, i < 5 → σ12 (b + 9) i = σ (a + 9) i := fun i hi => by rw [e12, up2_ne _ (by omega)]; exact r11_9 i hi
  have r12_10 : ∀ i, i < 12 → σ12 (b + 10) i = σ (a + 10) i := fun i hi => by rw [e12, up2_ne _ (by omega)]; exact r11_10 i hi
  have r12_11 : ∀ i, i < 3 → σ12 (b + 11) i = σ (a + 11) i := fun i hi => by rw [e12, up2_ne _ (by omega)]; exact r11_11 i hi
  have f12_10 : σ12 b 10 = σ a 10 := by rw [e12, up2_eq, pk_us, o11 a hoa]
  refine bm_of (fun σ13 e13 => ?_)
  have o13 : ∀ k, ¬ (b ≤ k ∧ k < b + 12) → σ13 k = σ k := fun k hk => by rw [e13, up2_ne _ (by omega)]; exact o12 k hk
  have r13_1 : ∀ i, i < 40 → σ13 (b + 1) i = σ (a + 1) i := fun i hi => by rw [e13, up2_ne _ (by omega)]; exact r12_1 i hi
  have r13_2 : ∀ i, i < 40 → σ13 (b + 2) i = σ (a + 2) i := fun i hi => by rw [e13, up2_ne _ (by omega)]; exact r12_2 i hi
  have r13_3 : ∀ i, i < 40 → σ13 (b + 3) i = σ (a + 3) i := fun i hi => by rw [e13, up2_ne _ (by omega)]; exact r12_3 i hi
  have r13_4 : ∀ i, i < 50 → σ13 (b + 4) i = σ (a + 4) i := fun i hi => by rw [e13, up2_ne _ (by omega)]; exact r12_4 i hi
  have r13_5 : ∀ i, i < 50 → σ13 (b + 5) i = σ (a + 5) i := fun i hi => by rw [e13, up2_ne _ (by omega)]; exact r12_5 i hi
  have r13_6 : ∀ i, i < 50 → σ13 (b + 6) i = σ (a + 6) i := fun i hi => by rw [e13, up2_ne _ (by omega)]; exact r12_6 i hi
  have r13_7 : ∀ i, i < 50 → σ13 (b + 7) i = σ (a + 7) i := fun i hi => by rw [e13, up2_ne _ (by omega)]; exact r12_7 i hi
  have r13_8 : ∀ i, i < 5 → σ13 (b + 8) i = σ (a + 8) i := fun i hi => by rw [e13, up2_ne _ (by omega)]; exact r12_8 i hi
  have r13_9 : ∀ i, i < 5 → σ13 (b + 9) i = σ (a + 9) i := fun i hi => by rw [e13, up2_ne _ (by omega)]; exact r12_9 i hi
  have r13_10 : ∀ i, i < 12 → σ13 (b + 10) i = σ (a + 10) i := fun i hi => by rw [e13, up2_ne _ (by omega)]; exact r12_10 i hi
  have r13_11 : ∀ i, i < 3 → σ13 (b + 11) i = σ (a + 11) i := fun i hi => by rw [e13, up2_ne _ (by omega)]; exact r12_11 i hi
  have f13_12 : σ13 b 12 = σ a 12 := by rw [e13, up2_eq, pk_us, o12 a hoa]
  have f13_10 : σ13 b 10 = σ a 10 := by rw [e13, up2_eq, pk_un (by decide)]; exact f12_10
  refine bm_of (fun σ14 e14 => ?_)
  have o14 : ∀ k, ¬ (b ≤ k ∧ k < b + 12) → σ14 k = σ k := fun k hk => by rw [e14, up2_ne _ (by omega)]; exact o13 k hk
  have r14_1 : ∀ i, i < 40 → σ14 (b + 1) i = σ (a + 1) i := fun i hi => by rw [e14, up2_ne _ (by omega)]; exact r13_1 i hi
  have r14_2 : ∀ i, i < 40 → σ14 (b + 2) i = σ (a + 2) i := fun i hi => by rw [e14, up2_ne _ (by omega)]; exact r13_2 i hi
  have r14_3 : ∀ i, i < 40 → σ14 (b + 3) i = σ (a + 3) i := fun i hi => by rw [e14, up2_ne _ (by omega)]; exact r13_3 i hi
  have r14_4 : ∀ i, i < 50 → σ14 (b + 4) i = σ (a + 4) i := fun i hi => by rw [e14, up2_ne _ (by omega)]; exact r13_4 i hi
  have r14_5 : ∀ i, i < 50 → σ14 (b + 5) i = σ (a + 5) i := fun i hi => by rw [e14, up2_ne _ (by omega)]; exact r13_5 i hi
  have r14_6 : ∀ i, i < 50 → σ14 (b + 6) i = σ (a + 6) i := fun i hi => by rw [e14, up2_ne _ (by omega)]; exact r13_6 i hi
  have r14_7 : ∀ i, i < 50 → σ14 (b + 7) i = σ (a + 7) i := fun i hi => by rw [e14, up2_ne _ (by omega)]; exact r13_7 i hi
  have r14_8 : ∀ i, i < 5 → σ14 (b + 8) i = σ (a + 8) i := fun i hi => by rw [e14, up2_ne _ (by omega)]; exact r13_8 i hi
  have r14_9 : ∀ i, i < 5 → σ14 (b + 9) i = σ (a + 9) i := fun i hi => by rw [e14, up2_ne _ (by omega)]; exact r13_9 i hi
  have r14_10 : ∀ i, i < 12 → σ14 (b + 10) i = σ (a + 10) i := fun i hi => by rw [e14, up2_ne _ (by omega)]; exact r13_10 i hi
  have r14_11 : ∀ i, i < 3 → σ14 (b + 11) i = σ (a + 11) i := fun i hi => by rw [e14, up2_ne _ (by omega)]; exact r13_11 i hi
  have f14_13 : σ14 b 13 = σ a 13 := by rw [e14, up2_eq, pk_us, o13 a hoa]
  have f14_10 : σ14 b 10 = σ a 10 := by rw [e14, up2_eq, pk_un (by decide)]; exact f13_10
  have f14_12 : σ14 b 12 = σ a 12 := by rw [e14, up2_eq, pk_un (by decide)]; exact f13_12
  refine bm_of (fun σ15 e15 => ?_)
  have o15 : ∀ k, ¬ (b ≤ k ∧ k < b + 12) → σ15 k = σ k := fun k hk => by rw [e15, up2_ne _ (by omega)]; exact o14 k hk
  have r15_1 : ∀ i, i < 40 → σ15 (b + 1) i = σ (a + 1) i := fun i hi => by rw [e15, up2_ne _ (by omega)]; exact r14_1 i hi
  have r15_2 : ∀ i, i < 40 → σ15 (b + 2) i = σ (a + 2) i := fun i hi => by rw [e15, up2_ne _ (by omega)]; exact r14_2 i hi
  have r15_3 : ∀ i, i < 40 → σ15 (b + 3) i = σ (a + 3) i := fun i hi => by rw [e15, up2_ne _ (by omega)]; exact r14_3 i hi
  have r15_4 : ∀ i, i < 50 → σ15 (b + 4) i = σ (a + 4) i := fun i hi => by rw [e15, up2_ne _ (by omega)]; exact r14_4 i hi
  have r15_5 : ∀ i, i < 50 → σ15 (b + 5) i = σ (a + 5) i := fun i hi => by rw [e15, up2_ne _ (by omega)]; exact r14_5 i hi
  have r15_6 : ∀ i, i < 50 → σ15 (b + 6) i = σ (a + 6) i := fun i hi => by rw [e15, up2_ne _ (by omega)]; exact r14_6 i hi
  have r15_7 : ∀ i, i < 50 → σ15 (b + 7) i = σ (a + 7) i := fun i hi => by rw [e15, up2_ne _ (by omega)]; exact r14_7 i hi
  have r15_8 : ∀ i, i < 5 → σ15 (b + 8) i = σ (a + 8) i := fun i hi => by rw [e15, up2_ne _ (by omega)]; exact r14_8 i hi
  have r15_9 : ∀ i, i < 5 → σ15 (b + 9) i = σ (a + 9) i := fun i hi => by rw [e15, up2_ne _ (by omega)]; exact r14_9 i hi
  have r15_10 : ∀ i, i < 12 → σ15 (b + 10) i = σ (a + 10) i := fun i hi => by rw [e15, up2_ne _ (by omega)]; exact r14_10 i hi
  have r15_11 : ∀ i, i < 3 → σ15 (b + 11) i = σ (a + 11) i := fun i hi => by rw [e15, up2_ne _ (by omega)]; exact r14_11 i hi
  have f15_14 : σ15 b 14 = σ a 14 := by rw [e15, up2_eq, pk_us, o14 a hoa]
  have f15_10 : σ15 b 10 = σ a 10 := by rw [e15, up2_eq, pk_un (by decide)]; exact f14_10
  have f15_12 : σ15 b 12 = σ a 12 := by rw [e15, up2_eq, pk_un (by decide)]; exact f14_12
  have f15_13 : σ15 b 13 = σ a 13 := by rw [e15, up2_eq, pk_un (by decide)]; exact f14_13
  refine bm_of (fun σ16 e16 => ?_)
  have o16 : ∀ k, ¬ (b ≤ k ∧ k < b + 12) → σ16 k = σ k := fun k hk => by rw [e16, up2_ne _ (by omega)]; exact o15 k hk
  have r16_1 : ∀ i, i < 40 → σ16 (b + 1) i = σ (a + 1) i := fun i hi => by rw [e16, up2_ne _ (by omega)]; exact r15_1 i hi
  have r16_2 : ∀ i, i < 40 → σ16 (b + 2) i = σ (a + 2) i := fun i hi => by rw [e16, up2_ne _ (by omega)]; exact r15_2 i hi
  have r16_3 : ∀ i, i < 40 → σ16 (b + 3) i = σ (a + 3) i := fun i hi => by rw [e16, up2_ne _ (by omega)]; exact r15_3 i hi
  have r16_4 : ∀ i, i < 50 → σ16 (b + 4) i = σ (a + 4) i := fun i hi => by rw [e16, up2_ne _ (by omega)]; exact r15_4 i hi
  have r16_5 : ∀ i, i < 50 → σ16 (b + 5) i = σ (a + 5) i := fun i hi => by rw [e16, up2_ne _ (by omega)]; exact r15_5 i hi
  have r16_6 : ∀ i, i < 50 → σ16 (b + 6) i = σ (a + 6) i := fun i hi => by rw [e16, up2_ne _ (by omega)]; exact r15_6 i hi
  have r16_7 : ∀ i, i < 50 → σ16 (b + 7) i = σ (a + 7) i := fun i hi => by rw [e16, up2_ne _ (by omega)]; exact r15_7 i hi
  have r16_8 : ∀ i, i < 5 → σ16 (b + 8) i = σ (a + 8) i := fun i hi => by rw [e16, up2_ne _ (by omega)]; exact r15_8 i hi
  have r16_9 : ∀ i, i < 5 → σ16 (b + 9) i = σ (a + 9) i := fun i hi => by rw [e16, up2_ne _ (by omega)]; exact r15_9 i hi
  have r16_10 : ∀ i, i < 12 → σ16 (b + 10) i = σ (a + 10) i := fun i hi => by rw [e16, up2_ne _ (by omega)]; exact r15_10 i hi
  have r16_11 : ∀ i, i < 3 → σ16 (b + 11) i = σ (a + 11) i := fun i hi => by rw [e16, up2_ne _ (by omega)]; exact r15_11 i hi
  have f16_15 : σ16 b 15 = σ a 15 := by rw [e16, up2_eq, pk_us, o15 a hoa]
  have f16_10 : σ16 b 10 = σ a 10 := by rw [e16, up2_eq, pk_un (by decide)]; exact f15_10
  have f16_12 : σ16 b 12 = σ a 12 := by rw [e16, up2_eq, pk_un (by decide)]; exact f15_12
  have f16_13 : σ16 b 13 = σ a 13 := by rw [e16, up2_eq, pk_un (by decide)]; exact f15_13
  have f16_14 : σ16 b 14 = σ a 14 := by rw [e16, up2_eq, pk_un (by decide)]; exact f15_14
  refine bm_of (fun σ17 e17 => ?_)
  have o17 : ∀ k, ¬ (b ≤ k ∧ k < b + 12) → σ17 k = σ k := fun k hk => by rw [e17, up2_ne _ (by omega)]; exact o16 k hk
  have r17_1 : ∀ i, i < 40 → σ17 (b + 1) i = σ (a + 1) i := fun i hi => by rw [e17, up2_ne _ (by omega)]; exact r16_1 i hi
  have r17_2 : ∀ i, i < 40 → σ17 (b + 2) i = σ (a + 2) i := fun i hi => by rw [e17, up2_ne _ (by omega)]; exact r16_2 i hi
  have r17_3 : ∀ i, i < 40 → σ17 (b + 3) i = σ (a + 3) i := fun i hi => by rw [e17, up2_ne _ (by omega)]; exact r16_3 i hi
  have r17_4 : ∀ i, i < 50 → σ17 (b + 4) i = σ (a + 4) i := fun i hi => by rw [e17, up2_ne _ (by omega)]; exact r16_4 i hi
  have r17_5 : ∀ i, i < 50 → σ17 (b + 5) i = σ (a + 5) i := fun i hi => by rw [e17, up2_ne _ (by omega)]; exact r16_5 i hi
  have r17_6 : ∀ i, i < 50 → σ17 (b + 6) i = σ (a + 6) i := fun i hi => by rw [e17, up2_ne _ (by omega)]; exact r16_6 i hi
  have r17_7 : ∀ i, i < 50 → σ17 (b + 7) i = σ (a + 7) i := fun i hi => by rw [e17, up2_ne _ (by omega)]; exact r16_7 i hi
  have r17_8 : ∀ i, i < 5 → σ17 (b + 8) i = σ (a + 8) i := fun i hi => by rw [e17, up2_ne _ (by omega)]; exact r16_8 i hi
  have r17_9 : ∀ i, i < 5 → σ17 (b + 9) i = σ (a + 9) i := fun i hi => by rw [e17, up2_ne _ (by omega)]; exact r16_9 i hi
  have r17_10 : ∀ i, i < 12 → σ17 (b + 10) i = σ (a + 10) i := fun i hi => by rw [e17, up2_ne _ (by omega)]; exact r16_10 i hi
  have r17_11 : ∀ i, i < 3 → σ17 (b + 11) i = σ (a + 11) i := fun i hi => by rw [e17, up2_ne _ (by omega)]; exact r16_11 i hi
  have f17_16 : σ17 b 16 = σ a 16 := by rw [e17, up2_eq, pk_us, o16 a hoa]
  have f17_10 : σ17 b 10 = σ a 10 := by rw [e17, up2_eq, pk_un (by decide)]; exact f16_10
  have f17_12 : σ17 b 12 = σ a 12 := by rw [e17, up2_eq, pk_un (by decide)]; exact f16_12
  have f17_13 : σ17 b 13 = σ a 13 := by rw [e17, up2_eq, pk_un (by decide)]; exact f16_13
  have f17_14 : σ17 b 14 = σ a 14 := by rw [e17, up2_eq, pk_un (by decide)]; exact f16_14
  have f17_15 : σ17 b 15 = σ a 15 := by rw [e17, up2_eq, pk_un (by decide)]; exact f16_15
  refine h _ (fun z R => ?_) o17
  exact ⟨fun c hc => (r17_1 c hc).trans (R.ret c hc), fun c hc => (r17_2 c hc).trans (R.err c hc), fun c hc => (r17_3 c hc).trans (R.own c hc), fun p hp => (r17_4 p hp).trans (R.cel p hp), fun p hp hz => (r17_5 p hp).trans (R.val p hp hz), fun p hp => (r17_6 p hp).trans (R.pin p hp), fun k hk => (r17_8 k hk).trans (R.los k hk), fun k hk => (r17_9 k hk).trans (R.mov k hk), fun k hk => (r17_10 k hk).trans (R.lis k hk), fun k hk => (r17_11 k hk).trans (R.set k hk), f17_10.trans R.len, f17_12.trans R.day, f17_13.trans R.las, f17_14.trans R.ers, f17_15.trans R.hrd, f17_16.trans R.sta⟩
theorem Rel.z1 {σ : Mem} {b : Nat} {z : Z} (R : Rel σ b z) : ∀ i, i < 40 → isZ (σ (b + 1) i) := fun i hi => by
  rw [R.ret i hi]
  by_cases q : z (23 + i) = 2
  · rw [if_pos q]; exact Or.inr rfl
  · rw [if_neg q]; exact Or.inl rfl
theorem Rel.z6 {σ : Mem} {b : Nat} {z : Z} (R : Rel σ b z) (I : Iz z) : ∀ i, i < 50 → isZ (σ (b + 6) i) := fun i hi => by
  rw [R.pin i hi]
  by_cases q : zhas z i
  · obtain ⟨c, -, -, -, -, w⟩ := I.has hi q
    exact w
  · exact Or.inl (I.nohas hi q).2.2
theorem copy_ok {σ : Mem} {a b : Nat} {z : Z} {P : Mem → Prop} (ha : isM a) (hb : isM b) (hne : a ≠ b) (R : Rel σ a z) (I : Iz z) (h : ∀ τ, Rel τ b z → (∀ k, ¬ (b ≤ k ∧ k < b + 12) → τ k = σ k) → P τ) : wp_X1_copyFrom σ b a P :=
  copyFrom_ok ha hb hne R.z1 (R.z6 I) (fun τ hR ho => h τ (hR z R) ho)
/-- a memory that is told of only by its own cells -/
theorem Rel.far {σ τ : Mem} {b : Nat} {z : Z} (R : Rel σ b z) (h : ∀ k, b ≤ k → k < b + 12 → τ k = σ k) : Rel τ b z := by
  unfold Rel
  rw [h b (by omega) (by omega), h (b + 1) (by omega) (by omega), h (b + 2) (by omega) (by omega), h (b + 3) (by omega) (by omega), h (b + 4) (by omega) (by omega), h (b + 5) (by omega) (by omega), h (b + 6) (by omega) (by omega), h (b + 8) (by omega) (by omega), h (b + 9) (by omega) (by omega), h (b + 10) (by omega) (by omega), h (b + 11) (by omega) (by omega)]
  exact R
/-- only what is below 313 counts -/
def zeq (z w : Z) : Prop := ∀ i, i < 313 → w i = z i
theorem zpg_zeq {z w : Z} (h : zeq z w) (x : Int32) : zpg w x 50 = zpg z x 50 := zpg_congr 50 (fun q hq => by rw [h _ (by omega)])
theorem Rel.zeq {σ : Mem} {b : Nat} {z w : Z} (R : Rel σ b z) (h : zeq z w) : Rel σ b w := by
  refine ⟨fun c hc => ?_, fun c hc => ?_, fun c hc => ?_, fun p hp => ?_, fun p hp hz => ?_, fun p hp => ?_, fun k hk => ?_, fun k hk => ?_, fun k hk => ?_, fun k hk => ?_, ?_, ?_, ?_, ?_, ?_, ?_⟩
  · rw [h _ (by omega)]; exact R.ret c hc
  · rw [h _ (by omega)]; exact R.err c hc
  · rw [zpg_zeq h]; exact R.own c hc
  · rw [h _ (by omega)]; exact R.cel p hp
  · unfold zhas at hz; rw [h _ (by omega)] at hz; rw [h _ (by omega)]; exact R.val p hp hz
  · rw [h _ (by omega)]; exact R.pin p hp
  · rw [h _ (by omega)]; exact R.los k hk
  · rw [h _ (by omega)]; exact R.mov k hk
  · rw [h _ (by omega)]; exact R.lis k hk
  · rw [h _ (by omega)]; exact R.set k hk
  · rw [h _ (by omega)]; exact R.len
  · rw [h _ (by omega)]; exact R.day
  · rw [h _ (by omega)]; exact R.las
  · rw [h _ (by omega)]; exact R.ers
  · rw [h _ (by omega)]; exact R.hrd
  · rw [h _ (by omega)]; exact R.sta
/-- all that holds of a state between two calls -/
def Gz (z : Z) : Prop := Iz z ∧ Fz z ∧ Lz z ∧ 0 ≤ z 0 ∧ 0 ≤ z 2
theorem Gz.zeq {z w : Z} (G : Gz z) (h : zeq z w) : Gz w := by
  obtain ⟨I, F, L, g0, g2⟩ := G
  refine ⟨I.cg (fun i hi _ => h i hi), fun c hc q hb => ?_, L.cg (fun i h1 h2 => h i (by omega)) (fun c hc q => by rw [h _ (by omega)]; exact q), by rw [h _ (by omega)]; exact g0, by rw [h _ (by omega)]; exact g2⟩
  rw [h _ (by omega)] at q
  refine F c hc q ?_
  unfold bad at hb ⊢
  rw [h _ (by omega), h _ (by omega), h _ (by omega)] at hb
  exact hb
/-- one row of the reference is copied to another place -/
theorem copyState_ok {σ : Mem} {a b f t : Nat} {x y : Int32} {P : Mem → Prop} (hx : x = nI f) (hy : y = nI t) (hf : f + 313 ≤ aln a) (ht : t + 313 ≤ aln b) (hab : a ≠ b) (h : ∀ τ, (∀ i, i < 313 → τ b (t + i) = σ a (f + i)) → (∀ i, ¬ (t ≤ i ∧ i < t + 313) → τ b i = σ b i) → (∀ k, k ≠ b → τ k = σ k) → P τ) : wp_X5_copyState σ a x b y P := by
  subst hx; subst hy
  have la : aln a < 2 ^ 31 := by unfold aln; split <;> omega
  have lb : aln b < 2 ^ 31 := by unfold aln; split <;> omega
  unfold wp_X5_copyState
  simp only [bm]
  refine lq2_inv 313 (fun k (τ : Mem) => (∀ i, i < k → τ b (t + i) = σ a (f + i)) ∧ (∀ i, ¬ (t ≤ i ∧ i < t + k) → τ b i = σ b i) ∧ ∀ k, k ≠ b → τ k = σ k) (fun k τ rec hk hI hrec => ?_) (fun τ rec hI => ⟨fun _ => h τ hI.1 hI.2.1 hI.2.2, ge_yes⟩) ⟨fun i hi => absurd hi (Nat.not_lt_zero _), fun i _ => rfl, fun k _ => rfl⟩ nI_0.symm
  obtain ⟨i1, i2, i3⟩ := hI
  have p1 := ix1 (a := f) (k := k) (n := aln a) (by omega) la
  have p2 := ix1 (a := t) (k := k) (n := aln b) (by omega) lb
  rw [p1.2, p2.2]
  refine ⟨ge_no hk (by decide), fun _ => ⟨p1.1, p2.1, hrec _ ⟨fun i hi => ?_, fun i hi => ?_, fun k hk => ?_⟩⟩⟩
  · rw [up2_eq]
    by_cases e : i = k
    · rw [e, pk_us, i3 a hab]
    · rw [pk_un (by omega)]; exact i1 i (by omega)
  · rw [up2_eq, pk_un (by omega)]; exact i2 i (by omega)
  · rw [up2_ne _ hk]; exact i3 k hk

