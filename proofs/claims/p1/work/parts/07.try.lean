theorem dX1_hasCell_0 : decode cX1_hasCell 0 = .ok (.aload_n 0, 1) := by decide +kernel
theorem dX1_hasCell_1 : decode cX1_hasCell 1 = .ok (.getfield 22, 3) := by decide +kernel
theorem dX1_hasCell_4 : decode cX1_hasCell 4 = .ok (.iload_n 1, 1) := by decide +kernel
theorem dX1_hasCell_5 : decode cX1_hasCell 5 = .ok (.iaload, 1) := by decide +kernel
theorem dX1_hasCell_6 : decode cX1_hasCell 6 = .ok (.ifCond .lt 7, 3) := by decide +kernel
theorem dX1_hasCell_9 : decode cX1_hasCell 9 = .ok (.iconst 1, 1) := by decide +kernel
theorem dX1_hasCell_10 : decode cX1_hasCell 10 = .ok (.goto 4, 3) := by decide +kernel
theorem dX1_hasCell_13 : decode cX1_hasCell 13 = .ok (.iconst 0, 1) := by decide +kernel
theorem dX1_hasCell_14 : decode cX1_hasCell 14 = .ok (.ireturn, 1) := by decide +kernel
def wp_X1_hasCell (σ : Mem) (x1 : Int32) (P : Int32 → Prop) : Prop :=
  vp_in x1 50 ∧ (((σ 4 x1.toNatClampNeg) < 0 →
    P 0) ∧
    (¬ (σ 4 x1.toNatClampNeg) < 0 →
    P 1))
set_option maxRecDepth 100000 in
set_option maxHeartbeats 4000000 in
theorem c_X1_hasCell (V : EV) (σ : Mem) (x1 : Int32) (P : Int32 → Prop) (l : Launch) : Met l yX1_hasCell (.code yX1_hasCell cX1_hasCell 2 (some .boolean) :: AW) { frames := 0, cells := 0, slots := 0, locals := 0 } (va_Pc [.ref (ad V 0), .int x1] (fun U => wP V σ U ∧ wp_X1_hasCell σ x1 P)) (va_Qi (fun r τ => τ = σ ∧ P r) (wB V) (AA V)) 0 0 (AA V) := by
  refine met_i V σ (own := RX1) (by decide +kernel) rfl (fun v hv => by simp at hv; rcases hv with rfl | rfl <;> rfl) (Nat.le_of_ble_eq_true rfl) (fun X C D h => ?_) l
  show GG V X σ 0 [some (.ref (ad V 0)), some (.int x1)] []
  refine g_aload_n C dX1_hasCell_0 rfl rfl rfl ?_
  refine f_X1_22 C dX1_hasCell_1 rfl ?_
  refine g_iload_n C dX1_hasCell_4 rfl rfl rfl ?_
  obtain ⟨hin, h⟩ := h
  refine g_ild C dX1_hasCell_5 arr_4 hin rfl ?_
  refine g_if_lt C dX1_hasCell_6 (tgt := 13) rfl rfl (fun q => ?_) (fun q => ?_)
  · have h := h.1 q
    refine g_iconst C dX1_hasCell_13 ic_0 rfl ?_
    exact g_zret C dX1_hasCell_14 D (by decide) ⟨rfl, h⟩
  · have h := h.2 q
    refine g_iconst C dX1_hasCell_9 ic_1 rfl ?_
    refine g_goto C dX1_hasCell_10 (pc' := 14) rfl ?_
    exact g_zret C dX1_hasCell_14 D (by decide) ⟨rfl, h⟩
theorem hd_X1_hasCell : yX1_hasCell.cls ≠ "java/lang/invoke/MethodHandle" ∧ yX1_hasCell.cls ≠ "java/lang/invoke/VarHandle" ∧ (parseMethodDescriptor yX1_hasCell.desc).map (fun d => d.parameters.length) = some 1 := by decide +kernel
theorem k_X1_71 {V : EV} {X : CX} {cc : ByteArray} {nL : Nat} {R : Room} {x1 : Int32} (C : OK V X RX1 cc nL R) {σ : Mem} {pc pc' : Nat} {L : List (Option Value)} {st : List Value} {P : Int32 → Prop} (d : decode cc pc = .ok (.invokevirtual 71, 3)) (hst : (st.map fun v => v.category).sum ≤ 8) (hr : 0 + 1 ≤ R.frames ∧ 8 + (2 + 11) + 0 ≤ R.locals) (hL : L.length = nL) (hp : pc + 3 = pc') (h : wp_X1_hasCell σ x1 P) (k : ∀ r, P r → GG V X σ pc' L (.int r :: st)) : GG V X σ pc L (.int x1 :: .ref (ad V 0) :: st) :=
  g_callVi C (av := [.int x1]) (fun l => c_X1_hasCell V σ x1 P l) (by decide) (en_0 V σ) (q := (RX1, TX1, 17)) rfl rfl ml_RX1_71 im_X1_hasCell se_X1_hasCell ini_RX1 co_X1_hasCell hd_X1_hasCell rfl ⟨rfl, rfl⟩ hr hst d hL hp h (fun r τ hq => by obtain ⟨rfl, hq⟩ := hq; exact k r hq)

theorem dX1_isGivable_0 : decode cX1_isGivable 0 = .ok (.aload_n 0, 1) := by decide +kernel
theorem dX1_isGivable_1 : decode cX1_isGivable 1 = .ok (.getfield 9, 3) := by decide +kernel
theorem dX1_isGivable_4 : decode cX1_isGivable 4 = .ok (.iload_n 1, 1) := by decide +kernel
theorem dX1_isGivable_5 : decode cX1_isGivable 5 = .ok (.baload, 1) := by decide +kernel
theorem dX1_isGivable_6 : decode cX1_isGivable 6 = .ok (.ifCond .ne 31, 3) := by decide +kernel
theorem dX1_isGivable_9 : decode cX1_isGivable 9 = .ok (.aload_n 0, 1) := by decide +kernel
theorem dX1_isGivable_10 : decode cX1_isGivable 10 = .ok (.getfield 19, 3) := by decide +kernel
theorem dX1_isGivable_13 : decode cX1_isGivable 13 = .ok (.iload_n 1, 1) := by decide +kernel
theorem dX1_isGivable_14 : decode cX1_isGivable 14 = .ok (.iaload, 1) := by decide +kernel
theorem dX1_isGivable_15 : decode cX1_isGivable 15 = .ok (.ifCond .ge 22, 3) := by decide +kernel
theorem dX1_isGivable_18 : decode cX1_isGivable 18 = .ok (.aload_n 0, 1) := by decide +kernel
theorem dX1_isGivable_19 : decode cX1_isGivable 19 = .ok (.getfield 15, 3) := by decide +kernel
theorem dX1_isGivable_22 : decode cX1_isGivable 22 = .ok (.iload_n 1, 1) := by decide +kernel
theorem dX1_isGivable_23 : decode cX1_isGivable 23 = .ok (.iaload, 1) := by decide +kernel
theorem dX1_isGivable_24 : decode cX1_isGivable 24 = .ok (.aload_n 0, 1) := by decide +kernel
theorem dX1_isGivable_25 : decode cX1_isGivable 25 = .ok (.getfield 43, 3) := by decide +kernel
theorem dX1_isGivable_28 : decode cX1_isGivable 28 = .ok (.iconst 0, 1) := by decide +kernel
theorem dX1_isGivable_29 : decode cX1_isGivable 29 = .ok (.iaload, 1) := by decide +kernel
theorem dX1_isGivable_30 : decode cX1_isGivable 30 = .ok (.if_icmp .ge 7, 3) := by decide +kernel
theorem dX1_isGivable_33 : decode cX1_isGivable 33 = .ok (.iconst 1, 1) := by decide +kernel
theorem dX1_isGivable_34 : decode cX1_isGivable 34 = .ok (.goto 4, 3) := by decide +kernel
theorem dX1_isGivable_37 : decode cX1_isGivable 37 = .ok (.iconst 0, 1) := by decide +kernel
theorem dX1_isGivable_38 : decode cX1_isGivable 38 = .ok (.ireturn, 1) := by decide +kernel
def wp_X1_isGivable (σ : Mem) (x1 : Int32) (P : Int32 → Prop) : Prop :=
  vp_in x1 40 ∧ (((σ 1 x1.toNatClampNeg) = 0 →
    vp_in x1 40 ∧ ((0 ≤ (σ 3 x1.toNatClampNeg) →
      P 0) ∧
      (¬ 0 ≤ (σ 3 x1.toNatClampNeg) →
      vp_in x1 40 ∧ (((σ 11 0) ≤ (σ 2 x1.toNatClampNeg) →
        P 0) ∧
        (¬ (σ 11 0) ≤ (σ 2 x1.toNatClampNeg) →
        P 1))))) ∧
    (¬ (σ 1 x1.toNatClampNeg) = 0 →
    P 0))
set_option maxRecDepth 100000 in
set_option maxHeartbeats 4000000 in
theorem c_X1_isGivable (V : EV) (σ : Mem) (x1 : Int32) (P : Int32 → Prop) (l : Launch) : Met l yX1_isGivable (.code yX1_isGivable cX1_isGivable 2 (some .boolean) :: AW) { frames := 0, cells := 0, slots := 0, locals := 0 } (va_Pc [.ref (ad V 0), .int x1] (fun U => wP V σ U ∧ wp_X1_isGivable σ x1 P)) (va_Qi (fun r τ => τ = σ ∧ P r) (wB V) (AA V)) 0 0 (AA V) := by
  refine met_i V σ (own := RX1) (by decide +kernel) rfl (fun v hv => by simp at hv; rcases hv with rfl | rfl <;> rfl) (Nat.le_of_ble_eq_true rfl) (fun X C D h => ?_) l
  show GG V X σ 0 [some (.ref (ad V 0)), some (.int x1)] []
  refine g_aload_n C dX1_isGivable_0 rfl rfl rfl ?_
  refine f_X1_9 C dX1_isGivable_1 rfl ?_
  refine g_iload_n C dX1_isGivable_4 rfl rfl rfl ?_
  obtain ⟨hin, h⟩ := h
  refine g_zld C dX1_isGivable_5 arr_1 hin rfl ?_
  refine g_if_ne C dX1_isGivable_6 (tgt := 37) rfl rfl (fun q => ?_) (fun q => ?_)
  · have h := h.2 q
    refine g_iconst C dX1_isGivable_37 ic_0 rfl ?_
    exact g_zret C dX1_isGivable_38 D (by decide) ⟨rfl, h⟩
  · have h := h.1 q
    refine g_aload_n C dX1_isGivable_9 rfl rfl rfl ?_
    refine f_X1_19 C dX1_isGivable_10 rfl ?_
    refine g_iload_n C dX1_isGivable_13 rfl rfl rfl ?_
    obtain ⟨hin, h⟩ := h
    refine g_ild C dX1_isGivable_14 arr_3 hin rfl ?_
    refine g_if_ge C dX1_isGivable_15 (tgt := 37) rfl rfl (fun q => ?_) (fun q => ?_)
    · have h := h.1 q
      refine g_iconst C dX1_isGivable_37 ic_0 rfl ?_
      exact g_zret C dX1_isGivable_38 D (by decide) ⟨rfl, h⟩
    · have h := h.2 q
      refine g_aload_n C dX1_isGivable_18 rfl rfl rfl ?_
      refine f_X1_15 C dX1_isGivable_19 rfl ?_
      refine g_iload_n C dX1_isGivable_22 rfl rfl rfl ?_
      obtain ⟨hin, h⟩ := h
      refine g_ild C dX1_isGivable_23 arr_2 hin rfl ?_
      refine g_aload_n C dX1_isGivable_24 rfl rfl rfl ?_
      refine f_X1_43 C dX1_isGivable_25 rfl ?_
      refine g_iconst C dX1_isGivable_28 ic_0 rfl ?_
      refine g_ildk C dX1_isGivable_29 arr_11 vi_0_3 tl_0 rfl ?_
      refine g_icmp_ge C dX1_isGivable_30 (tgt := 37) rfl rfl (fun q => ?_) (fun q => ?_)
      · have h := h.1 q
        refine g_iconst C dX1_isGivable_37 ic_0 rfl ?_
        exact g_zret C dX1_isGivable_38 D (by decide) ⟨rfl, h⟩
      · have h := h.2 q
        refine g_iconst C dX1_isGivable_33 ic_1 rfl ?_
        refine g_goto C dX1_isGivable_34 (pc' := 38) rfl ?_
        exact g_zret C dX1_isGivable_38 D (by decide) ⟨rfl, h⟩
theorem hd_X1_isGivable : yX1_isGivable.cls ≠ "java/lang/invoke/MethodHandle" ∧ yX1_isGivable.cls ≠ "java/lang/invoke/VarHandle" ∧ (parseMethodDescriptor yX1_isGivable.desc).map (fun d => d.parameters.length) = some 1 := by decide +kernel
theorem k_X1_116 {V : EV} {X : CX} {cc : ByteArray} {nL : Nat} {R : Room} {x1 : Int32} (C : OK V X RX1 cc nL R) {σ : Mem} {pc pc' : Nat} {L : List (Option Value)} {st : List Value} {P : Int32 → Prop} (d : decode cc pc = .ok (.invokevirtual 116, 3)) (hst : (st.map fun v => v.category).sum ≤ 8) (hr : 0 + 1 ≤ R.frames ∧ 8 + (2 + 11) + 0 ≤ R.locals) (hL : L.length = nL) (hp : pc + 3 = pc') (h : wp_X1_isGivable σ x1 P) (k : ∀ r, P r → GG V X σ pc' L (.int r :: st)) : GG V X σ pc L (.int x1 :: .ref (ad V 0) :: st) :=
  g_callVi C (av := [.int x1]) (fun l => c_X1_isGivable V σ x1 P l) (by decide) (en_0 V σ) (q := (RX1, TX1, 17)) rfl rfl ml_RX1_116 im_X1_isGivable se_X1_isGivable ini_RX1 co_X1_isGivable hd_X1_isGivable rfl ⟨rfl, rfl⟩ hr hst d hL hp h (fun r τ hq => by obtain ⟨rfl, hq⟩ := hq; exact k r hq)

theorem dX1_cellToGive_0 : decode cX1_cellToGive 0 = .ok (.aload_n 0, 1) := by decide +kernel
theorem dX1_cellToGive_1 : decode cX1_cellToGive 1 = .ok (.getfield 43, 3) := by decide +kernel
theorem dX1_cellToGive_4 : decode cX1_cellToGive 4 = .ok (.iconst 2, 1) := by decide +kernel
theorem dX1_cellToGive_5 : decode cX1_cellToGive 5 = .ok (.iaload, 1) := by decide +kernel
theorem dX1_cellToGive_6 : decode cX1_cellToGive 6 = .ok (.iconst 1, 1) := by decide +kernel
theorem dX1_cellToGive_7 : decode cX1_cellToGive 7 = .ok (.if_icmp .ne 7, 3) := by decide +kernel
theorem dX1_cellToGive_10 : decode cX1_cellToGive 10 = .ok (.iconst 1, 1) := by decide +kernel
theorem dX1_cellToGive_11 : decode cX1_cellToGive 11 = .ok (.goto 4, 3) := by decide +kernel
theorem dX1_cellToGive_14 : decode cX1_cellToGive 14 = .ok (.iconst 0, 1) := by decide +kernel
theorem dX1_cellToGive_15 : decode cX1_cellToGive 15 = .ok (.istore_n 1, 1) := by decide +kernel
theorem dX1_cellToGive_16 : decode cX1_cellToGive 16 = .ok (.aload_n 0, 1) := by decide +kernel
theorem dX1_cellToGive_17 : decode cX1_cellToGive 17 = .ok (.getfield 43, 3) := by decide +kernel
theorem dX1_cellToGive_20 : decode cX1_cellToGive 20 = .ok (.iconst 2, 1) := by decide +kernel
theorem dX1_cellToGive_21 : decode cX1_cellToGive 21 = .ok (.iaload, 1) := by decide +kernel
theorem dX1_cellToGive_22 : decode cX1_cellToGive 22 = .ok (.iconst 2, 1) := by decide +kernel
theorem dX1_cellToGive_23 : decode cX1_cellToGive 23 = .ok (.if_icmp .ne 12, 3) := by decide +kernel
theorem dX1_cellToGive_26 : decode cX1_cellToGive 26 = .ok (.aload_n 0, 1) := by decide +kernel
theorem dX1_cellToGive_27 : decode cX1_cellToGive 27 = .ok (.getfield 46, 3) := by decide +kernel
theorem dX1_cellToGive_30 : decode cX1_cellToGive 30 = .ok (.iconst 1, 1) := by decide +kernel
theorem dX1_cellToGive_31 : decode cX1_cellToGive 31 = .ok (.iadd, 1) := by decide +kernel
theorem dX1_cellToGive_32 : decode cX1_cellToGive 32 = .ok (.goto 4, 3) := by decide +kernel
theorem dX1_cellToGive_35 : decode cX1_cellToGive 35 = .ok (.iconst 0, 1) := by decide +kernel
theorem dX1_cellToGive_36 : decode cX1_cellToGive 36 = .ok (.istore_n 2, 1) := by decide +kernel
theorem dX1_cellToGive_37 : decode cX1_cellToGive 37 = .ok (.bipush (-5), 2) := by decide +kernel
theorem dX1_cellToGive_39 : decode cX1_cellToGive 39 = .ok (.istore_n 3, 1) := by decide +kernel
theorem dX1_cellToGive_40 : decode cX1_cellToGive 40 = .ok (.iconst 0, 1) := by decide +kernel
theorem dX1_cellToGive_41 : decode cX1_cellToGive 41 = .ok (.istore 4, 2) := by decide +kernel
theorem dX1_cellToGive_43 : decode cX1_cellToGive 43 = .ok (.iload 4, 2) := by decide +kernel
theorem dX1_cellToGive_45 : decode cX1_cellToGive 45 = .ok (.bipush 40, 2) := by decide +kernel
theorem dX1_cellToGive_47 : decode cX1_cellToGive 47 = .ok (.if_icmp .ge 54, 3) := by decide +kernel
theorem dX1_cellToGive_50 : decode cX1_cellToGive 50 = .ok (.iload_n 2, 1) := by decide +kernel
theorem dX1_cellToGive_51 : decode cX1_cellToGive 51 = .ok (.iload 4, 2) := by decide +kernel
theorem dX1_cellToGive_53 : decode cX1_cellToGive 53 = .ok (.iadd, 1) := by decide +kernel
theorem dX1_cellToGive_54 : decode cX1_cellToGive 54 = .ok (.bipush 40, 2) := by decide +kernel
theorem dX1_cellToGive_56 : decode cX1_cellToGive 56 = .ok (.irem, 1) := by decide +kernel
theorem dX1_cellToGive_57 : decode cX1_cellToGive 57 = .ok (.istore 5, 2) := by decide +kernel
theorem dX1_cellToGive_59 : decode cX1_cellToGive 59 = .ok (.aload_n 0, 1) := by decide +kernel
theorem dX1_cellToGive_60 : decode cX1_cellToGive 60 = .ok (.iload 5, 2) := by decide +kernel
theorem dX1_cellToGive_62 : decode cX1_cellToGive 62 = .ok (.invokevirtual 116, 3) := by decide +kernel
theorem dX1_cellToGive_65 : decode cX1_cellToGive 65 = .ok (.ifCond .eq 30, 3) := by decide +kernel
theorem dX1_cellToGive_68 : decode cX1_cellToGive 68 = .ok (.iload_n 3, 1) := by decide +kernel
theorem dX1_cellToGive_69 : decode cX1_cellToGive 69 = .ok (.ifCond .lt 23, 3) := by decide +kernel
theorem dX1_cellToGive_72 : decode cX1_cellToGive 72 = .ok (.iload_n 1, 1) := by decide +kernel
theorem dX1_cellToGive_73 : decode cX1_cellToGive 73 = .ok (.ifCond .eq 22, 3) := by decide +kernel
theorem dX1_cellToGive_76 : decode cX1_cellToGive 76 = .ok (.aload_n 0, 1) := by decide +kernel
theorem dX1_cellToGive_77 : decode cX1_cellToGive 77 = .ok (.getfield 15, 3) := by decide +kernel
theorem dX1_cellToGive_80 : decode cX1_cellToGive 80 = .ok (.iload 5, 2) := by decide +kernel
theorem dX1_cellToGive_82 : decode cX1_cellToGive 82 = .ok (.iaload, 1) := by decide +kernel
theorem dX1_cellToGive_83 : decode cX1_cellToGive 83 = .ok (.aload_n 0, 1) := by decide +kernel
theorem dX1_cellToGive_84 : decode cX1_cellToGive 84 = .ok (.getfield 15, 3) := by decide +kernel
theorem dX1_cellToGive_87 : decode cX1_cellToGive 87 = .ok (.iload_n 3, 1) := by decide +kernel
theorem dX1_cellToGive_88 : decode cX1_cellToGive 88 = .ok (.iaload, 1) := by decide +kernel
theorem dX1_cellToGive_89 : decode cX1_cellToGive 89 = .ok (.if_icmp .ge 6, 3) := by decide +kernel
theorem dX1_cellToGive_92 : decode cX1_cellToGive 92 = .ok (.iload 5, 2) := by decide +kernel
theorem dX1_cellToGive_94 : decode cX1_cellToGive 94 = .ok (.istore_n 3, 1) := by decide +kernel
theorem dX1_cellToGive_95 : decode cX1_cellToGive 95 = .ok (.iinc 4 1, 3) := by decide +kernel
theorem dX1_cellToGive_98 : decode cX1_cellToGive 98 = .ok (.goto (-55), 3) := by decide +kernel
theorem dX1_cellToGive_101 : decode cX1_cellToGive 101 = .ok (.iload_n 3, 1) := by decide +kernel
theorem dX1_cellToGive_102 : decode cX1_cellToGive 102 = .ok (.ireturn, 1) := by decide +kernel
def wp_X1_cellToGive (σ : Mem) (P : Int32 → Prop) : Prop :=
  jn (A := Int32 → Prop) (fun (v1 : Int32) =>
    jn (A := Int32 → Prop) (fun (v3 : Int32) =>
      lq2 (fun rec7 (x5 : Int32) (x6 : Int32) =>
        ((40 ≤ x6 →
          P x5) ∧
          (¬ 40 ≤ x6 →
          wp_X1_isGivable σ (((v3 + x6) - (v3 + x6) / 40 * 40)) (fun r8 =>
            ((r8 = 0 →
            rec7 x5 (x6 + 1)) ∧
            (¬ r8 = 0 →
            ((x5 < 0 →
              rec7 (((v3 + x6) - (v3 + x6) / 40 * 40)) (x6 + 1)) ∧
              (¬ x5 < 0 →
              ((v1 = 0 →
                rec7 x5 (x6 + 1)) ∧
                (¬ v1 = 0 →
                vp_in (((v3 + x6) - (v3 + x6) / 40 * 40)) 40 ∧ vp_in x5 40 ∧ (((σ 2 x5.toNatClampNeg) ≤ (σ 2 (((v3 + x6) - (v3 + x6) / 40 * 40)).toNatClampNeg) →
                  rec7 x5 (x6 + 1)) ∧
                  (¬ (σ 2 x5.toNatClampNeg) ≤ (σ 2 (((v3 + x6) - (v3 + x6) / 40 * 40)).toNatClampNeg) →
                  rec7 (((v3 + x6) - (v3 + x6) / 40 * 40)) (x6 + 1))))))))))))) (-5) 0)
      (fun J4 =>
      (((σ 11 2) = 2 →
      J4 ((σ 0 13) + 1)) ∧
      (¬ (σ 11 2) = 2 →
      J4 0))))
    (fun J2 =>
    (((σ 11 2) = 1 →
    J2 1) ∧
    (¬ (σ 11 2) = 1 →
    J2 0)))
set_option maxRecDepth 100000 in
set_option maxHeartbeats 4000000 in
theorem c_X1_cellToGive (V : EV) (σ : Mem) (P : Int32 → Prop) (l : Launch) : Met l yX1_cellToGive (.code yX1_cellToGive cX1_cellToGive 6 (some .int) :: AW) { frames := 1, cells := 0, slots := 0, locals := 21 } (va_Pc [.ref (ad V 0)] (fun U => wP V σ U ∧ wp_X1_cellToGive σ P)) (va_Qi (fun r τ => τ = σ ∧ P r) (wB V) (AA V)) 0 0 (AA V) := by
  refine met_i V σ (own := RX1) (by decide +kernel) rfl (fun v hv => by simp at hv; subst hv; rfl) (Nat.le_of_ble_eq_true rfl) (fun X C D h => ?_) l
  show GG V X σ 0 [some (.ref (ad V 0)), none, none, none, none, none] []
  refine g_aload_n C dX1_cellToGive_0 rfl rfl rfl ?_
  refine f_X1_43 C dX1_cellToGive_1 rfl ?_
  refine g_iconst C dX1_cellToGive_4 ic_2 rfl ?_
  refine g_ildk C dX1_cellToGive_5 arr_11 vi_2_3 tl_2 rfl ?_
  refine g_iconst C dX1_cellToGive_6 ic_1 rfl ?_
  refine jn_go h (fun (J2 : Int32 → Prop) => ∀ (v1 : Int32), J2 v1 → GG V X σ 15 [some (.ref (ad V 0)), none, none, none, none, none] [.int v1]) (fun v1 h => ?_) (fun J2 hJ2 h => ?_)
  · refine g_istore_n C dX1_cellToGive_15 rfl (Nat.le_of_ble_eq_true rfl) (L' := [some (.ref (ad V 0)), some (.int v1), none, none, none, none]) rfl rfl ?_
    refine g_aload_n C dX1_cellToGive_16 rfl rfl rfl ?_
    refine f_X1_43 C dX1_cellToGive_17 rfl ?_
    refine g_iconst C dX1_cellToGive_20 ic_2 rfl ?_
    refine g_ildk C dX1_cellToGive_21 arr_11 vi_2_3 tl_2 rfl ?_
    refine g_iconst C dX1_cellToGive_22 ic_2 rfl ?_
    refine jn_go h (fun (J4 : Int32 → Prop) => ∀ (v3 : Int32), J4 v3 → GG V X σ 36 [some (.ref (ad V 0)), some (.int v1), none, none, none, none] [.int v3]) (fun v3 h => ?_) (fun J4 hJ4 h => ?_)
    · refine g_istore_n C dX1_cellToGive_36 rfl (Nat.le_of_ble_eq_true rfl) (L' := [some (.ref (ad V 0)), some (.int v1), some (.int v3), none, none, none]) rfl rfl ?_
      refine g_bipush C dX1_cellToGive_37 bp_m5 rfl ?_
      refine g_istore_n C dX1_cellToGive_39 rfl (Nat.le_of_ble_eq_true rfl) (L' := [some (.ref (ad V 0)), some (.int v1), some (.int v3), some (.int (-5)), none, none]) rfl rfl ?_
      refine g_iconst C dX1_cellToGive_40 ic_0 rfl ?_
      refine g_istore C dX1_cellToGive_41 (Nat.le_of_ble_eq_true rfl) (L' := [some (.ref (ad V 0)), some (.int v1), some (.int v3), some (.int (-5)), some (.int 0), none]) rfl rfl ?_
      refine h (fun (x5 : Int32) (x6 : Int32) => GG V X σ 43 [some (.ref (ad V 0)), some (.int v1), some (.int v3), some (.int x5), some (.int x6), none] []) (fun x5 x6 h => ?_)
      refine g_iload C dX1_cellToGive_43 rfl rfl ?_
      refine g_bipush C dX1_cellToGive_45 bp_40 rfl ?_
      refine g_icmp_ge C dX1_cellToGive_47 (tgt := 101) rfl rfl (fun q => ?_) (fun q => ?_)
      · have h := h.1 q
        refine g_iload_n C dX1_cellToGive_101 rfl rfl rfl ?_
        exact g_iret C dX1_cellToGive_102 D ⟨rfl, h⟩
      · have h := h.2 q
        refine g_iload_n C dX1_cellToGive_50 rfl rfl rfl ?_
        refine g_iload C dX1_cellToGive_51 rfl rfl ?_
        refine g_iadd C dX1_cellToGive_53 rfl ?_
        refine g_bipush C dX1_cellToGive_54 bp_40 rfl ?_
        refine g_irem C dX1_cellToGive_56 (by decide) rfl ?_
        refine g_istore C dX1_cellToGive_57 (Nat.le_of_ble_eq_true rfl) (L' := [some (.ref (ad V 0)), some (.int v1), some (.int v3), some (.int x5), some (.int x6), some (.int ((v3 + x6) - (v3 + x6) / 40 * 40))]) rfl rfl ?_
        refine g_aload_n C dX1_cellToGive_59 rfl rfl rfl ?_
        refine g_iload C dX1_cellToGive_60 rfl rfl ?_
        refine k_X1_116 C dX1_cellToGive_62 (Nat.le_of_ble_eq_true rfl) (by decide) rfl rfl h (fun r8 h => ?_)
        refine g_if_eq C dX1_cellToGive_65 (tgt := 95) rfl rfl (fun q => ?_) (fun q => ?_)
        · have h := h.1 q
          refine g_iinc C dX1_cellToGive_95 (v := x6 + 1) (by rw [ic_1]) rfl (Nat.le_of_ble_eq_true rfl) (L' := [some (.ref (ad V 0)), some (.int v1), some (.int v3), some (.int x5), some (.int (x6 + 1)), some (.int ((v3 + x6) - (v3 + x6) / 40 * 40))]) rfl rfl ?_
          refine g_goto C dX1_cellToGive_98 (pc' := 43) rfl ?_
          refine g_drop 5 (L' := [some (.ref (ad V 0)), some (.int v1), some (.int v3), some (.int x5), some (.int (x6 + 1)), none]) rfl ?_
          exact h
        · have h := h.2 q
          refine g_iload_n C dX1_cellToGive_68 rfl rfl rfl ?_
          refine g_if_lt C dX1_cellToGive_69 (tgt := 92) rfl rfl (fun q => ?_) (fun q => ?_)
          · have h := h.1 q
            refine g_iload C dX1_cellToGive_92 rfl rfl ?_
            refine g_istore_n C dX1_cellToGive_94 rfl (Nat.le_of_ble_eq_true rfl) (L' := [some (.ref (ad V 0)), some (.int v1), some (.int v3), some (.int ((v3 + x6) - (v3 + x6) / 40 * 40)), some (.int x6), some (.int ((v3 + x6) - (v3 + x6) / 40 * 40))]) rfl rfl ?_
            refine g_iinc C dX1_cellToGive_95 (v := x6 + 1) (by rw [ic_1]) rfl (Nat.le_of_ble_eq_true rfl) (L' := [some (.ref (ad V 0)), some (.int v1), some (.int v3), some (.int ((v3 + x6) - (v3 + x6) / 40 * 40)), some (.int (x6 + 1)), some (.int ((v3 + x6) - (v3 + x6) / 40 * 40))]) rfl rfl ?_
            refine g_goto C dX1_cellToGive_98 (pc' := 43) rfl ?_
            refine g_drop 5 (L' := [some (.ref (ad V 0)), some (.int v1), some (.int v3), some (.int ((v3 + x6) - (v3 + x6) / 40 * 40)), some (.int (x6 + 1)), none]) rfl ?_
            exact h
          · have h := h.2 q
            refine g_iload_n C dX1_cellToGive_72 rfl rfl rfl ?_
            refine g_if_eq C dX1_cellToGive_73 (tgt := 95) rfl rfl (fun q => ?_) (fun q => ?_)
            · have h := h.1 q
              refine g_iinc C dX1_cellToGive_95 (v := x6 + 1) (by rw [ic_1]) rfl (Nat.le_of_ble_eq_true rfl) (L' := [some (.ref (ad V 0)), some (.int v1), some (.int v3), some (.int x5), some (.int (x6 + 1)), some (.int ((v3 + x6) - (v3 + x6) / 40 * 40))]) rfl rfl ?_
              refine g_goto C dX1_cellToGive_98 (pc' := 43) rfl ?_
              refine g_drop 5 (L' := [some (.ref (ad V 0)), some (.int v1), some (.int v3), some (.int x5), some (.int (x6 + 1)), none]) rfl ?_
              exact h
            · have h := h.2 q
              refine g_aload_n C dX1_cellToGive_76 rfl rfl rfl ?_
              refine f_X1_15 C dX1_cellToGive_77 rfl ?_
              refine g_iload C dX1_cellToGive_80 rfl rfl ?_
              obtain ⟨hin, h⟩ := h
              refine g_ild C dX1_cellToGive_82 arr_2 hin rfl ?_
              refine g_aload_n C dX1_cellToGive_83 rfl rfl rfl ?_
              refine f_X1_15 C dX1_cellToGive_84 rfl ?_
              refine g_iload_n C dX1_cellToGive_87 rfl rfl rfl ?_
              obtain ⟨hin, h⟩ := h
              refine g_ild C dX1_cellToGive_88 arr_2 hin rfl ?_
              refine g_icmp_ge C dX1_cellToGive_89 (tgt := 95) rfl rfl (fun q => ?_) (fun q => ?_)
              · have h := h.1 q
                refine g_iinc C dX1_cellToGive_95 (v := x6 + 1) (by rw [ic_1]) rfl (Nat.le_of_ble_eq_true rfl) (L' := [some (.ref (ad V 0)), some (.int v1), some (.int v3), some (.int x5), some (.int (x6 + 1)), some (.int ((v3 + x6) - (v3 + x6) / 40 * 40))]) rfl rfl ?_
                refine g_goto C dX1_cellToGive_98 (pc' := 43) rfl ?_
                refine g_drop 5 (L' := [some (.ref (ad V 0)), some (.int v1), some (.int v3), some (.int x5), some (.int (x6 + 1)), none]) rfl ?_
                exact h
              · have h := h.2 q
                refine g_iload C dX1_cellToGive_92 rfl rfl ?_
                refine g_istore_n C dX1_cellToGive_94 rfl (Nat.le_of_ble_eq_true rfl) (L' := [some (.ref (ad V 0)), some (.int v1), some (.int v3), some (.int ((v3 + x6) - (v3 + x6) / 40 * 40)), some (.int x6), some (.int ((v3 + x6) - (v3 + x6) / 40 * 40))]) rfl rfl ?_
                refine g_iinc C dX1_cellToGive_95 (v := x6 + 1) (by rw [ic_1]) rfl (Nat.le_of_ble_eq_true rfl) (L' := [some (.ref (ad V 0)), some (.int v1), some (.int v3), some (.int ((v3 + x6) - (v3 + x6) / 40 * 40)), some (.int (x6 + 1)), some (.int ((v3 + x6) - (v3 + x6) / 40 * 40))]) rfl rfl ?_
                refine g_goto C dX1_cellToGive_98 (pc' := 43) rfl ?_
                refine g_drop 5 (L' := [some (.ref (ad V 0)), some (.int v1), some (.int v3), some (.int ((v3 + x6) - (v3 + x6) / 40 * 40)), some (.int (x6 + 1)), none]) rfl ?_
                exact h
    refine g_icmp_ne C dX1_cellToGive_23 (tgt := 35) rfl rfl (fun q => ?_) (fun q => ?_)
    · have h := h.2 q
      refine g_iconst C dX1_cellToGive_35 ic_0 rfl ?_
      exact hJ4 0 h
    · have h := h.1 q
      refine g_aload_n C dX1_cellToGive_26 rfl rfl rfl ?_
      refine f_X1_46 C dX1_cellToGive_27 rfl ?_
      refine g_iconst C dX1_cellToGive_30 ic_1 rfl ?_
      refine g_iadd C dX1_cellToGive_31 rfl ?_
      refine g_goto C dX1_cellToGive_32 (pc' := 36) rfl ?_
      exact hJ4 ((σ 0 13) + 1) h
  refine g_icmp_ne C dX1_cellToGive_7 (tgt := 14) rfl rfl (fun q => ?_) (fun q => ?_)
  · have h := h.2 q
    refine g_iconst C dX1_cellToGive_14 ic_0 rfl ?_
    exact hJ2 0 h
  · have h := h.1 q
    refine g_iconst C dX1_cellToGive_10 ic_1 rfl ?_
    refine g_goto C dX1_cellToGive_11 (pc' := 15) rfl ?_
    exact hJ2 1 h
theorem hd_X1_cellToGive : yX1_cellToGive.cls ≠ "java/lang/invoke/MethodHandle" ∧ yX1_cellToGive.cls ≠ "java/lang/invoke/VarHandle" ∧ (parseMethodDescriptor yX1_cellToGive.desc).map (fun d => d.parameters.length) = some 0 := by decide +kernel
theorem k_X1_75 {V : EV} {X : CX} {cc : ByteArray} {nL : Nat} {R : Room} (C : OK V X RX1 cc nL R) {σ : Mem} {pc pc' : Nat} {L : List (Option Value)} {st : List Value} {P : Int32 → Prop} (d : decode cc pc = .ok (.invokevirtual 75, 3)) (hst : (st.map fun v => v.category).sum ≤ 8) (hr : 1 + 1 ≤ R.frames ∧ 8 + (6 + 11) + 21 ≤ R.locals) (hL : L.length = nL) (hp : pc + 3 = pc') (h : wp_X1_cellToGive σ P) (k : ∀ r, P r → GG V X σ pc' L (.int r :: st)) : GG V X σ pc L (.ref (ad V 0) :: st) :=
  g_callVi C (av := []) (fun l => c_X1_cellToGive V σ P l) (by decide) (en_0 V σ) (q := (RX1, TX1, 17)) rfl rfl ml_RX1_75 im_X1_cellToGive se_X1_cellToGive ini_RX1 co_X1_cellToGive hd_X1_cellToGive rfl ⟨rfl, rfl⟩ hr hst d hL hp h (fun r τ hq => by obtain ⟨rfl, hq⟩ := hq; exact k r hq)
theorem k_X4_150 {V : EV} {X : CX} {cc : ByteArray} {nL : Nat} {R : Room} (C : OK V X RX4 cc nL R) {σ : Mem} {pc pc' : Nat} {L : List (Option Value)} {st : List Value} {P : Int32 → Prop} (d : decode cc pc = .ok (.invokevirtual 150, 3)) (hst : (st.map fun v => v.category).sum ≤ 8) (hr : 1 + 1 ≤ R.frames ∧ 8 + (6 + 11) + 21 ≤ R.locals) (hL : L.length = nL) (hp : pc + 3 = pc') (h : wp_X1_cellToGive σ P) (k : ∀ r, P r → GG V X σ pc' L (.int r :: st)) : GG V X σ pc L (.ref (ad V 0) :: st) :=
  g_callVi C (av := []) (fun l => c_X1_cellToGive V σ P l) (by decide) (en_0 V σ) (q := (RX1, TX1, 17)) rfl rfl ml_RX4_150 im_X1_cellToGive se_X1_cellToGive ini_RX1 co_X1_cellToGive hd_X1_cellToGive rfl ⟨rfl, rfl⟩ hr hst d hL hp h (fun r τ hq => by obtain ⟨rfl, hq⟩ := hq; exact k r hq)

theorem dX1_give_0 : decode cX1_give 0 = .ok (.aload_n 0, 1) := by decide +kernel
theorem dX1_give_1 : decode cX1_give 1 = .ok (.getfield 19, 3) := by decide +kernel
theorem dX1_give_4 : decode cX1_give 4 = .ok (.iload_n 1, 1) := by decide +kernel
theorem dX1_give_5 : decode cX1_give 5 = .ok (.iload_n 2, 1) := by decide +kernel
theorem dX1_give_6 : decode cX1_give 6 = .ok (.iastore, 1) := by decide +kernel
theorem dX1_give_7 : decode cX1_give 7 = .ok (.aload_n 0, 1) := by decide +kernel
theorem dX1_give_8 : decode cX1_give 8 = .ok (.getfield 22, 3) := by decide +kernel
theorem dX1_give_11 : decode cX1_give 11 = .ok (.iload_n 2, 1) := by decide +kernel
theorem dX1_give_12 : decode cX1_give 12 = .ok (.iload_n 1, 1) := by decide +kernel
theorem dX1_give_13 : decode cX1_give 13 = .ok (.iastore, 1) := by decide +kernel
theorem dX1_give_14 : decode cX1_give 14 = .ok (.aload_n 0, 1) := by decide +kernel
theorem dX1_give_15 : decode cX1_give 15 = .ok (.iload_n 1, 1) := by decide +kernel
theorem dX1_give_16 : decode cX1_give 16 = .ok (.putfield 46, 3) := by decide +kernel
theorem dX1_give_19 : decode cX1_give 19 = .ok (.return_, 1) := by decide +kernel
def wp_X1_give (σ : Mem) (x1 : Int32) (x2 : Int32) (P : Mem → Prop) : Prop :=
  vp_in x1 40 ∧ bm (up2 σ 3 x1.toNatClampNeg x2) (fun σ1 =>
    vp_in x2 50 ∧ bm (up2 σ1 4 x2.toNatClampNeg x1) (fun σ2 =>
    bm (up2 σ2 0 13 x1) (fun σ3 =>
    P σ3)))
set_option maxRecDepth 100000 in
set_option maxHeartbeats 4000000 in
theorem c_X1_give (V : EV) (σ : Mem) (x1 : Int32) (x2 : Int32) (P : Mem → Prop) (l : Launch) : Met l yX1_give (.code yX1_give cX1_give 3 (none) :: AW) { frames := 0, cells := 0, slots := 0, locals := 0 } (va_Pc [.ref (ad V 0), .int x1, .int x2] (fun U => wP V σ U ∧ wp_X1_give σ x1 x2 P)) (va_Qv P (wB V) (AA V)) 0 0 (AA V) := by
  refine met_v V σ (own := RX1) (by decide +kernel) rfl (fun v hv => by simp at hv; rcases hv with rfl | rfl | rfl <;> rfl) (Nat.le_of_ble_eq_true rfl) (fun X C D h => ?_) l
  show GG V X σ 0 [some (.ref (ad V 0)), some (.int x1), some (.int x2)] []
  refine g_aload_n C dX1_give_0 rfl rfl rfl ?_
  refine f_X1_19 C dX1_give_1 rfl ?_
  refine g_iload_n C dX1_give_4 rfl rfl rfl ?_
  refine g_iload_n C dX1_give_5 rfl rfl rfl ?_
  obtain ⟨hin, h⟩ := h
  refine g_ist C dX1_give_6 arr_3 hin rfl h (fun σ1 h => ?_)
  refine g_aload_n C dX1_give_7 rfl rfl rfl ?_
  refine f_X1_22 C dX1_give_8 rfl ?_
  refine g_iload_n C dX1_give_11 rfl rfl rfl ?_
  refine g_iload_n C dX1_give_12 rfl rfl rfl ?_
  obtain ⟨hin, h⟩ := h
  refine g_ist C dX1_give_13 arr_4 hin rfl h (fun σ2 h => ?_)
  refine g_aload_n C dX1_give_14 rfl rfl rfl ?_
  refine g_iload_n C dX1_give_15 rfl rfl rfl ?_
  refine p_X1_46 C dX1_give_16 rfl h (fun σ3 h => ?_)
  exact g_vret C dX1_give_19 D h
theorem hd_X1_give : yX1_give.cls ≠ "java/lang/invoke/MethodHandle" ∧ yX1_give.cls ≠ "java/lang/invoke/VarHandle" ∧ (parseMethodDescriptor yX1_give.desc).map (fun d => d.parameters.length) = some 2 := by decide +kernel
theorem k_X1_79 {V : EV} {X : CX} {cc : ByteArray} {nL : Nat} {R : Room} {x1 : Int32} {x2 : Int32} (C : OK V X RX1 cc nL R) {σ : Mem} {pc pc' : Nat} {L : List (Option Value)} {st : List Value} {P : Mem → Prop} (d : decode cc pc = .ok (.invokevirtual 79, 3)) (hst : (st.map fun v => v.category).sum ≤ 8) (hr : 0 + 1 ≤ R.frames ∧ 8 + (3 + 11) + 0 ≤ R.locals) (hL : L.length = nL) (hp : pc + 3 = pc') (h : wp_X1_give σ x1 x2 P) (k : ∀ τ, P τ → GG V X τ pc' L st) : GG V X σ pc L (.int x2 :: .int x1 :: .ref (ad V 0) :: st) :=
  g_callVv C (av := [.int x1, .int x2]) (fun l => c_X1_give V σ x1 x2 P l) (by decide) (en_0 V σ) (q := (RX1, TX1, 17)) rfl rfl ml_RX1_79 im_X1_give se_X1_give ini_RX1 co_X1_give hd_X1_give rfl ⟨rfl, rfl⟩ hr hst d hL hp h k
