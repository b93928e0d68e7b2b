theorem dX5_program_0 : decode cX5_program 0 = .ok (.iload_n 1, 1) := by decide +kernel
theorem dX5_program_1 : decode cX5_program 1 = .ok (.iconst 0, 1) := by decide +kernel
theorem dX5_program_2 : decode cX5_program 2 = .ok (.iconst 4, 1) := by decide +kernel
theorem dX5_program_3 : decode cX5_program 3 = .ok (.invokestatic 36, 3) := by decide +kernel
theorem dX5_program_6 : decode cX5_program 6 = .ok (.ifCond .ne 5, 3) := by decide +kernel
theorem dX5_program_9 : decode cX5_program 9 = .ok (.iconst (-1), 1) := by decide +kernel
theorem dX5_program_10 : decode cX5_program 10 = .ok (.ireturn, 1) := by decide +kernel
theorem dX5_program_11 : decode cX5_program 11 = .ok (.iload_n 2, 1) := by decide +kernel
theorem dX5_program_12 : decode cX5_program 12 = .ok (.tableswitch 76 0 3 #[32, 43, 54, 65], 32) := by decide +kernel
theorem dX5_program_44 : decode cX5_program 44 = .ok (.aload_n 0, 1) := by decide +kernel
theorem dX5_program_45 : decode cX5_program 45 = .ok (.bipush 10, 2) := by decide +kernel
theorem dX5_program_47 : decode cX5_program 47 = .ok (.iload_n 1, 1) := by decide +kernel
theorem dX5_program_48 : decode cX5_program 48 = .ok (.imul, 1) := by decide +kernel
theorem dX5_program_49 : decode cX5_program 49 = .ok (.bipush 10, 2) := by decide +kernel
theorem dX5_program_51 : decode cX5_program 51 = .ok (.invokevirtual 172, 3) := by decide +kernel
theorem dX5_program_54 : decode cX5_program 54 = .ok (.ireturn, 1) := by decide +kernel
theorem dX5_program_55 : decode cX5_program 55 = .ok (.aload_n 0, 1) := by decide +kernel
theorem dX5_program_56 : decode cX5_program 56 = .ok (.bipush 10, 2) := by decide +kernel
theorem dX5_program_58 : decode cX5_program 58 = .ok (.iload_n 1, 1) := by decide +kernel
theorem dX5_program_59 : decode cX5_program 59 = .ok (.imul, 1) := by decide +kernel
theorem dX5_program_60 : decode cX5_program 60 = .ok (.bipush 10, 2) := by decide +kernel
theorem dX5_program_62 : decode cX5_program 62 = .ok (.invokevirtual 104, 3) := by decide +kernel
theorem dX5_program_65 : decode cX5_program 65 = .ok (.ireturn, 1) := by decide +kernel
theorem dX5_program_66 : decode cX5_program 66 = .ok (.aload_n 0, 1) := by decide +kernel
theorem dX5_program_67 : decode cX5_program 67 = .ok (.getfield 7, 3) := by decide +kernel
theorem dX5_program_70 : decode cX5_program 70 = .ok (.sipush 303, 3) := by decide +kernel
theorem dX5_program_73 : decode cX5_program 73 = .ok (.iload_n 1, 1) := by decide +kernel
theorem dX5_program_74 : decode cX5_program 74 = .ok (.iadd, 1) := by decide +kernel
theorem dX5_program_75 : decode cX5_program 75 = .ok (.iaload, 1) := by decide +kernel
theorem dX5_program_76 : decode cX5_program 76 = .ok (.ireturn, 1) := by decide +kernel
theorem dX5_program_77 : decode cX5_program 77 = .ok (.aload_n 0, 1) := by decide +kernel
theorem dX5_program_78 : decode cX5_program 78 = .ok (.getfield 7, 3) := by decide +kernel
theorem dX5_program_81 : decode cX5_program 81 = .ok (.sipush 308, 3) := by decide +kernel
theorem dX5_program_84 : decode cX5_program 84 = .ok (.iload_n 1, 1) := by decide +kernel
theorem dX5_program_85 : decode cX5_program 85 = .ok (.iadd, 1) := by decide +kernel
theorem dX5_program_86 : decode cX5_program 86 = .ok (.iaload, 1) := by decide +kernel
theorem dX5_program_87 : decode cX5_program 87 = .ok (.ireturn, 1) := by decide +kernel
theorem dX5_program_88 : decode cX5_program 88 = .ok (.bipush (-2), 2) := by decide +kernel
theorem dX5_program_90 : decode cX5_program 90 = .ok (.ireturn, 1) := by decide +kernel
def wp_X5_program (σ : Mem) (y1 : Int32) (y2 : Int32) (P : Int32 → Prop) : Prop :=
  wp_X5_in σ y1 0 4 (fun r1 =>
    ((r1 = 0 →
    P (-1)) ∧
    (¬ r1 = 0 →
    ((y2 = 0 →
      wp_X5_withCells σ (10 * y1) 10 (fun r2 =>
        P r2)) ∧
      (¬ y2 = 0 →
      ((y2 = 1 →
      wp_X5_pinned σ (10 * y1) 10 (fun r3 =>
        P r3)) ∧
      (¬ y2 = 1 →
      ((y2 = 2 →
      vp_in (303 + y1) 313 ∧ P (σ 94 (303 + y1).toNatClampNeg)) ∧
      (¬ y2 = 2 →
      ((y2 = 3 →
      vp_in (308 + y1) 313 ∧ P (σ 94 (308 + y1).toNatClampNeg)) ∧
      (¬ y2 = 3 →
      P (-2))))))))))))
set_option maxRecDepth 100000 in
set_option maxHeartbeats 4000000 in
theorem c_X5_program (V : EV) (σ : Mem) (y1 : Int32) (y2 : Int32) (P : Int32 → Prop) (l : Launch) : Met l yX5_program (.code yX5_program cX5_program 3 (some .int) :: AW) { frames := 2, cells := 0, slots := 0, locals := 46 } (va_Pc [.ref (ad V 93), .int y1, .int y2] (fun U => wP V σ U ∧ wp_X5_program σ y1 y2 P)) (va_Qi (fun r τ => τ = σ ∧ P r) (wB V) (AA V)) 0 0 (AA V) := by
  refine met_i V σ (own := RX5) (by decide +kernel) rfl (fun v hv => by simp at hv; rcases hv with rfl | rfl | rfl <;> rfl) (Nat.le_of_ble_eq_true rfl) (fun X C D h => ?_) l
  show GG V X σ 0 [some (.ref (ad V 93)), some (.int y1), some (.int y2)] []
  refine g_iload_n C dX5_program_0 rfl rfl rfl ?_
  refine g_iconst C dX5_program_1 ic_0 rfl ?_
  refine g_iconst C dX5_program_2 ic_4 rfl ?_
  refine k_X5_36 C dX5_program_3 (Nat.le_of_ble_eq_true rfl) (by decide) rfl rfl h (fun r1 h => ?_)
  refine g_if_ne C dX5_program_6 (tgt := 11) rfl rfl (fun q => ?_) (fun q => ?_)
  · have h := h.2 q
    refine g_iload_n C dX5_program_11 rfl rfl rfl ?_
    by_cases q0 : y2 = 0
    · have h := h.1 q0
      refine g_tinK C dX5_program_12 q0 (by decide) (by decide) (off := 32) (by rfl) (pc' := 44) rfl ?_
      refine g_aload_n C dX5_program_44 rfl rfl rfl ?_
      refine g_bipush C dX5_program_45 bp_10 rfl ?_
      refine g_iload_n C dX5_program_47 rfl rfl rfl ?_
      refine g_imul C dX5_program_48 rfl ?_
      refine g_bipush C dX5_program_49 bp_10 rfl ?_
      refine k_X5_172 C dX5_program_51 (Nat.le_of_ble_eq_true rfl) (by decide) rfl rfl h (fun r2 h => ?_)
      exact g_iret C dX5_program_54 D ⟨rfl, h⟩
    have h := h.2 q0
    by_cases q1 : y2 = 1
    · have h := h.1 q1
      refine g_tinK C dX5_program_12 q1 (by decide) (by decide) (off := 43) (by rfl) (pc' := 55) rfl ?_
      refine g_aload_n C dX5_program_55 rfl rfl rfl ?_
      refine g_bipush C dX5_program_56 bp_10 rfl ?_
      refine g_iload_n C dX5_program_58 rfl rfl rfl ?_
      refine g_imul C dX5_program_59 rfl ?_
      refine g_bipush C dX5_program_60 bp_10 rfl ?_
      refine k_X5_104 C dX5_program_62 (Nat.le_of_ble_eq_true rfl) (by decide) rfl rfl h (fun r3 h => ?_)
      exact g_iret C dX5_program_65 D ⟨rfl, h⟩
    have h := h.2 q1
    by_cases q2 : y2 = 2
    · have h := h.1 q2
      refine g_tinK C dX5_program_12 q2 (by decide) (by decide) (off := 54) (by rfl) (pc' := 66) rfl ?_
      refine g_aload_n C dX5_program_66 rfl rfl rfl ?_
      refine f_X5_7 C dX5_program_67 rfl ?_
      refine g_sipush C dX5_program_70 sp_303 rfl ?_
      refine g_iload_n C dX5_program_73 rfl rfl rfl ?_
      refine g_iadd C dX5_program_74 rfl ?_
      obtain ⟨hin, h⟩ := h
      refine g_ild C dX5_program_75 arr_94 hin rfl ?_
      exact g_iret C dX5_program_76 D ⟨rfl, h⟩
    have h := h.2 q2
    by_cases q3 : y2 = 3
    · have h := h.1 q3
      refine g_tinK C dX5_program_12 q3 (by decide) (by decide) (off := 65) (by rfl) (pc' := 77) rfl ?_
      refine g_aload_n C dX5_program_77 rfl rfl rfl ?_
      refine f_X5_7 C dX5_program_78 rfl ?_
      refine g_sipush C dX5_program_81 sp_308 rfl ?_
      refine g_iload_n C dX5_program_84 rfl rfl rfl ?_
      refine g_iadd C dX5_program_85 rfl ?_
      obtain ⟨hin, h⟩ := h
      refine g_ild C dX5_program_86 arr_94 hin rfl ?_
      exact g_iret C dX5_program_87 D ⟨rfl, h⟩
    have h := h.2 q3
    have hout : ((y2).toInt < 0 ∨ 3 < (y2).toInt) := by
      rcases tsw_cases (y2) 0 4 with hq | ⟨k, hk, he⟩
      · omega
      · rcases (show k = 0 ∨ k = 1 ∨ k = 2 ∨ k = 3 by omega) with rfl | rfl | rfl | rfl
        · exact absurd (i32_of he (by decide)) q0
        · exact absurd (i32_of he (by decide)) q1
        · exact absurd (i32_of he (by decide)) q2
        · exact absurd (i32_of he (by decide)) q3
    refine g_tout C dX5_program_12 hout (pc' := 88) rfl ?_
    refine g_bipush C dX5_program_88 bp_m2 rfl ?_
    exact g_iret C dX5_program_90 D ⟨rfl, h⟩
  · have h := h.1 q
    refine g_iconst C dX5_program_9 ic_m1 rfl ?_
    exact g_iret C dX5_program_10 D ⟨rfl, h⟩
theorem hd_X5_program : yX5_program.cls ≠ "java/lang/invoke/MethodHandle" ∧ yX5_program.cls ≠ "java/lang/invoke/VarHandle" ∧ (parseMethodDescriptor yX5_program.desc).map (fun d => d.parameters.length) = some 2 := by decide +kernel

theorem dX5_placeOnList_0 : decode cX5_placeOnList 0 = .ok (.bipush (-5), 2) := by decide +kernel
theorem dX5_placeOnList_2 : decode cX5_placeOnList 2 = .ok (.istore_n 2, 1) := by decide +kernel
theorem dX5_placeOnList_3 : decode cX5_placeOnList 3 = .ok (.iconst 0, 1) := by decide +kernel
theorem dX5_placeOnList_4 : decode cX5_placeOnList 4 = .ok (.istore_n 3, 1) := by decide +kernel
theorem dX5_placeOnList_5 : decode cX5_placeOnList 5 = .ok (.iload_n 3, 1) := by decide +kernel
theorem dX5_placeOnList_6 : decode cX5_placeOnList 6 = .ok (.aload_n 0, 1) := by decide +kernel
theorem dX5_placeOnList_7 : decode cX5_placeOnList 7 = .ok (.getfield 7, 3) := by decide +kernel
theorem dX5_placeOnList_10 : decode cX5_placeOnList 10 = .ok (.bipush 10, 2) := by decide +kernel
theorem dX5_placeOnList_12 : decode cX5_placeOnList 12 = .ok (.iaload, 1) := by decide +kernel
theorem dX5_placeOnList_13 : decode cX5_placeOnList 13 = .ok (.if_icmp .ge 28, 3) := by decide +kernel
theorem dX5_placeOnList_16 : decode cX5_placeOnList 16 = .ok (.aload_n 0, 1) := by decide +kernel
theorem dX5_placeOnList_17 : decode cX5_placeOnList 17 = .ok (.getfield 7, 3) := by decide +kernel
theorem dX5_placeOnList_20 : decode cX5_placeOnList 20 = .ok (.bipush 11, 2) := by decide +kernel
theorem dX5_placeOnList_22 : decode cX5_placeOnList 22 = .ok (.iload_n 3, 1) := by decide +kernel
theorem dX5_placeOnList_23 : decode cX5_placeOnList 23 = .ok (.iadd, 1) := by decide +kernel
theorem dX5_placeOnList_24 : decode cX5_placeOnList 24 = .ok (.iaload, 1) := by decide +kernel
theorem dX5_placeOnList_25 : decode cX5_placeOnList 25 = .ok (.iload_n 1, 1) := by decide +kernel
theorem dX5_placeOnList_26 : decode cX5_placeOnList 26 = .ok (.if_icmp .ne 7, 3) := by decide +kernel
theorem dX5_placeOnList_29 : decode cX5_placeOnList 29 = .ok (.iload_n 3, 1) := by decide +kernel
theorem dX5_placeOnList_30 : decode cX5_placeOnList 30 = .ok (.goto 4, 3) := by decide +kernel
theorem dX5_placeOnList_33 : decode cX5_placeOnList 33 = .ok (.iload_n 2, 1) := by decide +kernel
theorem dX5_placeOnList_34 : decode cX5_placeOnList 34 = .ok (.istore_n 2, 1) := by decide +kernel
theorem dX5_placeOnList_35 : decode cX5_placeOnList 35 = .ok (.iinc 3 1, 3) := by decide +kernel
theorem dX5_placeOnList_38 : decode cX5_placeOnList 38 = .ok (.goto (-33), 3) := by decide +kernel
theorem dX5_placeOnList_41 : decode cX5_placeOnList 41 = .ok (.iload_n 2, 1) := by decide +kernel
theorem dX5_placeOnList_42 : decode cX5_placeOnList 42 = .ok (.ireturn, 1) := by decide +kernel
def wp_X5_placeOnList (σ : Mem) (y1 : Int32) (P : Int32 → Prop) : Prop :=
  lq2 (fun rec3 (x1 : Int32) (x2 : Int32) =>
    (((σ 94 10) ≤ x2 →
      P x1) ∧
      (¬ (σ 94 10) ≤ x2 →
      vp_in (11 + x2) 313 ∧ (((σ 94 (11 + x2).toNatClampNeg) = y1 →
        rec3 x2 (x2 + 1)) ∧
        (¬ (σ 94 (11 + x2).toNatClampNeg) = y1 →
        rec3 x1 (x2 + 1)))))) (-5) 0
set_option maxRecDepth 100000 in
set_option maxHeartbeats 4000000 in
theorem c_X5_placeOnList (V : EV) (σ : Mem) (y1 : Int32) (P : Int32 → Prop) (l : Launch) : Met l yX5_placeOnList (.code yX5_placeOnList cX5_placeOnList 4 (some .int) :: AW) { frames := 0, cells := 0, slots := 0, locals := 0 } (va_Pc [.ref (ad V 93), .int y1] (fun U => wP V σ U ∧ wp_X5_placeOnList σ y1 P)) (va_Qi (fun r τ => τ = σ ∧ P r) (wB V) (AA V)) 0 0 (AA V) := by
  refine met_i V σ (own := RX5) (by decide +kernel) rfl (fun v hv => by simp at hv; rcases hv with rfl | rfl <;> rfl) (Nat.le_of_ble_eq_true rfl) (fun X C D h => ?_) l
  show GG V X σ 0 [some (.ref (ad V 93)), some (.int y1), none, none] []
  refine g_bipush C dX5_placeOnList_0 bp_m5 rfl ?_
  refine g_istore_n C dX5_placeOnList_2 rfl (Nat.le_of_ble_eq_true rfl) (L' := [some (.ref (ad V 93)), some (.int y1), some (.int (-5)), none]) rfl rfl ?_
  refine g_iconst C dX5_placeOnList_3 ic_0 rfl ?_
  refine g_istore_n C dX5_placeOnList_4 rfl (Nat.le_of_ble_eq_true rfl) (L' := [some (.ref (ad V 93)), some (.int y1), some (.int (-5)), some (.int 0)]) rfl rfl ?_
  refine h (fun (x1 : Int32) (x2 : Int32) => GG V X σ 5 [some (.ref (ad V 93)), some (.int y1), some (.int x1), some (.int x2)] []) (fun x1 x2 h => ?_)
  refine g_iload_n C dX5_placeOnList_5 rfl rfl rfl ?_
  refine g_aload_n C dX5_placeOnList_6 rfl rfl rfl ?_
  refine f_X5_7 C dX5_placeOnList_7 rfl ?_
  refine g_bipush C dX5_placeOnList_10 bp_10 rfl ?_
  refine g_ildk C dX5_placeOnList_12 arr_94 vi_10_313 tl_10 rfl ?_
  refine g_icmp_ge C dX5_placeOnList_13 (tgt := 41) rfl rfl (fun q => ?_) (fun q => ?_)
  · have h := h.1 q
    refine g_iload_n C dX5_placeOnList_41 rfl rfl rfl ?_
    exact g_iret C dX5_placeOnList_42 D ⟨rfl, h⟩
  · have h := h.2 q
    refine g_aload_n C dX5_placeOnList_16 rfl rfl rfl ?_
    refine f_X5_7 C dX5_placeOnList_17 rfl ?_
    refine g_bipush C dX5_placeOnList_20 bp_11 rfl ?_
    refine g_iload_n C dX5_placeOnList_22 rfl rfl rfl ?_
    refine g_iadd C dX5_placeOnList_23 rfl ?_
    obtain ⟨hin, h⟩ := h
    refine g_ild C dX5_placeOnList_24 arr_94 hin rfl ?_
    refine g_iload_n C dX5_placeOnList_25 rfl rfl rfl ?_
    refine g_icmp_ne C dX5_placeOnList_26 (tgt := 33) rfl rfl (fun q => ?_) (fun q => ?_)
    · have h := h.2 q
      refine g_iload_n C dX5_placeOnList_33 rfl rfl rfl ?_
      refine g_istore_n C dX5_placeOnList_34 rfl (Nat.le_of_ble_eq_true rfl) (L' := [some (.ref (ad V 93)), some (.int y1), some (.int x1), some (.int x2)]) rfl rfl ?_
      refine g_iinc C dX5_placeOnList_35 (v := x2 + 1) (by rw [ic_1]) rfl (Nat.le_of_ble_eq_true rfl) (L' := [some (.ref (ad V 93)), some (.int y1), some (.int x1), some (.int (x2 + 1))]) rfl rfl ?_
      refine g_goto C dX5_placeOnList_38 (pc' := 5) rfl ?_
      exact h
    · have h := h.1 q
      refine g_iload_n C dX5_placeOnList_29 rfl rfl rfl ?_
      refine g_goto C dX5_placeOnList_30 (pc' := 34) rfl ?_
      refine g_istore_n C dX5_placeOnList_34 rfl (Nat.le_of_ble_eq_true rfl) (L' := [some (.ref (ad V 93)), some (.int y1), some (.int x2), some (.int x2)]) rfl rfl ?_
      refine g_iinc C dX5_placeOnList_35 (v := x2 + 1) (by rw [ic_1]) rfl (Nat.le_of_ble_eq_true rfl) (L' := [some (.ref (ad V 93)), some (.int y1), some (.int x2), some (.int (x2 + 1))]) rfl rfl ?_
      refine g_goto C dX5_placeOnList_38 (pc' := 5) rfl ?_
      exact h
theorem hd_X5_placeOnList : yX5_placeOnList.cls ≠ "java/lang/invoke/MethodHandle" ∧ yX5_placeOnList.cls ≠ "java/lang/invoke/VarHandle" ∧ (parseMethodDescriptor yX5_placeOnList.desc).map (fun d => d.parameters.length) = some 1 := by decide +kernel
theorem k_X5_175 {V : EV} {X : CX} {cc : ByteArray} {nL : Nat} {R : Room} {y1 : Int32} (C : OK V X RX5 cc nL R) {σ : Mem} {pc pc' : Nat} {L : List (Option Value)} {st : List Value} {P : Int32 → Prop} (d : decode cc pc = .ok (.invokevirtual 175, 3)) (hst : (st.map fun v => v.category).sum ≤ 8) (hr : 0 + 1 ≤ R.frames ∧ 8 + (4 + 11) + 0 ≤ R.locals) (hL : L.length = nL) (hp : pc + 3 = pc') (h : wp_X5_placeOnList σ y1 P) (k : ∀ r, P r → GG V X σ pc' L (.int r :: st)) : GG V X σ pc L (.int y1 :: .ref (ad V 93) :: st) :=
  g_callVi C (av := [.int y1]) (fun l => c_X5_placeOnList V σ y1 P l) (by decide) (en_93 V σ) (q := (RX5, TX5, 13)) rfl rfl ml_RX5_175 im_X5_placeOnList se_X5_placeOnList ini_RX5 co_X5_placeOnList hd_X5_placeOnList rfl ⟨rfl, rfl⟩ hr hst d hL hp h (fun r τ hq => by obtain ⟨rfl, hq⟩ := hq; exact k r hq)

theorem dX5_cell_0 : decode cX5_cell 0 = .ok (.iload_n 1, 1) := by decide +kernel
theorem dX5_cell_1 : decode cX5_cell 1 = .ok (.invokestatic 107, 3) := by decide +kernel
theorem dX5_cell_4 : decode cX5_cell 4 = .ok (.ifCond .ne 5, 3) := by decide +kernel
theorem dX5_cell_7 : decode cX5_cell 7 = .ok (.iconst (-1), 1) := by decide +kernel
theorem dX5_cell_8 : decode cX5_cell 8 = .ok (.ireturn, 1) := by decide +kernel
theorem dX5_cell_9 : decode cX5_cell 9 = .ok (.aload_n 0, 1) := by decide +kernel
theorem dX5_cell_10 : decode cX5_cell 10 = .ok (.iload_n 1, 1) := by decide +kernel
theorem dX5_cell_11 : decode cX5_cell 11 = .ok (.invokevirtual 74, 3) := by decide +kernel
theorem dX5_cell_14 : decode cX5_cell 14 = .ok (.istore_n 3, 1) := by decide +kernel
theorem dX5_cell_15 : decode cX5_cell 15 = .ok (.iload_n 2, 1) := by decide +kernel
theorem dX5_cell_16 : decode cX5_cell 16 = .ok (.tableswitch 112 0 5 #[40, 50, 60, 76, 92, 106], 40) := by decide +kernel
theorem dX5_cell_56 : decode cX5_cell 56 = .ok (.aload_n 0, 1) := by decide +kernel
theorem dX5_cell_57 : decode cX5_cell 57 = .ok (.getfield 7, 3) := by decide +kernel
theorem dX5_cell_60 : decode cX5_cell 60 = .ok (.bipush 23, 2) := by decide +kernel
theorem dX5_cell_62 : decode cX5_cell 62 = .ok (.iload_n 1, 1) := by decide +kernel
theorem dX5_cell_63 : decode cX5_cell 63 = .ok (.iadd, 1) := by decide +kernel
theorem dX5_cell_64 : decode cX5_cell 64 = .ok (.iaload, 1) := by decide +kernel
theorem dX5_cell_65 : decode cX5_cell 65 = .ok (.ireturn, 1) := by decide +kernel
theorem dX5_cell_66 : decode cX5_cell 66 = .ok (.aload_n 0, 1) := by decide +kernel
theorem dX5_cell_67 : decode cX5_cell 67 = .ok (.getfield 7, 3) := by decide +kernel
theorem dX5_cell_70 : decode cX5_cell 70 = .ok (.bipush 63, 2) := by decide +kernel
theorem dX5_cell_72 : decode cX5_cell 72 = .ok (.iload_n 1, 1) := by decide +kernel
theorem dX5_cell_73 : decode cX5_cell 73 = .ok (.iadd, 1) := by decide +kernel
theorem dX5_cell_74 : decode cX5_cell 74 = .ok (.iaload, 1) := by decide +kernel
theorem dX5_cell_75 : decode cX5_cell 75 = .ok (.ireturn, 1) := by decide +kernel
theorem dX5_cell_76 : decode cX5_cell 76 = .ok (.iload_n 3, 1) := by decide +kernel
theorem dX5_cell_77 : decode cX5_cell 77 = .ok (.bipush (-5), 2) := by decide +kernel
theorem dX5_cell_79 : decode cX5_cell 79 = .ok (.if_icmp .ne 8, 3) := by decide +kernel
theorem dX5_cell_82 : decode cX5_cell 82 = .ok (.bipush (-5), 2) := by decide +kernel
theorem dX5_cell_84 : decode cX5_cell 84 = .ok (.goto 7, 3) := by decide +kernel
theorem dX5_cell_87 : decode cX5_cell 87 = .ok (.iload_n 3, 1) := by decide +kernel
theorem dX5_cell_88 : decode cX5_cell 88 = .ok (.bipush 10, 2) := by decide +kernel
theorem dX5_cell_90 : decode cX5_cell 90 = .ok (.idiv, 1) := by decide +kernel
theorem dX5_cell_91 : decode cX5_cell 91 = .ok (.ireturn, 1) := by decide +kernel
theorem dX5_cell_92 : decode cX5_cell 92 = .ok (.iload_n 3, 1) := by decide +kernel
theorem dX5_cell_93 : decode cX5_cell 93 = .ok (.bipush (-5), 2) := by decide +kernel
theorem dX5_cell_95 : decode cX5_cell 95 = .ok (.if_icmp .ne 8, 3) := by decide +kernel
theorem dX5_cell_98 : decode cX5_cell 98 = .ok (.bipush (-5), 2) := by decide +kernel
theorem dX5_cell_100 : decode cX5_cell 100 = .ok (.goto 7, 3) := by decide +kernel
theorem dX5_cell_103 : decode cX5_cell 103 = .ok (.iload_n 3, 1) := by decide +kernel
theorem dX5_cell_104 : decode cX5_cell 104 = .ok (.bipush 10, 2) := by decide +kernel
theorem dX5_cell_106 : decode cX5_cell 106 = .ok (.irem, 1) := by decide +kernel
theorem dX5_cell_107 : decode cX5_cell 107 = .ok (.ireturn, 1) := by decide +kernel
theorem dX5_cell_108 : decode cX5_cell 108 = .ok (.aload_n 0, 1) := by decide +kernel
theorem dX5_cell_109 : decode cX5_cell 109 = .ok (.iload_n 1, 1) := by decide +kernel
theorem dX5_cell_110 : decode cX5_cell 110 = .ok (.invokevirtual 70, 3) := by decide +kernel
theorem dX5_cell_113 : decode cX5_cell 113 = .ok (.ifCond .eq 7, 3) := by decide +kernel
theorem dX5_cell_116 : decode cX5_cell 116 = .ok (.iconst 1, 1) := by decide +kernel
theorem dX5_cell_117 : decode cX5_cell 117 = .ok (.goto 4, 3) := by decide +kernel
theorem dX5_cell_120 : decode cX5_cell 120 = .ok (.iconst 0, 1) := by decide +kernel
theorem dX5_cell_121 : decode cX5_cell 121 = .ok (.ireturn, 1) := by decide +kernel
theorem dX5_cell_122 : decode cX5_cell 122 = .ok (.aload_n 0, 1) := by decide +kernel
theorem dX5_cell_123 : decode cX5_cell 123 = .ok (.iload_n 1, 1) := by decide +kernel
theorem dX5_cell_124 : decode cX5_cell 124 = .ok (.invokevirtual 175, 3) := by decide +kernel
theorem dX5_cell_127 : decode cX5_cell 127 = .ok (.ireturn, 1) := by decide +kernel
theorem dX5_cell_128 : decode cX5_cell 128 = .ok (.bipush (-2), 2) := by decide +kernel
theorem dX5_cell_130 : decode cX5_cell 130 = .ok (.ireturn, 1) := by decide +kernel
def wp_X5_cell (σ : Mem) (y1 : Int32) (y2 : Int32) (P : Int32 → Prop) : Prop :=
  wp_X5_isCell σ y1 (fun r1 =>
    ((r1 = 0 →
    P (-1)) ∧
    (¬ r1 = 0 →
    wp_X5_pageIn σ y1 (fun r2 =>
      ((y2 = 0 →
      vp_in (23 + y1) 313 ∧ P (σ 94 (23 + y1).toNatClampNeg)) ∧
      (¬ y2 = 0 →
      ((y2 = 1 →
      vp_in (63 + y1) 313 ∧ P (σ 94 (63 + y1).toNatClampNeg)) ∧
      (¬ y2 = 1 →
      ((y2 = 2 →
      ((r2 = (-5) →
        P (-5)) ∧
        (¬ r2 = (-5) →
        P (r2 / 10)))) ∧
      (¬ y2 = 2 →
      ((y2 = 3 →
      ((r2 = (-5) →
        P (-5)) ∧
        (¬ r2 = (-5) →
        P (r2 - r2 / 10 * 10)))) ∧
      (¬ y2 = 3 →
      ((y2 = 4 →
      wp_X5_isBad σ y1 (fun r3 =>
        ((r3 = 0 →
        P 0) ∧
        (¬ r3 = 0 →
        P 1)))) ∧
      (¬ y2 = 4 →
      ((y2 = 5 →
      wp_X5_placeOnList σ y1 (fun r4 =>
        P r4)) ∧
      (¬ y2 = 5 →
      P (-2)))))))))))))))))
set_option maxRecDepth 100000 in
set_option maxHeartbeats 4000000 in
theorem c_X5_cell (V : EV) (σ : Mem) (y1 : Int32) (y2 : Int32) (P : Int32 → Prop) (l : Launch) : Met l yX5_cell (.code yX5_cell cX5_cell 4 (some .int) :: AW) { frames := 2, cells := 0, slots := 0, locals := 45 } (va_Pc [.ref (ad V 93), .int y1, .int y2] (fun U => wP V σ U ∧ wp_X5_cell σ y1 y2 P)) (va_Qi (fun r τ => τ = σ ∧ P r) (wB V) (AA V)) 0 0 (AA V) := by
  refine met_i V σ (own := RX5) (by decide +kernel) rfl (fun v hv => by simp at hv; rcases hv with rfl | rfl | rfl <;> rfl) (Nat.le_of_ble_eq_true rfl) (fun X C D h => ?_) l
  show GG V X σ 0 [some (.ref (ad V 93)), some (.int y1), some (.int y2), none] []
  refine g_iload_n C dX5_cell_0 rfl rfl rfl ?_
  refine k_X5_107 C dX5_cell_1 (Nat.le_of_ble_eq_true rfl) (by decide) rfl rfl h (fun r1 h => ?_)
  refine g_if_ne C dX5_cell_4 (tgt := 9) rfl rfl (fun q => ?_) (fun q => ?_)
  · have h := h.2 q
    refine g_aload_n C dX5_cell_9 rfl rfl rfl ?_
    refine g_iload_n C dX5_cell_10 rfl rfl rfl ?_
    refine k_X5_74 C dX5_cell_11 (Nat.le_of_ble_eq_true rfl) (by decide) rfl rfl h (fun r2 h => ?_)
    refine g_istore_n C dX5_cell_14 rfl (Nat.le_of_ble_eq_true rfl) (L' := [some (.ref (ad V 93)), some (.int y1), some (.int y2), some (.int r2)]) rfl rfl ?_
    refine g_iload_n C dX5_cell_15 rfl rfl rfl ?_
    by_cases q0 : y2 = 0
    · have h := h.1 q0
      refine g_tinK C dX5_cell_16 q0 (by decide) (by decide) (off := 40) (by rfl) (pc' := 56) rfl ?_
      refine g_aload_n C dX5_cell_56 rfl rfl rfl ?_
      refine f_X5_7 C dX5_cell_57 rfl ?_
      refine g_bipush C dX5_cell_60 bp_23 rfl ?_
      refine g_iload_n C dX5_cell_62 rfl rfl rfl ?_
      refine g_iadd C dX5_cell_63 rfl ?_
      obtain ⟨hin, h⟩ := h
      refine g_ild C dX5_cell_64 arr_94 hin rfl ?_
      exact g_iret C dX5_cell_65 D ⟨rfl, h⟩
    have h := h.2 q0
    by_cases q1 : y2 = 1
    · have h := h.1 q1
      refine g_tinK C dX5_cell_16 q1 (by decide) (by decide) (off := 50) (by rfl) (pc' := 66) rfl ?_
      refine g_aload_n C dX5_cell_66 rfl rfl rfl ?_
      refine f_X5_7 C dX5_cell_67 rfl ?_
      refine g_bipush C dX5_cell_70 bp_63 rfl ?_
      refine g_iload_n C dX5_cell_72 rfl rfl rfl ?_
      refine g_iadd C dX5_cell_73 rfl ?_
      obtain ⟨hin, h⟩ := h
      refine g_ild C dX5_cell_74 arr_94 hin rfl ?_
      exact g_iret C dX5_cell_75 D ⟨rfl, h⟩
    have h := h.2 q1
    by_cases q2 : y2 = 2
    · have h := h.1 q2
      refine g_tinK C dX5_cell_16 q2 (by decide) (by decide) (off := 60) (by rfl) (pc' := 76) rfl ?_
      refine g_iload_n C dX5_cell_76 rfl rfl rfl ?_
      refine g_bipush C dX5_cell_77 bp_m5 rfl ?_
      refine g_icmp_ne C dX5_cell_79 (tgt := 87) rfl rfl (fun q => ?_) (fun q => ?_)
      · have h := h.2 q
        refine g_iload_n C dX5_cell_87 rfl rfl rfl ?_
        refine g_bipush C dX5_cell_88 bp_10 rfl ?_
        refine g_idiv C dX5_cell_90 (by decide) rfl ?_
        exact g_iret C dX5_cell_91 D ⟨rfl, h⟩
      · have h := h.1 q
        refine g_bipush C dX5_cell_82 bp_m5 rfl ?_
        refine g_goto C dX5_cell_84 (pc' := 91) rfl ?_
        exact g_iret C dX5_cell_91 D ⟨rfl, h⟩
    have h := h.2 q2
    by_cases q3 : y2 = 3
    · have h := h.1 q3
      refine g_tinK C dX5_cell_16 q3 (by decide) (by decide) (off := 76) (by rfl) (pc' := 92) rfl ?_
      refine g_iload_n C dX5_cell_92 rfl rfl rfl ?_
      refine g_bipush C dX5_cell_93 bp_m5 rfl ?_
      refine g_icmp_ne C dX5_cell_95 (tgt := 103) rfl rfl (fun q => ?_) (fun q => ?_)
      · have h := h.2 q
        refine g_iload_n C dX5_cell_103 rfl rfl rfl ?_
        refine g_bipush C dX5_cell_104 bp_10 rfl ?_
        refine g_irem C dX5_cell_106 (by decide) rfl ?_
        exact g_iret C dX5_cell_107 D ⟨rfl, h⟩
      · have h := h.1 q
        refine g_bipush C dX5_cell_98 bp_m5 rfl ?_
        refine g_goto C dX5_cell_100 (pc' := 107) rfl ?_
        exact g_iret C dX5_cell_107 D ⟨rfl, h⟩
    have h := h.2 q3
    by_cases q4 : y2 = 4
    · have h := h.1 q4
      refine g_tinK C dX5_cell_16 q4 (by decide) (by decide) (off := 92) (by rfl) (pc' := 108) rfl ?_
      refine g_aload_n C dX5_cell_108 rfl rfl rfl ?_
      refine g_iload_n C dX5_cell_109 rfl rfl rfl ?_
      refine k_X5_70 C dX5_cell_110 (Nat.le_of_ble_eq_true rfl) (by decide) rfl rfl h (fun r3 h => ?_)
      refine g_if_eq C dX5_cell_113 (tgt := 120) rfl rfl (fun q => ?_) (fun q => ?_)
      · have h := h.1 q
        refine g_iconst C dX5_cell_120 ic_0 rfl ?_
        exact g_iret C dX5_cell_121 D ⟨rfl, h⟩
      · have h := h.2 q
        refine g_iconst C dX5_cell_116 ic_1 rfl ?_
        refine g_goto C dX5_cell_117 (pc' := 121) rfl ?_
        exact g_iret C dX5_cell_121 D ⟨rfl, h⟩
    have h := h.2 q4
    by_cases q5 : y2 = 5
    · have h := h.1 q5
      refine g_tinK C dX5_cell_16 q5 (by decide) (by decide) (off := 106) (by rfl) (pc' := 122) rfl ?_
      refine g_aload_n C dX5_cell_122 rfl rfl rfl ?_
      refine g_iload_n C dX5_cell_123 rfl rfl rfl ?_
      refine k_X5_175 C dX5_cell_124 (Nat.le_of_ble_eq_true rfl) (by decide) rfl rfl h (fun r4 h => ?_)
      exact g_iret C dX5_cell_127 D ⟨rfl, h⟩
    have h := h.2 q5
    have hout : ((y2).toInt < 0 ∨ 5 < (y2).toInt) := by
      rcases tsw_cases (y2) 0 6 with hq | ⟨k, hk, he⟩
      · omega
      · rcases (show k = 0 ∨ k = 1 ∨ k = 2 ∨ k = 3 ∨ k = 4 ∨ k = 5 by omega) with rfl | rfl | rfl | rfl | rfl | rfl
        · exact absurd (i32_of he (by decide)) q0
        · exact absurd (i32_of he (by decide)) q1
        · exact absurd (i32_of he (by decide)) q2
        · exact absurd (i32_of he (by decide)) q3
        · exact absurd (i32_of he (by decide)) q4
        · exact absurd (i32_of he (by decide)) q5
    refine g_tout C dX5_cell_16 hout (pc' := 128) rfl ?_
    refine g_bipush C dX5_cell_128 bp_m2 rfl ?_
    exact g_iret C dX5_cell_130 D ⟨rfl, h⟩
  · have h := h.1 q
    refine g_iconst C dX5_cell_7 ic_m1 rfl ?_
    exact g_iret C dX5_cell_8 D ⟨rfl, h⟩
theorem hd_X5_cell : yX5_cell.cls ≠ "java/lang/invoke/MethodHandle" ∧ yX5_cell.cls ≠ "java/lang/invoke/VarHandle" ∧ (parseMethodDescriptor yX5_cell.desc).map (fun d => d.parameters.length) = some 2 := by decide +kernel

theorem dX5_list_0 : decode cX5_list 0 = .ok (.iload_n 1, 1) := by decide +kernel
theorem dX5_list_1 : decode cX5_list 1 = .ok (.ifCond .ge 8, 3) := by decide +kernel
theorem dX5_list_4 : decode cX5_list 4 = .ok (.bipush (-2), 2) := by decide +kernel
theorem dX5_list_6 : decode cX5_list 6 = .ok (.goto 28, 3) := by decide +kernel
theorem dX5_list_9 : decode cX5_list 9 = .ok (.iload_n 1, 1) := by decide +kernel
theorem dX5_list_10 : decode cX5_list 10 = .ok (.aload_n 0, 1) := by decide +kernel
theorem dX5_list_11 : decode cX5_list 11 = .ok (.getfield 7, 3) := by decide +kernel
theorem dX5_list_14 : decode cX5_list 14 = .ok (.bipush 10, 2) := by decide +kernel
theorem dX5_list_16 : decode cX5_list 16 = .ok (.iaload, 1) := by decide +kernel
theorem dX5_list_17 : decode cX5_list 17 = .ok (.if_icmp .ge 15, 3) := by decide +kernel
theorem dX5_list_20 : decode cX5_list 20 = .ok (.aload_n 0, 1) := by decide +kernel
theorem dX5_list_21 : decode cX5_list 21 = .ok (.getfield 7, 3) := by decide +kernel
theorem dX5_list_24 : decode cX5_list 24 = .ok (.bipush 11, 2) := by decide +kernel
theorem dX5_list_26 : decode cX5_list 26 = .ok (.iload_n 1, 1) := by decide +kernel
theorem dX5_list_27 : decode cX5_list 27 = .ok (.iadd, 1) := by decide +kernel
theorem dX5_list_28 : decode cX5_list 28 = .ok (.iaload, 1) := by decide +kernel
theorem dX5_list_29 : decode cX5_list 29 = .ok (.goto 5, 3) := by decide +kernel
theorem dX5_list_32 : decode cX5_list 32 = .ok (.bipush (-5), 2) := by decide +kernel
theorem dX5_list_34 : decode cX5_list 34 = .ok (.ireturn, 1) := by decide +kernel
def wp_X5_list (σ : Mem) (y1 : Int32) (P : Int32 → Prop) : Prop :=
  ((0 ≤ y1 →
    (((σ 94 10) ≤ y1 →
      P (-5)) ∧
      (¬ (σ 94 10) ≤ y1 →
      vp_in (11 + y1) 313 ∧ P (σ 94 (11 + y1).toNatClampNeg)))) ∧
    (¬ 0 ≤ y1 →
    P (-2)))
set_option maxRecDepth 100000 in
set_option maxHeartbeats 4000000 in
theorem c_X5_list (V : EV) (σ : Mem) (y1 : Int32) (P : Int32 → Prop) (l : Launch) : Met l yX5_list (.code yX5_list cX5_list 2 (some .int) :: AW) { frames := 0, cells := 0, slots := 0, locals := 0 } (va_Pc [.ref (ad V 93), .int y1] (fun U => wP V σ U ∧ wp_X5_list σ y1 P)) (va_Qi (fun r τ => τ = σ ∧ P r) (wB V) (AA V)) 0 0 (AA V) := by
  refine met_i V σ (own := RX5) (by decide +kernel) rfl (fun v hv => by simp at hv; rcases hv with rfl | rfl <;> rfl) (Nat.le_of_ble_eq_true rfl) (fun X C D h => ?_) l
  show GG V X σ 0 [some (.ref (ad V 93)), some (.int y1)] []
  refine g_iload_n C dX5_list_0 rfl rfl rfl ?_
  refine g_if_ge C dX5_list_1 (tgt := 9) rfl rfl (fun q => ?_) (fun q => ?_)
  · have h := h.1 q
    refine g_iload_n C dX5_list_9 rfl rfl rfl ?_
    refine g_aload_n C dX5_list_10 rfl rfl rfl ?_
    refine f_X5_7 C dX5_list_11 rfl ?_
    refine g_bipush C dX5_list_14 bp_10 rfl ?_
    refine g_ildk C dX5_list_16 arr_94 vi_10_313 tl_10 rfl ?_
    refine g_icmp_ge C dX5_list_17 (tgt := 32) rfl rfl (fun q => ?_) (fun q => ?_)
    · have h := h.1 q
      refine g_bipush C dX5_list_32 bp_m5 rfl ?_
      exact g_iret C dX5_list_34 D ⟨rfl, h⟩
    · have h := h.2 q
      refine g_aload_n C dX5_list_20 rfl rfl rfl ?_
      refine f_X5_7 C dX5_list_21 rfl ?_
      refine g_bipush C dX5_list_24 bp_11 rfl ?_
      refine g_iload_n C dX5_list_26 rfl rfl rfl ?_
      refine g_iadd C dX5_list_27 rfl ?_
      obtain ⟨hin, h⟩ := h
      refine g_ild C dX5_list_28 arr_94 hin rfl ?_
      refine g_goto C dX5_list_29 (pc' := 34) rfl ?_
      exact g_iret C dX5_list_34 D ⟨rfl, h⟩
  · have h := h.2 q
    refine g_bipush C dX5_list_4 bp_m2 rfl ?_
    refine g_goto C dX5_list_6 (pc' := 34) rfl ?_
    exact g_iret C dX5_list_34 D ⟨rfl, h⟩
theorem hd_X5_list : yX5_list.cls ≠ "java/lang/invoke/MethodHandle" ∧ yX5_list.cls ≠ "java/lang/invoke/VarHandle" ∧ (parseMethodDescriptor yX5_list.desc).map (fun d => d.parameters.length) = some 1 := by decide +kernel

theorem dX5_next_0 : decode cX5_next 0 = .ok (.aload_n 0, 1) := by decide +kernel
theorem dX5_next_1 : decode cX5_next 1 = .ok (.iconst 1, 1) := by decide +kernel
theorem dX5_next_2 : decode cX5_next 2 = .ok (.bipush (-5), 2) := by decide +kernel
theorem dX5_next_4 : decode cX5_next 4 = .ok (.invokevirtual 77, 3) := by decide +kernel
theorem dX5_next_7 : decode cX5_next 7 = .ok (.ireturn, 1) := by decide +kernel
def wp_X5_next (σ : Mem) (P : Int32 → Prop) : Prop :=
  wp_X5_given σ 1 (-5) (fun r1 =>
    P r1)
set_option maxRecDepth 100000 in
set_option maxHeartbeats 4000000 in
theorem c_X5_next (V : EV) (σ : Mem) (P : Int32 → Prop) (l : Launch) : Met l yX5_next (.code yX5_next cX5_next 1 (some .int) :: AW) { frames := 2, cells := 0, slots := 0, locals := 48 } (va_Pc [.ref (ad V 93)] (fun U => wP V σ U ∧ wp_X5_next σ P)) (va_Qi (fun r τ => τ = σ ∧ P r) (wB V) (AA V)) 0 0 (AA V) := by
  refine met_i V σ (own := RX5) (by decide +kernel) rfl (fun v hv => by simp at hv; subst hv; rfl) (Nat.le_of_ble_eq_true rfl) (fun X C D h => ?_) l
  show GG V X σ 0 [some (.ref (ad V 93))] []
  refine g_aload_n C dX5_next_0 rfl rfl rfl ?_
  refine g_iconst C dX5_next_1 ic_1 rfl ?_
  refine g_bipush C dX5_next_2 bp_m5 rfl ?_
  refine k_X5_77 C dX5_next_4 (Nat.le_of_ble_eq_true rfl) (by decide) rfl rfl h (fun r1 h => ?_)
  exact g_iret C dX5_next_7 D ⟨rfl, h⟩
theorem hd_X5_next : yX5_next.cls ≠ "java/lang/invoke/MethodHandle" ∧ yX5_next.cls ≠ "java/lang/invoke/VarHandle" ∧ (parseMethodDescriptor yX5_next.desc).map (fun d => d.parameters.length) = some 0 := by decide +kernel

theorem dX5_reason_0 : decode cX5_reason 0 = .ok (.iload_n 1, 1) := by decide +kernel
theorem dX5_reason_1 : decode cX5_reason 1 = .ok (.invokestatic 107, 3) := by decide +kernel
theorem dX5_reason_4 : decode cX5_reason 4 = .ok (.ifCond .ne 5, 3) := by decide +kernel
theorem dX5_reason_7 : decode cX5_reason 7 = .ok (.iconst (-1), 1) := by decide +kernel
theorem dX5_reason_8 : decode cX5_reason 8 = .ok (.ireturn, 1) := by decide +kernel
theorem dX5_reason_9 : decode cX5_reason 9 = .ok (.aload_n 0, 1) := by decide +kernel
theorem dX5_reason_10 : decode cX5_reason 10 = .ok (.getfield 7, 3) := by decide +kernel
theorem dX5_reason_13 : decode cX5_reason 13 = .ok (.bipush 23, 2) := by decide +kernel
theorem dX5_reason_15 : decode cX5_reason 15 = .ok (.iload_n 1, 1) := by decide +kernel
theorem dX5_reason_16 : decode cX5_reason 16 = .ok (.iadd, 1) := by decide +kernel
theorem dX5_reason_17 : decode cX5_reason 17 = .ok (.iaload, 1) := by decide +kernel
theorem dX5_reason_18 : decode cX5_reason 18 = .ok (.iconst 2, 1) := by decide +kernel
theorem dX5_reason_19 : decode cX5_reason 19 = .ok (.if_icmp .ne 5, 3) := by decide +kernel
theorem dX5_reason_22 : decode cX5_reason 22 = .ok (.iconst 0, 1) := by decide +kernel
theorem dX5_reason_23 : decode cX5_reason 23 = .ok (.ireturn, 1) := by decide +kernel
theorem dX5_reason_24 : decode cX5_reason 24 = .ok (.aload_n 0, 1) := by decide +kernel
theorem dX5_reason_25 : decode cX5_reason 25 = .ok (.iload_n 1, 1) := by decide +kernel
theorem dX5_reason_26 : decode cX5_reason 26 = .ok (.invokevirtual 74, 3) := by decide +kernel
theorem dX5_reason_29 : decode cX5_reason 29 = .ok (.istore_n 2, 1) := by decide +kernel
theorem dX5_reason_30 : decode cX5_reason 30 = .ok (.aload_n 0, 1) := by decide +kernel
theorem dX5_reason_31 : decode cX5_reason 31 = .ok (.iload_n 1, 1) := by decide +kernel
theorem dX5_reason_32 : decode cX5_reason 32 = .ok (.invokevirtual 70, 3) := by decide +kernel
theorem dX5_reason_35 : decode cX5_reason 35 = .ok (.ifCond .ne 7, 3) := by decide +kernel
theorem dX5_reason_38 : decode cX5_reason 38 = .ok (.iconst 1, 1) := by decide +kernel
theorem dX5_reason_39 : decode cX5_reason 39 = .ok (.goto 24, 3) := by decide +kernel
theorem dX5_reason_42 : decode cX5_reason 42 = .ok (.iload_n 2, 1) := by decide +kernel
theorem dX5_reason_43 : decode cX5_reason 43 = .ok (.bipush (-5), 2) := by decide +kernel
theorem dX5_reason_45 : decode cX5_reason 45 = .ok (.if_icmp .eq 17, 3) := by decide +kernel
theorem dX5_reason_48 : decode cX5_reason 48 = .ok (.aload_n 0, 1) := by decide +kernel
theorem dX5_reason_49 : decode cX5_reason 49 = .ok (.iload_n 2, 1) := by decide +kernel
theorem dX5_reason_50 : decode cX5_reason 50 = .ok (.iconst 2, 1) := by decide +kernel
theorem dX5_reason_51 : decode cX5_reason 51 = .ok (.invokevirtual 40, 3) := by decide +kernel
theorem dX5_reason_54 : decode cX5_reason 54 = .ok (.iconst 1, 1) := by decide +kernel
theorem dX5_reason_55 : decode cX5_reason 55 = .ok (.if_icmp .ne 7, 3) := by decide +kernel
theorem dX5_reason_58 : decode cX5_reason 58 = .ok (.iconst 2, 1) := by decide +kernel
theorem dX5_reason_59 : decode cX5_reason 59 = .ok (.goto 4, 3) := by decide +kernel
theorem dX5_reason_62 : decode cX5_reason 62 = .ok (.iconst 3, 1) := by decide +kernel
theorem dX5_reason_63 : decode cX5_reason 63 = .ok (.ireturn, 1) := by decide +kernel
def wp_X5_reason (σ : Mem) (y1 : Int32) (P : Int32 → Prop) : Prop :=
  wp_X5_isCell σ y1 (fun r1 =>
    ((r1 = 0 →
    P (-1)) ∧
    (¬ r1 = 0 →
    vp_in (23 + y1) 313 ∧ (((σ 94 (23 + y1).toNatClampNeg) = 2 →
      P 0) ∧
      (¬ (σ 94 (23 + y1).toNatClampNeg) = 2 →
      wp_X5_pageIn σ y1 (fun r2 =>
        wp_X5_isBad σ y1 (fun r3 =>
        ((r3 = 0 →
        P 1) ∧
        (¬ r3 = 0 →
        ((r2 = (-5) →
          P 3) ∧
          (¬ r2 = (-5) →
          wp_X5_of σ r2 2 (fun r4 =>
            ((r4 = 1 →
            P 2) ∧
            (¬ r4 = 1 →
            P 3))))))))))))))
set_option maxRecDepth 100000 in
set_option maxHeartbeats 4000000 in
theorem c_X5_reason (V : EV) (σ : Mem) (y1 : Int32) (P : Int32 → Prop) (l : Launch) : Met l yX5_reason (.code yX5_reason cX5_reason 3 (some .int) :: AW) { frames := 2, cells := 0, slots := 0, locals := 45 } (va_Pc [.ref (ad V 93), .int y1] (fun U => wP V σ U ∧ wp_X5_reason σ y1 P)) (va_Qi (fun r τ => τ = σ ∧ P r) (wB V) (AA V)) 0 0 (AA V) := by
  refine met_i V σ (own := RX5) (by decide +kernel) rfl (fun v hv => by simp at hv; rcases hv with rfl | rfl <;> rfl) (Nat.le_of_ble_eq_true rfl) (fun X C D h => ?_) l
  show GG V X σ 0 [some (.ref (ad V 93)), some (.int y1), none] []
  refine g_iload_n C dX5_reason_0 rfl rfl rfl ?_
  refine k_X5_107 C dX5_reason_1 (Nat.le_of_ble_eq_true rfl) (by decide) rfl rfl h (fun r1 h => ?_)
  refine g_if_ne C dX5_reason_4 (tgt := 9) rfl rfl (fun q => ?_) (fun q => ?_)
  · have h := h.2 q
    refine g_aload_n C dX5_reason_9 rfl rfl rfl ?_
    refine f_X5_7 C dX5_reason_10 rfl ?_
    refine g_bipush C dX5_reason_13 bp_23 rfl ?_
    refine g_iload_n C dX5_reason_15 rfl rfl rfl ?_
    refine g_iadd C dX5_reason_16 rfl ?_
    obtain ⟨hin, h⟩ := h
    refine g_ild C dX5_reason_17 arr_94 hin rfl ?_
    refine g_iconst C dX5_reason_18 ic_2 rfl ?_
    refine g_icmp_ne C dX5_reason_19 (tgt := 24) rfl rfl (fun q => ?_) (fun q => ?_)
    · have h := h.2 q
      refine g_aload_n C dX5_reason_24 rfl rfl rfl ?_
      refine g_iload_n C dX5_reason_25 rfl rfl rfl ?_
      refine k_X5_74 C dX5_reason_26 (Nat.le_of_ble_eq_true rfl) (by decide) rfl rfl h (fun r2 h => ?_)
      refine g_istore_n C dX5_reason_29 rfl (Nat.le_of_ble_eq_true rfl) (L' := [some (.ref (ad V 93)), some (.int y1), some (.int r2)]) rfl rfl ?_
      refine g_aload_n C dX5_reason_30 rfl rfl rfl ?_
      refine g_iload_n C dX5_reason_31 rfl rfl rfl ?_
      refine k_X5_70 C dX5_reason_32 (Nat.le_of_ble_eq_true rfl) (by decide) rfl rfl h (fun r3 h => ?_)
      refine g_if_ne C dX5_reason_35 (tgt := 42) rfl rfl (fun q => ?_) (fun q => ?_)
      · have h := h.2 q
        refine g_iload_n C dX5_reason_42 rfl rfl rfl ?_
        refine g_bipush C dX5_reason_43 bp_m5 rfl ?_
        refine g_icmp_eq C dX5_reason_45 (tgt := 62) rfl rfl (fun q => ?_) (fun q => ?_)
        · have h := h.1 q
          refine g_iconst C dX5_reason_62 ic_3 rfl ?_
          exact g_iret C dX5_reason_63 D ⟨rfl, h⟩
        · have h := h.2 q
          refine g_aload_n C dX5_reason_48 rfl rfl rfl ?_
          refine g_iload_n C dX5_reason_49 rfl rfl rfl ?_
          refine g_iconst C dX5_reason_50 ic_2 rfl ?_
          refine k_X5_40 C dX5_reason_51 (Nat.le_of_ble_eq_true rfl) (by decide) rfl rfl h (fun r4 h => ?_)
          refine g_iconst C dX5_reason_54 ic_1 rfl ?_
          refine g_icmp_ne C dX5_reason_55 (tgt := 62) rfl rfl (fun q => ?_) (fun q => ?_)
          · have h := h.2 q
            refine g_iconst C dX5_reason_62 ic_3 rfl ?_
            exact g_iret C dX5_reason_63 D ⟨rfl, h⟩
          · have h := h.1 q
            refine g_iconst C dX5_reason_58 ic_2 rfl ?_
            refine g_goto C dX5_reason_59 (pc' := 63) rfl ?_
            exact g_iret C dX5_reason_63 D ⟨rfl, h⟩
      · have h := h.1 q
        refine g_iconst C dX5_reason_38 ic_1 rfl ?_
        refine g_goto C dX5_reason_39 (pc' := 63) rfl ?_
        exact g_iret C dX5_reason_63 D ⟨rfl, h⟩
    · have h := h.1 q
      refine g_iconst C dX5_reason_22 ic_0 rfl ?_
      exact g_iret C dX5_reason_23 D ⟨rfl, h⟩
  · have h := h.1 q
    refine g_iconst C dX5_reason_7 ic_m1 rfl ?_
    exact g_iret C dX5_reason_8 D ⟨rfl, h⟩
theorem hd_X5_reason : yX5_reason.cls ≠ "java/lang/invoke/MethodHandle" ∧ yX5_reason.cls ≠ "java/lang/invoke/VarHandle" ∧ (parseMethodDescriptor yX5_reason.desc).map (fun d => d.parameters.length) = some 1 := by decide +kernel

theorem dX5_errorsLeft_0 : decode cX5_errorsLeft 0 = .ok (.aload_n 0, 1) := by decide +kernel
theorem dX5_errorsLeft_1 : decode cX5_errorsLeft 1 = .ok (.iload_n 1, 1) := by decide +kernel
theorem dX5_errorsLeft_2 : decode cX5_errorsLeft 2 = .ok (.invokevirtual 110, 3) := by decide +kernel
theorem dX5_errorsLeft_5 : decode cX5_errorsLeft 5 = .ok (.istore_n 2, 1) := by decide +kernel
theorem dX5_errorsLeft_6 : decode cX5_errorsLeft 6 = .ok (.iload_n 2, 1) := by decide +kernel
theorem dX5_errorsLeft_7 : decode cX5_errorsLeft 7 = .ok (.ifCond .ge 5, 3) := by decide +kernel
theorem dX5_errorsLeft_10 : decode cX5_errorsLeft 10 = .ok (.iload_n 2, 1) := by decide +kernel
theorem dX5_errorsLeft_11 : decode cX5_errorsLeft 11 = .ok (.ireturn, 1) := by decide +kernel
theorem dX5_errorsLeft_12 : decode cX5_errorsLeft 12 = .ok (.aload_n 0, 1) := by decide +kernel
theorem dX5_errorsLeft_13 : decode cX5_errorsLeft 13 = .ok (.iload_n 1, 1) := by decide +kernel
theorem dX5_errorsLeft_14 : decode cX5_errorsLeft 14 = .ok (.invokevirtual 74, 3) := by decide +kernel
theorem dX5_errorsLeft_17 : decode cX5_errorsLeft 17 = .ok (.istore_n 3, 1) := by decide +kernel
theorem dX5_errorsLeft_18 : decode cX5_errorsLeft 18 = .ok (.iload_n 3, 1) := by decide +kernel
theorem dX5_errorsLeft_19 : decode cX5_errorsLeft 19 = .ok (.bipush (-5), 2) := by decide +kernel
theorem dX5_errorsLeft_21 : decode cX5_errorsLeft 21 = .ok (.if_icmp .eq 23, 3) := by decide +kernel
theorem dX5_errorsLeft_24 : decode cX5_errorsLeft 24 = .ok (.aload_n 0, 1) := by decide +kernel
theorem dX5_errorsLeft_25 : decode cX5_errorsLeft 25 = .ok (.iload_n 3, 1) := by decide +kernel
theorem dX5_errorsLeft_26 : decode cX5_errorsLeft 26 = .ok (.iconst 2, 1) := by decide +kernel
theorem dX5_errorsLeft_27 : decode cX5_errorsLeft 27 = .ok (.invokevirtual 40, 3) := by decide +kernel
theorem dX5_errorsLeft_30 : decode cX5_errorsLeft 30 = .ok (.ifCond .ne 18, 3) := by decide +kernel
theorem dX5_errorsLeft_33 : decode cX5_errorsLeft 33 = .ok (.aload_n 0, 1) := by decide +kernel
theorem dX5_errorsLeft_34 : decode cX5_errorsLeft 34 = .ok (.iconst 0, 1) := by decide +kernel
theorem dX5_errorsLeft_35 : decode cX5_errorsLeft 35 = .ok (.iload_n 1, 1) := by decide +kernel
theorem dX5_errorsLeft_36 : decode cX5_errorsLeft 36 = .ok (.invokevirtual 77, 3) := by decide +kernel
theorem dX5_errorsLeft_39 : decode cX5_errorsLeft 39 = .ok (.bipush (-5), 2) := by decide +kernel
theorem dX5_errorsLeft_41 : decode cX5_errorsLeft 41 = .ok (.if_icmp .eq 7, 3) := by decide +kernel
theorem dX5_errorsLeft_44 : decode cX5_errorsLeft 44 = .ok (.iconst 1, 1) := by decide +kernel
theorem dX5_errorsLeft_45 : decode cX5_errorsLeft 45 = .ok (.goto 4, 3) := by decide +kernel
theorem dX5_errorsLeft_48 : decode cX5_errorsLeft 48 = .ok (.iconst 0, 1) := by decide +kernel
theorem dX5_errorsLeft_49 : decode cX5_errorsLeft 49 = .ok (.istore 4, 2) := by decide +kernel
theorem dX5_errorsLeft_51 : decode cX5_errorsLeft 51 = .ok (.iload 4, 2) := by decide +kernel
theorem dX5_errorsLeft_53 : decode cX5_errorsLeft 53 = .ok (.ifCond .eq 30, 3) := by decide +kernel
theorem dX5_errorsLeft_56 : decode cX5_errorsLeft 56 = .ok (.aload_n 0, 1) := by decide +kernel
theorem dX5_errorsLeft_57 : decode cX5_errorsLeft 57 = .ok (.iload_n 1, 1) := by decide +kernel
theorem dX5_errorsLeft_58 : decode cX5_errorsLeft 58 = .ok (.invokevirtual 70, 3) := by decide +kernel
theorem dX5_errorsLeft_61 : decode cX5_errorsLeft 61 = .ok (.ifCond .ne 22, 3) := by decide +kernel
theorem dX5_errorsLeft_64 : decode cX5_errorsLeft 64 = .ok (.aload_n 0, 1) := by decide +kernel
theorem dX5_errorsLeft_65 : decode cX5_errorsLeft 65 = .ok (.getfield 7, 3) := by decide +kernel
theorem dX5_errorsLeft_68 : decode cX5_errorsLeft 68 = .ok (.iconst 0, 1) := by decide +kernel
theorem dX5_errorsLeft_69 : decode cX5_errorsLeft 69 = .ok (.iaload, 1) := by decide +kernel
theorem dX5_errorsLeft_70 : decode cX5_errorsLeft 70 = .ok (.aload_n 0, 1) := by decide +kernel
theorem dX5_errorsLeft_71 : decode cX5_errorsLeft 71 = .ok (.getfield 7, 3) := by decide +kernel
theorem dX5_errorsLeft_74 : decode cX5_errorsLeft 74 = .ok (.bipush 63, 2) := by decide +kernel
theorem dX5_errorsLeft_76 : decode cX5_errorsLeft 76 = .ok (.iload_n 1, 1) := by decide +kernel
theorem dX5_errorsLeft_77 : decode cX5_errorsLeft 77 = .ok (.iadd, 1) := by decide +kernel
theorem dX5_errorsLeft_78 : decode cX5_errorsLeft 78 = .ok (.iaload, 1) := by decide +kernel
theorem dX5_errorsLeft_79 : decode cX5_errorsLeft 79 = .ok (.isub, 1) := by decide +kernel
theorem dX5_errorsLeft_80 : decode cX5_errorsLeft 80 = .ok (.goto 5, 3) := by decide +kernel
theorem dX5_errorsLeft_83 : decode cX5_errorsLeft 83 = .ok (.bipush (-5), 2) := by decide +kernel
theorem dX5_errorsLeft_85 : decode cX5_errorsLeft 85 = .ok (.ireturn, 1) := by decide +kernel
def wp_X5_errorsLeft (σ : Mem) (y1 : Int32) (P : Int32 → Prop) : Prop :=
  wp_X5_whyNotError σ y1 (fun r1 =>
    ((0 ≤ r1 →
    wp_X5_pageIn σ y1 (fun r2 =>
      jn (A := Int32 → Prop) (fun (v3 : Int32) =>
      ((v3 = 0 →
        P (-5)) ∧
        (¬ v3 = 0 →
        wp_X5_isBad σ y1 (fun r5 =>
          ((r5 = 0 →
          vp_in (63 + y1) 313 ∧ P (((σ 94 0) - (σ 94 (63 + y1).toNatClampNeg)))) ∧
          (¬ r5 = 0 →
          P (-5)))))))
      (fun J4 =>
      ((r2 = (-5) →
      J4 1) ∧
      (¬ r2 = (-5) →
      wp_X5_of σ r2 2 (fun r6 =>
        ((r6 = 0 →
        wp_X5_given σ 0 y1 (fun r7 =>
          ((r7 = (-5) →
          J4 0) ∧
          (¬ r7 = (-5) →
          J4 1)))) ∧
        (¬ r6 = 0 →
        J4 0)))))))) ∧
    (¬ 0 ≤ r1 →
    P r1)))
set_option maxRecDepth 100000 in
set_option maxHeartbeats 4000000 in
theorem c_X5_errorsLeft (V : EV) (σ : Mem) (y1 : Int32) (P : Int32 → Prop) (l : Launch) : Met l yX5_errorsLeft (.code yX5_errorsLeft cX5_errorsLeft 5 (some .int) :: AW) { frames := 3, cells := 0, slots := 0, locals := 63 } (va_Pc [.ref (ad V 93), .int y1] (fun U => wP V σ U ∧ wp_X5_errorsLeft σ y1 P)) (va_Qi (fun r τ => τ = σ ∧ P r) (wB V) (AA V)) 0 0 (AA V) := by
  refine met_i V σ (own := RX5) (by decide +kernel) rfl (fun v hv => by simp at hv; rcases hv with rfl | rfl <;> rfl) (Nat.le_of_ble_eq_true rfl) (fun X C D h => ?_) l
  show GG V X σ 0 [some (.ref (ad V 93)), some (.int y1), none, none, none] []
  refine g_aload_n C dX5_errorsLeft_0 rfl rfl rfl ?_
  refine g_iload_n C dX5_errorsLeft_1 rfl rfl rfl ?_
  refine k_X5_110 C dX5_errorsLeft_2 (Nat.le_of_ble_eq_true rfl) (by decide) rfl rfl h (fun r1 h => ?_)
  refine g_istore_n C dX5_errorsLeft_5 rfl (Nat.le_of_ble_eq_true rfl) (L' := [some (.ref (ad V 93)), some (.int y1), some (.int r1), none, none]) rfl rfl ?_
  refine g_iload_n C dX5_errorsLeft_6 rfl rfl rfl ?_
  refine g_if_ge C dX5_errorsLeft_7 (tgt := 12) rfl rfl (fun q => ?_) (fun q => ?_)
  · have h := h.1 q
    refine g_aload_n C dX5_errorsLeft_12 rfl rfl rfl ?_
    refine g_iload_n C dX5_errorsLeft_13 rfl rfl rfl ?_
    refine k_X5_74 C dX5_errorsLeft_14 (Nat.le_of_ble_eq_true rfl) (by decide) rfl rfl h (fun r2 h => ?_)
    refine g_istore_n C dX5_errorsLeft_17 rfl (Nat.le_of_ble_eq_true rfl) (L' := [some (.ref (ad V 93)), some (.int y1), some (.int r1), some (.int r2), none]) rfl rfl ?_
    refine g_iload_n C dX5_errorsLeft_18 rfl rfl rfl ?_
    refine g_bipush C dX5_errorsLeft_19 bp_m5 rfl ?_
    refine jn_go h (fun (J4 : Int32 → Prop) => ∀ (v3 : Int32), J4 v3 → GG V X σ 49 [some (.ref (ad V 93)), some (.int y1), none, none, none] [.int v3]) (fun v3 h => ?_) (fun J4 hJ4 h => ?_)
    · refine g_istore C dX5_errorsLeft_49 (Nat.le_of_ble_eq_true rfl) (L' := [some (.ref (ad V 93)), some (.int y1), none, none, some (.int v3)]) rfl rfl ?_
      refine g_iload C dX5_errorsLeft_51 rfl rfl ?_
      refine g_if_eq C dX5_errorsLeft_53 (tgt := 83) rfl rfl (fun q => ?_) (fun q => ?_)
      · have h := h.1 q
        refine g_bipush C dX5_errorsLeft_83 bp_m5 rfl ?_
        exact g_iret C dX5_errorsLeft_85 D ⟨rfl, h⟩
      · have h := h.2 q
        refine g_aload_n C dX5_errorsLeft_56 rfl rfl rfl ?_
        refine g_iload_n C dX5_errorsLeft_57 rfl rfl rfl ?_
        refine k_X5_70 C dX5_errorsLeft_58 (Nat.le_of_ble_eq_true rfl) (by decide) rfl rfl h (fun r5 h => ?_)
        refine g_if_ne C dX5_errorsLeft_61 (tgt := 83) rfl rfl (fun q => ?_) (fun q => ?_)
        · have h := h.2 q
          refine g_bipush C dX5_errorsLeft_83 bp_m5 rfl ?_
          exact g_iret C dX5_errorsLeft_85 D ⟨rfl, h⟩
        · have h := h.1 q
          refine g_aload_n C dX5_errorsLeft_64 rfl rfl rfl ?_
          refine f_X5_7 C dX5_errorsLeft_65 rfl ?_
          refine g_iconst C dX5_errorsLeft_68 ic_0 rfl ?_
          refine g_ildk C dX5_errorsLeft_69 arr_94 vi_0_313 tl_0 rfl ?_
          refine g_aload_n C dX5_errorsLeft_70 rfl rfl rfl ?_
          refine f_X5_7 C dX5_errorsLeft_71 rfl ?_
          refine g_bipush C dX5_errorsLeft_74 bp_63 rfl ?_
          refine g_iload_n C dX5_errorsLeft_76 rfl rfl rfl ?_
          refine g_iadd C dX5_errorsLeft_77 rfl ?_
          obtain ⟨hin, h⟩ := h
          refine g_ild C dX5_errorsLeft_78 arr_94 hin rfl ?_
          refine g_isub C dX5_errorsLeft_79 rfl ?_
          refine g_goto C dX5_errorsLeft_80 (pc' := 85) rfl ?_
          exact g_iret C dX5_errorsLeft_85 D ⟨rfl, h⟩
    refine g_icmp_eq C dX5_errorsLeft_21 (tgt := 44) rfl rfl (fun q => ?_) (fun q => ?_)
    · have h := h.1 q
      refine g_iconst C dX5_errorsLeft_44 ic_1 rfl ?_
      refine g_goto C dX5_errorsLeft_45 (pc' := 49) rfl ?_
      refine g_drop 2 (L' := [some (.ref (ad V 93)), some (.int y1), none, some (.int r2), none]) rfl ?_
      refine g_drop 3 (L' := [some (.ref (ad V 93)), some (.int y1), none, none, none]) rfl ?_
      exact hJ4 1 h
    · have h := h.2 q
      refine g_aload_n C dX5_errorsLeft_24 rfl rfl rfl ?_
      refine g_iload_n C dX5_errorsLeft_25 rfl rfl rfl ?_
      refine g_iconst C dX5_errorsLeft_26 ic_2 rfl ?_
      refine k_X5_40 C dX5_errorsLeft_27 (Nat.le_of_ble_eq_true rfl) (by decide) rfl rfl h (fun r6 h => ?_)
      refine g_if_ne C dX5_errorsLeft_30 (tgt := 48) rfl rfl (fun q => ?_) (fun q => ?_)
      · have h := h.2 q
        refine g_iconst C dX5_errorsLeft_48 ic_0 rfl ?_
        refine g_drop 2 (L' := [some (.ref (ad V 93)), some (.int y1), none, some (.int r2), none]) rfl ?_
        refine g_drop 3 (L' := [some (.ref (ad V 93)), some (.int y1), none, none, none]) rfl ?_
        exact hJ4 0 h
      · have h := h.1 q
        refine g_aload_n C dX5_errorsLeft_33 rfl rfl rfl ?_
        refine g_iconst C dX5_errorsLeft_34 ic_0 rfl ?_
        refine g_iload_n C dX5_errorsLeft_35 rfl rfl rfl ?_
        refine k_X5_77 C dX5_errorsLeft_36 (Nat.le_of_ble_eq_true rfl) (by decide) rfl rfl h (fun r7 h => ?_)
        refine g_bipush C dX5_errorsLeft_39 bp_m5 rfl ?_
        refine g_icmp_eq C dX5_errorsLeft_41 (tgt := 48) rfl rfl (fun q => ?_) (fun q => ?_)
        · have h := h.1 q
          refine g_iconst C dX5_errorsLeft_48 ic_0 rfl ?_
          refine g_drop 2 (L' := [some (.ref (ad V 93)), some (.int y1), none, some (.int r2), none]) rfl ?_
          refine g_drop 3 (L' := [some (.ref (ad V 93)), some (.int y1), none, none, none]) rfl ?_
          exact hJ4 0 h
        · have h := h.2 q
          refine g_iconst C dX5_errorsLeft_44 ic_1 rfl ?_
          refine g_goto C dX5_errorsLeft_45 (pc' := 49) rfl ?_
          refine g_drop 2 (L' := [some (.ref (ad V 93)), some (.int y1), none, some (.int r2), none]) rfl ?_
          refine g_drop 3 (L' := [some (.ref (ad V 93)), some (.int y1), none, none, none]) rfl ?_
          exact hJ4 1 h
  · have h := h.2 q
    refine g_iload_n C dX5_errorsLeft_10 rfl rfl rfl ?_
    exact g_iret C dX5_errorsLeft_11 D ⟨rfl, h⟩
theorem hd_X5_errorsLeft : yX5_errorsLeft.cls ≠ "java/lang/invoke/MethodHandle" ∧ yX5_errorsLeft.cls ≠ "java/lang/invoke/VarHandle" ∧ (parseMethodDescriptor yX5_errorsLeft.desc).map (fun d => d.parameters.length) = some 1 := by decide +kernel

theorem dX5_worst_0 : decode cX5_worst 0 = .ok (.bipush (-5), 2) := by decide +kernel
theorem dX5_worst_2 : decode cX5_worst 2 = .ok (.istore_n 1, 1) := by decide +kernel
theorem dX5_worst_3 : decode cX5_worst 3 = .ok (.bipush 39, 2) := by decide +kernel
theorem dX5_worst_5 : decode cX5_worst 5 = .ok (.istore_n 2, 1) := by decide +kernel
theorem dX5_worst_6 : decode cX5_worst 6 = .ok (.iload_n 2, 1) := by decide +kernel
theorem dX5_worst_7 : decode cX5_worst 7 = .ok (.ifCond .lt 77, 3) := by decide +kernel
theorem dX5_worst_10 : decode cX5_worst 10 = .ok (.aload_n 0, 1) := by decide +kernel
theorem dX5_worst_11 : decode cX5_worst 11 = .ok (.getfield 7, 3) := by decide +kernel
theorem dX5_worst_14 : decode cX5_worst 14 = .ok (.bipush 23, 2) := by decide +kernel
theorem dX5_worst_16 : decode cX5_worst 16 = .ok (.iload_n 2, 1) := by decide +kernel
theorem dX5_worst_17 : decode cX5_worst 17 = .ok (.iadd, 1) := by decide +kernel
theorem dX5_worst_18 : decode cX5_worst 18 = .ok (.iaload, 1) := by decide +kernel
theorem dX5_worst_19 : decode cX5_worst 19 = .ok (.iconst 2, 1) := by decide +kernel
theorem dX5_worst_20 : decode cX5_worst 20 = .ok (.if_icmp .eq 19, 3) := by decide +kernel
theorem dX5_worst_23 : decode cX5_worst 23 = .ok (.aload_n 0, 1) := by decide +kernel
theorem dX5_worst_24 : decode cX5_worst 24 = .ok (.getfield 7, 3) := by decide +kernel
theorem dX5_worst_27 : decode cX5_worst 27 = .ok (.bipush 63, 2) := by decide +kernel
theorem dX5_worst_29 : decode cX5_worst 29 = .ok (.iload_n 2, 1) := by decide +kernel
theorem dX5_worst_30 : decode cX5_worst 30 = .ok (.iadd, 1) := by decide +kernel
theorem dX5_worst_31 : decode cX5_worst 31 = .ok (.iaload, 1) := by decide +kernel
theorem dX5_worst_32 : decode cX5_worst 32 = .ok (.ifCond .le 7, 3) := by decide +kernel
theorem dX5_worst_35 : decode cX5_worst 35 = .ok (.iconst 1, 1) := by decide +kernel
theorem dX5_worst_36 : decode cX5_worst 36 = .ok (.goto 4, 3) := by decide +kernel
theorem dX5_worst_39 : decode cX5_worst 39 = .ok (.iconst 0, 1) := by decide +kernel
theorem dX5_worst_40 : decode cX5_worst 40 = .ok (.istore_n 3, 1) := by decide +kernel
theorem dX5_worst_41 : decode cX5_worst 41 = .ok (.iload_n 3, 1) := by decide +kernel
theorem dX5_worst_42 : decode cX5_worst 42 = .ok (.ifCond .eq 34, 3) := by decide +kernel
theorem dX5_worst_45 : decode cX5_worst 45 = .ok (.iload_n 1, 1) := by decide +kernel
theorem dX5_worst_46 : decode cX5_worst 46 = .ok (.bipush (-5), 2) := by decide +kernel
theorem dX5_worst_48 : decode cX5_worst 48 = .ok (.if_icmp .eq 24, 3) := by decide +kernel
theorem dX5_worst_51 : decode cX5_worst 51 = .ok (.aload_n 0, 1) := by decide +kernel
theorem dX5_worst_52 : decode cX5_worst 52 = .ok (.getfield 7, 3) := by decide +kernel
theorem dX5_worst_55 : decode cX5_worst 55 = .ok (.bipush 63, 2) := by decide +kernel
theorem dX5_worst_57 : decode cX5_worst 57 = .ok (.iload_n 2, 1) := by decide +kernel
theorem dX5_worst_58 : decode cX5_worst 58 = .ok (.iadd, 1) := by decide +kernel
theorem dX5_worst_59 : decode cX5_worst 59 = .ok (.iaload, 1) := by decide +kernel
theorem dX5_worst_60 : decode cX5_worst 60 = .ok (.aload_n 0, 1) := by decide +kernel
theorem dX5_worst_61 : decode cX5_worst 61 = .ok (.getfield 7, 3) := by decide +kernel
theorem dX5_worst_64 : decode cX5_worst 64 = .ok (.bipush 63, 2) := by decide +kernel
theorem dX5_worst_66 : decode cX5_worst 66 = .ok (.iload_n 1, 1) := by decide +kernel
theorem dX5_worst_67 : decode cX5_worst 67 = .ok (.iadd, 1) := by decide +kernel
theorem dX5_worst_68 : decode cX5_worst 68 = .ok (.iaload, 1) := by decide +kernel
theorem dX5_worst_69 : decode cX5_worst 69 = .ok (.if_icmp .lt 7, 3) := by decide +kernel
theorem dX5_worst_72 : decode cX5_worst 72 = .ok (.iload_n 2, 1) := by decide +kernel
theorem dX5_worst_73 : decode cX5_worst 73 = .ok (.goto 4, 3) := by decide +kernel
theorem dX5_worst_76 : decode cX5_worst 76 = .ok (.iload_n 1, 1) := by decide +kernel
theorem dX5_worst_77 : decode cX5_worst 77 = .ok (.istore_n 1, 1) := by decide +kernel
theorem dX5_worst_78 : decode cX5_worst 78 = .ok (.iinc 2 (-1), 3) := by decide +kernel
theorem dX5_worst_81 : decode cX5_worst 81 = .ok (.goto (-75), 3) := by decide +kernel
theorem dX5_worst_84 : decode cX5_worst 84 = .ok (.iload_n 1, 1) := by decide +kernel
theorem dX5_worst_85 : decode cX5_worst 85 = .ok (.ireturn, 1) := by decide +kernel
def wp_X5_worst (σ : Mem) (P : Int32 → Prop) : Prop :=
  lq2 (fun rec3 (x1 : Int32) (x2 : Int32) =>
    ((x2 < 0 →
      P x1) ∧
      (¬ x2 < 0 →
      vp_in (23 + x2) 313 ∧ jn (A := Int32 → Prop) (fun (v4 : Int32) =>
        ((v4 = 0 →
          rec3 x1 (x2 + (-1))) ∧
          (¬ v4 = 0 →
          ((x1 = (-5) →
            rec3 x2 (x2 + (-1))) ∧
            (¬ x1 = (-5) →
            vp_in (63 + x2) 313 ∧ vp_in (63 + x1) 313 ∧ (((σ 94 (63 + x2).toNatClampNeg) < (σ 94 (63 + x1).toNatClampNeg) →
              rec3 x1 (x2 + (-1))) ∧
              (¬ (σ 94 (63 + x2).toNatClampNeg) < (σ 94 (63 + x1).toNatClampNeg) →
              rec3 x2 (x2 + (-1)))))))))
        (fun J5 =>
        (((σ 94 (23 + x2).toNatClampNeg) = 2 →
        J5 0) ∧
        (¬ (σ 94 (23 + x2).toNatClampNeg) = 2 →
        vp_in (63 + x2) 313 ∧ (((σ 94 (63 + x2).toNatClampNeg) ≤ 0 →
          J5 0) ∧
          (¬ (σ 94 (63 + x2).toNatClampNeg) ≤ 0 →
          J5 1)))))))) (-5) 39
set_option maxRecDepth 100000 in
set_option maxHeartbeats 4000000 in
theorem c_X5_worst (V : EV) (σ : Mem) (P : Int32 → Prop) (l : Launch) : Met l yX5_worst (.code yX5_worst cX5_worst 4 (some .int) :: AW) { frames := 0, cells := 0, slots := 0, locals := 0 } (va_Pc [.ref (ad V 93)] (fun U => wP V σ U ∧ wp_X5_worst σ P)) (va_Qi (fun r τ => τ = σ ∧ P r) (wB V) (AA V)) 0 0 (AA V) := by
  refine met_i V σ (own := RX5) (by decide +kernel) rfl (fun v hv => by simp at hv; subst hv; rfl) (Nat.le_of_ble_eq_true rfl) (fun X C D h => ?_) l
  show GG V X σ 0 [some (.ref (ad V 93)), none, none, none] []
  refine g_bipush C dX5_worst_0 bp_m5 rfl ?_
  refine g_istore_n C dX5_worst_2 rfl (Nat.le_of_ble_eq_true rfl) (L' := [some (.ref (ad V 93)), some (.int (-5)), none, none]) rfl rfl ?_
  refine g_bipush C dX5_worst_3 bp_39 rfl ?_
  refine g_istore_n C dX5_worst_5 rfl (Nat.le_of_ble_eq_true rfl) (L' := [some (.ref (ad V 93)), some (.int (-5)), some (.int 39), none]) rfl rfl ?_
  refine h (fun (x1 : Int32) (x2 : Int32) => GG V X σ 6 [some (.ref (ad V 93)), some (.int x1), some (.int x2), none] []) (fun x1 x2 h => ?_)
  refine g_iload_n C dX5_worst_6 rfl rfl rfl ?_
  refine g_if_lt C dX5_worst_7 (tgt := 84) rfl rfl (fun q => ?_) (fun q => ?_)
  · have h := h.1 q
    refine g_iload_n C dX5_worst_84 rfl rfl rfl ?_
    exact g_iret C dX5_worst_85 D ⟨rfl, h⟩
  · have h := h.2 q
    refine g_aload_n C dX5_worst_10 rfl rfl rfl ?_
    refine f_X5_7 C dX5_worst_11 rfl ?_
    refine g_bipush C dX5_worst_14 bp_23 rfl ?_
    refine g_iload_n C dX5_worst_16 rfl rfl rfl ?_
    refine g_iadd C dX5_worst_17 rfl ?_
    obtain ⟨hin, h⟩ := h
    refine g_ild C dX5_worst_18 arr_94 hin rfl ?_
    refine g_iconst C dX5_worst_19 ic_2 rfl ?_
    refine jn_go h (fun (J5 : Int32 → Prop) => ∀ (v4 : Int32), J5 v4 → GG V X σ 40 [some (.ref (ad V 93)), some (.int x1), some (.int x2), none] [.int v4]) (fun v4 h => ?_) (fun J5 hJ5 h => ?_)
    · refine g_istore_n C dX5_worst_40 rfl (Nat.le_of_ble_eq_true rfl) (L' := [some (.ref (ad V 93)), some (.int x1), some (.int x2), some (.int v4)]) rfl rfl ?_
      refine g_iload_n C dX5_worst_41 rfl rfl rfl ?_
      refine g_if_eq C dX5_worst_42 (tgt := 76) rfl rfl (fun q => ?_) (fun q => ?_)
      · have h := h.1 q
        refine g_iload_n C dX5_worst_76 rfl rfl rfl ?_
        refine g_istore_n C dX5_worst_77 rfl (Nat.le_of_ble_eq_true rfl) (L' := [some (.ref (ad V 93)), some (.int x1), some (.int x2), some (.int v4)]) rfl rfl ?_
        refine g_iinc C dX5_worst_78 (v := x2 + (-1)) (by rw [ic_m1]) rfl (Nat.le_of_ble_eq_true rfl) (L' := [some (.ref (ad V 93)), some (.int x1), some (.int (x2 + (-1))), some (.int v4)]) rfl rfl ?_
        refine g_goto C dX5_worst_81 (pc' := 6) rfl ?_
        refine g_drop 3 (L' := [some (.ref (ad V 93)), some (.int x1), some (.int (x2 + (-1))), none]) rfl ?_
        exact h
      · have h := h.2 q
        refine g_iload_n C dX5_worst_45 rfl rfl rfl ?_
        refine g_bipush C dX5_worst_46 bp_m5 rfl ?_
        refine g_icmp_eq C dX5_worst_48 (tgt := 72) rfl rfl (fun q => ?_) (fun q => ?_)
        · have h := h.1 q
          refine g_iload_n C dX5_worst_72 rfl rfl rfl ?_
          refine g_goto C dX5_worst_73 (pc' := 77) rfl ?_
          refine g_istore_n C dX5_worst_77 rfl (Nat.le_of_ble_eq_true rfl) (L' := [some (.ref (ad V 93)), some (.int x2), some (.int x2), some (.int v4)]) rfl rfl ?_
          refine g_iinc C dX5_worst_78 (v := x2 + (-1)) (by rw [ic_m1]) rfl (Nat.le_of_ble_eq_true rfl) (L' := [some (.ref (ad V 93)), some (.int x2), some (.int (x2 + (-1))), some (.int v4)]) rfl rfl ?_
          refine g_goto C dX5_worst_81 (pc' := 6) rfl ?_
          refine g_drop 3 (L' := [some (.ref (ad V 93)), some (.int x2), some (.int (x2 + (-1))), none]) rfl ?_
          exact h
        · have h := h.2 q
          refine g_aload_n C dX5_worst_51 rfl rfl rfl ?_
          refine f_X5_7 C dX5_worst_52 rfl ?_
          refine g_bipush C dX5_worst_55 bp_63 rfl ?_
          refine g_iload_n C dX5_worst_57 rfl rfl rfl ?_
          refine g_iadd C dX5_worst_58 rfl ?_
          obtain ⟨hin, h⟩ := h
          refine g_ild C dX5_worst_59 arr_94 hin rfl ?_
          refine g_aload_n C dX5_worst_60 rfl rfl rfl ?_
          refine f_X5_7 C dX5_worst_61 rfl ?_
          refine g_bipush C dX5_worst_64 bp_63 rfl ?_
          refine g_iload_n C dX5_worst_66 rfl rfl rfl ?_
          refine g_iadd C dX5_worst_67 rfl ?_
          obtain ⟨hin, h⟩ := h
          refine g_ild C dX5_worst_68 arr_94 hin rfl ?_
          refine g_icmp_lt C dX5_worst_69 (tgt := 76) rfl rfl (fun q => ?_) (fun q => ?_)
          · have h := h.1 q
            refine g_iload_n C dX5_worst_76 rfl rfl rfl ?_
            refine g_istore_n C dX5_worst_77 rfl (Nat.le_of_ble_eq_true rfl) (L' := [some (.ref (ad V 93)), some (.int x1), some (.int x2), some (.int v4)]) rfl rfl ?_
            refine g_iinc C dX5_worst_78 (v := x2 + (-1)) (by rw [ic_m1]) rfl (Nat.le_of_ble_eq_true rfl) (L' := [some (.ref (ad V 93)), some (.int x1), some (.int (x2 + (-1))), some (.int v4)]) rfl rfl ?_
            refine g_goto C dX5_worst_81 (pc' := 6) rfl ?_
            refine g_drop 3 (L' := [some (.ref (ad V 93)), some (.int x1), some (.int (x2 + (-1))), none]) rfl ?_
            exact h
          · have h := h.2 q
            refine g_iload_n C dX5_worst_72 rfl rfl rfl ?_
            refine g_goto C dX5_worst_73 (pc' := 77) rfl ?_
            refine g_istore_n C dX5_worst_77 rfl (Nat.le_of_ble_eq_true rfl) (L' := [some (.ref (ad V 93)), some (.int x2), some (.int x2), some (.int v4)]) rfl rfl ?_
            refine g_iinc C dX5_worst_78 (v := x2 + (-1)) (by rw [ic_m1]) rfl (Nat.le_of_ble_eq_true rfl) (L' := [some (.ref (ad V 93)), some (.int x2), some (.int (x2 + (-1))), some (.int v4)]) rfl rfl ?_
            refine g_goto C dX5_worst_81 (pc' := 6) rfl ?_
            refine g_drop 3 (L' := [some (.ref (ad V 93)), some (.int x2), some (.int (x2 + (-1))), none]) rfl ?_
            exact h
    refine g_icmp_eq C dX5_worst_20 (tgt := 39) rfl rfl (fun q => ?_) (fun q => ?_)
    · have h := h.1 q
      refine g_iconst C dX5_worst_39 ic_0 rfl ?_
      exact hJ5 0 h
    · have h := h.2 q
      refine g_aload_n C dX5_worst_23 rfl rfl rfl ?_
      refine f_X5_7 C dX5_worst_24 rfl ?_
      refine g_bipush C dX5_worst_27 bp_63 rfl ?_
      refine g_iload_n C dX5_worst_29 rfl rfl rfl ?_
      refine g_iadd C dX5_worst_30 rfl ?_
      obtain ⟨hin, h⟩ := h
      refine g_ild C dX5_worst_31 arr_94 hin rfl ?_
      refine g_if_le C dX5_worst_32 (tgt := 39) rfl rfl (fun q => ?_) (fun q => ?_)
      · have h := h.1 q
        refine g_iconst C dX5_worst_39 ic_0 rfl ?_
        exact hJ5 0 h
      · have h := h.2 q
        refine g_iconst C dX5_worst_35 ic_1 rfl ?_
        refine g_goto C dX5_worst_36 (pc' := 40) rfl ?_
        exact hJ5 1 h
theorem hd_X5_worst : yX5_worst.cls ≠ "java/lang/invoke/MethodHandle" ∧ yX5_worst.cls ≠ "java/lang/invoke/VarHandle" ∧ (parseMethodDescriptor yX5_worst.desc).map (fun d => d.parameters.length) = some 0 := by decide +kernel

theorem dX5_ifStarted_0 : decode cX5_ifStarted 0 = .ok (.bipush 40, 2) := by decide +kernel
theorem dX5_ifStarted_2 : decode cX5_ifStarted 2 = .ok (.aload_n 0, 1) := by decide +kernel
theorem dX5_ifStarted_3 : decode cX5_ifStarted 3 = .ok (.getfield 7, 3) := by decide +kernel
theorem dX5_ifStarted_6 : decode cX5_ifStarted 6 = .ok (.bipush 10, 2) := by decide +kernel
theorem dX5_ifStarted_8 : decode cX5_ifStarted 8 = .ok (.iaload, 1) := by decide +kernel
theorem dX5_ifStarted_9 : decode cX5_ifStarted 9 = .ok (.isub, 1) := by decide +kernel
theorem dX5_ifStarted_10 : decode cX5_ifStarted 10 = .ok (.ireturn, 1) := by decide +kernel
def wp_X5_ifStarted (σ : Mem) (P : Int32 → Prop) : Prop :=
  P (40 - (σ 94 10))
set_option maxRecDepth 100000 in
set_option maxHeartbeats 4000000 in
theorem c_X5_ifStarted (V : EV) (σ : Mem) (P : Int32 → Prop) (l : Launch) : Met l yX5_ifStarted (.code yX5_ifStarted cX5_ifStarted 1 (some .int) :: AW) { frames := 0, cells := 0, slots := 0, locals := 0 } (va_Pc [.ref (ad V 93)] (fun U => wP V σ U ∧ wp_X5_ifStarted σ P)) (va_Qi (fun r τ => τ = σ ∧ P r) (wB V) (AA V)) 0 0 (AA V) := by
  refine met_i V σ (own := RX5) (by decide +kernel) rfl (fun v hv => by simp at hv; subst hv; rfl) (Nat.le_of_ble_eq_true rfl) (fun X C D h => ?_) l
  show GG V X σ 0 [some (.ref (ad V 93))] []
  refine g_bipush C dX5_ifStarted_0 bp_40 rfl ?_
  refine g_aload_n C dX5_ifStarted_2 rfl rfl rfl ?_
  refine f_X5_7 C dX5_ifStarted_3 rfl ?_
  refine g_bipush C dX5_ifStarted_6 bp_10 rfl ?_
  refine g_ildk C dX5_ifStarted_8 arr_94 vi_10_313 tl_10 rfl ?_
  refine g_isub C dX5_ifStarted_9 rfl ?_
  exact g_iret C dX5_ifStarted_10 D ⟨rfl, h⟩
theorem hd_X5_ifStarted : yX5_ifStarted.cls ≠ "java/lang/invoke/MethodHandle" ∧ yX5_ifStarted.cls ≠ "java/lang/invoke/VarHandle" ∧ (parseMethodDescriptor yX5_ifStarted.desc).map (fun d => d.parameters.length) = some 0 := by decide +kernel

theorem dX5_count_0 : decode cX5_count 0 = .ok (.iload_n 1, 1) := by decide +kernel
theorem dX5_count_1 : decode cX5_count 1 = .ok (.tableswitch 173 0 17 #[87, 94, 100, 106, 112, 117, 125, 133, 141, 141, 141, 141, 141, 153, 153, 153, 163, 168], 87) := by decide +kernel
theorem dX5_count_88 : decode cX5_count 88 = .ok (.aload_n 0, 1) := by decide +kernel
theorem dX5_count_89 : decode cX5_count 89 = .ok (.getfield 7, 3) := by decide +kernel
theorem dX5_count_92 : decode cX5_count 92 = .ok (.iconst 3, 1) := by decide +kernel
theorem dX5_count_93 : decode cX5_count 93 = .ok (.iaload, 1) := by decide +kernel
theorem dX5_count_94 : decode cX5_count 94 = .ok (.ireturn, 1) := by decide +kernel
theorem dX5_count_95 : decode cX5_count 95 = .ok (.aload_n 0, 1) := by decide +kernel
theorem dX5_count_96 : decode cX5_count 96 = .ok (.iconst 0, 1) := by decide +kernel
theorem dX5_count_97 : decode cX5_count 97 = .ok (.invokevirtual 60, 3) := by decide +kernel
theorem dX5_count_100 : decode cX5_count 100 = .ok (.ireturn, 1) := by decide +kernel
theorem dX5_count_101 : decode cX5_count 101 = .ok (.aload_n 0, 1) := by decide +kernel
theorem dX5_count_102 : decode cX5_count 102 = .ok (.iconst 1, 1) := by decide +kernel
theorem dX5_count_103 : decode cX5_count 103 = .ok (.invokevirtual 60, 3) := by decide +kernel
theorem dX5_count_106 : decode cX5_count 106 = .ok (.ireturn, 1) := by decide +kernel
theorem dX5_count_107 : decode cX5_count 107 = .ok (.aload_n 0, 1) := by decide +kernel
theorem dX5_count_108 : decode cX5_count 108 = .ok (.iconst 2, 1) := by decide +kernel
theorem dX5_count_109 : decode cX5_count 109 = .ok (.invokevirtual 60, 3) := by decide +kernel
theorem dX5_count_112 : decode cX5_count 112 = .ok (.ireturn, 1) := by decide +kernel
theorem dX5_count_113 : decode cX5_count 113 = .ok (.aload_n 0, 1) := by decide +kernel
theorem dX5_count_114 : decode cX5_count 114 = .ok (.invokevirtual 122, 3) := by decide +kernel
theorem dX5_count_117 : decode cX5_count 117 = .ok (.ireturn, 1) := by decide +kernel
theorem dX5_count_118 : decode cX5_count 118 = .ok (.aload_n 0, 1) := by decide +kernel
theorem dX5_count_119 : decode cX5_count 119 = .ok (.getfield 7, 3) := by decide +kernel
theorem dX5_count_122 : decode cX5_count 122 = .ok (.bipush 10, 2) := by decide +kernel
theorem dX5_count_124 : decode cX5_count 124 = .ok (.iaload, 1) := by decide +kernel
theorem dX5_count_125 : decode cX5_count 125 = .ok (.ireturn, 1) := by decide +kernel
theorem dX5_count_126 : decode cX5_count 126 = .ok (.aload_n 0, 1) := by decide +kernel
theorem dX5_count_127 : decode cX5_count 127 = .ok (.iconst 0, 1) := by decide +kernel
theorem dX5_count_128 : decode cX5_count 128 = .ok (.bipush 50, 2) := by decide +kernel
theorem dX5_count_130 : decode cX5_count 130 = .ok (.invokevirtual 172, 3) := by decide +kernel
theorem dX5_count_133 : decode cX5_count 133 = .ok (.ireturn, 1) := by decide +kernel
theorem dX5_count_134 : decode cX5_count 134 = .ok (.aload_n 0, 1) := by decide +kernel
theorem dX5_count_135 : decode cX5_count 135 = .ok (.iconst 0, 1) := by decide +kernel
theorem dX5_count_136 : decode cX5_count 136 = .ok (.bipush 50, 2) := by decide +kernel
theorem dX5_count_138 : decode cX5_count 138 = .ok (.invokevirtual 104, 3) := by decide +kernel
theorem dX5_count_141 : decode cX5_count 141 = .ok (.ireturn, 1) := by decide +kernel
theorem dX5_count_142 : decode cX5_count 142 = .ok (.aload_n 0, 1) := by decide +kernel
theorem dX5_count_143 : decode cX5_count 143 = .ok (.getfield 7, 3) := by decide +kernel
theorem dX5_count_146 : decode cX5_count 146 = .ok (.iconst 4, 1) := by decide +kernel
theorem dX5_count_147 : decode cX5_count 147 = .ok (.iload_n 1, 1) := by decide +kernel
theorem dX5_count_148 : decode cX5_count 148 = .ok (.iadd, 1) := by decide +kernel
theorem dX5_count_149 : decode cX5_count 149 = .ok (.bipush 8, 2) := by decide +kernel
theorem dX5_count_151 : decode cX5_count 151 = .ok (.isub, 1) := by decide +kernel
theorem dX5_count_152 : decode cX5_count 152 = .ok (.iaload, 1) := by decide +kernel
theorem dX5_count_153 : decode cX5_count 153 = .ok (.ireturn, 1) := by decide +kernel
theorem dX5_count_154 : decode cX5_count 154 = .ok (.aload_n 0, 1) := by decide +kernel
theorem dX5_count_155 : decode cX5_count 155 = .ok (.getfield 7, 3) := by decide +kernel
theorem dX5_count_158 : decode cX5_count 158 = .ok (.iload_n 1, 1) := by decide +kernel
theorem dX5_count_159 : decode cX5_count 159 = .ok (.bipush 13, 2) := by decide +kernel
theorem dX5_count_161 : decode cX5_count 161 = .ok (.isub, 1) := by decide +kernel
theorem dX5_count_162 : decode cX5_count 162 = .ok (.iaload, 1) := by decide +kernel
theorem dX5_count_163 : decode cX5_count 163 = .ok (.ireturn, 1) := by decide +kernel
theorem dX5_count_164 : decode cX5_count 164 = .ok (.aload_n 0, 1) := by decide +kernel
theorem dX5_count_165 : decode cX5_count 165 = .ok (.getfield 44, 3) := by decide +kernel
theorem dX5_count_168 : decode cX5_count 168 = .ok (.ireturn, 1) := by decide +kernel
theorem dX5_count_169 : decode cX5_count 169 = .ok (.aload_n 0, 1) := by decide +kernel
theorem dX5_count_170 : decode cX5_count 170 = .ok (.getfield 132, 3) := by decide +kernel
theorem dX5_count_173 : decode cX5_count 173 = .ok (.ireturn, 1) := by decide +kernel
theorem dX5_count_174 : decode cX5_count 174 = .ok (.bipush (-2), 2) := by decide +kernel
theorem dX5_count_176 : decode cX5_count 176 = .ok (.ireturn, 1) := by decide +kernel
def wp_X5_count (σ : Mem) (y1 : Int32) (P : Int32 → Prop) : Prop :=
  ((y1 = 0 →
    P (σ 94 3)) ∧
    (¬ y1 = 0 →
    ((y1 = 1 →
    wp_X5_cells σ 0 (fun r1 =>
      P r1)) ∧
    (¬ y1 = 1 →
    ((y1 = 2 →
    wp_X5_cells σ 1 (fun r2 =>
      P r2)) ∧
    (¬ y1 = 2 →
    ((y1 = 3 →
    wp_X5_cells σ 2 (fun r3 =>
      P r3)) ∧
    (¬ y1 = 3 →
    ((y1 = 4 →
    wp_X5_waiting σ  (fun r4 =>
      P r4)) ∧
    (¬ y1 = 4 →
    ((y1 = 5 →
    P (σ 94 10)) ∧
    (¬ y1 = 5 →
    ((y1 = 6 →
    wp_X5_withCells σ 0 50 (fun r5 =>
      P r5)) ∧
    (¬ y1 = 6 →
    ((y1 = 7 →
    wp_X5_pinned σ 0 50 (fun r6 =>
      P r6)) ∧
    (¬ y1 = 7 →
    ((y1 = 8 →
    vp_in ((4 + y1) - 8) 313 ∧ P (σ 94 ((4 + y1) - 8).toNatClampNeg)) ∧
    (¬ y1 = 8 →
    ((y1 = 9 →
    vp_in ((4 + y1) - 8) 313 ∧ P (σ 94 ((4 + y1) - 8).toNatClampNeg)) ∧
    (¬ y1 = 9 →
    ((y1 = 10 →
    vp_in ((4 + y1) - 8) 313 ∧ P (σ 94 ((4 + y1) - 8).toNatClampNeg)) ∧
    (¬ y1 = 10 →
    ((y1 = 11 →
    vp_in ((4 + y1) - 8) 313 ∧ P (σ 94 ((4 + y1) - 8).toNatClampNeg)) ∧
    (¬ y1 = 11 →
    ((y1 = 12 →
    vp_in ((4 + y1) - 8) 313 ∧ P (σ 94 ((4 + y1) - 8).toNatClampNeg)) ∧
    (¬ y1 = 12 →
    ((y1 = 13 →
    vp_in (y1 - 13) 313 ∧ P (σ 94 (y1 - 13).toNatClampNeg)) ∧
    (¬ y1 = 13 →
    ((y1 = 14 →
    vp_in (y1 - 13) 313 ∧ P (σ 94 (y1 - 13).toNatClampNeg)) ∧
    (¬ y1 = 14 →
    ((y1 = 15 →
    vp_in (y1 - 13) 313 ∧ P (σ 94 (y1 - 13).toNatClampNeg)) ∧
    (¬ y1 = 15 →
    ((y1 = 16 →
    P (σ 93 3)) ∧
    (¬ y1 = 16 →
    ((y1 = 17 →
    P (σ 93 7)) ∧
    (¬ y1 = 17 →
    P (-2)))))))))))))))))))))))))))))))))))))
set_option maxRecDepth 100000 in
set_option maxHeartbeats 4000000 in
theorem c_X5_count (V : EV) (σ : Mem) (y1 : Int32) (P : Int32 → Prop) (l : Launch) : Met l yX5_count (.code yX5_count cX5_count 2 (some .int) :: AW) { frames := 2, cells := 0, slots := 0, locals := 46 } (va_Pc [.ref (ad V 93), .int y1] (fun U => wP V σ U ∧ wp_X5_count σ y1 P)) (va_Qi (fun r τ => τ = σ ∧ P r) (wB V) (AA V)) 0 0 (AA V) := by
  refine met_i V σ (own := RX5) (by decide +kernel) rfl (fun v hv => by simp at hv; rcases hv with rfl | rfl <;> rfl) (Nat.le_of_ble_eq_true rfl) (fun X C D h => ?_) l
  show GG V X σ 0 [some (.ref (ad V 93)), some (.int y1)] []
  refine g_iload_n C dX5_count_0 rfl rfl rfl ?_
  by_cases q0 : y1 = 0
  · have h := h.1 q0
    refine g_tinK C dX5_count_1 q0 (by decide) (by decide) (off := 87) (by rfl) (pc' := 88) rfl ?_
    refine g_aload_n C dX5_count_88 rfl rfl rfl ?_
    refine f_X5_7 C dX5_count_89 rfl ?_
    refine g_iconst C dX5_count_92 ic_3 rfl ?_
    refine g_ildk C dX5_count_93 arr_94 vi_3_313 tl_3 rfl ?_
    exact g_iret C dX5_count_94 D ⟨rfl, h⟩
  have h := h.2 q0
  by_cases q1 : y1 = 1
  · have h := h.1 q1
    refine g_tinK C dX5_count_1 q1 (by decide) (by decide) (off := 94) (by rfl) (pc' := 95) rfl ?_
    refine g_aload_n C dX5_count_95 rfl rfl rfl ?_
    refine g_iconst C dX5_count_96 ic_0 rfl ?_
    refine k_X5_60 C dX5_count_97 (Nat.le_of_ble_eq_true rfl) (by decide) rfl rfl h (fun r1 h => ?_)
    exact g_iret C dX5_count_100 D ⟨rfl, h⟩
  have h := h.2 q1
  by_cases q2 : y1 = 2
  · have h := h.1 q2
    refine g_tinK C dX5_count_1 q2 (by decide) (by decide) (off := 100) (by rfl) (pc' := 101) rfl ?_
    refine g_aload_n C dX5_count_101 rfl rfl rfl ?_
    refine g_iconst C dX5_count_102 ic_1 rfl ?_
    refine k_X5_60 C dX5_count_103 (Nat.le_of_ble_eq_true rfl) (by decide) rfl rfl h (fun r2 h => ?_)
    exact g_iret C dX5_count_106 D ⟨rfl, h⟩
  have h := h.2 q2
  by_cases q3 : y1 = 3
  · have h := h.1 q3
    refine g_tinK C dX5_count_1 q3 (by decide) (by decide) (off := 106) (by rfl) (pc' := 107) rfl ?_
    refine g_aload_n C dX5_count_107 rfl rfl rfl ?_
    refine g_iconst C dX5_count_108 ic_2 rfl ?_
    refine k_X5_60 C dX5_count_109 (Nat.le_of_ble_eq_true rfl) (by decide) rfl rfl h (fun r3 h => ?_)
    exact g_iret C dX5_count_112 D ⟨rfl, h⟩
  have h := h.2 q3
  by_cases q4 : y1 = 4
  · have h := h.1 q4
    refine g_tinK C dX5_count_1 q4 (by decide) (by decide) (off := 112) (by rfl) (pc' := 113) rfl ?_
    refine g_aload_n C dX5_count_113 rfl rfl rfl ?_
    refine k_X5_122 C dX5_count_114 (Nat.le_of_ble_eq_true rfl) (by decide) rfl rfl h (fun r4 h => ?_)
    exact g_iret C dX5_count_117 D ⟨rfl, h⟩
  have h := h.2 q4
  by_cases q5 : y1 = 5
  · have h := h.1 q5
    refine g_tinK C dX5_count_1 q5 (by decide) (by decide) (off := 117) (by rfl) (pc' := 118) rfl ?_
    refine g_aload_n C dX5_count_118 rfl rfl rfl ?_
    refine f_X5_7 C dX5_count_119 rfl ?_
    refine g_bipush C dX5_count_122 bp_10 rfl ?_
    refine g_ildk C dX5_count_124 arr_94 vi_10_313 tl_10 rfl ?_
    exact g_iret C dX5_count_125 D ⟨rfl, h⟩
  have h := h.2 q5
  by_cases q6 : y1 = 6
  · have h := h.1 q6
    refine g_tinK C dX5_count_1 q6 (by decide) (by decide) (off := 125) (by rfl) (pc' := 126) rfl ?_
    refine g_aload_n C dX5_count_126 rfl rfl rfl ?_
    refine g_iconst C dX5_count_127 ic_0 rfl ?_
    refine g_bipush C dX5_count_128 bp_50 rfl ?_
    refine k_X5_172 C dX5_count_130 (Nat.le_of_ble_eq_true rfl) (by decide) rfl rfl h (fun r5 h => ?_)
    exact g_iret C dX5_count_133 D ⟨rfl, h⟩
  have h := h.2 q6
  by_cases q7 : y1 = 7
  · have h := h.1 q7
    refine g_tinK C dX5_count_1 q7 (by decide) (by decide) (off := 133) (by rfl) (pc' := 134) rfl ?_
    refine g_aload_n C dX5_count_134 rfl rfl rfl ?_
    refine g_iconst C dX5_count_135 ic_0 rfl ?_
    refine g_bipush C dX5_count_136 bp_50 rfl ?_
    refine k_X5_104 C dX5_count_138 (Nat.le_of_ble_eq_true rfl) (by decide) rfl rfl h (fun r6 h => ?_)
    exact g_iret C dX5_count_141 D ⟨rfl, h⟩
  have h := h.2 q7
  by_cases q8 : y1 = 8
  · have h := h.1 q8
    refine g_tinK C dX5_count_1 q8 (by decide) (by decide) (off := 141) (by rfl) (pc' := 142) rfl ?_
    refine g_aload_n C dX5_count_142 rfl rfl rfl ?_
    refine f_X5_7 C dX5_count_143 rfl ?_
    refine g_iconst C dX5_count_146 ic_4 rfl ?_
    refine g_iload_n C dX5_count_147 rfl rfl rfl ?_
    refine g_iadd C dX5_count_148 rfl ?_
    refine g_bipush C dX5_count_149 bp_8 rfl ?_
    refine g_isub C dX5_count_151 rfl ?_
    obtain ⟨hin, h⟩ := h
    refine g_ild C dX5_count_152 arr_94 hin rfl ?_
    exact g_iret C dX5_count_153 D ⟨rfl, h⟩
  have h := h.2 q8
  by_cases q9 : y1 = 9
  · have h := h.1 q9
    refine g_tinK C dX5_count_1 q9 (by decide) (by decide) (off := 141) (by rfl) (pc' := 142) rfl ?_
    refine g_aload_n C dX5_count_142 rfl rfl rfl ?_
    refine f_X5_7 C dX5_count_143 rfl ?_
    refine g_iconst C dX5_count_146 ic_4 rfl ?_
    refine g_iload_n C dX5_count_147 rfl rfl rfl ?_
    refine g_iadd C dX5_count_148 rfl ?_
    refine g_bipush C dX5_count_149 bp_8 rfl ?_
    refine g_isub C dX5_count_151 rfl ?_
    obtain ⟨hin, h⟩ := h
    refine g_ild C dX5_count_152 arr_94 hin rfl ?_
    exact g_iret C dX5_count_153 D ⟨rfl, h⟩
  have h := h.2 q9
  by_cases q10 : y1 = 10
  · have h := h.1 q10
    refine g_tinK C dX5_count_1 q10 (by decide) (by decide) (off := 141) (by rfl) (pc' := 142) rfl ?_
    refine g_aload_n C dX5_count_142 rfl rfl rfl ?_
    refine f_X5_7 C dX5_count_143 rfl ?_
    refine g_iconst C dX5_count_146 ic_4 rfl ?_
    refine g_iload_n C dX5_count_147 rfl rfl rfl ?_
    refine g_iadd C dX5_count_148 rfl ?_
    refine g_bipush C dX5_count_149 bp_8 rfl ?_
    refine g_isub C dX5_count_151 rfl ?_
    obtain ⟨hin, h⟩ := h
    refine g_ild C dX5_count_152 arr_94 hin rfl ?_
    exact g_iret C dX5_count_153 D ⟨rfl, h⟩
  have h := h.2 q10
  by_cases q11 : y1 = 11
  · have h := h.1 q11
    refine g_tinK C dX5_count_1 q11 (by decide) (by decide) (off := 141) (by rfl) (pc' := 142) rfl ?_
    refine g_aload_n C dX5_count_142 rfl rfl rfl ?_
    refine f_X5_7 C dX5_count_143 rfl ?_
    refine g_iconst C dX5_count_146 ic_4 rfl ?_
    refine g_iload_n C dX5_count_147 rfl rfl rfl ?_
    refine g_iadd C dX5_count_148 rfl ?_
    refine g_bipush C dX5_count_149 bp_8 rfl ?_
    refine g_isub C dX5_count_151 rfl ?_
    obtain ⟨hin, h⟩ := h
    refine g_ild C dX5_count_152 arr_94 hin rfl ?_
    exact g_iret C dX5_count_153 D ⟨rfl, h⟩
  have h := h.2 q11
  by_cases q12 : y1 = 12
  · have h := h.1 q12
    refine g_tinK C dX5_count_1 q12 (by decide) (by decide) (off := 141) (by rfl) (pc' := 142) rfl ?_
    refine g_aload_n C dX5_count_142 rfl rfl rfl ?_
    refine f_X5_7 C dX5_count_143 rfl ?_
    refine g_iconst C dX5_count_146 ic_4 rfl ?_
    refine g_iload_n C dX5_count_147 rfl rfl rfl ?_
    refine g_iadd C dX5_count_148 rfl ?_
    refine g_bipush C dX5_count_149 bp_8 rfl ?_
    refine g_isub C dX5_count_151 rfl ?_
    obtain ⟨hin, h⟩ := h
    refine g_ild C dX5_count_152 arr_94 hin rfl ?_
    exact g_iret C dX5_count_153 D ⟨rfl, h⟩
  have h := h.2 q12
  by_cases q13 : y1 = 13
  · have h := h.1 q13
    refine g_tinK C dX5_count_1 q13 (by decide) (by decide) (off := 153) (by rfl) (pc' := 154) rfl ?_
    refine g_aload_n C dX5_count_154 rfl rfl rfl ?_
    refine f_X5_7 C dX5_count_155 rfl ?_
    refine g_iload_n C dX5_count_158 rfl rfl rfl ?_
    refine g_bipush C dX5_count_159 bp_13 rfl ?_
    refine g_isub C dX5_count_161 rfl ?_
    obtain ⟨hin, h⟩ := h
    refine g_ild C dX5_count_162 arr_94 hin rfl ?_
    exact g_iret C dX5_count_163 D ⟨rfl, h⟩
  have h := h.2 q13
  by_cases q14 : y1 = 14
  · have h := h.1 q14
    refine g_tinK C dX5_count_1 q14 (by decide) (by decide) (off := 153) (by rfl) (pc' := 154) rfl ?_
    refine g_aload_n C dX5_count_154 rfl rfl rfl ?_
    refine f_X5_7 C dX5_count_155 rfl ?_
    refine g_iload_n C dX5_count_158 rfl rfl rfl ?_
    refine g_bipush C dX5_count_159 bp_13 rfl ?_
    refine g_isub C dX5_count_161 rfl ?_
    obtain ⟨hin, h⟩ := h
    refine g_ild C dX5_count_162 arr_94 hin rfl ?_
    exact g_iret C dX5_count_163 D ⟨rfl, h⟩
  have h := h.2 q14
  by_cases q15 : y1 = 15
  · have h := h.1 q15
    refine g_tinK C dX5_count_1 q15 (by decide) (by decide) (off := 153) (by rfl) (pc' := 154) rfl ?_
    refine g_aload_n C dX5_count_154 rfl rfl rfl ?_
    refine f_X5_7 C dX5_count_155 rfl ?_
    refine g_iload_n C dX5_count_158 rfl rfl rfl ?_
    refine g_bipush C dX5_count_159 bp_13 rfl ?_
    refine g_isub C dX5_count_161 rfl ?_
    obtain ⟨hin, h⟩ := h
    refine g_ild C dX5_count_162 arr_94 hin rfl ?_
    exact g_iret C dX5_count_163 D ⟨rfl, h⟩
  have h := h.2 q15
  by_cases q16 : y1 = 16
  · have h := h.1 q16
    refine g_tinK C dX5_count_1 q16 (by decide) (by decide) (off := 163) (by rfl) (pc' := 164) rfl ?_
    refine g_aload_n C dX5_count_164 rfl rfl rfl ?_
    refine f_X5_44 C dX5_count_165 rfl ?_
    exact g_iret C dX5_count_168 D ⟨rfl, h⟩
  have h := h.2 q16
  by_cases q17 : y1 = 17
  · have h := h.1 q17
    refine g_tinK C dX5_count_1 q17 (by decide) (by decide) (off := 168) (by rfl) (pc' := 169) rfl ?_
    refine g_aload_n C dX5_count_169 rfl rfl rfl ?_
    refine f_X5_132 C dX5_count_170 rfl ?_
    exact g_iret C dX5_count_173 D ⟨rfl, h⟩
  have h := h.2 q17
  have hout : ((y1).toInt < 0 ∨ 17 < (y1).toInt) := by
    rcases tsw_cases (y1) 0 18 with hq | ⟨k, hk, he⟩
    · omega
    · rcases (show k = 0 ∨ k = 1 ∨ k = 2 ∨ k = 3 ∨ k = 4 ∨ k = 5 ∨ k = 6 ∨ k = 7 ∨ k = 8 ∨ k = 9 ∨ k = 10 ∨ k = 11 ∨ k = 12 ∨ k = 13 ∨ k = 14 ∨ k = 15 ∨ k = 16 ∨ k = 17 by omega) with rfl | rfl | rfl | rfl | rfl | rfl | rfl | rfl | rfl | rfl | rfl | rfl | rfl | rfl | rfl | rfl | rfl | rfl
      · exact absurd (i32_of he (by decide)) q0
      · exact absurd (i32_of he (by decide)) q1
      · exact absurd (i32_of he (by decide)) q2
      · exact absurd (i32_of he (by decide)) q3
      · exact absurd (i32_of he (by decide)) q4
      · exact absurd (i32_of he (by decide)) q5
      · exact absurd (i32_of he (by decide)) q6
      · exact absurd (i32_of he (by decide)) q7
      · exact absurd (i32_of he (by decide)) q8
      · exact absurd (i32_of he (by decide)) q9
      · exact absurd (i32_of he (by decide)) q10
      · exact absurd (i32_of he (by decide)) q11
      · exact absurd (i32_of he (by decide)) q12
      · exact absurd (i32_of he (by decide)) q13
      · exact absurd (i32_of he (by decide)) q14
      · exact absurd (i32_of he (by decide)) q15
      · exact absurd (i32_of he (by decide)) q16
      · exact absurd (i32_of he (by decide)) q17
  refine g_tout C dX5_count_1 hout (pc' := 174) rfl ?_
  refine g_bipush C dX5_count_174 bp_m2 rfl ?_
  exact g_iret C dX5_count_176 D ⟨rfl, h⟩
theorem hd_X5_count : yX5_count.cls ≠ "java/lang/invoke/MethodHandle" ∧ yX5_count.cls ≠ "java/lang/invoke/VarHandle" ∧ (parseMethodDescriptor yX5_count.desc).map (fun d => d.parameters.length) = some 1 := by decide +kernel
