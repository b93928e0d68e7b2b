theorem dX5_record_0 : decode cX5_record 0 = .ok (.aload_n 0, 1) := by decide +kernel
theorem dX5_record_1 : decode cX5_record 1 = .ok (.aload_n 0, 1) := by decide +kernel
theorem dX5_record_2 : decode cX5_record 2 = .ok (.getfield 7, 3) := by decide +kernel
theorem dX5_record_5 : decode cX5_record 5 = .ok (.invokevirtual 52, 3) := by decide +kernel
theorem dX5_record_8 : decode cX5_record 8 = .ok (.return_, 1) := by decide +kernel
def wp_X5_record (σ : Mem) (P : Mem → Prop) : Prop :=
  wp_X5_recordRow σ 94 (fun σ1 =>
    P σ1)
set_option maxRecDepth 100000 in
set_option maxHeartbeats 4000000 in
theorem c_X5_record (V : EV) (σ : Mem) (P : Mem → Prop) (l : Launch) : Met l yX5_record (.code yX5_record cX5_record 1 (none) :: AW) { frames := 2, cells := 0, slots := 0, locals := 46 } (va_Pc [.ref (ad V 93)] (fun U => wP V σ U ∧ wp_X5_record σ P)) (va_Qv P (wB V) (AA V)) 0 0 (AA V) := by
  refine met_v V σ (own := RX5) (by decide +kernel) rfl (fun v hv => by simp at hv; subst hv; rfl) (Nat.le_of_ble_eq_true rfl) (fun X C D h => ?_) l
  show GG V X σ 0 [some (.ref (ad V 93))] []
  refine g_aload_n C dX5_record_0 rfl rfl rfl ?_
  refine g_aload_n C dX5_record_1 rfl rfl rfl ?_
  refine f_X5_7 C dX5_record_2 rfl ?_
  refine k_X5_52 isZr_94 C dX5_record_5 (Nat.le_of_ble_eq_true rfl) (by decide) rfl rfl h (fun σ1 h => ?_)
  exact g_vret C dX5_record_8 D h
theorem hd_X5_record : yX5_record.cls ≠ "java/lang/invoke/MethodHandle" ∧ yX5_record.cls ≠ "java/lang/invoke/VarHandle" ∧ (parseMethodDescriptor yX5_record.desc).map (fun d => d.parameters.length) = some 0 := by decide +kernel
theorem k_X5_64 {V : EV} {X : CX} {cc : ByteArray} {nL : Nat} {R : Room} (C : OK V X RX5 cc nL R) {σ : Mem} {pc pc' : Nat} {L : List (Option Value)} {st : List Value} {P : Mem → Prop} (d : decode cc pc = .ok (.invokevirtual 64, 3)) (hst : (st.map fun v => v.category).sum ≤ 8) (hr : 2 + 1 ≤ R.frames ∧ 8 + (1 + 11) + 46 ≤ R.locals) (hL : L.length = nL) (hp : pc + 3 = pc') (h : wp_X5_record σ P) (k : ∀ τ, P τ → GG V X τ pc' L st) : GG V X σ pc L (.ref (ad V 93) :: st) :=
  g_callVv C (av := []) (fun l => c_X5_record V σ P l) (by decide) (en_93 V σ) (q := (RX5, TX5, 13)) rfl rfl ml_RX5_64 im_X5_record se_X5_record ini_RX5 co_X5_record hd_X5_record rfl ⟨rfl, rfl⟩ hr hst d hL hp h k

theorem dX5_undo_0 : decode cX5_undo 0 = .ok (.aload_n 0, 1) := by decide +kernel
theorem dX5_undo_1 : decode cX5_undo 1 = .ok (.getfield 44, 3) := by decide +kernel
theorem dX5_undo_4 : decode cX5_undo 4 = .ok (.ifCond .ne 6, 3) := by decide +kernel
theorem dX5_undo_7 : decode cX5_undo 7 = .ok (.bipush (-5), 2) := by decide +kernel
theorem dX5_undo_9 : decode cX5_undo 9 = .ok (.ireturn, 1) := by decide +kernel
theorem dX5_undo_10 : decode cX5_undo 10 = .ok (.aload_n 0, 1) := by decide +kernel
theorem dX5_undo_11 : decode cX5_undo 11 = .ok (.dup, 1) := by decide +kernel
theorem dX5_undo_12 : decode cX5_undo 12 = .ok (.getfield 44, 3) := by decide +kernel
theorem dX5_undo_15 : decode cX5_undo 15 = .ok (.iconst 1, 1) := by decide +kernel
theorem dX5_undo_16 : decode cX5_undo 16 = .ok (.isub, 1) := by decide +kernel
theorem dX5_undo_17 : decode cX5_undo 17 = .ok (.putfield 44, 3) := by decide +kernel
theorem dX5_undo_20 : decode cX5_undo 20 = .ok (.aload_n 0, 1) := by decide +kernel
theorem dX5_undo_21 : decode cX5_undo 21 = .ok (.getfield 16, 3) := by decide +kernel
theorem dX5_undo_24 : decode cX5_undo 24 = .ok (.sipush 313, 3) := by decide +kernel
theorem dX5_undo_27 : decode cX5_undo 27 = .ok (.aload_n 0, 1) := by decide +kernel
theorem dX5_undo_28 : decode cX5_undo 28 = .ok (.getfield 44, 3) := by decide +kernel
theorem dX5_undo_31 : decode cX5_undo 31 = .ok (.imul, 1) := by decide +kernel
theorem dX5_undo_32 : decode cX5_undo 32 = .ok (.aload_n 0, 1) := by decide +kernel
theorem dX5_undo_33 : decode cX5_undo 33 = .ok (.getfield 7, 3) := by decide +kernel
theorem dX5_undo_36 : decode cX5_undo 36 = .ok (.iconst 0, 1) := by decide +kernel
theorem dX5_undo_37 : decode cX5_undo 37 = .ok (.invokestatic 48, 3) := by decide +kernel
theorem dX5_undo_40 : decode cX5_undo 40 = .ok (.aload_n 0, 1) := by decide +kernel
theorem dX5_undo_41 : decode cX5_undo 41 = .ok (.getfield 44, 3) := by decide +kernel
theorem dX5_undo_44 : decode cX5_undo 44 = .ok (.ireturn, 1) := by decide +kernel
def wp_X5_undo (σ : Mem) (P : Int32 → Mem → Prop) : Prop :=
  (((σ 93 3) = 0 →
    P (-5) σ) ∧
    (¬ (σ 93 3) = 0 →
    bm (up2 σ 93 3 ((σ 93 3) - 1)) (fun σ1 =>
      wp_X5_copyState σ1 96 (313 * (σ1 93 3)) 94 0 (fun σ2 =>
      P (σ2 93 3) σ2))))
set_option maxRecDepth 100000 in
set_option maxHeartbeats 4000000 in
theorem c_X5_undo (V : EV) (σ : Mem) (P : Int32 → Mem → Prop) (l : Launch) : Met l yX5_undo (.code yX5_undo cX5_undo 1 (some .int) :: AW) { frames := 1, cells := 0, slots := 0, locals := 24 } (va_Pc [.ref (ad V 93)] (fun U => wP V σ U ∧ wp_X5_undo σ P)) (va_Qi P (wB V) (AA V)) 0 0 (AA V) := by
  refine met_i V σ (own := RX5) (by decide +kernel) rfl (fun v hv => by simp at hv; subst hv; rfl) (Nat.le_of_ble_eq_true rfl) (fun X C D h => ?_) l
  show GG V X σ 0 [some (.ref (ad V 93))] []
  refine g_aload_n C dX5_undo_0 rfl rfl rfl ?_
  refine f_X5_44 C dX5_undo_1 rfl ?_
  refine g_if_ne C dX5_undo_4 (tgt := 10) rfl rfl (fun q => ?_) (fun q => ?_)
  · have h := h.2 q
    refine g_aload_n C dX5_undo_10 rfl rfl rfl ?_
    refine g_dup C dX5_undo_11 rfl rfl ?_
    refine f_X5_44 C dX5_undo_12 rfl ?_
    refine g_iconst C dX5_undo_15 ic_1 rfl ?_
    refine g_isub C dX5_undo_16 rfl ?_
    refine p_X5_44 C dX5_undo_17 rfl h (fun σ1 h => ?_)
    refine g_aload_n C dX5_undo_20 rfl rfl rfl ?_
    refine f_X5_16 C dX5_undo_21 rfl ?_
    refine g_sipush C dX5_undo_24 sp_313 rfl ?_
    refine g_aload_n C dX5_undo_27 rfl rfl rfl ?_
    refine f_X5_44 C dX5_undo_28 rfl ?_
    refine g_imul C dX5_undo_31 rfl ?_
    refine g_aload_n C dX5_undo_32 rfl rfl rfl ?_
    refine f_X5_7 C dX5_undo_33 rfl ?_
    refine g_iconst C dX5_undo_36 ic_0 rfl ?_
    refine k_X5_48 isZr_96 isZr_94 C dX5_undo_37 (Nat.le_of_ble_eq_true rfl) (by decide) rfl rfl h (fun σ2 h => ?_)
    refine g_aload_n C dX5_undo_40 rfl rfl rfl ?_
    refine f_X5_44 C dX5_undo_41 rfl ?_
    exact g_iret C dX5_undo_44 D h
  · have h := h.1 q
    refine g_bipush C dX5_undo_7 bp_m5 rfl ?_
    exact g_iret C dX5_undo_9 D h
theorem hd_X5_undo : yX5_undo.cls ≠ "java/lang/invoke/MethodHandle" ∧ yX5_undo.cls ≠ "java/lang/invoke/VarHandle" ∧ (parseMethodDescriptor yX5_undo.desc).map (fun d => d.parameters.length) = some 0 := by decide +kernel

theorem dX5_keep_0 : decode cX5_keep 0 = .ok (.aload_n 0, 1) := by decide +kernel
theorem dX5_keep_1 : decode cX5_keep 1 = .ok (.getfield 7, 3) := by decide +kernel
theorem dX5_keep_4 : decode cX5_keep 4 = .ok (.iconst 0, 1) := by decide +kernel
theorem dX5_keep_5 : decode cX5_keep 5 = .ok (.aload_n 0, 1) := by decide +kernel
theorem dX5_keep_6 : decode cX5_keep 6 = .ok (.getfield 19, 3) := by decide +kernel
theorem dX5_keep_9 : decode cX5_keep 9 = .ok (.iconst 0, 1) := by decide +kernel
theorem dX5_keep_10 : decode cX5_keep 10 = .ok (.invokestatic 48, 3) := by decide +kernel
theorem dX5_keep_13 : decode cX5_keep 13 = .ok (.aload_n 0, 1) := by decide +kernel
theorem dX5_keep_14 : decode cX5_keep 14 = .ok (.iconst 1, 1) := by decide +kernel
theorem dX5_keep_15 : decode cX5_keep 15 = .ok (.putfield 56, 3) := by decide +kernel
theorem dX5_keep_18 : decode cX5_keep 18 = .ok (.aload_n 0, 1) := by decide +kernel
theorem dX5_keep_19 : decode cX5_keep 19 = .ok (.iconst 2, 1) := by decide +kernel
theorem dX5_keep_20 : decode cX5_keep 20 = .ok (.invokevirtual 60, 3) := by decide +kernel
theorem dX5_keep_23 : decode cX5_keep 23 = .ok (.ireturn, 1) := by decide +kernel
def wp_X5_keep (σ : Mem) (P : Int32 → Mem → Prop) : Prop :=
  wp_X5_copyState σ 94 0 97 0 (fun σ1 =>
    bm (up2 σ1 93 5 1) (fun σ2 =>
    wp_X5_cells σ2 2 (fun r3 =>
    P r3 σ2)))
set_option maxRecDepth 100000 in
set_option maxHeartbeats 4000000 in
theorem c_X5_keep (V : EV) (σ : Mem) (P : Int32 → Mem → Prop) (l : Launch) : Met l yX5_keep (.code yX5_keep cX5_keep 1 (some .int) :: AW) { frames := 1, cells := 0, slots := 0, locals := 24 } (va_Pc [.ref (ad V 93)] (fun U => wP V σ U ∧ wp_X5_keep σ P)) (va_Qi P (wB V) (AA V)) 0 0 (AA V) := by
  refine met_i V σ (own := RX5) (by decide +kernel) rfl (fun v hv => by simp at hv; subst hv; rfl) (Nat.le_of_ble_eq_true rfl) (fun X C D h => ?_) l
  show GG V X σ 0 [some (.ref (ad V 93))] []
  refine g_aload_n C dX5_keep_0 rfl rfl rfl ?_
  refine f_X5_7 C dX5_keep_1 rfl ?_
  refine g_iconst C dX5_keep_4 ic_0 rfl ?_
  refine g_aload_n C dX5_keep_5 rfl rfl rfl ?_
  refine f_X5_19 C dX5_keep_6 rfl ?_
  refine g_iconst C dX5_keep_9 ic_0 rfl ?_
  refine k_X5_48 isZr_94 isZr_97 C dX5_keep_10 (Nat.le_of_ble_eq_true rfl) (by decide) rfl rfl h (fun σ1 h => ?_)
  refine g_aload_n C dX5_keep_13 rfl rfl rfl ?_
  refine g_iconst C dX5_keep_14 ic_1 rfl ?_
  refine p_X5_56 isZ_1 C dX5_keep_15 rfl h (fun σ2 h => ?_)
  refine g_aload_n C dX5_keep_18 rfl rfl rfl ?_
  refine g_iconst C dX5_keep_19 ic_2 rfl ?_
  refine k_X5_60 C dX5_keep_20 (Nat.le_of_ble_eq_true rfl) (by decide) rfl rfl h (fun r3 h => ?_)
  exact g_iret C dX5_keep_23 D h
theorem hd_X5_keep : yX5_keep.cls ≠ "java/lang/invoke/MethodHandle" ∧ yX5_keep.cls ≠ "java/lang/invoke/VarHandle" ∧ (parseMethodDescriptor yX5_keep.desc).map (fun d => d.parameters.length) = some 0 := by decide +kernel

theorem dX5_isBad_0 : decode cX5_isBad 0 = .ok (.aload_n 0, 1) := by decide +kernel
theorem dX5_isBad_1 : decode cX5_isBad 1 = .ok (.getfield 7, 3) := by decide +kernel
theorem dX5_isBad_4 : decode cX5_isBad 4 = .ok (.bipush 23, 2) := by decide +kernel
theorem dX5_isBad_6 : decode cX5_isBad 6 = .ok (.iload_n 1, 1) := by decide +kernel
theorem dX5_isBad_7 : decode cX5_isBad 7 = .ok (.iadd, 1) := by decide +kernel
theorem dX5_isBad_8 : decode cX5_isBad 8 = .ok (.iaload, 1) := by decide +kernel
theorem dX5_isBad_9 : decode cX5_isBad 9 = .ok (.iconst 2, 1) := by decide +kernel
theorem dX5_isBad_10 : decode cX5_isBad 10 = .ok (.if_icmp .eq 25, 3) := by decide +kernel
theorem dX5_isBad_13 : decode cX5_isBad 13 = .ok (.aload_n 0, 1) := by decide +kernel
theorem dX5_isBad_14 : decode cX5_isBad 14 = .ok (.getfield 7, 3) := by decide +kernel
theorem dX5_isBad_17 : decode cX5_isBad 17 = .ok (.bipush 63, 2) := by decide +kernel
theorem dX5_isBad_19 : decode cX5_isBad 19 = .ok (.iload_n 1, 1) := by decide +kernel
theorem dX5_isBad_20 : decode cX5_isBad 20 = .ok (.iadd, 1) := by decide +kernel
theorem dX5_isBad_21 : decode cX5_isBad 21 = .ok (.iaload, 1) := by decide +kernel
theorem dX5_isBad_22 : decode cX5_isBad 22 = .ok (.aload_n 0, 1) := by decide +kernel
theorem dX5_isBad_23 : decode cX5_isBad 23 = .ok (.getfield 7, 3) := by decide +kernel
theorem dX5_isBad_26 : decode cX5_isBad 26 = .ok (.iconst 0, 1) := by decide +kernel
theorem dX5_isBad_27 : decode cX5_isBad 27 = .ok (.iaload, 1) := by decide +kernel
theorem dX5_isBad_28 : decode cX5_isBad 28 = .ok (.if_icmp .lt 7, 3) := by decide +kernel
theorem dX5_isBad_31 : decode cX5_isBad 31 = .ok (.iconst 1, 1) := by decide +kernel
theorem dX5_isBad_32 : decode cX5_isBad 32 = .ok (.goto 4, 3) := by decide +kernel
theorem dX5_isBad_35 : decode cX5_isBad 35 = .ok (.iconst 0, 1) := by decide +kernel
theorem dX5_isBad_36 : decode cX5_isBad 36 = .ok (.ireturn, 1) := by decide +kernel
def wp_X5_isBad (σ : Mem) (y1 : Int32) (P : Int32 → Prop) : Prop :=
  vp_in (23 + y1) 313 ∧ (((σ 94 (23 + y1).toNatClampNeg) = 2 →
    P 0) ∧
    (¬ (σ 94 (23 + y1).toNatClampNeg) = 2 →
    vp_in (63 + y1) 313 ∧ (((σ 94 (63 + y1).toNatClampNeg) < (σ 94 0) →
      P 0) ∧
      (¬ (σ 94 (63 + y1).toNatClampNeg) < (σ 94 0) →
      P 1))))
set_option maxRecDepth 100000 in
set_option maxHeartbeats 4000000 in
theorem c_X5_isBad (V : EV) (σ : Mem) (y1 : Int32) (P : Int32 → Prop) (l : Launch) : Met l yX5_isBad (.code yX5_isBad cX5_isBad 2 (some .boolean) :: AW) { frames := 0, cells := 0, slots := 0, locals := 0 } (va_Pc [.ref (ad V 93), .int y1] (fun U => wP V σ U ∧ wp_X5_isBad σ y1 P)) (va_Qi (fun r τ => τ = σ ∧ P r) (wB V) (AA V)) 0 0 (AA V) := by
  refine met_i V σ (own := RX5) (by decide +kernel) rfl (fun v hv => by simp at hv; rcases hv with rfl | rfl <;> rfl) (Nat.le_of_ble_eq_true rfl) (fun X C D h => ?_) l
  show GG V X σ 0 [some (.ref (ad V 93)), some (.int y1)] []
  refine g_aload_n C dX5_isBad_0 rfl rfl rfl ?_
  refine f_X5_7 C dX5_isBad_1 rfl ?_
  refine g_bipush C dX5_isBad_4 bp_23 rfl ?_
  refine g_iload_n C dX5_isBad_6 rfl rfl rfl ?_
  refine g_iadd C dX5_isBad_7 rfl ?_
  obtain ⟨hin, h⟩ := h
  refine g_ild C dX5_isBad_8 arr_94 hin rfl ?_
  refine g_iconst C dX5_isBad_9 ic_2 rfl ?_
  refine g_icmp_eq C dX5_isBad_10 (tgt := 35) rfl rfl (fun q => ?_) (fun q => ?_)
  · have h := h.1 q
    refine g_iconst C dX5_isBad_35 ic_0 rfl ?_
    exact g_zret C dX5_isBad_36 D (by decide) ⟨rfl, h⟩
  · have h := h.2 q
    refine g_aload_n C dX5_isBad_13 rfl rfl rfl ?_
    refine f_X5_7 C dX5_isBad_14 rfl ?_
    refine g_bipush C dX5_isBad_17 bp_63 rfl ?_
    refine g_iload_n C dX5_isBad_19 rfl rfl rfl ?_
    refine g_iadd C dX5_isBad_20 rfl ?_
    obtain ⟨hin, h⟩ := h
    refine g_ild C dX5_isBad_21 arr_94 hin rfl ?_
    refine g_aload_n C dX5_isBad_22 rfl rfl rfl ?_
    refine f_X5_7 C dX5_isBad_23 rfl ?_
    refine g_iconst C dX5_isBad_26 ic_0 rfl ?_
    refine g_ildk C dX5_isBad_27 arr_94 vi_0_313 tl_0 rfl ?_
    refine g_icmp_lt C dX5_isBad_28 (tgt := 35) rfl rfl (fun q => ?_) (fun q => ?_)
    · have h := h.1 q
      refine g_iconst C dX5_isBad_35 ic_0 rfl ?_
      exact g_zret C dX5_isBad_36 D (by decide) ⟨rfl, h⟩
    · have h := h.2 q
      refine g_iconst C dX5_isBad_31 ic_1 rfl ?_
      refine g_goto C dX5_isBad_32 (pc' := 36) rfl ?_
      exact g_zret C dX5_isBad_36 D (by decide) ⟨rfl, h⟩
theorem hd_X5_isBad : yX5_isBad.cls ≠ "java/lang/invoke/MethodHandle" ∧ yX5_isBad.cls ≠ "java/lang/invoke/VarHandle" ∧ (parseMethodDescriptor yX5_isBad.desc).map (fun d => d.parameters.length) = some 1 := by decide +kernel
theorem k_X5_70 {V : EV} {X : CX} {cc : ByteArray} {nL : Nat} {R : Room} {y1 : Int32} (C : OK V X RX5 cc nL R) {σ : Mem} {pc pc' : Nat} {L : List (Option Value)} {st : List Value} {P : Int32 → Prop} (d : decode cc pc = .ok (.invokevirtual 70, 3)) (hst : (st.map fun v => v.category).sum ≤ 8) (hr : 0 + 1 ≤ R.frames ∧ 8 + (2 + 11) + 0 ≤ R.locals) (hL : L.length = nL) (hp : pc + 3 = pc') (h : wp_X5_isBad σ y1 P) (k : ∀ r, P r → GG V X σ pc' L (.int r :: st)) : GG V X σ pc L (.int y1 :: .ref (ad V 93) :: st) :=
  g_callVi C (av := [.int y1]) (fun l => c_X5_isBad V σ y1 P l) (by decide) (en_93 V σ) (q := (RX5, TX5, 13)) rfl rfl ml_RX5_70 im_X5_isBad se_X5_isBad ini_RX5 co_X5_isBad hd_X5_isBad rfl ⟨rfl, rfl⟩ hr hst d hL hp h (fun r τ hq => by obtain ⟨rfl, hq⟩ := hq; exact k r hq)

theorem dX5_given_0 : decode cX5_given 0 = .ok (.bipush (-5), 2) := by decide +kernel
theorem dX5_given_2 : decode cX5_given 2 = .ok (.istore_n 3, 1) := by decide +kernel
theorem dX5_given_3 : decode cX5_given 3 = .ok (.bipush 39, 2) := by decide +kernel
theorem dX5_given_5 : decode cX5_given 5 = .ok (.istore 4, 2) := by decide +kernel
theorem dX5_given_7 : decode cX5_given 7 = .ok (.iload 4, 2) := by decide +kernel
theorem dX5_given_9 : decode cX5_given 9 = .ok (.ifCond .lt 142, 3) := by decide +kernel
theorem dX5_given_12 : decode cX5_given 12 = .ok (.aload_n 0, 1) := by decide +kernel
theorem dX5_given_13 : decode cX5_given 13 = .ok (.getfield 7, 3) := by decide +kernel
theorem dX5_given_16 : decode cX5_given 16 = .ok (.iconst 2, 1) := by decide +kernel
theorem dX5_given_17 : decode cX5_given 17 = .ok (.iaload, 1) := by decide +kernel
theorem dX5_given_18 : decode cX5_given 18 = .ok (.iconst 2, 1) := by decide +kernel
theorem dX5_given_19 : decode cX5_given 19 = .ok (.if_icmp .ne 21, 3) := by decide +kernel
theorem dX5_given_22 : decode cX5_given 22 = .ok (.aload_n 0, 1) := by decide +kernel
theorem dX5_given_23 : decode cX5_given 23 = .ok (.getfield 7, 3) := by decide +kernel
theorem dX5_given_26 : decode cX5_given 26 = .ok (.bipush 9, 2) := by decide +kernel
theorem dX5_given_28 : decode cX5_given 28 = .ok (.iaload, 1) := by decide +kernel
theorem dX5_given_29 : decode cX5_given 29 = .ok (.iconst 1, 1) := by decide +kernel
theorem dX5_given_30 : decode cX5_given 30 = .ok (.iadd, 1) := by decide +kernel
theorem dX5_given_31 : decode cX5_given 31 = .ok (.iload 4, 2) := by decide +kernel
theorem dX5_given_33 : decode cX5_given 33 = .ok (.iadd, 1) := by decide +kernel
theorem dX5_given_34 : decode cX5_given 34 = .ok (.bipush 40, 2) := by decide +kernel
theorem dX5_given_36 : decode cX5_given 36 = .ok (.irem, 1) := by decide +kernel
theorem dX5_given_37 : decode cX5_given 37 = .ok (.goto 5, 3) := by decide +kernel
theorem dX5_given_40 : decode cX5_given 40 = .ok (.iload 4, 2) := by decide +kernel
theorem dX5_given_42 : decode cX5_given 42 = .ok (.istore 5, 2) := by decide +kernel
theorem dX5_given_44 : decode cX5_given 44 = .ok (.aload_n 0, 1) := by decide +kernel
theorem dX5_given_45 : decode cX5_given 45 = .ok (.getfield 7, 3) := by decide +kernel
theorem dX5_given_48 : decode cX5_given 48 = .ok (.bipush 23, 2) := by decide +kernel
theorem dX5_given_50 : decode cX5_given 50 = .ok (.iload 5, 2) := by decide +kernel
theorem dX5_given_52 : decode cX5_given 52 = .ok (.iadd, 1) := by decide +kernel
theorem dX5_given_53 : decode cX5_given 53 = .ok (.iaload, 1) := by decide +kernel
theorem dX5_given_54 : decode cX5_given 54 = .ok (.ifCond .ne 26, 3) := by decide +kernel
theorem dX5_given_57 : decode cX5_given 57 = .ok (.iload 5, 2) := by decide +kernel
theorem dX5_given_59 : decode cX5_given 59 = .ok (.iload_n 2, 1) := by decide +kernel
theorem dX5_given_60 : decode cX5_given 60 = .ok (.if_icmp .eq 20, 3) := by decide +kernel
theorem dX5_given_63 : decode cX5_given 63 = .ok (.iload_n 1, 1) := by decide +kernel
theorem dX5_given_64 : decode cX5_given 64 = .ok (.ifCond .ne 12, 3) := by decide +kernel
theorem dX5_given_67 : decode cX5_given 67 = .ok (.aload_n 0, 1) := by decide +kernel
theorem dX5_given_68 : decode cX5_given 68 = .ok (.iload 5, 2) := by decide +kernel
theorem dX5_given_70 : decode cX5_given 70 = .ok (.invokevirtual 70, 3) := by decide +kernel
theorem dX5_given_73 : decode cX5_given 73 = .ok (.ifCond .ne 7, 3) := by decide +kernel
theorem dX5_given_76 : decode cX5_given 76 = .ok (.iconst 1, 1) := by decide +kernel
theorem dX5_given_77 : decode cX5_given 77 = .ok (.goto 4, 3) := by decide +kernel
theorem dX5_given_80 : decode cX5_given 80 = .ok (.iconst 0, 1) := by decide +kernel
theorem dX5_given_81 : decode cX5_given 81 = .ok (.istore 6, 2) := by decide +kernel
theorem dX5_given_83 : decode cX5_given 83 = .ok (.iload_n 3, 1) := by decide +kernel
theorem dX5_given_84 : decode cX5_given 84 = .ok (.bipush (-5), 2) := by decide +kernel
theorem dX5_given_86 : decode cX5_given 86 = .ok (.if_icmp .eq 35, 3) := by decide +kernel
theorem dX5_given_89 : decode cX5_given 89 = .ok (.aload_n 0, 1) := by decide +kernel
theorem dX5_given_90 : decode cX5_given 90 = .ok (.getfield 7, 3) := by decide +kernel
theorem dX5_given_93 : decode cX5_given 93 = .ok (.iconst 2, 1) := by decide +kernel
theorem dX5_given_94 : decode cX5_given 94 = .ok (.iaload, 1) := by decide +kernel
theorem dX5_given_95 : decode cX5_given 95 = .ok (.iconst 1, 1) := by decide +kernel
theorem dX5_given_96 : decode cX5_given 96 = .ok (.if_icmp .ne 25, 3) := by decide +kernel
theorem dX5_given_99 : decode cX5_given 99 = .ok (.aload_n 0, 1) := by decide +kernel
theorem dX5_given_100 : decode cX5_given 100 = .ok (.getfield 7, 3) := by decide +kernel
theorem dX5_given_103 : decode cX5_given 103 = .ok (.bipush 63, 2) := by decide +kernel
theorem dX5_given_105 : decode cX5_given 105 = .ok (.iload 5, 2) := by decide +kernel
theorem dX5_given_107 : decode cX5_given 107 = .ok (.iadd, 1) := by decide +kernel
theorem dX5_given_108 : decode cX5_given 108 = .ok (.iaload, 1) := by decide +kernel
theorem dX5_given_109 : decode cX5_given 109 = .ok (.aload_n 0, 1) := by decide +kernel
theorem dX5_given_110 : decode cX5_given 110 = .ok (.getfield 7, 3) := by decide +kernel
theorem dX5_given_113 : decode cX5_given 113 = .ok (.bipush 63, 2) := by decide +kernel
theorem dX5_given_115 : decode cX5_given 115 = .ok (.iload_n 3, 1) := by decide +kernel
theorem dX5_given_116 : decode cX5_given 116 = .ok (.iadd, 1) := by decide +kernel
theorem dX5_given_117 : decode cX5_given 117 = .ok (.iaload, 1) := by decide +kernel
theorem dX5_given_118 : decode cX5_given 118 = .ok (.if_icmp .gt 7, 3) := by decide +kernel
theorem dX5_given_121 : decode cX5_given 121 = .ok (.iconst 1, 1) := by decide +kernel
theorem dX5_given_122 : decode cX5_given 122 = .ok (.goto 4, 3) := by decide +kernel
theorem dX5_given_125 : decode cX5_given 125 = .ok (.iconst 0, 1) := by decide +kernel
theorem dX5_given_126 : decode cX5_given 126 = .ok (.istore 7, 2) := by decide +kernel
theorem dX5_given_128 : decode cX5_given 128 = .ok (.iload 6, 2) := by decide +kernel
theorem dX5_given_130 : decode cX5_given 130 = .ok (.ifCond .eq 13, 3) := by decide +kernel
theorem dX5_given_133 : decode cX5_given 133 = .ok (.iload 7, 2) := by decide +kernel
theorem dX5_given_135 : decode cX5_given 135 = .ok (.ifCond .eq 8, 3) := by decide +kernel
theorem dX5_given_138 : decode cX5_given 138 = .ok (.iload 5, 2) := by decide +kernel
theorem dX5_given_140 : decode cX5_given 140 = .ok (.goto 4, 3) := by decide +kernel
theorem dX5_given_143 : decode cX5_given 143 = .ok (.iload_n 3, 1) := by decide +kernel
theorem dX5_given_144 : decode cX5_given 144 = .ok (.istore_n 3, 1) := by decide +kernel
theorem dX5_given_145 : decode cX5_given 145 = .ok (.iinc 4 (-1), 3) := by decide +kernel
theorem dX5_given_148 : decode cX5_given 148 = .ok (.goto (-141), 3) := by decide +kernel
theorem dX5_given_151 : decode cX5_given 151 = .ok (.iload_n 3, 1) := by decide +kernel
theorem dX5_given_152 : decode cX5_given 152 = .ok (.ireturn, 1) := by decide +kernel
def wp_X5_given (σ : Mem) (y1 : Int32) (y2 : Int32) (P : Int32 → Prop) : Prop :=
  lq2 (fun rec3 (x1 : Int32) (x2 : Int32) =>
    ((x2 < 0 →
      P x1) ∧
      (¬ x2 < 0 →
      jn (A := Int32 → Prop) (fun (v4 : Int32) =>
        vp_in (23 + v4) 313 ∧ jn (A := Int32 → Prop) (fun (v6 : Int32) =>
          jn (A := Int32 → Prop) (fun (v8 : Int32) =>
            ((v6 = 0 →
              rec3 x1 (x2 + (-1))) ∧
              (¬ v6 = 0 →
              ((v8 = 0 →
                rec3 x1 (x2 + (-1))) ∧
                (¬ v8 = 0 →
                rec3 v4 (x2 + (-1)))))))
            (fun J9 =>
            ((x1 = (-5) →
            J9 1) ∧
            (¬ x1 = (-5) →
            (((σ 94 2) = 1 →
              vp_in (63 + v4) 313 ∧ vp_in (63 + x1) 313 ∧ (((σ 94 (63 + x1).toNatClampNeg) < (σ 94 (63 + v4).toNatClampNeg) →
                J9 0) ∧
                (¬ (σ 94 (63 + x1).toNatClampNeg) < (σ 94 (63 + v4).toNatClampNeg) →
                J9 1))) ∧
              (¬ (σ 94 2) = 1 →
              J9 1))))))
          (fun J7 =>
          (((σ 94 (23 + v4).toNatClampNeg) = 0 →
          ((v4 = y2 →
            J7 0) ∧
            (¬ v4 = y2 →
            ((y1 = 0 →
              wp_X5_isBad σ v4 (fun r10 =>
                ((r10 = 0 →
                J7 1) ∧
                (¬ r10 = 0 →
                J7 0)))) ∧
              (¬ y1 = 0 →
              J7 1))))) ∧
          (¬ (σ 94 (23 + v4).toNatClampNeg) = 0 →
          J7 0))))
        (fun J5 =>
        (((σ 94 2) = 2 →
        J5 (((((σ 94 9) + 1) + x2) - (((σ 94 9) + 1) + x2) / 40 * 40))) ∧
        (¬ (σ 94 2) = 2 →
        J5 x2)))))) (-5) 39
set_option maxRecDepth 100000 in
set_option maxHeartbeats 4000000 in
theorem c_X5_given (V : EV) (σ : Mem) (y1 : Int32) (y2 : Int32) (P : Int32 → Prop) (l : Launch) : Met l yX5_given (.code yX5_given cX5_given 8 (some .int) :: AW) { frames := 1, cells := 0, slots := 0, locals := 21 } (va_Pc [.ref (ad V 93), .int y1, .int y2] (fun U => wP V σ U ∧ wp_X5_given σ y1 y2 P)) (va_Qi (fun r τ => τ = σ ∧ P r) (wB V) (AA V)) 0 0 (AA V) := by
  refine met_i V σ (own := RX5) (by decide +kernel) rfl (fun v hv => by simp at hv; rcases hv with rfl | rfl | rfl <;> rfl) (Nat.le_of_ble_eq_true rfl) (fun X C D h => ?_) l
  show GG V X σ 0 [some (.ref (ad V 93)), some (.int y1), some (.int y2), none, none, none, none, none] []
  refine g_bipush C dX5_given_0 bp_m5 rfl ?_
  refine g_istore_n C dX5_given_2 rfl (Nat.le_of_ble_eq_true rfl) (L' := [some (.ref (ad V 93)), some (.int y1), some (.int y2), some (.int (-5)), none, none, none, none]) rfl rfl ?_
  refine g_bipush C dX5_given_3 bp_39 rfl ?_
  refine g_istore C dX5_given_5 (Nat.le_of_ble_eq_true rfl) (L' := [some (.ref (ad V 93)), some (.int y1), some (.int y2), some (.int (-5)), some (.int 39), none, none, none]) rfl rfl ?_
  refine h (fun (x1 : Int32) (x2 : Int32) => GG V X σ 7 [some (.ref (ad V 93)), some (.int y1), some (.int y2), some (.int x1), some (.int x2), none, none, none] []) (fun x1 x2 h => ?_)
  refine g_iload C dX5_given_7 rfl rfl ?_
  refine g_if_lt C dX5_given_9 (tgt := 151) rfl rfl (fun q => ?_) (fun q => ?_)
  · have h := h.1 q
    refine g_iload_n C dX5_given_151 rfl rfl rfl ?_
    exact g_iret C dX5_given_152 D ⟨rfl, h⟩
  · have h := h.2 q
    refine g_aload_n C dX5_given_12 rfl rfl rfl ?_
    refine f_X5_7 C dX5_given_13 rfl ?_
    refine g_iconst C dX5_given_16 ic_2 rfl ?_
    refine g_ildk C dX5_given_17 arr_94 vi_2_313 tl_2 rfl ?_
    refine g_iconst C dX5_given_18 ic_2 rfl ?_
    refine jn_go h (fun (J5 : Int32 → Prop) => ∀ (v4 : Int32), J5 v4 → GG V X σ 42 [some (.ref (ad V 93)), some (.int y1), some (.int y2), some (.int x1), some (.int x2), none, none, none] [.int v4]) (fun v4 h => ?_) (fun J5 hJ5 h => ?_)
    · refine g_istore C dX5_given_42 (Nat.le_of_ble_eq_true rfl) (L' := [some (.ref (ad V 93)), some (.int y1), some (.int y2), some (.int x1), some (.int x2), some (.int v4), none, none]) rfl rfl ?_
      refine g_aload_n C dX5_given_44 rfl rfl rfl ?_
      refine f_X5_7 C dX5_given_45 rfl ?_
      refine g_bipush C dX5_given_48 bp_23 rfl ?_
      refine g_iload C dX5_given_50 rfl rfl ?_
      refine g_iadd C dX5_given_52 rfl ?_
      obtain ⟨hin, h⟩ := h
      refine g_ild C dX5_given_53 arr_94 hin rfl ?_
      refine jn_go h (fun (J7 : Int32 → Prop) => ∀ (v6 : Int32), J7 v6 → GG V X σ 81 [some (.ref (ad V 93)), some (.int y1), some (.int y2), some (.int x1), some (.int x2), some (.int v4), none, none] [.int v6]) (fun v6 h => ?_) (fun J7 hJ7 h => ?_)
      · refine g_istore C dX5_given_81 (Nat.le_of_ble_eq_true rfl) (L' := [some (.ref (ad V 93)), some (.int y1), some (.int y2), some (.int x1), some (.int x2), some (.int v4), some (.int v6), none]) rfl rfl ?_
        refine g_iload_n C dX5_given_83 rfl rfl rfl ?_
        refine g_bipush C dX5_given_84 bp_m5 rfl ?_
        refine jn_go h (fun (J9 : Int32 → Prop) => ∀ (v8 : Int32), J9 v8 → GG V X σ 126 [some (.ref (ad V 93)), some (.int y1), some (.int y2), some (.int x1), some (.int x2), some (.int v4), some (.int v6), none] [.int v8]) (fun v8 h => ?_) (fun J9 hJ9 h => ?_)
        · refine g_istore C dX5_given_126 (Nat.le_of_ble_eq_true rfl) (L' := [some (.ref (ad V 93)), some (.int y1), some (.int y2), some (.int x1), some (.int x2), some (.int v4), some (.int v6), some (.int v8)]) rfl rfl ?_
          refine g_iload C dX5_given_128 rfl rfl ?_
          refine g_if_eq C dX5_given_130 (tgt := 143) rfl rfl (fun q => ?_) (fun q => ?_)
          · have h := h.1 q
            refine g_iload_n C dX5_given_143 rfl rfl rfl ?_
            refine g_istore_n C dX5_given_144 rfl (Nat.le_of_ble_eq_true rfl) (L' := [some (.ref (ad V 93)), some (.int y1), some (.int y2), some (.int x1), some (.int x2), some (.int v4), some (.int v6), some (.int v8)]) rfl rfl ?_
            refine g_iinc C dX5_given_145 (v := x2 + (-1)) (by rw [ic_m1]) rfl (Nat.le_of_ble_eq_true rfl) (L' := [some (.ref (ad V 93)), some (.int y1), some (.int y2), some (.int x1), some (.int (x2 + (-1))), some (.int v4), some (.int v6), some (.int v8)]) rfl rfl ?_
            refine g_goto C dX5_given_148 (pc' := 7) rfl ?_
            refine g_drop 5 (L' := [some (.ref (ad V 93)), some (.int y1), some (.int y2), some (.int x1), some (.int (x2 + (-1))), none, some (.int v6), some (.int v8)]) rfl ?_
            refine g_drop 6 (L' := [some (.ref (ad V 93)), some (.int y1), some (.int y2), some (.int x1), some (.int (x2 + (-1))), none, none, some (.int v8)]) rfl ?_
            refine g_drop 7 (L' := [some (.ref (ad V 93)), some (.int y1), some (.int y2), some (.int x1), some (.int (x2 + (-1))), none, none, none]) rfl ?_
            exact h
          · have h := h.2 q
            refine g_iload C dX5_given_133 rfl rfl ?_
            refine g_if_eq C dX5_given_135 (tgt := 143) rfl rfl (fun q => ?_) (fun q => ?_)
            · have h := h.1 q
              refine g_iload_n C dX5_given_143 rfl rfl rfl ?_
              refine g_istore_n C dX5_given_144 rfl (Nat.le_of_ble_eq_true rfl) (L' := [some (.ref (ad V 93)), some (.int y1), some (.int y2), some (.int x1), some (.int x2), some (.int v4), some (.int v6), some (.int v8)]) rfl rfl ?_
              refine g_iinc C dX5_given_145 (v := x2 + (-1)) (by rw [ic_m1]) rfl (Nat.le_of_ble_eq_true rfl) (L' := [some (.ref (ad V 93)), some (.int y1), some (.int y2), some (.int x1), some (.int (x2 + (-1))), some (.int v4), some (.int v6), some (.int v8)]) rfl rfl ?_
              refine g_goto C dX5_given_148 (pc' := 7) rfl ?_
              refine g_drop 5 (L' := [some (.ref (ad V 93)), some (.int y1), some (.int y2), some (.int x1), some (.int (x2 + (-1))), none, some (.int v6), some (.int v8)]) rfl ?_
              refine g_drop 6 (L' := [some (.ref (ad V 93)), some (.int y1), some (.int y2), some (.int x1), some (.int (x2 + (-1))), none, none, some (.int v8)]) rfl ?_
              refine g_drop 7 (L' := [some (.ref (ad V 93)), some (.int y1), some (.int y2), some (.int x1), some (.int (x2 + (-1))), none, none, none]) rfl ?_
              exact h
            · have h := h.2 q
              refine g_iload C dX5_given_138 rfl rfl ?_
              refine g_goto C dX5_given_140 (pc' := 144) rfl ?_
              refine g_istore_n C dX5_given_144 rfl (Nat.le_of_ble_eq_true rfl) (L' := [some (.ref (ad V 93)), some (.int y1), some (.int y2), some (.int v4), some (.int x2), some (.int v4), some (.int v6), some (.int v8)]) rfl rfl ?_
              refine g_iinc C dX5_given_145 (v := x2 + (-1)) (by rw [ic_m1]) rfl (Nat.le_of_ble_eq_true rfl) (L' := [some (.ref (ad V 93)), some (.int y1), some (.int y2), some (.int v4), some (.int (x2 + (-1))), some (.int v4), some (.int v6), some (.int v8)]) rfl rfl ?_
              refine g_goto C dX5_given_148 (pc' := 7) rfl ?_
              refine g_drop 5 (L' := [some (.ref (ad V 93)), some (.int y1), some (.int y2), some (.int v4), some (.int (x2 + (-1))), none, some (.int v6), some (.int v8)]) rfl ?_
              refine g_drop 6 (L' := [some (.ref (ad V 93)), some (.int y1), some (.int y2), some (.int v4), some (.int (x2 + (-1))), none, none, some (.int v8)]) rfl ?_
              refine g_drop 7 (L' := [some (.ref (ad V 93)), some (.int y1), some (.int y2), some (.int v4), some (.int (x2 + (-1))), none, none, none]) rfl ?_
              exact h
        refine g_icmp_eq C dX5_given_86 (tgt := 121) rfl rfl (fun q => ?_) (fun q => ?_)
        · have h := h.1 q
          refine g_iconst C dX5_given_121 ic_1 rfl ?_
          refine g_goto C dX5_given_122 (pc' := 126) rfl ?_
          exact hJ9 1 h
        · have h := h.2 q
          refine g_aload_n C dX5_given_89 rfl rfl rfl ?_
          refine f_X5_7 C dX5_given_90 rfl ?_
          refine g_iconst C dX5_given_93 ic_2 rfl ?_
          refine g_ildk C dX5_given_94 arr_94 vi_2_313 tl_2 rfl ?_
          refine g_iconst C dX5_given_95 ic_1 rfl ?_
          refine g_icmp_ne C dX5_given_96 (tgt := 121) rfl rfl (fun q => ?_) (fun q => ?_)
          · have h := h.2 q
            refine g_iconst C dX5_given_121 ic_1 rfl ?_
            refine g_goto C dX5_given_122 (pc' := 126) rfl ?_
            exact hJ9 1 h
          · have h := h.1 q
            refine g_aload_n C dX5_given_99 rfl rfl rfl ?_
            refine f_X5_7 C dX5_given_100 rfl ?_
            refine g_bipush C dX5_given_103 bp_63 rfl ?_
            refine g_iload C dX5_given_105 rfl rfl ?_
            refine g_iadd C dX5_given_107 rfl ?_
            obtain ⟨hin, h⟩ := h
            refine g_ild C dX5_given_108 arr_94 hin rfl ?_
            refine g_aload_n C dX5_given_109 rfl rfl rfl ?_
            refine f_X5_7 C dX5_given_110 rfl ?_
            refine g_bipush C dX5_given_113 bp_63 rfl ?_
            refine g_iload_n C dX5_given_115 rfl rfl rfl ?_
            refine g_iadd C dX5_given_116 rfl ?_
            obtain ⟨hin, h⟩ := h
            refine g_ild C dX5_given_117 arr_94 hin rfl ?_
            refine g_icmp_gt C dX5_given_118 (tgt := 125) rfl rfl (fun q => ?_) (fun q => ?_)
            · have h := h.1 q
              refine g_iconst C dX5_given_125 ic_0 rfl ?_
              exact hJ9 0 h
            · have h := h.2 q
              refine g_iconst C dX5_given_121 ic_1 rfl ?_
              refine g_goto C dX5_given_122 (pc' := 126) rfl ?_
              exact hJ9 1 h
      refine g_if_ne C dX5_given_54 (tgt := 80) rfl rfl (fun q => ?_) (fun q => ?_)
      · have h := h.2 q
        refine g_iconst C dX5_given_80 ic_0 rfl ?_
        exact hJ7 0 h
      · have h := h.1 q
        refine g_iload C dX5_given_57 rfl rfl ?_
        refine g_iload_n C dX5_given_59 rfl rfl rfl ?_
        refine g_icmp_eq C dX5_given_60 (tgt := 80) rfl rfl (fun q => ?_) (fun q => ?_)
        · have h := h.1 q
          refine g_iconst C dX5_given_80 ic_0 rfl ?_
          exact hJ7 0 h
        · have h := h.2 q
          refine g_iload_n C dX5_given_63 rfl rfl rfl ?_
          refine g_if_ne C dX5_given_64 (tgt := 76) rfl rfl (fun q => ?_) (fun q => ?_)
          · have h := h.2 q
            refine g_iconst C dX5_given_76 ic_1 rfl ?_
            refine g_goto C dX5_given_77 (pc' := 81) rfl ?_
            exact hJ7 1 h
          · have h := h.1 q
            refine g_aload_n C dX5_given_67 rfl rfl rfl ?_
            refine g_iload C dX5_given_68 rfl rfl ?_
            refine k_X5_70 C dX5_given_70 (Nat.le_of_ble_eq_true rfl) (by decide) rfl rfl h (fun r10 h => ?_)
            refine g_if_ne C dX5_given_73 (tgt := 80) rfl rfl (fun q => ?_) (fun q => ?_)
            · have h := h.2 q
              refine g_iconst C dX5_given_80 ic_0 rfl ?_
              exact hJ7 0 h
            · have h := h.1 q
              refine g_iconst C dX5_given_76 ic_1 rfl ?_
              refine g_goto C dX5_given_77 (pc' := 81) rfl ?_
              exact hJ7 1 h
    refine g_icmp_ne C dX5_given_19 (tgt := 40) rfl rfl (fun q => ?_) (fun q => ?_)
    · have h := h.2 q
      refine g_iload C dX5_given_40 rfl rfl ?_
      exact hJ5 x2 h
    · have h := h.1 q
      refine g_aload_n C dX5_given_22 rfl rfl rfl ?_
      refine f_X5_7 C dX5_given_23 rfl ?_
      refine g_bipush C dX5_given_26 bp_9 rfl ?_
      refine g_ildk C dX5_given_28 arr_94 vi_9_313 tl_9 rfl ?_
      refine g_iconst C dX5_given_29 ic_1 rfl ?_
      refine g_iadd C dX5_given_30 rfl ?_
      refine g_iload C dX5_given_31 rfl rfl ?_
      refine g_iadd C dX5_given_33 rfl ?_
      refine g_bipush C dX5_given_34 bp_40 rfl ?_
      refine g_irem C dX5_given_36 (by decide) rfl ?_
      refine g_goto C dX5_given_37 (pc' := 42) rfl ?_
      exact hJ5 (((((σ 94 9) + 1) + x2) - (((σ 94 9) + 1) + x2) / 40 * 40)) h
theorem hd_X5_given : yX5_given.cls ≠ "java/lang/invoke/MethodHandle" ∧ yX5_given.cls ≠ "java/lang/invoke/VarHandle" ∧ (parseMethodDescriptor yX5_given.desc).map (fun d => d.parameters.length) = some 2 := by decide +kernel
theorem k_X5_77 {V : EV} {X : CX} {cc : ByteArray} {nL : Nat} {R : Room} {y1 : Int32} {y2 : Int32} (C : OK V X RX5 cc nL R) {σ : Mem} {pc pc' : Nat} {L : List (Option Value)} {st : List Value} {P : Int32 → Prop} (d : decode cc pc = .ok (.invokevirtual 77, 3)) (hst : (st.map fun v => v.category).sum ≤ 8) (hr : 1 + 1 ≤ R.frames ∧ 8 + (8 + 11) + 21 ≤ R.locals) (hL : L.length = nL) (hp : pc + 3 = pc') (h : wp_X5_given σ y1 y2 P) (k : ∀ r, P r → GG V X σ pc' L (.int r :: st)) : GG V X σ pc L (.int y2 :: .int y1 :: .ref (ad V 93) :: st) :=
  g_callVi C (av := [.int y1, .int y2]) (fun l => c_X5_given V σ y1 y2 P l) (by decide) (en_93 V σ) (q := (RX5, TX5, 13)) rfl rfl ml_RX5_77 im_X5_given se_X5_given ini_RX5 co_X5_given hd_X5_given rfl ⟨rfl, rfl⟩ hr hst d hL hp h (fun r τ hq => by obtain ⟨rfl, hq⟩ := hq; exact k r hq)

theorem dX5_retire_0 : decode cX5_retire 0 = .ok (.aload_n 0, 1) := by decide +kernel
theorem dX5_retire_1 : decode cX5_retire 1 = .ok (.getfield 7, 3) := by decide +kernel
theorem dX5_retire_4 : decode cX5_retire 4 = .ok (.bipush 23, 2) := by decide +kernel
theorem dX5_retire_6 : decode cX5_retire 6 = .ok (.iload_n 1, 1) := by decide +kernel
theorem dX5_retire_7 : decode cX5_retire 7 = .ok (.iadd, 1) := by decide +kernel
theorem dX5_retire_8 : decode cX5_retire 8 = .ok (.iconst 2, 1) := by decide +kernel
theorem dX5_retire_9 : decode cX5_retire 9 = .ok (.iastore, 1) := by decide +kernel
theorem dX5_retire_10 : decode cX5_retire 10 = .ok (.aload_n 0, 1) := by decide +kernel
theorem dX5_retire_11 : decode cX5_retire 11 = .ok (.getfield 7, 3) := by decide +kernel
theorem dX5_retire_14 : decode cX5_retire 14 = .ok (.bipush 10, 2) := by decide +kernel
theorem dX5_retire_16 : decode cX5_retire 16 = .ok (.iaload, 1) := by decide +kernel
theorem dX5_retire_17 : decode cX5_retire 17 = .ok (.bipush 12, 2) := by decide +kernel
theorem dX5_retire_19 : decode cX5_retire 19 = .ok (.if_icmp .ge 30, 3) := by decide +kernel
theorem dX5_retire_22 : decode cX5_retire 22 = .ok (.aload_n 0, 1) := by decide +kernel
theorem dX5_retire_23 : decode cX5_retire 23 = .ok (.getfield 7, 3) := by decide +kernel
theorem dX5_retire_26 : decode cX5_retire 26 = .ok (.bipush 11, 2) := by decide +kernel
theorem dX5_retire_28 : decode cX5_retire 28 = .ok (.aload_n 0, 1) := by decide +kernel
theorem dX5_retire_29 : decode cX5_retire 29 = .ok (.getfield 7, 3) := by decide +kernel
theorem dX5_retire_32 : decode cX5_retire 32 = .ok (.bipush 10, 2) := by decide +kernel
theorem dX5_retire_34 : decode cX5_retire 34 = .ok (.iaload, 1) := by decide +kernel
theorem dX5_retire_35 : decode cX5_retire 35 = .ok (.iadd, 1) := by decide +kernel
theorem dX5_retire_36 : decode cX5_retire 36 = .ok (.iload_n 1, 1) := by decide +kernel
theorem dX5_retire_37 : decode cX5_retire 37 = .ok (.iastore, 1) := by decide +kernel
theorem dX5_retire_38 : decode cX5_retire 38 = .ok (.aload_n 0, 1) := by decide +kernel
theorem dX5_retire_39 : decode cX5_retire 39 = .ok (.getfield 7, 3) := by decide +kernel
theorem dX5_retire_42 : decode cX5_retire 42 = .ok (.bipush 10, 2) := by decide +kernel
theorem dX5_retire_44 : decode cX5_retire 44 = .ok (.dup2, 1) := by decide +kernel
theorem dX5_retire_45 : decode cX5_retire 45 = .ok (.iaload, 1) := by decide +kernel
theorem dX5_retire_46 : decode cX5_retire 46 = .ok (.iconst 1, 1) := by decide +kernel
theorem dX5_retire_47 : decode cX5_retire 47 = .ok (.iadd, 1) := by decide +kernel
theorem dX5_retire_48 : decode cX5_retire 48 = .ok (.iastore, 1) := by decide +kernel
theorem dX5_retire_49 : decode cX5_retire 49 = .ok (.return_, 1) := by decide +kernel
def wp_X5_retire (σ : Mem) (y1 : Int32) (P : Mem → Prop) : Prop :=
  vp_in (23 + y1) 313 ∧ bm (up2 σ 94 (23 + y1).toNatClampNeg 2) (fun σ1 =>
    ((12 ≤ (σ1 94 10) →
    P σ1) ∧
    (¬ 12 ≤ (σ1 94 10) →
    vp_in (11 + (σ1 94 10)) 313 ∧ bm (up2 σ1 94 (11 + (σ1 94 10)).toNatClampNeg y1) (fun σ2 =>
      bm (up2 σ2 94 10 ((σ2 94 10) + 1)) (fun σ3 =>
      P σ3)))))
set_option maxRecDepth 100000 in
set_option maxHeartbeats 4000000 in
theorem c_X5_retire (V : EV) (σ : Mem) (y1 : Int32) (P : Mem → Prop) (l : Launch) : Met l yX5_retire (.code yX5_retire cX5_retire 2 (none) :: AW) { frames := 0, cells := 0, slots := 0, locals := 0 } (va_Pc [.ref (ad V 93), .int y1] (fun U => wP V σ U ∧ wp_X5_retire σ y1 P)) (va_Qv P (wB V) (AA V)) 0 0 (AA V) := by
  refine met_v V σ (own := RX5) (by decide +kernel) rfl (fun v hv => by simp at hv; rcases hv with rfl | rfl <;> rfl) (Nat.le_of_ble_eq_true rfl) (fun X C D h => ?_) l
  show GG V X σ 0 [some (.ref (ad V 93)), some (.int y1)] []
  refine g_aload_n C dX5_retire_0 rfl rfl rfl ?_
  refine f_X5_7 C dX5_retire_1 rfl ?_
  refine g_bipush C dX5_retire_4 bp_23 rfl ?_
  refine g_iload_n C dX5_retire_6 rfl rfl rfl ?_
  refine g_iadd C dX5_retire_7 rfl ?_
  refine g_iconst C dX5_retire_8 ic_2 rfl ?_
  obtain ⟨hin, h⟩ := h
  refine g_ist C dX5_retire_9 arr_94 hin rfl h (fun σ1 h => ?_)
  refine g_aload_n C dX5_retire_10 rfl rfl rfl ?_
  refine f_X5_7 C dX5_retire_11 rfl ?_
  refine g_bipush C dX5_retire_14 bp_10 rfl ?_
  refine g_ildk C dX5_retire_16 arr_94 vi_10_313 tl_10 rfl ?_
  refine g_bipush C dX5_retire_17 bp_12 rfl ?_
  refine g_icmp_ge C dX5_retire_19 (tgt := 49) rfl rfl (fun q => ?_) (fun q => ?_)
  · have h := h.1 q
    exact g_vret C dX5_retire_49 D h
  · have h := h.2 q
    refine g_aload_n C dX5_retire_22 rfl rfl rfl ?_
    refine f_X5_7 C dX5_retire_23 rfl ?_
    refine g_bipush C dX5_retire_26 bp_11 rfl ?_
    refine g_aload_n C dX5_retire_28 rfl rfl rfl ?_
    refine f_X5_7 C dX5_retire_29 rfl ?_
    refine g_bipush C dX5_retire_32 bp_10 rfl ?_
    refine g_ildk C dX5_retire_34 arr_94 vi_10_313 tl_10 rfl ?_
    refine g_iadd C dX5_retire_35 rfl ?_
    refine g_iload_n C dX5_retire_36 rfl rfl rfl ?_
    obtain ⟨hin, h⟩ := h
    refine g_ist C dX5_retire_37 arr_94 hin rfl h (fun σ2 h => ?_)
    refine g_aload_n C dX5_retire_38 rfl rfl rfl ?_
    refine f_X5_7 C dX5_retire_39 rfl ?_
    refine g_bipush C dX5_retire_42 bp_10 rfl ?_
    refine g_dup2 C dX5_retire_44 rfl rfl rfl ?_
    refine g_ildk C dX5_retire_45 arr_94 vi_10_313 tl_10 rfl ?_
    refine g_iconst C dX5_retire_46 ic_1 rfl ?_
    refine g_iadd C dX5_retire_47 rfl ?_
    refine g_istk C dX5_retire_48 arr_94 vi_10_313 tl_10 rfl h (fun σ3 h => ?_)
    exact g_vret C dX5_retire_49 D h
theorem hd_X5_retire : yX5_retire.cls ≠ "java/lang/invoke/MethodHandle" ∧ yX5_retire.cls ≠ "java/lang/invoke/VarHandle" ∧ (parseMethodDescriptor yX5_retire.desc).map (fun d => d.parameters.length) = some 1 := by decide +kernel
theorem k_X5_81 {V : EV} {X : CX} {cc : ByteArray} {nL : Nat} {R : Room} {y1 : Int32} (C : OK V X RX5 cc nL R) {σ : Mem} {pc pc' : Nat} {L : List (Option Value)} {st : List Value} {P : Mem → Prop} (d : decode cc pc = .ok (.invokevirtual 81, 3)) (hst : (st.map fun v => v.category).sum ≤ 8) (hr : 0 + 1 ≤ R.frames ∧ 8 + (2 + 11) + 0 ≤ R.locals) (hL : L.length = nL) (hp : pc + 3 = pc') (h : wp_X5_retire σ y1 P) (k : ∀ τ, P τ → GG V X τ pc' L st) : GG V X σ pc L (.int y1 :: .ref (ad V 93) :: st) :=
  g_callVv C (av := [.int y1]) (fun l => c_X5_retire V σ y1 P l) (by decide) (en_93 V σ) (q := (RX5, TX5, 13)) rfl rfl ml_RX5_81 im_X5_retire se_X5_retire ini_RX5 co_X5_retire hd_X5_retire rfl ⟨rfl, rfl⟩ hr hst d hL hp h k

theorem dX5_give_0 : decode cX5_give 0 = .ok (.aload_n 0, 1) := by decide +kernel
theorem dX5_give_1 : decode cX5_give 1 = .ok (.iload_n 1, 1) := by decide +kernel
theorem dX5_give_2 : decode cX5_give 2 = .ok (.iconst 0, 1) := by decide +kernel
theorem dX5_give_3 : decode cX5_give 3 = .ok (.iload_n 2, 1) := by decide +kernel
theorem dX5_give_4 : decode cX5_give 4 = .ok (.invokevirtual 32, 3) := by decide +kernel
theorem dX5_give_7 : decode cX5_give 7 = .ok (.aload_n 0, 1) := by decide +kernel
theorem dX5_give_8 : decode cX5_give 8 = .ok (.getfield 7, 3) := by decide +kernel
theorem dX5_give_11 : decode cX5_give 11 = .ok (.bipush 23, 2) := by decide +kernel
theorem dX5_give_13 : decode cX5_give 13 = .ok (.iload_n 2, 1) := by decide +kernel
theorem dX5_give_14 : decode cX5_give 14 = .ok (.iadd, 1) := by decide +kernel
theorem dX5_give_15 : decode cX5_give 15 = .ok (.iconst 1, 1) := by decide +kernel
theorem dX5_give_16 : decode cX5_give 16 = .ok (.iastore, 1) := by decide +kernel
theorem dX5_give_17 : decode cX5_give 17 = .ok (.aload_n 0, 1) := by decide +kernel
theorem dX5_give_18 : decode cX5_give 18 = .ok (.getfield 7, 3) := by decide +kernel
theorem dX5_give_21 : decode cX5_give 21 = .ok (.bipush 9, 2) := by decide +kernel
theorem dX5_give_23 : decode cX5_give 23 = .ok (.iload_n 2, 1) := by decide +kernel
theorem dX5_give_24 : decode cX5_give 24 = .ok (.iastore, 1) := by decide +kernel
theorem dX5_give_25 : decode cX5_give 25 = .ok (.return_, 1) := by decide +kernel
def wp_X5_give (σ : Mem) (y1 : Int32) (y2 : Int32) (P : Mem → Prop) : Prop :=
  wp_X5_lay σ y1 0 y2 (fun σ1 =>
    vp_in (23 + y2) 313 ∧ bm (up2 σ1 94 (23 + y2).toNatClampNeg 1) (fun σ2 =>
    bm (up2 σ2 94 9 y2) (fun σ3 =>
    P σ3)))
set_option maxRecDepth 100000 in
set_option maxHeartbeats 4000000 in
theorem c_X5_give (V : EV) (σ : Mem) (y1 : Int32) (y2 : Int32) (P : Mem → Prop) (l : Launch) : Met l yX5_give (.code yX5_give cX5_give 3 (none) :: AW) { frames := 1, cells := 0, slots := 0, locals := 23 } (va_Pc [.ref (ad V 93), .int y1, .int y2] (fun U => wP V σ U ∧ wp_X5_give σ y1 y2 P)) (va_Qv P (wB V) (AA V)) 0 0 (AA V) := by
  refine met_v V σ (own := RX5) (by decide +kernel) rfl (fun v hv => by simp at hv; rcases hv with rfl | rfl | rfl <;> rfl) (Nat.le_of_ble_eq_true rfl) (fun X C D h => ?_) l
  show GG V X σ 0 [some (.ref (ad V 93)), some (.int y1), some (.int y2)] []
  refine g_aload_n C dX5_give_0 rfl rfl rfl ?_
  refine g_iload_n C dX5_give_1 rfl rfl rfl ?_
  refine g_iconst C dX5_give_2 ic_0 rfl ?_
  refine g_iload_n C dX5_give_3 rfl rfl rfl ?_
  refine k_X5_32 C dX5_give_4 (Nat.le_of_ble_eq_true rfl) (by decide) rfl rfl h (fun σ1 h => ?_)
  refine g_aload_n C dX5_give_7 rfl rfl rfl ?_
  refine f_X5_7 C dX5_give_8 rfl ?_
  refine g_bipush C dX5_give_11 bp_23 rfl ?_
  refine g_iload_n C dX5_give_13 rfl rfl rfl ?_
  refine g_iadd C dX5_give_14 rfl ?_
  refine g_iconst C dX5_give_15 ic_1 rfl ?_
  obtain ⟨hin, h⟩ := h
  refine g_ist C dX5_give_16 arr_94 hin rfl h (fun σ2 h => ?_)
  refine g_aload_n C dX5_give_17 rfl rfl rfl ?_
  refine f_X5_7 C dX5_give_18 rfl ?_
  refine g_bipush C dX5_give_21 bp_9 rfl ?_
  refine g_iload_n C dX5_give_23 rfl rfl rfl ?_
  refine g_istk C dX5_give_24 arr_94 vi_9_313 tl_9 rfl h (fun σ3 h => ?_)
  exact g_vret C dX5_give_25 D h
theorem hd_X5_give : yX5_give.cls ≠ "java/lang/invoke/MethodHandle" ∧ yX5_give.cls ≠ "java/lang/invoke/VarHandle" ∧ (parseMethodDescriptor yX5_give.desc).map (fun d => d.parameters.length) = some 2 := by decide +kernel
theorem k_X5_84 {V : EV} {X : CX} {cc : ByteArray} {nL : Nat} {R : Room} {y1 : Int32} {y2 : Int32} (C : OK V X RX5 cc nL R) {σ : Mem} {pc pc' : Nat} {L : List (Option Value)} {st : List Value} {P : Mem → Prop} (d : decode cc pc = .ok (.invokevirtual 84, 3)) (hst : (st.map fun v => v.category).sum ≤ 8) (hr : 1 + 1 ≤ R.frames ∧ 8 + (3 + 11) + 23 ≤ R.locals) (hL : L.length = nL) (hp : pc + 3 = pc') (h : wp_X5_give σ y1 y2 P) (k : ∀ τ, P τ → GG V X τ pc' L st) : GG V X σ pc L (.int y2 :: .int y1 :: .ref (ad V 93) :: st) :=
  g_callVv C (av := [.int y1, .int y2]) (fun l => c_X5_give V σ y1 y2 P l) (by decide) (en_93 V σ) (q := (RX5, TX5, 13)) rfl rfl ml_RX5_84 im_X5_give se_X5_give ini_RX5 co_X5_give hd_X5_give rfl ⟨rfl, rfl⟩ hr hst d hL hp h k

theorem dX5_look_0 : decode cX5_look 0 = .ok (.iconst 0, 1) := by decide +kernel
theorem dX5_look_1 : decode cX5_look 1 = .ok (.istore_n 1, 1) := by decide +kernel
theorem dX5_look_2 : decode cX5_look 2 = .ok (.iload_n 1, 1) := by decide +kernel
theorem dX5_look_3 : decode cX5_look 3 = .ok (.bipush 40, 2) := by decide +kernel
theorem dX5_look_5 : decode cX5_look 5 = .ok (.if_icmp .ge 112, 3) := by decide +kernel
theorem dX5_look_8 : decode cX5_look 8 = .ok (.aload_n 0, 1) := by decide +kernel
theorem dX5_look_9 : decode cX5_look 9 = .ok (.iload_n 1, 1) := by decide +kernel
theorem dX5_look_10 : decode cX5_look 10 = .ok (.invokevirtual 70, 3) := by decide +kernel
theorem dX5_look_13 : decode cX5_look 13 = .ok (.ifCond .eq 98, 3) := by decide +kernel
theorem dX5_look_16 : decode cX5_look 16 = .ok (.aload_n 0, 1) := by decide +kernel
theorem dX5_look_17 : decode cX5_look 17 = .ok (.iload_n 1, 1) := by decide +kernel
theorem dX5_look_18 : decode cX5_look 18 = .ok (.invokevirtual 74, 3) := by decide +kernel
theorem dX5_look_21 : decode cX5_look 21 = .ok (.istore_n 2, 1) := by decide +kernel
theorem dX5_look_22 : decode cX5_look 22 = .ok (.aload_n 0, 1) := by decide +kernel
theorem dX5_look_23 : decode cX5_look 23 = .ok (.iconst 0, 1) := by decide +kernel
theorem dX5_look_24 : decode cX5_look 24 = .ok (.iload_n 1, 1) := by decide +kernel
theorem dX5_look_25 : decode cX5_look 25 = .ok (.invokevirtual 77, 3) := by decide +kernel
theorem dX5_look_28 : decode cX5_look 28 = .ok (.istore_n 3, 1) := by decide +kernel
theorem dX5_look_29 : decode cX5_look 29 = .ok (.iload_n 2, 1) := by decide +kernel
theorem dX5_look_30 : decode cX5_look 30 = .ok (.bipush (-5), 2) := by decide +kernel
theorem dX5_look_32 : decode cX5_look 32 = .ok (.if_icmp .ne 11, 3) := by decide +kernel
theorem dX5_look_35 : decode cX5_look 35 = .ok (.aload_n 0, 1) := by decide +kernel
theorem dX5_look_36 : decode cX5_look 36 = .ok (.iload_n 1, 1) := by decide +kernel
theorem dX5_look_37 : decode cX5_look 37 = .ok (.invokevirtual 81, 3) := by decide +kernel
theorem dX5_look_40 : decode cX5_look 40 = .ok (.goto 71, 3) := by decide +kernel
theorem dX5_look_43 : decode cX5_look 43 = .ok (.aload_n 0, 1) := by decide +kernel
theorem dX5_look_44 : decode cX5_look 44 = .ok (.iload_n 2, 1) := by decide +kernel
theorem dX5_look_45 : decode cX5_look 45 = .ok (.iconst 2, 1) := by decide +kernel
theorem dX5_look_46 : decode cX5_look 46 = .ok (.invokevirtual 40, 3) := by decide +kernel
theorem dX5_look_49 : decode cX5_look 49 = .ok (.ifCond .ne 62, 3) := by decide +kernel
theorem dX5_look_52 : decode cX5_look 52 = .ok (.iload_n 3, 1) := by decide +kernel
theorem dX5_look_53 : decode cX5_look 53 = .ok (.bipush (-5), 2) := by decide +kernel
theorem dX5_look_55 : decode cX5_look 55 = .ok (.if_icmp .eq 56, 3) := by decide +kernel
theorem dX5_look_58 : decode cX5_look 58 = .ok (.aload_n 0, 1) := by decide +kernel
theorem dX5_look_59 : decode cX5_look 59 = .ok (.iload_n 2, 1) := by decide +kernel
theorem dX5_look_60 : decode cX5_look 60 = .ok (.iload_n 3, 1) := by decide +kernel
theorem dX5_look_61 : decode cX5_look 61 = .ok (.invokevirtual 84, 3) := by decide +kernel
theorem dX5_look_64 : decode cX5_look 64 = .ok (.aload_n 0, 1) := by decide +kernel
theorem dX5_look_65 : decode cX5_look 65 = .ok (.iload_n 2, 1) := by decide +kernel
theorem dX5_look_66 : decode cX5_look 66 = .ok (.iconst 3, 1) := by decide +kernel
theorem dX5_look_67 : decode cX5_look 67 = .ok (.aload_n 0, 1) := by decide +kernel
theorem dX5_look_68 : decode cX5_look 68 = .ok (.iload_n 2, 1) := by decide +kernel
theorem dX5_look_69 : decode cX5_look 69 = .ok (.iconst 3, 1) := by decide +kernel
theorem dX5_look_70 : decode cX5_look 70 = .ok (.invokevirtual 40, 3) := by decide +kernel
theorem dX5_look_73 : decode cX5_look 73 = .ok (.iconst 1, 1) := by decide +kernel
theorem dX5_look_74 : decode cX5_look 74 = .ok (.iadd, 1) := by decide +kernel
theorem dX5_look_75 : decode cX5_look 75 = .ok (.invokevirtual 32, 3) := by decide +kernel
theorem dX5_look_78 : decode cX5_look 78 = .ok (.aload_n 0, 1) := by decide +kernel
theorem dX5_look_79 : decode cX5_look 79 = .ok (.getfield 7, 3) := by decide +kernel
theorem dX5_look_82 : decode cX5_look 82 = .ok (.sipush 308, 3) := by decide +kernel
theorem dX5_look_85 : decode cX5_look 85 = .ok (.iload_n 2, 1) := by decide +kernel
theorem dX5_look_86 : decode cX5_look 86 = .ok (.bipush 10, 2) := by decide +kernel
theorem dX5_look_88 : decode cX5_look 88 = .ok (.idiv, 1) := by decide +kernel
theorem dX5_look_89 : decode cX5_look 89 = .ok (.iadd, 1) := by decide +kernel
theorem dX5_look_90 : decode cX5_look 90 = .ok (.dup2, 1) := by decide +kernel
theorem dX5_look_91 : decode cX5_look 91 = .ok (.iaload, 1) := by decide +kernel
theorem dX5_look_92 : decode cX5_look 92 = .ok (.iconst 1, 1) := by decide +kernel
theorem dX5_look_93 : decode cX5_look 93 = .ok (.iadd, 1) := by decide +kernel
theorem dX5_look_94 : decode cX5_look 94 = .ok (.iastore, 1) := by decide +kernel
theorem dX5_look_95 : decode cX5_look 95 = .ok (.aload_n 0, 1) := by decide +kernel
theorem dX5_look_96 : decode cX5_look 96 = .ok (.getfield 7, 3) := by decide +kernel
theorem dX5_look_99 : decode cX5_look 99 = .ok (.bipush 6, 2) := by decide +kernel
theorem dX5_look_101 : decode cX5_look 101 = .ok (.dup2, 1) := by decide +kernel
theorem dX5_look_102 : decode cX5_look 102 = .ok (.iaload, 1) := by decide +kernel
theorem dX5_look_103 : decode cX5_look 103 = .ok (.iconst 1, 1) := by decide +kernel
theorem dX5_look_104 : decode cX5_look 104 = .ok (.iadd, 1) := by decide +kernel
theorem dX5_look_105 : decode cX5_look 105 = .ok (.iastore, 1) := by decide +kernel
theorem dX5_look_106 : decode cX5_look 106 = .ok (.aload_n 0, 1) := by decide +kernel
theorem dX5_look_107 : decode cX5_look 107 = .ok (.iload_n 1, 1) := by decide +kernel
theorem dX5_look_108 : decode cX5_look 108 = .ok (.invokevirtual 81, 3) := by decide +kernel
theorem dX5_look_111 : decode cX5_look 111 = .ok (.iinc 1 1, 3) := by decide +kernel
theorem dX5_look_114 : decode cX5_look 114 = .ok (.goto (-112), 3) := by decide +kernel
theorem dX5_look_117 : decode cX5_look 117 = .ok (.return_, 1) := by decide +kernel
def wp_X5_look (σ : Mem) (P : Mem → Prop) : Prop :=
  lq2 (fun rec3 (σ1 : Mem) (x2 : Int32) =>
    ((40 ≤ x2 →
      P σ1) ∧
      (¬ 40 ≤ x2 →
      wp_X5_isBad σ1 x2 (fun r4 =>
        ((r4 = 0 →
        rec3 σ1 (x2 + 1)) ∧
        (¬ r4 = 0 →
        wp_X5_pageIn σ1 x2 (fun r5 =>
          wp_X5_given σ1 0 x2 (fun r6 =>
          ((r5 = (-5) →
          wp_X5_retire σ1 x2 (fun σ14 =>
            rec3 σ14 (x2 + 1))) ∧
          (¬ r5 = (-5) →
          wp_X5_of σ1 r5 2 (fun r7 =>
            ((r7 = 0 →
            ((r6 = (-5) →
              rec3 σ1 (x2 + 1)) ∧
              (¬ r6 = (-5) →
              wp_X5_give σ1 r5 r6 (fun σ8 =>
                wp_X5_of σ8 r5 3 (fun r9 =>
                wp_X5_lay σ8 r5 3 (r9 + 1) (fun σ10 =>
                vp_in (308 + (r5 / 10)) 313 ∧ vp_in (308 + (r5 / 10)) 313 ∧ bm (up2 σ10 94 (308 + (r5 / 10)).toNatClampNeg ((σ10 94 (308 + (r5 / 10)).toNatClampNeg) + 1)) (fun σ11 =>
                bm (up2 σ11 94 6 ((σ11 94 6) + 1)) (fun σ12 =>
                wp_X5_retire σ12 x2 (fun σ13 =>
                rec3 σ13 (x2 + 1)))))))))) ∧
            (¬ r7 = 0 →
            rec3 σ1 (x2 + 1)))))))))))))) σ 0
set_option maxRecDepth 100000 in
set_option maxHeartbeats 4000000 in
theorem c_X5_look (V : EV) (σ : Mem) (P : Mem → Prop) (l : Launch) : Met l yX5_look (.code yX5_look cX5_look 4 (none) :: AW) { frames := 2, cells := 0, slots := 0, locals := 48 } (va_Pc [.ref (ad V 93)] (fun U => wP V σ U ∧ wp_X5_look σ P)) (va_Qv P (wB V) (AA V)) 0 0 (AA V) := by
  refine met_v V σ (own := RX5) (by decide +kernel) rfl (fun v hv => by simp at hv; subst hv; rfl) (Nat.le_of_ble_eq_true rfl) (fun X C D h => ?_) l
  show GG V X σ 0 [some (.ref (ad V 93)), none, none, none] []
  refine g_iconst C dX5_look_0 ic_0 rfl ?_
  refine g_istore_n C dX5_look_1 rfl (Nat.le_of_ble_eq_true rfl) (L' := [some (.ref (ad V 93)), some (.int 0), none, none]) rfl rfl ?_
  refine h (fun (σ1 : Mem) (x2 : Int32) => GG V X σ1 2 [some (.ref (ad V 93)), some (.int x2), none, none] []) (fun σ1 x2 h => ?_)
  refine g_iload_n C dX5_look_2 rfl rfl rfl ?_
  refine g_bipush C dX5_look_3 bp_40 rfl ?_
  refine g_icmp_ge C dX5_look_5 (tgt := 117) rfl rfl (fun q => ?_) (fun q => ?_)
  · have h := h.1 q
    exact g_vret C dX5_look_117 D h
  · have h := h.2 q
    refine g_aload_n C dX5_look_8 rfl rfl rfl ?_
    refine g_iload_n C dX5_look_9 rfl rfl rfl ?_
    refine k_X5_70 C dX5_look_10 (Nat.le_of_ble_eq_true rfl) (by decide) rfl rfl h (fun r4 h => ?_)
    refine g_if_eq C dX5_look_13 (tgt := 111) rfl rfl (fun q => ?_) (fun q => ?_)
    · have h := h.1 q
      refine g_iinc C dX5_look_111 (v := x2 + 1) (by rw [ic_1]) rfl (Nat.le_of_ble_eq_true rfl) (L' := [some (.ref (ad V 93)), some (.int (x2 + 1)), none, none]) rfl rfl ?_
      refine g_goto C dX5_look_114 (pc' := 2) rfl ?_
      exact h
    · have h := h.2 q
      refine g_aload_n C dX5_look_16 rfl rfl rfl ?_
      refine g_iload_n C dX5_look_17 rfl rfl rfl ?_
      refine k_X5_74 C dX5_look_18 (Nat.le_of_ble_eq_true rfl) (by decide) rfl rfl h (fun r5 h => ?_)
      refine g_istore_n C dX5_look_21 rfl (Nat.le_of_ble_eq_true rfl) (L' := [some (.ref (ad V 93)), some (.int x2), some (.int r5), none]) rfl rfl ?_
      refine g_aload_n C dX5_look_22 rfl rfl rfl ?_
      refine g_iconst C dX5_look_23 ic_0 rfl ?_
      refine g_iload_n C dX5_look_24 rfl rfl rfl ?_
      refine k_X5_77 C dX5_look_25 (Nat.le_of_ble_eq_true rfl) (by decide) rfl rfl h (fun r6 h => ?_)
      refine g_istore_n C dX5_look_28 rfl (Nat.le_of_ble_eq_true rfl) (L' := [some (.ref (ad V 93)), some (.int x2), some (.int r5), some (.int r6)]) rfl rfl ?_
      refine g_iload_n C dX5_look_29 rfl rfl rfl ?_
      refine g_bipush C dX5_look_30 bp_m5 rfl ?_
      refine g_icmp_ne C dX5_look_32 (tgt := 43) rfl rfl (fun q => ?_) (fun q => ?_)
      · have h := h.2 q
        refine g_aload_n C dX5_look_43 rfl rfl rfl ?_
        refine g_iload_n C dX5_look_44 rfl rfl rfl ?_
        refine g_iconst C dX5_look_45 ic_2 rfl ?_
        refine k_X5_40 C dX5_look_46 (Nat.le_of_ble_eq_true rfl) (by decide) rfl rfl h (fun r7 h => ?_)
        refine g_if_ne C dX5_look_49 (tgt := 111) rfl rfl (fun q => ?_) (fun q => ?_)
        · have h := h.2 q
          refine g_iinc C dX5_look_111 (v := x2 + 1) (by rw [ic_1]) rfl (Nat.le_of_ble_eq_true rfl) (L' := [some (.ref (ad V 93)), some (.int (x2 + 1)), some (.int r5), some (.int r6)]) rfl rfl ?_
          refine g_goto C dX5_look_114 (pc' := 2) rfl ?_
          refine g_drop 2 (L' := [some (.ref (ad V 93)), some (.int (x2 + 1)), none, some (.int r6)]) rfl ?_
          refine g_drop 3 (L' := [some (.ref (ad V 93)), some (.int (x2 + 1)), none, none]) rfl ?_
          exact h
        · have h := h.1 q
          refine g_iload_n C dX5_look_52 rfl rfl rfl ?_
          refine g_bipush C dX5_look_53 bp_m5 rfl ?_
          refine g_icmp_eq C dX5_look_55 (tgt := 111) rfl rfl (fun q => ?_) (fun q => ?_)
          · have h := h.1 q
            refine g_iinc C dX5_look_111 (v := x2 + 1) (by rw [ic_1]) rfl (Nat.le_of_ble_eq_true rfl) (L' := [some (.ref (ad V 93)), some (.int (x2 + 1)), some (.int r5), some (.int r6)]) rfl rfl ?_
            refine g_goto C dX5_look_114 (pc' := 2) rfl ?_
            refine g_drop 2 (L' := [some (.ref (ad V 93)), some (.int (x2 + 1)), none, some (.int r6)]) rfl ?_
            refine g_drop 3 (L' := [some (.ref (ad V 93)), some (.int (x2 + 1)), none, none]) rfl ?_
            exact h
          · have h := h.2 q
            refine g_aload_n C dX5_look_58 rfl rfl rfl ?_
            refine g_iload_n C dX5_look_59 rfl rfl rfl ?_
            refine g_iload_n C dX5_look_60 rfl rfl rfl ?_
            refine k_X5_84 C dX5_look_61 (Nat.le_of_ble_eq_true rfl) (by decide) rfl rfl h (fun σ8 h => ?_)
            refine g_aload_n C dX5_look_64 rfl rfl rfl ?_
            refine g_iload_n C dX5_look_65 rfl rfl rfl ?_
            refine g_iconst C dX5_look_66 ic_3 rfl ?_
            refine g_aload_n C dX5_look_67 rfl rfl rfl ?_
            refine g_iload_n C dX5_look_68 rfl rfl rfl ?_
            refine g_iconst C dX5_look_69 ic_3 rfl ?_
            refine k_X5_40 C dX5_look_70 (Nat.le_of_ble_eq_true rfl) (by decide) rfl rfl h (fun r9 h => ?_)
            refine g_iconst C dX5_look_73 ic_1 rfl ?_
            refine g_iadd C dX5_look_74 rfl ?_
            refine k_X5_32 C dX5_look_75 (Nat.le_of_ble_eq_true rfl) (by decide) rfl rfl h (fun σ10 h => ?_)
            refine g_aload_n C dX5_look_78 rfl rfl rfl ?_
            refine f_X5_7 C dX5_look_79 rfl ?_
            refine g_sipush C dX5_look_82 sp_308 rfl ?_
            refine g_iload_n C dX5_look_85 rfl rfl rfl ?_
            refine g_bipush C dX5_look_86 bp_10 rfl ?_
            refine g_idiv C dX5_look_88 (by decide) rfl ?_
            refine g_iadd C dX5_look_89 rfl ?_
            refine g_dup2 C dX5_look_90 rfl rfl rfl ?_
            obtain ⟨hin, h⟩ := h
            refine g_ild C dX5_look_91 arr_94 hin rfl ?_
            refine g_iconst C dX5_look_92 ic_1 rfl ?_
            refine g_iadd C dX5_look_93 rfl ?_
            obtain ⟨hin, h⟩ := h
            refine g_ist C dX5_look_94 arr_94 hin rfl h (fun σ11 h => ?_)
            refine g_aload_n C dX5_look_95 rfl rfl rfl ?_
            refine f_X5_7 C dX5_look_96 rfl ?_
            refine g_bipush C dX5_look_99 bp_6 rfl ?_
            refine g_dup2 C dX5_look_101 rfl rfl rfl ?_
            refine g_ildk C dX5_look_102 arr_94 vi_6_313 tl_6 rfl ?_
            refine g_iconst C dX5_look_103 ic_1 rfl ?_
            refine g_iadd C dX5_look_104 rfl ?_
            refine g_istk C dX5_look_105 arr_94 vi_6_313 tl_6 rfl h (fun σ12 h => ?_)
            refine g_aload_n C dX5_look_106 rfl rfl rfl ?_
            refine g_iload_n C dX5_look_107 rfl rfl rfl ?_
            refine k_X5_81 C dX5_look_108 (Nat.le_of_ble_eq_true rfl) (by decide) rfl rfl h (fun σ13 h => ?_)
            refine g_iinc C dX5_look_111 (v := x2 + 1) (by rw [ic_1]) rfl (Nat.le_of_ble_eq_true rfl) (L' := [some (.ref (ad V 93)), some (.int (x2 + 1)), some (.int r5), some (.int r6)]) rfl rfl ?_
            refine g_goto C dX5_look_114 (pc' := 2) rfl ?_
            refine g_drop 2 (L' := [some (.ref (ad V 93)), some (.int (x2 + 1)), none, some (.int r6)]) rfl ?_
            refine g_drop 3 (L' := [some (.ref (ad V 93)), some (.int (x2 + 1)), none, none]) rfl ?_
            exact h
      · have h := h.1 q
        refine g_aload_n C dX5_look_35 rfl rfl rfl ?_
        refine g_iload_n C dX5_look_36 rfl rfl rfl ?_
        refine k_X5_81 C dX5_look_37 (Nat.le_of_ble_eq_true rfl) (by decide) rfl rfl h (fun σ14 h => ?_)
        refine g_goto C dX5_look_40 (pc' := 111) rfl ?_
        refine g_iinc C dX5_look_111 (v := x2 + 1) (by rw [ic_1]) rfl (Nat.le_of_ble_eq_true rfl) (L' := [some (.ref (ad V 93)), some (.int (x2 + 1)), some (.int r5), some (.int r6)]) rfl rfl ?_
        refine g_goto C dX5_look_114 (pc' := 2) rfl ?_
        refine g_drop 2 (L' := [some (.ref (ad V 93)), some (.int (x2 + 1)), none, some (.int r6)]) rfl ?_
        refine g_drop 3 (L' := [some (.ref (ad V 93)), some (.int (x2 + 1)), none, none]) rfl ?_
        exact h
theorem hd_X5_look : yX5_look.cls ≠ "java/lang/invoke/MethodHandle" ∧ yX5_look.cls ≠ "java/lang/invoke/VarHandle" ∧ (parseMethodDescriptor yX5_look.desc).map (fun d => d.parameters.length) = some 0 := by decide +kernel
theorem k_X5_67 {V : EV} {X : CX} {cc : ByteArray} {nL : Nat} {R : Room} (C : OK V X RX5 cc nL R) {σ : Mem} {pc pc' : Nat} {L : List (Option Value)} {st : List Value} {P : Mem → Prop} (d : decode cc pc = .ok (.invokevirtual 67, 3)) (hst : (st.map fun v => v.category).sum ≤ 8) (hr : 2 + 1 ≤ R.frames ∧ 8 + (4 + 11) + 48 ≤ R.locals) (hL : L.length = nL) (hp : pc + 3 = pc') (h : wp_X5_look σ P) (k : ∀ τ, P τ → GG V X τ pc' L st) : GG V X σ pc L (.ref (ad V 93) :: st) :=
  g_callVv C (av := []) (fun l => c_X5_look V σ P l) (by decide) (en_93 V σ) (q := (RX5, TX5, 13)) rfl rfl ml_RX5_67 im_X5_look se_X5_look ini_RX5 co_X5_look hd_X5_look rfl ⟨rfl, rfl⟩ hr hst d hL hp h k

theorem dX5_restore_0 : decode cX5_restore 0 = .ok (.aload_n 0, 1) := by decide +kernel
theorem dX5_restore_1 : decode cX5_restore 1 = .ok (.getfield 56, 3) := by decide +kernel
theorem dX5_restore_4 : decode cX5_restore 4 = .ok (.ifCond .ne 6, 3) := by decide +kernel
theorem dX5_restore_7 : decode cX5_restore 7 = .ok (.bipush (-5), 2) := by decide +kernel
theorem dX5_restore_9 : decode cX5_restore 9 = .ok (.ireturn, 1) := by decide +kernel
theorem dX5_restore_10 : decode cX5_restore 10 = .ok (.aload_n 0, 1) := by decide +kernel
theorem dX5_restore_11 : decode cX5_restore 11 = .ok (.invokevirtual 64, 3) := by decide +kernel
theorem dX5_restore_14 : decode cX5_restore 14 = .ok (.aload_n 0, 1) := by decide +kernel
theorem dX5_restore_15 : decode cX5_restore 15 = .ok (.getfield 19, 3) := by decide +kernel
theorem dX5_restore_18 : decode cX5_restore 18 = .ok (.iconst 0, 1) := by decide +kernel
theorem dX5_restore_19 : decode cX5_restore 19 = .ok (.aload_n 0, 1) := by decide +kernel
theorem dX5_restore_20 : decode cX5_restore 20 = .ok (.getfield 7, 3) := by decide +kernel
theorem dX5_restore_23 : decode cX5_restore 23 = .ok (.iconst 0, 1) := by decide +kernel
theorem dX5_restore_24 : decode cX5_restore 24 = .ok (.invokestatic 48, 3) := by decide +kernel
theorem dX5_restore_27 : decode cX5_restore 27 = .ok (.aload_n 0, 1) := by decide +kernel
theorem dX5_restore_28 : decode cX5_restore 28 = .ok (.invokevirtual 67, 3) := by decide +kernel
theorem dX5_restore_31 : decode cX5_restore 31 = .ok (.aload_n 0, 1) := by decide +kernel
theorem dX5_restore_32 : decode cX5_restore 32 = .ok (.iconst 2, 1) := by decide +kernel
theorem dX5_restore_33 : decode cX5_restore 33 = .ok (.invokevirtual 60, 3) := by decide +kernel
theorem dX5_restore_36 : decode cX5_restore 36 = .ok (.ireturn, 1) := by decide +kernel
def wp_X5_restore (σ : Mem) (P : Int32 → Mem → Prop) : Prop :=
  (((σ 93 5) = 0 →
    P (-5) σ) ∧
    (¬ (σ 93 5) = 0 →
    wp_X5_record σ  (fun σ1 =>
      wp_X5_copyState σ1 97 0 94 0 (fun σ2 =>
      wp_X5_look σ2  (fun σ3 =>
      wp_X5_cells σ3 2 (fun r4 =>
      P r4 σ3))))))
set_option maxRecDepth 100000 in
set_option maxHeartbeats 4000000 in
theorem c_X5_restore (V : EV) (σ : Mem) (P : Int32 → Mem → Prop) (l : Launch) : Met l yX5_restore (.code yX5_restore cX5_restore 1 (some .int) :: AW) { frames := 3, cells := 0, slots := 0, locals := 71 } (va_Pc [.ref (ad V 93)] (fun U => wP V σ U ∧ wp_X5_restore σ P)) (va_Qi P (wB V) (AA V)) 0 0 (AA V) := by
  refine met_i V σ (own := RX5) (by decide +kernel) rfl (fun v hv => by simp at hv; subst hv; rfl) (Nat.le_of_ble_eq_true rfl) (fun X C D h => ?_) l
  show GG V X σ 0 [some (.ref (ad V 93))] []
  refine g_aload_n C dX5_restore_0 rfl rfl rfl ?_
  refine f_X5_56 C dX5_restore_1 rfl ?_
  refine g_if_ne C dX5_restore_4 (tgt := 10) rfl rfl (fun q => ?_) (fun q => ?_)
  · have h := h.2 q
    refine g_aload_n C dX5_restore_10 rfl rfl rfl ?_
    refine k_X5_64 C dX5_restore_11 (Nat.le_of_ble_eq_true rfl) (by decide) rfl rfl h (fun σ1 h => ?_)
    refine g_aload_n C dX5_restore_14 rfl rfl rfl ?_
    refine f_X5_19 C dX5_restore_15 rfl ?_
    refine g_iconst C dX5_restore_18 ic_0 rfl ?_
    refine g_aload_n C dX5_restore_19 rfl rfl rfl ?_
    refine f_X5_7 C dX5_restore_20 rfl ?_
    refine g_iconst C dX5_restore_23 ic_0 rfl ?_
    refine k_X5_48 isZr_97 isZr_94 C dX5_restore_24 (Nat.le_of_ble_eq_true rfl) (by decide) rfl rfl h (fun σ2 h => ?_)
    refine g_aload_n C dX5_restore_27 rfl rfl rfl ?_
    refine k_X5_67 C dX5_restore_28 (Nat.le_of_ble_eq_true rfl) (by decide) rfl rfl h (fun σ3 h => ?_)
    refine g_aload_n C dX5_restore_31 rfl rfl rfl ?_
    refine g_iconst C dX5_restore_32 ic_2 rfl ?_
    refine k_X5_60 C dX5_restore_33 (Nat.le_of_ble_eq_true rfl) (by decide) rfl rfl h (fun r4 h => ?_)
    exact g_iret C dX5_restore_36 D h
  · have h := h.1 q
    refine g_bipush C dX5_restore_7 bp_m5 rfl ?_
    exact g_iret C dX5_restore_9 D h
theorem hd_X5_restore : yX5_restore.cls ≠ "java/lang/invoke/MethodHandle" ∧ yX5_restore.cls ≠ "java/lang/invoke/VarHandle" ∧ (parseMethodDescriptor yX5_restore.desc).map (fun d => d.parameters.length) = some 0 := by decide +kernel

theorem dX5_whyNotWrite_0 : decode cX5_whyNotWrite 0 = .ok (.aload_n 0, 1) := by decide +kernel
theorem dX5_whyNotWrite_1 : decode cX5_whyNotWrite 1 = .ok (.iload_n 1, 1) := by decide +kernel
theorem dX5_whyNotWrite_2 : decode cX5_whyNotWrite 2 = .ok (.iconst 0, 1) := by decide +kernel
theorem dX5_whyNotWrite_3 : decode cX5_whyNotWrite 3 = .ok (.invokevirtual 40, 3) := by decide +kernel
theorem dX5_whyNotWrite_6 : decode cX5_whyNotWrite 6 = .ok (.bipush (-5), 2) := by decide +kernel
theorem dX5_whyNotWrite_8 : decode cX5_whyNotWrite 8 = .ok (.if_icmp .ne 20, 3) := by decide +kernel
theorem dX5_whyNotWrite_11 : decode cX5_whyNotWrite 11 = .ok (.aload_n 0, 1) := by decide +kernel
theorem dX5_whyNotWrite_12 : decode cX5_whyNotWrite 12 = .ok (.iconst 1, 1) := by decide +kernel
theorem dX5_whyNotWrite_13 : decode cX5_whyNotWrite 13 = .ok (.bipush (-5), 2) := by decide +kernel
theorem dX5_whyNotWrite_15 : decode cX5_whyNotWrite 15 = .ok (.invokevirtual 77, 3) := by decide +kernel
theorem dX5_whyNotWrite_18 : decode cX5_whyNotWrite 18 = .ok (.bipush (-5), 2) := by decide +kernel
theorem dX5_whyNotWrite_20 : decode cX5_whyNotWrite 20 = .ok (.if_icmp .ne 8, 3) := by decide +kernel
theorem dX5_whyNotWrite_23 : decode cX5_whyNotWrite 23 = .ok (.bipush (-3), 2) := by decide +kernel
theorem dX5_whyNotWrite_25 : decode cX5_whyNotWrite 25 = .ok (.goto 4, 3) := by decide +kernel
theorem dX5_whyNotWrite_28 : decode cX5_whyNotWrite 28 = .ok (.iconst 0, 1) := by decide +kernel
theorem dX5_whyNotWrite_29 : decode cX5_whyNotWrite 29 = .ok (.ireturn, 1) := by decide +kernel
def wp_X5_whyNotWrite (σ : Mem) (y1 : Int32) (P : Int32 → Prop) : Prop :=
  wp_X5_of σ y1 0 (fun r1 =>
    ((r1 = (-5) →
    wp_X5_given σ 1 (-5) (fun r2 =>
      ((r2 = (-5) →
      P (-3)) ∧
      (¬ r2 = (-5) →
      P 0)))) ∧
    (¬ r1 = (-5) →
    P 0)))
set_option maxRecDepth 100000 in
set_option maxHeartbeats 4000000 in
theorem c_X5_whyNotWrite (V : EV) (σ : Mem) (y1 : Int32) (P : Int32 → Prop) (l : Launch) : Met l yX5_whyNotWrite (.code yX5_whyNotWrite cX5_whyNotWrite 2 (some .int) :: AW) { frames := 2, cells := 0, slots := 0, locals := 48 } (va_Pc [.ref (ad V 93), .int y1] (fun U => wP V σ U ∧ wp_X5_whyNotWrite σ y1 P)) (va_Qi (fun r τ => τ = σ ∧ P r) (wB V) (AA V)) 0 0 (AA V) := by
  refine met_i V σ (own := RX5) (by decide +kernel) rfl (fun v hv => by simp at hv; rcases hv with rfl | rfl <;> rfl) (Nat.le_of_ble_eq_true rfl) (fun X C D h => ?_) l
  show GG V X σ 0 [some (.ref (ad V 93)), some (.int y1)] []
  refine g_aload_n C dX5_whyNotWrite_0 rfl rfl rfl ?_
  refine g_iload_n C dX5_whyNotWrite_1 rfl rfl rfl ?_
  refine g_iconst C dX5_whyNotWrite_2 ic_0 rfl ?_
  refine k_X5_40 C dX5_whyNotWrite_3 (Nat.le_of_ble_eq_true rfl) (by decide) rfl rfl h (fun r1 h => ?_)
  refine g_bipush C dX5_whyNotWrite_6 bp_m5 rfl ?_
  refine g_icmp_ne C dX5_whyNotWrite_8 (tgt := 28) rfl rfl (fun q => ?_) (fun q => ?_)
  · have h := h.2 q
    refine g_iconst C dX5_whyNotWrite_28 ic_0 rfl ?_
    exact g_iret C dX5_whyNotWrite_29 D ⟨rfl, h⟩
  · have h := h.1 q
    refine g_aload_n C dX5_whyNotWrite_11 rfl rfl rfl ?_
    refine g_iconst C dX5_whyNotWrite_12 ic_1 rfl ?_
    refine g_bipush C dX5_whyNotWrite_13 bp_m5 rfl ?_
    refine k_X5_77 C dX5_whyNotWrite_15 (Nat.le_of_ble_eq_true rfl) (by decide) rfl rfl h (fun r2 h => ?_)
    refine g_bipush C dX5_whyNotWrite_18 bp_m5 rfl ?_
    refine g_icmp_ne C dX5_whyNotWrite_20 (tgt := 28) rfl rfl (fun q => ?_) (fun q => ?_)
    · have h := h.2 q
      refine g_iconst C dX5_whyNotWrite_28 ic_0 rfl ?_
      exact g_iret C dX5_whyNotWrite_29 D ⟨rfl, h⟩
    · have h := h.1 q
      refine g_bipush C dX5_whyNotWrite_23 bp_m3 rfl ?_
      refine g_goto C dX5_whyNotWrite_25 (pc' := 29) rfl ?_
      exact g_iret C dX5_whyNotWrite_29 D ⟨rfl, h⟩
theorem hd_X5_whyNotWrite : yX5_whyNotWrite.cls ≠ "java/lang/invoke/MethodHandle" ∧ yX5_whyNotWrite.cls ≠ "java/lang/invoke/VarHandle" ∧ (parseMethodDescriptor yX5_whyNotWrite.desc).map (fun d => d.parameters.length) = some 1 := by decide +kernel
theorem k_X5_92 {V : EV} {X : CX} {cc : ByteArray} {nL : Nat} {R : Room} {y1 : Int32} (C : OK V X RX5 cc nL R) {σ : Mem} {pc pc' : Nat} {L : List (Option Value)} {st : List Value} {P : Int32 → Prop} (d : decode cc pc = .ok (.invokevirtual 92, 3)) (hst : (st.map fun v => v.category).sum ≤ 8) (hr : 2 + 1 ≤ R.frames ∧ 8 + (2 + 11) + 48 ≤ R.locals) (hL : L.length = nL) (hp : pc + 3 = pc') (h : wp_X5_whyNotWrite σ y1 P) (k : ∀ r, P r → GG V X σ pc' L (.int r :: st)) : GG V X σ pc L (.int y1 :: .ref (ad V 93) :: st) :=
  g_callVi C (av := [.int y1]) (fun l => c_X5_whyNotWrite V σ y1 P l) (by decide) (en_93 V σ) (q := (RX5, TX5, 13)) rfl rfl ml_RX5_92 im_X5_whyNotWrite se_X5_whyNotWrite ini_RX5 co_X5_whyNotWrite hd_X5_whyNotWrite rfl ⟨rfl, rfl⟩ hr hst d hL hp h (fun r τ hq => by obtain ⟨rfl, hq⟩ := hq; exact k r hq)

theorem dX5_writeNow_0 : decode cX5_writeNow 0 = .ok (.aload_n 0, 1) := by decide +kernel
theorem dX5_writeNow_1 : decode cX5_writeNow 1 = .ok (.iload_n 1, 1) := by decide +kernel
theorem dX5_writeNow_2 : decode cX5_writeNow 2 = .ok (.iconst 0, 1) := by decide +kernel
theorem dX5_writeNow_3 : decode cX5_writeNow 3 = .ok (.invokevirtual 40, 3) := by decide +kernel
theorem dX5_writeNow_6 : decode cX5_writeNow 6 = .ok (.bipush (-5), 2) := by decide +kernel
theorem dX5_writeNow_8 : decode cX5_writeNow 8 = .ok (.if_icmp .ne 15, 3) := by decide +kernel
theorem dX5_writeNow_11 : decode cX5_writeNow 11 = .ok (.aload_n 0, 1) := by decide +kernel
theorem dX5_writeNow_12 : decode cX5_writeNow 12 = .ok (.iload_n 1, 1) := by decide +kernel
theorem dX5_writeNow_13 : decode cX5_writeNow 13 = .ok (.aload_n 0, 1) := by decide +kernel
theorem dX5_writeNow_14 : decode cX5_writeNow 14 = .ok (.iconst 1, 1) := by decide +kernel
theorem dX5_writeNow_15 : decode cX5_writeNow 15 = .ok (.bipush (-5), 2) := by decide +kernel
theorem dX5_writeNow_17 : decode cX5_writeNow 17 = .ok (.invokevirtual 77, 3) := by decide +kernel
theorem dX5_writeNow_20 : decode cX5_writeNow 20 = .ok (.invokevirtual 84, 3) := by decide +kernel
theorem dX5_writeNow_23 : decode cX5_writeNow 23 = .ok (.aload_n 0, 1) := by decide +kernel
theorem dX5_writeNow_24 : decode cX5_writeNow 24 = .ok (.iload_n 1, 1) := by decide +kernel
theorem dX5_writeNow_25 : decode cX5_writeNow 25 = .ok (.iconst 1, 1) := by decide +kernel
theorem dX5_writeNow_26 : decode cX5_writeNow 26 = .ok (.iload_n 2, 1) := by decide +kernel
theorem dX5_writeNow_27 : decode cX5_writeNow 27 = .ok (.invokevirtual 32, 3) := by decide +kernel
theorem dX5_writeNow_30 : decode cX5_writeNow 30 = .ok (.aload_n 0, 1) := by decide +kernel
theorem dX5_writeNow_31 : decode cX5_writeNow 31 = .ok (.invokevirtual 67, 3) := by decide +kernel
theorem dX5_writeNow_34 : decode cX5_writeNow 34 = .ok (.aload_n 0, 1) := by decide +kernel
theorem dX5_writeNow_35 : decode cX5_writeNow 35 = .ok (.iload_n 1, 1) := by decide +kernel
theorem dX5_writeNow_36 : decode cX5_writeNow 36 = .ok (.iconst 0, 1) := by decide +kernel
theorem dX5_writeNow_37 : decode cX5_writeNow 37 = .ok (.invokevirtual 40, 3) := by decide +kernel
theorem dX5_writeNow_40 : decode cX5_writeNow 40 = .ok (.ireturn, 1) := by decide +kernel
def wp_X5_writeNow (σ : Mem) (y1 : Int32) (y2 : Int32) (P : Int32 → Mem → Prop) : Prop :=
  wp_X5_of σ y1 0 (fun r1 =>
    jn (A := Mem → Prop) (fun (σ2 : Mem) =>
    wp_X5_lay σ2 y1 1 y2 (fun σ4 =>
      wp_X5_look σ4  (fun σ5 =>
      wp_X5_of σ5 y1 0 (fun r6 =>
      P r6 σ5))))
    (fun J3 =>
    ((r1 = (-5) →
    wp_X5_given σ 1 (-5) (fun r7 =>
      wp_X5_give σ y1 r7 (fun σ8 =>
      J3 σ8))) ∧
    (¬ r1 = (-5) →
    J3 σ))))
set_option maxRecDepth 100000 in
set_option maxHeartbeats 4000000 in
theorem c_X5_writeNow (V : EV) (σ : Mem) (y1 : Int32) (y2 : Int32) (P : Int32 → Mem → Prop) (l : Launch) : Met l yX5_writeNow (.code yX5_writeNow cX5_writeNow 3 (some .int) :: AW) { frames := 3, cells := 0, slots := 0, locals := 71 } (va_Pc [.ref (ad V 93), .int y1, .int y2] (fun U => wP V σ U ∧ wp_X5_writeNow σ y1 y2 P)) (va_Qi P (wB V) (AA V)) 0 0 (AA V) := by
  refine met_i V σ (own := RX5) (by decide +kernel) rfl (fun v hv => by simp at hv; rcases hv with rfl | rfl | rfl <;> rfl) (Nat.le_of_ble_eq_true rfl) (fun X C D h => ?_) l
  show GG V X σ 0 [some (.ref (ad V 93)), some (.int y1), some (.int y2)] []
  refine g_aload_n C dX5_writeNow_0 rfl rfl rfl ?_
  refine g_iload_n C dX5_writeNow_1 rfl rfl rfl ?_
  refine g_iconst C dX5_writeNow_2 ic_0 rfl ?_
  refine k_X5_40 C dX5_writeNow_3 (Nat.le_of_ble_eq_true rfl) (by decide) rfl rfl h (fun r1 h => ?_)
  refine g_bipush C dX5_writeNow_6 bp_m5 rfl ?_
  refine jn_go h (fun (J3 : Mem → Prop) => ∀ (σ2 : Mem), J3 σ2 → GG V X σ2 23 [some (.ref (ad V 93)), some (.int y1), some (.int y2)] []) (fun σ2 h => ?_) (fun J3 hJ3 h => ?_)
  · refine g_aload_n C dX5_writeNow_23 rfl rfl rfl ?_
    refine g_iload_n C dX5_writeNow_24 rfl rfl rfl ?_
    refine g_iconst C dX5_writeNow_25 ic_1 rfl ?_
    refine g_iload_n C dX5_writeNow_26 rfl rfl rfl ?_
    refine k_X5_32 C dX5_writeNow_27 (Nat.le_of_ble_eq_true rfl) (by decide) rfl rfl h (fun σ4 h => ?_)
    refine g_aload_n C dX5_writeNow_30 rfl rfl rfl ?_
    refine k_X5_67 C dX5_writeNow_31 (Nat.le_of_ble_eq_true rfl) (by decide) rfl rfl h (fun σ5 h => ?_)
    refine g_aload_n C dX5_writeNow_34 rfl rfl rfl ?_
    refine g_iload_n C dX5_writeNow_35 rfl rfl rfl ?_
    refine g_iconst C dX5_writeNow_36 ic_0 rfl ?_
    refine k_X5_40 C dX5_writeNow_37 (Nat.le_of_ble_eq_true rfl) (by decide) rfl rfl h (fun r6 h => ?_)
    exact g_iret C dX5_writeNow_40 D h
  refine g_icmp_ne C dX5_writeNow_8 (tgt := 23) rfl rfl (fun q => ?_) (fun q => ?_)
  · have h := h.2 q
    exact hJ3 σ h
  · have h := h.1 q
    refine g_aload_n C dX5_writeNow_11 rfl rfl rfl ?_
    refine g_iload_n C dX5_writeNow_12 rfl rfl rfl ?_
    refine g_aload_n C dX5_writeNow_13 rfl rfl rfl ?_
    refine g_iconst C dX5_writeNow_14 ic_1 rfl ?_
    refine g_bipush C dX5_writeNow_15 bp_m5 rfl ?_
    refine k_X5_77 C dX5_writeNow_17 (Nat.le_of_ble_eq_true rfl) (by decide) rfl rfl h (fun r7 h => ?_)
    refine k_X5_84 C dX5_writeNow_20 (Nat.le_of_ble_eq_true rfl) (by decide) rfl rfl h (fun σ8 h => ?_)
    exact hJ3 σ8 h
theorem hd_X5_writeNow : yX5_writeNow.cls ≠ "java/lang/invoke/MethodHandle" ∧ yX5_writeNow.cls ≠ "java/lang/invoke/VarHandle" ∧ (parseMethodDescriptor yX5_writeNow.desc).map (fun d => d.parameters.length) = some 2 := by decide +kernel
theorem k_X5_95 {V : EV} {X : CX} {cc : ByteArray} {nL : Nat} {R : Room} {y1 : Int32} {y2 : Int32} (C : OK V X RX5 cc nL R) {σ : Mem} {pc pc' : Nat} {L : List (Option Value)} {st : List Value} {P : Int32 → Mem → Prop} (d : decode cc pc = .ok (.invokevirtual 95, 3)) (hst : (st.map fun v => v.category).sum ≤ 8) (hr : 3 + 1 ≤ R.frames ∧ 8 + (3 + 11) + 71 ≤ R.locals) (hL : L.length = nL) (hp : pc + 3 = pc') (h : wp_X5_writeNow σ y1 y2 P) (k : ∀ r τ, P r τ → GG V X τ pc' L (.int r :: st)) : GG V X σ pc L (.int y2 :: .int y1 :: .ref (ad V 93) :: st) :=
  g_callVi C (av := [.int y1, .int y2]) (fun l => c_X5_writeNow V σ y1 y2 P l) (by decide) (en_93 V σ) (q := (RX5, TX5, 13)) rfl rfl ml_RX5_95 im_X5_writeNow se_X5_writeNow ini_RX5 co_X5_writeNow hd_X5_writeNow rfl ⟨rfl, rfl⟩ hr hst d hL hp h k

theorem dX5_write_0 : decode cX5_write 0 = .ok (.iload_n 1, 1) := by decide +kernel
theorem dX5_write_1 : decode cX5_write 1 = .ok (.iload_n 2, 1) := by decide +kernel
theorem dX5_write_2 : decode cX5_write 2 = .ok (.invokestatic 88, 3) := by decide +kernel
theorem dX5_write_5 : decode cX5_write 5 = .ok (.ifCond .ne 5, 3) := by decide +kernel
theorem dX5_write_8 : decode cX5_write 8 = .ok (.iconst (-1), 1) := by decide +kernel
theorem dX5_write_9 : decode cX5_write 9 = .ok (.ireturn, 1) := by decide +kernel
theorem dX5_write_10 : decode cX5_write 10 = .ok (.iload_n 3, 1) := by decide +kernel
theorem dX5_write_11 : decode cX5_write 11 = .ok (.iconst 0, 1) := by decide +kernel
theorem dX5_write_12 : decode cX5_write 12 = .ok (.sipush 9999, 3) := by decide +kernel
theorem dX5_write_15 : decode cX5_write 15 = .ok (.invokestatic 36, 3) := by decide +kernel
theorem dX5_write_18 : decode cX5_write 18 = .ok (.ifCond .ne 6, 3) := by decide +kernel
theorem dX5_write_21 : decode cX5_write 21 = .ok (.bipush (-2), 2) := by decide +kernel
theorem dX5_write_23 : decode cX5_write 23 = .ok (.ireturn, 1) := by decide +kernel
theorem dX5_write_24 : decode cX5_write 24 = .ok (.aload_n 0, 1) := by decide +kernel
theorem dX5_write_25 : decode cX5_write 25 = .ok (.bipush 10, 2) := by decide +kernel
theorem dX5_write_27 : decode cX5_write 27 = .ok (.iload_n 1, 1) := by decide +kernel
theorem dX5_write_28 : decode cX5_write 28 = .ok (.imul, 1) := by decide +kernel
theorem dX5_write_29 : decode cX5_write 29 = .ok (.iload_n 2, 1) := by decide +kernel
theorem dX5_write_30 : decode cX5_write 30 = .ok (.iadd, 1) := by decide +kernel
theorem dX5_write_31 : decode cX5_write 31 = .ok (.invokevirtual 92, 3) := by decide +kernel
theorem dX5_write_34 : decode cX5_write 34 = .ok (.istore 4, 2) := by decide +kernel
theorem dX5_write_36 : decode cX5_write 36 = .ok (.iload 4, 2) := by decide +kernel
theorem dX5_write_38 : decode cX5_write 38 = .ok (.ifCond .ge 6, 3) := by decide +kernel
theorem dX5_write_41 : decode cX5_write 41 = .ok (.iload 4, 2) := by decide +kernel
theorem dX5_write_43 : decode cX5_write 43 = .ok (.ireturn, 1) := by decide +kernel
theorem dX5_write_44 : decode cX5_write 44 = .ok (.aload_n 0, 1) := by decide +kernel
theorem dX5_write_45 : decode cX5_write 45 = .ok (.invokevirtual 64, 3) := by decide +kernel
theorem dX5_write_48 : decode cX5_write 48 = .ok (.aload_n 0, 1) := by decide +kernel
theorem dX5_write_49 : decode cX5_write 49 = .ok (.bipush 10, 2) := by decide +kernel
theorem dX5_write_51 : decode cX5_write 51 = .ok (.iload_n 1, 1) := by decide +kernel
theorem dX5_write_52 : decode cX5_write 52 = .ok (.imul, 1) := by decide +kernel
theorem dX5_write_53 : decode cX5_write 53 = .ok (.iload_n 2, 1) := by decide +kernel
theorem dX5_write_54 : decode cX5_write 54 = .ok (.iadd, 1) := by decide +kernel
theorem dX5_write_55 : decode cX5_write 55 = .ok (.iload_n 3, 1) := by decide +kernel
theorem dX5_write_56 : decode cX5_write 56 = .ok (.invokevirtual 95, 3) := by decide +kernel
theorem dX5_write_59 : decode cX5_write 59 = .ok (.ireturn, 1) := by decide +kernel
def wp_X5_write (σ : Mem) (y1 : Int32) (y2 : Int32) (y3 : Int32) (P : Int32 → Mem → Prop) : Prop :=
  wp_X5_isPage σ y1 y2 (fun r1 =>
    ((r1 = 0 →
    P (-1) σ) ∧
    (¬ r1 = 0 →
    wp_X5_in σ y3 0 9999 (fun r2 =>
      ((r2 = 0 →
      P (-2) σ) ∧
      (¬ r2 = 0 →
      wp_X5_whyNotWrite σ ((10 * y1) + y2) (fun r3 =>
        ((0 ≤ r3 →
        wp_X5_record σ  (fun σ4 =>
          wp_X5_writeNow σ4 ((10 * y1) + y2) y3 (fun r5 σ6 =>
          P r5 σ6))) ∧
        (¬ 0 ≤ r3 →
        P r3 σ)))))))))
set_option maxRecDepth 100000 in
set_option maxHeartbeats 4000000 in
theorem c_X5_write (V : EV) (σ : Mem) (y1 : Int32) (y2 : Int32) (y3 : Int32) (P : Int32 → Mem → Prop) (l : Launch) : Met l yX5_write (.code yX5_write cX5_write 5 (some .int) :: AW) { frames := 4, cells := 0, slots := 0, locals := 93 } (va_Pc [.ref (ad V 93), .int y1, .int y2, .int y3] (fun U => wP V σ U ∧ wp_X5_write σ y1 y2 y3 P)) (va_Qi P (wB V) (AA V)) 0 0 (AA V) := by
  refine met_i V σ (own := RX5) (by decide +kernel) rfl (fun v hv => by simp at hv; rcases hv with rfl | rfl | rfl | rfl <;> rfl) (Nat.le_of_ble_eq_true rfl) (fun X C D h => ?_) l
  show GG V X σ 0 [some (.ref (ad V 93)), some (.int y1), some (.int y2), some (.int y3), none] []
  refine g_iload_n C dX5_write_0 rfl rfl rfl ?_
  refine g_iload_n C dX5_write_1 rfl rfl rfl ?_
  refine k_X5_88 C dX5_write_2 (Nat.le_of_ble_eq_true rfl) (by decide) rfl rfl h (fun r1 h => ?_)
  refine g_if_ne C dX5_write_5 (tgt := 10) rfl rfl (fun q => ?_) (fun q => ?_)
  · have h := h.2 q
    refine g_iload_n C dX5_write_10 rfl rfl rfl ?_
    refine g_iconst C dX5_write_11 ic_0 rfl ?_
    refine g_sipush C dX5_write_12 sp_9999 rfl ?_
    refine k_X5_36 C dX5_write_15 (Nat.le_of_ble_eq_true rfl) (by decide) rfl rfl h (fun r2 h => ?_)
    refine g_if_ne C dX5_write_18 (tgt := 24) rfl rfl (fun q => ?_) (fun q => ?_)
    · have h := h.2 q
      refine g_aload_n C dX5_write_24 rfl rfl rfl ?_
      refine g_bipush C dX5_write_25 bp_10 rfl ?_
      refine g_iload_n C dX5_write_27 rfl rfl rfl ?_
      refine g_imul C dX5_write_28 rfl ?_
      refine g_iload_n C dX5_write_29 rfl rfl rfl ?_
      refine g_iadd C dX5_write_30 rfl ?_
      refine k_X5_92 C dX5_write_31 (Nat.le_of_ble_eq_true rfl) (by decide) rfl rfl h (fun r3 h => ?_)
      refine g_istore C dX5_write_34 (Nat.le_of_ble_eq_true rfl) (L' := [some (.ref (ad V 93)), some (.int y1), some (.int y2), some (.int y3), some (.int r3)]) rfl rfl ?_
      refine g_iload C dX5_write_36 rfl rfl ?_
      refine g_if_ge C dX5_write_38 (tgt := 44) rfl rfl (fun q => ?_) (fun q => ?_)
      · have h := h.1 q
        refine g_aload_n C dX5_write_44 rfl rfl rfl ?_
        refine k_X5_64 C dX5_write_45 (Nat.le_of_ble_eq_true rfl) (by decide) rfl rfl h (fun σ4 h => ?_)
        refine g_aload_n C dX5_write_48 rfl rfl rfl ?_
        refine g_bipush C dX5_write_49 bp_10 rfl ?_
        refine g_iload_n C dX5_write_51 rfl rfl rfl ?_
        refine g_imul C dX5_write_52 rfl ?_
        refine g_iload_n C dX5_write_53 rfl rfl rfl ?_
        refine g_iadd C dX5_write_54 rfl ?_
        refine g_iload_n C dX5_write_55 rfl rfl rfl ?_
        refine k_X5_95 C dX5_write_56 (Nat.le_of_ble_eq_true rfl) (by decide) rfl rfl h (fun r5 σ6 h => ?_)
        exact g_iret C dX5_write_59 D h
      · have h := h.2 q
        refine g_iload C dX5_write_41 rfl rfl ?_
        exact g_iret C dX5_write_43 D h
    · have h := h.1 q
      refine g_bipush C dX5_write_21 bp_m2 rfl ?_
      exact g_iret C dX5_write_23 D h
  · have h := h.1 q
    refine g_iconst C dX5_write_8 ic_m1 rfl ?_
    exact g_iret C dX5_write_9 D h
theorem hd_X5_write : yX5_write.cls ≠ "java/lang/invoke/MethodHandle" ∧ yX5_write.cls ≠ "java/lang/invoke/VarHandle" ∧ (parseMethodDescriptor yX5_write.desc).map (fun d => d.parameters.length) = some 3 := by decide +kernel

theorem dX5_giveBackNow_0 : decode cX5_giveBackNow 0 = .ok (.aload_n 0, 1) := by decide +kernel
theorem dX5_giveBackNow_1 : decode cX5_giveBackNow 1 = .ok (.iload_n 1, 1) := by decide +kernel
theorem dX5_giveBackNow_2 : decode cX5_giveBackNow 2 = .ok (.iconst 0, 1) := by decide +kernel
theorem dX5_giveBackNow_3 : decode cX5_giveBackNow 3 = .ok (.invokevirtual 40, 3) := by decide +kernel
theorem dX5_giveBackNow_6 : decode cX5_giveBackNow 6 = .ok (.bipush (-5), 2) := by decide +kernel
theorem dX5_giveBackNow_8 : decode cX5_giveBackNow 8 = .ok (.if_icmp .eq 27, 3) := by decide +kernel
theorem dX5_giveBackNow_11 : decode cX5_giveBackNow 11 = .ok (.aload_n 0, 1) := by decide +kernel
theorem dX5_giveBackNow_12 : decode cX5_giveBackNow 12 = .ok (.getfield 7, 3) := by decide +kernel
theorem dX5_giveBackNow_15 : decode cX5_giveBackNow 15 = .ok (.bipush 23, 2) := by decide +kernel
theorem dX5_giveBackNow_17 : decode cX5_giveBackNow 17 = .ok (.aload_n 0, 1) := by decide +kernel
theorem dX5_giveBackNow_18 : decode cX5_giveBackNow 18 = .ok (.iload_n 1, 1) := by decide +kernel
theorem dX5_giveBackNow_19 : decode cX5_giveBackNow 19 = .ok (.iconst 0, 1) := by decide +kernel
theorem dX5_giveBackNow_20 : decode cX5_giveBackNow 20 = .ok (.invokevirtual 40, 3) := by decide +kernel
theorem dX5_giveBackNow_23 : decode cX5_giveBackNow 23 = .ok (.iadd, 1) := by decide +kernel
theorem dX5_giveBackNow_24 : decode cX5_giveBackNow 24 = .ok (.iconst 0, 1) := by decide +kernel
theorem dX5_giveBackNow_25 : decode cX5_giveBackNow 25 = .ok (.iastore, 1) := by decide +kernel
theorem dX5_giveBackNow_26 : decode cX5_giveBackNow 26 = .ok (.aload_n 0, 1) := by decide +kernel
theorem dX5_giveBackNow_27 : decode cX5_giveBackNow 27 = .ok (.iload_n 1, 1) := by decide +kernel
theorem dX5_giveBackNow_28 : decode cX5_giveBackNow 28 = .ok (.invokevirtual 28, 3) := by decide +kernel
theorem dX5_giveBackNow_31 : decode cX5_giveBackNow 31 = .ok (.aload_n 0, 1) := by decide +kernel
theorem dX5_giveBackNow_32 : decode cX5_giveBackNow 32 = .ok (.invokevirtual 67, 3) := by decide +kernel
theorem dX5_giveBackNow_35 : decode cX5_giveBackNow 35 = .ok (.return_, 1) := by decide +kernel
def wp_X5_giveBackNow (σ : Mem) (y1 : Int32) (P : Mem → Prop) : Prop :=
  wp_X5_of σ y1 0 (fun r1 =>
    ((r1 = (-5) →
    P σ) ∧
    (¬ r1 = (-5) →
    wp_X5_of σ y1 0 (fun r2 =>
      vp_in (23 + r2) 313 ∧ bm (up2 σ 94 (23 + r2).toNatClampNeg 0) (fun σ3 =>
      wp_X5_empty σ3 y1 (fun σ4 =>
      wp_X5_look σ4  (fun σ5 =>
      P σ5)))))))
set_option maxRecDepth 100000 in
set_option maxHeartbeats 4000000 in
theorem c_X5_giveBackNow (V : EV) (σ : Mem) (y1 : Int32) (P : Mem → Prop) (l : Launch) : Met l yX5_giveBackNow (.code yX5_giveBackNow cX5_giveBackNow 2 (none) :: AW) { frames := 3, cells := 0, slots := 0, locals := 71 } (va_Pc [.ref (ad V 93), .int y1] (fun U => wP V σ U ∧ wp_X5_giveBackNow σ y1 P)) (va_Qv P (wB V) (AA V)) 0 0 (AA V) := by
  refine met_v V σ (own := RX5) (by decide +kernel) rfl (fun v hv => by simp at hv; rcases hv with rfl | rfl <;> rfl) (Nat.le_of_ble_eq_true rfl) (fun X C D h => ?_) l
  show GG V X σ 0 [some (.ref (ad V 93)), some (.int y1)] []
  refine g_aload_n C dX5_giveBackNow_0 rfl rfl rfl ?_
  refine g_iload_n C dX5_giveBackNow_1 rfl rfl rfl ?_
  refine g_iconst C dX5_giveBackNow_2 ic_0 rfl ?_
  refine k_X5_40 C dX5_giveBackNow_3 (Nat.le_of_ble_eq_true rfl) (by decide) rfl rfl h (fun r1 h => ?_)
  refine g_bipush C dX5_giveBackNow_6 bp_m5 rfl ?_
  refine g_icmp_eq C dX5_giveBackNow_8 (tgt := 35) rfl rfl (fun q => ?_) (fun q => ?_)
  · have h := h.1 q
    exact g_vret C dX5_giveBackNow_35 D h
  · have h := h.2 q
    refine g_aload_n C dX5_giveBackNow_11 rfl rfl rfl ?_
    refine f_X5_7 C dX5_giveBackNow_12 rfl ?_
    refine g_bipush C dX5_giveBackNow_15 bp_23 rfl ?_
    refine g_aload_n C dX5_giveBackNow_17 rfl rfl rfl ?_
    refine g_iload_n C dX5_giveBackNow_18 rfl rfl rfl ?_
    refine g_iconst C dX5_giveBackNow_19 ic_0 rfl ?_
    refine k_X5_40 C dX5_giveBackNow_20 (Nat.le_of_ble_eq_true rfl) (by decide) rfl rfl h (fun r2 h => ?_)
    refine g_iadd C dX5_giveBackNow_23 rfl ?_
    refine g_iconst C dX5_giveBackNow_24 ic_0 rfl ?_
    obtain ⟨hin, h⟩ := h
    refine g_ist C dX5_giveBackNow_25 arr_94 hin rfl h (fun σ3 h => ?_)
    refine g_aload_n C dX5_giveBackNow_26 rfl rfl rfl ?_
    refine g_iload_n C dX5_giveBackNow_27 rfl rfl rfl ?_
    refine k_X5_28 C dX5_giveBackNow_28 (Nat.le_of_ble_eq_true rfl) (by decide) rfl rfl h (fun σ4 h => ?_)
    refine g_aload_n C dX5_giveBackNow_31 rfl rfl rfl ?_
    refine k_X5_67 C dX5_giveBackNow_32 (Nat.le_of_ble_eq_true rfl) (by decide) rfl rfl h (fun σ5 h => ?_)
    exact g_vret C dX5_giveBackNow_35 D h
theorem hd_X5_giveBackNow : yX5_giveBackNow.cls ≠ "java/lang/invoke/MethodHandle" ∧ yX5_giveBackNow.cls ≠ "java/lang/invoke/VarHandle" ∧ (parseMethodDescriptor yX5_giveBackNow.desc).map (fun d => d.parameters.length) = some 1 := by decide +kernel
theorem k_X5_98 {V : EV} {X : CX} {cc : ByteArray} {nL : Nat} {R : Room} {y1 : Int32} (C : OK V X RX5 cc nL R) {σ : Mem} {pc pc' : Nat} {L : List (Option Value)} {st : List Value} {P : Mem → Prop} (d : decode cc pc = .ok (.invokevirtual 98, 3)) (hst : (st.map fun v => v.category).sum ≤ 8) (hr : 3 + 1 ≤ R.frames ∧ 8 + (2 + 11) + 71 ≤ R.locals) (hL : L.length = nL) (hp : pc + 3 = pc') (h : wp_X5_giveBackNow σ y1 P) (k : ∀ τ, P τ → GG V X τ pc' L st) : GG V X σ pc L (.int y1 :: .ref (ad V 93) :: st) :=
  g_callVv C (av := [.int y1]) (fun l => c_X5_giveBackNow V σ y1 P l) (by decide) (en_93 V σ) (q := (RX5, TX5, 13)) rfl rfl ml_RX5_98 im_X5_giveBackNow se_X5_giveBackNow ini_RX5 co_X5_giveBackNow hd_X5_giveBackNow rfl ⟨rfl, rfl⟩ hr hst d hL hp h k

theorem dX5_giveBack_0 : decode cX5_giveBack 0 = .ok (.iload_n 1, 1) := by decide +kernel
theorem dX5_giveBack_1 : decode cX5_giveBack 1 = .ok (.iload_n 2, 1) := by decide +kernel
theorem dX5_giveBack_2 : decode cX5_giveBack 2 = .ok (.invokestatic 88, 3) := by decide +kernel
theorem dX5_giveBack_5 : decode cX5_giveBack 5 = .ok (.ifCond .ne 5, 3) := by decide +kernel
theorem dX5_giveBack_8 : decode cX5_giveBack 8 = .ok (.iconst (-1), 1) := by decide +kernel
theorem dX5_giveBack_9 : decode cX5_giveBack 9 = .ok (.ireturn, 1) := by decide +kernel
theorem dX5_giveBack_10 : decode cX5_giveBack 10 = .ok (.aload_n 0, 1) := by decide +kernel
theorem dX5_giveBack_11 : decode cX5_giveBack 11 = .ok (.bipush 10, 2) := by decide +kernel
theorem dX5_giveBack_13 : decode cX5_giveBack 13 = .ok (.iload_n 1, 1) := by decide +kernel
theorem dX5_giveBack_14 : decode cX5_giveBack 14 = .ok (.imul, 1) := by decide +kernel
theorem dX5_giveBack_15 : decode cX5_giveBack 15 = .ok (.iload_n 2, 1) := by decide +kernel
theorem dX5_giveBack_16 : decode cX5_giveBack 16 = .ok (.iadd, 1) := by decide +kernel
theorem dX5_giveBack_17 : decode cX5_giveBack 17 = .ok (.iconst 1, 1) := by decide +kernel
theorem dX5_giveBack_18 : decode cX5_giveBack 18 = .ok (.invokevirtual 40, 3) := by decide +kernel
theorem dX5_giveBack_21 : decode cX5_giveBack 21 = .ok (.istore_n 3, 1) := by decide +kernel
theorem dX5_giveBack_22 : decode cX5_giveBack 22 = .ok (.iload_n 3, 1) := by decide +kernel
theorem dX5_giveBack_23 : decode cX5_giveBack 23 = .ok (.bipush (-5), 2) := by decide +kernel
theorem dX5_giveBack_25 : decode cX5_giveBack 25 = .ok (.if_icmp .eq 17, 3) := by decide +kernel
theorem dX5_giveBack_28 : decode cX5_giveBack 28 = .ok (.aload_n 0, 1) := by decide +kernel
theorem dX5_giveBack_29 : decode cX5_giveBack 29 = .ok (.invokevirtual 64, 3) := by decide +kernel
theorem dX5_giveBack_32 : decode cX5_giveBack 32 = .ok (.aload_n 0, 1) := by decide +kernel
theorem dX5_giveBack_33 : decode cX5_giveBack 33 = .ok (.bipush 10, 2) := by decide +kernel
theorem dX5_giveBack_35 : decode cX5_giveBack 35 = .ok (.iload_n 1, 1) := by decide +kernel
theorem dX5_giveBack_36 : decode cX5_giveBack 36 = .ok (.imul, 1) := by decide +kernel
theorem dX5_giveBack_37 : decode cX5_giveBack 37 = .ok (.iload_n 2, 1) := by decide +kernel
theorem dX5_giveBack_38 : decode cX5_giveBack 38 = .ok (.iadd, 1) := by decide +kernel
theorem dX5_giveBack_39 : decode cX5_giveBack 39 = .ok (.invokevirtual 98, 3) := by decide +kernel
theorem dX5_giveBack_42 : decode cX5_giveBack 42 = .ok (.iload_n 3, 1) := by decide +kernel
theorem dX5_giveBack_43 : decode cX5_giveBack 43 = .ok (.ireturn, 1) := by decide +kernel
def wp_X5_giveBack (σ : Mem) (y1 : Int32) (y2 : Int32) (P : Int32 → Mem → Prop) : Prop :=
  wp_X5_isPage σ y1 y2 (fun r1 =>
    ((r1 = 0 →
    P (-1) σ) ∧
    (¬ r1 = 0 →
    wp_X5_of σ ((10 * y1) + y2) 1 (fun r2 =>
      ((r2 = (-5) →
      P r2 σ) ∧
      (¬ r2 = (-5) →
      wp_X5_record σ  (fun σ3 =>
        wp_X5_giveBackNow σ3 ((10 * y1) + y2) (fun σ4 =>
        P r2 σ4))))))))
set_option maxRecDepth 100000 in
set_option maxHeartbeats 4000000 in
theorem c_X5_giveBack (V : EV) (σ : Mem) (y1 : Int32) (y2 : Int32) (P : Int32 → Mem → Prop) (l : Launch) : Met l yX5_giveBack (.code yX5_giveBack cX5_giveBack 4 (some .int) :: AW) { frames := 4, cells := 0, slots := 0, locals := 92 } (va_Pc [.ref (ad V 93), .int y1, .int y2] (fun U => wP V σ U ∧ wp_X5_giveBack σ y1 y2 P)) (va_Qi P (wB V) (AA V)) 0 0 (AA V) := by
  refine met_i V σ (own := RX5) (by decide +kernel) rfl (fun v hv => by simp at hv; rcases hv with rfl | rfl | rfl <;> rfl) (Nat.le_of_ble_eq_true rfl) (fun X C D h => ?_) l
  show GG V X σ 0 [some (.ref (ad V 93)), some (.int y1), some (.int y2), none] []
  refine g_iload_n C dX5_giveBack_0 rfl rfl rfl ?_
  refine g_iload_n C dX5_giveBack_1 rfl rfl rfl ?_
  refine k_X5_88 C dX5_giveBack_2 (Nat.le_of_ble_eq_true rfl) (by decide) rfl rfl h (fun r1 h => ?_)
  refine g_if_ne C dX5_giveBack_5 (tgt := 10) rfl rfl (fun q => ?_) (fun q => ?_)
  · have h := h.2 q
    refine g_aload_n C dX5_giveBack_10 rfl rfl rfl ?_
    refine g_bipush C dX5_giveBack_11 bp_10 rfl ?_
    refine g_iload_n C dX5_giveBack_13 rfl rfl rfl ?_
    refine g_imul C dX5_giveBack_14 rfl ?_
    refine g_iload_n C dX5_giveBack_15 rfl rfl rfl ?_
    refine g_iadd C dX5_giveBack_16 rfl ?_
    refine g_iconst C dX5_giveBack_17 ic_1 rfl ?_
    refine k_X5_40 C dX5_giveBack_18 (Nat.le_of_ble_eq_true rfl) (by decide) rfl rfl h (fun r2 h => ?_)
    refine g_istore_n C dX5_giveBack_21 rfl (Nat.le_of_ble_eq_true rfl) (L' := [some (.ref (ad V 93)), some (.int y1), some (.int y2), some (.int r2)]) rfl rfl ?_
    refine g_iload_n C dX5_giveBack_22 rfl rfl rfl ?_
    refine g_bipush C dX5_giveBack_23 bp_m5 rfl ?_
    refine g_icmp_eq C dX5_giveBack_25 (tgt := 42) rfl rfl (fun q => ?_) (fun q => ?_)
    · have h := h.1 q
      refine g_iload_n C dX5_giveBack_42 rfl rfl rfl ?_
      exact g_iret C dX5_giveBack_43 D h
    · have h := h.2 q
      refine g_aload_n C dX5_giveBack_28 rfl rfl rfl ?_
      refine k_X5_64 C dX5_giveBack_29 (Nat.le_of_ble_eq_true rfl) (by decide) rfl rfl h (fun σ3 h => ?_)
      refine g_aload_n C dX5_giveBack_32 rfl rfl rfl ?_
      refine g_bipush C dX5_giveBack_33 bp_10 rfl ?_
      refine g_iload_n C dX5_giveBack_35 rfl rfl rfl ?_
      refine g_imul C dX5_giveBack_36 rfl ?_
      refine g_iload_n C dX5_giveBack_37 rfl rfl rfl ?_
      refine g_iadd C dX5_giveBack_38 rfl ?_
      refine k_X5_98 C dX5_giveBack_39 (Nat.le_of_ble_eq_true rfl) (by decide) rfl rfl h (fun σ4 h => ?_)
      refine g_iload_n C dX5_giveBack_42 rfl rfl rfl ?_
      exact g_iret C dX5_giveBack_43 D h
  · have h := h.1 q
    refine g_iconst C dX5_giveBack_8 ic_m1 rfl ?_
    exact g_iret C dX5_giveBack_9 D h
theorem hd_X5_giveBack : yX5_giveBack.cls ≠ "java/lang/invoke/MethodHandle" ∧ yX5_giveBack.cls ≠ "java/lang/invoke/VarHandle" ∧ (parseMethodDescriptor yX5_giveBack.desc).map (fun d => d.parameters.length) = some 2 := by decide +kernel

theorem dX5_pinned_0 : decode cX5_pinned 0 = .ok (.iconst 0, 1) := by decide +kernel
theorem dX5_pinned_1 : decode cX5_pinned 1 = .ok (.istore_n 3, 1) := by decide +kernel
theorem dX5_pinned_2 : decode cX5_pinned 2 = .ok (.iload_n 1, 1) := by decide +kernel
theorem dX5_pinned_3 : decode cX5_pinned 3 = .ok (.istore 4, 2) := by decide +kernel
theorem dX5_pinned_5 : decode cX5_pinned 5 = .ok (.iload 4, 2) := by decide +kernel
theorem dX5_pinned_7 : decode cX5_pinned 7 = .ok (.iload_n 1, 1) := by decide +kernel
theorem dX5_pinned_8 : decode cX5_pinned 8 = .ok (.iload_n 2, 1) := by decide +kernel
theorem dX5_pinned_9 : decode cX5_pinned 9 = .ok (.iadd, 1) := by decide +kernel
theorem dX5_pinned_10 : decode cX5_pinned 10 = .ok (.if_icmp .ge 19, 3) := by decide +kernel
theorem dX5_pinned_13 : decode cX5_pinned 13 = .ok (.iload_n 3, 1) := by decide +kernel
theorem dX5_pinned_14 : decode cX5_pinned 14 = .ok (.aload_n 0, 1) := by decide +kernel
theorem dX5_pinned_15 : decode cX5_pinned 15 = .ok (.iload 4, 2) := by decide +kernel
theorem dX5_pinned_17 : decode cX5_pinned 17 = .ok (.iconst 2, 1) := by decide +kernel
theorem dX5_pinned_18 : decode cX5_pinned 18 = .ok (.invokevirtual 40, 3) := by decide +kernel
theorem dX5_pinned_21 : decode cX5_pinned 21 = .ok (.iadd, 1) := by decide +kernel
theorem dX5_pinned_22 : decode cX5_pinned 22 = .ok (.istore_n 3, 1) := by decide +kernel
theorem dX5_pinned_23 : decode cX5_pinned 23 = .ok (.iinc 4 1, 3) := by decide +kernel
theorem dX5_pinned_26 : decode cX5_pinned 26 = .ok (.goto (-21), 3) := by decide +kernel
theorem dX5_pinned_29 : decode cX5_pinned 29 = .ok (.iload_n 3, 1) := by decide +kernel
theorem dX5_pinned_30 : decode cX5_pinned 30 = .ok (.ireturn, 1) := by decide +kernel
def wp_X5_pinned (σ : Mem) (y1 : Int32) (y2 : Int32) (P : Int32 → Prop) : Prop :=
  lq2 (fun rec3 (x1 : Int32) (x2 : Int32) =>
    (((y1 + y2) ≤ x2 →
      P x1) ∧
      (¬ (y1 + y2) ≤ x2 →
      wp_X5_of σ x2 2 (fun r4 =>
        rec3 (x1 + r4) (x2 + 1))))) 0 y1
set_option maxRecDepth 100000 in
set_option maxHeartbeats 4000000 in
theorem c_X5_pinned (V : EV) (σ : Mem) (y1 : Int32) (y2 : Int32) (P : Int32 → Prop) (l : Launch) : Met l yX5_pinned (.code yX5_pinned cX5_pinned 5 (some .int) :: AW) { frames := 1, cells := 0, slots := 0, locals := 22 } (va_Pc [.ref (ad V 93), .int y1, .int y2] (fun U => wP V σ U ∧ wp_X5_pinned σ y1 y2 P)) (va_Qi (fun r τ => τ = σ ∧ P r) (wB V) (AA V)) 0 0 (AA V) := by
  refine met_i V σ (own := RX5) (by decide +kernel) rfl (fun v hv => by simp at hv; rcases hv with rfl | rfl | rfl <;> rfl) (Nat.le_of_ble_eq_true rfl) (fun X C D h => ?_) l
  show GG V X σ 0 [some (.ref (ad V 93)), some (.int y1), some (.int y2), none, none] []
  refine g_iconst C dX5_pinned_0 ic_0 rfl ?_
  refine g_istore_n C dX5_pinned_1 rfl (Nat.le_of_ble_eq_true rfl) (L' := [some (.ref (ad V 93)), some (.int y1), some (.int y2), some (.int 0), none]) rfl rfl ?_
  refine g_iload_n C dX5_pinned_2 rfl rfl rfl ?_
  refine g_istore C dX5_pinned_3 (Nat.le_of_ble_eq_true rfl) (L' := [some (.ref (ad V 93)), some (.int y1), some (.int y2), some (.int 0), some (.int y1)]) rfl rfl ?_
  refine h (fun (x1 : Int32) (x2 : Int32) => GG V X σ 5 [some (.ref (ad V 93)), some (.int y1), some (.int y2), some (.int x1), some (.int x2)] []) (fun x1 x2 h => ?_)
  refine g_iload C dX5_pinned_5 rfl rfl ?_
  refine g_iload_n C dX5_pinned_7 rfl rfl rfl ?_
  refine g_iload_n C dX5_pinned_8 rfl rfl rfl ?_
  refine g_iadd C dX5_pinned_9 rfl ?_
  refine g_icmp_ge C dX5_pinned_10 (tgt := 29) rfl rfl (fun q => ?_) (fun q => ?_)
  · have h := h.1 q
    refine g_iload_n C dX5_pinned_29 rfl rfl rfl ?_
    exact g_iret C dX5_pinned_30 D ⟨rfl, h⟩
  · have h := h.2 q
    refine g_iload_n C dX5_pinned_13 rfl rfl rfl ?_
    refine g_aload_n C dX5_pinned_14 rfl rfl rfl ?_
    refine g_iload C dX5_pinned_15 rfl rfl ?_
    refine g_iconst C dX5_pinned_17 ic_2 rfl ?_
    refine k_X5_40 C dX5_pinned_18 (Nat.le_of_ble_eq_true rfl) (by decide) rfl rfl h (fun r4 h => ?_)
    refine g_iadd C dX5_pinned_21 rfl ?_
    refine g_istore_n C dX5_pinned_22 rfl (Nat.le_of_ble_eq_true rfl) (L' := [some (.ref (ad V 93)), some (.int y1), some (.int y2), some (.int (x1 + r4)), some (.int x2)]) rfl rfl ?_
    refine g_iinc C dX5_pinned_23 (v := x2 + 1) (by rw [ic_1]) rfl (Nat.le_of_ble_eq_true rfl) (L' := [some (.ref (ad V 93)), some (.int y1), some (.int y2), some (.int (x1 + r4)), some (.int (x2 + 1))]) rfl rfl ?_
    refine g_goto C dX5_pinned_26 (pc' := 5) rfl ?_
    exact h
theorem hd_X5_pinned : yX5_pinned.cls ≠ "java/lang/invoke/MethodHandle" ∧ yX5_pinned.cls ≠ "java/lang/invoke/VarHandle" ∧ (parseMethodDescriptor yX5_pinned.desc).map (fun d => d.parameters.length) = some 2 := by decide +kernel
theorem k_X5_104 {V : EV} {X : CX} {cc : ByteArray} {nL : Nat} {R : Room} {y1 : Int32} {y2 : Int32} (C : OK V X RX5 cc nL R) {σ : Mem} {pc pc' : Nat} {L : List (Option Value)} {st : List Value} {P : Int32 → Prop} (d : decode cc pc = .ok (.invokevirtual 104, 3)) (hst : (st.map fun v => v.category).sum ≤ 8) (hr : 1 + 1 ≤ R.frames ∧ 8 + (5 + 11) + 22 ≤ R.locals) (hL : L.length = nL) (hp : pc + 3 = pc') (h : wp_X5_pinned σ y1 y2 P) (k : ∀ r, P r → GG V X σ pc' L (.int r :: st)) : GG V X σ pc L (.int y2 :: .int y1 :: .ref (ad V 93) :: st) :=
  g_callVi C (av := [.int y1, .int y2]) (fun l => c_X5_pinned V σ y1 y2 P l) (by decide) (en_93 V σ) (q := (RX5, TX5, 13)) rfl rfl ml_RX5_104 im_X5_pinned se_X5_pinned ini_RX5 co_X5_pinned hd_X5_pinned rfl ⟨rfl, rfl⟩ hr hst d hL hp h (fun r τ hq => by obtain ⟨rfl, hq⟩ := hq; exact k r hq)

theorem dX5_pinNow_0 : decode cX5_pinNow 0 = .ok (.aload_n 0, 1) := by decide +kernel
theorem dX5_pinNow_1 : decode cX5_pinNow 1 = .ok (.iload_n 1, 1) := by decide +kernel
theorem dX5_pinNow_2 : decode cX5_pinNow 2 = .ok (.iconst 2, 1) := by decide +kernel
theorem dX5_pinNow_3 : decode cX5_pinNow 3 = .ok (.iload_n 2, 1) := by decide +kernel
theorem dX5_pinNow_4 : decode cX5_pinNow 4 = .ok (.invokevirtual 32, 3) := by decide +kernel
theorem dX5_pinNow_7 : decode cX5_pinNow 7 = .ok (.aload_n 0, 1) := by decide +kernel
theorem dX5_pinNow_8 : decode cX5_pinNow 8 = .ok (.invokevirtual 67, 3) := by decide +kernel
theorem dX5_pinNow_11 : decode cX5_pinNow 11 = .ok (.return_, 1) := by decide +kernel
def wp_X5_pinNow (σ : Mem) (y1 : Int32) (y2 : Int32) (P : Mem → Prop) : Prop :=
  wp_X5_lay σ y1 2 y2 (fun σ1 =>
    wp_X5_look σ1  (fun σ2 =>
    P σ2))
set_option maxRecDepth 100000 in
set_option maxHeartbeats 4000000 in
theorem c_X5_pinNow (V : EV) (σ : Mem) (y1 : Int32) (y2 : Int32) (P : Mem → Prop) (l : Launch) : Met l yX5_pinNow (.code yX5_pinNow cX5_pinNow 3 (none) :: AW) { frames := 3, cells := 0, slots := 0, locals := 71 } (va_Pc [.ref (ad V 93), .int y1, .int y2] (fun U => wP V σ U ∧ wp_X5_pinNow σ y1 y2 P)) (va_Qv P (wB V) (AA V)) 0 0 (AA V) := by
  refine met_v V σ (own := RX5) (by decide +kernel) rfl (fun v hv => by simp at hv; rcases hv with rfl | rfl | rfl <;> rfl) (Nat.le_of_ble_eq_true rfl) (fun X C D h => ?_) l
  show GG V X σ 0 [some (.ref (ad V 93)), some (.int y1), some (.int y2)] []
  refine g_aload_n C dX5_pinNow_0 rfl rfl rfl ?_
  refine g_iload_n C dX5_pinNow_1 rfl rfl rfl ?_
  refine g_iconst C dX5_pinNow_2 ic_2 rfl ?_
  refine g_iload_n C dX5_pinNow_3 rfl rfl rfl ?_
  refine k_X5_32 C dX5_pinNow_4 (Nat.le_of_ble_eq_true rfl) (by decide) rfl rfl h (fun σ1 h => ?_)
  refine g_aload_n C dX5_pinNow_7 rfl rfl rfl ?_
  refine k_X5_67 C dX5_pinNow_8 (Nat.le_of_ble_eq_true rfl) (by decide) rfl rfl h (fun σ2 h => ?_)
  exact g_vret C dX5_pinNow_11 D h
theorem hd_X5_pinNow : yX5_pinNow.cls ≠ "java/lang/invoke/MethodHandle" ∧ yX5_pinNow.cls ≠ "java/lang/invoke/VarHandle" ∧ (parseMethodDescriptor yX5_pinNow.desc).map (fun d => d.parameters.length) = some 2 := by decide +kernel
theorem k_X5_101 {V : EV} {X : CX} {cc : ByteArray} {nL : Nat} {R : Room} {y1 : Int32} {y2 : Int32} (C : OK V X RX5 cc nL R) {σ : Mem} {pc pc' : Nat} {L : List (Option Value)} {st : List Value} {P : Mem → Prop} (d : decode cc pc = .ok (.invokevirtual 101, 3)) (hst : (st.map fun v => v.category).sum ≤ 8) (hr : 3 + 1 ≤ R.frames ∧ 8 + (3 + 11) + 71 ≤ R.locals) (hL : L.length = nL) (hp : pc + 3 = pc') (h : wp_X5_pinNow σ y1 y2 P) (k : ∀ τ, P τ → GG V X τ pc' L st) : GG V X σ pc L (.int y2 :: .int y1 :: .ref (ad V 93) :: st) :=
  g_callVv C (av := [.int y1, .int y2]) (fun l => c_X5_pinNow V σ y1 y2 P l) (by decide) (en_93 V σ) (q := (RX5, TX5, 13)) rfl rfl ml_RX5_101 im_X5_pinNow se_X5_pinNow ini_RX5 co_X5_pinNow hd_X5_pinNow rfl ⟨rfl, rfl⟩ hr hst d hL hp h k

theorem dX5_pin_0 : decode cX5_pin 0 = .ok (.iload_n 1, 1) := by decide +kernel
theorem dX5_pin_1 : decode cX5_pin 1 = .ok (.iload_n 2, 1) := by decide +kernel
theorem dX5_pin_2 : decode cX5_pin 2 = .ok (.invokestatic 88, 3) := by decide +kernel
theorem dX5_pin_5 : decode cX5_pin 5 = .ok (.ifCond .ne 5, 3) := by decide +kernel
theorem dX5_pin_8 : decode cX5_pin 8 = .ok (.iconst (-1), 1) := by decide +kernel
theorem dX5_pin_9 : decode cX5_pin 9 = .ok (.ireturn, 1) := by decide +kernel
theorem dX5_pin_10 : decode cX5_pin 10 = .ok (.bipush 10, 2) := by decide +kernel
theorem dX5_pin_12 : decode cX5_pin 12 = .ok (.iload_n 1, 1) := by decide +kernel
theorem dX5_pin_13 : decode cX5_pin 13 = .ok (.imul, 1) := by decide +kernel
theorem dX5_pin_14 : decode cX5_pin 14 = .ok (.iload_n 2, 1) := by decide +kernel
theorem dX5_pin_15 : decode cX5_pin 15 = .ok (.iadd, 1) := by decide +kernel
theorem dX5_pin_16 : decode cX5_pin 16 = .ok (.istore 4, 2) := by decide +kernel
theorem dX5_pin_18 : decode cX5_pin 18 = .ok (.iload_n 3, 1) := by decide +kernel
theorem dX5_pin_19 : decode cX5_pin 19 = .ok (.ifCond .eq 7, 3) := by decide +kernel
theorem dX5_pin_22 : decode cX5_pin 22 = .ok (.iconst 1, 1) := by decide +kernel
theorem dX5_pin_23 : decode cX5_pin 23 = .ok (.goto 4, 3) := by decide +kernel
theorem dX5_pin_26 : decode cX5_pin 26 = .ok (.iconst 0, 1) := by decide +kernel
theorem dX5_pin_27 : decode cX5_pin 27 = .ok (.istore 5, 2) := by decide +kernel
theorem dX5_pin_29 : decode cX5_pin 29 = .ok (.aload_n 0, 1) := by decide +kernel
theorem dX5_pin_30 : decode cX5_pin 30 = .ok (.iload 4, 2) := by decide +kernel
theorem dX5_pin_32 : decode cX5_pin 32 = .ok (.iconst 0, 1) := by decide +kernel
theorem dX5_pin_33 : decode cX5_pin 33 = .ok (.invokevirtual 40, 3) := by decide +kernel
theorem dX5_pin_36 : decode cX5_pin 36 = .ok (.bipush (-5), 2) := by decide +kernel
theorem dX5_pin_38 : decode cX5_pin 38 = .ok (.if_icmp .eq 15, 3) := by decide +kernel
theorem dX5_pin_41 : decode cX5_pin 41 = .ok (.aload_n 0, 1) := by decide +kernel
theorem dX5_pin_42 : decode cX5_pin 42 = .ok (.iload 4, 2) := by decide +kernel
theorem dX5_pin_44 : decode cX5_pin 44 = .ok (.iconst 2, 1) := by decide +kernel
theorem dX5_pin_45 : decode cX5_pin 45 = .ok (.invokevirtual 40, 3) := by decide +kernel
theorem dX5_pin_48 : decode cX5_pin 48 = .ok (.iload 5, 2) := by decide +kernel
theorem dX5_pin_50 : decode cX5_pin 50 = .ok (.if_icmp .ne 23, 3) := by decide +kernel
theorem dX5_pin_53 : decode cX5_pin 53 = .ok (.aload_n 0, 1) := by decide +kernel
theorem dX5_pin_54 : decode cX5_pin 54 = .ok (.iload 4, 2) := by decide +kernel
theorem dX5_pin_56 : decode cX5_pin 56 = .ok (.iconst 0, 1) := by decide +kernel
theorem dX5_pin_57 : decode cX5_pin 57 = .ok (.invokevirtual 40, 3) := by decide +kernel
theorem dX5_pin_60 : decode cX5_pin 60 = .ok (.bipush (-5), 2) := by decide +kernel
theorem dX5_pin_62 : decode cX5_pin 62 = .ok (.if_icmp .ne 8, 3) := by decide +kernel
theorem dX5_pin_65 : decode cX5_pin 65 = .ok (.bipush (-4), 2) := by decide +kernel
theorem dX5_pin_67 : decode cX5_pin 67 = .ok (.goto 5, 3) := by decide +kernel
theorem dX5_pin_70 : decode cX5_pin 70 = .ok (.bipush (-5), 2) := by decide +kernel
theorem dX5_pin_72 : decode cX5_pin 72 = .ok (.ireturn, 1) := by decide +kernel
theorem dX5_pin_73 : decode cX5_pin 73 = .ok (.aload_n 0, 1) := by decide +kernel
theorem dX5_pin_74 : decode cX5_pin 74 = .ok (.invokevirtual 64, 3) := by decide +kernel
theorem dX5_pin_77 : decode cX5_pin 77 = .ok (.aload_n 0, 1) := by decide +kernel
theorem dX5_pin_78 : decode cX5_pin 78 = .ok (.iload 4, 2) := by decide +kernel
theorem dX5_pin_80 : decode cX5_pin 80 = .ok (.iload 5, 2) := by decide +kernel
theorem dX5_pin_82 : decode cX5_pin 82 = .ok (.invokevirtual 101, 3) := by decide +kernel
theorem dX5_pin_85 : decode cX5_pin 85 = .ok (.aload_n 0, 1) := by decide +kernel
theorem dX5_pin_86 : decode cX5_pin 86 = .ok (.iconst 0, 1) := by decide +kernel
theorem dX5_pin_87 : decode cX5_pin 87 = .ok (.bipush 50, 2) := by decide +kernel
theorem dX5_pin_89 : decode cX5_pin 89 = .ok (.invokevirtual 104, 3) := by decide +kernel
theorem dX5_pin_92 : decode cX5_pin 92 = .ok (.ireturn, 1) := by decide +kernel
def wp_X5_pin (σ : Mem) (y1 : Int32) (y2 : Int32) (y3 : Int32) (P : Int32 → Mem → Prop) : Prop :=
  wp_X5_isPage σ y1 y2 (fun r1 =>
    ((r1 = 0 →
    P (-1) σ) ∧
    (¬ r1 = 0 →
    jn (A := Int32 → Prop) (fun (v2 : Int32) =>
      wp_X5_of σ ((10 * y1) + y2) 0 (fun r4 =>
        jn (A := Prop) (wp_X5_of σ ((10 * y1) + y2) 0 (fun r6 =>
          ((r6 = (-5) →
          P (-4) σ) ∧
          (¬ r6 = (-5) →
          P (-5) σ))))
        (fun J5 =>
        ((r4 = (-5) →
        J5) ∧
        (¬ r4 = (-5) →
        wp_X5_of σ ((10 * y1) + y2) 2 (fun r7 =>
          ((r7 = v2 →
          J5) ∧
          (¬ r7 = v2 →
          wp_X5_record σ  (fun σ8 =>
            wp_X5_pinNow σ8 ((10 * y1) + y2) v2 (fun σ9 =>
            wp_X5_pinned σ9 0 50 (fun r10 =>
            P r10 σ9)))))))))))
      (fun J3 =>
      ((y3 = 0 →
      J3 0) ∧
      (¬ y3 = 0 →
      J3 1))))))
set_option maxRecDepth 100000 in
set_option maxHeartbeats 4000000 in
theorem c_X5_pin (V : EV) (σ : Mem) (y1 : Int32) (y2 : Int32) (y3 : Int32) (P : Int32 → Mem → Prop) (l : Launch) : Met l yX5_pin (.code yX5_pin cX5_pin 6 (some .int) :: AW) { frames := 4, cells := 0, slots := 0, locals := 93 } (va_Pc [.ref (ad V 93), .int y1, .int y2, .int y3] (fun U => wP V σ U ∧ wp_X5_pin σ y1 y2 y3 P)) (va_Qi P (wB V) (AA V)) 0 0 (AA V) := by
  refine met_i V σ (own := RX5) (by decide +kernel) rfl (fun v hv => by simp at hv; rcases hv with rfl | rfl | rfl | rfl <;> rfl) (Nat.le_of_ble_eq_true rfl) (fun X C D h => ?_) l
  show GG V X σ 0 [some (.ref (ad V 93)), some (.int y1), some (.int y2), some (.int y3), none, none] []
  refine g_iload_n C dX5_pin_0 rfl rfl rfl ?_
  refine g_iload_n C dX5_pin_1 rfl rfl rfl ?_
  refine k_X5_88 C dX5_pin_2 (Nat.le_of_ble_eq_true rfl) (by decide) rfl rfl h (fun r1 h => ?_)
  refine g_if_ne C dX5_pin_5 (tgt := 10) rfl rfl (fun q => ?_) (fun q => ?_)
  · have h := h.2 q
    refine g_bipush C dX5_pin_10 bp_10 rfl ?_
    refine g_iload_n C dX5_pin_12 rfl rfl rfl ?_
    refine g_imul C dX5_pin_13 rfl ?_
    refine g_iload_n C dX5_pin_14 rfl rfl rfl ?_
    refine g_iadd C dX5_pin_15 rfl ?_
    refine g_istore C dX5_pin_16 (Nat.le_of_ble_eq_true rfl) (L' := [some (.ref (ad V 93)), some (.int y1), some (.int y2), some (.int y3), some (.int ((10 * y1) + y2)), none]) rfl rfl ?_
    refine g_iload_n C dX5_pin_18 rfl rfl rfl ?_
    refine jn_go h (fun (J3 : Int32 → Prop) => ∀ (v2 : Int32), J3 v2 → GG V X σ 27 [some (.ref (ad V 93)), none, none, none, some (.int ((10 * y1) + y2)), none] [.int v2]) (fun v2 h => ?_) (fun J3 hJ3 h => ?_)
    · refine g_istore C dX5_pin_27 (Nat.le_of_ble_eq_true rfl) (L' := [some (.ref (ad V 93)), none, none, none, some (.int ((10 * y1) + y2)), some (.int v2)]) rfl rfl ?_
      refine g_aload_n C dX5_pin_29 rfl rfl rfl ?_
      refine g_iload C dX5_pin_30 rfl rfl ?_
      refine g_iconst C dX5_pin_32 ic_0 rfl ?_
      refine k_X5_40 C dX5_pin_33 (Nat.le_of_ble_eq_true rfl) (by decide) rfl rfl h (fun r4 h => ?_)
      refine g_bipush C dX5_pin_36 bp_m5 rfl ?_
      refine jn_go h (fun (J5 : Prop) => J5 → GG V X σ 53 [some (.ref (ad V 93)), none, none, none, some (.int ((10 * y1) + y2)), none] []) (fun h => ?_) (fun J5 hJ5 h => ?_)
      · refine g_aload_n C dX5_pin_53 rfl rfl rfl ?_
        refine g_iload C dX5_pin_54 rfl rfl ?_
        refine g_iconst C dX5_pin_56 ic_0 rfl ?_
        refine k_X5_40 C dX5_pin_57 (Nat.le_of_ble_eq_true rfl) (by decide) rfl rfl h (fun r6 h => ?_)
        refine g_bipush C dX5_pin_60 bp_m5 rfl ?_
        refine g_icmp_ne C dX5_pin_62 (tgt := 70) rfl rfl (fun q => ?_) (fun q => ?_)
        · have h := h.2 q
          refine g_bipush C dX5_pin_70 bp_m5 rfl ?_
          exact g_iret C dX5_pin_72 D h
        · have h := h.1 q
          refine g_bipush C dX5_pin_65 bp_m4 rfl ?_
          refine g_goto C dX5_pin_67 (pc' := 72) rfl ?_
          exact g_iret C dX5_pin_72 D h
      refine g_icmp_eq C dX5_pin_38 (tgt := 53) rfl rfl (fun q => ?_) (fun q => ?_)
      · have h := h.1 q
        refine g_drop 5 (L' := [some (.ref (ad V 93)), none, none, none, some (.int ((10 * y1) + y2)), none]) rfl ?_
        exact hJ5 h
      · have h := h.2 q
        refine g_aload_n C dX5_pin_41 rfl rfl rfl ?_
        refine g_iload C dX5_pin_42 rfl rfl ?_
        refine g_iconst C dX5_pin_44 ic_2 rfl ?_
        refine k_X5_40 C dX5_pin_45 (Nat.le_of_ble_eq_true rfl) (by decide) rfl rfl h (fun r7 h => ?_)
        refine g_iload C dX5_pin_48 rfl rfl ?_
        refine g_icmp_ne C dX5_pin_50 (tgt := 73) rfl rfl (fun q => ?_) (fun q => ?_)
        · have h := h.2 q
          refine g_aload_n C dX5_pin_73 rfl rfl rfl ?_
          refine k_X5_64 C dX5_pin_74 (Nat.le_of_ble_eq_true rfl) (by decide) rfl rfl h (fun σ8 h => ?_)
          refine g_aload_n C dX5_pin_77 rfl rfl rfl ?_
          refine g_iload C dX5_pin_78 rfl rfl ?_
          refine g_iload C dX5_pin_80 rfl rfl ?_
          refine k_X5_101 C dX5_pin_82 (Nat.le_of_ble_eq_true rfl) (by decide) rfl rfl h (fun σ9 h => ?_)
          refine g_aload_n C dX5_pin_85 rfl rfl rfl ?_
          refine g_iconst C dX5_pin_86 ic_0 rfl ?_
          refine g_bipush C dX5_pin_87 bp_50 rfl ?_
          refine k_X5_104 C dX5_pin_89 (Nat.le_of_ble_eq_true rfl) (by decide) rfl rfl h (fun r10 h => ?_)
          exact g_iret C dX5_pin_92 D h
        · have h := h.1 q
          refine g_drop 5 (L' := [some (.ref (ad V 93)), none, none, none, some (.int ((10 * y1) + y2)), none]) rfl ?_
          exact hJ5 h
    refine g_if_eq C dX5_pin_19 (tgt := 26) rfl rfl (fun q => ?_) (fun q => ?_)
    · have h := h.1 q
      refine g_iconst C dX5_pin_26 ic_0 rfl ?_
      refine g_drop 1 (L' := [some (.ref (ad V 93)), none, some (.int y2), some (.int y3), some (.int ((10 * y1) + y2)), none]) rfl ?_
      refine g_drop 2 (L' := [some (.ref (ad V 93)), none, none, some (.int y3), some (.int ((10 * y1) + y2)), none]) rfl ?_
      refine g_drop 3 (L' := [some (.ref (ad V 93)), none, none, none, some (.int ((10 * y1) + y2)), none]) rfl ?_
      exact hJ3 0 h
    · have h := h.2 q
      refine g_iconst C dX5_pin_22 ic_1 rfl ?_
      refine g_goto C dX5_pin_23 (pc' := 27) rfl ?_
      refine g_drop 1 (L' := [some (.ref (ad V 93)), none, some (.int y2), some (.int y3), some (.int ((10 * y1) + y2)), none]) rfl ?_
      refine g_drop 2 (L' := [some (.ref (ad V 93)), none, none, some (.int y3), some (.int ((10 * y1) + y2)), none]) rfl ?_
      refine g_drop 3 (L' := [some (.ref (ad V 93)), none, none, none, some (.int ((10 * y1) + y2)), none]) rfl ?_
      exact hJ3 1 h
  · have h := h.1 q
    refine g_iconst C dX5_pin_8 ic_m1 rfl ?_
    exact g_iret C dX5_pin_9 D h
theorem hd_X5_pin : yX5_pin.cls ≠ "java/lang/invoke/MethodHandle" ∧ yX5_pin.cls ≠ "java/lang/invoke/VarHandle" ∧ (parseMethodDescriptor yX5_pin.desc).map (fun d => d.parameters.length) = some 3 := by decide +kernel

theorem dX5_whyNotError_0 : decode cX5_whyNotError 0 = .ok (.iload_n 1, 1) := by decide +kernel
theorem dX5_whyNotError_1 : decode cX5_whyNotError 1 = .ok (.invokestatic 107, 3) := by decide +kernel
theorem dX5_whyNotError_4 : decode cX5_whyNotError 4 = .ok (.ifCond .ne 7, 3) := by decide +kernel
theorem dX5_whyNotError_7 : decode cX5_whyNotError 7 = .ok (.iconst (-1), 1) := by decide +kernel
theorem dX5_whyNotError_8 : decode cX5_whyNotError 8 = .ok (.goto 22, 3) := by decide +kernel
theorem dX5_whyNotError_11 : decode cX5_whyNotError 11 = .ok (.aload_n 0, 1) := by decide +kernel
theorem dX5_whyNotError_12 : decode cX5_whyNotError 12 = .ok (.getfield 7, 3) := by decide +kernel
theorem dX5_whyNotError_15 : decode cX5_whyNotError 15 = .ok (.bipush 23, 2) := by decide +kernel
theorem dX5_whyNotError_17 : decode cX5_whyNotError 17 = .ok (.iload_n 1, 1) := by decide +kernel
theorem dX5_whyNotError_18 : decode cX5_whyNotError 18 = .ok (.iadd, 1) := by decide +kernel
theorem dX5_whyNotError_19 : decode cX5_whyNotError 19 = .ok (.iaload, 1) := by decide +kernel
theorem dX5_whyNotError_20 : decode cX5_whyNotError 20 = .ok (.iconst 2, 1) := by decide +kernel
theorem dX5_whyNotError_21 : decode cX5_whyNotError 21 = .ok (.if_icmp .ne 8, 3) := by decide +kernel
theorem dX5_whyNotError_24 : decode cX5_whyNotError 24 = .ok (.bipush (-4), 2) := by decide +kernel
theorem dX5_whyNotError_26 : decode cX5_whyNotError 26 = .ok (.goto 4, 3) := by decide +kernel
theorem dX5_whyNotError_29 : decode cX5_whyNotError 29 = .ok (.iconst 0, 1) := by decide +kernel
theorem dX5_whyNotError_30 : decode cX5_whyNotError 30 = .ok (.ireturn, 1) := by decide +kernel
def wp_X5_whyNotError (σ : Mem) (y1 : Int32) (P : Int32 → Prop) : Prop :=
  wp_X5_isCell σ y1 (fun r1 =>
    ((r1 = 0 →
    P (-1)) ∧
    (¬ r1 = 0 →
    vp_in (23 + y1) 313 ∧ (((σ 94 (23 + y1).toNatClampNeg) = 2 →
      P (-4)) ∧
      (¬ (σ 94 (23 + y1).toNatClampNeg) = 2 →
      P 0)))))
set_option maxRecDepth 100000 in
set_option maxHeartbeats 4000000 in
theorem c_X5_whyNotError (V : EV) (σ : Mem) (y1 : Int32) (P : Int32 → Prop) (l : Launch) : Met l yX5_whyNotError (.code yX5_whyNotError cX5_whyNotError 2 (some .int) :: AW) { frames := 2, cells := 0, slots := 0, locals := 42 } (va_Pc [.ref (ad V 93), .int y1] (fun U => wP V σ U ∧ wp_X5_whyNotError σ y1 P)) (va_Qi (fun r τ => τ = σ ∧ P r) (wB V) (AA V)) 0 0 (AA V) := by
  refine met_i V σ (own := RX5) (by decide +kernel) rfl (fun v hv => by simp at hv; rcases hv with rfl | rfl <;> rfl) (Nat.le_of_ble_eq_true rfl) (fun X C D h => ?_) l
  show GG V X σ 0 [some (.ref (ad V 93)), some (.int y1)] []
  refine g_iload_n C dX5_whyNotError_0 rfl rfl rfl ?_
  refine k_X5_107 C dX5_whyNotError_1 (Nat.le_of_ble_eq_true rfl) (by decide) rfl rfl h (fun r1 h => ?_)
  refine g_if_ne C dX5_whyNotError_4 (tgt := 11) rfl rfl (fun q => ?_) (fun q => ?_)
  · have h := h.2 q
    refine g_aload_n C dX5_whyNotError_11 rfl rfl rfl ?_
    refine f_X5_7 C dX5_whyNotError_12 rfl ?_
    refine g_bipush C dX5_whyNotError_15 bp_23 rfl ?_
    refine g_iload_n C dX5_whyNotError_17 rfl rfl rfl ?_
    refine g_iadd C dX5_whyNotError_18 rfl ?_
    obtain ⟨hin, h⟩ := h
    refine g_ild C dX5_whyNotError_19 arr_94 hin rfl ?_
    refine g_iconst C dX5_whyNotError_20 ic_2 rfl ?_
    refine g_icmp_ne C dX5_whyNotError_21 (tgt := 29) rfl rfl (fun q => ?_) (fun q => ?_)
    · have h := h.2 q
      refine g_iconst C dX5_whyNotError_29 ic_0 rfl ?_
      exact g_iret C dX5_whyNotError_30 D ⟨rfl, h⟩
    · have h := h.1 q
      refine g_bipush C dX5_whyNotError_24 bp_m4 rfl ?_
      refine g_goto C dX5_whyNotError_26 (pc' := 30) rfl ?_
      exact g_iret C dX5_whyNotError_30 D ⟨rfl, h⟩
  · have h := h.1 q
    refine g_iconst C dX5_whyNotError_7 ic_m1 rfl ?_
    refine g_goto C dX5_whyNotError_8 (pc' := 30) rfl ?_
    exact g_iret C dX5_whyNotError_30 D ⟨rfl, h⟩
theorem hd_X5_whyNotError : yX5_whyNotError.cls ≠ "java/lang/invoke/MethodHandle" ∧ yX5_whyNotError.cls ≠ "java/lang/invoke/VarHandle" ∧ (parseMethodDescriptor yX5_whyNotError.desc).map (fun d => d.parameters.length) = some 1 := by decide +kernel
theorem k_X5_110 {V : EV} {X : CX} {cc : ByteArray} {nL : Nat} {R : Room} {y1 : Int32} (C : OK V X RX5 cc nL R) {σ : Mem} {pc pc' : Nat} {L : List (Option Value)} {st : List Value} {P : Int32 → Prop} (d : decode cc pc = .ok (.invokevirtual 110, 3)) (hst : (st.map fun v => v.category).sum ≤ 8) (hr : 2 + 1 ≤ R.frames ∧ 8 + (2 + 11) + 42 ≤ R.locals) (hL : L.length = nL) (hp : pc + 3 = pc') (h : wp_X5_whyNotError σ y1 P) (k : ∀ r, P r → GG V X σ pc' L (.int r :: st)) : GG V X σ pc L (.int y1 :: .ref (ad V 93) :: st) :=
  g_callVi C (av := [.int y1]) (fun l => c_X5_whyNotError V σ y1 P l) (by decide) (en_93 V σ) (q := (RX5, TX5, 13)) rfl rfl ml_RX5_110 im_X5_whyNotError se_X5_whyNotError ini_RX5 co_X5_whyNotError hd_X5_whyNotError rfl ⟨rfl, rfl⟩ hr hst d hL hp h (fun r τ hq => by obtain ⟨rfl, hq⟩ := hq; exact k r hq)

theorem dX5_errorNow_0 : decode cX5_errorNow 0 = .ok (.aload_n 0, 1) := by decide +kernel
theorem dX5_errorNow_1 : decode cX5_errorNow 1 = .ok (.iconst 2, 1) := by decide +kernel
theorem dX5_errorNow_2 : decode cX5_errorNow 2 = .ok (.invokevirtual 60, 3) := by decide +kernel
theorem dX5_errorNow_5 : decode cX5_errorNow 5 = .ok (.istore_n 2, 1) := by decide +kernel
theorem dX5_errorNow_6 : decode cX5_errorNow 6 = .ok (.aload_n 0, 1) := by decide +kernel
theorem dX5_errorNow_7 : decode cX5_errorNow 7 = .ok (.getfield 7, 3) := by decide +kernel
theorem dX5_errorNow_10 : decode cX5_errorNow 10 = .ok (.bipush 63, 2) := by decide +kernel
theorem dX5_errorNow_12 : decode cX5_errorNow 12 = .ok (.iload_n 1, 1) := by decide +kernel
theorem dX5_errorNow_13 : decode cX5_errorNow 13 = .ok (.iadd, 1) := by decide +kernel
theorem dX5_errorNow_14 : decode cX5_errorNow 14 = .ok (.dup2, 1) := by decide +kernel
theorem dX5_errorNow_15 : decode cX5_errorNow 15 = .ok (.iaload, 1) := by decide +kernel
theorem dX5_errorNow_16 : decode cX5_errorNow 16 = .ok (.iconst 1, 1) := by decide +kernel
theorem dX5_errorNow_17 : decode cX5_errorNow 17 = .ok (.iadd, 1) := by decide +kernel
theorem dX5_errorNow_18 : decode cX5_errorNow 18 = .ok (.iastore, 1) := by decide +kernel
theorem dX5_errorNow_19 : decode cX5_errorNow 19 = .ok (.aload_n 0, 1) := by decide +kernel
theorem dX5_errorNow_20 : decode cX5_errorNow 20 = .ok (.getfield 7, 3) := by decide +kernel
theorem dX5_errorNow_23 : decode cX5_errorNow 23 = .ok (.iconst 4, 1) := by decide +kernel
theorem dX5_errorNow_24 : decode cX5_errorNow 24 = .ok (.dup2, 1) := by decide +kernel
theorem dX5_errorNow_25 : decode cX5_errorNow 25 = .ok (.iaload, 1) := by decide +kernel
theorem dX5_errorNow_26 : decode cX5_errorNow 26 = .ok (.iconst 1, 1) := by decide +kernel
theorem dX5_errorNow_27 : decode cX5_errorNow 27 = .ok (.iadd, 1) := by decide +kernel
theorem dX5_errorNow_28 : decode cX5_errorNow 28 = .ok (.iastore, 1) := by decide +kernel
theorem dX5_errorNow_29 : decode cX5_errorNow 29 = .ok (.aload_n 0, 1) := by decide +kernel
theorem dX5_errorNow_30 : decode cX5_errorNow 30 = .ok (.invokevirtual 67, 3) := by decide +kernel
theorem dX5_errorNow_33 : decode cX5_errorNow 33 = .ok (.aload_n 0, 1) := by decide +kernel
theorem dX5_errorNow_34 : decode cX5_errorNow 34 = .ok (.iconst 2, 1) := by decide +kernel
theorem dX5_errorNow_35 : decode cX5_errorNow 35 = .ok (.invokevirtual 60, 3) := by decide +kernel
theorem dX5_errorNow_38 : decode cX5_errorNow 38 = .ok (.iload_n 2, 1) := by decide +kernel
theorem dX5_errorNow_39 : decode cX5_errorNow 39 = .ok (.isub, 1) := by decide +kernel
theorem dX5_errorNow_40 : decode cX5_errorNow 40 = .ok (.ireturn, 1) := by decide +kernel
def wp_X5_errorNow (σ : Mem) (y1 : Int32) (P : Int32 → Mem → Prop) : Prop :=
  wp_X5_cells σ 2 (fun r1 =>
    vp_in (63 + y1) 313 ∧ vp_in (63 + y1) 313 ∧ bm (up2 σ 94 (63 + y1).toNatClampNeg ((σ 94 (63 + y1).toNatClampNeg) + 1)) (fun σ2 =>
    bm (up2 σ2 94 4 ((σ2 94 4) + 1)) (fun σ3 =>
    wp_X5_look σ3  (fun σ4 =>
    wp_X5_cells σ4 2 (fun r5 =>
    P (r5 - r1) σ4)))))
set_option maxRecDepth 100000 in
set_option maxHeartbeats 4000000 in
theorem c_X5_errorNow (V : EV) (σ : Mem) (y1 : Int32) (P : Int32 → Mem → Prop) (l : Launch) : Met l yX5_errorNow (.code yX5_errorNow cX5_errorNow 3 (some .int) :: AW) { frames := 3, cells := 0, slots := 0, locals := 71 } (va_Pc [.ref (ad V 93), .int y1] (fun U => wP V σ U ∧ wp_X5_errorNow σ y1 P)) (va_Qi P (wB V) (AA V)) 0 0 (AA V) := by
  refine met_i V σ (own := RX5) (by decide +kernel) rfl (fun v hv => by simp at hv; rcases hv with rfl | rfl <;> rfl) (Nat.le_of_ble_eq_true rfl) (fun X C D h => ?_) l
  show GG V X σ 0 [some (.ref (ad V 93)), some (.int y1), none] []
  refine g_aload_n C dX5_errorNow_0 rfl rfl rfl ?_
  refine g_iconst C dX5_errorNow_1 ic_2 rfl ?_
  refine k_X5_60 C dX5_errorNow_2 (Nat.le_of_ble_eq_true rfl) (by decide) rfl rfl h (fun r1 h => ?_)
  refine g_istore_n C dX5_errorNow_5 rfl (Nat.le_of_ble_eq_true rfl) (L' := [some (.ref (ad V 93)), some (.int y1), some (.int r1)]) rfl rfl ?_
  refine g_aload_n C dX5_errorNow_6 rfl rfl rfl ?_
  refine f_X5_7 C dX5_errorNow_7 rfl ?_
  refine g_bipush C dX5_errorNow_10 bp_63 rfl ?_
  refine g_iload_n C dX5_errorNow_12 rfl rfl rfl ?_
  refine g_iadd C dX5_errorNow_13 rfl ?_
  refine g_dup2 C dX5_errorNow_14 rfl rfl rfl ?_
  obtain ⟨hin, h⟩ := h
  refine g_ild C dX5_errorNow_15 arr_94 hin rfl ?_
  refine g_iconst C dX5_errorNow_16 ic_1 rfl ?_
  refine g_iadd C dX5_errorNow_17 rfl ?_
  obtain ⟨hin, h⟩ := h
  refine g_ist C dX5_errorNow_18 arr_94 hin rfl h (fun σ2 h => ?_)
  refine g_aload_n C dX5_errorNow_19 rfl rfl rfl ?_
  refine f_X5_7 C dX5_errorNow_20 rfl ?_
  refine g_iconst C dX5_errorNow_23 ic_4 rfl ?_
  refine g_dup2 C dX5_errorNow_24 rfl rfl rfl ?_
  refine g_ildk C dX5_errorNow_25 arr_94 vi_4_313 tl_4 rfl ?_
  refine g_iconst C dX5_errorNow_26 ic_1 rfl ?_
  refine g_iadd C dX5_errorNow_27 rfl ?_
  refine g_istk C dX5_errorNow_28 arr_94 vi_4_313 tl_4 rfl h (fun σ3 h => ?_)
  refine g_aload_n C dX5_errorNow_29 rfl rfl rfl ?_
  refine k_X5_67 C dX5_errorNow_30 (Nat.le_of_ble_eq_true rfl) (by decide) rfl rfl h (fun σ4 h => ?_)
  refine g_aload_n C dX5_errorNow_33 rfl rfl rfl ?_
  refine g_iconst C dX5_errorNow_34 ic_2 rfl ?_
  refine k_X5_60 C dX5_errorNow_35 (Nat.le_of_ble_eq_true rfl) (by decide) rfl rfl h (fun r5 h => ?_)
  refine g_iload_n C dX5_errorNow_38 rfl rfl rfl ?_
  refine g_isub C dX5_errorNow_39 rfl ?_
  exact g_iret C dX5_errorNow_40 D h
theorem hd_X5_errorNow : yX5_errorNow.cls ≠ "java/lang/invoke/MethodHandle" ∧ yX5_errorNow.cls ≠ "java/lang/invoke/VarHandle" ∧ (parseMethodDescriptor yX5_errorNow.desc).map (fun d => d.parameters.length) = some 1 := by decide +kernel
theorem k_X5_113 {V : EV} {X : CX} {cc : ByteArray} {nL : Nat} {R : Room} {y1 : Int32} (C : OK V X RX5 cc nL R) {σ : Mem} {pc pc' : Nat} {L : List (Option Value)} {st : List Value} {P : Int32 → Mem → Prop} (d : decode cc pc = .ok (.invokevirtual 113, 3)) (hst : (st.map fun v => v.category).sum ≤ 8) (hr : 3 + 1 ≤ R.frames ∧ 8 + (3 + 11) + 71 ≤ R.locals) (hL : L.length = nL) (hp : pc + 3 = pc') (h : wp_X5_errorNow σ y1 P) (k : ∀ r τ, P r τ → GG V X τ pc' L (.int r :: st)) : GG V X σ pc L (.int y1 :: .ref (ad V 93) :: st) :=
  g_callVi C (av := [.int y1]) (fun l => c_X5_errorNow V σ y1 P l) (by decide) (en_93 V σ) (q := (RX5, TX5, 13)) rfl rfl ml_RX5_113 im_X5_errorNow se_X5_errorNow ini_RX5 co_X5_errorNow hd_X5_errorNow rfl ⟨rfl, rfl⟩ hr hst d hL hp h k

theorem dX5_error_0 : decode cX5_error 0 = .ok (.aload_n 0, 1) := by decide +kernel
theorem dX5_error_1 : decode cX5_error 1 = .ok (.iload_n 1, 1) := by decide +kernel
theorem dX5_error_2 : decode cX5_error 2 = .ok (.invokevirtual 110, 3) := by decide +kernel
theorem dX5_error_5 : decode cX5_error 5 = .ok (.istore_n 2, 1) := by decide +kernel
theorem dX5_error_6 : decode cX5_error 6 = .ok (.iload_n 2, 1) := by decide +kernel
theorem dX5_error_7 : decode cX5_error 7 = .ok (.ifCond .ge 5, 3) := by decide +kernel
theorem dX5_error_10 : decode cX5_error 10 = .ok (.iload_n 2, 1) := by decide +kernel
theorem dX5_error_11 : decode cX5_error 11 = .ok (.ireturn, 1) := by decide +kernel
theorem dX5_error_12 : decode cX5_error 12 = .ok (.aload_n 0, 1) := by decide +kernel
theorem dX5_error_13 : decode cX5_error 13 = .ok (.invokevirtual 64, 3) := by decide +kernel
theorem dX5_error_16 : decode cX5_error 16 = .ok (.aload_n 0, 1) := by decide +kernel
theorem dX5_error_17 : decode cX5_error 17 = .ok (.iload_n 1, 1) := by decide +kernel
theorem dX5_error_18 : decode cX5_error 18 = .ok (.invokevirtual 113, 3) := by decide +kernel
theorem dX5_error_21 : decode cX5_error 21 = .ok (.ireturn, 1) := by decide +kernel
def wp_X5_error (σ : Mem) (y1 : Int32) (P : Int32 → Mem → Prop) : Prop :=
  wp_X5_whyNotError σ y1 (fun r1 =>
    ((0 ≤ r1 →
    wp_X5_record σ  (fun σ2 =>
      wp_X5_errorNow σ2 y1 (fun r3 σ4 =>
      P r3 σ4))) ∧
    (¬ 0 ≤ r1 →
    P r1 σ)))
set_option maxRecDepth 100000 in
set_option maxHeartbeats 4000000 in
theorem c_X5_error (V : EV) (σ : Mem) (y1 : Int32) (P : Int32 → Mem → Prop) (l : Launch) : Met l yX5_error (.code yX5_error cX5_error 3 (some .int) :: AW) { frames := 4, cells := 0, slots := 0, locals := 93 } (va_Pc [.ref (ad V 93), .int y1] (fun U => wP V σ U ∧ wp_X5_error σ y1 P)) (va_Qi P (wB V) (AA V)) 0 0 (AA V) := by
  refine met_i V σ (own := RX5) (by decide +kernel) rfl (fun v hv => by simp at hv; rcases hv with rfl | rfl <;> rfl) (Nat.le_of_ble_eq_true rfl) (fun X C D h => ?_) l
  show GG V X σ 0 [some (.ref (ad V 93)), some (.int y1), none] []
  refine g_aload_n C dX5_error_0 rfl rfl rfl ?_
  refine g_iload_n C dX5_error_1 rfl rfl rfl ?_
  refine k_X5_110 C dX5_error_2 (Nat.le_of_ble_eq_true rfl) (by decide) rfl rfl h (fun r1 h => ?_)
  refine g_istore_n C dX5_error_5 rfl (Nat.le_of_ble_eq_true rfl) (L' := [some (.ref (ad V 93)), some (.int y1), some (.int r1)]) rfl rfl ?_
  refine g_iload_n C dX5_error_6 rfl rfl rfl ?_
  refine g_if_ge C dX5_error_7 (tgt := 12) rfl rfl (fun q => ?_) (fun q => ?_)
  · have h := h.1 q
    refine g_aload_n C dX5_error_12 rfl rfl rfl ?_
    refine k_X5_64 C dX5_error_13 (Nat.le_of_ble_eq_true rfl) (by decide) rfl rfl h (fun σ2 h => ?_)
    refine g_aload_n C dX5_error_16 rfl rfl rfl ?_
    refine g_iload_n C dX5_error_17 rfl rfl rfl ?_
    refine k_X5_113 C dX5_error_18 (Nat.le_of_ble_eq_true rfl) (by decide) rfl rfl h (fun r3 σ4 h => ?_)
    exact g_iret C dX5_error_21 D h
  · have h := h.2 q
    refine g_iload_n C dX5_error_10 rfl rfl rfl ?_
    exact g_iret C dX5_error_11 D h
theorem hd_X5_error : yX5_error.cls ≠ "java/lang/invoke/MethodHandle" ∧ yX5_error.cls ≠ "java/lang/invoke/VarHandle" ∧ (parseMethodDescriptor yX5_error.desc).map (fun d => d.parameters.length) = some 1 := by decide +kernel

theorem dX5_hardNow_0 : decode cX5_hardNow 0 = .ok (.aload_n 0, 1) := by decide +kernel
theorem dX5_hardNow_1 : decode cX5_hardNow 1 = .ok (.iload_n 1, 1) := by decide +kernel
theorem dX5_hardNow_2 : decode cX5_hardNow 2 = .ok (.invokevirtual 74, 3) := by decide +kernel
theorem dX5_hardNow_5 : decode cX5_hardNow 5 = .ok (.istore_n 2, 1) := by decide +kernel
theorem dX5_hardNow_6 : decode cX5_hardNow 6 = .ok (.iload_n 2, 1) := by decide +kernel
theorem dX5_hardNow_7 : decode cX5_hardNow 7 = .ok (.bipush (-5), 2) := by decide +kernel
theorem dX5_hardNow_9 : decode cX5_hardNow 9 = .ok (.if_icmp .ne 9, 3) := by decide +kernel
theorem dX5_hardNow_12 : decode cX5_hardNow 12 = .ok (.sipush 10000, 3) := by decide +kernel
theorem dX5_hardNow_15 : decode cX5_hardNow 15 = .ok (.goto 9, 3) := by decide +kernel
theorem dX5_hardNow_18 : decode cX5_hardNow 18 = .ok (.aload_n 0, 1) := by decide +kernel
theorem dX5_hardNow_19 : decode cX5_hardNow 19 = .ok (.iload_n 2, 1) := by decide +kernel
theorem dX5_hardNow_20 : decode cX5_hardNow 20 = .ok (.iconst 1, 1) := by decide +kernel
theorem dX5_hardNow_21 : decode cX5_hardNow 21 = .ok (.invokevirtual 40, 3) := by decide +kernel
theorem dX5_hardNow_24 : decode cX5_hardNow 24 = .ok (.istore_n 3, 1) := by decide +kernel
theorem dX5_hardNow_25 : decode cX5_hardNow 25 = .ok (.iload_n 2, 1) := by decide +kernel
theorem dX5_hardNow_26 : decode cX5_hardNow 26 = .ok (.bipush (-5), 2) := by decide +kernel
theorem dX5_hardNow_28 : decode cX5_hardNow 28 = .ok (.if_icmp .eq 36, 3) := by decide +kernel
theorem dX5_hardNow_31 : decode cX5_hardNow 31 = .ok (.aload_n 0, 1) := by decide +kernel
theorem dX5_hardNow_32 : decode cX5_hardNow 32 = .ok (.iload_n 2, 1) := by decide +kernel
theorem dX5_hardNow_33 : decode cX5_hardNow 33 = .ok (.invokevirtual 28, 3) := by decide +kernel
theorem dX5_hardNow_36 : decode cX5_hardNow 36 = .ok (.aload_n 0, 1) := by decide +kernel
theorem dX5_hardNow_37 : decode cX5_hardNow 37 = .ok (.getfield 7, 3) := by decide +kernel
theorem dX5_hardNow_40 : decode cX5_hardNow 40 = .ok (.sipush 303, 3) := by decide +kernel
theorem dX5_hardNow_43 : decode cX5_hardNow 43 = .ok (.iload_n 2, 1) := by decide +kernel
theorem dX5_hardNow_44 : decode cX5_hardNow 44 = .ok (.bipush 10, 2) := by decide +kernel
theorem dX5_hardNow_46 : decode cX5_hardNow 46 = .ok (.idiv, 1) := by decide +kernel
theorem dX5_hardNow_47 : decode cX5_hardNow 47 = .ok (.iadd, 1) := by decide +kernel
theorem dX5_hardNow_48 : decode cX5_hardNow 48 = .ok (.dup2, 1) := by decide +kernel
theorem dX5_hardNow_49 : decode cX5_hardNow 49 = .ok (.iaload, 1) := by decide +kernel
theorem dX5_hardNow_50 : decode cX5_hardNow 50 = .ok (.iconst 1, 1) := by decide +kernel
theorem dX5_hardNow_51 : decode cX5_hardNow 51 = .ok (.iadd, 1) := by decide +kernel
theorem dX5_hardNow_52 : decode cX5_hardNow 52 = .ok (.iastore, 1) := by decide +kernel
theorem dX5_hardNow_53 : decode cX5_hardNow 53 = .ok (.aload_n 0, 1) := by decide +kernel
theorem dX5_hardNow_54 : decode cX5_hardNow 54 = .ok (.getfield 7, 3) := by decide +kernel
theorem dX5_hardNow_57 : decode cX5_hardNow 57 = .ok (.bipush 7, 2) := by decide +kernel
theorem dX5_hardNow_59 : decode cX5_hardNow 59 = .ok (.dup2, 1) := by decide +kernel
theorem dX5_hardNow_60 : decode cX5_hardNow 60 = .ok (.iaload, 1) := by decide +kernel
theorem dX5_hardNow_61 : decode cX5_hardNow 61 = .ok (.iconst 1, 1) := by decide +kernel
theorem dX5_hardNow_62 : decode cX5_hardNow 62 = .ok (.iadd, 1) := by decide +kernel
theorem dX5_hardNow_63 : decode cX5_hardNow 63 = .ok (.iastore, 1) := by decide +kernel
theorem dX5_hardNow_64 : decode cX5_hardNow 64 = .ok (.aload_n 0, 1) := by decide +kernel
theorem dX5_hardNow_65 : decode cX5_hardNow 65 = .ok (.getfield 7, 3) := by decide +kernel
theorem dX5_hardNow_68 : decode cX5_hardNow 68 = .ok (.iconst 5, 1) := by decide +kernel
theorem dX5_hardNow_69 : decode cX5_hardNow 69 = .ok (.dup2, 1) := by decide +kernel
theorem dX5_hardNow_70 : decode cX5_hardNow 70 = .ok (.iaload, 1) := by decide +kernel
theorem dX5_hardNow_71 : decode cX5_hardNow 71 = .ok (.iconst 1, 1) := by decide +kernel
theorem dX5_hardNow_72 : decode cX5_hardNow 72 = .ok (.iadd, 1) := by decide +kernel
theorem dX5_hardNow_73 : decode cX5_hardNow 73 = .ok (.iastore, 1) := by decide +kernel
theorem dX5_hardNow_74 : decode cX5_hardNow 74 = .ok (.aload_n 0, 1) := by decide +kernel
theorem dX5_hardNow_75 : decode cX5_hardNow 75 = .ok (.iload_n 1, 1) := by decide +kernel
theorem dX5_hardNow_76 : decode cX5_hardNow 76 = .ok (.invokevirtual 81, 3) := by decide +kernel
theorem dX5_hardNow_79 : decode cX5_hardNow 79 = .ok (.aload_n 0, 1) := by decide +kernel
theorem dX5_hardNow_80 : decode cX5_hardNow 80 = .ok (.invokevirtual 67, 3) := by decide +kernel
theorem dX5_hardNow_83 : decode cX5_hardNow 83 = .ok (.iload_n 3, 1) := by decide +kernel
theorem dX5_hardNow_84 : decode cX5_hardNow 84 = .ok (.ireturn, 1) := by decide +kernel
def wp_X5_hardNow (σ : Mem) (y1 : Int32) (P : Int32 → Mem → Prop) : Prop :=
  wp_X5_pageIn σ y1 (fun r1 =>
    jn (A := Int32 → Prop) (fun (v2 : Int32) =>
    jn (A := Mem → Prop) (fun (σ4 : Mem) =>
      bm (up2 σ4 94 5 ((σ4 94 5) + 1)) (fun σ6 =>
        wp_X5_retire σ6 y1 (fun σ7 =>
        wp_X5_look σ7  (fun σ8 =>
        P v2 σ8))))
      (fun J5 =>
      ((r1 = (-5) →
      J5 σ) ∧
      (¬ r1 = (-5) →
      wp_X5_empty σ r1 (fun σ9 =>
        vp_in (303 + (r1 / 10)) 313 ∧ vp_in (303 + (r1 / 10)) 313 ∧ bm (up2 σ9 94 (303 + (r1 / 10)).toNatClampNeg ((σ9 94 (303 + (r1 / 10)).toNatClampNeg) + 1)) (fun σ10 =>
        bm (up2 σ10 94 7 ((σ10 94 7) + 1)) (fun σ11 =>
        J5 σ11)))))))
    (fun J3 =>
    ((r1 = (-5) →
    J3 10000) ∧
    (¬ r1 = (-5) →
    wp_X5_of σ r1 1 (fun r12 =>
      J3 r12)))))
set_option maxRecDepth 100000 in
set_option maxHeartbeats 4000000 in
theorem c_X5_hardNow (V : EV) (σ : Mem) (y1 : Int32) (P : Int32 → Mem → Prop) (l : Launch) : Met l yX5_hardNow (.code yX5_hardNow cX5_hardNow 4 (some .int) :: AW) { frames := 3, cells := 0, slots := 0, locals := 71 } (va_Pc [.ref (ad V 93), .int y1] (fun U => wP V σ U ∧ wp_X5_hardNow σ y1 P)) (va_Qi P (wB V) (AA V)) 0 0 (AA V) := by
  refine met_i V σ (own := RX5) (by decide +kernel) rfl (fun v hv => by simp at hv; rcases hv with rfl | rfl <;> rfl) (Nat.le_of_ble_eq_true rfl) (fun X C D h => ?_) l
  show GG V X σ 0 [some (.ref (ad V 93)), some (.int y1), none, none] []
  refine g_aload_n C dX5_hardNow_0 rfl rfl rfl ?_
  refine g_iload_n C dX5_hardNow_1 rfl rfl rfl ?_
  refine k_X5_74 C dX5_hardNow_2 (Nat.le_of_ble_eq_true rfl) (by decide) rfl rfl h (fun r1 h => ?_)
  refine g_istore_n C dX5_hardNow_5 rfl (Nat.le_of_ble_eq_true rfl) (L' := [some (.ref (ad V 93)), some (.int y1), some (.int r1), none]) rfl rfl ?_
  refine g_iload_n C dX5_hardNow_6 rfl rfl rfl ?_
  refine g_bipush C dX5_hardNow_7 bp_m5 rfl ?_
  refine jn_go h (fun (J3 : Int32 → Prop) => ∀ (v2 : Int32), J3 v2 → GG V X σ 24 [some (.ref (ad V 93)), some (.int y1), some (.int r1), none] [.int v2]) (fun v2 h => ?_) (fun J3 hJ3 h => ?_)
  · refine g_istore_n C dX5_hardNow_24 rfl (Nat.le_of_ble_eq_true rfl) (L' := [some (.ref (ad V 93)), some (.int y1), some (.int r1), some (.int v2)]) rfl rfl ?_
    refine g_iload_n C dX5_hardNow_25 rfl rfl rfl ?_
    refine g_bipush C dX5_hardNow_26 bp_m5 rfl ?_
    refine jn_go h (fun (J5 : Mem → Prop) => ∀ (σ4 : Mem), J5 σ4 → GG V X σ4 64 [some (.ref (ad V 93)), some (.int y1), none, some (.int v2)] []) (fun σ4 h => ?_) (fun J5 hJ5 h => ?_)
    · refine g_aload_n C dX5_hardNow_64 rfl rfl rfl ?_
      refine f_X5_7 C dX5_hardNow_65 rfl ?_
      refine g_iconst C dX5_hardNow_68 ic_5 rfl ?_
      refine g_dup2 C dX5_hardNow_69 rfl rfl rfl ?_
      refine g_ildk C dX5_hardNow_70 arr_94 vi_5_313 tl_5 rfl ?_
      refine g_iconst C dX5_hardNow_71 ic_1 rfl ?_
      refine g_iadd C dX5_hardNow_72 rfl ?_
      refine g_istk C dX5_hardNow_73 arr_94 vi_5_313 tl_5 rfl h (fun σ6 h => ?_)
      refine g_aload_n C dX5_hardNow_74 rfl rfl rfl ?_
      refine g_iload_n C dX5_hardNow_75 rfl rfl rfl ?_
      refine k_X5_81 C dX5_hardNow_76 (Nat.le_of_ble_eq_true rfl) (by decide) rfl rfl h (fun σ7 h => ?_)
      refine g_aload_n C dX5_hardNow_79 rfl rfl rfl ?_
      refine k_X5_67 C dX5_hardNow_80 (Nat.le_of_ble_eq_true rfl) (by decide) rfl rfl h (fun σ8 h => ?_)
      refine g_iload_n C dX5_hardNow_83 rfl rfl rfl ?_
      exact g_iret C dX5_hardNow_84 D h
    refine g_icmp_eq C dX5_hardNow_28 (tgt := 64) rfl rfl (fun q => ?_) (fun q => ?_)
    · have h := h.1 q
      refine g_drop 2 (L' := [some (.ref (ad V 93)), some (.int y1), none, some (.int v2)]) rfl ?_
      exact hJ5 σ h
    · have h := h.2 q
      refine g_aload_n C dX5_hardNow_31 rfl rfl rfl ?_
      refine g_iload_n C dX5_hardNow_32 rfl rfl rfl ?_
      refine k_X5_28 C dX5_hardNow_33 (Nat.le_of_ble_eq_true rfl) (by decide) rfl rfl h (fun σ9 h => ?_)
      refine g_aload_n C dX5_hardNow_36 rfl rfl rfl ?_
      refine f_X5_7 C dX5_hardNow_37 rfl ?_
      refine g_sipush C dX5_hardNow_40 sp_303 rfl ?_
      refine g_iload_n C dX5_hardNow_43 rfl rfl rfl ?_
      refine g_bipush C dX5_hardNow_44 bp_10 rfl ?_
      refine g_idiv C dX5_hardNow_46 (by decide) rfl ?_
      refine g_iadd C dX5_hardNow_47 rfl ?_
      refine g_dup2 C dX5_hardNow_48 rfl rfl rfl ?_
      obtain ⟨hin, h⟩ := h
      refine g_ild C dX5_hardNow_49 arr_94 hin rfl ?_
      refine g_iconst C dX5_hardNow_50 ic_1 rfl ?_
      refine g_iadd C dX5_hardNow_51 rfl ?_
      obtain ⟨hin, h⟩ := h
      refine g_ist C dX5_hardNow_52 arr_94 hin rfl h (fun σ10 h => ?_)
      refine g_aload_n C dX5_hardNow_53 rfl rfl rfl ?_
      refine f_X5_7 C dX5_hardNow_54 rfl ?_
      refine g_bipush C dX5_hardNow_57 bp_7 rfl ?_
      refine g_dup2 C dX5_hardNow_59 rfl rfl rfl ?_
      refine g_ildk C dX5_hardNow_60 arr_94 vi_7_313 tl_7 rfl ?_
      refine g_iconst C dX5_hardNow_61 ic_1 rfl ?_
      refine g_iadd C dX5_hardNow_62 rfl ?_
      refine g_istk C dX5_hardNow_63 arr_94 vi_7_313 tl_7 rfl h (fun σ11 h => ?_)
      refine g_drop 2 (L' := [some (.ref (ad V 93)), some (.int y1), none, some (.int v2)]) rfl ?_
      exact hJ5 σ11 h
  refine g_icmp_ne C dX5_hardNow_9 (tgt := 18) rfl rfl (fun q => ?_) (fun q => ?_)
  · have h := h.2 q
    refine g_aload_n C dX5_hardNow_18 rfl rfl rfl ?_
    refine g_iload_n C dX5_hardNow_19 rfl rfl rfl ?_
    refine g_iconst C dX5_hardNow_20 ic_1 rfl ?_
    refine k_X5_40 C dX5_hardNow_21 (Nat.le_of_ble_eq_true rfl) (by decide) rfl rfl h (fun r12 h => ?_)
    exact hJ3 r12 h
  · have h := h.1 q
    refine g_sipush C dX5_hardNow_12 sp_10000 rfl ?_
    refine g_goto C dX5_hardNow_15 (pc' := 24) rfl ?_
    exact hJ3 10000 h
theorem hd_X5_hardNow : yX5_hardNow.cls ≠ "java/lang/invoke/MethodHandle" ∧ yX5_hardNow.cls ≠ "java/lang/invoke/VarHandle" ∧ (parseMethodDescriptor yX5_hardNow.desc).map (fun d => d.parameters.length) = some 1 := by decide +kernel
theorem k_X5_116 {V : EV} {X : CX} {cc : ByteArray} {nL : Nat} {R : Room} {y1 : Int32} (C : OK V X RX5 cc nL R) {σ : Mem} {pc pc' : Nat} {L : List (Option Value)} {st : List Value} {P : Int32 → Mem → Prop} (d : decode cc pc = .ok (.invokevirtual 116, 3)) (hst : (st.map fun v => v.category).sum ≤ 8) (hr : 3 + 1 ≤ R.frames ∧ 8 + (4 + 11) + 71 ≤ R.locals) (hL : L.length = nL) (hp : pc + 3 = pc') (h : wp_X5_hardNow σ y1 P) (k : ∀ r τ, P r τ → GG V X τ pc' L (.int r :: st)) : GG V X σ pc L (.int y1 :: .ref (ad V 93) :: st) :=
  g_callVi C (av := [.int y1]) (fun l => c_X5_hardNow V σ y1 P l) (by decide) (en_93 V σ) (q := (RX5, TX5, 13)) rfl rfl ml_RX5_116 im_X5_hardNow se_X5_hardNow ini_RX5 co_X5_hardNow hd_X5_hardNow rfl ⟨rfl, rfl⟩ hr hst d hL hp h k

theorem dX5_hardError_0 : decode cX5_hardError 0 = .ok (.aload_n 0, 1) := by decide +kernel
theorem dX5_hardError_1 : decode cX5_hardError 1 = .ok (.iload_n 1, 1) := by decide +kernel
theorem dX5_hardError_2 : decode cX5_hardError 2 = .ok (.invokevirtual 110, 3) := by decide +kernel
theorem dX5_hardError_5 : decode cX5_hardError 5 = .ok (.istore_n 2, 1) := by decide +kernel
theorem dX5_hardError_6 : decode cX5_hardError 6 = .ok (.iload_n 2, 1) := by decide +kernel
theorem dX5_hardError_7 : decode cX5_hardError 7 = .ok (.ifCond .ge 5, 3) := by decide +kernel
theorem dX5_hardError_10 : decode cX5_hardError 10 = .ok (.iload_n 2, 1) := by decide +kernel
theorem dX5_hardError_11 : decode cX5_hardError 11 = .ok (.ireturn, 1) := by decide +kernel
theorem dX5_hardError_12 : decode cX5_hardError 12 = .ok (.aload_n 0, 1) := by decide +kernel
theorem dX5_hardError_13 : decode cX5_hardError 13 = .ok (.invokevirtual 64, 3) := by decide +kernel
theorem dX5_hardError_16 : decode cX5_hardError 16 = .ok (.aload_n 0, 1) := by decide +kernel
theorem dX5_hardError_17 : decode cX5_hardError 17 = .ok (.iload_n 1, 1) := by decide +kernel
theorem dX5_hardError_18 : decode cX5_hardError 18 = .ok (.invokevirtual 116, 3) := by decide +kernel
theorem dX5_hardError_21 : decode cX5_hardError 21 = .ok (.ireturn, 1) := by decide +kernel
def wp_X5_hardError (σ : Mem) (y1 : Int32) (P : Int32 → Mem → Prop) : Prop :=
  wp_X5_whyNotError σ y1 (fun r1 =>
    ((0 ≤ r1 →
    wp_X5_record σ  (fun σ2 =>
      wp_X5_hardNow σ2 y1 (fun r3 σ4 =>
      P r3 σ4))) ∧
    (¬ 0 ≤ r1 →
    P r1 σ)))
set_option maxRecDepth 100000 in
set_option maxHeartbeats 4000000 in
theorem c_X5_hardError (V : EV) (σ : Mem) (y1 : Int32) (P : Int32 → Mem → Prop) (l : Launch) : Met l yX5_hardError (.code yX5_hardError cX5_hardError 3 (some .int) :: AW) { frames := 4, cells := 0, slots := 0, locals := 94 } (va_Pc [.ref (ad V 93), .int y1] (fun U => wP V σ U ∧ wp_X5_hardError σ y1 P)) (va_Qi P (wB V) (AA V)) 0 0 (AA V) := by
  refine met_i V σ (own := RX5) (by decide +kernel) rfl (fun v hv => by simp at hv; rcases hv with rfl | rfl <;> rfl) (Nat.le_of_ble_eq_true rfl) (fun X C D h => ?_) l
  show GG V X σ 0 [some (.ref (ad V 93)), some (.int y1), none] []
  refine g_aload_n C dX5_hardError_0 rfl rfl rfl ?_
  refine g_iload_n C dX5_hardError_1 rfl rfl rfl ?_
  refine k_X5_110 C dX5_hardError_2 (Nat.le_of_ble_eq_true rfl) (by decide) rfl rfl h (fun r1 h => ?_)
  refine g_istore_n C dX5_hardError_5 rfl (Nat.le_of_ble_eq_true rfl) (L' := [some (.ref (ad V 93)), some (.int y1), some (.int r1)]) rfl rfl ?_
  refine g_iload_n C dX5_hardError_6 rfl rfl rfl ?_
  refine g_if_ge C dX5_hardError_7 (tgt := 12) rfl rfl (fun q => ?_) (fun q => ?_)
  · have h := h.1 q
    refine g_aload_n C dX5_hardError_12 rfl rfl rfl ?_
    refine k_X5_64 C dX5_hardError_13 (Nat.le_of_ble_eq_true rfl) (by decide) rfl rfl h (fun σ2 h => ?_)
    refine g_aload_n C dX5_hardError_16 rfl rfl rfl ?_
    refine g_iload_n C dX5_hardError_17 rfl rfl rfl ?_
    refine k_X5_116 C dX5_hardError_18 (Nat.le_of_ble_eq_true rfl) (by decide) rfl rfl h (fun r3 σ4 h => ?_)
    exact g_iret C dX5_hardError_21 D h
  · have h := h.2 q
    refine g_iload_n C dX5_hardError_10 rfl rfl rfl ?_
    exact g_iret C dX5_hardError_11 D h
theorem hd_X5_hardError : yX5_hardError.cls ≠ "java/lang/invoke/MethodHandle" ∧ yX5_hardError.cls ≠ "java/lang/invoke/VarHandle" ∧ (parseMethodDescriptor yX5_hardError.desc).map (fun d => d.parameters.length) = some 1 := by decide +kernel

theorem dX5_startNow_0 : decode cX5_startNow 0 = .ok (.iconst 0, 1) := by decide +kernel
theorem dX5_startNow_1 : decode cX5_startNow 1 = .ok (.istore_n 1, 1) := by decide +kernel
theorem dX5_startNow_2 : decode cX5_startNow 2 = .ok (.iload_n 1, 1) := by decide +kernel
theorem dX5_startNow_3 : decode cX5_startNow 3 = .ok (.bipush 50, 2) := by decide +kernel
theorem dX5_startNow_5 : decode cX5_startNow 5 = .ok (.if_icmp .ge 14, 3) := by decide +kernel
theorem dX5_startNow_8 : decode cX5_startNow 8 = .ok (.aload_n 0, 1) := by decide +kernel
theorem dX5_startNow_9 : decode cX5_startNow 9 = .ok (.iload_n 1, 1) := by decide +kernel
theorem dX5_startNow_10 : decode cX5_startNow 10 = .ok (.invokevirtual 28, 3) := by decide +kernel
theorem dX5_startNow_13 : decode cX5_startNow 13 = .ok (.iinc 1 1, 3) := by decide +kernel
theorem dX5_startNow_16 : decode cX5_startNow 16 = .ok (.goto (-14), 3) := by decide +kernel
theorem dX5_startNow_19 : decode cX5_startNow 19 = .ok (.iconst 0, 1) := by decide +kernel
theorem dX5_startNow_20 : decode cX5_startNow 20 = .ok (.istore_n 1, 1) := by decide +kernel
theorem dX5_startNow_21 : decode cX5_startNow 21 = .ok (.iload_n 1, 1) := by decide +kernel
theorem dX5_startNow_22 : decode cX5_startNow 22 = .ok (.bipush 40, 2) := by decide +kernel
theorem dX5_startNow_24 : decode cX5_startNow 24 = .ok (.if_icmp .ge 29, 3) := by decide +kernel
theorem dX5_startNow_27 : decode cX5_startNow 27 = .ok (.aload_n 0, 1) := by decide +kernel
theorem dX5_startNow_28 : decode cX5_startNow 28 = .ok (.getfield 7, 3) := by decide +kernel
theorem dX5_startNow_31 : decode cX5_startNow 31 = .ok (.bipush 23, 2) := by decide +kernel
theorem dX5_startNow_33 : decode cX5_startNow 33 = .ok (.iload_n 1, 1) := by decide +kernel
theorem dX5_startNow_34 : decode cX5_startNow 34 = .ok (.iadd, 1) := by decide +kernel
theorem dX5_startNow_35 : decode cX5_startNow 35 = .ok (.iconst 0, 1) := by decide +kernel
theorem dX5_startNow_36 : decode cX5_startNow 36 = .ok (.iastore, 1) := by decide +kernel
theorem dX5_startNow_37 : decode cX5_startNow 37 = .ok (.aload_n 0, 1) := by decide +kernel
theorem dX5_startNow_38 : decode cX5_startNow 38 = .ok (.getfield 7, 3) := by decide +kernel
theorem dX5_startNow_41 : decode cX5_startNow 41 = .ok (.bipush 63, 2) := by decide +kernel
theorem dX5_startNow_43 : decode cX5_startNow 43 = .ok (.iload_n 1, 1) := by decide +kernel
theorem dX5_startNow_44 : decode cX5_startNow 44 = .ok (.iadd, 1) := by decide +kernel
theorem dX5_startNow_45 : decode cX5_startNow 45 = .ok (.iconst 0, 1) := by decide +kernel
theorem dX5_startNow_46 : decode cX5_startNow 46 = .ok (.iastore, 1) := by decide +kernel
theorem dX5_startNow_47 : decode cX5_startNow 47 = .ok (.iinc 1 1, 3) := by decide +kernel
theorem dX5_startNow_50 : decode cX5_startNow 50 = .ok (.goto (-29), 3) := by decide +kernel
theorem dX5_startNow_53 : decode cX5_startNow 53 = .ok (.iconst 0, 1) := by decide +kernel
theorem dX5_startNow_54 : decode cX5_startNow 54 = .ok (.istore_n 1, 1) := by decide +kernel
theorem dX5_startNow_55 : decode cX5_startNow 55 = .ok (.iload_n 1, 1) := by decide +kernel
theorem dX5_startNow_56 : decode cX5_startNow 56 = .ok (.aload_n 0, 1) := by decide +kernel
theorem dX5_startNow_57 : decode cX5_startNow 57 = .ok (.getfield 7, 3) := by decide +kernel
theorem dX5_startNow_60 : decode cX5_startNow 60 = .ok (.bipush 10, 2) := by decide +kernel
theorem dX5_startNow_62 : decode cX5_startNow 62 = .ok (.iaload, 1) := by decide +kernel
theorem dX5_startNow_63 : decode cX5_startNow 63 = .ok (.if_icmp .ge 27, 3) := by decide +kernel
theorem dX5_startNow_66 : decode cX5_startNow 66 = .ok (.aload_n 0, 1) := by decide +kernel
theorem dX5_startNow_67 : decode cX5_startNow 67 = .ok (.getfield 7, 3) := by decide +kernel
theorem dX5_startNow_70 : decode cX5_startNow 70 = .ok (.bipush 23, 2) := by decide +kernel
theorem dX5_startNow_72 : decode cX5_startNow 72 = .ok (.aload_n 0, 1) := by decide +kernel
theorem dX5_startNow_73 : decode cX5_startNow 73 = .ok (.getfield 7, 3) := by decide +kernel
theorem dX5_startNow_76 : decode cX5_startNow 76 = .ok (.bipush 11, 2) := by decide +kernel
theorem dX5_startNow_78 : decode cX5_startNow 78 = .ok (.iload_n 1, 1) := by decide +kernel
theorem dX5_startNow_79 : decode cX5_startNow 79 = .ok (.iadd, 1) := by decide +kernel
theorem dX5_startNow_80 : decode cX5_startNow 80 = .ok (.iaload, 1) := by decide +kernel
theorem dX5_startNow_81 : decode cX5_startNow 81 = .ok (.iadd, 1) := by decide +kernel
theorem dX5_startNow_82 : decode cX5_startNow 82 = .ok (.iconst 2, 1) := by decide +kernel
theorem dX5_startNow_83 : decode cX5_startNow 83 = .ok (.iastore, 1) := by decide +kernel
theorem dX5_startNow_84 : decode cX5_startNow 84 = .ok (.iinc 1 1, 3) := by decide +kernel
theorem dX5_startNow_87 : decode cX5_startNow 87 = .ok (.goto (-32), 3) := by decide +kernel
theorem dX5_startNow_90 : decode cX5_startNow 90 = .ok (.aload_n 0, 1) := by decide +kernel
theorem dX5_startNow_91 : decode cX5_startNow 91 = .ok (.getfield 7, 3) := by decide +kernel
theorem dX5_startNow_94 : decode cX5_startNow 94 = .ok (.bipush 8, 2) := by decide +kernel
theorem dX5_startNow_96 : decode cX5_startNow 96 = .ok (.dup2, 1) := by decide +kernel
theorem dX5_startNow_97 : decode cX5_startNow 97 = .ok (.iaload, 1) := by decide +kernel
theorem dX5_startNow_98 : decode cX5_startNow 98 = .ok (.iconst 1, 1) := by decide +kernel
theorem dX5_startNow_99 : decode cX5_startNow 99 = .ok (.iadd, 1) := by decide +kernel
theorem dX5_startNow_100 : decode cX5_startNow 100 = .ok (.iastore, 1) := by decide +kernel
theorem dX5_startNow_101 : decode cX5_startNow 101 = .ok (.aload_n 0, 1) := by decide +kernel
theorem dX5_startNow_102 : decode cX5_startNow 102 = .ok (.invokevirtual 67, 3) := by decide +kernel
theorem dX5_startNow_105 : decode cX5_startNow 105 = .ok (.return_, 1) := by decide +kernel
def wp_X5_startNow (σ : Mem) (P : Mem → Prop) : Prop :=
  lq2 (fun rec3 (σ1 : Mem) (x2 : Int32) =>
    ((50 ≤ x2 →
      lq2 (fun rec6 (σ4 : Mem) (x5 : Int32) =>
        ((40 ≤ x5 →
          lq2 (fun rec9 (σ7 : Mem) (x8 : Int32) =>
            (((σ7 94 10) ≤ x8 →
              bm (up2 σ7 94 8 ((σ7 94 8) + 1)) (fun σ10 =>
                wp_X5_look σ10  (fun σ11 =>
                P σ11))) ∧
              (¬ (σ7 94 10) ≤ x8 →
              vp_in (11 + x8) 313 ∧ vp_in (23 + (σ7 94 (11 + x8).toNatClampNeg)) 313 ∧ bm (up2 σ7 94 (23 + (σ7 94 (11 + x8).toNatClampNeg)).toNatClampNeg 2) (fun σ12 =>
                rec9 σ12 (x8 + 1))))) σ4 0) ∧
          (¬ 40 ≤ x5 →
          vp_in (23 + x5) 313 ∧ bm (up2 σ4 94 (23 + x5).toNatClampNeg 0) (fun σ13 =>
            vp_in (63 + x5) 313 ∧ bm (up2 σ13 94 (63 + x5).toNatClampNeg 0) (fun σ14 =>
            rec6 σ14 (x5 + 1)))))) σ1 0) ∧
      (¬ 50 ≤ x2 →
      wp_X5_empty σ1 x2 (fun σ15 =>
        rec3 σ15 (x2 + 1))))) σ 0
set_option maxRecDepth 100000 in
set_option maxHeartbeats 4000000 in
theorem c_X5_startNow (V : EV) (σ : Mem) (P : Mem → Prop) (l : Launch) : Met l yX5_startNow (.code yX5_startNow cX5_startNow 2 (none) :: AW) { frames := 3, cells := 0, slots := 0, locals := 71 } (va_Pc [.ref (ad V 93)] (fun U => wP V σ U ∧ wp_X5_startNow σ P)) (va_Qv P (wB V) (AA V)) 0 0 (AA V) := by
  refine met_v V σ (own := RX5) (by decide +kernel) rfl (fun v hv => by simp at hv; subst hv; rfl) (Nat.le_of_ble_eq_true rfl) (fun X C D h => ?_) l
  show GG V X σ 0 [some (.ref (ad V 93)), none] []
  refine g_iconst C dX5_startNow_0 ic_0 rfl ?_
  refine g_istore_n C dX5_startNow_1 rfl (Nat.le_of_ble_eq_true rfl) (L' := [some (.ref (ad V 93)), some (.int 0)]) rfl rfl ?_
  refine h (fun (σ1 : Mem) (x2 : Int32) => GG V X σ1 2 [some (.ref (ad V 93)), some (.int x2)] []) (fun σ1 x2 h => ?_)
  refine g_iload_n C dX5_startNow_2 rfl rfl rfl ?_
  refine g_bipush C dX5_startNow_3 bp_50 rfl ?_
  refine g_icmp_ge C dX5_startNow_5 (tgt := 19) rfl rfl (fun q => ?_) (fun q => ?_)
  · have h := h.1 q
    refine g_iconst C dX5_startNow_19 ic_0 rfl ?_
    refine g_istore_n C dX5_startNow_20 rfl (Nat.le_of_ble_eq_true rfl) (L' := [some (.ref (ad V 93)), some (.int 0)]) rfl rfl ?_
    refine h (fun (σ4 : Mem) (x5 : Int32) => GG V X σ4 21 [some (.ref (ad V 93)), some (.int x5)] []) (fun σ4 x5 h => ?_)
    refine g_iload_n C dX5_startNow_21 rfl rfl rfl ?_
    refine g_bipush C dX5_startNow_22 bp_40 rfl ?_
    refine g_icmp_ge C dX5_startNow_24 (tgt := 53) rfl rfl (fun q => ?_) (fun q => ?_)
    · have h := h.1 q
      refine g_iconst C dX5_startNow_53 ic_0 rfl ?_
      refine g_istore_n C dX5_startNow_54 rfl (Nat.le_of_ble_eq_true rfl) (L' := [some (.ref (ad V 93)), some (.int 0)]) rfl rfl ?_
      refine h (fun (σ7 : Mem) (x8 : Int32) => GG V X σ7 55 [some (.ref (ad V 93)), some (.int x8)] []) (fun σ7 x8 h => ?_)
      refine g_iload_n C dX5_startNow_55 rfl rfl rfl ?_
      refine g_aload_n C dX5_startNow_56 rfl rfl rfl ?_
      refine f_X5_7 C dX5_startNow_57 rfl ?_
      refine g_bipush C dX5_startNow_60 bp_10 rfl ?_
      refine g_ildk C dX5_startNow_62 arr_94 vi_10_313 tl_10 rfl ?_
      refine g_icmp_ge C dX5_startNow_63 (tgt := 90) rfl rfl (fun q => ?_) (fun q => ?_)
      · have h := h.1 q
        refine g_aload_n C dX5_startNow_90 rfl rfl rfl ?_
        refine f_X5_7 C dX5_startNow_91 rfl ?_
        refine g_bipush C dX5_startNow_94 bp_8 rfl ?_
        refine g_dup2 C dX5_startNow_96 rfl rfl rfl ?_
        refine g_ildk C dX5_startNow_97 arr_94 vi_8_313 tl_8 rfl ?_
        refine g_iconst C dX5_startNow_98 ic_1 rfl ?_
        refine g_iadd C dX5_startNow_99 rfl ?_
        refine g_istk C dX5_startNow_100 arr_94 vi_8_313 tl_8 rfl h (fun σ10 h => ?_)
        refine g_aload_n C dX5_startNow_101 rfl rfl rfl ?_
        refine k_X5_67 C dX5_startNow_102 (Nat.le_of_ble_eq_true rfl) (by decide) rfl rfl h (fun σ11 h => ?_)
        exact g_vret C dX5_startNow_105 D h
      · have h := h.2 q
        refine g_aload_n C dX5_startNow_66 rfl rfl rfl ?_
        refine f_X5_7 C dX5_startNow_67 rfl ?_
        refine g_bipush C dX5_startNow_70 bp_23 rfl ?_
        refine g_aload_n C dX5_startNow_72 rfl rfl rfl ?_
        refine f_X5_7 C dX5_startNow_73 rfl ?_
        refine g_bipush C dX5_startNow_76 bp_11 rfl ?_
        refine g_iload_n C dX5_startNow_78 rfl rfl rfl ?_
        refine g_iadd C dX5_startNow_79 rfl ?_
        obtain ⟨hin, h⟩ := h
        refine g_ild C dX5_startNow_80 arr_94 hin rfl ?_
        refine g_iadd C dX5_startNow_81 rfl ?_
        refine g_iconst C dX5_startNow_82 ic_2 rfl ?_
        obtain ⟨hin, h⟩ := h
        refine g_ist C dX5_startNow_83 arr_94 hin rfl h (fun σ12 h => ?_)
        refine g_iinc C dX5_startNow_84 (v := x8 + 1) (by rw [ic_1]) rfl (Nat.le_of_ble_eq_true rfl) (L' := [some (.ref (ad V 93)), some (.int (x8 + 1))]) rfl rfl ?_
        refine g_goto C dX5_startNow_87 (pc' := 55) rfl ?_
        exact h
    · have h := h.2 q
      refine g_aload_n C dX5_startNow_27 rfl rfl rfl ?_
      refine f_X5_7 C dX5_startNow_28 rfl ?_
      refine g_bipush C dX5_startNow_31 bp_23 rfl ?_
      refine g_iload_n C dX5_startNow_33 rfl rfl rfl ?_
      refine g_iadd C dX5_startNow_34 rfl ?_
      refine g_iconst C dX5_startNow_35 ic_0 rfl ?_
      obtain ⟨hin, h⟩ := h
      refine g_ist C dX5_startNow_36 arr_94 hin rfl h (fun σ13 h => ?_)
      refine g_aload_n C dX5_startNow_37 rfl rfl rfl ?_
      refine f_X5_7 C dX5_startNow_38 rfl ?_
      refine g_bipush C dX5_startNow_41 bp_63 rfl ?_
      refine g_iload_n C dX5_startNow_43 rfl rfl rfl ?_
      refine g_iadd C dX5_startNow_44 rfl ?_
      refine g_iconst C dX5_startNow_45 ic_0 rfl ?_
      obtain ⟨hin, h⟩ := h
      refine g_ist C dX5_startNow_46 arr_94 hin rfl h (fun σ14 h => ?_)
      refine g_iinc C dX5_startNow_47 (v := x5 + 1) (by rw [ic_1]) rfl (Nat.le_of_ble_eq_true rfl) (L' := [some (.ref (ad V 93)), some (.int (x5 + 1))]) rfl rfl ?_
      refine g_goto C dX5_startNow_50 (pc' := 21) rfl ?_
      exact h
  · have h := h.2 q
    refine g_aload_n C dX5_startNow_8 rfl rfl rfl ?_
    refine g_iload_n C dX5_startNow_9 rfl rfl rfl ?_
    refine k_X5_28 C dX5_startNow_10 (Nat.le_of_ble_eq_true rfl) (by decide) rfl rfl h (fun σ15 h => ?_)
    refine g_iinc C dX5_startNow_13 (v := x2 + 1) (by rw [ic_1]) rfl (Nat.le_of_ble_eq_true rfl) (L' := [some (.ref (ad V 93)), some (.int (x2 + 1))]) rfl rfl ?_
    refine g_goto C dX5_startNow_16 (pc' := 2) rfl ?_
    exact h
theorem hd_X5_startNow : yX5_startNow.cls ≠ "java/lang/invoke/MethodHandle" ∧ yX5_startNow.cls ≠ "java/lang/invoke/VarHandle" ∧ (parseMethodDescriptor yX5_startNow.desc).map (fun d => d.parameters.length) = some 0 := by decide +kernel
theorem k_X5_119 {V : EV} {X : CX} {cc : ByteArray} {nL : Nat} {R : Room} (C : OK V X RX5 cc nL R) {σ : Mem} {pc pc' : Nat} {L : List (Option Value)} {st : List Value} {P : Mem → Prop} (d : decode cc pc = .ok (.invokevirtual 119, 3)) (hst : (st.map fun v => v.category).sum ≤ 8) (hr : 3 + 1 ≤ R.frames ∧ 8 + (2 + 11) + 71 ≤ R.locals) (hL : L.length = nL) (hp : pc + 3 = pc') (h : wp_X5_startNow σ P) (k : ∀ τ, P τ → GG V X τ pc' L st) : GG V X σ pc L (.ref (ad V 93) :: st) :=
  g_callVv C (av := []) (fun l => c_X5_startNow V σ P l) (by decide) (en_93 V σ) (q := (RX5, TX5, 13)) rfl rfl ml_RX5_119 im_X5_startNow se_X5_startNow ini_RX5 co_X5_startNow hd_X5_startNow rfl ⟨rfl, rfl⟩ hr hst d hL hp h k

theorem dX5_start_0 : decode cX5_start 0 = .ok (.aload_n 0, 1) := by decide +kernel
theorem dX5_start_1 : decode cX5_start 1 = .ok (.invokevirtual 64, 3) := by decide +kernel
theorem dX5_start_4 : decode cX5_start 4 = .ok (.aload_n 0, 1) := by decide +kernel
theorem dX5_start_5 : decode cX5_start 5 = .ok (.invokevirtual 119, 3) := by decide +kernel
theorem dX5_start_8 : decode cX5_start 8 = .ok (.aload_n 0, 1) := by decide +kernel
theorem dX5_start_9 : decode cX5_start 9 = .ok (.iconst 0, 1) := by decide +kernel
theorem dX5_start_10 : decode cX5_start 10 = .ok (.invokevirtual 60, 3) := by decide +kernel
theorem dX5_start_13 : decode cX5_start 13 = .ok (.ireturn, 1) := by decide +kernel
def wp_X5_start (σ : Mem) (P : Int32 → Mem → Prop) : Prop :=
  wp_X5_record σ  (fun σ1 =>
    wp_X5_startNow σ1  (fun σ2 =>
    wp_X5_cells σ2 0 (fun r3 =>
    P r3 σ2)))
set_option maxRecDepth 100000 in
set_option maxHeartbeats 4000000 in
theorem c_X5_start (V : EV) (σ : Mem) (P : Int32 → Mem → Prop) (l : Launch) : Met l yX5_start (.code yX5_start cX5_start 1 (some .int) :: AW) { frames := 4, cells := 0, slots := 0, locals := 92 } (va_Pc [.ref (ad V 93)] (fun U => wP V σ U ∧ wp_X5_start σ P)) (va_Qi P (wB V) (AA V)) 0 0 (AA V) := by
  refine met_i V σ (own := RX5) (by decide +kernel) rfl (fun v hv => by simp at hv; subst hv; rfl) (Nat.le_of_ble_eq_true rfl) (fun X C D h => ?_) l
  show GG V X σ 0 [some (.ref (ad V 93))] []
  refine g_aload_n C dX5_start_0 rfl rfl rfl ?_
  refine k_X5_64 C dX5_start_1 (Nat.le_of_ble_eq_true rfl) (by decide) rfl rfl h (fun σ1 h => ?_)
  refine g_aload_n C dX5_start_4 rfl rfl rfl ?_
  refine k_X5_119 C dX5_start_5 (Nat.le_of_ble_eq_true rfl) (by decide) rfl rfl h (fun σ2 h => ?_)
  refine g_aload_n C dX5_start_8 rfl rfl rfl ?_
  refine g_iconst C dX5_start_9 ic_0 rfl ?_
  refine k_X5_60 C dX5_start_10 (Nat.le_of_ble_eq_true rfl) (by decide) rfl rfl h (fun r3 h => ?_)
  exact g_iret C dX5_start_13 D h
theorem hd_X5_start : yX5_start.cls ≠ "java/lang/invoke/MethodHandle" ∧ yX5_start.cls ≠ "java/lang/invoke/VarHandle" ∧ (parseMethodDescriptor yX5_start.desc).map (fun d => d.parameters.length) = some 0 := by decide +kernel
