theorem dX3_length_0 : decode cX3_length 0 = .ok (.aload_n 0, 1) := by decide +kernel
theorem dX3_length_1 : decode cX3_length 1 = .ok (.getfield 15, 3) := by decide +kernel
theorem dX3_length_4 : decode cX3_length 4 = .ok (.ireturn, 1) := by decide +kernel
def wp_X3_length (σ : Mem) (P : Int32 → Prop) : Prop :=
  P (σ 87 1)
set_option maxRecDepth 100000 in
set_option maxHeartbeats 4000000 in
theorem c_X3_length (V : EV) (σ : Mem) (P : Int32 → Prop) (l : Launch) : Met l yX3_length (.code yX3_length cX3_length 1 (some .int) :: AW) { frames := 0, cells := 0, slots := 0, locals := 0 } (va_Pc [.ref (ad V 87)] (fun U => wP V σ U ∧ wp_X3_length σ P)) (va_Qi (fun r τ => τ = σ ∧ P r) (wB V) (AA V)) 0 0 (AA V) := by
  refine met_i V σ (own := RX3) (by decide +kernel) rfl (fun v hv => by simp at hv; subst hv; rfl) (Nat.le_of_ble_eq_true rfl) (fun X C D h => ?_) l
  show GG V X σ 0 [some (.ref (ad V 87))] []
  refine g_aload_n C dX3_length_0 rfl rfl rfl ?_
  refine f_X3_15 C dX3_length_1 rfl ?_
  exact g_iret C dX3_length_4 D ⟨rfl, h⟩
theorem hd_X3_length : yX3_length.cls ≠ "java/lang/invoke/MethodHandle" ∧ yX3_length.cls ≠ "java/lang/invoke/VarHandle" ∧ (parseMethodDescriptor yX3_length.desc).map (fun d => d.parameters.length) = some 0 := by decide +kernel
theorem k_X2_37 {V : EV} {X : CX} {cc : ByteArray} {nL : Nat} {R : Room} (C : OK V X RX2 cc nL R) {σ : Mem} {pc pc' : Nat} {L : List (Option Value)} {st : List Value} {P : Int32 → Prop} (d : decode cc pc = .ok (.invokevirtual 37, 3)) (hst : (st.map fun v => v.category).sum ≤ 8) (hr : 0 + 1 ≤ R.frames ∧ 8 + (1 + 11) + 0 ≤ R.locals) (hL : L.length = nL) (hp : pc + 3 = pc') (h : wp_X3_length σ P) (k : ∀ r, P r → GG V X σ pc' L (.int r :: st)) : GG V X σ pc L (.ref (ad V 87) :: st) :=
  g_callVi C (av := []) (fun l => c_X3_length V σ P l) (by decide) (en_87 V σ) (q := (RX3, TX3, 2)) rfl rfl ml_RX2_37 im_X3_length se_X3_length ini_RX3 co_X3_length hd_X3_length rfl ⟨rfl, rfl⟩ hr hst d hL hp h (fun r τ hq => by obtain ⟨rfl, hq⟩ := hq; exact k r hq)
theorem k_X4_166 {V : EV} {X : CX} {cc : ByteArray} {nL : Nat} {R : Room} (C : OK V X RX4 cc nL R) {σ : Mem} {pc pc' : Nat} {L : List (Option Value)} {st : List Value} {P : Int32 → Prop} (d : decode cc pc = .ok (.invokevirtual 166, 3)) (hst : (st.map fun v => v.category).sum ≤ 8) (hr : 0 + 1 ≤ R.frames ∧ 8 + (1 + 11) + 0 ≤ R.locals) (hL : L.length = nL) (hp : pc + 3 = pc') (h : wp_X3_length σ P) (k : ∀ r, P r → GG V X σ pc' L (.int r :: st)) : GG V X σ pc L (.ref (ad V 87) :: st) :=
  g_callVi C (av := []) (fun l => c_X3_length V σ P l) (by decide) (en_87 V σ) (q := (RX3, TX3, 2)) rfl rfl ml_RX4_166 im_X3_length se_X3_length ini_RX3 co_X3_length hd_X3_length rfl ⟨rfl, rfl⟩ hr hst d hL hp h (fun r τ hq => by obtain ⟨rfl, hq⟩ := hq; exact k r hq)

theorem dX2_readAll_0 : decode cX2_readAll 0 = .ok (.aload_n 0, 1) := by decide +kernel
theorem dX2_readAll_1 : decode cX2_readAll 1 = .ok (.iconst 0, 1) := by decide +kernel
theorem dX2_readAll_2 : decode cX2_readAll 2 = .ok (.putfield 30, 3) := by decide +kernel
theorem dX2_readAll_5 : decode cX2_readAll 5 = .ok (.aload_n 0, 1) := by decide +kernel
theorem dX2_readAll_6 : decode cX2_readAll 6 = .ok (.iconst 0, 1) := by decide +kernel
theorem dX2_readAll_7 : decode cX2_readAll 7 = .ok (.putfield 26, 3) := by decide +kernel
theorem dX2_readAll_10 : decode cX2_readAll 10 = .ok (.iconst 0, 1) := by decide +kernel
theorem dX2_readAll_11 : decode cX2_readAll 11 = .ok (.istore_n 1, 1) := by decide +kernel
theorem dX2_readAll_12 : decode cX2_readAll 12 = .ok (.iload_n 1, 1) := by decide +kernel
theorem dX2_readAll_13 : decode cX2_readAll 13 = .ok (.bipush 30, 2) := by decide +kernel
theorem dX2_readAll_15 : decode cX2_readAll 15 = .ok (.if_icmp .ge 63, 3) := by decide +kernel
theorem dX2_readAll_18 : decode cX2_readAll 18 = .ok (.aload_n 0, 1) := by decide +kernel
theorem dX2_readAll_19 : decode cX2_readAll 19 = .ok (.iload_n 1, 1) := by decide +kernel
theorem dX2_readAll_20 : decode cX2_readAll 20 = .ok (.invokevirtual 33, 3) := by decide +kernel
theorem dX2_readAll_23 : decode cX2_readAll 23 = .ok (.ifCond .ne 8, 3) := by decide +kernel
theorem dX2_readAll_26 : decode cX2_readAll 26 = .ok (.aload_n 0, 1) := by decide +kernel
theorem dX2_readAll_27 : decode cX2_readAll 27 = .ok (.getfield 30, 3) := by decide +kernel
theorem dX2_readAll_30 : decode cX2_readAll 30 = .ok (.ireturn, 1) := by decide +kernel
theorem dX2_readAll_31 : decode cX2_readAll 31 = .ok (.aload_n 0, 1) := by decide +kernel
theorem dX2_readAll_32 : decode cX2_readAll 32 = .ok (.dup, 1) := by decide +kernel
theorem dX2_readAll_33 : decode cX2_readAll 33 = .ok (.getfield 26, 3) := by decide +kernel
theorem dX2_readAll_36 : decode cX2_readAll 36 = .ok (.iconst 1, 1) := by decide +kernel
theorem dX2_readAll_37 : decode cX2_readAll 37 = .ok (.iadd, 1) := by decide +kernel
theorem dX2_readAll_38 : decode cX2_readAll 38 = .ok (.putfield 26, 3) := by decide +kernel
theorem dX2_readAll_41 : decode cX2_readAll 41 = .ok (.aload_n 0, 1) := by decide +kernel
theorem dX2_readAll_42 : decode cX2_readAll 42 = .ok (.getfield 30, 3) := by decide +kernel
theorem dX2_readAll_45 : decode cX2_readAll 45 = .ok (.aload_n 0, 1) := by decide +kernel
theorem dX2_readAll_46 : decode cX2_readAll 46 = .ok (.getfield 9, 3) := by decide +kernel
theorem dX2_readAll_49 : decode cX2_readAll 49 = .ok (.invokevirtual 37, 3) := by decide +kernel
theorem dX2_readAll_52 : decode cX2_readAll 52 = .ok (.if_icmp .lt 6, 3) := by decide +kernel
theorem dX2_readAll_55 : decode cX2_readAll 55 = .ok (.bipush (-5), 2) := by decide +kernel
theorem dX2_readAll_57 : decode cX2_readAll 57 = .ok (.ireturn, 1) := by decide +kernel
theorem dX2_readAll_58 : decode cX2_readAll 58 = .ok (.aload_n 0, 1) := by decide +kernel
theorem dX2_readAll_59 : decode cX2_readAll 59 = .ok (.bipush 59, 2) := by decide +kernel
theorem dX2_readAll_61 : decode cX2_readAll 61 = .ok (.invokevirtual 43, 3) := by decide +kernel
theorem dX2_readAll_64 : decode cX2_readAll 64 = .ok (.ifCond .ne 8, 3) := by decide +kernel
theorem dX2_readAll_67 : decode cX2_readAll 67 = .ok (.aload_n 0, 1) := by decide +kernel
theorem dX2_readAll_68 : decode cX2_readAll 68 = .ok (.getfield 30, 3) := by decide +kernel
theorem dX2_readAll_71 : decode cX2_readAll 71 = .ok (.ireturn, 1) := by decide +kernel
theorem dX2_readAll_72 : decode cX2_readAll 72 = .ok (.iinc 1 1, 3) := by decide +kernel
theorem dX2_readAll_75 : decode cX2_readAll 75 = .ok (.goto (-63), 3) := by decide +kernel
theorem dX2_readAll_78 : decode cX2_readAll 78 = .ok (.aload_n 0, 1) := by decide +kernel
theorem dX2_readAll_79 : decode cX2_readAll 79 = .ok (.getfield 30, 3) := by decide +kernel
theorem dX2_readAll_82 : decode cX2_readAll 82 = .ok (.ireturn, 1) := by decide +kernel
def wp_X2_readAll (σ : Mem) (P : Int32 → Mem → Prop) : Prop :=
  bm (up2 σ 89 5 0) (fun σ1 =>
    bm (up2 σ1 89 4 0) (fun σ2 =>
    lq2 (fun rec5 (σ3 : Mem) (x4 : Int32) =>
    ((30 ≤ x4 →
      P (σ3 89 5) σ3) ∧
      (¬ 30 ≤ x4 →
      wp_X2_readThing σ3 x4 (fun r6 σ7 =>
        ((r6 = 0 →
        P (σ7 89 5) σ7) ∧
        (¬ r6 = 0 →
        bm (up2 σ7 89 4 ((σ7 89 4) + 1)) (fun σ8 =>
          wp_X3_length σ8  (fun r9 =>
          (((σ8 89 5) < r9 →
          wp_X2_readSign σ8 59 (fun r10 σ11 =>
            ((r10 = 0 →
            P (σ11 89 5) σ11) ∧
            (¬ r10 = 0 →
            rec5 σ11 (x4 + 1))))) ∧
          (¬ (σ8 89 5) < r9 →
          P (-5) σ8)))))))))) σ2 0))
set_option maxRecDepth 100000 in
set_option maxHeartbeats 4000000 in
theorem c_X2_readAll (V : EV) (σ : Mem) (P : Int32 → Mem → Prop) (l : Launch) : Met l yX2_readAll (.code yX2_readAll cX2_readAll 2 (some .int) :: AW) { frames := 4, cells := 0, slots := 0, locals := 92 } (va_Pc [.ref (ad V 89)] (fun U => wP V σ U ∧ wp_X2_readAll σ P)) (va_Qi P (wB V) (AA V)) 0 0 (AA V) := by
  refine met_i V σ (own := RX2) (by decide +kernel) rfl (fun v hv => by simp at hv; subst hv; rfl) (Nat.le_of_ble_eq_true rfl) (fun X C D h => ?_) l
  show GG V X σ 0 [some (.ref (ad V 89)), none] []
  refine g_aload_n C dX2_readAll_0 rfl rfl rfl ?_
  refine g_iconst C dX2_readAll_1 ic_0 rfl ?_
  refine p_X2_30 C dX2_readAll_2 rfl h (fun σ1 h => ?_)
  refine g_aload_n C dX2_readAll_5 rfl rfl rfl ?_
  refine g_iconst C dX2_readAll_6 ic_0 rfl ?_
  refine p_X2_26 C dX2_readAll_7 rfl h (fun σ2 h => ?_)
  refine g_iconst C dX2_readAll_10 ic_0 rfl ?_
  refine g_istore_n C dX2_readAll_11 rfl (Nat.le_of_ble_eq_true rfl) (L' := [some (.ref (ad V 89)), some (.int 0)]) rfl rfl ?_
  refine h (fun (σ3 : Mem) (x4 : Int32) => GG V X σ3 12 [some (.ref (ad V 89)), some (.int x4)] []) (fun σ3 x4 h => ?_)
  refine g_iload_n C dX2_readAll_12 rfl rfl rfl ?_
  refine g_bipush C dX2_readAll_13 bp_30 rfl ?_
  refine g_icmp_ge C dX2_readAll_15 (tgt := 78) rfl rfl (fun q => ?_) (fun q => ?_)
  · have h := h.1 q
    refine g_aload_n C dX2_readAll_78 rfl rfl rfl ?_
    refine f_X2_30 C dX2_readAll_79 rfl ?_
    exact g_iret C dX2_readAll_82 D h
  · have h := h.2 q
    refine g_aload_n C dX2_readAll_18 rfl rfl rfl ?_
    refine g_iload_n C dX2_readAll_19 rfl rfl rfl ?_
    refine k_X2_33 C dX2_readAll_20 (Nat.le_of_ble_eq_true rfl) (by decide) rfl rfl h (fun r6 σ7 h => ?_)
    refine g_if_ne C dX2_readAll_23 (tgt := 31) rfl rfl (fun q => ?_) (fun q => ?_)
    · have h := h.2 q
      refine g_aload_n C dX2_readAll_31 rfl rfl rfl ?_
      refine g_dup C dX2_readAll_32 rfl rfl ?_
      refine f_X2_26 C dX2_readAll_33 rfl ?_
      refine g_iconst C dX2_readAll_36 ic_1 rfl ?_
      refine g_iadd C dX2_readAll_37 rfl ?_
      refine p_X2_26 C dX2_readAll_38 rfl h (fun σ8 h => ?_)
      refine g_aload_n C dX2_readAll_41 rfl rfl rfl ?_
      refine f_X2_30 C dX2_readAll_42 rfl ?_
      refine g_aload_n C dX2_readAll_45 rfl rfl rfl ?_
      refine f_X2_9 C dX2_readAll_46 rfl ?_
      refine k_X2_37 C dX2_readAll_49 (Nat.le_of_ble_eq_true rfl) (by decide) rfl rfl h (fun r9 h => ?_)
      refine g_icmp_lt C dX2_readAll_52 (tgt := 58) rfl rfl (fun q => ?_) (fun q => ?_)
      · have h := h.1 q
        refine g_aload_n C dX2_readAll_58 rfl rfl rfl ?_
        refine g_bipush C dX2_readAll_59 bp_59 rfl ?_
        refine k_X2_43 C dX2_readAll_61 (Nat.le_of_ble_eq_true rfl) (by decide) rfl rfl h (fun r10 σ11 h => ?_)
        refine g_if_ne C dX2_readAll_64 (tgt := 72) rfl rfl (fun q => ?_) (fun q => ?_)
        · have h := h.2 q
          refine g_iinc C dX2_readAll_72 (v := x4 + 1) (by rw [ic_1]) rfl (Nat.le_of_ble_eq_true rfl) (L' := [some (.ref (ad V 89)), some (.int (x4 + 1))]) rfl rfl ?_
          refine g_goto C dX2_readAll_75 (pc' := 12) rfl ?_
          exact h
        · have h := h.1 q
          refine g_aload_n C dX2_readAll_67 rfl rfl rfl ?_
          refine f_X2_30 C dX2_readAll_68 rfl ?_
          exact g_iret C dX2_readAll_71 D h
      · have h := h.2 q
        refine g_bipush C dX2_readAll_55 bp_m5 rfl ?_
        exact g_iret C dX2_readAll_57 D h
    · have h := h.1 q
      refine g_aload_n C dX2_readAll_26 rfl rfl rfl ?_
      refine f_X2_30 C dX2_readAll_27 rfl ?_
      exact g_iret C dX2_readAll_30 D h
theorem hd_X2_readAll : yX2_readAll.cls ≠ "java/lang/invoke/MethodHandle" ∧ yX2_readAll.cls ≠ "java/lang/invoke/VarHandle" ∧ (parseMethodDescriptor yX2_readAll.desc).map (fun d => d.parameters.length) = some 0 := by decide +kernel
theorem k_X4_119 {V : EV} {X : CX} {cc : ByteArray} {nL : Nat} {R : Room} (C : OK V X RX4 cc nL R) {σ : Mem} {pc pc' : Nat} {L : List (Option Value)} {st : List Value} {P : Int32 → Mem → Prop} (d : decode cc pc = .ok (.invokevirtual 119, 3)) (hst : (st.map fun v => v.category).sum ≤ 8) (hr : 4 + 1 ≤ R.frames ∧ 8 + (2 + 11) + 92 ≤ R.locals) (hL : L.length = nL) (hp : pc + 3 = pc') (h : wp_X2_readAll σ P) (k : ∀ r τ, P r τ → GG V X τ pc' L (.int r :: st)) : GG V X σ pc L (.ref (ad V 89) :: st) :=
  g_callVi C (av := []) (fun l => c_X2_readAll V σ P l) (by decide) (en_89 V σ) (q := (RX2, TX2, 6)) rfl rfl ml_RX4_119 im_X2_readAll se_X2_readAll ini_RX2 co_X2_readAll hd_X2_readAll rfl ⟨rfl, rfl⟩ hr hst d hL hp h k

theorem dX3_append_0 : decode cX3_append 0 = .ok (.aload_n 0, 1) := by decide +kernel
theorem dX3_append_1 : decode cX3_append 1 = .ok (.getfield 15, 3) := by decide +kernel
theorem dX3_append_4 : decode cX3_append 4 = .ok (.bipush 60, 2) := by decide +kernel
theorem dX3_append_6 : decode cX3_append 6 = .ok (.if_icmp .lt 6, 3) := by decide +kernel
theorem dX3_append_9 : decode cX3_append 9 = .ok (.bipush (-3), 2) := by decide +kernel
theorem dX3_append_11 : decode cX3_append 11 = .ok (.ireturn, 1) := by decide +kernel
theorem dX3_append_12 : decode cX3_append 12 = .ok (.aload_n 0, 1) := by decide +kernel
theorem dX3_append_13 : decode cX3_append 13 = .ok (.getfield 9, 3) := by decide +kernel
theorem dX3_append_16 : decode cX3_append 16 = .ok (.aload_n 0, 1) := by decide +kernel
theorem dX3_append_17 : decode cX3_append 17 = .ok (.getfield 15, 3) := by decide +kernel
theorem dX3_append_20 : decode cX3_append 20 = .ok (.iload_n 1, 1) := by decide +kernel
theorem dX3_append_21 : decode cX3_append 21 = .ok (.castore, 1) := by decide +kernel
theorem dX3_append_22 : decode cX3_append 22 = .ok (.aload_n 0, 1) := by decide +kernel
theorem dX3_append_23 : decode cX3_append 23 = .ok (.dup, 1) := by decide +kernel
theorem dX3_append_24 : decode cX3_append 24 = .ok (.getfield 15, 3) := by decide +kernel
theorem dX3_append_27 : decode cX3_append 27 = .ok (.iconst 1, 1) := by decide +kernel
theorem dX3_append_28 : decode cX3_append 28 = .ok (.iadd, 1) := by decide +kernel
theorem dX3_append_29 : decode cX3_append 29 = .ok (.putfield 15, 3) := by decide +kernel
theorem dX3_append_32 : decode cX3_append 32 = .ok (.aload_n 0, 1) := by decide +kernel
theorem dX3_append_33 : decode cX3_append 33 = .ok (.getfield 15, 3) := by decide +kernel
theorem dX3_append_36 : decode cX3_append 36 = .ok (.ireturn, 1) := by decide +kernel
def wp_X3_append (σ : Mem) (y1 : Int32) (P : Int32 → Mem → Prop) : Prop :=
  (((σ 87 1) < 60 →
    vp_in (σ 87 1) 60 ∧ bm (up2 σ 88 (σ 87 1).toNatClampNeg (vp_nar .char y1)) (fun σ1 =>
      bm (up2 σ1 87 1 ((σ1 87 1) + 1)) (fun σ2 =>
      P (σ2 87 1) σ2))) ∧
    (¬ (σ 87 1) < 60 →
    P (-3) σ))
set_option maxRecDepth 100000 in
set_option maxHeartbeats 4000000 in
theorem c_X3_append (V : EV) (σ : Mem) (y1 : Int32) (P : Int32 → Mem → Prop) (l : Launch) : Met l yX3_append (.code yX3_append cX3_append 2 (some .int) :: AW) { frames := 0, cells := 0, slots := 0, locals := 0 } (va_Pc [.ref (ad V 87), .int y1] (fun U => wP V σ U ∧ wp_X3_append σ y1 P)) (va_Qi P (wB V) (AA V)) 0 0 (AA V) := by
  refine met_i V σ (own := RX3) (by decide +kernel) rfl (fun v hv => by simp at hv; rcases hv with rfl | rfl <;> rfl) (Nat.le_of_ble_eq_true rfl) (fun X C D h => ?_) l
  show GG V X σ 0 [some (.ref (ad V 87)), some (.int y1)] []
  refine g_aload_n C dX3_append_0 rfl rfl rfl ?_
  refine f_X3_15 C dX3_append_1 rfl ?_
  refine g_bipush C dX3_append_4 bp_60 rfl ?_
  refine g_icmp_lt C dX3_append_6 (tgt := 12) rfl rfl (fun q => ?_) (fun q => ?_)
  · have h := h.1 q
    refine g_aload_n C dX3_append_12 rfl rfl rfl ?_
    refine f_X3_9 C dX3_append_13 rfl ?_
    refine g_aload_n C dX3_append_16 rfl rfl rfl ?_
    refine f_X3_15 C dX3_append_17 rfl ?_
    refine g_iload_n C dX3_append_20 rfl rfl rfl ?_
    obtain ⟨hin, h⟩ := h
    refine g_cst C dX3_append_21 arr_88 hin rfl h (fun σ1 h => ?_)
    refine g_aload_n C dX3_append_22 rfl rfl rfl ?_
    refine g_dup C dX3_append_23 rfl rfl ?_
    refine f_X3_15 C dX3_append_24 rfl ?_
    refine g_iconst C dX3_append_27 ic_1 rfl ?_
    refine g_iadd C dX3_append_28 rfl ?_
    refine p_X3_15 C dX3_append_29 rfl h (fun σ2 h => ?_)
    refine g_aload_n C dX3_append_32 rfl rfl rfl ?_
    refine f_X3_15 C dX3_append_33 rfl ?_
    exact g_iret C dX3_append_36 D h
  · have h := h.2 q
    refine g_bipush C dX3_append_9 bp_m3 rfl ?_
    exact g_iret C dX3_append_11 D h
theorem hd_X3_append : yX3_append.cls ≠ "java/lang/invoke/MethodHandle" ∧ yX3_append.cls ≠ "java/lang/invoke/VarHandle" ∧ (parseMethodDescriptor yX3_append.desc).map (fun d => d.parameters.length) = some 1 := by decide +kernel
theorem k_X4_112 {V : EV} {X : CX} {cc : ByteArray} {nL : Nat} {R : Room} {y1 : Int32} (C : OK V X RX4 cc nL R) {σ : Mem} {pc pc' : Nat} {L : List (Option Value)} {st : List Value} {P : Int32 → Mem → Prop} (d : decode cc pc = .ok (.invokevirtual 112, 3)) (hst : (st.map fun v => v.category).sum ≤ 8) (hr : 0 + 1 ≤ R.frames ∧ 8 + (2 + 11) + 0 ≤ R.locals) (hL : L.length = nL) (hp : pc + 3 = pc') (h : wp_X3_append σ y1 P) (k : ∀ r τ, P r τ → GG V X τ pc' L (.int r :: st)) : GG V X σ pc L (.int y1 :: .ref (ad V 87) :: st) :=
  g_callVi C (av := [.int y1]) (fun l => c_X3_append V σ y1 P l) (by decide) (en_87 V σ) (q := (RX3, TX3, 2)) rfl rfl ml_RX4_112 im_X3_append se_X3_append ini_RX3 co_X3_append hd_X3_append rfl ⟨rfl, rfl⟩ hr hst d hL hp h k

theorem dX3_empty_0 : decode cX3_empty 0 = .ok (.aload_n 0, 1) := by decide +kernel
theorem dX3_empty_1 : decode cX3_empty 1 = .ok (.getfield 15, 3) := by decide +kernel
theorem dX3_empty_4 : decode cX3_empty 4 = .ok (.istore_n 1, 1) := by decide +kernel
theorem dX3_empty_5 : decode cX3_empty 5 = .ok (.aload_n 0, 1) := by decide +kernel
theorem dX3_empty_6 : decode cX3_empty 6 = .ok (.iconst 0, 1) := by decide +kernel
theorem dX3_empty_7 : decode cX3_empty 7 = .ok (.putfield 15, 3) := by decide +kernel
theorem dX3_empty_10 : decode cX3_empty 10 = .ok (.iload_n 1, 1) := by decide +kernel
theorem dX3_empty_11 : decode cX3_empty 11 = .ok (.ireturn, 1) := by decide +kernel
def wp_X3_empty (σ : Mem) (P : Int32 → Mem → Prop) : Prop :=
  bm (up2 σ 87 1 0) (fun σ1 =>
    P (σ 87 1) σ1)
set_option maxRecDepth 100000 in
set_option maxHeartbeats 4000000 in
theorem c_X3_empty (V : EV) (σ : Mem) (P : Int32 → Mem → Prop) (l : Launch) : Met l yX3_empty (.code yX3_empty cX3_empty 2 (some .int) :: AW) { frames := 0, cells := 0, slots := 0, locals := 0 } (va_Pc [.ref (ad V 87)] (fun U => wP V σ U ∧ wp_X3_empty σ P)) (va_Qi P (wB V) (AA V)) 0 0 (AA V) := by
  refine met_i V σ (own := RX3) (by decide +kernel) rfl (fun v hv => by simp at hv; subst hv; rfl) (Nat.le_of_ble_eq_true rfl) (fun X C D h => ?_) l
  show GG V X σ 0 [some (.ref (ad V 87)), none] []
  refine g_aload_n C dX3_empty_0 rfl rfl rfl ?_
  refine f_X3_15 C dX3_empty_1 rfl ?_
  refine g_istore_n C dX3_empty_4 rfl (Nat.le_of_ble_eq_true rfl) (L' := [some (.ref (ad V 87)), some (.int (σ 87 1))]) rfl rfl ?_
  refine g_aload_n C dX3_empty_5 rfl rfl rfl ?_
  refine g_iconst C dX3_empty_6 ic_0 rfl ?_
  refine p_X3_15 C dX3_empty_7 rfl h (fun σ1 h => ?_)
  refine g_iload_n C dX3_empty_10 rfl rfl rfl ?_
  exact g_iret C dX3_empty_11 D h
theorem hd_X3_empty : yX3_empty.cls ≠ "java/lang/invoke/MethodHandle" ∧ yX3_empty.cls ≠ "java/lang/invoke/VarHandle" ∧ (parseMethodDescriptor yX3_empty.desc).map (fun d => d.parameters.length) = some 0 := by decide +kernel
theorem k_X4_116 {V : EV} {X : CX} {cc : ByteArray} {nL : Nat} {R : Room} (C : OK V X RX4 cc nL R) {σ : Mem} {pc pc' : Nat} {L : List (Option Value)} {st : List Value} {P : Int32 → Mem → Prop} (d : decode cc pc = .ok (.invokevirtual 116, 3)) (hst : (st.map fun v => v.category).sum ≤ 8) (hr : 0 + 1 ≤ R.frames ∧ 8 + (2 + 11) + 0 ≤ R.locals) (hL : L.length = nL) (hp : pc + 3 = pc') (h : wp_X3_empty σ P) (k : ∀ r τ, P r τ → GG V X τ pc' L (.int r :: st)) : GG V X σ pc L (.ref (ad V 87) :: st) :=
  g_callVi C (av := []) (fun l => c_X3_empty V σ P l) (by decide) (en_87 V σ) (q := (RX3, TX3, 2)) rfl rfl ml_RX4_116 im_X3_empty se_X3_empty ini_RX3 co_X3_empty hd_X3_empty rfl ⟨rfl, rfl⟩ hr hst d hL hp h k

theorem dX4_isPage_0 : decode cX4_isPage 0 = .ok (.iload_n 0, 1) := by decide +kernel
theorem dX4_isPage_1 : decode cX4_isPage 1 = .ok (.iconst 0, 1) := by decide +kernel
theorem dX4_isPage_2 : decode cX4_isPage 2 = .ok (.iconst 4, 1) := by decide +kernel
theorem dX4_isPage_3 : decode cX4_isPage 3 = .ok (.invokestatic 60, 3) := by decide +kernel
theorem dX4_isPage_6 : decode cX4_isPage 6 = .ok (.ifCond .eq 17, 3) := by decide +kernel
theorem dX4_isPage_9 : decode cX4_isPage 9 = .ok (.iload_n 1, 1) := by decide +kernel
theorem dX4_isPage_10 : decode cX4_isPage 10 = .ok (.iconst 0, 1) := by decide +kernel
theorem dX4_isPage_11 : decode cX4_isPage 11 = .ok (.bipush 9, 2) := by decide +kernel
theorem dX4_isPage_13 : decode cX4_isPage 13 = .ok (.invokestatic 60, 3) := by decide +kernel
theorem dX4_isPage_16 : decode cX4_isPage 16 = .ok (.ifCond .eq 7, 3) := by decide +kernel
theorem dX4_isPage_19 : decode cX4_isPage 19 = .ok (.iconst 1, 1) := by decide +kernel
theorem dX4_isPage_20 : decode cX4_isPage 20 = .ok (.goto 4, 3) := by decide +kernel
theorem dX4_isPage_23 : decode cX4_isPage 23 = .ok (.iconst 0, 1) := by decide +kernel
theorem dX4_isPage_24 : decode cX4_isPage 24 = .ok (.ireturn, 1) := by decide +kernel
def wp_X4_isPage (σ : Mem) (y1 : Int32) (y2 : Int32) (P : Int32 → Prop) : Prop :=
  wp_X4_isWithin σ y1 0 4 (fun r1 =>
    ((r1 = 0 →
    P 0) ∧
    (¬ r1 = 0 →
    wp_X4_isWithin σ y2 0 9 (fun r2 =>
      ((r2 = 0 →
      P 0) ∧
      (¬ r2 = 0 →
      P 1))))))
set_option maxRecDepth 100000 in
set_option maxHeartbeats 4000000 in
theorem c_X4_isPage (V : EV) (σ : Mem) (y1 : Int32) (y2 : Int32) (P : Int32 → Prop) (l : Launch) : Met l yX4_isPage (.code yX4_isPage cX4_isPage 2 (some .boolean) :: AW) { frames := 1, cells := 0, slots := 0, locals := 22 } (va_Pc [.int y1, .int y2] (fun U => wP V σ U ∧ wp_X4_isPage σ y1 y2 P)) (va_Qi (fun r τ => τ = σ ∧ P r) (wB V) (AA V)) 0 0 (AA V) := by
  refine met_i V σ (own := RX4) (by decide +kernel) rfl (fun v hv => by simp at hv; rcases hv with rfl | rfl <;> rfl) (Nat.le_of_ble_eq_true rfl) (fun X C D h => ?_) l
  show GG V X σ 0 [some (.int y1), some (.int y2)] []
  refine g_iload_n C dX4_isPage_0 rfl rfl rfl ?_
  refine g_iconst C dX4_isPage_1 ic_0 rfl ?_
  refine g_iconst C dX4_isPage_2 ic_4 rfl ?_
  refine k_X4_60 C dX4_isPage_3 (Nat.le_of_ble_eq_true rfl) (by decide) rfl rfl h (fun r1 h => ?_)
  refine g_if_eq C dX4_isPage_6 (tgt := 23) rfl rfl (fun q => ?_) (fun q => ?_)
  · have h := h.1 q
    refine g_iconst C dX4_isPage_23 ic_0 rfl ?_
    exact g_zret C dX4_isPage_24 D (by decide) ⟨rfl, h⟩
  · have h := h.2 q
    refine g_iload_n C dX4_isPage_9 rfl rfl rfl ?_
    refine g_iconst C dX4_isPage_10 ic_0 rfl ?_
    refine g_bipush C dX4_isPage_11 bp_9 rfl ?_
    refine k_X4_60 C dX4_isPage_13 (Nat.le_of_ble_eq_true rfl) (by decide) rfl rfl h (fun r2 h => ?_)
    refine g_if_eq C dX4_isPage_16 (tgt := 23) rfl rfl (fun q => ?_) (fun q => ?_)
    · have h := h.1 q
      refine g_iconst C dX4_isPage_23 ic_0 rfl ?_
      exact g_zret C dX4_isPage_24 D (by decide) ⟨rfl, h⟩
    · have h := h.2 q
      refine g_iconst C dX4_isPage_19 ic_1 rfl ?_
      refine g_goto C dX4_isPage_20 (pc' := 24) rfl ?_
      exact g_zret C dX4_isPage_24 D (by decide) ⟨rfl, h⟩
theorem hd_X4_isPage : yX4_isPage.cls ≠ "java/lang/invoke/MethodHandle" ∧ yX4_isPage.cls ≠ "java/lang/invoke/VarHandle" ∧ (parseMethodDescriptor yX4_isPage.desc).map (fun d => d.parameters.length) = some 2 := by decide +kernel
theorem k_X4_56 {V : EV} {X : CX} {cc : ByteArray} {nL : Nat} {R : Room} {y1 : Int32} {y2 : Int32} (C : OK V X RX4 cc nL R) {σ : Mem} {pc pc' : Nat} {L : List (Option Value)} {st : List Value} {P : Int32 → Prop} (d : decode cc pc = .ok (.invokestatic 56, 3)) (hst : (st.map fun v => v.category).sum ≤ 8) (hr : 1 + 1 ≤ R.frames ∧ 8 + (2 + 11) + 22 ≤ R.locals) (hL : L.length = nL) (hp : pc + 3 = pc') (h : wp_X4_isPage σ y1 y2 P) (k : ∀ r, P r → GG V X σ pc' L (.int r :: st)) : GG V X σ pc L (.int y2 :: .int y1 :: st) :=
  g_callSi C (av := [.int y1, .int y2]) (fun l => c_X4_isPage V σ y1 y2 P l) ml_RX4_56 st_X4_isPage ini_RX4 co_X4_isPage ⟨rfl, hd_X4_isPage⟩ rfl ⟨rfl, rfl⟩ hr hst d hL hp h (fun r τ hq => by obtain ⟨rfl, hq⟩ := hq; exact k r hq)

theorem dX4_recorded_0 : decode cX4_recorded 0 = .ok (.iload_n 1, 1) := by decide +kernel
theorem dX4_recorded_1 : decode cX4_recorded 1 = .ok (.ifCond .lt 14, 3) := by decide +kernel
theorem dX4_recorded_4 : decode cX4_recorded 4 = .ok (.aload_n 0, 1) := by decide +kernel
theorem dX4_recorded_5 : decode cX4_recorded 5 = .ok (.getfield 29, 3) := by decide +kernel
theorem dX4_recorded_8 : decode cX4_recorded 8 = .ok (.aload_n 0, 1) := by decide +kernel
theorem dX4_recorded_9 : decode cX4_recorded 9 = .ok (.getfield 16, 3) := by decide +kernel
theorem dX4_recorded_12 : decode cX4_recorded 12 = .ok (.invokevirtual 172, 3) := by decide +kernel
theorem dX4_recorded_15 : decode cX4_recorded 15 = .ok (.iload_n 1, 1) := by decide +kernel
theorem dX4_recorded_16 : decode cX4_recorded 16 = .ok (.ireturn, 1) := by decide +kernel
def wp_X4_recorded (σ : Mem) (y1 : Int32) (P : Int32 → Mem → Prop) : Prop :=
  ((y1 < 0 →
    P y1 σ) ∧
    (¬ y1 < 0 →
    wp_X0_add σ  (fun σ1 =>
      P y1 σ1)))
set_option maxRecDepth 100000 in
set_option maxHeartbeats 4000000 in
theorem c_X4_recorded (V : EV) (σ : Mem) (y1 : Int32) (P : Int32 → Mem → Prop) (l : Launch) : Met l yX4_recorded (.code yX4_recorded cX4_recorded 2 (some .int) :: AW) { frames := 3, cells := 0, slots := 0, locals := 66 } (va_Pc [.ref (ad V 84), .int y1] (fun U => wP V σ U ∧ wp_X4_recorded σ y1 P)) (va_Qi P (wB V) (AA V)) 0 0 (AA V) := by
  refine met_i V σ (own := RX4) (by decide +kernel) rfl (fun v hv => by simp at hv; rcases hv with rfl | rfl <;> rfl) (Nat.le_of_ble_eq_true rfl) (fun X C D h => ?_) l
  show GG V X σ 0 [some (.ref (ad V 84)), some (.int y1)] []
  refine g_iload_n C dX4_recorded_0 rfl rfl rfl ?_
  refine g_if_lt C dX4_recorded_1 (tgt := 15) rfl rfl (fun q => ?_) (fun q => ?_)
  · have h := h.1 q
    refine g_iload_n C dX4_recorded_15 rfl rfl rfl ?_
    exact g_iret C dX4_recorded_16 D h
  · have h := h.2 q
    refine g_aload_n C dX4_recorded_4 rfl rfl rfl ?_
    refine f_X4_29 C dX4_recorded_5 rfl ?_
    refine g_aload_n C dX4_recorded_8 rfl rfl rfl ?_
    refine f_X4_16 C dX4_recorded_9 rfl ?_
    refine k_X4_172 C dX4_recorded_12 (Nat.le_of_ble_eq_true rfl) (by decide) rfl rfl h (fun σ1 h => ?_)
    refine g_iload_n C dX4_recorded_15 rfl rfl rfl ?_
    exact g_iret C dX4_recorded_16 D h
theorem hd_X4_recorded : yX4_recorded.cls ≠ "java/lang/invoke/MethodHandle" ∧ yX4_recorded.cls ≠ "java/lang/invoke/VarHandle" ∧ (parseMethodDescriptor yX4_recorded.desc).map (fun d => d.parameters.length) = some 1 := by decide +kernel
theorem k_X4_75 {V : EV} {X : CX} {cc : ByteArray} {nL : Nat} {R : Room} {y1 : Int32} (C : OK V X RX4 cc nL R) {σ : Mem} {pc pc' : Nat} {L : List (Option Value)} {st : List Value} {P : Int32 → Mem → Prop} (d : decode cc pc = .ok (.invokevirtual 75, 3)) (hst : (st.map fun v => v.category).sum ≤ 8) (hr : 3 + 1 ≤ R.frames ∧ 8 + (2 + 11) + 66 ≤ R.locals) (hL : L.length = nL) (hp : pc + 3 = pc') (h : wp_X4_recorded σ y1 P) (k : ∀ r τ, P r τ → GG V X τ pc' L (.int r :: st)) : GG V X σ pc L (.int y1 :: .ref (ad V 84) :: st) :=
  g_callVi C (av := [.int y1]) (fun l => c_X4_recorded V σ y1 P l) (by decide) (en_84 V σ) (q := (RX4, TX4, 9)) rfl rfl ml_RX4_75 im_X4_recorded se_X4_recorded ini_RX4 co_X4_recorded hd_X4_recorded rfl ⟨rfl, rfl⟩ hr hst d hL hp h k

theorem dX4_write_0 : decode cX4_write 0 = .ok (.iload_n 1, 1) := by decide +kernel
theorem dX4_write_1 : decode cX4_write 1 = .ok (.iload_n 2, 1) := by decide +kernel
theorem dX4_write_2 : decode cX4_write 2 = .ok (.invokestatic 56, 3) := by decide +kernel
theorem dX4_write_5 : decode cX4_write 5 = .ok (.ifCond .ne 5, 3) := by decide +kernel
theorem dX4_write_8 : decode cX4_write 8 = .ok (.iconst (-1), 1) := by decide +kernel
theorem dX4_write_9 : decode cX4_write 9 = .ok (.ireturn, 1) := by decide +kernel
theorem dX4_write_10 : decode cX4_write 10 = .ok (.iload_n 3, 1) := by decide +kernel
theorem dX4_write_11 : decode cX4_write 11 = .ok (.iconst 0, 1) := by decide +kernel
theorem dX4_write_12 : decode cX4_write 12 = .ok (.sipush 9999, 3) := by decide +kernel
theorem dX4_write_15 : decode cX4_write 15 = .ok (.invokestatic 60, 3) := by decide +kernel
theorem dX4_write_18 : decode cX4_write 18 = .ok (.ifCond .ne 6, 3) := by decide +kernel
theorem dX4_write_21 : decode cX4_write 21 = .ok (.bipush (-2), 2) := by decide +kernel
theorem dX4_write_23 : decode cX4_write 23 = .ok (.ireturn, 1) := by decide +kernel
theorem dX4_write_24 : decode cX4_write 24 = .ok (.aload_n 0, 1) := by decide +kernel
theorem dX4_write_25 : decode cX4_write 25 = .ok (.getfield 16, 3) := by decide +kernel
theorem dX4_write_28 : decode cX4_write 28 = .ok (.aload_n 0, 1) := by decide +kernel
theorem dX4_write_29 : decode cX4_write 29 = .ok (.getfield 12, 3) := by decide +kernel
theorem dX4_write_32 : decode cX4_write 32 = .ok (.invokevirtual 64, 3) := by decide +kernel
theorem dX4_write_35 : decode cX4_write 35 = .ok (.aload_n 0, 1) := by decide +kernel
theorem dX4_write_36 : decode cX4_write 36 = .ok (.aload_n 0, 1) := by decide +kernel
theorem dX4_write_37 : decode cX4_write 37 = .ok (.getfield 12, 3) := by decide +kernel
theorem dX4_write_40 : decode cX4_write 40 = .ok (.iload_n 1, 1) := by decide +kernel
theorem dX4_write_41 : decode cX4_write 41 = .ok (.iload_n 2, 1) := by decide +kernel
theorem dX4_write_42 : decode cX4_write 42 = .ok (.invokestatic 68, 3) := by decide +kernel
theorem dX4_write_45 : decode cX4_write 45 = .ok (.iload_n 3, 1) := by decide +kernel
theorem dX4_write_46 : decode cX4_write 46 = .ok (.invokevirtual 72, 3) := by decide +kernel
theorem dX4_write_49 : decode cX4_write 49 = .ok (.invokevirtual 75, 3) := by decide +kernel
theorem dX4_write_52 : decode cX4_write 52 = .ok (.ireturn, 1) := by decide +kernel
def wp_X4_write (σ : Mem) (y1 : Int32) (y2 : Int32) (y3 : Int32) (P : Int32 → Mem → Prop) : Prop :=
  wp_X4_isPage σ y1 y2 (fun r1 =>
    ((r1 = 0 →
    P (-1) σ) ∧
    (¬ r1 = 0 →
    wp_X4_isWithin σ y3 0 9999 (fun r2 =>
      ((r2 = 0 →
      P (-2) σ) ∧
      (¬ r2 = 0 →
      wp_X1_copyFrom σ 12 0 (fun σ3 =>
        wp_X4_pageIndex σ3 y1 y2 (fun r4 =>
        wp_X1_put σ3 r4 y3 (fun r5 σ6 =>
        wp_X4_recorded σ6 r5 (fun r7 σ8 =>
        P r7 σ8))))))))))
set_option maxRecDepth 100000 in
set_option maxHeartbeats 4000000 in
theorem c_X4_write (V : EV) (σ : Mem) (y1 : Int32) (y2 : Int32) (y3 : Int32) (P : Int32 → Mem → Prop) (l : Launch) : Met l yX4_write (.code yX4_write cX4_write 4 (some .int) :: AW) { frames := 5, cells := 0, slots := 0, locals := 114 } (va_Pc [.ref (ad V 84), .int y1, .int y2, .int y3] (fun U => wP V σ U ∧ wp_X4_write σ y1 y2 y3 P)) (va_Qi P (wB V) (AA V)) 0 0 (AA V) := by
  refine met_i V σ (own := RX4) (by decide +kernel) rfl (fun v hv => by simp at hv; rcases hv with rfl | rfl | rfl | rfl <;> rfl) (Nat.le_of_ble_eq_true rfl) (fun X C D h => ?_) l
  show GG V X σ 0 [some (.ref (ad V 84)), some (.int y1), some (.int y2), some (.int y3)] []
  refine g_iload_n C dX4_write_0 rfl rfl rfl ?_
  refine g_iload_n C dX4_write_1 rfl rfl rfl ?_
  refine k_X4_56 C dX4_write_2 (Nat.le_of_ble_eq_true rfl) (by decide) rfl rfl h (fun r1 h => ?_)
  refine g_if_ne C dX4_write_5 (tgt := 10) rfl rfl (fun q => ?_) (fun q => ?_)
  · have h := h.2 q
    refine g_iload_n C dX4_write_10 rfl rfl rfl ?_
    refine g_iconst C dX4_write_11 ic_0 rfl ?_
    refine g_sipush C dX4_write_12 sp_9999 rfl ?_
    refine k_X4_60 C dX4_write_15 (Nat.le_of_ble_eq_true rfl) (by decide) rfl rfl h (fun r2 h => ?_)
    refine g_if_ne C dX4_write_18 (tgt := 24) rfl rfl (fun q => ?_) (fun q => ?_)
    · have h := h.2 q
      refine g_aload_n C dX4_write_24 rfl rfl rfl ?_
      refine f_X4_16 C dX4_write_25 rfl ?_
      refine g_aload_n C dX4_write_28 rfl rfl rfl ?_
      refine f_X4_12 C dX4_write_29 rfl ?_
      refine k_X4_64 isM_12 isM_0 C dX4_write_32 (Nat.le_of_ble_eq_true rfl) (by decide) rfl rfl h (fun σ3 h => ?_)
      refine g_aload_n C dX4_write_35 rfl rfl rfl ?_
      refine g_aload_n C dX4_write_36 rfl rfl rfl ?_
      refine f_X4_12 C dX4_write_37 rfl ?_
      refine g_iload_n C dX4_write_40 rfl rfl rfl ?_
      refine g_iload_n C dX4_write_41 rfl rfl rfl ?_
      refine k_X4_68 C dX4_write_42 (Nat.le_of_ble_eq_true rfl) (by decide) rfl rfl h (fun r4 h => ?_)
      refine g_iload_n C dX4_write_45 rfl rfl rfl ?_
      refine k_X4_72 C dX4_write_46 (Nat.le_of_ble_eq_true rfl) (by decide) rfl rfl h (fun r5 σ6 h => ?_)
      refine k_X4_75 C dX4_write_49 (Nat.le_of_ble_eq_true rfl) (by decide) rfl rfl h (fun r7 σ8 h => ?_)
      exact g_iret C dX4_write_52 D h
    · have h := h.1 q
      refine g_bipush C dX4_write_21 bp_m2 rfl ?_
      exact g_iret C dX4_write_23 D h
  · have h := h.1 q
    refine g_iconst C dX4_write_8 ic_m1 rfl ?_
    exact g_iret C dX4_write_9 D h
theorem hd_X4_write : yX4_write.cls ≠ "java/lang/invoke/MethodHandle" ∧ yX4_write.cls ≠ "java/lang/invoke/VarHandle" ∧ (parseMethodDescriptor yX4_write.desc).map (fun d => d.parameters.length) = some 3 := by decide +kernel

theorem dX4_giveBack_0 : decode cX4_giveBack 0 = .ok (.iload_n 1, 1) := by decide +kernel
theorem dX4_giveBack_1 : decode cX4_giveBack 1 = .ok (.iload_n 2, 1) := by decide +kernel
theorem dX4_giveBack_2 : decode cX4_giveBack 2 = .ok (.invokestatic 56, 3) := by decide +kernel
theorem dX4_giveBack_5 : decode cX4_giveBack 5 = .ok (.ifCond .ne 5, 3) := by decide +kernel
theorem dX4_giveBack_8 : decode cX4_giveBack 8 = .ok (.iconst (-1), 1) := by decide +kernel
theorem dX4_giveBack_9 : decode cX4_giveBack 9 = .ok (.ireturn, 1) := by decide +kernel
theorem dX4_giveBack_10 : decode cX4_giveBack 10 = .ok (.aload_n 0, 1) := by decide +kernel
theorem dX4_giveBack_11 : decode cX4_giveBack 11 = .ok (.getfield 16, 3) := by decide +kernel
theorem dX4_giveBack_14 : decode cX4_giveBack 14 = .ok (.aload_n 0, 1) := by decide +kernel
theorem dX4_giveBack_15 : decode cX4_giveBack 15 = .ok (.getfield 12, 3) := by decide +kernel
theorem dX4_giveBack_18 : decode cX4_giveBack 18 = .ok (.invokevirtual 64, 3) := by decide +kernel
theorem dX4_giveBack_21 : decode cX4_giveBack 21 = .ok (.aload_n 0, 1) := by decide +kernel
theorem dX4_giveBack_22 : decode cX4_giveBack 22 = .ok (.aload_n 0, 1) := by decide +kernel
theorem dX4_giveBack_23 : decode cX4_giveBack 23 = .ok (.getfield 12, 3) := by decide +kernel
theorem dX4_giveBack_26 : decode cX4_giveBack 26 = .ok (.iload_n 1, 1) := by decide +kernel
theorem dX4_giveBack_27 : decode cX4_giveBack 27 = .ok (.iload_n 2, 1) := by decide +kernel
theorem dX4_giveBack_28 : decode cX4_giveBack 28 = .ok (.invokestatic 68, 3) := by decide +kernel
theorem dX4_giveBack_31 : decode cX4_giveBack 31 = .ok (.invokevirtual 79, 3) := by decide +kernel
theorem dX4_giveBack_34 : decode cX4_giveBack 34 = .ok (.invokevirtual 75, 3) := by decide +kernel
theorem dX4_giveBack_37 : decode cX4_giveBack 37 = .ok (.ireturn, 1) := by decide +kernel
def wp_X4_giveBack (σ : Mem) (y1 : Int32) (y2 : Int32) (P : Int32 → Mem → Prop) : Prop :=
  wp_X4_isPage σ y1 y2 (fun r1 =>
    ((r1 = 0 →
    P (-1) σ) ∧
    (¬ r1 = 0 →
    wp_X1_copyFrom σ 12 0 (fun σ2 =>
      wp_X4_pageIndex σ2 y1 y2 (fun r3 =>
      wp_X1_takeBack σ2 r3 (fun r4 σ5 =>
      wp_X4_recorded σ5 r4 (fun r6 σ7 =>
      P r6 σ7)))))))
set_option maxRecDepth 100000 in
set_option maxHeartbeats 4000000 in
theorem c_X4_giveBack (V : EV) (σ : Mem) (y1 : Int32) (y2 : Int32) (P : Int32 → Mem → Prop) (l : Launch) : Met l yX4_giveBack (.code yX4_giveBack cX4_giveBack 3 (some .int) :: AW) { frames := 5, cells := 0, slots := 0, locals := 113 } (va_Pc [.ref (ad V 84), .int y1, .int y2] (fun U => wP V σ U ∧ wp_X4_giveBack σ y1 y2 P)) (va_Qi P (wB V) (AA V)) 0 0 (AA V) := by
  refine met_i V σ (own := RX4) (by decide +kernel) rfl (fun v hv => by simp at hv; rcases hv with rfl | rfl | rfl <;> rfl) (Nat.le_of_ble_eq_true rfl) (fun X C D h => ?_) l
  show GG V X σ 0 [some (.ref (ad V 84)), some (.int y1), some (.int y2)] []
  refine g_iload_n C dX4_giveBack_0 rfl rfl rfl ?_
  refine g_iload_n C dX4_giveBack_1 rfl rfl rfl ?_
  refine k_X4_56 C dX4_giveBack_2 (Nat.le_of_ble_eq_true rfl) (by decide) rfl rfl h (fun r1 h => ?_)
  refine g_if_ne C dX4_giveBack_5 (tgt := 10) rfl rfl (fun q => ?_) (fun q => ?_)
  · have h := h.2 q
    refine g_aload_n C dX4_giveBack_10 rfl rfl rfl ?_
    refine f_X4_16 C dX4_giveBack_11 rfl ?_
    refine g_aload_n C dX4_giveBack_14 rfl rfl rfl ?_
    refine f_X4_12 C dX4_giveBack_15 rfl ?_
    refine k_X4_64 isM_12 isM_0 C dX4_giveBack_18 (Nat.le_of_ble_eq_true rfl) (by decide) rfl rfl h (fun σ2 h => ?_)
    refine g_aload_n C dX4_giveBack_21 rfl rfl rfl ?_
    refine g_aload_n C dX4_giveBack_22 rfl rfl rfl ?_
    refine f_X4_12 C dX4_giveBack_23 rfl ?_
    refine g_iload_n C dX4_giveBack_26 rfl rfl rfl ?_
    refine g_iload_n C dX4_giveBack_27 rfl rfl rfl ?_
    refine k_X4_68 C dX4_giveBack_28 (Nat.le_of_ble_eq_true rfl) (by decide) rfl rfl h (fun r3 h => ?_)
    refine k_X4_79 C dX4_giveBack_31 (Nat.le_of_ble_eq_true rfl) (by decide) rfl rfl h (fun r4 σ5 h => ?_)
    refine k_X4_75 C dX4_giveBack_34 (Nat.le_of_ble_eq_true rfl) (by decide) rfl rfl h (fun r6 σ7 h => ?_)
    exact g_iret C dX4_giveBack_37 D h
  · have h := h.1 q
    refine g_iconst C dX4_giveBack_8 ic_m1 rfl ?_
    exact g_iret C dX4_giveBack_9 D h
theorem hd_X4_giveBack : yX4_giveBack.cls ≠ "java/lang/invoke/MethodHandle" ∧ yX4_giveBack.cls ≠ "java/lang/invoke/VarHandle" ∧ (parseMethodDescriptor yX4_giveBack.desc).map (fun d => d.parameters.length) = some 2 := by decide +kernel

theorem dX4_pin_0 : decode cX4_pin 0 = .ok (.iload_n 1, 1) := by decide +kernel
theorem dX4_pin_1 : decode cX4_pin 1 = .ok (.iload_n 2, 1) := by decide +kernel
theorem dX4_pin_2 : decode cX4_pin 2 = .ok (.invokestatic 56, 3) := by decide +kernel
theorem dX4_pin_5 : decode cX4_pin 5 = .ok (.ifCond .ne 5, 3) := by decide +kernel
theorem dX4_pin_8 : decode cX4_pin 8 = .ok (.iconst (-1), 1) := by decide +kernel
theorem dX4_pin_9 : decode cX4_pin 9 = .ok (.ireturn, 1) := by decide +kernel
theorem dX4_pin_10 : decode cX4_pin 10 = .ok (.aload_n 0, 1) := by decide +kernel
theorem dX4_pin_11 : decode cX4_pin 11 = .ok (.getfield 16, 3) := by decide +kernel
theorem dX4_pin_14 : decode cX4_pin 14 = .ok (.aload_n 0, 1) := by decide +kernel
theorem dX4_pin_15 : decode cX4_pin 15 = .ok (.getfield 12, 3) := by decide +kernel
theorem dX4_pin_18 : decode cX4_pin 18 = .ok (.invokevirtual 64, 3) := by decide +kernel
theorem dX4_pin_21 : decode cX4_pin 21 = .ok (.aload_n 0, 1) := by decide +kernel
theorem dX4_pin_22 : decode cX4_pin 22 = .ok (.aload_n 0, 1) := by decide +kernel
theorem dX4_pin_23 : decode cX4_pin 23 = .ok (.getfield 12, 3) := by decide +kernel
theorem dX4_pin_26 : decode cX4_pin 26 = .ok (.iload_n 1, 1) := by decide +kernel
theorem dX4_pin_27 : decode cX4_pin 27 = .ok (.iload_n 2, 1) := by decide +kernel
theorem dX4_pin_28 : decode cX4_pin 28 = .ok (.invokestatic 68, 3) := by decide +kernel
theorem dX4_pin_31 : decode cX4_pin 31 = .ok (.iload_n 3, 1) := by decide +kernel
theorem dX4_pin_32 : decode cX4_pin 32 = .ok (.invokevirtual 82, 3) := by decide +kernel
theorem dX4_pin_35 : decode cX4_pin 35 = .ok (.invokevirtual 75, 3) := by decide +kernel
theorem dX4_pin_38 : decode cX4_pin 38 = .ok (.ireturn, 1) := by decide +kernel
def wp_X4_pin (σ : Mem) (y1 : Int32) (y2 : Int32) (y3 : Int32) (P : Int32 → Mem → Prop) : Prop :=
  wp_X4_isPage σ y1 y2 (fun r1 =>
    ((r1 = 0 →
    P (-1) σ) ∧
    (¬ r1 = 0 →
    wp_X1_copyFrom σ 12 0 (fun σ2 =>
      wp_X4_pageIndex σ2 y1 y2 (fun r3 =>
      wp_X1_changePin σ2 r3 y3 (fun r4 σ5 =>
      wp_X4_recorded σ5 r4 (fun r6 σ7 =>
      P r6 σ7)))))))
set_option maxRecDepth 100000 in
set_option maxHeartbeats 4000000 in
theorem c_X4_pin (V : EV) (σ : Mem) (y1 : Int32) (y2 : Int32) (y3 : Int32) (P : Int32 → Mem → Prop) (l : Launch) : Met l yX4_pin (.code yX4_pin cX4_pin 4 (some .int) :: AW) { frames := 5, cells := 0, slots := 0, locals := 113 } (va_Pc [.ref (ad V 84), .int y1, .int y2, .int y3] (fun U => wP V σ U ∧ wp_X4_pin σ y1 y2 y3 P)) (va_Qi P (wB V) (AA V)) 0 0 (AA V) := by
  refine met_i V σ (own := RX4) (by decide +kernel) rfl (fun v hv => by simp at hv; rcases hv with rfl | rfl | rfl | rfl <;> rfl) (Nat.le_of_ble_eq_true rfl) (fun X C D h => ?_) l
  show GG V X σ 0 [some (.ref (ad V 84)), some (.int y1), some (.int y2), some (.int y3)] []
  refine g_iload_n C dX4_pin_0 rfl rfl rfl ?_
  refine g_iload_n C dX4_pin_1 rfl rfl rfl ?_
  refine k_X4_56 C dX4_pin_2 (Nat.le_of_ble_eq_true rfl) (by decide) rfl rfl h (fun r1 h => ?_)
  refine g_if_ne C dX4_pin_5 (tgt := 10) rfl rfl (fun q => ?_) (fun q => ?_)
  · have h := h.2 q
    refine g_aload_n C dX4_pin_10 rfl rfl rfl ?_
    refine f_X4_16 C dX4_pin_11 rfl ?_
    refine g_aload_n C dX4_pin_14 rfl rfl rfl ?_
    refine f_X4_12 C dX4_pin_15 rfl ?_
    refine k_X4_64 isM_12 isM_0 C dX4_pin_18 (Nat.le_of_ble_eq_true rfl) (by decide) rfl rfl h (fun σ2 h => ?_)
    refine g_aload_n C dX4_pin_21 rfl rfl rfl ?_
    refine g_aload_n C dX4_pin_22 rfl rfl rfl ?_
    refine f_X4_12 C dX4_pin_23 rfl ?_
    refine g_iload_n C dX4_pin_26 rfl rfl rfl ?_
    refine g_iload_n C dX4_pin_27 rfl rfl rfl ?_
    refine k_X4_68 C dX4_pin_28 (Nat.le_of_ble_eq_true rfl) (by decide) rfl rfl h (fun r3 h => ?_)
    refine g_iload_n C dX4_pin_31 rfl rfl rfl ?_
    refine k_X4_82 C dX4_pin_32 (Nat.le_of_ble_eq_true rfl) (by decide) rfl rfl h (fun r4 σ5 h => ?_)
    refine k_X4_75 C dX4_pin_35 (Nat.le_of_ble_eq_true rfl) (by decide) rfl rfl h (fun r6 σ7 h => ?_)
    exact g_iret C dX4_pin_38 D h
  · have h := h.1 q
    refine g_iconst C dX4_pin_8 ic_m1 rfl ?_
    exact g_iret C dX4_pin_9 D h
theorem hd_X4_pin : yX4_pin.cls ≠ "java/lang/invoke/MethodHandle" ∧ yX4_pin.cls ≠ "java/lang/invoke/VarHandle" ∧ (parseMethodDescriptor yX4_pin.desc).map (fun d => d.parameters.length) = some 3 := by decide +kernel

theorem dX4_isCell_0 : decode cX4_isCell 0 = .ok (.iload_n 0, 1) := by decide +kernel
theorem dX4_isCell_1 : decode cX4_isCell 1 = .ok (.iconst 0, 1) := by decide +kernel
theorem dX4_isCell_2 : decode cX4_isCell 2 = .ok (.bipush 39, 2) := by decide +kernel
theorem dX4_isCell_4 : decode cX4_isCell 4 = .ok (.invokestatic 60, 3) := by decide +kernel
theorem dX4_isCell_7 : decode cX4_isCell 7 = .ok (.ireturn, 1) := by decide +kernel
def wp_X4_isCell (σ : Mem) (y1 : Int32) (P : Int32 → Prop) : Prop :=
  wp_X4_isWithin σ y1 0 39 (fun r1 =>
    isZ r1 ∧ P r1)
set_option maxRecDepth 100000 in
set_option maxHeartbeats 4000000 in
theorem c_X4_isCell (V : EV) (σ : Mem) (y1 : Int32) (P : Int32 → Prop) (l : Launch) : Met l yX4_isCell (.code yX4_isCell cX4_isCell 1 (some .boolean) :: AW) { frames := 1, cells := 0, slots := 0, locals := 22 } (va_Pc [.int y1] (fun U => wP V σ U ∧ wp_X4_isCell σ y1 P)) (va_Qi (fun r τ => τ = σ ∧ P r) (wB V) (AA V)) 0 0 (AA V) := by
  refine met_i V σ (own := RX4) (by decide +kernel) rfl (fun v hv => by simp at hv; subst hv; rfl) (Nat.le_of_ble_eq_true rfl) (fun X C D h => ?_) l
  show GG V X σ 0 [some (.int y1)] []
  refine g_iload_n C dX4_isCell_0 rfl rfl rfl ?_
  refine g_iconst C dX4_isCell_1 ic_0 rfl ?_
  refine g_bipush C dX4_isCell_2 bp_39 rfl ?_
  refine k_X4_60 C dX4_isCell_4 (Nat.le_of_ble_eq_true rfl) (by decide) rfl rfl h (fun r1 h => ?_)
  obtain ⟨hz, h⟩ := h
  exact g_zret C dX4_isCell_7 D hz ⟨rfl, h⟩
theorem hd_X4_isCell : yX4_isCell.cls ≠ "java/lang/invoke/MethodHandle" ∧ yX4_isCell.cls ≠ "java/lang/invoke/VarHandle" ∧ (parseMethodDescriptor yX4_isCell.desc).map (fun d => d.parameters.length) = some 1 := by decide +kernel
theorem k_X4_86 {V : EV} {X : CX} {cc : ByteArray} {nL : Nat} {R : Room} {y1 : Int32} (C : OK V X RX4 cc nL R) {σ : Mem} {pc pc' : Nat} {L : List (Option Value)} {st : List Value} {P : Int32 → Prop} (d : decode cc pc = .ok (.invokestatic 86, 3)) (hst : (st.map fun v => v.category).sum ≤ 8) (hr : 1 + 1 ≤ R.frames ∧ 8 + (1 + 11) + 22 ≤ R.locals) (hL : L.length = nL) (hp : pc + 3 = pc') (h : wp_X4_isCell σ y1 P) (k : ∀ r, P r → GG V X σ pc' L (.int r :: st)) : GG V X σ pc L (.int y1 :: st) :=
  g_callSi C (av := [.int y1]) (fun l => c_X4_isCell V σ y1 P l) ml_RX4_86 st_X4_isCell ini_RX4 co_X4_isCell ⟨rfl, hd_X4_isCell⟩ rfl ⟨rfl, rfl⟩ hr hst d hL hp h (fun r τ hq => by obtain ⟨rfl, hq⟩ := hq; exact k r hq)

theorem dX4_error_0 : decode cX4_error 0 = .ok (.iload_n 1, 1) := by decide +kernel
theorem dX4_error_1 : decode cX4_error 1 = .ok (.invokestatic 86, 3) := by decide +kernel
theorem dX4_error_4 : decode cX4_error 4 = .ok (.ifCond .ne 5, 3) := by decide +kernel
theorem dX4_error_7 : decode cX4_error 7 = .ok (.iconst (-1), 1) := by decide +kernel
theorem dX4_error_8 : decode cX4_error 8 = .ok (.ireturn, 1) := by decide +kernel
theorem dX4_error_9 : decode cX4_error 9 = .ok (.aload_n 0, 1) := by decide +kernel
theorem dX4_error_10 : decode cX4_error 10 = .ok (.getfield 16, 3) := by decide +kernel
theorem dX4_error_13 : decode cX4_error 13 = .ok (.aload_n 0, 1) := by decide +kernel
theorem dX4_error_14 : decode cX4_error 14 = .ok (.getfield 12, 3) := by decide +kernel
theorem dX4_error_17 : decode cX4_error 17 = .ok (.invokevirtual 64, 3) := by decide +kernel
theorem dX4_error_20 : decode cX4_error 20 = .ok (.aload_n 0, 1) := by decide +kernel
theorem dX4_error_21 : decode cX4_error 21 = .ok (.aload_n 0, 1) := by decide +kernel
theorem dX4_error_22 : decode cX4_error 22 = .ok (.getfield 12, 3) := by decide +kernel
theorem dX4_error_25 : decode cX4_error 25 = .ok (.iload_n 1, 1) := by decide +kernel
theorem dX4_error_26 : decode cX4_error 26 = .ok (.invokevirtual 90, 3) := by decide +kernel
theorem dX4_error_29 : decode cX4_error 29 = .ok (.invokevirtual 75, 3) := by decide +kernel
theorem dX4_error_32 : decode cX4_error 32 = .ok (.ireturn, 1) := by decide +kernel
def wp_X4_error (σ : Mem) (y1 : Int32) (P : Int32 → Mem → Prop) : Prop :=
  wp_X4_isCell σ y1 (fun r1 =>
    ((r1 = 0 →
    P (-1) σ) ∧
    (¬ r1 = 0 →
    wp_X1_copyFrom σ 12 0 (fun σ2 =>
      wp_X1_meetError σ2 y1 (fun r3 σ4 =>
      wp_X4_recorded σ4 r3 (fun r5 σ6 =>
      P r5 σ6))))))
set_option maxRecDepth 100000 in
set_option maxHeartbeats 4000000 in
theorem c_X4_error (V : EV) (σ : Mem) (y1 : Int32) (P : Int32 → Mem → Prop) (l : Launch) : Met l yX4_error (.code yX4_error cX4_error 2 (some .int) :: AW) { frames := 5, cells := 0, slots := 0, locals := 112 } (va_Pc [.ref (ad V 84), .int y1] (fun U => wP V σ U ∧ wp_X4_error σ y1 P)) (va_Qi P (wB V) (AA V)) 0 0 (AA V) := by
  refine met_i V σ (own := RX4) (by decide +kernel) rfl (fun v hv => by simp at hv; rcases hv with rfl | rfl <;> rfl) (Nat.le_of_ble_eq_true rfl) (fun X C D h => ?_) l
  show GG V X σ 0 [some (.ref (ad V 84)), some (.int y1)] []
  refine g_iload_n C dX4_error_0 rfl rfl rfl ?_
  refine k_X4_86 C dX4_error_1 (Nat.le_of_ble_eq_true rfl) (by decide) rfl rfl h (fun r1 h => ?_)
  refine g_if_ne C dX4_error_4 (tgt := 9) rfl rfl (fun q => ?_) (fun q => ?_)
  · have h := h.2 q
    refine g_aload_n C dX4_error_9 rfl rfl rfl ?_
    refine f_X4_16 C dX4_error_10 rfl ?_
    refine g_aload_n C dX4_error_13 rfl rfl rfl ?_
    refine f_X4_12 C dX4_error_14 rfl ?_
    refine k_X4_64 isM_12 isM_0 C dX4_error_17 (Nat.le_of_ble_eq_true rfl) (by decide) rfl rfl h (fun σ2 h => ?_)
    refine g_aload_n C dX4_error_20 rfl rfl rfl ?_
    refine g_aload_n C dX4_error_21 rfl rfl rfl ?_
    refine f_X4_12 C dX4_error_22 rfl ?_
    refine g_iload_n C dX4_error_25 rfl rfl rfl ?_
    refine k_X4_90 C dX4_error_26 (Nat.le_of_ble_eq_true rfl) (by decide) rfl rfl h (fun r3 σ4 h => ?_)
    refine k_X4_75 C dX4_error_29 (Nat.le_of_ble_eq_true rfl) (by decide) rfl rfl h (fun r5 σ6 h => ?_)
    exact g_iret C dX4_error_32 D h
  · have h := h.1 q
    refine g_iconst C dX4_error_7 ic_m1 rfl ?_
    exact g_iret C dX4_error_8 D h
theorem hd_X4_error : yX4_error.cls ≠ "java/lang/invoke/MethodHandle" ∧ yX4_error.cls ≠ "java/lang/invoke/VarHandle" ∧ (parseMethodDescriptor yX4_error.desc).map (fun d => d.parameters.length) = some 1 := by decide +kernel

theorem dX4_hardError_0 : decode cX4_hardError 0 = .ok (.iload_n 1, 1) := by decide +kernel
theorem dX4_hardError_1 : decode cX4_hardError 1 = .ok (.invokestatic 86, 3) := by decide +kernel
theorem dX4_hardError_4 : decode cX4_hardError 4 = .ok (.ifCond .ne 5, 3) := by decide +kernel
theorem dX4_hardError_7 : decode cX4_hardError 7 = .ok (.iconst (-1), 1) := by decide +kernel
theorem dX4_hardError_8 : decode cX4_hardError 8 = .ok (.ireturn, 1) := by decide +kernel
theorem dX4_hardError_9 : decode cX4_hardError 9 = .ok (.aload_n 0, 1) := by decide +kernel
theorem dX4_hardError_10 : decode cX4_hardError 10 = .ok (.getfield 16, 3) := by decide +kernel
theorem dX4_hardError_13 : decode cX4_hardError 13 = .ok (.aload_n 0, 1) := by decide +kernel
theorem dX4_hardError_14 : decode cX4_hardError 14 = .ok (.getfield 12, 3) := by decide +kernel
theorem dX4_hardError_17 : decode cX4_hardError 17 = .ok (.invokevirtual 64, 3) := by decide +kernel
theorem dX4_hardError_20 : decode cX4_hardError 20 = .ok (.aload_n 0, 1) := by decide +kernel
theorem dX4_hardError_21 : decode cX4_hardError 21 = .ok (.aload_n 0, 1) := by decide +kernel
theorem dX4_hardError_22 : decode cX4_hardError 22 = .ok (.getfield 12, 3) := by decide +kernel
theorem dX4_hardError_25 : decode cX4_hardError 25 = .ok (.iload_n 1, 1) := by decide +kernel
theorem dX4_hardError_26 : decode cX4_hardError 26 = .ok (.invokevirtual 93, 3) := by decide +kernel
theorem dX4_hardError_29 : decode cX4_hardError 29 = .ok (.invokevirtual 75, 3) := by decide +kernel
theorem dX4_hardError_32 : decode cX4_hardError 32 = .ok (.ireturn, 1) := by decide +kernel
def wp_X4_hardError (σ : Mem) (y1 : Int32) (P : Int32 → Mem → Prop) : Prop :=
  wp_X4_isCell σ y1 (fun r1 =>
    ((r1 = 0 →
    P (-1) σ) ∧
    (¬ r1 = 0 →
    wp_X1_copyFrom σ 12 0 (fun σ2 =>
      wp_X1_meetHardError σ2 y1 (fun r3 σ4 =>
      wp_X4_recorded σ4 r3 (fun r5 σ6 =>
      P r5 σ6))))))
set_option maxRecDepth 100000 in
set_option maxHeartbeats 4000000 in
theorem c_X4_hardError (V : EV) (σ : Mem) (y1 : Int32) (P : Int32 → Mem → Prop) (l : Launch) : Met l yX4_hardError (.code yX4_hardError cX4_hardError 2 (some .int) :: AW) { frames := 5, cells := 0, slots := 0, locals := 113 } (va_Pc [.ref (ad V 84), .int y1] (fun U => wP V σ U ∧ wp_X4_hardError σ y1 P)) (va_Qi P (wB V) (AA V)) 0 0 (AA V) := by
  refine met_i V σ (own := RX4) (by decide +kernel) rfl (fun v hv => by simp at hv; rcases hv with rfl | rfl <;> rfl) (Nat.le_of_ble_eq_true rfl) (fun X C D h => ?_) l
  show GG V X σ 0 [some (.ref (ad V 84)), some (.int y1)] []
  refine g_iload_n C dX4_hardError_0 rfl rfl rfl ?_
  refine k_X4_86 C dX4_hardError_1 (Nat.le_of_ble_eq_true rfl) (by decide) rfl rfl h (fun r1 h => ?_)
  refine g_if_ne C dX4_hardError_4 (tgt := 9) rfl rfl (fun q => ?_) (fun q => ?_)
  · have h := h.2 q
    refine g_aload_n C dX4_hardError_9 rfl rfl rfl ?_
    refine f_X4_16 C dX4_hardError_10 rfl ?_
    refine g_aload_n C dX4_hardError_13 rfl rfl rfl ?_
    refine f_X4_12 C dX4_hardError_14 rfl ?_
    refine k_X4_64 isM_12 isM_0 C dX4_hardError_17 (Nat.le_of_ble_eq_true rfl) (by decide) rfl rfl h (fun σ2 h => ?_)
    refine g_aload_n C dX4_hardError_20 rfl rfl rfl ?_
    refine g_aload_n C dX4_hardError_21 rfl rfl rfl ?_
    refine f_X4_12 C dX4_hardError_22 rfl ?_
    refine g_iload_n C dX4_hardError_25 rfl rfl rfl ?_
    refine k_X4_93 C dX4_hardError_26 (Nat.le_of_ble_eq_true rfl) (by decide) rfl rfl h (fun r3 σ4 h => ?_)
    refine k_X4_75 C dX4_hardError_29 (Nat.le_of_ble_eq_true rfl) (by decide) rfl rfl h (fun r5 σ6 h => ?_)
    exact g_iret C dX4_hardError_32 D h
  · have h := h.1 q
    refine g_iconst C dX4_hardError_7 ic_m1 rfl ?_
    exact g_iret C dX4_hardError_8 D h
theorem hd_X4_hardError : yX4_hardError.cls ≠ "java/lang/invoke/MethodHandle" ∧ yX4_hardError.cls ≠ "java/lang/invoke/VarHandle" ∧ (parseMethodDescriptor yX4_hardError.desc).map (fun d => d.parameters.length) = some 1 := by decide +kernel

theorem dX4_start_0 : decode cX4_start 0 = .ok (.aload_n 0, 1) := by decide +kernel
theorem dX4_start_1 : decode cX4_start 1 = .ok (.getfield 16, 3) := by decide +kernel
theorem dX4_start_4 : decode cX4_start 4 = .ok (.aload_n 0, 1) := by decide +kernel
theorem dX4_start_5 : decode cX4_start 5 = .ok (.getfield 12, 3) := by decide +kernel
theorem dX4_start_8 : decode cX4_start 8 = .ok (.invokevirtual 64, 3) := by decide +kernel
theorem dX4_start_11 : decode cX4_start 11 = .ok (.aload_n 0, 1) := by decide +kernel
theorem dX4_start_12 : decode cX4_start 12 = .ok (.aload_n 0, 1) := by decide +kernel
theorem dX4_start_13 : decode cX4_start 13 = .ok (.getfield 12, 3) := by decide +kernel
theorem dX4_start_16 : decode cX4_start 16 = .ok (.invokevirtual 96, 3) := by decide +kernel
theorem dX4_start_19 : decode cX4_start 19 = .ok (.invokevirtual 75, 3) := by decide +kernel
theorem dX4_start_22 : decode cX4_start 22 = .ok (.ireturn, 1) := by decide +kernel
def wp_X4_start (σ : Mem) (P : Int32 → Mem → Prop) : Prop :=
  wp_X1_copyFrom σ 12 0 (fun σ1 =>
    wp_X1_startAnew σ1  (fun r2 σ3 =>
    wp_X4_recorded σ3 r2 (fun r4 σ5 =>
    P r4 σ5)))
set_option maxRecDepth 100000 in
set_option maxHeartbeats 4000000 in
theorem c_X4_start (V : EV) (σ : Mem) (P : Int32 → Mem → Prop) (l : Launch) : Met l yX4_start (.code yX4_start cX4_start 1 (some .int) :: AW) { frames := 5, cells := 0, slots := 0, locals := 112 } (va_Pc [.ref (ad V 84)] (fun U => wP V σ U ∧ wp_X4_start σ P)) (va_Qi P (wB V) (AA V)) 0 0 (AA V) := by
  refine met_i V σ (own := RX4) (by decide +kernel) rfl (fun v hv => by simp at hv; subst hv; rfl) (Nat.le_of_ble_eq_true rfl) (fun X C D h => ?_) l
  show GG V X σ 0 [some (.ref (ad V 84))] []
  refine g_aload_n C dX4_start_0 rfl rfl rfl ?_
  refine f_X4_16 C dX4_start_1 rfl ?_
  refine g_aload_n C dX4_start_4 rfl rfl rfl ?_
  refine f_X4_12 C dX4_start_5 rfl ?_
  refine k_X4_64 isM_12 isM_0 C dX4_start_8 (Nat.le_of_ble_eq_true rfl) (by decide) rfl rfl h (fun σ1 h => ?_)
  refine g_aload_n C dX4_start_11 rfl rfl rfl ?_
  refine g_aload_n C dX4_start_12 rfl rfl rfl ?_
  refine f_X4_12 C dX4_start_13 rfl ?_
  refine k_X4_96 C dX4_start_16 (Nat.le_of_ble_eq_true rfl) (by decide) rfl rfl h (fun r2 σ3 h => ?_)
  refine k_X4_75 C dX4_start_19 (Nat.le_of_ble_eq_true rfl) (by decide) rfl rfl h (fun r4 σ5 h => ?_)
  exact g_iret C dX4_start_22 D h
theorem hd_X4_start : yX4_start.cls ≠ "java/lang/invoke/MethodHandle" ∧ yX4_start.cls ≠ "java/lang/invoke/VarHandle" ∧ (parseMethodDescriptor yX4_start.desc).map (fun d => d.parameters.length) = some 0 := by decide +kernel

theorem dX4_pass_0 : decode cX4_pass 0 = .ok (.iload_n 1, 1) := by decide +kernel
theorem dX4_pass_1 : decode cX4_pass 1 = .ok (.iconst 1, 1) := by decide +kernel
theorem dX4_pass_2 : decode cX4_pass 2 = .ok (.bipush 99, 2) := by decide +kernel
theorem dX4_pass_4 : decode cX4_pass 4 = .ok (.invokestatic 60, 3) := by decide +kernel
theorem dX4_pass_7 : decode cX4_pass 7 = .ok (.ifCond .ne 6, 3) := by decide +kernel
theorem dX4_pass_10 : decode cX4_pass 10 = .ok (.bipush (-2), 2) := by decide +kernel
theorem dX4_pass_12 : decode cX4_pass 12 = .ok (.ireturn, 1) := by decide +kernel
theorem dX4_pass_13 : decode cX4_pass 13 = .ok (.aload_n 0, 1) := by decide +kernel
theorem dX4_pass_14 : decode cX4_pass 14 = .ok (.getfield 16, 3) := by decide +kernel
theorem dX4_pass_17 : decode cX4_pass 17 = .ok (.aload_n 0, 1) := by decide +kernel
theorem dX4_pass_18 : decode cX4_pass 18 = .ok (.getfield 12, 3) := by decide +kernel
theorem dX4_pass_21 : decode cX4_pass 21 = .ok (.invokevirtual 64, 3) := by decide +kernel
theorem dX4_pass_24 : decode cX4_pass 24 = .ok (.aload_n 0, 1) := by decide +kernel
theorem dX4_pass_25 : decode cX4_pass 25 = .ok (.aload_n 0, 1) := by decide +kernel
theorem dX4_pass_26 : decode cX4_pass 26 = .ok (.getfield 12, 3) := by decide +kernel
theorem dX4_pass_29 : decode cX4_pass 29 = .ok (.iload_n 1, 1) := by decide +kernel
theorem dX4_pass_30 : decode cX4_pass 30 = .ok (.invokevirtual 100, 3) := by decide +kernel
theorem dX4_pass_33 : decode cX4_pass 33 = .ok (.invokevirtual 75, 3) := by decide +kernel
theorem dX4_pass_36 : decode cX4_pass 36 = .ok (.ireturn, 1) := by decide +kernel
def wp_X4_pass (σ : Mem) (y1 : Int32) (P : Int32 → Mem → Prop) : Prop :=
  wp_X4_isWithin σ y1 1 99 (fun r1 =>
    ((r1 = 0 →
    P (-2) σ) ∧
    (¬ r1 = 0 →
    wp_X1_copyFrom σ 12 0 (fun σ2 =>
      wp_X1_letPass σ2 y1 (fun r3 σ4 =>
      wp_X4_recorded σ4 r3 (fun r5 σ6 =>
      P r5 σ6))))))
set_option maxRecDepth 100000 in
set_option maxHeartbeats 4000000 in
theorem c_X4_pass (V : EV) (σ : Mem) (y1 : Int32) (P : Int32 → Mem → Prop) (l : Launch) : Met l yX4_pass (.code yX4_pass cX4_pass 2 (some .int) :: AW) { frames := 5, cells := 0, slots := 0, locals := 113 } (va_Pc [.ref (ad V 84), .int y1] (fun U => wP V σ U ∧ wp_X4_pass σ y1 P)) (va_Qi P (wB V) (AA V)) 0 0 (AA V) := by
  refine met_i V σ (own := RX4) (by decide +kernel) rfl (fun v hv => by simp at hv; rcases hv with rfl | rfl <;> rfl) (Nat.le_of_ble_eq_true rfl) (fun X C D h => ?_) l
  show GG V X σ 0 [some (.ref (ad V 84)), some (.int y1)] []
  refine g_iload_n C dX4_pass_0 rfl rfl rfl ?_
  refine g_iconst C dX4_pass_1 ic_1 rfl ?_
  refine g_bipush C dX4_pass_2 bp_99 rfl ?_
  refine k_X4_60 C dX4_pass_4 (Nat.le_of_ble_eq_true rfl) (by decide) rfl rfl h (fun r1 h => ?_)
  refine g_if_ne C dX4_pass_7 (tgt := 13) rfl rfl (fun q => ?_) (fun q => ?_)
  · have h := h.2 q
    refine g_aload_n C dX4_pass_13 rfl rfl rfl ?_
    refine f_X4_16 C dX4_pass_14 rfl ?_
    refine g_aload_n C dX4_pass_17 rfl rfl rfl ?_
    refine f_X4_12 C dX4_pass_18 rfl ?_
    refine k_X4_64 isM_12 isM_0 C dX4_pass_21 (Nat.le_of_ble_eq_true rfl) (by decide) rfl rfl h (fun σ2 h => ?_)
    refine g_aload_n C dX4_pass_24 rfl rfl rfl ?_
    refine g_aload_n C dX4_pass_25 rfl rfl rfl ?_
    refine f_X4_12 C dX4_pass_26 rfl ?_
    refine g_iload_n C dX4_pass_29 rfl rfl rfl ?_
    refine k_X4_100 C dX4_pass_30 (Nat.le_of_ble_eq_true rfl) (by decide) rfl rfl h (fun r3 σ4 h => ?_)
    refine k_X4_75 C dX4_pass_33 (Nat.le_of_ble_eq_true rfl) (by decide) rfl rfl h (fun r5 σ6 h => ?_)
    exact g_iret C dX4_pass_36 D h
  · have h := h.1 q
    refine g_bipush C dX4_pass_10 bp_m2 rfl ?_
    exact g_iret C dX4_pass_12 D h
theorem hd_X4_pass : yX4_pass.cls ≠ "java/lang/invoke/MethodHandle" ∧ yX4_pass.cls ≠ "java/lang/invoke/VarHandle" ∧ (parseMethodDescriptor yX4_pass.desc).map (fun d => d.parameters.length) = some 1 := by decide +kernel

theorem dX4_lowestSetting_0 : decode cX4_lowestSetting 0 = .ok (.iload_n 0, 1) := by decide +kernel
theorem dX4_lowestSetting_1 : decode cX4_lowestSetting 1 = .ok (.iconst 2, 1) := by decide +kernel
theorem dX4_lowestSetting_2 : decode cX4_lowestSetting 2 = .ok (.if_icmp .ne 7, 3) := by decide +kernel
theorem dX4_lowestSetting_5 : decode cX4_lowestSetting 5 = .ok (.iconst 0, 1) := by decide +kernel
theorem dX4_lowestSetting_6 : decode cX4_lowestSetting 6 = .ok (.goto 4, 3) := by decide +kernel
theorem dX4_lowestSetting_9 : decode cX4_lowestSetting 9 = .ok (.iconst 1, 1) := by decide +kernel
theorem dX4_lowestSetting_10 : decode cX4_lowestSetting 10 = .ok (.ireturn, 1) := by decide +kernel
def wp_X4_lowestSetting (σ : Mem) (y1 : Int32) (P : Int32 → Prop) : Prop :=
  ((y1 = 2 →
    P 0) ∧
    (¬ y1 = 2 →
    P 1))
set_option maxRecDepth 100000 in
set_option maxHeartbeats 4000000 in
theorem c_X4_lowestSetting (V : EV) (σ : Mem) (y1 : Int32) (P : Int32 → Prop) (l : Launch) : Met l yX4_lowestSetting (.code yX4_lowestSetting cX4_lowestSetting 1 (some .int) :: AW) { frames := 0, cells := 0, slots := 0, locals := 0 } (va_Pc [.int y1] (fun U => wP V σ U ∧ wp_X4_lowestSetting σ y1 P)) (va_Qi (fun r τ => τ = σ ∧ P r) (wB V) (AA V)) 0 0 (AA V) := by
  refine met_i V σ (own := RX4) (by decide +kernel) rfl (fun v hv => by simp at hv; subst hv; rfl) (Nat.le_of_ble_eq_true rfl) (fun X C D h => ?_) l
  show GG V X σ 0 [some (.int y1)] []
  refine g_iload_n C dX4_lowestSetting_0 rfl rfl rfl ?_
  refine g_iconst C dX4_lowestSetting_1 ic_2 rfl ?_
  refine g_icmp_ne C dX4_lowestSetting_2 (tgt := 9) rfl rfl (fun q => ?_) (fun q => ?_)
  · have h := h.2 q
    refine g_iconst C dX4_lowestSetting_9 ic_1 rfl ?_
    exact g_iret C dX4_lowestSetting_10 D ⟨rfl, h⟩
  · have h := h.1 q
    refine g_iconst C dX4_lowestSetting_5 ic_0 rfl ?_
    refine g_goto C dX4_lowestSetting_6 (pc' := 10) rfl ?_
    exact g_iret C dX4_lowestSetting_10 D ⟨rfl, h⟩
theorem hd_X4_lowestSetting : yX4_lowestSetting.cls ≠ "java/lang/invoke/MethodHandle" ∧ yX4_lowestSetting.cls ≠ "java/lang/invoke/VarHandle" ∧ (parseMethodDescriptor yX4_lowestSetting.desc).map (fun d => d.parameters.length) = some 1 := by decide +kernel
theorem k_X4_103 {V : EV} {X : CX} {cc : ByteArray} {nL : Nat} {R : Room} {y1 : Int32} (C : OK V X RX4 cc nL R) {σ : Mem} {pc pc' : Nat} {L : List (Option Value)} {st : List Value} {P : Int32 → Prop} (d : decode cc pc = .ok (.invokestatic 103, 3)) (hst : (st.map fun v => v.category).sum ≤ 8) (hr : 0 + 1 ≤ R.frames ∧ 8 + (1 + 11) + 0 ≤ R.locals) (hL : L.length = nL) (hp : pc + 3 = pc') (h : wp_X4_lowestSetting σ y1 P) (k : ∀ r, P r → GG V X σ pc' L (.int r :: st)) : GG V X σ pc L (.int y1 :: st) :=
  g_callSi C (av := [.int y1]) (fun l => c_X4_lowestSetting V σ y1 P l) ml_RX4_103 st_X4_lowestSetting ini_RX4 co_X4_lowestSetting ⟨rfl, hd_X4_lowestSetting⟩ rfl ⟨rfl, rfl⟩ hr hst d hL hp h (fun r τ hq => by obtain ⟨rfl, hq⟩ := hq; exact k r hq)

theorem dX4_highestSetting_0 : decode cX4_highestSetting 0 = .ok (.iload_n 0, 1) := by decide +kernel
theorem dX4_highestSetting_1 : decode cX4_highestSetting 1 = .ok (.lookupswitch 33 #[(0, 27), (1, 30)], 27) := by decide +kernel
theorem dX4_highestSetting_28 : decode cX4_highestSetting 28 = .ok (.bipush 20, 2) := by decide +kernel
theorem dX4_highestSetting_30 : decode cX4_highestSetting 30 = .ok (.ireturn, 1) := by decide +kernel
theorem dX4_highestSetting_31 : decode cX4_highestSetting 31 = .ok (.bipush 99, 2) := by decide +kernel
theorem dX4_highestSetting_33 : decode cX4_highestSetting 33 = .ok (.ireturn, 1) := by decide +kernel
theorem dX4_highestSetting_34 : decode cX4_highestSetting 34 = .ok (.iconst 2, 1) := by decide +kernel
theorem dX4_highestSetting_35 : decode cX4_highestSetting 35 = .ok (.ireturn, 1) := by decide +kernel
def wp_X4_highestSetting (σ : Mem) (y1 : Int32) (P : Int32 → Prop) : Prop :=
  ((y1 = 0 →
    P 20) ∧
    (¬ y1 = 0 →
    ((y1 = 1 →
    P 99) ∧
    (¬ y1 = 1 →
    P 2))))
set_option maxRecDepth 100000 in
set_option maxHeartbeats 4000000 in
theorem c_X4_highestSetting (V : EV) (σ : Mem) (y1 : Int32) (P : Int32 → Prop) (l : Launch) : Met l yX4_highestSetting (.code yX4_highestSetting cX4_highestSetting 1 (some .int) :: AW) { frames := 0, cells := 0, slots := 0, locals := 0 } (va_Pc [.int y1] (fun U => wP V σ U ∧ wp_X4_highestSetting σ y1 P)) (va_Qi (fun r τ => τ = σ ∧ P r) (wB V) (AA V)) 0 0 (AA V) := by
  refine met_i V σ (own := RX4) (by decide +kernel) rfl (fun v hv => by simp at hv; subst hv; rfl) (Nat.le_of_ble_eq_true rfl) (fun X C D h => ?_) l
  show GG V X σ 0 [some (.int y1)] []
  refine g_iload_n C dX4_highestSetting_0 rfl rfl rfl ?_
  by_cases q0 : y1 = 0
  · have h := h.1 q0
    refine g_lookK C dX4_highestSetting_1 q0 (by decide) (off := 27) (by rfl) (pc' := 28) rfl ?_
    refine g_bipush C dX4_highestSetting_28 bp_20 rfl ?_
    exact g_iret C dX4_highestSetting_30 D ⟨rfl, h⟩
  have h := h.2 q0
  by_cases q1 : y1 = 1
  · have h := h.1 q1
    refine g_lookK C dX4_highestSetting_1 q1 (by decide) (off := 30) (by rfl) (pc' := 31) rfl ?_
    refine g_bipush C dX4_highestSetting_31 bp_99 rfl ?_
    exact g_iret C dX4_highestSetting_33 D ⟨rfl, h⟩
  have h := h.2 q1
  refine g_look C dX4_highestSetting_1 (by decide) (off := 33) ((lv_osw q0 (by decide)).trans ((lv_osw q1 (by decide)).trans rfl)) (pc' := 34) rfl ?_
  refine g_iconst C dX4_highestSetting_34 ic_2 rfl ?_
  exact g_iret C dX4_highestSetting_35 D ⟨rfl, h⟩
theorem hd_X4_highestSetting : yX4_highestSetting.cls ≠ "java/lang/invoke/MethodHandle" ∧ yX4_highestSetting.cls ≠ "java/lang/invoke/VarHandle" ∧ (parseMethodDescriptor yX4_highestSetting.desc).map (fun d => d.parameters.length) = some 1 := by decide +kernel
theorem k_X4_106 {V : EV} {X : CX} {cc : ByteArray} {nL : Nat} {R : Room} {y1 : Int32} (C : OK V X RX4 cc nL R) {σ : Mem} {pc pc' : Nat} {L : List (Option Value)} {st : List Value} {P : Int32 → Prop} (d : decode cc pc = .ok (.invokestatic 106, 3)) (hst : (st.map fun v => v.category).sum ≤ 8) (hr : 0 + 1 ≤ R.frames ∧ 8 + (1 + 11) + 0 ≤ R.locals) (hL : L.length = nL) (hp : pc + 3 = pc') (h : wp_X4_highestSetting σ y1 P) (k : ∀ r, P r → GG V X σ pc' L (.int r :: st)) : GG V X σ pc L (.int y1 :: st) :=
  g_callSi C (av := [.int y1]) (fun l => c_X4_highestSetting V σ y1 P l) ml_RX4_106 st_X4_highestSetting ini_RX4 co_X4_highestSetting ⟨rfl, hd_X4_highestSetting⟩ rfl ⟨rfl, rfl⟩ hr hst d hL hp h (fun r τ hq => by obtain ⟨rfl, hq⟩ := hq; exact k r hq)

theorem dX4_set_0 : decode cX4_set 0 = .ok (.iload_n 1, 1) := by decide +kernel
theorem dX4_set_1 : decode cX4_set 1 = .ok (.iconst 0, 1) := by decide +kernel
theorem dX4_set_2 : decode cX4_set 2 = .ok (.iconst 2, 1) := by decide +kernel
theorem dX4_set_3 : decode cX4_set 3 = .ok (.invokestatic 60, 3) := by decide +kernel
theorem dX4_set_6 : decode cX4_set 6 = .ok (.ifCond .ne 5, 3) := by decide +kernel
theorem dX4_set_9 : decode cX4_set 9 = .ok (.iconst (-1), 1) := by decide +kernel
theorem dX4_set_10 : decode cX4_set 10 = .ok (.ireturn, 1) := by decide +kernel
theorem dX4_set_11 : decode cX4_set 11 = .ok (.iload_n 2, 1) := by decide +kernel
theorem dX4_set_12 : decode cX4_set 12 = .ok (.iload_n 1, 1) := by decide +kernel
theorem dX4_set_13 : decode cX4_set 13 = .ok (.invokestatic 103, 3) := by decide +kernel
theorem dX4_set_16 : decode cX4_set 16 = .ok (.iload_n 1, 1) := by decide +kernel
theorem dX4_set_17 : decode cX4_set 17 = .ok (.invokestatic 106, 3) := by decide +kernel
theorem dX4_set_20 : decode cX4_set 20 = .ok (.invokestatic 60, 3) := by decide +kernel
theorem dX4_set_23 : decode cX4_set 23 = .ok (.ifCond .ne 6, 3) := by decide +kernel
theorem dX4_set_26 : decode cX4_set 26 = .ok (.bipush (-2), 2) := by decide +kernel
theorem dX4_set_28 : decode cX4_set 28 = .ok (.ireturn, 1) := by decide +kernel
theorem dX4_set_29 : decode cX4_set 29 = .ok (.aload_n 0, 1) := by decide +kernel
theorem dX4_set_30 : decode cX4_set 30 = .ok (.getfield 16, 3) := by decide +kernel
theorem dX4_set_33 : decode cX4_set 33 = .ok (.aload_n 0, 1) := by decide +kernel
theorem dX4_set_34 : decode cX4_set 34 = .ok (.getfield 12, 3) := by decide +kernel
theorem dX4_set_37 : decode cX4_set 37 = .ok (.invokevirtual 64, 3) := by decide +kernel
theorem dX4_set_40 : decode cX4_set 40 = .ok (.aload_n 0, 1) := by decide +kernel
theorem dX4_set_41 : decode cX4_set 41 = .ok (.aload_n 0, 1) := by decide +kernel
theorem dX4_set_42 : decode cX4_set 42 = .ok (.getfield 12, 3) := by decide +kernel
theorem dX4_set_45 : decode cX4_set 45 = .ok (.iload_n 1, 1) := by decide +kernel
theorem dX4_set_46 : decode cX4_set 46 = .ok (.iload_n 2, 1) := by decide +kernel
theorem dX4_set_47 : decode cX4_set 47 = .ok (.invokevirtual 109, 3) := by decide +kernel
theorem dX4_set_50 : decode cX4_set 50 = .ok (.invokevirtual 75, 3) := by decide +kernel
theorem dX4_set_53 : decode cX4_set 53 = .ok (.ireturn, 1) := by decide +kernel
def wp_X4_set (σ : Mem) (y1 : Int32) (y2 : Int32) (P : Int32 → Mem → Prop) : Prop :=
  wp_X4_isWithin σ y1 0 2 (fun r1 =>
    ((r1 = 0 →
    P (-1) σ) ∧
    (¬ r1 = 0 →
    wp_X4_lowestSetting σ y1 (fun r2 =>
      wp_X4_highestSetting σ y1 (fun r3 =>
      wp_X4_isWithin σ y2 r2 r3 (fun r4 =>
      ((r4 = 0 →
      P (-2) σ) ∧
      (¬ r4 = 0 →
      wp_X1_copyFrom σ 12 0 (fun σ5 =>
        wp_X1_changeSetting σ5 y1 y2 (fun r6 σ7 =>
        wp_X4_recorded σ7 r6 (fun r8 σ9 =>
        P r8 σ9)))))))))))
set_option maxRecDepth 100000 in
set_option maxHeartbeats 4000000 in
theorem c_X4_set (V : EV) (σ : Mem) (y1 : Int32) (y2 : Int32) (P : Int32 → Mem → Prop) (l : Launch) : Met l yX4_set (.code yX4_set cX4_set 3 (some .int) :: AW) { frames := 5, cells := 0, slots := 0, locals := 114 } (va_Pc [.ref (ad V 84), .int y1, .int y2] (fun U => wP V σ U ∧ wp_X4_set σ y1 y2 P)) (va_Qi P (wB V) (AA V)) 0 0 (AA V) := by
  refine met_i V σ (own := RX4) (by decide +kernel) rfl (fun v hv => by simp at hv; rcases hv with rfl | rfl | rfl <;> rfl) (Nat.le_of_ble_eq_true rfl) (fun X C D h => ?_) l
  show GG V X σ 0 [some (.ref (ad V 84)), some (.int y1), some (.int y2)] []
  refine g_iload_n C dX4_set_0 rfl rfl rfl ?_
  refine g_iconst C dX4_set_1 ic_0 rfl ?_
  refine g_iconst C dX4_set_2 ic_2 rfl ?_
  refine k_X4_60 C dX4_set_3 (Nat.le_of_ble_eq_true rfl) (by decide) rfl rfl h (fun r1 h => ?_)
  refine g_if_ne C dX4_set_6 (tgt := 11) rfl rfl (fun q => ?_) (fun q => ?_)
  · have h := h.2 q
    refine g_iload_n C dX4_set_11 rfl rfl rfl ?_
    refine g_iload_n C dX4_set_12 rfl rfl rfl ?_
    refine k_X4_103 C dX4_set_13 (Nat.le_of_ble_eq_true rfl) (by decide) rfl rfl h (fun r2 h => ?_)
    refine g_iload_n C dX4_set_16 rfl rfl rfl ?_
    refine k_X4_106 C dX4_set_17 (Nat.le_of_ble_eq_true rfl) (by decide) rfl rfl h (fun r3 h => ?_)
    refine k_X4_60 C dX4_set_20 (Nat.le_of_ble_eq_true rfl) (by decide) rfl rfl h (fun r4 h => ?_)
    refine g_if_ne C dX4_set_23 (tgt := 29) rfl rfl (fun q => ?_) (fun q => ?_)
    · have h := h.2 q
      refine g_aload_n C dX4_set_29 rfl rfl rfl ?_
      refine f_X4_16 C dX4_set_30 rfl ?_
      refine g_aload_n C dX4_set_33 rfl rfl rfl ?_
      refine f_X4_12 C dX4_set_34 rfl ?_
      refine k_X4_64 isM_12 isM_0 C dX4_set_37 (Nat.le_of_ble_eq_true rfl) (by decide) rfl rfl h (fun σ5 h => ?_)
      refine g_aload_n C dX4_set_40 rfl rfl rfl ?_
      refine g_aload_n C dX4_set_41 rfl rfl rfl ?_
      refine f_X4_12 C dX4_set_42 rfl ?_
      refine g_iload_n C dX4_set_45 rfl rfl rfl ?_
      refine g_iload_n C dX4_set_46 rfl rfl rfl ?_
      refine k_X4_109 C dX4_set_47 (Nat.le_of_ble_eq_true rfl) (by decide) rfl rfl h (fun r6 σ7 h => ?_)
      refine k_X4_75 C dX4_set_50 (Nat.le_of_ble_eq_true rfl) (by decide) rfl rfl h (fun r8 σ9 h => ?_)
      exact g_iret C dX4_set_53 D h
    · have h := h.1 q
      refine g_bipush C dX4_set_26 bp_m2 rfl ?_
      exact g_iret C dX4_set_28 D h
  · have h := h.1 q
    refine g_iconst C dX4_set_9 ic_m1 rfl ?_
    exact g_iret C dX4_set_10 D h
theorem hd_X4_set : yX4_set.cls ≠ "java/lang/invoke/MethodHandle" ∧ yX4_set.cls ≠ "java/lang/invoke/VarHandle" ∧ (parseMethodDescriptor yX4_set.desc).map (fun d => d.parameters.length) = some 2 := by decide +kernel

theorem dX4_type_0 : decode cX4_type 0 = .ok (.aload_n 0, 1) := by decide +kernel
theorem dX4_type_1 : decode cX4_type 1 = .ok (.getfield 36, 3) := by decide +kernel
theorem dX4_type_4 : decode cX4_type 4 = .ok (.iload_n 1, 1) := by decide +kernel
theorem dX4_type_5 : decode cX4_type 5 = .ok (.invokevirtual 112, 3) := by decide +kernel
theorem dX4_type_8 : decode cX4_type 8 = .ok (.ireturn, 1) := by decide +kernel
def wp_X4_type (σ : Mem) (y1 : Int32) (P : Int32 → Mem → Prop) : Prop :=
  wp_X3_append σ y1 (fun r1 σ2 =>
    P r1 σ2)
set_option maxRecDepth 100000 in
set_option maxHeartbeats 4000000 in
theorem c_X4_type (V : EV) (σ : Mem) (y1 : Int32) (P : Int32 → Mem → Prop) (l : Launch) : Met l yX4_type (.code yX4_type cX4_type 2 (some .int) :: AW) { frames := 1, cells := 0, slots := 0, locals := 21 } (va_Pc [.ref (ad V 84), .int y1] (fun U => wP V σ U ∧ wp_X4_type σ y1 P)) (va_Qi P (wB V) (AA V)) 0 0 (AA V) := by
  refine met_i V σ (own := RX4) (by decide +kernel) rfl (fun v hv => by simp at hv; rcases hv with rfl | rfl <;> rfl) (Nat.le_of_ble_eq_true rfl) (fun X C D h => ?_) l
  show GG V X σ 0 [some (.ref (ad V 84)), some (.int y1)] []
  refine g_aload_n C dX4_type_0 rfl rfl rfl ?_
  refine f_X4_36 C dX4_type_1 rfl ?_
  refine g_iload_n C dX4_type_4 rfl rfl rfl ?_
  refine k_X4_112 C dX4_type_5 (Nat.le_of_ble_eq_true rfl) (by decide) rfl rfl h (fun r1 σ2 h => ?_)
  exact g_iret C dX4_type_8 D h
theorem hd_X4_type : yX4_type.cls ≠ "java/lang/invoke/MethodHandle" ∧ yX4_type.cls ≠ "java/lang/invoke/VarHandle" ∧ (parseMethodDescriptor yX4_type.desc).map (fun d => d.parameters.length) = some 1 := by decide +kernel

theorem dX4_clearText_0 : decode cX4_clearText 0 = .ok (.aload_n 0, 1) := by decide +kernel
theorem dX4_clearText_1 : decode cX4_clearText 1 = .ok (.getfield 36, 3) := by decide +kernel
theorem dX4_clearText_4 : decode cX4_clearText 4 = .ok (.invokevirtual 116, 3) := by decide +kernel
theorem dX4_clearText_7 : decode cX4_clearText 7 = .ok (.ireturn, 1) := by decide +kernel
def wp_X4_clearText (σ : Mem) (P : Int32 → Mem → Prop) : Prop :=
  wp_X3_empty σ  (fun r1 σ2 =>
    P r1 σ2)
set_option maxRecDepth 100000 in
set_option maxHeartbeats 4000000 in
theorem c_X4_clearText (V : EV) (σ : Mem) (P : Int32 → Mem → Prop) (l : Launch) : Met l yX4_clearText (.code yX4_clearText cX4_clearText 1 (some .int) :: AW) { frames := 1, cells := 0, slots := 0, locals := 21 } (va_Pc [.ref (ad V 84)] (fun U => wP V σ U ∧ wp_X4_clearText σ P)) (va_Qi P (wB V) (AA V)) 0 0 (AA V) := by
  refine met_i V σ (own := RX4) (by decide +kernel) rfl (fun v hv => by simp at hv; subst hv; rfl) (Nat.le_of_ble_eq_true rfl) (fun X C D h => ?_) l
  show GG V X σ 0 [some (.ref (ad V 84))] []
  refine g_aload_n C dX4_clearText_0 rfl rfl rfl ?_
  refine f_X4_36 C dX4_clearText_1 rfl ?_
  refine k_X4_116 C dX4_clearText_4 (Nat.le_of_ble_eq_true rfl) (by decide) rfl rfl h (fun r1 σ2 h => ?_)
  exact g_iret C dX4_clearText_7 D h
theorem hd_X4_clearText : yX4_clearText.cls ≠ "java/lang/invoke/MethodHandle" ∧ yX4_clearText.cls ≠ "java/lang/invoke/VarHandle" ∧ (parseMethodDescriptor yX4_clearText.desc).map (fun d => d.parameters.length) = some 0 := by decide +kernel

theorem dX4_doThing_0 : decode cX4_doThing 0 = .ok (.aload_n 0, 1) := by decide +kernel
theorem dX4_doThing_1 : decode cX4_doThing 1 = .ok (.getfield 45, 3) := by decide +kernel
theorem dX4_doThing_4 : decode cX4_doThing 4 = .ok (.iload_n 1, 1) := by decide +kernel
theorem dX4_doThing_5 : decode cX4_doThing 5 = .ok (.invokevirtual 175, 3) := by decide +kernel
theorem dX4_doThing_8 : decode cX4_doThing 8 = .ok (.istore_n 2, 1) := by decide +kernel
theorem dX4_doThing_9 : decode cX4_doThing 9 = .ok (.aload_n 0, 1) := by decide +kernel
theorem dX4_doThing_10 : decode cX4_doThing 10 = .ok (.getfield 45, 3) := by decide +kernel
theorem dX4_doThing_13 : decode cX4_doThing 13 = .ok (.iload_n 1, 1) := by decide +kernel
theorem dX4_doThing_14 : decode cX4_doThing 14 = .ok (.invokevirtual 178, 3) := by decide +kernel
theorem dX4_doThing_17 : decode cX4_doThing 17 = .ok (.istore_n 3, 1) := by decide +kernel
theorem dX4_doThing_18 : decode cX4_doThing 18 = .ok (.aload_n 0, 1) := by decide +kernel
theorem dX4_doThing_19 : decode cX4_doThing 19 = .ok (.getfield 45, 3) := by decide +kernel
theorem dX4_doThing_22 : decode cX4_doThing 22 = .ok (.iload_n 1, 1) := by decide +kernel
theorem dX4_doThing_23 : decode cX4_doThing 23 = .ok (.invokevirtual 181, 3) := by decide +kernel
theorem dX4_doThing_26 : decode cX4_doThing 26 = .ok (.tableswitch 160 101 119 #[134, 100, 160, 143, 160, 160, 160, 160, 160, 160, 160, 109, 160, 160, 152, 160, 160, 160, 90], 90) := by decide +kernel
theorem dX4_doThing_116 : decode cX4_doThing 116 = .ok (.aload_n 0, 1) := by decide +kernel
theorem dX4_doThing_117 : decode cX4_doThing 117 = .ok (.getfield 12, 3) := by decide +kernel
theorem dX4_doThing_120 : decode cX4_doThing 120 = .ok (.iload_n 2, 1) := by decide +kernel
theorem dX4_doThing_121 : decode cX4_doThing 121 = .ok (.iload_n 3, 1) := by decide +kernel
theorem dX4_doThing_122 : decode cX4_doThing 122 = .ok (.invokevirtual 72, 3) := by decide +kernel
theorem dX4_doThing_125 : decode cX4_doThing 125 = .ok (.ireturn, 1) := by decide +kernel
theorem dX4_doThing_126 : decode cX4_doThing 126 = .ok (.aload_n 0, 1) := by decide +kernel
theorem dX4_doThing_127 : decode cX4_doThing 127 = .ok (.getfield 12, 3) := by decide +kernel
theorem dX4_doThing_130 : decode cX4_doThing 130 = .ok (.iload_n 2, 1) := by decide +kernel
theorem dX4_doThing_131 : decode cX4_doThing 131 = .ok (.invokevirtual 79, 3) := by decide +kernel
theorem dX4_doThing_134 : decode cX4_doThing 134 = .ok (.ireturn, 1) := by decide +kernel
theorem dX4_doThing_135 : decode cX4_doThing 135 = .ok (.aload_n 0, 1) := by decide +kernel
theorem dX4_doThing_136 : decode cX4_doThing 136 = .ok (.getfield 12, 3) := by decide +kernel
theorem dX4_doThing_139 : decode cX4_doThing 139 = .ok (.iload_n 2, 1) := by decide +kernel
theorem dX4_doThing_140 : decode cX4_doThing 140 = .ok (.aload_n 0, 1) := by decide +kernel
theorem dX4_doThing_141 : decode cX4_doThing 141 = .ok (.getfield 12, 3) := by decide +kernel
theorem dX4_doThing_144 : decode cX4_doThing 144 = .ok (.iload_n 2, 1) := by decide +kernel
theorem dX4_doThing_145 : decode cX4_doThing 145 = .ok (.invokevirtual 185, 3) := by decide +kernel
theorem dX4_doThing_148 : decode cX4_doThing 148 = .ok (.ifCond .ne 7, 3) := by decide +kernel
theorem dX4_doThing_151 : decode cX4_doThing 151 = .ok (.iconst 1, 1) := by decide +kernel
theorem dX4_doThing_152 : decode cX4_doThing 152 = .ok (.goto 4, 3) := by decide +kernel
theorem dX4_doThing_155 : decode cX4_doThing 155 = .ok (.iconst 0, 1) := by decide +kernel
theorem dX4_doThing_156 : decode cX4_doThing 156 = .ok (.invokevirtual 82, 3) := by decide +kernel
theorem dX4_doThing_159 : decode cX4_doThing 159 = .ok (.ireturn, 1) := by decide +kernel
theorem dX4_doThing_160 : decode cX4_doThing 160 = .ok (.aload_n 0, 1) := by decide +kernel
theorem dX4_doThing_161 : decode cX4_doThing 161 = .ok (.getfield 12, 3) := by decide +kernel
theorem dX4_doThing_164 : decode cX4_doThing 164 = .ok (.iload_n 3, 1) := by decide +kernel
theorem dX4_doThing_165 : decode cX4_doThing 165 = .ok (.invokevirtual 90, 3) := by decide +kernel
theorem dX4_doThing_168 : decode cX4_doThing 168 = .ok (.ireturn, 1) := by decide +kernel
theorem dX4_doThing_169 : decode cX4_doThing 169 = .ok (.aload_n 0, 1) := by decide +kernel
theorem dX4_doThing_170 : decode cX4_doThing 170 = .ok (.getfield 12, 3) := by decide +kernel
theorem dX4_doThing_173 : decode cX4_doThing 173 = .ok (.iload_n 3, 1) := by decide +kernel
theorem dX4_doThing_174 : decode cX4_doThing 174 = .ok (.invokevirtual 93, 3) := by decide +kernel
theorem dX4_doThing_177 : decode cX4_doThing 177 = .ok (.ireturn, 1) := by decide +kernel
theorem dX4_doThing_178 : decode cX4_doThing 178 = .ok (.aload_n 0, 1) := by decide +kernel
theorem dX4_doThing_179 : decode cX4_doThing 179 = .ok (.getfield 12, 3) := by decide +kernel
theorem dX4_doThing_182 : decode cX4_doThing 182 = .ok (.invokevirtual 96, 3) := by decide +kernel
theorem dX4_doThing_185 : decode cX4_doThing 185 = .ok (.ireturn, 1) := by decide +kernel
theorem dX4_doThing_186 : decode cX4_doThing 186 = .ok (.aload_n 0, 1) := by decide +kernel
theorem dX4_doThing_187 : decode cX4_doThing 187 = .ok (.getfield 12, 3) := by decide +kernel
theorem dX4_doThing_190 : decode cX4_doThing 190 = .ok (.iload_n 3, 1) := by decide +kernel
theorem dX4_doThing_191 : decode cX4_doThing 191 = .ok (.invokevirtual 100, 3) := by decide +kernel
theorem dX4_doThing_194 : decode cX4_doThing 194 = .ok (.ireturn, 1) := by decide +kernel
def wp_X4_doThing (σ : Mem) (y1 : Int32) (P : Int32 → Mem → Prop) : Prop :=
  wp_X2_pageOf σ y1 (fun r1 =>
    wp_X2_numberOf σ y1 (fun r2 =>
    wp_X2_kindOf σ y1 (fun r3 =>
    ((r3 = 101 →
    wp_X1_meetError σ r2 (fun r4 σ5 =>
      P r4 σ5)) ∧
    (¬ r3 = 101 →
    ((r3 = 102 →
    wp_X1_takeBack σ r1 (fun r6 σ7 =>
      P r6 σ7)) ∧
    (¬ r3 = 102 →
    ((r3 = 104 →
    wp_X1_meetHardError σ r2 (fun r8 σ9 =>
      P r8 σ9)) ∧
    (¬ r3 = 104 →
    ((r3 = 112 →
    wp_X1_isPinned σ r1 (fun r10 =>
      jn (A := Int32 → Prop) (fun (v11 : Int32) =>
      wp_X1_changePin σ r1 v11 (fun r13 σ14 =>
        P r13 σ14))
      (fun J12 =>
      ((r10 = 0 →
      J12 1) ∧
      (¬ r10 = 0 →
      J12 0))))) ∧
    (¬ r3 = 112 →
    ((r3 = 115 →
    wp_X1_startAnew σ  (fun r15 σ16 =>
      P r15 σ16)) ∧
    (¬ r3 = 115 →
    ((r3 = 119 →
    wp_X1_put σ r1 r2 (fun r17 σ18 =>
      P r17 σ18)) ∧
    (¬ r3 = 119 →
    wp_X1_letPass σ r2 (fun r19 σ20 =>
      P r19 σ20))))))))))))))))
set_option maxRecDepth 100000 in
set_option maxHeartbeats 4000000 in
theorem c_X4_doThing (V : EV) (σ : Mem) (y1 : Int32) (P : Int32 → Mem → Prop) (l : Launch) : Met l yX4_doThing (.code yX4_doThing cX4_doThing 4 (some .int) :: AW) { frames := 5, cells := 0, slots := 0, locals := 114 } (va_Pc [.ref (ad V 84), .int y1] (fun U => wP V σ U ∧ wp_X4_doThing σ y1 P)) (va_Qi P (wB V) (AA V)) 0 0 (AA V) := by
  refine met_i V σ (own := RX4) (by decide +kernel) rfl (fun v hv => by simp at hv; rcases hv with rfl | rfl <;> rfl) (Nat.le_of_ble_eq_true rfl) (fun X C D h => ?_) l
  show GG V X σ 0 [some (.ref (ad V 84)), some (.int y1), none, none] []
  refine g_aload_n C dX4_doThing_0 rfl rfl rfl ?_
  refine f_X4_45 C dX4_doThing_1 rfl ?_
  refine g_iload_n C dX4_doThing_4 rfl rfl rfl ?_
  refine k_X4_175 C dX4_doThing_5 (Nat.le_of_ble_eq_true rfl) (by decide) rfl rfl h (fun r1 h => ?_)
  refine g_istore_n C dX4_doThing_8 rfl (Nat.le_of_ble_eq_true rfl) (L' := [some (.ref (ad V 84)), some (.int y1), some (.int r1), none]) rfl rfl ?_
  refine g_aload_n C dX4_doThing_9 rfl rfl rfl ?_
  refine f_X4_45 C dX4_doThing_10 rfl ?_
  refine g_iload_n C dX4_doThing_13 rfl rfl rfl ?_
  refine k_X4_178 C dX4_doThing_14 (Nat.le_of_ble_eq_true rfl) (by decide) rfl rfl h (fun r2 h => ?_)
  refine g_istore_n C dX4_doThing_17 rfl (Nat.le_of_ble_eq_true rfl) (L' := [some (.ref (ad V 84)), some (.int y1), some (.int r1), some (.int r2)]) rfl rfl ?_
  refine g_aload_n C dX4_doThing_18 rfl rfl rfl ?_
  refine f_X4_45 C dX4_doThing_19 rfl ?_
  refine g_iload_n C dX4_doThing_22 rfl rfl rfl ?_
  refine k_X4_181 C dX4_doThing_23 (Nat.le_of_ble_eq_true rfl) (by decide) rfl rfl h (fun r3 h => ?_)
  by_cases q101 : r3 = 101
  · have h := h.1 q101
    refine g_tinK C dX4_doThing_26 q101 (by decide) (by decide) (off := 134) (by rfl) (pc' := 160) rfl ?_
    refine g_aload_n C dX4_doThing_160 rfl rfl rfl ?_
    refine f_X4_12 C dX4_doThing_161 rfl ?_
    refine g_iload_n C dX4_doThing_164 rfl rfl rfl ?_
    refine k_X4_90 C dX4_doThing_165 (Nat.le_of_ble_eq_true rfl) (by decide) rfl rfl h (fun r4 σ5 h => ?_)
    exact g_iret C dX4_doThing_168 D h
  have h := h.2 q101
  by_cases q102 : r3 = 102
  · have h := h.1 q102
    refine g_tinK C dX4_doThing_26 q102 (by decide) (by decide) (off := 100) (by rfl) (pc' := 126) rfl ?_
    refine g_aload_n C dX4_doThing_126 rfl rfl rfl ?_
    refine f_X4_12 C dX4_doThing_127 rfl ?_
    refine g_iload_n C dX4_doThing_130 rfl rfl rfl ?_
    refine k_X4_79 C dX4_doThing_131 (Nat.le_of_ble_eq_true rfl) (by decide) rfl rfl h (fun r6 σ7 h => ?_)
    exact g_iret C dX4_doThing_134 D h
  have h := h.2 q102
  by_cases q104 : r3 = 104
  · have h := h.1 q104
    refine g_tinK C dX4_doThing_26 q104 (by decide) (by decide) (off := 143) (by rfl) (pc' := 169) rfl ?_
    refine g_aload_n C dX4_doThing_169 rfl rfl rfl ?_
    refine f_X4_12 C dX4_doThing_170 rfl ?_
    refine g_iload_n C dX4_doThing_173 rfl rfl rfl ?_
    refine k_X4_93 C dX4_doThing_174 (Nat.le_of_ble_eq_true rfl) (by decide) rfl rfl h (fun r8 σ9 h => ?_)
    exact g_iret C dX4_doThing_177 D h
  have h := h.2 q104
  by_cases q112 : r3 = 112
  · have h := h.1 q112
    refine g_tinK C dX4_doThing_26 q112 (by decide) (by decide) (off := 109) (by rfl) (pc' := 135) rfl ?_
    refine g_aload_n C dX4_doThing_135 rfl rfl rfl ?_
    refine f_X4_12 C dX4_doThing_136 rfl ?_
    refine g_iload_n C dX4_doThing_139 rfl rfl rfl ?_
    refine g_aload_n C dX4_doThing_140 rfl rfl rfl ?_
    refine f_X4_12 C dX4_doThing_141 rfl ?_
    refine g_iload_n C dX4_doThing_144 rfl rfl rfl ?_
    refine k_X4_185 C dX4_doThing_145 (Nat.le_of_ble_eq_true rfl) (by decide) rfl rfl h (fun r10 h => ?_)
    refine jn_go h (fun (J12 : Int32 → Prop) => ∀ (v11 : Int32), J12 v11 → GG V X σ 156 [none, none, none, none] [.int v11, .int r1, .ref (ad V 0)]) (fun v11 h => ?_) (fun J12 hJ12 h => ?_)
    · refine k_X4_82 C dX4_doThing_156 (Nat.le_of_ble_eq_true rfl) (by decide) rfl rfl h (fun r13 σ14 h => ?_)
      exact g_iret C dX4_doThing_159 D h
    refine g_if_ne C dX4_doThing_148 (tgt := 155) rfl rfl (fun q => ?_) (fun q => ?_)
    · have h := h.2 q
      refine g_iconst C dX4_doThing_155 ic_0 rfl ?_
      refine g_drop 0 (L' := [none, some (.int y1), some (.int r1), some (.int r2)]) rfl ?_
      refine g_drop 1 (L' := [none, none, some (.int r1), some (.int r2)]) rfl ?_
      refine g_drop 2 (L' := [none, none, none, some (.int r2)]) rfl ?_
      refine g_drop 3 (L' := [none, none, none, none]) rfl ?_
      exact hJ12 0 h
    · have h := h.1 q
      refine g_iconst C dX4_doThing_151 ic_1 rfl ?_
      refine g_goto C dX4_doThing_152 (pc' := 156) rfl ?_
      refine g_drop 0 (L' := [none, some (.int y1), some (.int r1), some (.int r2)]) rfl ?_
      refine g_drop 1 (L' := [none, none, some (.int r1), some (.int r2)]) rfl ?_
      refine g_drop 2 (L' := [none, none, none, some (.int r2)]) rfl ?_
      refine g_drop 3 (L' := [none, none, none, none]) rfl ?_
      exact hJ12 1 h
  have h := h.2 q112
  by_cases q115 : r3 = 115
  · have h := h.1 q115
    refine g_tinK C dX4_doThing_26 q115 (by decide) (by decide) (off := 152) (by rfl) (pc' := 178) rfl ?_
    refine g_aload_n C dX4_doThing_178 rfl rfl rfl ?_
    refine f_X4_12 C dX4_doThing_179 rfl ?_
    refine k_X4_96 C dX4_doThing_182 (Nat.le_of_ble_eq_true rfl) (by decide) rfl rfl h (fun r15 σ16 h => ?_)
    exact g_iret C dX4_doThing_185 D h
  have h := h.2 q115
  by_cases q119 : r3 = 119
  · have h := h.1 q119
    refine g_tinK C dX4_doThing_26 q119 (by decide) (by decide) (off := 90) (by rfl) (pc' := 116) rfl ?_
    refine g_aload_n C dX4_doThing_116 rfl rfl rfl ?_
    refine f_X4_12 C dX4_doThing_117 rfl ?_
    refine g_iload_n C dX4_doThing_120 rfl rfl rfl ?_
    refine g_iload_n C dX4_doThing_121 rfl rfl rfl ?_
    refine k_X4_72 C dX4_doThing_122 (Nat.le_of_ble_eq_true rfl) (by decide) rfl rfl h (fun r17 σ18 h => ?_)
    exact g_iret C dX4_doThing_125 D h
  have h := h.2 q119
  have hout : ((r3).toInt < 101 ∨ 119 < (r3).toInt) ∨ r3 = 103 ∨ r3 = 105 ∨ r3 = 106 ∨ r3 = 107 ∨ r3 = 108 ∨ r3 = 109 ∨ r3 = 110 ∨ r3 = 111 ∨ r3 = 113 ∨ r3 = 114 ∨ r3 = 116 ∨ r3 = 117 ∨ r3 = 118 := by
    rcases tsw_cases (r3) 101 19 with hq | ⟨k, hk, he⟩
    · exact Or.inl (by omega)
    · rcases (show k = 0 ∨ k = 1 ∨ k = 2 ∨ k = 3 ∨ k = 4 ∨ k = 5 ∨ k = 6 ∨ k = 7 ∨ k = 8 ∨ k = 9 ∨ k = 10 ∨ k = 11 ∨ k = 12 ∨ k = 13 ∨ k = 14 ∨ k = 15 ∨ k = 16 ∨ k = 17 ∨ k = 18 by omega) with rfl | rfl | rfl | rfl | rfl | rfl | rfl | rfl | rfl | rfl | rfl | rfl | rfl | rfl | rfl | rfl | rfl | rfl | rfl
      · exact absurd (i32_of he (by decide)) q101
      · exact absurd (i32_of he (by decide)) q102
      · exact Or.inr (Or.inl (i32_of he (by decide)))
      · exact absurd (i32_of he (by decide)) q104
      · exact Or.inr (Or.inr (Or.inl (i32_of he (by decide))))
      · exact Or.inr (Or.inr (Or.inr (Or.inl (i32_of he (by decide)))))
      · exact Or.inr (Or.inr (Or.inr (Or.inr (Or.inl (i32_of he (by decide))))))
      · exact Or.inr (Or.inr (Or.inr (Or.inr (Or.inr (Or.inl (i32_of he (by decide)))))))
      · exact Or.inr (Or.inr (Or.inr (Or.inr (Or.inr (Or.inr (Or.inl (i32_of he (by decide))))))))
      · exact Or.inr (Or.inr (Or.inr (Or.inr (Or.inr (Or.inr (Or.inr (Or.inl (i32_of he (by decide)))))))))
      · exact Or.inr (Or.inr (Or.inr (Or.inr (Or.inr (Or.inr (Or.inr (Or.inr (Or.inl (i32_of he (by decide))))))))))
      · exact absurd (i32_of he (by decide)) q112
      · exact Or.inr (Or.inr (Or.inr (Or.inr (Or.inr (Or.inr (Or.inr (Or.inr (Or.inr (Or.inl (i32_of he (by decide)))))))))))
      · exact Or.inr (Or.inr (Or.inr (Or.inr (Or.inr (Or.inr (Or.inr (Or.inr (Or.inr (Or.inr (Or.inl (i32_of he (by decide))))))))))))
      · exact absurd (i32_of he (by decide)) q115
      · exact Or.inr (Or.inr (Or.inr (Or.inr (Or.inr (Or.inr (Or.inr (Or.inr (Or.inr (Or.inr (Or.inr (Or.inl (i32_of he (by decide)))))))))))))
      · exact Or.inr (Or.inr (Or.inr (Or.inr (Or.inr (Or.inr (Or.inr (Or.inr (Or.inr (Or.inr (Or.inr (Or.inr (Or.inl (i32_of he (by decide))))))))))))))
      · exact Or.inr (Or.inr (Or.inr (Or.inr (Or.inr (Or.inr (Or.inr (Or.inr (Or.inr (Or.inr (Or.inr (Or.inr (Or.inr (i32_of he (by decide))))))))))))))
      · exact absurd (i32_of he (by decide)) q119
  have hgo : GG V X σ 186 [some (.ref (ad V 84)), some (.int y1), some (.int r1), some (.int r2)] [] := by
    refine g_aload_n C dX4_doThing_186 rfl rfl rfl ?_
    refine f_X4_12 C dX4_doThing_187 rfl ?_
    refine g_iload_n C dX4_doThing_190 rfl rfl rfl ?_
    refine k_X4_100 C dX4_doThing_191 (Nat.le_of_ble_eq_true rfl) (by decide) rfl rfl h (fun r19 σ20 h => ?_)
    exact g_iret C dX4_doThing_194 D h
  rcases hout with hq | hq | hq | hq | hq | hq | hq | hq | hq | hq | hq | hq | hq | hq
  · exact g_tout C dX4_doThing_26 hq (pc' := 186) rfl hgo
  · exact g_tinK C dX4_doThing_26 hq (by decide) (by decide) (off := 160) (by rfl) (pc' := 186) rfl hgo
  · exact g_tinK C dX4_doThing_26 hq (by decide) (by decide) (off := 160) (by rfl) (pc' := 186) rfl hgo
  · exact g_tinK C dX4_doThing_26 hq (by decide) (by decide) (off := 160) (by rfl) (pc' := 186) rfl hgo
  · exact g_tinK C dX4_doThing_26 hq (by decide) (by decide) (off := 160) (by rfl) (pc' := 186) rfl hgo
  · exact g_tinK C dX4_doThing_26 hq (by decide) (by decide) (off := 160) (by rfl) (pc' := 186) rfl hgo
  · exact g_tinK C dX4_doThing_26 hq (by decide) (by decide) (off := 160) (by rfl) (pc' := 186) rfl hgo
  · exact g_tinK C dX4_doThing_26 hq (by decide) (by decide) (off := 160) (by rfl) (pc' := 186) rfl hgo
  · exact g_tinK C dX4_doThing_26 hq (by decide) (by decide) (off := 160) (by rfl) (pc' := 186) rfl hgo
  · exact g_tinK C dX4_doThing_26 hq (by decide) (by decide) (off := 160) (by rfl) (pc' := 186) rfl hgo
  · exact g_tinK C dX4_doThing_26 hq (by decide) (by decide) (off := 160) (by rfl) (pc' := 186) rfl hgo
  · exact g_tinK C dX4_doThing_26 hq (by decide) (by decide) (off := 160) (by rfl) (pc' := 186) rfl hgo
  · exact g_tinK C dX4_doThing_26 hq (by decide) (by decide) (off := 160) (by rfl) (pc' := 186) rfl hgo
  · exact g_tinK C dX4_doThing_26 hq (by decide) (by decide) (off := 160) (by rfl) (pc' := 186) rfl hgo
theorem hd_X4_doThing : yX4_doThing.cls ≠ "java/lang/invoke/MethodHandle" ∧ yX4_doThing.cls ≠ "java/lang/invoke/VarHandle" ∧ (parseMethodDescriptor yX4_doThing.desc).map (fun d => d.parameters.length) = some 1 := by decide +kernel
theorem k_X4_125 {V : EV} {X : CX} {cc : ByteArray} {nL : Nat} {R : Room} {y1 : Int32} (C : OK V X RX4 cc nL R) {σ : Mem} {pc pc' : Nat} {L : List (Option Value)} {st : List Value} {P : Int32 → Mem → Prop} (d : decode cc pc = .ok (.invokevirtual 125, 3)) (hst : (st.map fun v => v.category).sum ≤ 8) (hr : 5 + 1 ≤ R.frames ∧ 8 + (4 + 11) + 114 ≤ R.locals) (hL : L.length = nL) (hp : pc + 3 = pc') (h : wp_X4_doThing σ y1 P) (k : ∀ r τ, P r τ → GG V X τ pc' L (.int r :: st)) : GG V X σ pc L (.int y1 :: .ref (ad V 84) :: st) :=
  g_callVi C (av := [.int y1]) (fun l => c_X4_doThing V σ y1 P l) (by decide) (en_84 V σ) (q := (RX4, TX4, 9)) rfl rfl ml_RX4_125 im_X4_doThing se_X4_doThing ini_RX4 co_X4_doThing hd_X4_doThing rfl ⟨rfl, rfl⟩ hr hst d hL hp h k

theorem dX4_perform_0 : decode cX4_perform 0 = .ok (.aload_n 0, 1) := by decide +kernel
theorem dX4_perform_1 : decode cX4_perform 1 = .ok (.getfield 45, 3) := by decide +kernel
theorem dX4_perform_4 : decode cX4_perform 4 = .ok (.invokevirtual 119, 3) := by decide +kernel
theorem dX4_perform_7 : decode cX4_perform 7 = .ok (.istore_n 1, 1) := by decide +kernel
theorem dX4_perform_8 : decode cX4_perform 8 = .ok (.iload_n 1, 1) := by decide +kernel
theorem dX4_perform_9 : decode cX4_perform 9 = .ok (.ifCond .lt 8, 3) := by decide +kernel
theorem dX4_perform_12 : decode cX4_perform 12 = .ok (.bipush (-100), 2) := by decide +kernel
theorem dX4_perform_14 : decode cX4_perform 14 = .ok (.iload_n 1, 1) := by decide +kernel
theorem dX4_perform_15 : decode cX4_perform 15 = .ok (.isub, 1) := by decide +kernel
theorem dX4_perform_16 : decode cX4_perform 16 = .ok (.ireturn, 1) := by decide +kernel
theorem dX4_perform_17 : decode cX4_perform 17 = .ok (.aload_n 0, 1) := by decide +kernel
theorem dX4_perform_18 : decode cX4_perform 18 = .ok (.getfield 16, 3) := by decide +kernel
theorem dX4_perform_21 : decode cX4_perform 21 = .ok (.aload_n 0, 1) := by decide +kernel
theorem dX4_perform_22 : decode cX4_perform 22 = .ok (.getfield 12, 3) := by decide +kernel
theorem dX4_perform_25 : decode cX4_perform 25 = .ok (.invokevirtual 64, 3) := by decide +kernel
theorem dX4_perform_28 : decode cX4_perform 28 = .ok (.aload_n 0, 1) := by decide +kernel
theorem dX4_perform_29 : decode cX4_perform 29 = .ok (.getfield 45, 3) := by decide +kernel
theorem dX4_perform_32 : decode cX4_perform 32 = .ok (.invokevirtual 122, 3) := by decide +kernel
theorem dX4_perform_35 : decode cX4_perform 35 = .ok (.istore_n 2, 1) := by decide +kernel
theorem dX4_perform_36 : decode cX4_perform 36 = .ok (.iconst 0, 1) := by decide +kernel
theorem dX4_perform_37 : decode cX4_perform 37 = .ok (.istore_n 3, 1) := by decide +kernel
theorem dX4_perform_38 : decode cX4_perform 38 = .ok (.iload_n 3, 1) := by decide +kernel
theorem dX4_perform_39 : decode cX4_perform 39 = .ok (.iload_n 2, 1) := by decide +kernel
theorem dX4_perform_40 : decode cX4_perform 40 = .ok (.if_icmp .ge 53, 3) := by decide +kernel
theorem dX4_perform_43 : decode cX4_perform 43 = .ok (.aload_n 0, 1) := by decide +kernel
theorem dX4_perform_44 : decode cX4_perform 44 = .ok (.iload_n 3, 1) := by decide +kernel
theorem dX4_perform_45 : decode cX4_perform 45 = .ok (.invokevirtual 125, 3) := by decide +kernel
theorem dX4_perform_48 : decode cX4_perform 48 = .ok (.istore 4, 2) := by decide +kernel
theorem dX4_perform_50 : decode cX4_perform 50 = .ok (.iload 4, 2) := by decide +kernel
theorem dX4_perform_52 : decode cX4_perform 52 = .ok (.ifCond .ge 35, 3) := by decide +kernel
theorem dX4_perform_55 : decode cX4_perform 55 = .ok (.iload 4, 2) := by decide +kernel
theorem dX4_perform_57 : decode cX4_perform 57 = .ok (.bipush (-5), 2) := by decide +kernel
theorem dX4_perform_59 : decode cX4_perform 59 = .ok (.if_icmp .eq 28, 3) := by decide +kernel
theorem dX4_perform_62 : decode cX4_perform 62 = .ok (.aload_n 0, 1) := by decide +kernel
theorem dX4_perform_63 : decode cX4_perform 63 = .ok (.getfield 12, 3) := by decide +kernel
theorem dX4_perform_66 : decode cX4_perform 66 = .ok (.aload_n 0, 1) := by decide +kernel
theorem dX4_perform_67 : decode cX4_perform 67 = .ok (.getfield 16, 3) := by decide +kernel
theorem dX4_perform_70 : decode cX4_perform 70 = .ok (.invokevirtual 64, 3) := by decide +kernel
theorem dX4_perform_73 : decode cX4_perform 73 = .ok (.aload_n 0, 1) := by decide +kernel
theorem dX4_perform_74 : decode cX4_perform 74 = .ok (.iload_n 3, 1) := by decide +kernel
theorem dX4_perform_75 : decode cX4_perform 75 = .ok (.putfield 49, 3) := by decide +kernel
theorem dX4_perform_78 : decode cX4_perform 78 = .ok (.aload_n 0, 1) := by decide +kernel
theorem dX4_perform_79 : decode cX4_perform 79 = .ok (.iload 4, 2) := by decide +kernel
theorem dX4_perform_81 : decode cX4_perform 81 = .ok (.putfield 53, 3) := by decide +kernel
theorem dX4_perform_84 : decode cX4_perform 84 = .ok (.bipush (-4), 2) := by decide +kernel
theorem dX4_perform_86 : decode cX4_perform 86 = .ok (.ireturn, 1) := by decide +kernel
theorem dX4_perform_87 : decode cX4_perform 87 = .ok (.iinc 3 1, 3) := by decide +kernel
theorem dX4_perform_90 : decode cX4_perform 90 = .ok (.goto (-52), 3) := by decide +kernel
theorem dX4_perform_93 : decode cX4_perform 93 = .ok (.aload_n 0, 1) := by decide +kernel
theorem dX4_perform_94 : decode cX4_perform 94 = .ok (.iload_n 2, 1) := by decide +kernel
theorem dX4_perform_95 : decode cX4_perform 95 = .ok (.invokevirtual 75, 3) := by decide +kernel
theorem dX4_perform_98 : decode cX4_perform 98 = .ok (.ireturn, 1) := by decide +kernel
def wp_X4_perform (σ : Mem) (P : Int32 → Mem → Prop) : Prop :=
  wp_X2_readAll σ  (fun r1 σ2 =>
    ((r1 < 0 →
    wp_X1_copyFrom σ2 12 0 (fun σ3 =>
      wp_X2_size σ3  (fun r4 =>
      lq2 (fun rec7 (σ5 : Mem) (x6 : Int32) =>
      ((r4 ≤ x6 →
        wp_X4_recorded σ5 r4 (fun r8 σ9 =>
          P r8 σ9)) ∧
        (¬ r4 ≤ x6 →
        wp_X4_doThing σ5 x6 (fun r10 σ11 =>
          ((0 ≤ r10 →
          rec7 σ11 (x6 + 1)) ∧
          (¬ 0 ≤ r10 →
          ((r10 = (-5) →
            rec7 σ11 (x6 + 1)) ∧
            (¬ r10 = (-5) →
            wp_X1_copyFrom σ11 0 12 (fun σ12 =>
              bm (up2 σ12 84 7 x6) (fun σ13 =>
              bm (up2 σ13 84 8 r10) (fun σ14 =>
              P (-4) σ14))))))))))) σ3 0))) ∧
    (¬ r1 < 0 →
    P ((-100) - r1) σ2)))
set_option maxRecDepth 100000 in
set_option maxHeartbeats 4000000 in
theorem c_X4_perform (V : EV) (σ : Mem) (P : Int32 → Mem → Prop) (l : Launch) : Met l yX4_perform (.code yX4_perform cX4_perform 5 (some .int) :: AW) { frames := 6, cells := 0, slots := 0, locals := 137 } (va_Pc [.ref (ad V 84)] (fun U => wP V σ U ∧ wp_X4_perform σ P)) (va_Qi P (wB V) (AA V)) 0 0 (AA V) := by
  refine met_i V σ (own := RX4) (by decide +kernel) rfl (fun v hv => by simp at hv; subst hv; rfl) (Nat.le_of_ble_eq_true rfl) (fun X C D h => ?_) l
  show GG V X σ 0 [some (.ref (ad V 84)), none, none, none, none] []
  refine g_aload_n C dX4_perform_0 rfl rfl rfl ?_
  refine f_X4_45 C dX4_perform_1 rfl ?_
  refine k_X4_119 C dX4_perform_4 (Nat.le_of_ble_eq_true rfl) (by decide) rfl rfl h (fun r1 σ2 h => ?_)
  refine g_istore_n C dX4_perform_7 rfl (Nat.le_of_ble_eq_true rfl) (L' := [some (.ref (ad V 84)), some (.int r1), none, none, none]) rfl rfl ?_
  refine g_iload_n C dX4_perform_8 rfl rfl rfl ?_
  refine g_if_lt C dX4_perform_9 (tgt := 17) rfl rfl (fun q => ?_) (fun q => ?_)
  · have h := h.1 q
    refine g_aload_n C dX4_perform_17 rfl rfl rfl ?_
    refine f_X4_16 C dX4_perform_18 rfl ?_
    refine g_aload_n C dX4_perform_21 rfl rfl rfl ?_
    refine f_X4_12 C dX4_perform_22 rfl ?_
    refine k_X4_64 isM_12 isM_0 C dX4_perform_25 (Nat.le_of_ble_eq_true rfl) (by decide) rfl rfl h (fun σ3 h => ?_)
    refine g_aload_n C dX4_perform_28 rfl rfl rfl ?_
    refine f_X4_45 C dX4_perform_29 rfl ?_
    refine k_X4_122 C dX4_perform_32 (Nat.le_of_ble_eq_true rfl) (by decide) rfl rfl h (fun r4 h => ?_)
    refine g_istore_n C dX4_perform_35 rfl (Nat.le_of_ble_eq_true rfl) (L' := [some (.ref (ad V 84)), some (.int r1), some (.int r4), none, none]) rfl rfl ?_
    refine g_iconst C dX4_perform_36 ic_0 rfl ?_
    refine g_istore_n C dX4_perform_37 rfl (Nat.le_of_ble_eq_true rfl) (L' := [some (.ref (ad V 84)), some (.int r1), some (.int r4), some (.int 0), none]) rfl rfl ?_
    refine g_drop 1 (L' := [some (.ref (ad V 84)), none, some (.int r4), some (.int 0), none]) rfl ?_
    refine h (fun (σ5 : Mem) (x6 : Int32) => GG V X σ5 38 [some (.ref (ad V 84)), none, some (.int r4), some (.int x6), none] []) (fun σ5 x6 h => ?_)
    refine g_iload_n C dX4_perform_38 rfl rfl rfl ?_
    refine g_iload_n C dX4_perform_39 rfl rfl rfl ?_
    refine g_icmp_ge C dX4_perform_40 (tgt := 93) rfl rfl (fun q => ?_) (fun q => ?_)
    · have h := h.1 q
      refine g_aload_n C dX4_perform_93 rfl rfl rfl ?_
      refine g_iload_n C dX4_perform_94 rfl rfl rfl ?_
      refine k_X4_75 C dX4_perform_95 (Nat.le_of_ble_eq_true rfl) (by decide) rfl rfl h (fun r8 σ9 h => ?_)
      exact g_iret C dX4_perform_98 D h
    · have h := h.2 q
      refine g_aload_n C dX4_perform_43 rfl rfl rfl ?_
      refine g_iload_n C dX4_perform_44 rfl rfl rfl ?_
      refine k_X4_125 C dX4_perform_45 (Nat.le_of_ble_eq_true rfl) (by decide) rfl rfl h (fun r10 σ11 h => ?_)
      refine g_istore C dX4_perform_48 (Nat.le_of_ble_eq_true rfl) (L' := [some (.ref (ad V 84)), none, some (.int r4), some (.int x6), some (.int r10)]) rfl rfl ?_
      refine g_iload C dX4_perform_50 rfl rfl ?_
      refine g_if_ge C dX4_perform_52 (tgt := 87) rfl rfl (fun q => ?_) (fun q => ?_)
      · have h := h.1 q
        refine g_iinc C dX4_perform_87 (v := x6 + 1) (by rw [ic_1]) rfl (Nat.le_of_ble_eq_true rfl) (L' := [some (.ref (ad V 84)), none, some (.int r4), some (.int (x6 + 1)), some (.int r10)]) rfl rfl ?_
        refine g_goto C dX4_perform_90 (pc' := 38) rfl ?_
        refine g_drop 4 (L' := [some (.ref (ad V 84)), none, some (.int r4), some (.int (x6 + 1)), none]) rfl ?_
        exact h
      · have h := h.2 q
        refine g_iload C dX4_perform_55 rfl rfl ?_
        refine g_bipush C dX4_perform_57 bp_m5 rfl ?_
        refine g_icmp_eq C dX4_perform_59 (tgt := 87) rfl rfl (fun q => ?_) (fun q => ?_)
        · have h := h.1 q
          refine g_iinc C dX4_perform_87 (v := x6 + 1) (by rw [ic_1]) rfl (Nat.le_of_ble_eq_true rfl) (L' := [some (.ref (ad V 84)), none, some (.int r4), some (.int (x6 + 1)), some (.int r10)]) rfl rfl ?_
          refine g_goto C dX4_perform_90 (pc' := 38) rfl ?_
          refine g_drop 4 (L' := [some (.ref (ad V 84)), none, some (.int r4), some (.int (x6 + 1)), none]) rfl ?_
          exact h
        · have h := h.2 q
          refine g_aload_n C dX4_perform_62 rfl rfl rfl ?_
          refine f_X4_12 C dX4_perform_63 rfl ?_
          refine g_aload_n C dX4_perform_66 rfl rfl rfl ?_
          refine f_X4_16 C dX4_perform_67 rfl ?_
          refine k_X4_64 isM_0 isM_12 C dX4_perform_70 (Nat.le_of_ble_eq_true rfl) (by decide) rfl rfl h (fun σ12 h => ?_)
          refine g_aload_n C dX4_perform_73 rfl rfl rfl ?_
          refine g_iload_n C dX4_perform_74 rfl rfl rfl ?_
          refine p_X4_49 C dX4_perform_75 rfl h (fun σ13 h => ?_)
          refine g_aload_n C dX4_perform_78 rfl rfl rfl ?_
          refine g_iload C dX4_perform_79 rfl rfl ?_
          refine p_X4_53 C dX4_perform_81 rfl h (fun σ14 h => ?_)
          refine g_bipush C dX4_perform_84 bp_m4 rfl ?_
          exact g_iret C dX4_perform_86 D h
  · have h := h.2 q
    refine g_bipush C dX4_perform_12 bp_m100 rfl ?_
    refine g_iload_n C dX4_perform_14 rfl rfl rfl ?_
    refine g_isub C dX4_perform_15 rfl ?_
    exact g_iret C dX4_perform_16 D h
theorem hd_X4_perform : yX4_perform.cls ≠ "java/lang/invoke/MethodHandle" ∧ yX4_perform.cls ≠ "java/lang/invoke/VarHandle" ∧ (parseMethodDescriptor yX4_perform.desc).map (fun d => d.parameters.length) = some 0 := by decide +kernel

theorem dX4_stopped_0 : decode cX4_stopped 0 = .ok (.iload_n 1, 1) := by decide +kernel
theorem dX4_stopped_1 : decode cX4_stopped 1 = .ok (.lookupswitch 37 #[(0, 27), (1, 32)], 27) := by decide +kernel
theorem dX4_stopped_28 : decode cX4_stopped 28 = .ok (.aload_n 0, 1) := by decide +kernel
theorem dX4_stopped_29 : decode cX4_stopped 29 = .ok (.getfield 49, 3) := by decide +kernel
theorem dX4_stopped_32 : decode cX4_stopped 32 = .ok (.ireturn, 1) := by decide +kernel
theorem dX4_stopped_33 : decode cX4_stopped 33 = .ok (.aload_n 0, 1) := by decide +kernel
theorem dX4_stopped_34 : decode cX4_stopped 34 = .ok (.getfield 53, 3) := by decide +kernel
theorem dX4_stopped_37 : decode cX4_stopped 37 = .ok (.ireturn, 1) := by decide +kernel
theorem dX4_stopped_38 : decode cX4_stopped 38 = .ok (.bipush (-2), 2) := by decide +kernel
theorem dX4_stopped_40 : decode cX4_stopped 40 = .ok (.ireturn, 1) := by decide +kernel
def wp_X4_stopped (σ : Mem) (y1 : Int32) (P : Int32 → Prop) : Prop :=
  ((y1 = 0 →
    P (σ 84 7)) ∧
    (¬ y1 = 0 →
    ((y1 = 1 →
    P (σ 84 8)) ∧
    (¬ y1 = 1 →
    P (-2)))))
set_option maxRecDepth 100000 in
set_option maxHeartbeats 4000000 in
theorem c_X4_stopped (V : EV) (σ : Mem) (y1 : Int32) (P : Int32 → Prop) (l : Launch) : Met l yX4_stopped (.code yX4_stopped cX4_stopped 2 (some .int) :: AW) { frames := 0, cells := 0, slots := 0, locals := 0 } (va_Pc [.ref (ad V 84), .int y1] (fun U => wP V σ U ∧ wp_X4_stopped σ y1 P)) (va_Qi (fun r τ => τ = σ ∧ P r) (wB V) (AA V)) 0 0 (AA V) := by
  refine met_i V σ (own := RX4) (by decide +kernel) rfl (fun v hv => by simp at hv; rcases hv with rfl | rfl <;> rfl) (Nat.le_of_ble_eq_true rfl) (fun X C D h => ?_) l
  show GG V X σ 0 [some (.ref (ad V 84)), some (.int y1)] []
  refine g_iload_n C dX4_stopped_0 rfl rfl rfl ?_
  by_cases q0 : y1 = 0
  · have h := h.1 q0
    refine g_lookK C dX4_stopped_1 q0 (by decide) (off := 27) (by rfl) (pc' := 28) rfl ?_
    refine g_aload_n C dX4_stopped_28 rfl rfl rfl ?_
    refine f_X4_49 C dX4_stopped_29 rfl ?_
    exact g_iret C dX4_stopped_32 D ⟨rfl, h⟩
  have h := h.2 q0
  by_cases q1 : y1 = 1
  · have h := h.1 q1
    refine g_lookK C dX4_stopped_1 q1 (by decide) (off := 32) (by rfl) (pc' := 33) rfl ?_
    refine g_aload_n C dX4_stopped_33 rfl rfl rfl ?_
    refine f_X4_53 C dX4_stopped_34 rfl ?_
    exact g_iret C dX4_stopped_37 D ⟨rfl, h⟩
  have h := h.2 q1
  refine g_look C dX4_stopped_1 (by decide) (off := 37) ((lv_osw q0 (by decide)).trans ((lv_osw q1 (by decide)).trans rfl)) (pc' := 38) rfl ?_
  refine g_bipush C dX4_stopped_38 bp_m2 rfl ?_
  exact g_iret C dX4_stopped_40 D ⟨rfl, h⟩
theorem hd_X4_stopped : yX4_stopped.cls ≠ "java/lang/invoke/MethodHandle" ∧ yX4_stopped.cls ≠ "java/lang/invoke/VarHandle" ∧ (parseMethodDescriptor yX4_stopped.desc).map (fun d => d.parameters.length) = some 1 := by decide +kernel

theorem dX4_undo_0 : decode cX4_undo 0 = .ok (.aload_n 0, 1) := by decide +kernel
theorem dX4_undo_1 : decode cX4_undo 1 = .ok (.getfield 29, 3) := by decide +kernel
theorem dX4_undo_4 : decode cX4_undo 4 = .ok (.aload_n 0, 1) := by decide +kernel
theorem dX4_undo_5 : decode cX4_undo 5 = .ok (.getfield 12, 3) := by decide +kernel
theorem dX4_undo_8 : decode cX4_undo 8 = .ok (.invokevirtual 128, 3) := by decide +kernel
theorem dX4_undo_11 : decode cX4_undo 11 = .ok (.ireturn, 1) := by decide +kernel
def wp_X4_undo (σ : Mem) (P : Int32 → Mem → Prop) : Prop :=
  wp_X0_takeLatest σ  (fun r1 σ2 =>
    P r1 σ2)
set_option maxRecDepth 100000 in
set_option maxHeartbeats 4000000 in
theorem c_X4_undo (V : EV) (σ : Mem) (P : Int32 → Mem → Prop) (l : Launch) : Met l yX4_undo (.code yX4_undo cX4_undo 1 (some .int) :: AW) { frames := 3, cells := 0, slots := 0, locals := 66 } (va_Pc [.ref (ad V 84)] (fun U => wP V σ U ∧ wp_X4_undo σ P)) (va_Qi P (wB V) (AA V)) 0 0 (AA V) := by
  refine met_i V σ (own := RX4) (by decide +kernel) rfl (fun v hv => by simp at hv; subst hv; rfl) (Nat.le_of_ble_eq_true rfl) (fun X C D h => ?_) l
  show GG V X σ 0 [some (.ref (ad V 84))] []
  refine g_aload_n C dX4_undo_0 rfl rfl rfl ?_
  refine f_X4_29 C dX4_undo_1 rfl ?_
  refine g_aload_n C dX4_undo_4 rfl rfl rfl ?_
  refine f_X4_12 C dX4_undo_5 rfl ?_
  refine k_X4_128 C dX4_undo_8 (Nat.le_of_ble_eq_true rfl) (by decide) rfl rfl h (fun r1 σ2 h => ?_)
  exact g_iret C dX4_undo_11 D h
theorem hd_X4_undo : yX4_undo.cls ≠ "java/lang/invoke/MethodHandle" ∧ yX4_undo.cls ≠ "java/lang/invoke/VarHandle" ∧ (parseMethodDescriptor yX4_undo.desc).map (fun d => d.parameters.length) = some 0 := by decide +kernel

theorem dX4_keep_0 : decode cX4_keep 0 = .ok (.aload_n 0, 1) := by decide +kernel
theorem dX4_keep_1 : decode cX4_keep 1 = .ok (.getfield 19, 3) := by decide +kernel
theorem dX4_keep_4 : decode cX4_keep 4 = .ok (.aload_n 0, 1) := by decide +kernel
theorem dX4_keep_5 : decode cX4_keep 5 = .ok (.getfield 12, 3) := by decide +kernel
theorem dX4_keep_8 : decode cX4_keep 8 = .ok (.invokevirtual 64, 3) := by decide +kernel
theorem dX4_keep_11 : decode cX4_keep 11 = .ok (.aload_n 0, 1) := by decide +kernel
theorem dX4_keep_12 : decode cX4_keep 12 = .ok (.iconst 1, 1) := by decide +kernel
theorem dX4_keep_13 : decode cX4_keep 13 = .ok (.putfield 22, 3) := by decide +kernel
theorem dX4_keep_16 : decode cX4_keep 16 = .ok (.aload_n 0, 1) := by decide +kernel
theorem dX4_keep_17 : decode cX4_keep 17 = .ok (.getfield 12, 3) := by decide +kernel
theorem dX4_keep_20 : decode cX4_keep 20 = .ok (.invokevirtual 132, 3) := by decide +kernel
theorem dX4_keep_23 : decode cX4_keep 23 = .ok (.ireturn, 1) := by decide +kernel
def wp_X4_keep (σ : Mem) (P : Int32 → Mem → Prop) : Prop :=
  wp_X1_copyFrom σ 24 0 (fun σ1 =>
    bm (up2 σ1 84 3 1) (fun σ2 =>
    wp_X1_retiredCells σ2  (fun r3 =>
    P r3 σ2)))
set_option maxRecDepth 100000 in
set_option maxHeartbeats 4000000 in
theorem c_X4_keep (V : EV) (σ : Mem) (P : Int32 → Mem → Prop) (l : Launch) : Met l yX4_keep (.code yX4_keep cX4_keep 1 (some .int) :: AW) { frames := 3, cells := 0, slots := 0, locals := 64 } (va_Pc [.ref (ad V 84)] (fun U => wP V σ U ∧ wp_X4_keep σ P)) (va_Qi P (wB V) (AA V)) 0 0 (AA V) := by
  refine met_i V σ (own := RX4) (by decide +kernel) rfl (fun v hv => by simp at hv; subst hv; rfl) (Nat.le_of_ble_eq_true rfl) (fun X C D h => ?_) l
  show GG V X σ 0 [some (.ref (ad V 84))] []
  refine g_aload_n C dX4_keep_0 rfl rfl rfl ?_
  refine f_X4_19 C dX4_keep_1 rfl ?_
  refine g_aload_n C dX4_keep_4 rfl rfl rfl ?_
  refine f_X4_12 C dX4_keep_5 rfl ?_
  refine k_X4_64 isM_24 isM_0 C dX4_keep_8 (Nat.le_of_ble_eq_true rfl) (by decide) rfl rfl h (fun σ1 h => ?_)
  refine g_aload_n C dX4_keep_11 rfl rfl rfl ?_
  refine g_iconst C dX4_keep_12 ic_1 rfl ?_
  refine p_X4_22 isZ_1 C dX4_keep_13 rfl h (fun σ2 h => ?_)
  refine g_aload_n C dX4_keep_16 rfl rfl rfl ?_
  refine f_X4_12 C dX4_keep_17 rfl ?_
  refine k_X4_132 C dX4_keep_20 (Nat.le_of_ble_eq_true rfl) (by decide) rfl rfl h (fun r3 h => ?_)
  exact g_iret C dX4_keep_23 D h
theorem hd_X4_keep : yX4_keep.cls ≠ "java/lang/invoke/MethodHandle" ∧ yX4_keep.cls ≠ "java/lang/invoke/VarHandle" ∧ (parseMethodDescriptor yX4_keep.desc).map (fun d => d.parameters.length) = some 0 := by decide +kernel

theorem dX4_restore_0 : decode cX4_restore 0 = .ok (.aload_n 0, 1) := by decide +kernel
theorem dX4_restore_1 : decode cX4_restore 1 = .ok (.getfield 22, 3) := by decide +kernel
theorem dX4_restore_4 : decode cX4_restore 4 = .ok (.ifCond .ne 6, 3) := by decide +kernel
theorem dX4_restore_7 : decode cX4_restore 7 = .ok (.bipush (-5), 2) := by decide +kernel
theorem dX4_restore_9 : decode cX4_restore 9 = .ok (.ireturn, 1) := by decide +kernel
theorem dX4_restore_10 : decode cX4_restore 10 = .ok (.aload_n 0, 1) := by decide +kernel
theorem dX4_restore_11 : decode cX4_restore 11 = .ok (.getfield 16, 3) := by decide +kernel
theorem dX4_restore_14 : decode cX4_restore 14 = .ok (.aload_n 0, 1) := by decide +kernel
theorem dX4_restore_15 : decode cX4_restore 15 = .ok (.getfield 12, 3) := by decide +kernel
theorem dX4_restore_18 : decode cX4_restore 18 = .ok (.invokevirtual 64, 3) := by decide +kernel
theorem dX4_restore_21 : decode cX4_restore 21 = .ok (.aload_n 0, 1) := by decide +kernel
theorem dX4_restore_22 : decode cX4_restore 22 = .ok (.getfield 12, 3) := by decide +kernel
theorem dX4_restore_25 : decode cX4_restore 25 = .ok (.aload_n 0, 1) := by decide +kernel
theorem dX4_restore_26 : decode cX4_restore 26 = .ok (.getfield 19, 3) := by decide +kernel
theorem dX4_restore_29 : decode cX4_restore 29 = .ok (.invokevirtual 64, 3) := by decide +kernel
theorem dX4_restore_32 : decode cX4_restore 32 = .ok (.aload_n 0, 1) := by decide +kernel
theorem dX4_restore_33 : decode cX4_restore 33 = .ok (.getfield 12, 3) := by decide +kernel
theorem dX4_restore_36 : decode cX4_restore 36 = .ok (.invokevirtual 135, 3) := by decide +kernel
theorem dX4_restore_39 : decode cX4_restore 39 = .ok (.pop, 1) := by decide +kernel
theorem dX4_restore_40 : decode cX4_restore 40 = .ok (.aload_n 0, 1) := by decide +kernel
theorem dX4_restore_41 : decode cX4_restore 41 = .ok (.aload_n 0, 1) := by decide +kernel
theorem dX4_restore_42 : decode cX4_restore 42 = .ok (.getfield 12, 3) := by decide +kernel
theorem dX4_restore_45 : decode cX4_restore 45 = .ok (.invokevirtual 132, 3) := by decide +kernel
theorem dX4_restore_48 : decode cX4_restore 48 = .ok (.invokevirtual 75, 3) := by decide +kernel
theorem dX4_restore_51 : decode cX4_restore 51 = .ok (.ireturn, 1) := by decide +kernel
def wp_X4_restore (σ : Mem) (P : Int32 → Mem → Prop) : Prop :=
  (((σ 84 3) = 0 →
    P (-5) σ) ∧
    (¬ (σ 84 3) = 0 →
    wp_X1_copyFrom σ 12 0 (fun σ1 =>
      wp_X1_copyFrom σ1 0 24 (fun σ2 =>
      wp_X1_retireWhatCan σ2  (fun r3 σ4 =>
      wp_X1_retiredCells σ4  (fun r5 =>
      wp_X4_recorded σ4 r5 (fun r6 σ7 =>
      P r6 σ7)))))))
set_option maxRecDepth 100000 in
set_option maxHeartbeats 4000000 in
theorem c_X4_restore (V : EV) (σ : Mem) (P : Int32 → Mem → Prop) (l : Launch) : Met l yX4_restore (.code yX4_restore cX4_restore 1 (some .int) :: AW) { frames := 4, cells := 0, slots := 0, locals := 91 } (va_Pc [.ref (ad V 84)] (fun U => wP V σ U ∧ wp_X4_restore σ P)) (va_Qi P (wB V) (AA V)) 0 0 (AA V) := by
  refine met_i V σ (own := RX4) (by decide +kernel) rfl (fun v hv => by simp at hv; subst hv; rfl) (Nat.le_of_ble_eq_true rfl) (fun X C D h => ?_) l
  show GG V X σ 0 [some (.ref (ad V 84))] []
  refine g_aload_n C dX4_restore_0 rfl rfl rfl ?_
  refine f_X4_22 C dX4_restore_1 rfl ?_
  refine g_if_ne C dX4_restore_4 (tgt := 10) rfl rfl (fun q => ?_) (fun q => ?_)
  · have h := h.2 q
    refine g_aload_n C dX4_restore_10 rfl rfl rfl ?_
    refine f_X4_16 C dX4_restore_11 rfl ?_
    refine g_aload_n C dX4_restore_14 rfl rfl rfl ?_
    refine f_X4_12 C dX4_restore_15 rfl ?_
    refine k_X4_64 isM_12 isM_0 C dX4_restore_18 (Nat.le_of_ble_eq_true rfl) (by decide) rfl rfl h (fun σ1 h => ?_)
    refine g_aload_n C dX4_restore_21 rfl rfl rfl ?_
    refine f_X4_12 C dX4_restore_22 rfl ?_
    refine g_aload_n C dX4_restore_25 rfl rfl rfl ?_
    refine f_X4_19 C dX4_restore_26 rfl ?_
    refine k_X4_64 isM_0 isM_24 C dX4_restore_29 (Nat.le_of_ble_eq_true rfl) (by decide) rfl rfl h (fun σ2 h => ?_)
    refine g_aload_n C dX4_restore_32 rfl rfl rfl ?_
    refine f_X4_12 C dX4_restore_33 rfl ?_
    refine k_X4_135 C dX4_restore_36 (Nat.le_of_ble_eq_true rfl) (by decide) rfl rfl h (fun r3 σ4 h => ?_)
    refine g_pop C dX4_restore_39 rfl rfl ?_
    refine g_aload_n C dX4_restore_40 rfl rfl rfl ?_
    refine g_aload_n C dX4_restore_41 rfl rfl rfl ?_
    refine f_X4_12 C dX4_restore_42 rfl ?_
    refine k_X4_132 C dX4_restore_45 (Nat.le_of_ble_eq_true rfl) (by decide) rfl rfl h (fun r5 h => ?_)
    refine k_X4_75 C dX4_restore_48 (Nat.le_of_ble_eq_true rfl) (by decide) rfl rfl h (fun r6 σ7 h => ?_)
    exact g_iret C dX4_restore_51 D h
  · have h := h.1 q
    refine g_bipush C dX4_restore_7 bp_m5 rfl ?_
    exact g_iret C dX4_restore_9 D h
theorem hd_X4_restore : yX4_restore.cls ≠ "java/lang/invoke/MethodHandle" ∧ yX4_restore.cls ≠ "java/lang/invoke/VarHandle" ∧ (parseMethodDescriptor yX4_restore.desc).map (fun d => d.parameters.length) = some 0 := by decide +kernel

theorem dX4_page_0 : decode cX4_page 0 = .ok (.iload_n 1, 1) := by decide +kernel
theorem dX4_page_1 : decode cX4_page 1 = .ok (.iload_n 2, 1) := by decide +kernel
theorem dX4_page_2 : decode cX4_page 2 = .ok (.invokestatic 56, 3) := by decide +kernel
theorem dX4_page_5 : decode cX4_page 5 = .ok (.ifCond .ne 5, 3) := by decide +kernel
theorem dX4_page_8 : decode cX4_page 8 = .ok (.iconst (-1), 1) := by decide +kernel
theorem dX4_page_9 : decode cX4_page 9 = .ok (.ireturn, 1) := by decide +kernel
theorem dX4_page_10 : decode cX4_page 10 = .ok (.aload_n 0, 1) := by decide +kernel
theorem dX4_page_11 : decode cX4_page 11 = .ok (.getfield 12, 3) := by decide +kernel
theorem dX4_page_14 : decode cX4_page 14 = .ok (.iload_n 1, 1) := by decide +kernel
theorem dX4_page_15 : decode cX4_page 15 = .ok (.iload_n 2, 1) := by decide +kernel
theorem dX4_page_16 : decode cX4_page 16 = .ok (.invokestatic 68, 3) := by decide +kernel
theorem dX4_page_19 : decode cX4_page 19 = .ok (.iload_n 3, 1) := by decide +kernel
theorem dX4_page_20 : decode cX4_page 20 = .ok (.invokevirtual 138, 3) := by decide +kernel
theorem dX4_page_23 : decode cX4_page 23 = .ok (.ireturn, 1) := by decide +kernel
def wp_X4_page (σ : Mem) (y1 : Int32) (y2 : Int32) (y3 : Int32) (P : Int32 → Prop) : Prop :=
  wp_X4_isPage σ y1 y2 (fun r1 =>
    ((r1 = 0 →
    P (-1)) ∧
    (¬ r1 = 0 →
    wp_X4_pageIndex σ y1 y2 (fun r2 =>
      wp_X1_tellPage σ r2 y3 (fun r3 =>
      P r3)))))
set_option maxRecDepth 100000 in
set_option maxHeartbeats 4000000 in
theorem c_X4_page (V : EV) (σ : Mem) (y1 : Int32) (y2 : Int32) (y3 : Int32) (P : Int32 → Prop) (l : Launch) : Met l yX4_page (.code yX4_page cX4_page 4 (some .int) :: AW) { frames := 2, cells := 0, slots := 0, locals := 43 } (va_Pc [.ref (ad V 84), .int y1, .int y2, .int y3] (fun U => wP V σ U ∧ wp_X4_page σ y1 y2 y3 P)) (va_Qi (fun r τ => τ = σ ∧ P r) (wB V) (AA V)) 0 0 (AA V) := by
  refine met_i V σ (own := RX4) (by decide +kernel) rfl (fun v hv => by simp at hv; rcases hv with rfl | rfl | rfl | rfl <;> rfl) (Nat.le_of_ble_eq_true rfl) (fun X C D h => ?_) l
  show GG V X σ 0 [some (.ref (ad V 84)), some (.int y1), some (.int y2), some (.int y3)] []
  refine g_iload_n C dX4_page_0 rfl rfl rfl ?_
  refine g_iload_n C dX4_page_1 rfl rfl rfl ?_
  refine k_X4_56 C dX4_page_2 (Nat.le_of_ble_eq_true rfl) (by decide) rfl rfl h (fun r1 h => ?_)
  refine g_if_ne C dX4_page_5 (tgt := 10) rfl rfl (fun q => ?_) (fun q => ?_)
  · have h := h.2 q
    refine g_aload_n C dX4_page_10 rfl rfl rfl ?_
    refine f_X4_12 C dX4_page_11 rfl ?_
    refine g_iload_n C dX4_page_14 rfl rfl rfl ?_
    refine g_iload_n C dX4_page_15 rfl rfl rfl ?_
    refine k_X4_68 C dX4_page_16 (Nat.le_of_ble_eq_true rfl) (by decide) rfl rfl h (fun r2 h => ?_)
    refine g_iload_n C dX4_page_19 rfl rfl rfl ?_
    refine k_X4_138 C dX4_page_20 (Nat.le_of_ble_eq_true rfl) (by decide) rfl rfl h (fun r3 h => ?_)
    exact g_iret C dX4_page_23 D ⟨rfl, h⟩
  · have h := h.1 q
    refine g_iconst C dX4_page_8 ic_m1 rfl ?_
    exact g_iret C dX4_page_9 D ⟨rfl, h⟩
theorem hd_X4_page : yX4_page.cls ≠ "java/lang/invoke/MethodHandle" ∧ yX4_page.cls ≠ "java/lang/invoke/VarHandle" ∧ (parseMethodDescriptor yX4_page.desc).map (fun d => d.parameters.length) = some 3 := by decide +kernel

theorem dX4_program_0 : decode cX4_program 0 = .ok (.iload_n 1, 1) := by decide +kernel
theorem dX4_program_1 : decode cX4_program 1 = .ok (.iconst 0, 1) := by decide +kernel
theorem dX4_program_2 : decode cX4_program 2 = .ok (.iconst 4, 1) := by decide +kernel
theorem dX4_program_3 : decode cX4_program 3 = .ok (.invokestatic 60, 3) := by decide +kernel
theorem dX4_program_6 : decode cX4_program 6 = .ok (.ifCond .ne 5, 3) := by decide +kernel
theorem dX4_program_9 : decode cX4_program 9 = .ok (.iconst (-1), 1) := by decide +kernel
theorem dX4_program_10 : decode cX4_program 10 = .ok (.ireturn, 1) := by decide +kernel
theorem dX4_program_11 : decode cX4_program 11 = .ok (.aload_n 0, 1) := by decide +kernel
theorem dX4_program_12 : decode cX4_program 12 = .ok (.getfield 12, 3) := by decide +kernel
theorem dX4_program_15 : decode cX4_program 15 = .ok (.iload_n 1, 1) := by decide +kernel
theorem dX4_program_16 : decode cX4_program 16 = .ok (.iload_n 2, 1) := by decide +kernel
theorem dX4_program_17 : decode cX4_program 17 = .ok (.invokevirtual 141, 3) := by decide +kernel
theorem dX4_program_20 : decode cX4_program 20 = .ok (.ireturn, 1) := by decide +kernel
def wp_X4_program (σ : Mem) (y1 : Int32) (y2 : Int32) (P : Int32 → Prop) : Prop :=
  wp_X4_isWithin σ y1 0 4 (fun r1 =>
    ((r1 = 0 →
    P (-1)) ∧
    (¬ r1 = 0 →
    wp_X1_tellProgram σ y1 y2 (fun r2 =>
      P r2))))
set_option maxRecDepth 100000 in
set_option maxHeartbeats 4000000 in
theorem c_X4_program (V : EV) (σ : Mem) (y1 : Int32) (y2 : Int32) (P : Int32 → Prop) (l : Launch) : Met l yX4_program (.code yX4_program cX4_program 3 (some .int) :: AW) { frames := 3, cells := 0, slots := 0, locals := 66 } (va_Pc [.ref (ad V 84), .int y1, .int y2] (fun U => wP V σ U ∧ wp_X4_program σ y1 y2 P)) (va_Qi (fun r τ => τ = σ ∧ P r) (wB V) (AA V)) 0 0 (AA V) := by
  refine met_i V σ (own := RX4) (by decide +kernel) rfl (fun v hv => by simp at hv; rcases hv with rfl | rfl | rfl <;> rfl) (Nat.le_of_ble_eq_true rfl) (fun X C D h => ?_) l
  show GG V X σ 0 [some (.ref (ad V 84)), some (.int y1), some (.int y2)] []
  refine g_iload_n C dX4_program_0 rfl rfl rfl ?_
  refine g_iconst C dX4_program_1 ic_0 rfl ?_
  refine g_iconst C dX4_program_2 ic_4 rfl ?_
  refine k_X4_60 C dX4_program_3 (Nat.le_of_ble_eq_true rfl) (by decide) rfl rfl h (fun r1 h => ?_)
  refine g_if_ne C dX4_program_6 (tgt := 11) rfl rfl (fun q => ?_) (fun q => ?_)
  · have h := h.2 q
    refine g_aload_n C dX4_program_11 rfl rfl rfl ?_
    refine f_X4_12 C dX4_program_12 rfl ?_
    refine g_iload_n C dX4_program_15 rfl rfl rfl ?_
    refine g_iload_n C dX4_program_16 rfl rfl rfl ?_
    refine k_X4_141 C dX4_program_17 (Nat.le_of_ble_eq_true rfl) (by decide) rfl rfl h (fun r2 h => ?_)
    exact g_iret C dX4_program_20 D ⟨rfl, h⟩
  · have h := h.1 q
    refine g_iconst C dX4_program_9 ic_m1 rfl ?_
    exact g_iret C dX4_program_10 D ⟨rfl, h⟩
theorem hd_X4_program : yX4_program.cls ≠ "java/lang/invoke/MethodHandle" ∧ yX4_program.cls ≠ "java/lang/invoke/VarHandle" ∧ (parseMethodDescriptor yX4_program.desc).map (fun d => d.parameters.length) = some 2 := by decide +kernel

theorem dX4_cell_0 : decode cX4_cell 0 = .ok (.iload_n 1, 1) := by decide +kernel
theorem dX4_cell_1 : decode cX4_cell 1 = .ok (.invokestatic 86, 3) := by decide +kernel
theorem dX4_cell_4 : decode cX4_cell 4 = .ok (.ifCond .ne 5, 3) := by decide +kernel
theorem dX4_cell_7 : decode cX4_cell 7 = .ok (.iconst (-1), 1) := by decide +kernel
theorem dX4_cell_8 : decode cX4_cell 8 = .ok (.ireturn, 1) := by decide +kernel
theorem dX4_cell_9 : decode cX4_cell 9 = .ok (.aload_n 0, 1) := by decide +kernel
theorem dX4_cell_10 : decode cX4_cell 10 = .ok (.getfield 12, 3) := by decide +kernel
theorem dX4_cell_13 : decode cX4_cell 13 = .ok (.iload_n 1, 1) := by decide +kernel
theorem dX4_cell_14 : decode cX4_cell 14 = .ok (.iload_n 2, 1) := by decide +kernel
theorem dX4_cell_15 : decode cX4_cell 15 = .ok (.invokevirtual 144, 3) := by decide +kernel
theorem dX4_cell_18 : decode cX4_cell 18 = .ok (.ireturn, 1) := by decide +kernel
def wp_X4_cell (σ : Mem) (y1 : Int32) (y2 : Int32) (P : Int32 → Prop) : Prop :=
  wp_X4_isCell σ y1 (fun r1 =>
    ((r1 = 0 →
    P (-1)) ∧
    (¬ r1 = 0 →
    wp_X1_tellCell σ y1 y2 (fun r2 =>
      P r2))))
set_option maxRecDepth 100000 in
set_option maxHeartbeats 4000000 in
theorem c_X4_cell (V : EV) (σ : Mem) (y1 : Int32) (y2 : Int32) (P : Int32 → Prop) (l : Launch) : Met l yX4_cell (.code yX4_cell cX4_cell 3 (some .int) :: AW) { frames := 3, cells := 0, slots := 0, locals := 65 } (va_Pc [.ref (ad V 84), .int y1, .int y2] (fun U => wP V σ U ∧ wp_X4_cell σ y1 y2 P)) (va_Qi (fun r τ => τ = σ ∧ P r) (wB V) (AA V)) 0 0 (AA V) := by
  refine met_i V σ (own := RX4) (by decide +kernel) rfl (fun v hv => by simp at hv; rcases hv with rfl | rfl | rfl <;> rfl) (Nat.le_of_ble_eq_true rfl) (fun X C D h => ?_) l
  show GG V X σ 0 [some (.ref (ad V 84)), some (.int y1), some (.int y2)] []
  refine g_iload_n C dX4_cell_0 rfl rfl rfl ?_
  refine k_X4_86 C dX4_cell_1 (Nat.le_of_ble_eq_true rfl) (by decide) rfl rfl h (fun r1 h => ?_)
  refine g_if_ne C dX4_cell_4 (tgt := 9) rfl rfl (fun q => ?_) (fun q => ?_)
  · have h := h.2 q
    refine g_aload_n C dX4_cell_9 rfl rfl rfl ?_
    refine f_X4_12 C dX4_cell_10 rfl ?_
    refine g_iload_n C dX4_cell_13 rfl rfl rfl ?_
    refine g_iload_n C dX4_cell_14 rfl rfl rfl ?_
    refine k_X4_144 C dX4_cell_15 (Nat.le_of_ble_eq_true rfl) (by decide) rfl rfl h (fun r2 h => ?_)
    exact g_iret C dX4_cell_18 D ⟨rfl, h⟩
  · have h := h.1 q
    refine g_iconst C dX4_cell_7 ic_m1 rfl ?_
    exact g_iret C dX4_cell_8 D ⟨rfl, h⟩
theorem hd_X4_cell : yX4_cell.cls ≠ "java/lang/invoke/MethodHandle" ∧ yX4_cell.cls ≠ "java/lang/invoke/VarHandle" ∧ (parseMethodDescriptor yX4_cell.desc).map (fun d => d.parameters.length) = some 2 := by decide +kernel

theorem dX4_list_0 : decode cX4_list 0 = .ok (.iload_n 1, 1) := by decide +kernel
theorem dX4_list_1 : decode cX4_list 1 = .ok (.ifCond .ge 8, 3) := by decide +kernel
theorem dX4_list_4 : decode cX4_list 4 = .ok (.bipush (-2), 2) := by decide +kernel
theorem dX4_list_6 : decode cX4_list 6 = .ok (.goto 11, 3) := by decide +kernel
theorem dX4_list_9 : decode cX4_list 9 = .ok (.aload_n 0, 1) := by decide +kernel
theorem dX4_list_10 : decode cX4_list 10 = .ok (.getfield 12, 3) := by decide +kernel
theorem dX4_list_13 : decode cX4_list 13 = .ok (.iload_n 1, 1) := by decide +kernel
theorem dX4_list_14 : decode cX4_list 14 = .ok (.invokevirtual 147, 3) := by decide +kernel
theorem dX4_list_17 : decode cX4_list 17 = .ok (.ireturn, 1) := by decide +kernel
def wp_X4_list (σ : Mem) (y1 : Int32) (P : Int32 → Prop) : Prop :=
  ((0 ≤ y1 →
    wp_X1_listedAt σ y1 (fun r1 =>
      P r1)) ∧
    (¬ 0 ≤ y1 →
    P (-2)))
set_option maxRecDepth 100000 in
set_option maxHeartbeats 4000000 in
theorem c_X4_list (V : EV) (σ : Mem) (y1 : Int32) (P : Int32 → Prop) (l : Launch) : Met l yX4_list (.code yX4_list cX4_list 2 (some .int) :: AW) { frames := 1, cells := 0, slots := 0, locals := 21 } (va_Pc [.ref (ad V 84), .int y1] (fun U => wP V σ U ∧ wp_X4_list σ y1 P)) (va_Qi (fun r τ => τ = σ ∧ P r) (wB V) (AA V)) 0 0 (AA V) := by
  refine met_i V σ (own := RX4) (by decide +kernel) rfl (fun v hv => by simp at hv; rcases hv with rfl | rfl <;> rfl) (Nat.le_of_ble_eq_true rfl) (fun X C D h => ?_) l
  show GG V X σ 0 [some (.ref (ad V 84)), some (.int y1)] []
  refine g_iload_n C dX4_list_0 rfl rfl rfl ?_
  refine g_if_ge C dX4_list_1 (tgt := 9) rfl rfl (fun q => ?_) (fun q => ?_)
  · have h := h.1 q
    refine g_aload_n C dX4_list_9 rfl rfl rfl ?_
    refine f_X4_12 C dX4_list_10 rfl ?_
    refine g_iload_n C dX4_list_13 rfl rfl rfl ?_
    refine k_X4_147 C dX4_list_14 (Nat.le_of_ble_eq_true rfl) (by decide) rfl rfl h (fun r1 h => ?_)
    exact g_iret C dX4_list_17 D ⟨rfl, h⟩
  · have h := h.2 q
    refine g_bipush C dX4_list_4 bp_m2 rfl ?_
    refine g_goto C dX4_list_6 (pc' := 17) rfl ?_
    exact g_iret C dX4_list_17 D ⟨rfl, h⟩
theorem hd_X4_list : yX4_list.cls ≠ "java/lang/invoke/MethodHandle" ∧ yX4_list.cls ≠ "java/lang/invoke/VarHandle" ∧ (parseMethodDescriptor yX4_list.desc).map (fun d => d.parameters.length) = some 1 := by decide +kernel

theorem dX4_next_0 : decode cX4_next 0 = .ok (.aload_n 0, 1) := by decide +kernel
theorem dX4_next_1 : decode cX4_next 1 = .ok (.getfield 12, 3) := by decide +kernel
theorem dX4_next_4 : decode cX4_next 4 = .ok (.invokevirtual 150, 3) := by decide +kernel
theorem dX4_next_7 : decode cX4_next 7 = .ok (.ireturn, 1) := by decide +kernel
def wp_X4_next (σ : Mem) (P : Int32 → Prop) : Prop :=
  wp_X1_cellToGive σ  (fun r1 =>
    P r1)
set_option maxRecDepth 100000 in
set_option maxHeartbeats 4000000 in
theorem c_X4_next (V : EV) (σ : Mem) (P : Int32 → Prop) (l : Launch) : Met l yX4_next (.code yX4_next cX4_next 1 (some .int) :: AW) { frames := 2, cells := 0, slots := 0, locals := 46 } (va_Pc [.ref (ad V 84)] (fun U => wP V σ U ∧ wp_X4_next σ P)) (va_Qi (fun r τ => τ = σ ∧ P r) (wB V) (AA V)) 0 0 (AA V) := by
  refine met_i V σ (own := RX4) (by decide +kernel) rfl (fun v hv => by simp at hv; subst hv; rfl) (Nat.le_of_ble_eq_true rfl) (fun X C D h => ?_) l
  show GG V X σ 0 [some (.ref (ad V 84))] []
  refine g_aload_n C dX4_next_0 rfl rfl rfl ?_
  refine f_X4_12 C dX4_next_1 rfl ?_
  refine k_X4_150 C dX4_next_4 (Nat.le_of_ble_eq_true rfl) (by decide) rfl rfl h (fun r1 h => ?_)
  exact g_iret C dX4_next_7 D ⟨rfl, h⟩
theorem hd_X4_next : yX4_next.cls ≠ "java/lang/invoke/MethodHandle" ∧ yX4_next.cls ≠ "java/lang/invoke/VarHandle" ∧ (parseMethodDescriptor yX4_next.desc).map (fun d => d.parameters.length) = some 0 := by decide +kernel

theorem dX4_reason_0 : decode cX4_reason 0 = .ok (.iload_n 1, 1) := by decide +kernel
theorem dX4_reason_1 : decode cX4_reason 1 = .ok (.invokestatic 86, 3) := by decide +kernel
theorem dX4_reason_4 : decode cX4_reason 4 = .ok (.ifCond .eq 14, 3) := by decide +kernel
theorem dX4_reason_7 : decode cX4_reason 7 = .ok (.aload_n 0, 1) := by decide +kernel
theorem dX4_reason_8 : decode cX4_reason 8 = .ok (.getfield 12, 3) := by decide +kernel
theorem dX4_reason_11 : decode cX4_reason 11 = .ok (.iload_n 1, 1) := by decide +kernel
theorem dX4_reason_12 : decode cX4_reason 12 = .ok (.invokevirtual 153, 3) := by decide +kernel
theorem dX4_reason_15 : decode cX4_reason 15 = .ok (.goto 4, 3) := by decide +kernel
theorem dX4_reason_18 : decode cX4_reason 18 = .ok (.iconst (-1), 1) := by decide +kernel
theorem dX4_reason_19 : decode cX4_reason 19 = .ok (.ireturn, 1) := by decide +kernel
def wp_X4_reason (σ : Mem) (y1 : Int32) (P : Int32 → Prop) : Prop :=
  wp_X4_isCell σ y1 (fun r1 =>
    ((r1 = 0 →
    P (-1)) ∧
    (¬ r1 = 0 →
    wp_X1_whyNotRetired σ y1 (fun r2 =>
      P r2))))
set_option maxRecDepth 100000 in
set_option maxHeartbeats 4000000 in
theorem c_X4_reason (V : EV) (σ : Mem) (y1 : Int32) (P : Int32 → Prop) (l : Launch) : Met l yX4_reason (.code yX4_reason cX4_reason 2 (some .int) :: AW) { frames := 2, cells := 0, slots := 0, locals := 43 } (va_Pc [.ref (ad V 84), .int y1] (fun U => wP V σ U ∧ wp_X4_reason σ y1 P)) (va_Qi (fun r τ => τ = σ ∧ P r) (wB V) (AA V)) 0 0 (AA V) := by
  refine met_i V σ (own := RX4) (by decide +kernel) rfl (fun v hv => by simp at hv; rcases hv with rfl | rfl <;> rfl) (Nat.le_of_ble_eq_true rfl) (fun X C D h => ?_) l
  show GG V X σ 0 [some (.ref (ad V 84)), some (.int y1)] []
  refine g_iload_n C dX4_reason_0 rfl rfl rfl ?_
  refine k_X4_86 C dX4_reason_1 (Nat.le_of_ble_eq_true rfl) (by decide) rfl rfl h (fun r1 h => ?_)
  refine g_if_eq C dX4_reason_4 (tgt := 18) rfl rfl (fun q => ?_) (fun q => ?_)
  · have h := h.1 q
    refine g_iconst C dX4_reason_18 ic_m1 rfl ?_
    exact g_iret C dX4_reason_19 D ⟨rfl, h⟩
  · have h := h.2 q
    refine g_aload_n C dX4_reason_7 rfl rfl rfl ?_
    refine f_X4_12 C dX4_reason_8 rfl ?_
    refine g_iload_n C dX4_reason_11 rfl rfl rfl ?_
    refine k_X4_153 C dX4_reason_12 (Nat.le_of_ble_eq_true rfl) (by decide) rfl rfl h (fun r2 h => ?_)
    refine g_goto C dX4_reason_15 (pc' := 19) rfl ?_
    exact g_iret C dX4_reason_19 D ⟨rfl, h⟩
theorem hd_X4_reason : yX4_reason.cls ≠ "java/lang/invoke/MethodHandle" ∧ yX4_reason.cls ≠ "java/lang/invoke/VarHandle" ∧ (parseMethodDescriptor yX4_reason.desc).map (fun d => d.parameters.length) = some 1 := by decide +kernel

theorem dX4_errorsLeft_0 : decode cX4_errorsLeft 0 = .ok (.iload_n 1, 1) := by decide +kernel
theorem dX4_errorsLeft_1 : decode cX4_errorsLeft 1 = .ok (.invokestatic 86, 3) := by decide +kernel
theorem dX4_errorsLeft_4 : decode cX4_errorsLeft 4 = .ok (.ifCond .eq 14, 3) := by decide +kernel
theorem dX4_errorsLeft_7 : decode cX4_errorsLeft 7 = .ok (.aload_n 0, 1) := by decide +kernel
theorem dX4_errorsLeft_8 : decode cX4_errorsLeft 8 = .ok (.getfield 12, 3) := by decide +kernel
theorem dX4_errorsLeft_11 : decode cX4_errorsLeft 11 = .ok (.iload_n 1, 1) := by decide +kernel
theorem dX4_errorsLeft_12 : decode cX4_errorsLeft 12 = .ok (.invokevirtual 156, 3) := by decide +kernel
theorem dX4_errorsLeft_15 : decode cX4_errorsLeft 15 = .ok (.goto 4, 3) := by decide +kernel
theorem dX4_errorsLeft_18 : decode cX4_errorsLeft 18 = .ok (.iconst (-1), 1) := by decide +kernel
theorem dX4_errorsLeft_19 : decode cX4_errorsLeft 19 = .ok (.ireturn, 1) := by decide +kernel
def wp_X4_errorsLeft (σ : Mem) (y1 : Int32) (P : Int32 → Prop) : Prop :=
  wp_X4_isCell σ y1 (fun r1 =>
    ((r1 = 0 →
    P (-1)) ∧
    (¬ r1 = 0 →
    wp_X1_errorsUntilRetired σ y1 (fun r2 =>
      P r2))))
set_option maxRecDepth 100000 in
set_option maxHeartbeats 4000000 in
theorem c_X4_errorsLeft (V : EV) (σ : Mem) (y1 : Int32) (P : Int32 → Prop) (l : Launch) : Met l yX4_errorsLeft (.code yX4_errorsLeft cX4_errorsLeft 2 (some .int) :: AW) { frames := 4, cells := 0, slots := 0, locals := 89 } (va_Pc [.ref (ad V 84), .int y1] (fun U => wP V σ U ∧ wp_X4_errorsLeft σ y1 P)) (va_Qi (fun r τ => τ = σ ∧ P r) (wB V) (AA V)) 0 0 (AA V) := by
  refine met_i V σ (own := RX4) (by decide +kernel) rfl (fun v hv => by simp at hv; rcases hv with rfl | rfl <;> rfl) (Nat.le_of_ble_eq_true rfl) (fun X C D h => ?_) l
  show GG V X σ 0 [some (.ref (ad V 84)), some (.int y1)] []
  refine g_iload_n C dX4_errorsLeft_0 rfl rfl rfl ?_
  refine k_X4_86 C dX4_errorsLeft_1 (Nat.le_of_ble_eq_true rfl) (by decide) rfl rfl h (fun r1 h => ?_)
  refine g_if_eq C dX4_errorsLeft_4 (tgt := 18) rfl rfl (fun q => ?_) (fun q => ?_)
  · have h := h.1 q
    refine g_iconst C dX4_errorsLeft_18 ic_m1 rfl ?_
    exact g_iret C dX4_errorsLeft_19 D ⟨rfl, h⟩
  · have h := h.2 q
    refine g_aload_n C dX4_errorsLeft_7 rfl rfl rfl ?_
    refine f_X4_12 C dX4_errorsLeft_8 rfl ?_
    refine g_iload_n C dX4_errorsLeft_11 rfl rfl rfl ?_
    refine k_X4_156 C dX4_errorsLeft_12 (Nat.le_of_ble_eq_true rfl) (by decide) rfl rfl h (fun r2 h => ?_)
    refine g_goto C dX4_errorsLeft_15 (pc' := 19) rfl ?_
    exact g_iret C dX4_errorsLeft_19 D ⟨rfl, h⟩
theorem hd_X4_errorsLeft : yX4_errorsLeft.cls ≠ "java/lang/invoke/MethodHandle" ∧ yX4_errorsLeft.cls ≠ "java/lang/invoke/VarHandle" ∧ (parseMethodDescriptor yX4_errorsLeft.desc).map (fun d => d.parameters.length) = some 1 := by decide +kernel

theorem dX4_worst_0 : decode cX4_worst 0 = .ok (.aload_n 0, 1) := by decide +kernel
theorem dX4_worst_1 : decode cX4_worst 1 = .ok (.getfield 12, 3) := by decide +kernel
theorem dX4_worst_4 : decode cX4_worst 4 = .ok (.invokevirtual 159, 3) := by decide +kernel
theorem dX4_worst_7 : decode cX4_worst 7 = .ok (.ireturn, 1) := by decide +kernel
def wp_X4_worst (σ : Mem) (P : Int32 → Prop) : Prop :=
  wp_X1_cellWithMostErrors σ  (fun r1 =>
    P r1)
set_option maxRecDepth 100000 in
set_option maxHeartbeats 4000000 in
theorem c_X4_worst (V : EV) (σ : Mem) (P : Int32 → Prop) (l : Launch) : Met l yX4_worst (.code yX4_worst cX4_worst 1 (some .int) :: AW) { frames := 1, cells := 0, slots := 0, locals := 23 } (va_Pc [.ref (ad V 84)] (fun U => wP V σ U ∧ wp_X4_worst σ P)) (va_Qi (fun r τ => τ = σ ∧ P r) (wB V) (AA V)) 0 0 (AA V) := by
  refine met_i V σ (own := RX4) (by decide +kernel) rfl (fun v hv => by simp at hv; subst hv; rfl) (Nat.le_of_ble_eq_true rfl) (fun X C D h => ?_) l
  show GG V X σ 0 [some (.ref (ad V 84))] []
  refine g_aload_n C dX4_worst_0 rfl rfl rfl ?_
  refine f_X4_12 C dX4_worst_1 rfl ?_
  refine k_X4_159 C dX4_worst_4 (Nat.le_of_ble_eq_true rfl) (by decide) rfl rfl h (fun r1 h => ?_)
  exact g_iret C dX4_worst_7 D ⟨rfl, h⟩
theorem hd_X4_worst : yX4_worst.cls ≠ "java/lang/invoke/MethodHandle" ∧ yX4_worst.cls ≠ "java/lang/invoke/VarHandle" ∧ (parseMethodDescriptor yX4_worst.desc).map (fun d => d.parameters.length) = some 0 := by decide +kernel

theorem dX4_ifStarted_0 : decode cX4_ifStarted 0 = .ok (.aload_n 0, 1) := by decide +kernel
theorem dX4_ifStarted_1 : decode cX4_ifStarted 1 = .ok (.getfield 12, 3) := by decide +kernel
theorem dX4_ifStarted_4 : decode cX4_ifStarted 4 = .ok (.invokevirtual 162, 3) := by decide +kernel
theorem dX4_ifStarted_7 : decode cX4_ifStarted 7 = .ok (.ireturn, 1) := by decide +kernel
def wp_X4_ifStarted (σ : Mem) (P : Int32 → Prop) : Prop :=
  wp_X1_freeBehindStart σ  (fun r1 =>
    P r1)
set_option maxRecDepth 100000 in
set_option maxHeartbeats 4000000 in
theorem c_X4_ifStarted (V : EV) (σ : Mem) (P : Int32 → Prop) (l : Launch) : Met l yX4_ifStarted (.code yX4_ifStarted cX4_ifStarted 1 (some .int) :: AW) { frames := 1, cells := 0, slots := 0, locals := 20 } (va_Pc [.ref (ad V 84)] (fun U => wP V σ U ∧ wp_X4_ifStarted σ P)) (va_Qi (fun r τ => τ = σ ∧ P r) (wB V) (AA V)) 0 0 (AA V) := by
  refine met_i V σ (own := RX4) (by decide +kernel) rfl (fun v hv => by simp at hv; subst hv; rfl) (Nat.le_of_ble_eq_true rfl) (fun X C D h => ?_) l
  show GG V X σ 0 [some (.ref (ad V 84))] []
  refine g_aload_n C dX4_ifStarted_0 rfl rfl rfl ?_
  refine f_X4_12 C dX4_ifStarted_1 rfl ?_
  refine k_X4_162 C dX4_ifStarted_4 (Nat.le_of_ble_eq_true rfl) (by decide) rfl rfl h (fun r1 h => ?_)
  exact g_iret C dX4_ifStarted_7 D ⟨rfl, h⟩
theorem hd_X4_ifStarted : yX4_ifStarted.cls ≠ "java/lang/invoke/MethodHandle" ∧ yX4_ifStarted.cls ≠ "java/lang/invoke/VarHandle" ∧ (parseMethodDescriptor yX4_ifStarted.desc).map (fun d => d.parameters.length) = some 0 := by decide +kernel

theorem dX4_count_0 : decode cX4_count 0 = .ok (.iload_n 1, 1) := by decide +kernel
theorem dX4_count_1 : decode cX4_count 1 = .ok (.lookupswitch 43 #[(16, 27), (17, 35)], 27) := by decide +kernel
theorem dX4_count_28 : decode cX4_count 28 = .ok (.aload_n 0, 1) := by decide +kernel
theorem dX4_count_29 : decode cX4_count 29 = .ok (.getfield 29, 3) := by decide +kernel
theorem dX4_count_32 : decode cX4_count 32 = .ok (.invokevirtual 165, 3) := by decide +kernel
theorem dX4_count_35 : decode cX4_count 35 = .ok (.ireturn, 1) := by decide +kernel
theorem dX4_count_36 : decode cX4_count 36 = .ok (.aload_n 0, 1) := by decide +kernel
theorem dX4_count_37 : decode cX4_count 37 = .ok (.getfield 36, 3) := by decide +kernel
theorem dX4_count_40 : decode cX4_count 40 = .ok (.invokevirtual 166, 3) := by decide +kernel
theorem dX4_count_43 : decode cX4_count 43 = .ok (.ireturn, 1) := by decide +kernel
theorem dX4_count_44 : decode cX4_count 44 = .ok (.aload_n 0, 1) := by decide +kernel
theorem dX4_count_45 : decode cX4_count 45 = .ok (.getfield 12, 3) := by decide +kernel
theorem dX4_count_48 : decode cX4_count 48 = .ok (.iload_n 1, 1) := by decide +kernel
theorem dX4_count_49 : decode cX4_count 49 = .ok (.invokevirtual 169, 3) := by decide +kernel
theorem dX4_count_52 : decode cX4_count 52 = .ok (.ireturn, 1) := by decide +kernel
def wp_X4_count (σ : Mem) (y1 : Int32) (P : Int32 → Prop) : Prop :=
  ((y1 = 16 →
    wp_X0_size σ  (fun r1 =>
      P r1)) ∧
    (¬ y1 = 16 →
    ((y1 = 17 →
    wp_X3_length σ  (fun r2 =>
      P r2)) ∧
    (¬ y1 = 17 →
    wp_X1_tellCount σ y1 (fun r3 =>
      P r3)))))
set_option maxRecDepth 100000 in
set_option maxHeartbeats 4000000 in
theorem c_X4_count (V : EV) (σ : Mem) (y1 : Int32) (P : Int32 → Prop) (l : Launch) : Met l yX4_count (.code yX4_count cX4_count 2 (some .int) :: AW) { frames := 4, cells := 0, slots := 0, locals := 87 } (va_Pc [.ref (ad V 84), .int y1] (fun U => wP V σ U ∧ wp_X4_count σ y1 P)) (va_Qi (fun r τ => τ = σ ∧ P r) (wB V) (AA V)) 0 0 (AA V) := by
  refine met_i V σ (own := RX4) (by decide +kernel) rfl (fun v hv => by simp at hv; rcases hv with rfl | rfl <;> rfl) (Nat.le_of_ble_eq_true rfl) (fun X C D h => ?_) l
  show GG V X σ 0 [some (.ref (ad V 84)), some (.int y1)] []
  refine g_iload_n C dX4_count_0 rfl rfl rfl ?_
  by_cases q16 : y1 = 16
  · have h := h.1 q16
    refine g_lookK C dX4_count_1 q16 (by decide) (off := 27) (by rfl) (pc' := 28) rfl ?_
    refine g_aload_n C dX4_count_28 rfl rfl rfl ?_
    refine f_X4_29 C dX4_count_29 rfl ?_
    refine k_X4_165 C dX4_count_32 (Nat.le_of_ble_eq_true rfl) (by decide) rfl rfl h (fun r1 h => ?_)
    exact g_iret C dX4_count_35 D ⟨rfl, h⟩
  have h := h.2 q16
  by_cases q17 : y1 = 17
  · have h := h.1 q17
    refine g_lookK C dX4_count_1 q17 (by decide) (off := 35) (by rfl) (pc' := 36) rfl ?_
    refine g_aload_n C dX4_count_36 rfl rfl rfl ?_
    refine f_X4_36 C dX4_count_37 rfl ?_
    refine k_X4_166 C dX4_count_40 (Nat.le_of_ble_eq_true rfl) (by decide) rfl rfl h (fun r2 h => ?_)
    exact g_iret C dX4_count_43 D ⟨rfl, h⟩
  have h := h.2 q17
  refine g_look C dX4_count_1 (by decide) (off := 43) ((lv_osw q16 (by decide)).trans ((lv_osw q17 (by decide)).trans rfl)) (pc' := 44) rfl ?_
  refine g_aload_n C dX4_count_44 rfl rfl rfl ?_
  refine f_X4_12 C dX4_count_45 rfl ?_
  refine g_iload_n C dX4_count_48 rfl rfl rfl ?_
  refine k_X4_169 C dX4_count_49 (Nat.le_of_ble_eq_true rfl) (by decide) rfl rfl h (fun r3 h => ?_)
  exact g_iret C dX4_count_52 D ⟨rfl, h⟩
theorem hd_X4_count : yX4_count.cls ≠ "java/lang/invoke/MethodHandle" ∧ yX4_count.cls ≠ "java/lang/invoke/VarHandle" ∧ (parseMethodDescriptor yX4_count.desc).map (fun d => d.parameters.length) = some 1 := by decide +kernel

theorem dX5_in_0 : decode cX5_in 0 = .ok (.iload_n 0, 1) := by decide +kernel
theorem dX5_in_1 : decode cX5_in 1 = .ok (.iload_n 1, 1) := by decide +kernel
theorem dX5_in_2 : decode cX5_in 2 = .ok (.if_icmp .lt 12, 3) := by decide +kernel
theorem dX5_in_5 : decode cX5_in 5 = .ok (.iload_n 0, 1) := by decide +kernel
theorem dX5_in_6 : decode cX5_in 6 = .ok (.iload_n 2, 1) := by decide +kernel
theorem dX5_in_7 : decode cX5_in 7 = .ok (.if_icmp .gt 7, 3) := by decide +kernel
theorem dX5_in_10 : decode cX5_in 10 = .ok (.iconst 1, 1) := by decide +kernel
theorem dX5_in_11 : decode cX5_in 11 = .ok (.goto 4, 3) := by decide +kernel
theorem dX5_in_14 : decode cX5_in 14 = .ok (.iconst 0, 1) := by decide +kernel
theorem dX5_in_15 : decode cX5_in 15 = .ok (.ireturn, 1) := by decide +kernel
def wp_X5_in (σ : Mem) (y1 : Int32) (y2 : Int32) (y3 : Int32) (P : Int32 → Prop) : Prop :=
  ((y1 < y2 →
    P 0) ∧
    (¬ y1 < y2 →
    ((y3 < y1 →
      P 0) ∧
      (¬ y3 < y1 →
      P 1))))
set_option maxRecDepth 100000 in
set_option maxHeartbeats 4000000 in
theorem c_X5_in (V : EV) (σ : Mem) (y1 : Int32) (y2 : Int32) (y3 : Int32) (P : Int32 → Prop) (l : Launch) : Met l yX5_in (.code yX5_in cX5_in 3 (some .boolean) :: AW) { frames := 0, cells := 0, slots := 0, locals := 0 } (va_Pc [.int y1, .int y2, .int y3] (fun U => wP V σ U ∧ wp_X5_in σ y1 y2 y3 P)) (va_Qi (fun r τ => τ = σ ∧ P r) (wB V) (AA V)) 0 0 (AA V) := by
  refine met_i V σ (own := RX5) (by decide +kernel) rfl (fun v hv => by simp at hv; rcases hv with rfl | rfl | rfl <;> rfl) (Nat.le_of_ble_eq_true rfl) (fun X C D h => ?_) l
  show GG V X σ 0 [some (.int y1), some (.int y2), some (.int y3)] []
  refine g_iload_n C dX5_in_0 rfl rfl rfl ?_
  refine g_iload_n C dX5_in_1 rfl rfl rfl ?_
  refine g_icmp_lt C dX5_in_2 (tgt := 14) rfl rfl (fun q => ?_) (fun q => ?_)
  · have h := h.1 q
    refine g_iconst C dX5_in_14 ic_0 rfl ?_
    exact g_zret C dX5_in_15 D (by decide) ⟨rfl, h⟩
  · have h := h.2 q
    refine g_iload_n C dX5_in_5 rfl rfl rfl ?_
    refine g_iload_n C dX5_in_6 rfl rfl rfl ?_
    refine g_icmp_gt C dX5_in_7 (tgt := 14) rfl rfl (fun q => ?_) (fun q => ?_)
    · have h := h.1 q
      refine g_iconst C dX5_in_14 ic_0 rfl ?_
      exact g_zret C dX5_in_15 D (by decide) ⟨rfl, h⟩
    · have h := h.2 q
      refine g_iconst C dX5_in_10 ic_1 rfl ?_
      refine g_goto C dX5_in_11 (pc' := 15) rfl ?_
      exact g_zret C dX5_in_15 D (by decide) ⟨rfl, h⟩
theorem hd_X5_in : yX5_in.cls ≠ "java/lang/invoke/MethodHandle" ∧ yX5_in.cls ≠ "java/lang/invoke/VarHandle" ∧ (parseMethodDescriptor yX5_in.desc).map (fun d => d.parameters.length) = some 3 := by decide +kernel
theorem k_X5_36 {V : EV} {X : CX} {cc : ByteArray} {nL : Nat} {R : Room} {y1 : Int32} {y2 : Int32} {y3 : Int32} (C : OK V X RX5 cc nL R) {σ : Mem} {pc pc' : Nat} {L : List (Option Value)} {st : List Value} {P : Int32 → Prop} (d : decode cc pc = .ok (.invokestatic 36, 3)) (hst : (st.map fun v => v.category).sum ≤ 8) (hr : 0 + 1 ≤ R.frames ∧ 8 + (3 + 11) + 0 ≤ R.locals) (hL : L.length = nL) (hp : pc + 3 = pc') (h : wp_X5_in σ y1 y2 y3 P) (k : ∀ r, P r → GG V X σ pc' L (.int r :: st)) : GG V X σ pc L (.int y3 :: .int y2 :: .int y1 :: st) :=
  g_callSi C (av := [.int y1, .int y2, .int y3]) (fun l => c_X5_in V σ y1 y2 y3 P l) ml_RX5_36 st_X5_in ini_RX5 co_X5_in ⟨rfl, hd_X5_in⟩ rfl ⟨rfl, rfl⟩ hr hst d hL hp h (fun r τ hq => by obtain ⟨rfl, hq⟩ := hq; exact k r hq)

theorem dX5_of_0 : decode cX5_of 0 = .ok (.aload_n 0, 1) := by decide +kernel
theorem dX5_of_1 : decode cX5_of 1 = .ok (.getfield 7, 3) := by decide +kernel
theorem dX5_of_4 : decode cX5_of 4 = .ok (.bipush 103, 2) := by decide +kernel
theorem dX5_of_6 : decode cX5_of 6 = .ok (.iconst 4, 1) := by decide +kernel
theorem dX5_of_7 : decode cX5_of 7 = .ok (.iload_n 1, 1) := by decide +kernel
theorem dX5_of_8 : decode cX5_of 8 = .ok (.imul, 1) := by decide +kernel
theorem dX5_of_9 : decode cX5_of 9 = .ok (.iadd, 1) := by decide +kernel
theorem dX5_of_10 : decode cX5_of 10 = .ok (.iload_n 2, 1) := by decide +kernel
theorem dX5_of_11 : decode cX5_of 11 = .ok (.iadd, 1) := by decide +kernel
theorem dX5_of_12 : decode cX5_of 12 = .ok (.iaload, 1) := by decide +kernel
theorem dX5_of_13 : decode cX5_of 13 = .ok (.ireturn, 1) := by decide +kernel
def wp_X5_of (σ : Mem) (y1 : Int32) (y2 : Int32) (P : Int32 → Prop) : Prop :=
  vp_in ((103 + (4 * y1)) + y2) 313 ∧ P (σ 94 ((103 + (4 * y1)) + y2).toNatClampNeg)
set_option maxRecDepth 100000 in
set_option maxHeartbeats 4000000 in
theorem c_X5_of (V : EV) (σ : Mem) (y1 : Int32) (y2 : Int32) (P : Int32 → Prop) (l : Launch) : Met l yX5_of (.code yX5_of cX5_of 3 (some .int) :: AW) { frames := 0, cells := 0, slots := 0, locals := 0 } (va_Pc [.ref (ad V 93), .int y1, .int y2] (fun U => wP V σ U ∧ wp_X5_of σ y1 y2 P)) (va_Qi (fun r τ => τ = σ ∧ P r) (wB V) (AA V)) 0 0 (AA V) := by
  refine met_i V σ (own := RX5) (by decide +kernel) rfl (fun v hv => by simp at hv; rcases hv with rfl | rfl | rfl <;> rfl) (Nat.le_of_ble_eq_true rfl) (fun X C D h => ?_) l
  show GG V X σ 0 [some (.ref (ad V 93)), some (.int y1), some (.int y2)] []
  refine g_aload_n C dX5_of_0 rfl rfl rfl ?_
  refine f_X5_7 C dX5_of_1 rfl ?_
  refine g_bipush C dX5_of_4 bp_103 rfl ?_
  refine g_iconst C dX5_of_6 ic_4 rfl ?_
  refine g_iload_n C dX5_of_7 rfl rfl rfl ?_
  refine g_imul C dX5_of_8 rfl ?_
  refine g_iadd C dX5_of_9 rfl ?_
  refine g_iload_n C dX5_of_10 rfl rfl rfl ?_
  refine g_iadd C dX5_of_11 rfl ?_
  obtain ⟨hin, h⟩ := h
  refine g_ild C dX5_of_12 arr_94 hin rfl ?_
  exact g_iret C dX5_of_13 D ⟨rfl, h⟩
theorem hd_X5_of : yX5_of.cls ≠ "java/lang/invoke/MethodHandle" ∧ yX5_of.cls ≠ "java/lang/invoke/VarHandle" ∧ (parseMethodDescriptor yX5_of.desc).map (fun d => d.parameters.length) = some 2 := by decide +kernel
theorem k_X5_40 {V : EV} {X : CX} {cc : ByteArray} {nL : Nat} {R : Room} {y1 : Int32} {y2 : Int32} (C : OK V X RX5 cc nL R) {σ : Mem} {pc pc' : Nat} {L : List (Option Value)} {st : List Value} {P : Int32 → Prop} (d : decode cc pc = .ok (.invokevirtual 40, 3)) (hst : (st.map fun v => v.category).sum ≤ 8) (hr : 0 + 1 ≤ R.frames ∧ 8 + (3 + 11) + 0 ≤ R.locals) (hL : L.length = nL) (hp : pc + 3 = pc') (h : wp_X5_of σ y1 y2 P) (k : ∀ r, P r → GG V X σ pc' L (.int r :: st)) : GG V X σ pc L (.int y2 :: .int y1 :: .ref (ad V 93) :: st) :=
  g_callVi C (av := [.int y1, .int y2]) (fun l => c_X5_of V σ y1 y2 P l) (by decide) (en_93 V σ) (q := (RX5, TX5, 13)) rfl rfl ml_RX5_40 im_X5_of se_X5_of ini_RX5 co_X5_of hd_X5_of rfl ⟨rfl, rfl⟩ hr hst d hL hp h (fun r τ hq => by obtain ⟨rfl, hq⟩ := hq; exact k r hq)

theorem dX5_lay_0 : decode cX5_lay 0 = .ok (.aload_n 0, 1) := by decide +kernel
theorem dX5_lay_1 : decode cX5_lay 1 = .ok (.getfield 7, 3) := by decide +kernel
theorem dX5_lay_4 : decode cX5_lay 4 = .ok (.bipush 103, 2) := by decide +kernel
theorem dX5_lay_6 : decode cX5_lay 6 = .ok (.iconst 4, 1) := by decide +kernel
theorem dX5_lay_7 : decode cX5_lay 7 = .ok (.iload_n 1, 1) := by decide +kernel
theorem dX5_lay_8 : decode cX5_lay 8 = .ok (.imul, 1) := by decide +kernel
theorem dX5_lay_9 : decode cX5_lay 9 = .ok (.iadd, 1) := by decide +kernel
theorem dX5_lay_10 : decode cX5_lay 10 = .ok (.iload_n 2, 1) := by decide +kernel
theorem dX5_lay_11 : decode cX5_lay 11 = .ok (.iadd, 1) := by decide +kernel
theorem dX5_lay_12 : decode cX5_lay 12 = .ok (.iload_n 3, 1) := by decide +kernel
theorem dX5_lay_13 : decode cX5_lay 13 = .ok (.iastore, 1) := by decide +kernel
theorem dX5_lay_14 : decode cX5_lay 14 = .ok (.return_, 1) := by decide +kernel
def wp_X5_lay (σ : Mem) (y1 : Int32) (y2 : Int32) (y3 : Int32) (P : Mem → Prop) : Prop :=
  vp_in ((103 + (4 * y1)) + y2) 313 ∧ bm (up2 σ 94 ((103 + (4 * y1)) + y2).toNatClampNeg y3) (fun σ1 =>
    P σ1)
set_option maxRecDepth 100000 in
set_option maxHeartbeats 4000000 in
theorem c_X5_lay (V : EV) (σ : Mem) (y1 : Int32) (y2 : Int32) (y3 : Int32) (P : Mem → Prop) (l : Launch) : Met l yX5_lay (.code yX5_lay cX5_lay 4 (none) :: AW) { frames := 0, cells := 0, slots := 0, locals := 0 } (va_Pc [.ref (ad V 93), .int y1, .int y2, .int y3] (fun U => wP V σ U ∧ wp_X5_lay σ y1 y2 y3 P)) (va_Qv P (wB V) (AA V)) 0 0 (AA V) := by
  refine met_v V σ (own := RX5) (by decide +kernel) rfl (fun v hv => by simp at hv; rcases hv with rfl | rfl | rfl | rfl <;> rfl) (Nat.le_of_ble_eq_true rfl) (fun X C D h => ?_) l
  show GG V X σ 0 [some (.ref (ad V 93)), some (.int y1), some (.int y2), some (.int y3)] []
  refine g_aload_n C dX5_lay_0 rfl rfl rfl ?_
  refine f_X5_7 C dX5_lay_1 rfl ?_
  refine g_bipush C dX5_lay_4 bp_103 rfl ?_
  refine g_iconst C dX5_lay_6 ic_4 rfl ?_
  refine g_iload_n C dX5_lay_7 rfl rfl rfl ?_
  refine g_imul C dX5_lay_8 rfl ?_
  refine g_iadd C dX5_lay_9 rfl ?_
  refine g_iload_n C dX5_lay_10 rfl rfl rfl ?_
  refine g_iadd C dX5_lay_11 rfl ?_
  refine g_iload_n C dX5_lay_12 rfl rfl rfl ?_
  obtain ⟨hin, h⟩ := h
  refine g_ist C dX5_lay_13 arr_94 hin rfl h (fun σ1 h => ?_)
  exact g_vret C dX5_lay_14 D h
theorem hd_X5_lay : yX5_lay.cls ≠ "java/lang/invoke/MethodHandle" ∧ yX5_lay.cls ≠ "java/lang/invoke/VarHandle" ∧ (parseMethodDescriptor yX5_lay.desc).map (fun d => d.parameters.length) = some 3 := by decide +kernel
theorem k_X5_32 {V : EV} {X : CX} {cc : ByteArray} {nL : Nat} {R : Room} {y1 : Int32} {y2 : Int32} {y3 : Int32} (C : OK V X RX5 cc nL R) {σ : Mem} {pc pc' : Nat} {L : List (Option Value)} {st : List Value} {P : Mem → Prop} (d : decode cc pc = .ok (.invokevirtual 32, 3)) (hst : (st.map fun v => v.category).sum ≤ 8) (hr : 0 + 1 ≤ R.frames ∧ 8 + (4 + 11) + 0 ≤ R.locals) (hL : L.length = nL) (hp : pc + 3 = pc') (h : wp_X5_lay σ y1 y2 y3 P) (k : ∀ τ, P τ → GG V X τ pc' L st) : GG V X σ pc L (.int y3 :: .int y2 :: .int y1 :: .ref (ad V 93) :: st) :=
  g_callVv C (av := [.int y1, .int y2, .int y3]) (fun l => c_X5_lay V σ y1 y2 y3 P l) (by decide) (en_93 V σ) (q := (RX5, TX5, 13)) rfl rfl ml_RX5_32 im_X5_lay se_X5_lay ini_RX5 co_X5_lay hd_X5_lay rfl ⟨rfl, rfl⟩ hr hst d hL hp h k

theorem dX5_empty_0 : decode cX5_empty 0 = .ok (.aload_n 0, 1) := by decide +kernel
theorem dX5_empty_1 : decode cX5_empty 1 = .ok (.iload_n 1, 1) := by decide +kernel
theorem dX5_empty_2 : decode cX5_empty 2 = .ok (.iconst 0, 1) := by decide +kernel
theorem dX5_empty_3 : decode cX5_empty 3 = .ok (.bipush (-5), 2) := by decide +kernel
theorem dX5_empty_5 : decode cX5_empty 5 = .ok (.invokevirtual 32, 3) := by decide +kernel
theorem dX5_empty_8 : decode cX5_empty 8 = .ok (.aload_n 0, 1) := by decide +kernel
theorem dX5_empty_9 : decode cX5_empty 9 = .ok (.iload_n 1, 1) := by decide +kernel
theorem dX5_empty_10 : decode cX5_empty 10 = .ok (.iconst 1, 1) := by decide +kernel
theorem dX5_empty_11 : decode cX5_empty 11 = .ok (.bipush (-5), 2) := by decide +kernel
theorem dX5_empty_13 : decode cX5_empty 13 = .ok (.invokevirtual 32, 3) := by decide +kernel
theorem dX5_empty_16 : decode cX5_empty 16 = .ok (.aload_n 0, 1) := by decide +kernel
theorem dX5_empty_17 : decode cX5_empty 17 = .ok (.iload_n 1, 1) := by decide +kernel
theorem dX5_empty_18 : decode cX5_empty 18 = .ok (.iconst 2, 1) := by decide +kernel
theorem dX5_empty_19 : decode cX5_empty 19 = .ok (.iconst 0, 1) := by decide +kernel
theorem dX5_empty_20 : decode cX5_empty 20 = .ok (.invokevirtual 32, 3) := by decide +kernel
theorem dX5_empty_23 : decode cX5_empty 23 = .ok (.aload_n 0, 1) := by decide +kernel
theorem dX5_empty_24 : decode cX5_empty 24 = .ok (.iload_n 1, 1) := by decide +kernel
theorem dX5_empty_25 : decode cX5_empty 25 = .ok (.iconst 3, 1) := by decide +kernel
theorem dX5_empty_26 : decode cX5_empty 26 = .ok (.iconst 0, 1) := by decide +kernel
theorem dX5_empty_27 : decode cX5_empty 27 = .ok (.invokevirtual 32, 3) := by decide +kernel
theorem dX5_empty_30 : decode cX5_empty 30 = .ok (.return_, 1) := by decide +kernel
def wp_X5_empty (σ : Mem) (y1 : Int32) (P : Mem → Prop) : Prop :=
  wp_X5_lay σ y1 0 (-5) (fun σ1 =>
    wp_X5_lay σ1 y1 1 (-5) (fun σ2 =>
    wp_X5_lay σ2 y1 2 0 (fun σ3 =>
    wp_X5_lay σ3 y1 3 0 (fun σ4 =>
    P σ4))))
set_option maxRecDepth 100000 in
set_option maxHeartbeats 4000000 in
theorem c_X5_empty (V : EV) (σ : Mem) (y1 : Int32) (P : Mem → Prop) (l : Launch) : Met l yX5_empty (.code yX5_empty cX5_empty 2 (none) :: AW) { frames := 1, cells := 0, slots := 0, locals := 23 } (va_Pc [.ref (ad V 93), .int y1] (fun U => wP V σ U ∧ wp_X5_empty σ y1 P)) (va_Qv P (wB V) (AA V)) 0 0 (AA V) := by
  refine met_v V σ (own := RX5) (by decide +kernel) rfl (fun v hv => by simp at hv; rcases hv with rfl | rfl <;> rfl) (Nat.le_of_ble_eq_true rfl) (fun X C D h => ?_) l
  show GG V X σ 0 [some (.ref (ad V 93)), some (.int y1)] []
  refine g_aload_n C dX5_empty_0 rfl rfl rfl ?_
  refine g_iload_n C dX5_empty_1 rfl rfl rfl ?_
  refine g_iconst C dX5_empty_2 ic_0 rfl ?_
  refine g_bipush C dX5_empty_3 bp_m5 rfl ?_
  refine k_X5_32 C dX5_empty_5 (Nat.le_of_ble_eq_true rfl) (by decide) rfl rfl h (fun σ1 h => ?_)
  refine g_aload_n C dX5_empty_8 rfl rfl rfl ?_
  refine g_iload_n C dX5_empty_9 rfl rfl rfl ?_
  refine g_iconst C dX5_empty_10 ic_1 rfl ?_
  refine g_bipush C dX5_empty_11 bp_m5 rfl ?_
  refine k_X5_32 C dX5_empty_13 (Nat.le_of_ble_eq_true rfl) (by decide) rfl rfl h (fun σ2 h => ?_)
  refine g_aload_n C dX5_empty_16 rfl rfl rfl ?_
  refine g_iload_n C dX5_empty_17 rfl rfl rfl ?_
  refine g_iconst C dX5_empty_18 ic_2 rfl ?_
  refine g_iconst C dX5_empty_19 ic_0 rfl ?_
  refine k_X5_32 C dX5_empty_20 (Nat.le_of_ble_eq_true rfl) (by decide) rfl rfl h (fun σ3 h => ?_)
  refine g_aload_n C dX5_empty_23 rfl rfl rfl ?_
  refine g_iload_n C dX5_empty_24 rfl rfl rfl ?_
  refine g_iconst C dX5_empty_25 ic_3 rfl ?_
  refine g_iconst C dX5_empty_26 ic_0 rfl ?_
  refine k_X5_32 C dX5_empty_27 (Nat.le_of_ble_eq_true rfl) (by decide) rfl rfl h (fun σ4 h => ?_)
  exact g_vret C dX5_empty_30 D h
theorem hd_X5_empty : yX5_empty.cls ≠ "java/lang/invoke/MethodHandle" ∧ yX5_empty.cls ≠ "java/lang/invoke/VarHandle" ∧ (parseMethodDescriptor yX5_empty.desc).map (fun d => d.parameters.length) = some 1 := by decide +kernel
theorem k_X5_28 {V : EV} {X : CX} {cc : ByteArray} {nL : Nat} {R : Room} {y1 : Int32} (C : OK V X RX5 cc nL R) {σ : Mem} {pc pc' : Nat} {L : List (Option Value)} {st : List Value} {P : Mem → Prop} (d : decode cc pc = .ok (.invokevirtual 28, 3)) (hst : (st.map fun v => v.category).sum ≤ 8) (hr : 1 + 1 ≤ R.frames ∧ 8 + (2 + 11) + 23 ≤ R.locals) (hL : L.length = nL) (hp : pc + 3 = pc') (h : wp_X5_empty σ y1 P) (k : ∀ τ, P τ → GG V X τ pc' L st) : GG V X σ pc L (.int y1 :: .ref (ad V 93) :: st) :=
  g_callVv C (av := [.int y1]) (fun l => c_X5_empty V σ y1 P l) (by decide) (en_93 V σ) (q := (RX5, TX5, 13)) rfl rfl ml_RX5_28 im_X5_empty se_X5_empty ini_RX5 co_X5_empty hd_X5_empty rfl ⟨rfl, rfl⟩ hr hst d hL hp h k

theorem dX5_isCell_0 : decode cX5_isCell 0 = .ok (.iload_n 0, 1) := by decide +kernel
theorem dX5_isCell_1 : decode cX5_isCell 1 = .ok (.iconst 0, 1) := by decide +kernel
theorem dX5_isCell_2 : decode cX5_isCell 2 = .ok (.bipush 39, 2) := by decide +kernel
theorem dX5_isCell_4 : decode cX5_isCell 4 = .ok (.invokestatic 36, 3) := by decide +kernel
theorem dX5_isCell_7 : decode cX5_isCell 7 = .ok (.ireturn, 1) := by decide +kernel
def wp_X5_isCell (σ : Mem) (y1 : Int32) (P : Int32 → Prop) : Prop :=
  wp_X5_in σ y1 0 39 (fun r1 =>
    isZ r1 ∧ P r1)
set_option maxRecDepth 100000 in
set_option maxHeartbeats 4000000 in
theorem c_X5_isCell (V : EV) (σ : Mem) (y1 : Int32) (P : Int32 → Prop) (l : Launch) : Met l yX5_isCell (.code yX5_isCell cX5_isCell 1 (some .boolean) :: AW) { frames := 1, cells := 0, slots := 0, locals := 22 } (va_Pc [.int y1] (fun U => wP V σ U ∧ wp_X5_isCell σ y1 P)) (va_Qi (fun r τ => τ = σ ∧ P r) (wB V) (AA V)) 0 0 (AA V) := by
  refine met_i V σ (own := RX5) (by decide +kernel) rfl (fun v hv => by simp at hv; subst hv; rfl) (Nat.le_of_ble_eq_true rfl) (fun X C D h => ?_) l
  show GG V X σ 0 [some (.int y1)] []
  refine g_iload_n C dX5_isCell_0 rfl rfl rfl ?_
  refine g_iconst C dX5_isCell_1 ic_0 rfl ?_
  refine g_bipush C dX5_isCell_2 bp_39 rfl ?_
  refine k_X5_36 C dX5_isCell_4 (Nat.le_of_ble_eq_true rfl) (by decide) rfl rfl h (fun r1 h => ?_)
  obtain ⟨hz, h⟩ := h
  exact g_zret C dX5_isCell_7 D hz ⟨rfl, h⟩
theorem hd_X5_isCell : yX5_isCell.cls ≠ "java/lang/invoke/MethodHandle" ∧ yX5_isCell.cls ≠ "java/lang/invoke/VarHandle" ∧ (parseMethodDescriptor yX5_isCell.desc).map (fun d => d.parameters.length) = some 1 := by decide +kernel
theorem k_X5_107 {V : EV} {X : CX} {cc : ByteArray} {nL : Nat} {R : Room} {y1 : Int32} (C : OK V X RX5 cc nL R) {σ : Mem} {pc pc' : Nat} {L : List (Option Value)} {st : List Value} {P : Int32 → Prop} (d : decode cc pc = .ok (.invokestatic 107, 3)) (hst : (st.map fun v => v.category).sum ≤ 8) (hr : 1 + 1 ≤ R.frames ∧ 8 + (1 + 11) + 22 ≤ R.locals) (hL : L.length = nL) (hp : pc + 3 = pc') (h : wp_X5_isCell σ y1 P) (k : ∀ r, P r → GG V X σ pc' L (.int r :: st)) : GG V X σ pc L (.int y1 :: st) :=
  g_callSi C (av := [.int y1]) (fun l => c_X5_isCell V σ y1 P l) ml_RX5_107 st_X5_isCell ini_RX5 co_X5_isCell ⟨rfl, hd_X5_isCell⟩ rfl ⟨rfl, rfl⟩ hr hst d hL hp h (fun r τ hq => by obtain ⟨rfl, hq⟩ := hq; exact k r hq)

theorem dX5_isPage_0 : decode cX5_isPage 0 = .ok (.iload_n 0, 1) := by decide +kernel
theorem dX5_isPage_1 : decode cX5_isPage 1 = .ok (.iconst 0, 1) := by decide +kernel
theorem dX5_isPage_2 : decode cX5_isPage 2 = .ok (.iconst 4, 1) := by decide +kernel
theorem dX5_isPage_3 : decode cX5_isPage 3 = .ok (.invokestatic 36, 3) := by decide +kernel
theorem dX5_isPage_6 : decode cX5_isPage 6 = .ok (.ifCond .eq 17, 3) := by decide +kernel
theorem dX5_isPage_9 : decode cX5_isPage 9 = .ok (.iload_n 1, 1) := by decide +kernel
theorem dX5_isPage_10 : decode cX5_isPage 10 = .ok (.iconst 0, 1) := by decide +kernel
theorem dX5_isPage_11 : decode cX5_isPage 11 = .ok (.bipush 9, 2) := by decide +kernel
theorem dX5_isPage_13 : decode cX5_isPage 13 = .ok (.invokestatic 36, 3) := by decide +kernel
theorem dX5_isPage_16 : decode cX5_isPage 16 = .ok (.ifCond .eq 7, 3) := by decide +kernel
theorem dX5_isPage_19 : decode cX5_isPage 19 = .ok (.iconst 1, 1) := by decide +kernel
theorem dX5_isPage_20 : decode cX5_isPage 20 = .ok (.goto 4, 3) := by decide +kernel
theorem dX5_isPage_23 : decode cX5_isPage 23 = .ok (.iconst 0, 1) := by decide +kernel
theorem dX5_isPage_24 : decode cX5_isPage 24 = .ok (.ireturn, 1) := by decide +kernel
def wp_X5_isPage (σ : Mem) (y1 : Int32) (y2 : Int32) (P : Int32 → Prop) : Prop :=
  wp_X5_in σ y1 0 4 (fun r1 =>
    ((r1 = 0 →
    P 0) ∧
    (¬ r1 = 0 →
    wp_X5_in σ y2 0 9 (fun r2 =>
      ((r2 = 0 →
      P 0) ∧
      (¬ r2 = 0 →
      P 1))))))
set_option maxRecDepth 100000 in
set_option maxHeartbeats 4000000 in
theorem c_X5_isPage (V : EV) (σ : Mem) (y1 : Int32) (y2 : Int32) (P : Int32 → Prop) (l : Launch) : Met l yX5_isPage (.code yX5_isPage cX5_isPage 2 (some .boolean) :: AW) { frames := 1, cells := 0, slots := 0, locals := 22 } (va_Pc [.int y1, .int y2] (fun U => wP V σ U ∧ wp_X5_isPage σ y1 y2 P)) (va_Qi (fun r τ => τ = σ ∧ P r) (wB V) (AA V)) 0 0 (AA V) := by
  refine met_i V σ (own := RX5) (by decide +kernel) rfl (fun v hv => by simp at hv; rcases hv with rfl | rfl <;> rfl) (Nat.le_of_ble_eq_true rfl) (fun X C D h => ?_) l
  show GG V X σ 0 [some (.int y1), some (.int y2)] []
  refine g_iload_n C dX5_isPage_0 rfl rfl rfl ?_
  refine g_iconst C dX5_isPage_1 ic_0 rfl ?_
  refine g_iconst C dX5_isPage_2 ic_4 rfl ?_
  refine k_X5_36 C dX5_isPage_3 (Nat.le_of_ble_eq_true rfl) (by decide) rfl rfl h (fun r1 h => ?_)
  refine g_if_eq C dX5_isPage_6 (tgt := 23) rfl rfl (fun q => ?_) (fun q => ?_)
  · have h := h.1 q
    refine g_iconst C dX5_isPage_23 ic_0 rfl ?_
    exact g_zret C dX5_isPage_24 D (by decide) ⟨rfl, h⟩
  · have h := h.2 q
    refine g_iload_n C dX5_isPage_9 rfl rfl rfl ?_
    refine g_iconst C dX5_isPage_10 ic_0 rfl ?_
    refine g_bipush C dX5_isPage_11 bp_9 rfl ?_
    refine k_X5_36 C dX5_isPage_13 (Nat.le_of_ble_eq_true rfl) (by decide) rfl rfl h (fun r2 h => ?_)
    refine g_if_eq C dX5_isPage_16 (tgt := 23) rfl rfl (fun q => ?_) (fun q => ?_)
    · have h := h.1 q
      refine g_iconst C dX5_isPage_23 ic_0 rfl ?_
      exact g_zret C dX5_isPage_24 D (by decide) ⟨rfl, h⟩
    · have h := h.2 q
      refine g_iconst C dX5_isPage_19 ic_1 rfl ?_
      refine g_goto C dX5_isPage_20 (pc' := 24) rfl ?_
      exact g_zret C dX5_isPage_24 D (by decide) ⟨rfl, h⟩
theorem hd_X5_isPage : yX5_isPage.cls ≠ "java/lang/invoke/MethodHandle" ∧ yX5_isPage.cls ≠ "java/lang/invoke/VarHandle" ∧ (parseMethodDescriptor yX5_isPage.desc).map (fun d => d.parameters.length) = some 2 := by decide +kernel
theorem k_X5_88 {V : EV} {X : CX} {cc : ByteArray} {nL : Nat} {R : Room} {y1 : Int32} {y2 : Int32} (C : OK V X RX5 cc nL R) {σ : Mem} {pc pc' : Nat} {L : List (Option Value)} {st : List Value} {P : Int32 → Prop} (d : decode cc pc = .ok (.invokestatic 88, 3)) (hst : (st.map fun v => v.category).sum ≤ 8) (hr : 1 + 1 ≤ R.frames ∧ 8 + (2 + 11) + 22 ≤ R.locals) (hL : L.length = nL) (hp : pc + 3 = pc') (h : wp_X5_isPage σ y1 y2 P) (k : ∀ r, P r → GG V X σ pc' L (.int r :: st)) : GG V X σ pc L (.int y2 :: .int y1 :: st) :=
  g_callSi C (av := [.int y1, .int y2]) (fun l => c_X5_isPage V σ y1 y2 P l) ml_RX5_88 st_X5_isPage ini_RX5 co_X5_isPage ⟨rfl, hd_X5_isPage⟩ rfl ⟨rfl, rfl⟩ hr hst d hL hp h (fun r τ hq => by obtain ⟨rfl, hq⟩ := hq; exact k r hq)

theorem dX5_pageIn_0 : decode cX5_pageIn 0 = .ok (.bipush (-5), 2) := by decide +kernel
theorem dX5_pageIn_2 : decode cX5_pageIn 2 = .ok (.istore_n 2, 1) := by decide +kernel
theorem dX5_pageIn_3 : decode cX5_pageIn 3 = .ok (.iconst 0, 1) := by decide +kernel
theorem dX5_pageIn_4 : decode cX5_pageIn 4 = .ok (.istore_n 3, 1) := by decide +kernel
theorem dX5_pageIn_5 : decode cX5_pageIn 5 = .ok (.iload_n 3, 1) := by decide +kernel
theorem dX5_pageIn_6 : decode cX5_pageIn 6 = .ok (.bipush 50, 2) := by decide +kernel
theorem dX5_pageIn_8 : decode cX5_pageIn 8 = .ok (.if_icmp .ge 25, 3) := by decide +kernel
theorem dX5_pageIn_11 : decode cX5_pageIn 11 = .ok (.aload_n 0, 1) := by decide +kernel
theorem dX5_pageIn_12 : decode cX5_pageIn 12 = .ok (.iload_n 3, 1) := by decide +kernel
theorem dX5_pageIn_13 : decode cX5_pageIn 13 = .ok (.iconst 0, 1) := by decide +kernel
theorem dX5_pageIn_14 : decode cX5_pageIn 14 = .ok (.invokevirtual 40, 3) := by decide +kernel
theorem dX5_pageIn_17 : decode cX5_pageIn 17 = .ok (.iload_n 1, 1) := by decide +kernel
theorem dX5_pageIn_18 : decode cX5_pageIn 18 = .ok (.if_icmp .ne 7, 3) := by decide +kernel
theorem dX5_pageIn_21 : decode cX5_pageIn 21 = .ok (.iload_n 3, 1) := by decide +kernel
theorem dX5_pageIn_22 : decode cX5_pageIn 22 = .ok (.goto 4, 3) := by decide +kernel
theorem dX5_pageIn_25 : decode cX5_pageIn 25 = .ok (.iload_n 2, 1) := by decide +kernel
theorem dX5_pageIn_26 : decode cX5_pageIn 26 = .ok (.istore_n 2, 1) := by decide +kernel
theorem dX5_pageIn_27 : decode cX5_pageIn 27 = .ok (.iinc 3 1, 3) := by decide +kernel
theorem dX5_pageIn_30 : decode cX5_pageIn 30 = .ok (.goto (-25), 3) := by decide +kernel
theorem dX5_pageIn_33 : decode cX5_pageIn 33 = .ok (.iload_n 2, 1) := by decide +kernel
theorem dX5_pageIn_34 : decode cX5_pageIn 34 = .ok (.ireturn, 1) := by decide +kernel
def wp_X5_pageIn (σ : Mem) (y1 : Int32) (P : Int32 → Prop) : Prop :=
  lq2 (fun rec3 (x1 : Int32) (x2 : Int32) =>
    ((50 ≤ x2 →
      P x1) ∧
      (¬ 50 ≤ x2 →
      wp_X5_of σ x2 0 (fun r4 =>
        ((r4 = y1 →
        rec3 x2 (x2 + 1)) ∧
        (¬ r4 = y1 →
        rec3 x1 (x2 + 1))))))) (-5) 0
set_option maxRecDepth 100000 in
set_option maxHeartbeats 4000000 in
theorem c_X5_pageIn (V : EV) (σ : Mem) (y1 : Int32) (P : Int32 → Prop) (l : Launch) : Met l yX5_pageIn (.code yX5_pageIn cX5_pageIn 4 (some .int) :: AW) { frames := 1, cells := 0, slots := 0, locals := 22 } (va_Pc [.ref (ad V 93), .int y1] (fun U => wP V σ U ∧ wp_X5_pageIn σ y1 P)) (va_Qi (fun r τ => τ = σ ∧ P r) (wB V) (AA V)) 0 0 (AA V) := by
  refine met_i V σ (own := RX5) (by decide +kernel) rfl (fun v hv => by simp at hv; rcases hv with rfl | rfl <;> rfl) (Nat.le_of_ble_eq_true rfl) (fun X C D h => ?_) l
  show GG V X σ 0 [some (.ref (ad V 93)), some (.int y1), none, none] []
  refine g_bipush C dX5_pageIn_0 bp_m5 rfl ?_
  refine g_istore_n C dX5_pageIn_2 rfl (Nat.le_of_ble_eq_true rfl) (L' := [some (.ref (ad V 93)), some (.int y1), some (.int (-5)), none]) rfl rfl ?_
  refine g_iconst C dX5_pageIn_3 ic_0 rfl ?_
  refine g_istore_n C dX5_pageIn_4 rfl (Nat.le_of_ble_eq_true rfl) (L' := [some (.ref (ad V 93)), some (.int y1), some (.int (-5)), some (.int 0)]) rfl rfl ?_
  refine h (fun (x1 : Int32) (x2 : Int32) => GG V X σ 5 [some (.ref (ad V 93)), some (.int y1), some (.int x1), some (.int x2)] []) (fun x1 x2 h => ?_)
  refine g_iload_n C dX5_pageIn_5 rfl rfl rfl ?_
  refine g_bipush C dX5_pageIn_6 bp_50 rfl ?_
  refine g_icmp_ge C dX5_pageIn_8 (tgt := 33) rfl rfl (fun q => ?_) (fun q => ?_)
  · have h := h.1 q
    refine g_iload_n C dX5_pageIn_33 rfl rfl rfl ?_
    exact g_iret C dX5_pageIn_34 D ⟨rfl, h⟩
  · have h := h.2 q
    refine g_aload_n C dX5_pageIn_11 rfl rfl rfl ?_
    refine g_iload_n C dX5_pageIn_12 rfl rfl rfl ?_
    refine g_iconst C dX5_pageIn_13 ic_0 rfl ?_
    refine k_X5_40 C dX5_pageIn_14 (Nat.le_of_ble_eq_true rfl) (by decide) rfl rfl h (fun r4 h => ?_)
    refine g_iload_n C dX5_pageIn_17 rfl rfl rfl ?_
    refine g_icmp_ne C dX5_pageIn_18 (tgt := 25) rfl rfl (fun q => ?_) (fun q => ?_)
    · have h := h.2 q
      refine g_iload_n C dX5_pageIn_25 rfl rfl rfl ?_
      refine g_istore_n C dX5_pageIn_26 rfl (Nat.le_of_ble_eq_true rfl) (L' := [some (.ref (ad V 93)), some (.int y1), some (.int x1), some (.int x2)]) rfl rfl ?_
      refine g_iinc C dX5_pageIn_27 (v := x2 + 1) (by rw [ic_1]) rfl (Nat.le_of_ble_eq_true rfl) (L' := [some (.ref (ad V 93)), some (.int y1), some (.int x1), some (.int (x2 + 1))]) rfl rfl ?_
      refine g_goto C dX5_pageIn_30 (pc' := 5) rfl ?_
      exact h
    · have h := h.1 q
      refine g_iload_n C dX5_pageIn_21 rfl rfl rfl ?_
      refine g_goto C dX5_pageIn_22 (pc' := 26) rfl ?_
      refine g_istore_n C dX5_pageIn_26 rfl (Nat.le_of_ble_eq_true rfl) (L' := [some (.ref (ad V 93)), some (.int y1), some (.int x2), some (.int x2)]) rfl rfl ?_
      refine g_iinc C dX5_pageIn_27 (v := x2 + 1) (by rw [ic_1]) rfl (Nat.le_of_ble_eq_true rfl) (L' := [some (.ref (ad V 93)), some (.int y1), some (.int x2), some (.int (x2 + 1))]) rfl rfl ?_
      refine g_goto C dX5_pageIn_30 (pc' := 5) rfl ?_
      exact h
theorem hd_X5_pageIn : yX5_pageIn.cls ≠ "java/lang/invoke/MethodHandle" ∧ yX5_pageIn.cls ≠ "java/lang/invoke/VarHandle" ∧ (parseMethodDescriptor yX5_pageIn.desc).map (fun d => d.parameters.length) = some 1 := by decide +kernel
theorem k_X5_74 {V : EV} {X : CX} {cc : ByteArray} {nL : Nat} {R : Room} {y1 : Int32} (C : OK V X RX5 cc nL R) {σ : Mem} {pc pc' : Nat} {L : List (Option Value)} {st : List Value} {P : Int32 → Prop} (d : decode cc pc = .ok (.invokevirtual 74, 3)) (hst : (st.map fun v => v.category).sum ≤ 8) (hr : 1 + 1 ≤ R.frames ∧ 8 + (4 + 11) + 22 ≤ R.locals) (hL : L.length = nL) (hp : pc + 3 = pc') (h : wp_X5_pageIn σ y1 P) (k : ∀ r, P r → GG V X σ pc' L (.int r :: st)) : GG V X σ pc L (.int y1 :: .ref (ad V 93) :: st) :=
  g_callVi C (av := [.int y1]) (fun l => c_X5_pageIn V σ y1 P l) (by decide) (en_93 V σ) (q := (RX5, TX5, 13)) rfl rfl ml_RX5_74 im_X5_pageIn se_X5_pageIn ini_RX5 co_X5_pageIn hd_X5_pageIn rfl ⟨rfl, rfl⟩ hr hst d hL hp h (fun r τ hq => by obtain ⟨rfl, hq⟩ := hq; exact k r hq)

theorem dX5_cells_0 : decode cX5_cells 0 = .ok (.iconst 0, 1) := by decide +kernel
theorem dX5_cells_1 : decode cX5_cells 1 = .ok (.istore_n 2, 1) := by decide +kernel
theorem dX5_cells_2 : decode cX5_cells 2 = .ok (.iconst 0, 1) := by decide +kernel
theorem dX5_cells_3 : decode cX5_cells 3 = .ok (.istore_n 3, 1) := by decide +kernel
theorem dX5_cells_4 : decode cX5_cells 4 = .ok (.iload_n 3, 1) := by decide +kernel
theorem dX5_cells_5 : decode cX5_cells 5 = .ok (.bipush 40, 2) := by decide +kernel
theorem dX5_cells_7 : decode cX5_cells 7 = .ok (.if_icmp .ge 30, 3) := by decide +kernel
theorem dX5_cells_10 : decode cX5_cells 10 = .ok (.iload_n 2, 1) := by decide +kernel
theorem dX5_cells_11 : decode cX5_cells 11 = .ok (.aload_n 0, 1) := by decide +kernel
theorem dX5_cells_12 : decode cX5_cells 12 = .ok (.getfield 7, 3) := by decide +kernel
theorem dX5_cells_15 : decode cX5_cells 15 = .ok (.bipush 23, 2) := by decide +kernel
theorem dX5_cells_17 : decode cX5_cells 17 = .ok (.iload_n 3, 1) := by decide +kernel
theorem dX5_cells_18 : decode cX5_cells 18 = .ok (.iadd, 1) := by decide +kernel
theorem dX5_cells_19 : decode cX5_cells 19 = .ok (.iaload, 1) := by decide +kernel
theorem dX5_cells_20 : decode cX5_cells 20 = .ok (.iload_n 1, 1) := by decide +kernel
theorem dX5_cells_21 : decode cX5_cells 21 = .ok (.if_icmp .ne 7, 3) := by decide +kernel
theorem dX5_cells_24 : decode cX5_cells 24 = .ok (.iconst 1, 1) := by decide +kernel
theorem dX5_cells_25 : decode cX5_cells 25 = .ok (.goto 4, 3) := by decide +kernel
theorem dX5_cells_28 : decode cX5_cells 28 = .ok (.iconst 0, 1) := by decide +kernel
theorem dX5_cells_29 : decode cX5_cells 29 = .ok (.iadd, 1) := by decide +kernel
theorem dX5_cells_30 : decode cX5_cells 30 = .ok (.istore_n 2, 1) := by decide +kernel
theorem dX5_cells_31 : decode cX5_cells 31 = .ok (.iinc 3 1, 3) := by decide +kernel
theorem dX5_cells_34 : decode cX5_cells 34 = .ok (.goto (-30), 3) := by decide +kernel
theorem dX5_cells_37 : decode cX5_cells 37 = .ok (.iload_n 2, 1) := by decide +kernel
theorem dX5_cells_38 : decode cX5_cells 38 = .ok (.ireturn, 1) := by decide +kernel
def wp_X5_cells (σ : Mem) (y1 : Int32) (P : Int32 → Prop) : Prop :=
  lq2 (fun rec3 (x1 : Int32) (x2 : Int32) =>
    ((40 ≤ x2 →
      P x1) ∧
      (¬ 40 ≤ x2 →
      vp_in (23 + x2) 313 ∧ jn (A := Int32 → Prop) (fun (v4 : Int32) =>
        rec3 (x1 + v4) (x2 + 1))
        (fun J5 =>
        (((σ 94 (23 + x2).toNatClampNeg) = y1 →
        J5 1) ∧
        (¬ (σ 94 (23 + x2).toNatClampNeg) = y1 →
        J5 0)))))) 0 0
set_option maxRecDepth 100000 in
set_option maxHeartbeats 4000000 in
theorem c_X5_cells (V : EV) (σ : Mem) (y1 : Int32) (P : Int32 → Prop) (l : Launch) : Met l yX5_cells (.code yX5_cells cX5_cells 4 (some .int) :: AW) { frames := 0, cells := 0, slots := 0, locals := 0 } (va_Pc [.ref (ad V 93), .int y1] (fun U => wP V σ U ∧ wp_X5_cells σ y1 P)) (va_Qi (fun r τ => τ = σ ∧ P r) (wB V) (AA V)) 0 0 (AA V) := by
  refine met_i V σ (own := RX5) (by decide +kernel) rfl (fun v hv => by simp at hv; rcases hv with rfl | rfl <;> rfl) (Nat.le_of_ble_eq_true rfl) (fun X C D h => ?_) l
  show GG V X σ 0 [some (.ref (ad V 93)), some (.int y1), none, none] []
  refine g_iconst C dX5_cells_0 ic_0 rfl ?_
  refine g_istore_n C dX5_cells_1 rfl (Nat.le_of_ble_eq_true rfl) (L' := [some (.ref (ad V 93)), some (.int y1), some (.int 0), none]) rfl rfl ?_
  refine g_iconst C dX5_cells_2 ic_0 rfl ?_
  refine g_istore_n C dX5_cells_3 rfl (Nat.le_of_ble_eq_true rfl) (L' := [some (.ref (ad V 93)), some (.int y1), some (.int 0), some (.int 0)]) rfl rfl ?_
  refine h (fun (x1 : Int32) (x2 : Int32) => GG V X σ 4 [some (.ref (ad V 93)), some (.int y1), some (.int x1), some (.int x2)] []) (fun x1 x2 h => ?_)
  refine g_iload_n C dX5_cells_4 rfl rfl rfl ?_
  refine g_bipush C dX5_cells_5 bp_40 rfl ?_
  refine g_icmp_ge C dX5_cells_7 (tgt := 37) rfl rfl (fun q => ?_) (fun q => ?_)
  · have h := h.1 q
    refine g_iload_n C dX5_cells_37 rfl rfl rfl ?_
    exact g_iret C dX5_cells_38 D ⟨rfl, h⟩
  · have h := h.2 q
    refine g_iload_n C dX5_cells_10 rfl rfl rfl ?_
    refine g_aload_n C dX5_cells_11 rfl rfl rfl ?_
    refine f_X5_7 C dX5_cells_12 rfl ?_
    refine g_bipush C dX5_cells_15 bp_23 rfl ?_
    refine g_iload_n C dX5_cells_17 rfl rfl rfl ?_
    refine g_iadd C dX5_cells_18 rfl ?_
    obtain ⟨hin, h⟩ := h
    refine g_ild C dX5_cells_19 arr_94 hin rfl ?_
    refine g_iload_n C dX5_cells_20 rfl rfl rfl ?_
    refine jn_go h (fun (J5 : Int32 → Prop) => ∀ (v4 : Int32), J5 v4 → GG V X σ 29 [some (.ref (ad V 93)), some (.int y1), none, some (.int x2)] [.int v4, .int x1]) (fun v4 h => ?_) (fun J5 hJ5 h => ?_)
    · refine g_iadd C dX5_cells_29 rfl ?_
      refine g_istore_n C dX5_cells_30 rfl (Nat.le_of_ble_eq_true rfl) (L' := [some (.ref (ad V 93)), some (.int y1), some (.int (x1 + v4)), some (.int x2)]) rfl rfl ?_
      refine g_iinc C dX5_cells_31 (v := x2 + 1) (by rw [ic_1]) rfl (Nat.le_of_ble_eq_true rfl) (L' := [some (.ref (ad V 93)), some (.int y1), some (.int (x1 + v4)), some (.int (x2 + 1))]) rfl rfl ?_
      refine g_goto C dX5_cells_34 (pc' := 4) rfl ?_
      exact h
    refine g_icmp_ne C dX5_cells_21 (tgt := 28) rfl rfl (fun q => ?_) (fun q => ?_)
    · have h := h.2 q
      refine g_iconst C dX5_cells_28 ic_0 rfl ?_
      refine g_drop 2 (L' := [some (.ref (ad V 93)), some (.int y1), none, some (.int x2)]) rfl ?_
      exact hJ5 0 h
    · have h := h.1 q
      refine g_iconst C dX5_cells_24 ic_1 rfl ?_
      refine g_goto C dX5_cells_25 (pc' := 29) rfl ?_
      refine g_drop 2 (L' := [some (.ref (ad V 93)), some (.int y1), none, some (.int x2)]) rfl ?_
      exact hJ5 1 h
theorem hd_X5_cells : yX5_cells.cls ≠ "java/lang/invoke/MethodHandle" ∧ yX5_cells.cls ≠ "java/lang/invoke/VarHandle" ∧ (parseMethodDescriptor yX5_cells.desc).map (fun d => d.parameters.length) = some 1 := by decide +kernel
theorem k_X5_60 {V : EV} {X : CX} {cc : ByteArray} {nL : Nat} {R : Room} {y1 : Int32} (C : OK V X RX5 cc nL R) {σ : Mem} {pc pc' : Nat} {L : List (Option Value)} {st : List Value} {P : Int32 → Prop} (d : decode cc pc = .ok (.invokevirtual 60, 3)) (hst : (st.map fun v => v.category).sum ≤ 8) (hr : 0 + 1 ≤ R.frames ∧ 8 + (4 + 11) + 0 ≤ R.locals) (hL : L.length = nL) (hp : pc + 3 = pc') (h : wp_X5_cells σ y1 P) (k : ∀ r, P r → GG V X σ pc' L (.int r :: st)) : GG V X σ pc L (.int y1 :: .ref (ad V 93) :: st) :=
  g_callVi C (av := [.int y1]) (fun l => c_X5_cells V σ y1 P l) (by decide) (en_93 V σ) (q := (RX5, TX5, 13)) rfl rfl ml_RX5_60 im_X5_cells se_X5_cells ini_RX5 co_X5_cells hd_X5_cells rfl ⟨rfl, rfl⟩ hr hst d hL hp h (fun r τ hq => by obtain ⟨rfl, hq⟩ := hq; exact k r hq)

theorem dX5_copyState_0 : decode cX5_copyState 0 = .ok (.iconst 0, 1) := by decide +kernel
theorem dX5_copyState_1 : decode cX5_copyState 1 = .ok (.istore 4, 2) := by decide +kernel
theorem dX5_copyState_3 : decode cX5_copyState 3 = .ok (.iload 4, 2) := by decide +kernel
theorem dX5_copyState_5 : decode cX5_copyState 5 = .ok (.sipush 313, 3) := by decide +kernel
theorem dX5_copyState_8 : decode cX5_copyState 8 = .ok (.if_icmp .ge 21, 3) := by decide +kernel
theorem dX5_copyState_11 : decode cX5_copyState 11 = .ok (.aload_n 2, 1) := by decide +kernel
theorem dX5_copyState_12 : decode cX5_copyState 12 = .ok (.iload_n 3, 1) := by decide +kernel
theorem dX5_copyState_13 : decode cX5_copyState 13 = .ok (.iload 4, 2) := by decide +kernel
theorem dX5_copyState_15 : decode cX5_copyState 15 = .ok (.iadd, 1) := by decide +kernel
theorem dX5_copyState_16 : decode cX5_copyState 16 = .ok (.aload_n 0, 1) := by decide +kernel
theorem dX5_copyState_17 : decode cX5_copyState 17 = .ok (.iload_n 1, 1) := by decide +kernel
theorem dX5_copyState_18 : decode cX5_copyState 18 = .ok (.iload 4, 2) := by decide +kernel
theorem dX5_copyState_20 : decode cX5_copyState 20 = .ok (.iadd, 1) := by decide +kernel
theorem dX5_copyState_21 : decode cX5_copyState 21 = .ok (.iaload, 1) := by decide +kernel
theorem dX5_copyState_22 : decode cX5_copyState 22 = .ok (.iastore, 1) := by decide +kernel
theorem dX5_copyState_23 : decode cX5_copyState 23 = .ok (.iinc 4 1, 3) := by decide +kernel
theorem dX5_copyState_26 : decode cX5_copyState 26 = .ok (.goto (-23), 3) := by decide +kernel
theorem dX5_copyState_29 : decode cX5_copyState 29 = .ok (.return_, 1) := by decide +kernel
def wp_X5_copyState (σ : Mem) (a : Nat) (y2 : Int32) (b : Nat) (y4 : Int32) (P : Mem → Prop) : Prop :=
  lq2 (fun rec3 (σ1 : Mem) (x2 : Int32) =>
    ((313 ≤ x2 →
      P σ1) ∧
      (¬ 313 ≤ x2 →
      vp_in (y2 + x2) (aln a) ∧ vp_in (y4 + x2) (aln b) ∧ bm (up2 σ1 b (y4 + x2).toNatClampNeg (σ1 a (y2 + x2).toNatClampNeg)) (fun σ4 =>
        rec3 σ4 (x2 + 1))))) σ 0
set_option maxRecDepth 100000 in
set_option maxHeartbeats 4000000 in
theorem c_X5_copyState (V : EV) (σ : Mem) (a : Nat) (y2 : Int32) (b : Nat) (y4 : Int32) (ha : isZr a) (hb : isZr b) (P : Mem → Prop) (l : Launch) : Met l yX5_copyState (.code yX5_copyState cX5_copyState 5 (none) :: AW) { frames := 0, cells := 0, slots := 0, locals := 0 } (va_Pc [.ref (ad V a), .int y2, .ref (ad V b), .int y4] (fun U => wP V σ U ∧ wp_X5_copyState σ a y2 b y4 P)) (va_Qv P (wB V) (AA V)) 0 0 (AA V) := by
  refine met_v V σ (own := RX5) (by decide +kernel) rfl (fun v hv => by simp at hv; rcases hv with rfl | rfl | rfl | rfl <;> rfl) (Nat.le_of_ble_eq_true rfl) (fun X C D h => ?_) l
  show GG V X σ 0 [some (.ref (ad V a)), some (.int y2), some (.ref (ad V b)), some (.int y4), none] []
  refine g_iconst C dX5_copyState_0 ic_0 rfl ?_
  refine g_istore C dX5_copyState_1 (Nat.le_of_ble_eq_true rfl) (L' := [some (.ref (ad V a)), some (.int y2), some (.ref (ad V b)), some (.int y4), some (.int 0)]) rfl rfl ?_
  refine h (fun (σ1 : Mem) (x2 : Int32) => GG V X σ1 3 [some (.ref (ad V a)), some (.int y2), some (.ref (ad V b)), some (.int y4), some (.int x2)] []) (fun σ1 x2 h => ?_)
  refine g_iload C dX5_copyState_3 rfl rfl ?_
  refine g_sipush C dX5_copyState_5 sp_313 rfl ?_
  refine g_icmp_ge C dX5_copyState_8 (tgt := 29) rfl rfl (fun q => ?_) (fun q => ?_)
  · have h := h.1 q
    exact g_vret C dX5_copyState_29 D h
  · have h := h.2 q
    refine g_aload_n C dX5_copyState_11 rfl rfl rfl ?_
    refine g_iload_n C dX5_copyState_12 rfl rfl rfl ?_
    refine g_iload C dX5_copyState_13 rfl rfl ?_
    refine g_iadd C dX5_copyState_15 rfl ?_
    refine g_aload_n C dX5_copyState_16 rfl rfl rfl ?_
    refine g_iload_n C dX5_copyState_17 rfl rfl rfl ?_
    refine g_iload C dX5_copyState_18 rfl rfl ?_
    refine g_iadd C dX5_copyState_20 rfl ?_
    obtain ⟨hin, h⟩ := h
    refine g_ild C dX5_copyState_21 (iA_zr ha) hin rfl ?_
    obtain ⟨hin, h⟩ := h
    refine g_ist C dX5_copyState_22 (iA_zr hb) hin rfl h (fun σ4 h => ?_)
    refine g_iinc C dX5_copyState_23 (v := x2 + 1) (by rw [ic_1]) rfl (Nat.le_of_ble_eq_true rfl) (L' := [some (.ref (ad V a)), some (.int y2), some (.ref (ad V b)), some (.int y4), some (.int (x2 + 1))]) rfl rfl ?_
    refine g_goto C dX5_copyState_26 (pc' := 3) rfl ?_
    exact h
theorem hd_X5_copyState : yX5_copyState.cls ≠ "java/lang/invoke/MethodHandle" ∧ yX5_copyState.cls ≠ "java/lang/invoke/VarHandle" ∧ (parseMethodDescriptor yX5_copyState.desc).map (fun d => d.parameters.length) = some 4 := by decide +kernel
theorem k_X5_48 {V : EV} {X : CX} {cc : ByteArray} {nL : Nat} {R : Room} {a : Nat} {y2 : Int32} {b : Nat} {y4 : Int32} (ha : isZr a) (hb : isZr b) (C : OK V X RX5 cc nL R) {σ : Mem} {pc pc' : Nat} {L : List (Option Value)} {st : List Value} {P : Mem → Prop} (d : decode cc pc = .ok (.invokestatic 48, 3)) (hst : (st.map fun v => v.category).sum ≤ 8) (hr : 0 + 1 ≤ R.frames ∧ 8 + (5 + 11) + 0 ≤ R.locals) (hL : L.length = nL) (hp : pc + 3 = pc') (h : wp_X5_copyState σ a y2 b y4 P) (k : ∀ τ, P τ → GG V X τ pc' L st) : GG V X σ pc L (.int y4 :: .ref (ad V b) :: .int y2 :: .ref (ad V a) :: st) :=
  g_callSv C (av := [.ref (ad V a), .int y2, .ref (ad V b), .int y4]) (fun l => c_X5_copyState V σ a y2 b y4 ha hb P l) ml_RX5_48 st_X5_copyState ini_RX5 co_X5_copyState ⟨rfl, hd_X5_copyState⟩ rfl ⟨rfl, rfl⟩ hr hst d hL hp h k

theorem dX5_recordRow_0 : decode cX5_recordRow 0 = .ok (.aload_n 0, 1) := by decide +kernel
theorem dX5_recordRow_1 : decode cX5_recordRow 1 = .ok (.getfield 44, 3) := by decide +kernel
theorem dX5_recordRow_4 : decode cX5_recordRow 4 = .ok (.iconst 4, 1) := by decide +kernel
theorem dX5_recordRow_5 : decode cX5_recordRow 5 = .ok (.if_icmp .ne 44, 3) := by decide +kernel
theorem dX5_recordRow_8 : decode cX5_recordRow 8 = .ok (.iconst 0, 1) := by decide +kernel
theorem dX5_recordRow_9 : decode cX5_recordRow 9 = .ok (.istore_n 2, 1) := by decide +kernel
theorem dX5_recordRow_10 : decode cX5_recordRow 10 = .ok (.iload_n 2, 1) := by decide +kernel
theorem dX5_recordRow_11 : decode cX5_recordRow 11 = .ok (.sipush 939, 3) := by decide +kernel
theorem dX5_recordRow_14 : decode cX5_recordRow 14 = .ok (.if_icmp .ge 25, 3) := by decide +kernel
theorem dX5_recordRow_17 : decode cX5_recordRow 17 = .ok (.aload_n 0, 1) := by decide +kernel
theorem dX5_recordRow_18 : decode cX5_recordRow 18 = .ok (.getfield 16, 3) := by decide +kernel
theorem dX5_recordRow_21 : decode cX5_recordRow 21 = .ok (.iload_n 2, 1) := by decide +kernel
theorem dX5_recordRow_22 : decode cX5_recordRow 22 = .ok (.aload_n 0, 1) := by decide +kernel
theorem dX5_recordRow_23 : decode cX5_recordRow 23 = .ok (.getfield 16, 3) := by decide +kernel
theorem dX5_recordRow_26 : decode cX5_recordRow 26 = .ok (.iload_n 2, 1) := by decide +kernel
theorem dX5_recordRow_27 : decode cX5_recordRow 27 = .ok (.sipush 313, 3) := by decide +kernel
theorem dX5_recordRow_30 : decode cX5_recordRow 30 = .ok (.iadd, 1) := by decide +kernel
theorem dX5_recordRow_31 : decode cX5_recordRow 31 = .ok (.iaload, 1) := by decide +kernel
theorem dX5_recordRow_32 : decode cX5_recordRow 32 = .ok (.iastore, 1) := by decide +kernel
theorem dX5_recordRow_33 : decode cX5_recordRow 33 = .ok (.iinc 2 1, 3) := by decide +kernel
theorem dX5_recordRow_36 : decode cX5_recordRow 36 = .ok (.goto (-26), 3) := by decide +kernel
theorem dX5_recordRow_39 : decode cX5_recordRow 39 = .ok (.aload_n 0, 1) := by decide +kernel
theorem dX5_recordRow_40 : decode cX5_recordRow 40 = .ok (.dup, 1) := by decide +kernel
theorem dX5_recordRow_41 : decode cX5_recordRow 41 = .ok (.getfield 44, 3) := by decide +kernel
theorem dX5_recordRow_44 : decode cX5_recordRow 44 = .ok (.iconst 1, 1) := by decide +kernel
theorem dX5_recordRow_45 : decode cX5_recordRow 45 = .ok (.isub, 1) := by decide +kernel
theorem dX5_recordRow_46 : decode cX5_recordRow 46 = .ok (.putfield 44, 3) := by decide +kernel
theorem dX5_recordRow_49 : decode cX5_recordRow 49 = .ok (.aload_n 1, 1) := by decide +kernel
theorem dX5_recordRow_50 : decode cX5_recordRow 50 = .ok (.iconst 0, 1) := by decide +kernel
theorem dX5_recordRow_51 : decode cX5_recordRow 51 = .ok (.aload_n 0, 1) := by decide +kernel
theorem dX5_recordRow_52 : decode cX5_recordRow 52 = .ok (.getfield 16, 3) := by decide +kernel
theorem dX5_recordRow_55 : decode cX5_recordRow 55 = .ok (.sipush 313, 3) := by decide +kernel
theorem dX5_recordRow_58 : decode cX5_recordRow 58 = .ok (.aload_n 0, 1) := by decide +kernel
theorem dX5_recordRow_59 : decode cX5_recordRow 59 = .ok (.getfield 44, 3) := by decide +kernel
theorem dX5_recordRow_62 : decode cX5_recordRow 62 = .ok (.imul, 1) := by decide +kernel
theorem dX5_recordRow_63 : decode cX5_recordRow 63 = .ok (.invokestatic 48, 3) := by decide +kernel
theorem dX5_recordRow_66 : decode cX5_recordRow 66 = .ok (.aload_n 0, 1) := by decide +kernel
theorem dX5_recordRow_67 : decode cX5_recordRow 67 = .ok (.dup, 1) := by decide +kernel
theorem dX5_recordRow_68 : decode cX5_recordRow 68 = .ok (.getfield 44, 3) := by decide +kernel
theorem dX5_recordRow_71 : decode cX5_recordRow 71 = .ok (.iconst 1, 1) := by decide +kernel
theorem dX5_recordRow_72 : decode cX5_recordRow 72 = .ok (.iadd, 1) := by decide +kernel
theorem dX5_recordRow_73 : decode cX5_recordRow 73 = .ok (.putfield 44, 3) := by decide +kernel
theorem dX5_recordRow_76 : decode cX5_recordRow 76 = .ok (.return_, 1) := by decide +kernel
def wp_X5_recordRow (σ : Mem) (a : Nat) (P : Mem → Prop) : Prop :=
  jn (A := Mem → Prop) (fun (σ1 : Mem) =>
    wp_X5_copyState σ1 a 0 96 (313 * (σ1 93 3)) (fun σ3 =>
      bm (up2 σ3 93 3 ((σ3 93 3) + 1)) (fun σ4 =>
      P σ4)))
    (fun J2 =>
    (((σ 93 3) = 4 →
    lq2 (fun rec7 (σ5 : Mem) (x6 : Int32) =>
      ((939 ≤ x6 →
        bm (up2 σ5 93 3 ((σ5 93 3) - 1)) (fun σ8 =>
          J2 σ8)) ∧
        (¬ 939 ≤ x6 →
        vp_in (x6 + 313) 1252 ∧ vp_in x6 1252 ∧ bm (up2 σ5 96 x6.toNatClampNeg (σ5 96 (x6 + 313).toNatClampNeg)) (fun σ9 =>
          rec7 σ9 (x6 + 1))))) σ 0) ∧
    (¬ (σ 93 3) = 4 →
    J2 σ)))
set_option maxRecDepth 100000 in
set_option maxHeartbeats 4000000 in
theorem c_X5_recordRow (V : EV) (σ : Mem) (a : Nat) (ha : isZr a) (P : Mem → Prop) (l : Launch) : Met l yX5_recordRow (.code yX5_recordRow cX5_recordRow 3 (none) :: AW) { frames := 1, cells := 0, slots := 0, locals := 24 } (va_Pc [.ref (ad V 93), .ref (ad V a)] (fun U => wP V σ U ∧ wp_X5_recordRow σ a P)) (va_Qv P (wB V) (AA V)) 0 0 (AA V) := by
  refine met_v V σ (own := RX5) (by decide +kernel) rfl (fun v hv => by simp at hv; rcases hv with rfl | rfl <;> rfl) (Nat.le_of_ble_eq_true rfl) (fun X C D h => ?_) l
  show GG V X σ 0 [some (.ref (ad V 93)), some (.ref (ad V a)), none] []
  refine g_aload_n C dX5_recordRow_0 rfl rfl rfl ?_
  refine f_X5_44 C dX5_recordRow_1 rfl ?_
  refine g_iconst C dX5_recordRow_4 ic_4 rfl ?_
  refine jn_go h (fun (J2 : Mem → Prop) => ∀ (σ1 : Mem), J2 σ1 → GG V X σ1 49 [some (.ref (ad V 93)), some (.ref (ad V a)), none] []) (fun σ1 h => ?_) (fun J2 hJ2 h => ?_)
  · refine g_aload_n C dX5_recordRow_49 rfl rfl rfl ?_
    refine g_iconst C dX5_recordRow_50 ic_0 rfl ?_
    refine g_aload_n C dX5_recordRow_51 rfl rfl rfl ?_
    refine f_X5_16 C dX5_recordRow_52 rfl ?_
    refine g_sipush C dX5_recordRow_55 sp_313 rfl ?_
    refine g_aload_n C dX5_recordRow_58 rfl rfl rfl ?_
    refine f_X5_44 C dX5_recordRow_59 rfl ?_
    refine g_imul C dX5_recordRow_62 rfl ?_
    refine k_X5_48 ha isZr_96 C dX5_recordRow_63 (Nat.le_of_ble_eq_true rfl) (by decide) rfl rfl h (fun σ3 h => ?_)
    refine g_aload_n C dX5_recordRow_66 rfl rfl rfl ?_
    refine g_dup C dX5_recordRow_67 rfl rfl ?_
    refine f_X5_44 C dX5_recordRow_68 rfl ?_
    refine g_iconst C dX5_recordRow_71 ic_1 rfl ?_
    refine g_iadd C dX5_recordRow_72 rfl ?_
    refine p_X5_44 C dX5_recordRow_73 rfl h (fun σ4 h => ?_)
    exact g_vret C dX5_recordRow_76 D h
  refine g_icmp_ne C dX5_recordRow_5 (tgt := 49) rfl rfl (fun q => ?_) (fun q => ?_)
  · have h := h.2 q
    exact hJ2 σ h
  · have h := h.1 q
    refine g_iconst C dX5_recordRow_8 ic_0 rfl ?_
    refine g_istore_n C dX5_recordRow_9 rfl (Nat.le_of_ble_eq_true rfl) (L' := [some (.ref (ad V 93)), some (.ref (ad V a)), some (.int 0)]) rfl rfl ?_
    refine h (fun (σ5 : Mem) (x6 : Int32) => GG V X σ5 10 [some (.ref (ad V 93)), some (.ref (ad V a)), some (.int x6)] []) (fun σ5 x6 h => ?_)
    refine g_iload_n C dX5_recordRow_10 rfl rfl rfl ?_
    refine g_sipush C dX5_recordRow_11 sp_939 rfl ?_
    refine g_icmp_ge C dX5_recordRow_14 (tgt := 39) rfl rfl (fun q => ?_) (fun q => ?_)
    · have h := h.1 q
      refine g_aload_n C dX5_recordRow_39 rfl rfl rfl ?_
      refine g_dup C dX5_recordRow_40 rfl rfl ?_
      refine f_X5_44 C dX5_recordRow_41 rfl ?_
      refine g_iconst C dX5_recordRow_44 ic_1 rfl ?_
      refine g_isub C dX5_recordRow_45 rfl ?_
      refine p_X5_44 C dX5_recordRow_46 rfl h (fun σ8 h => ?_)
      refine g_drop 2 (L' := [some (.ref (ad V 93)), some (.ref (ad V a)), none]) rfl ?_
      exact hJ2 σ8 h
    · have h := h.2 q
      refine g_aload_n C dX5_recordRow_17 rfl rfl rfl ?_
      refine f_X5_16 C dX5_recordRow_18 rfl ?_
      refine g_iload_n C dX5_recordRow_21 rfl rfl rfl ?_
      refine g_aload_n C dX5_recordRow_22 rfl rfl rfl ?_
      refine f_X5_16 C dX5_recordRow_23 rfl ?_
      refine g_iload_n C dX5_recordRow_26 rfl rfl rfl ?_
      refine g_sipush C dX5_recordRow_27 sp_313 rfl ?_
      refine g_iadd C dX5_recordRow_30 rfl ?_
      obtain ⟨hin, h⟩ := h
      refine g_ild C dX5_recordRow_31 arr_96 hin rfl ?_
      obtain ⟨hin, h⟩ := h
      refine g_ist C dX5_recordRow_32 arr_96 hin rfl h (fun σ9 h => ?_)
      refine g_iinc C dX5_recordRow_33 (v := x6 + 1) (by rw [ic_1]) rfl (Nat.le_of_ble_eq_true rfl) (L' := [some (.ref (ad V 93)), some (.ref (ad V a)), some (.int (x6 + 1))]) rfl rfl ?_
      refine g_goto C dX5_recordRow_36 (pc' := 10) rfl ?_
      exact h
theorem hd_X5_recordRow : yX5_recordRow.cls ≠ "java/lang/invoke/MethodHandle" ∧ yX5_recordRow.cls ≠ "java/lang/invoke/VarHandle" ∧ (parseMethodDescriptor yX5_recordRow.desc).map (fun d => d.parameters.length) = some 1 := by decide +kernel
theorem k_X5_52 {V : EV} {X : CX} {cc : ByteArray} {nL : Nat} {R : Room} {a : Nat} (ha : isZr a) (C : OK V X RX5 cc nL R) {σ : Mem} {pc pc' : Nat} {L : List (Option Value)} {st : List Value} {P : Mem → Prop} (d : decode cc pc = .ok (.invokevirtual 52, 3)) (hst : (st.map fun v => v.category).sum ≤ 8) (hr : 1 + 1 ≤ R.frames ∧ 8 + (3 + 11) + 24 ≤ R.locals) (hL : L.length = nL) (hp : pc + 3 = pc') (h : wp_X5_recordRow σ a P) (k : ∀ τ, P τ → GG V X τ pc' L st) : GG V X σ pc L (.ref (ad V a) :: .ref (ad V 93) :: st) :=
  g_callVv C (av := [.ref (ad V a)]) (fun l => c_X5_recordRow V σ a ha P l) (by decide) (en_93 V σ) (q := (RX5, TX5, 13)) rfl rfl ml_RX5_52 im_X5_recordRow se_X5_recordRow ini_RX5 co_X5_recordRow hd_X5_recordRow rfl ⟨rfl, rfl⟩ hr hst d hL hp h k
