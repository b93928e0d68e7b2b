theorem dX1_isForgettingDay_0 : decode cX1_isForgettingDay 0 = .ok (.aload_n 0, 1) := by decide +kernel
theorem dX1_isForgettingDay_1 : decode cX1_isForgettingDay 1 = .ok (.getfield 43, 3) := by decide +kernel
theorem dX1_isForgettingDay_4 : decode cX1_isForgettingDay 4 = .ok (.iconst 1, 1) := by decide +kernel
theorem dX1_isForgettingDay_5 : decode cX1_isForgettingDay 5 = .ok (.iaload, 1) := by decide +kernel
theorem dX1_isForgettingDay_6 : decode cX1_isForgettingDay 6 = .ok (.istore_n 1, 1) := by decide +kernel
theorem dX1_isForgettingDay_7 : decode cX1_isForgettingDay 7 = .ok (.iload_n 1, 1) := by decide +kernel
theorem dX1_isForgettingDay_8 : decode cX1_isForgettingDay 8 = .ok (.ifCond .le 16, 3) := by decide +kernel
theorem dX1_isForgettingDay_11 : decode cX1_isForgettingDay 11 = .ok (.aload_n 0, 1) := by decide +kernel
theorem dX1_isForgettingDay_12 : decode cX1_isForgettingDay 12 = .ok (.getfield 59, 3) := by decide +kernel
theorem dX1_isForgettingDay_15 : decode cX1_isForgettingDay 15 = .ok (.iload_n 1, 1) := by decide +kernel
theorem dX1_isForgettingDay_16 : decode cX1_isForgettingDay 16 = .ok (.irem, 1) := by decide +kernel
theorem dX1_isForgettingDay_17 : decode cX1_isForgettingDay 17 = .ok (.ifCond .ne 7, 3) := by decide +kernel
theorem dX1_isForgettingDay_20 : decode cX1_isForgettingDay 20 = .ok (.iconst 1, 1) := by decide +kernel
theorem dX1_isForgettingDay_21 : decode cX1_isForgettingDay 21 = .ok (.goto 4, 3) := by decide +kernel
theorem dX1_isForgettingDay_24 : decode cX1_isForgettingDay 24 = .ok (.iconst 0, 1) := by decide +kernel
theorem dX1_isForgettingDay_25 : decode cX1_isForgettingDay 25 = .ok (.ireturn, 1) := by decide +kernel
def wp_X1_isForgettingDay (σ : Mem) (P : Int32 → Prop) : Prop :=
  (((σ 11 1) ≤ 0 →
    P 0) ∧
    (¬ (σ 11 1) ≤ 0 →
    (¬ (σ 11 1) = 0) ∧ ((((σ 0 12) - (σ 0 12) / (σ 11 1) * (σ 11 1)) = 0 →
      P 1) ∧
      (¬ ((σ 0 12) - (σ 0 12) / (σ 11 1) * (σ 11 1)) = 0 →
      P 0))))
set_option maxRecDepth 100000 in
set_option maxHeartbeats 4000000 in
theorem c_X1_isForgettingDay (V : EV) (σ : Mem) (P : Int32 → Prop) (l : Launch) : Met l yX1_isForgettingDay (.code yX1_isForgettingDay cX1_isForgettingDay 2 (some .boolean) :: AW) { frames := 0, cells := 0, slots := 0, locals := 0 } (va_Pc [.ref (ad V 0)] (fun U => wP V σ U ∧ wp_X1_isForgettingDay σ P)) (va_Qi (fun r τ => τ = σ ∧ P r) (wB V) (AA V)) 0 0 (AA V) := by
  refine met_i V σ (own := RX1) (by decide +kernel) rfl (fun v hv => by simp at hv; subst hv; rfl) (Nat.le_of_ble_eq_true rfl) (fun X C D h => ?_) l
  show GG V X σ 0 [some (.ref (ad V 0)), none] []
  refine g_aload_n C dX1_isForgettingDay_0 rfl rfl rfl ?_
  refine f_X1_43 C dX1_isForgettingDay_1 rfl ?_
  refine g_iconst C dX1_isForgettingDay_4 ic_1 rfl ?_
  refine g_ildk C dX1_isForgettingDay_5 arr_11 vi_1_3 tl_1 rfl ?_
  refine g_istore_n C dX1_isForgettingDay_6 rfl (Nat.le_of_ble_eq_true rfl) (L' := [some (.ref (ad V 0)), some (.int (σ 11 1))]) rfl rfl ?_
  refine g_iload_n C dX1_isForgettingDay_7 rfl rfl rfl ?_
  refine g_if_le C dX1_isForgettingDay_8 (tgt := 24) rfl rfl (fun q => ?_) (fun q => ?_)
  · have h := h.1 q
    refine g_iconst C dX1_isForgettingDay_24 ic_0 rfl ?_
    exact g_zret C dX1_isForgettingDay_25 D (by decide) ⟨rfl, h⟩
  · have h := h.2 q
    refine g_aload_n C dX1_isForgettingDay_11 rfl rfl rfl ?_
    refine f_X1_59 C dX1_isForgettingDay_12 rfl ?_
    refine g_iload_n C dX1_isForgettingDay_15 rfl rfl rfl ?_
    obtain ⟨hne, h⟩ := h
    refine g_irem C dX1_isForgettingDay_16 hne rfl ?_
    refine g_if_ne C dX1_isForgettingDay_17 (tgt := 24) rfl rfl (fun q => ?_) (fun q => ?_)
    · have h := h.2 q
      refine g_iconst C dX1_isForgettingDay_24 ic_0 rfl ?_
      exact g_zret C dX1_isForgettingDay_25 D (by decide) ⟨rfl, h⟩
    · have h := h.1 q
      refine g_iconst C dX1_isForgettingDay_20 ic_1 rfl ?_
      refine g_goto C dX1_isForgettingDay_21 (pc' := 25) rfl ?_
      exact g_zret C dX1_isForgettingDay_25 D (by decide) ⟨rfl, h⟩
theorem hd_X1_isForgettingDay : yX1_isForgettingDay.cls ≠ "java/lang/invoke/MethodHandle" ∧ yX1_isForgettingDay.cls ≠ "java/lang/invoke/VarHandle" ∧ (parseMethodDescriptor yX1_isForgettingDay.desc).map (fun d => d.parameters.length) = some 0 := by decide +kernel
theorem k_X1_106 {V : EV} {X : CX} {cc : ByteArray} {nL : Nat} {R : Room} (C : OK V X RX1 cc nL R) {σ : Mem} {pc pc' : Nat} {L : List (Option Value)} {st : List Value} {P : Int32 → Prop} (d : decode cc pc = .ok (.invokevirtual 106, 3)) (hst : (st.map fun v => v.category).sum ≤ 8) (hr : 0 + 1 ≤ R.frames ∧ 8 + (2 + 11) + 0 ≤ R.locals) (hL : L.length = nL) (hp : pc + 3 = pc') (h : wp_X1_isForgettingDay σ P) (k : ∀ r, P r → GG V X σ pc' L (.int r :: st)) : GG V X σ pc L (.ref (ad V 0) :: st) :=
  g_callVi C (av := []) (fun l => c_X1_isForgettingDay V σ P l) (by decide) (en_0 V σ) (q := (RX1, TX1, 17)) rfl rfl ml_RX1_106 im_X1_isForgettingDay se_X1_isForgettingDay ini_RX1 co_X1_isForgettingDay hd_X1_isForgettingDay rfl ⟨rfl, rfl⟩ hr hst d hL hp h (fun r τ hq => by obtain ⟨rfl, hq⟩ := hq; exact k r hq)

theorem dX1_forgetErrors_0 : decode cX1_forgetErrors 0 = .ok (.iconst 0, 1) := by decide +kernel
theorem dX1_forgetErrors_1 : decode cX1_forgetErrors 1 = .ok (.istore_n 1, 1) := by decide +kernel
theorem dX1_forgetErrors_2 : decode cX1_forgetErrors 2 = .ok (.iload_n 1, 1) := by decide +kernel
theorem dX1_forgetErrors_3 : decode cX1_forgetErrors 3 = .ok (.bipush 40, 2) := by decide +kernel
theorem dX1_forgetErrors_5 : decode cX1_forgetErrors 5 = .ok (.if_icmp .ge 37, 3) := by decide +kernel
theorem dX1_forgetErrors_8 : decode cX1_forgetErrors 8 = .ok (.aload_n 0, 1) := by decide +kernel
theorem dX1_forgetErrors_9 : decode cX1_forgetErrors 9 = .ok (.getfield 9, 3) := by decide +kernel
theorem dX1_forgetErrors_12 : decode cX1_forgetErrors 12 = .ok (.iload_n 1, 1) := by decide +kernel
theorem dX1_forgetErrors_13 : decode cX1_forgetErrors 13 = .ok (.baload, 1) := by decide +kernel
theorem dX1_forgetErrors_14 : decode cX1_forgetErrors 14 = .ok (.ifCond .ne 22, 3) := by decide +kernel
theorem dX1_forgetErrors_17 : decode cX1_forgetErrors 17 = .ok (.aload_n 0, 1) := by decide +kernel
theorem dX1_forgetErrors_18 : decode cX1_forgetErrors 18 = .ok (.getfield 15, 3) := by decide +kernel
theorem dX1_forgetErrors_21 : decode cX1_forgetErrors 21 = .ok (.iload_n 1, 1) := by decide +kernel
theorem dX1_forgetErrors_22 : decode cX1_forgetErrors 22 = .ok (.iaload, 1) := by decide +kernel
theorem dX1_forgetErrors_23 : decode cX1_forgetErrors 23 = .ok (.ifCond .le 13, 3) := by decide +kernel
theorem dX1_forgetErrors_26 : decode cX1_forgetErrors 26 = .ok (.aload_n 0, 1) := by decide +kernel
theorem dX1_forgetErrors_27 : decode cX1_forgetErrors 27 = .ok (.getfield 15, 3) := by decide +kernel
theorem dX1_forgetErrors_30 : decode cX1_forgetErrors 30 = .ok (.iload_n 1, 1) := by decide +kernel
theorem dX1_forgetErrors_31 : decode cX1_forgetErrors 31 = .ok (.dup2, 1) := by decide +kernel
theorem dX1_forgetErrors_32 : decode cX1_forgetErrors 32 = .ok (.iaload, 1) := by decide +kernel
theorem dX1_forgetErrors_33 : decode cX1_forgetErrors 33 = .ok (.iconst 1, 1) := by decide +kernel
theorem dX1_forgetErrors_34 : decode cX1_forgetErrors 34 = .ok (.isub, 1) := by decide +kernel
theorem dX1_forgetErrors_35 : decode cX1_forgetErrors 35 = .ok (.iastore, 1) := by decide +kernel
theorem dX1_forgetErrors_36 : decode cX1_forgetErrors 36 = .ok (.iinc 1 1, 3) := by decide +kernel
theorem dX1_forgetErrors_39 : decode cX1_forgetErrors 39 = .ok (.goto (-37), 3) := by decide +kernel
theorem dX1_forgetErrors_42 : decode cX1_forgetErrors 42 = .ok (.return_, 1) := by decide +kernel
def wp_X1_forgetErrors (σ : Mem) (P : Mem → Prop) : Prop :=
  lq2 (fun rec3 (σ1 : Mem) (x2 : Int32) =>
    ((40 ≤ x2 →
      P σ1) ∧
      (¬ 40 ≤ x2 →
      vp_in x2 40 ∧ (((σ1 1 x2.toNatClampNeg) = 0 →
        vp_in x2 40 ∧ (((σ1 2 x2.toNatClampNeg) ≤ 0 →
          rec3 σ1 (x2 + 1)) ∧
          (¬ (σ1 2 x2.toNatClampNeg) ≤ 0 →
          vp_in x2 40 ∧ vp_in x2 40 ∧ bm (up2 σ1 2 x2.toNatClampNeg ((σ1 2 x2.toNatClampNeg) - 1)) (fun σ4 =>
            rec3 σ4 (x2 + 1))))) ∧
        (¬ (σ1 1 x2.toNatClampNeg) = 0 →
        rec3 σ1 (x2 + 1)))))) σ 0
set_option maxRecDepth 100000 in
set_option maxHeartbeats 4000000 in
theorem c_X1_forgetErrors (V : EV) (σ : Mem) (P : Mem → Prop) (l : Launch) : Met l yX1_forgetErrors (.code yX1_forgetErrors cX1_forgetErrors 2 (none) :: AW) { frames := 0, cells := 0, slots := 0, locals := 0 } (va_Pc [.ref (ad V 0)] (fun U => wP V σ U ∧ wp_X1_forgetErrors σ P)) (va_Qv P (wB V) (AA V)) 0 0 (AA V) := by
  refine met_v V σ (own := RX1) (by decide +kernel) rfl (fun v hv => by simp at hv; subst hv; rfl) (Nat.le_of_ble_eq_true rfl) (fun X C D h => ?_) l
  show GG V X σ 0 [some (.ref (ad V 0)), none] []
  refine g_iconst C dX1_forgetErrors_0 ic_0 rfl ?_
  refine g_istore_n C dX1_forgetErrors_1 rfl (Nat.le_of_ble_eq_true rfl) (L' := [some (.ref (ad V 0)), some (.int 0)]) rfl rfl ?_
  refine h (fun (σ1 : Mem) (x2 : Int32) => GG V X σ1 2 [some (.ref (ad V 0)), some (.int x2)] []) (fun σ1 x2 h => ?_)
  refine g_iload_n C dX1_forgetErrors_2 rfl rfl rfl ?_
  refine g_bipush C dX1_forgetErrors_3 bp_40 rfl ?_
  refine g_icmp_ge C dX1_forgetErrors_5 (tgt := 42) rfl rfl (fun q => ?_) (fun q => ?_)
  · have h := h.1 q
    exact g_vret C dX1_forgetErrors_42 D h
  · have h := h.2 q
    refine g_aload_n C dX1_forgetErrors_8 rfl rfl rfl ?_
    refine f_X1_9 C dX1_forgetErrors_9 rfl ?_
    refine g_iload_n C dX1_forgetErrors_12 rfl rfl rfl ?_
    obtain ⟨hin, h⟩ := h
    refine g_zld C dX1_forgetErrors_13 arr_1 hin rfl ?_
    refine g_if_ne C dX1_forgetErrors_14 (tgt := 36) rfl rfl (fun q => ?_) (fun q => ?_)
    · have h := h.2 q
      refine g_iinc C dX1_forgetErrors_36 (v := x2 + 1) (by rw [ic_1]) rfl (Nat.le_of_ble_eq_true rfl) (L' := [some (.ref (ad V 0)), some (.int (x2 + 1))]) rfl rfl ?_
      refine g_goto C dX1_forgetErrors_39 (pc' := 2) rfl ?_
      exact h
    · have h := h.1 q
      refine g_aload_n C dX1_forgetErrors_17 rfl rfl rfl ?_
      refine f_X1_15 C dX1_forgetErrors_18 rfl ?_
      refine g_iload_n C dX1_forgetErrors_21 rfl rfl rfl ?_
      obtain ⟨hin, h⟩ := h
      refine g_ild C dX1_forgetErrors_22 arr_2 hin rfl ?_
      refine g_if_le C dX1_forgetErrors_23 (tgt := 36) rfl rfl (fun q => ?_) (fun q => ?_)
      · have h := h.1 q
        refine g_iinc C dX1_forgetErrors_36 (v := x2 + 1) (by rw [ic_1]) rfl (Nat.le_of_ble_eq_true rfl) (L' := [some (.ref (ad V 0)), some (.int (x2 + 1))]) rfl rfl ?_
        refine g_goto C dX1_forgetErrors_39 (pc' := 2) rfl ?_
        exact h
      · have h := h.2 q
        refine g_aload_n C dX1_forgetErrors_26 rfl rfl rfl ?_
        refine f_X1_15 C dX1_forgetErrors_27 rfl ?_
        refine g_iload_n C dX1_forgetErrors_30 rfl rfl rfl ?_
        refine g_dup2 C dX1_forgetErrors_31 rfl rfl rfl ?_
        obtain ⟨hin, h⟩ := h
        refine g_ild C dX1_forgetErrors_32 arr_2 hin rfl ?_
        refine g_iconst C dX1_forgetErrors_33 ic_1 rfl ?_
        refine g_isub C dX1_forgetErrors_34 rfl ?_
        obtain ⟨hin, h⟩ := h
        refine g_ist C dX1_forgetErrors_35 arr_2 hin rfl h (fun σ4 h => ?_)
        refine g_iinc C dX1_forgetErrors_36 (v := x2 + 1) (by rw [ic_1]) rfl (Nat.le_of_ble_eq_true rfl) (L' := [some (.ref (ad V 0)), some (.int (x2 + 1))]) rfl rfl ?_
        refine g_goto C dX1_forgetErrors_39 (pc' := 2) rfl ?_
        exact h
theorem hd_X1_forgetErrors : yX1_forgetErrors.cls ≠ "java/lang/invoke/MethodHandle" ∧ yX1_forgetErrors.cls ≠ "java/lang/invoke/VarHandle" ∧ (parseMethodDescriptor yX1_forgetErrors.desc).map (fun d => d.parameters.length) = some 0 := by decide +kernel
theorem k_X1_110 {V : EV} {X : CX} {cc : ByteArray} {nL : Nat} {R : Room} (C : OK V X RX1 cc nL R) {σ : Mem} {pc pc' : Nat} {L : List (Option Value)} {st : List Value} {P : Mem → Prop} (d : decode cc pc = .ok (.invokevirtual 110, 3)) (hst : (st.map fun v => v.category).sum ≤ 8) (hr : 0 + 1 ≤ R.frames ∧ 8 + (2 + 11) + 0 ≤ R.locals) (hL : L.length = nL) (hp : pc + 3 = pc') (h : wp_X1_forgetErrors σ P) (k : ∀ τ, P τ → GG V X τ pc' L st) : GG V X σ pc L (.ref (ad V 0) :: st) :=
  g_callVv C (av := []) (fun l => c_X1_forgetErrors V σ P l) (by decide) (en_0 V σ) (q := (RX1, TX1, 17)) rfl rfl ml_RX1_110 im_X1_forgetErrors se_X1_forgetErrors ini_RX1 co_X1_forgetErrors hd_X1_forgetErrors rfl ⟨rfl, rfl⟩ hr hst d hL hp h k

theorem dX1_waitingCells_0 : decode cX1_waitingCells 0 = .ok (.iconst 0, 1) := by decide +kernel
theorem dX1_waitingCells_1 : decode cX1_waitingCells 1 = .ok (.istore_n 1, 1) := by decide +kernel
theorem dX1_waitingCells_2 : decode cX1_waitingCells 2 = .ok (.iconst 0, 1) := by decide +kernel
theorem dX1_waitingCells_3 : decode cX1_waitingCells 3 = .ok (.istore_n 2, 1) := by decide +kernel
theorem dX1_waitingCells_4 : decode cX1_waitingCells 4 = .ok (.iload_n 2, 1) := by decide +kernel
theorem dX1_waitingCells_5 : decode cX1_waitingCells 5 = .ok (.bipush 40, 2) := by decide +kernel
theorem dX1_waitingCells_7 : decode cX1_waitingCells 7 = .ok (.if_icmp .ge 20, 3) := by decide +kernel
theorem dX1_waitingCells_10 : decode cX1_waitingCells 10 = .ok (.aload_n 0, 1) := by decide +kernel
theorem dX1_waitingCells_11 : decode cX1_waitingCells 11 = .ok (.iload_n 2, 1) := by decide +kernel
theorem dX1_waitingCells_12 : decode cX1_waitingCells 12 = .ok (.invokevirtual 119, 3) := by decide +kernel
theorem dX1_waitingCells_15 : decode cX1_waitingCells 15 = .ok (.ifCond .eq 6, 3) := by decide +kernel
theorem dX1_waitingCells_18 : decode cX1_waitingCells 18 = .ok (.iinc 1 1, 3) := by decide +kernel
theorem dX1_waitingCells_21 : decode cX1_waitingCells 21 = .ok (.iinc 2 1, 3) := by decide +kernel
theorem dX1_waitingCells_24 : decode cX1_waitingCells 24 = .ok (.goto (-20), 3) := by decide +kernel
theorem dX1_waitingCells_27 : decode cX1_waitingCells 27 = .ok (.iload_n 1, 1) := by decide +kernel
theorem dX1_waitingCells_28 : decode cX1_waitingCells 28 = .ok (.ireturn, 1) := by decide +kernel
def wp_X1_waitingCells (σ : Mem) (P : Int32 → Prop) : Prop :=
  lq2 (fun rec3 (x1 : Int32) (x2 : Int32) =>
    ((40 ≤ x2 →
      P x1) ∧
      (¬ 40 ≤ x2 →
      wp_X1_waits σ x2 (fun r4 =>
        ((r4 = 0 →
        rec3 x1 (x2 + 1)) ∧
        (¬ r4 = 0 →
        rec3 (x1 + 1) (x2 + 1))))))) 0 0
set_option maxRecDepth 100000 in
set_option maxHeartbeats 4000000 in
theorem c_X1_waitingCells (V : EV) (σ : Mem) (P : Int32 → Prop) (l : Launch) : Met l yX1_waitingCells (.code yX1_waitingCells cX1_waitingCells 3 (some .int) :: AW) { frames := 2, cells := 0, slots := 0, locals := 42 } (va_Pc [.ref (ad V 0)] (fun U => wP V σ U ∧ wp_X1_waitingCells σ P)) (va_Qi (fun r τ => τ = σ ∧ P r) (wB V) (AA V)) 0 0 (AA V) := by
  refine met_i V σ (own := RX1) (by decide +kernel) rfl (fun v hv => by simp at hv; subst hv; rfl) (Nat.le_of_ble_eq_true rfl) (fun X C D h => ?_) l
  show GG V X σ 0 [some (.ref (ad V 0)), none, none] []
  refine g_iconst C dX1_waitingCells_0 ic_0 rfl ?_
  refine g_istore_n C dX1_waitingCells_1 rfl (Nat.le_of_ble_eq_true rfl) (L' := [some (.ref (ad V 0)), some (.int 0), none]) rfl rfl ?_
  refine g_iconst C dX1_waitingCells_2 ic_0 rfl ?_
  refine g_istore_n C dX1_waitingCells_3 rfl (Nat.le_of_ble_eq_true rfl) (L' := [some (.ref (ad V 0)), some (.int 0), some (.int 0)]) rfl rfl ?_
  refine h (fun (x1 : Int32) (x2 : Int32) => GG V X σ 4 [some (.ref (ad V 0)), some (.int x1), some (.int x2)] []) (fun x1 x2 h => ?_)
  refine g_iload_n C dX1_waitingCells_4 rfl rfl rfl ?_
  refine g_bipush C dX1_waitingCells_5 bp_40 rfl ?_
  refine g_icmp_ge C dX1_waitingCells_7 (tgt := 27) rfl rfl (fun q => ?_) (fun q => ?_)
  · have h := h.1 q
    refine g_iload_n C dX1_waitingCells_27 rfl rfl rfl ?_
    exact g_iret C dX1_waitingCells_28 D ⟨rfl, h⟩
  · have h := h.2 q
    refine g_aload_n C dX1_waitingCells_10 rfl rfl rfl ?_
    refine g_iload_n C dX1_waitingCells_11 rfl rfl rfl ?_
    refine k_X1_119 C dX1_waitingCells_12 (Nat.le_of_ble_eq_true rfl) (by decide) rfl rfl h (fun r4 h => ?_)
    refine g_if_eq C dX1_waitingCells_15 (tgt := 21) rfl rfl (fun q => ?_) (fun q => ?_)
    · have h := h.1 q
      refine g_iinc C dX1_waitingCells_21 (v := x2 + 1) (by rw [ic_1]) rfl (Nat.le_of_ble_eq_true rfl) (L' := [some (.ref (ad V 0)), some (.int x1), some (.int (x2 + 1))]) rfl rfl ?_
      refine g_goto C dX1_waitingCells_24 (pc' := 4) rfl ?_
      exact h
    · have h := h.2 q
      refine g_iinc C dX1_waitingCells_18 (v := x1 + 1) (by rw [ic_1]) rfl (Nat.le_of_ble_eq_true rfl) (L' := [some (.ref (ad V 0)), some (.int (x1 + 1)), some (.int x2)]) rfl rfl ?_
      refine g_iinc C dX1_waitingCells_21 (v := x2 + 1) (by rw [ic_1]) rfl (Nat.le_of_ble_eq_true rfl) (L' := [some (.ref (ad V 0)), some (.int (x1 + 1)), some (.int (x2 + 1))]) rfl rfl ?_
      refine g_goto C dX1_waitingCells_24 (pc' := 4) rfl ?_
      exact h
theorem hd_X1_waitingCells : yX1_waitingCells.cls ≠ "java/lang/invoke/MethodHandle" ∧ yX1_waitingCells.cls ≠ "java/lang/invoke/VarHandle" ∧ (parseMethodDescriptor yX1_waitingCells.desc).map (fun d => d.parameters.length) = some 0 := by decide +kernel
theorem k_X1_113 {V : EV} {X : CX} {cc : ByteArray} {nL : Nat} {R : Room} (C : OK V X RX1 cc nL R) {σ : Mem} {pc pc' : Nat} {L : List (Option Value)} {st : List Value} {P : Int32 → Prop} (d : decode cc pc = .ok (.invokevirtual 113, 3)) (hst : (st.map fun v => v.category).sum ≤ 8) (hr : 2 + 1 ≤ R.frames ∧ 8 + (3 + 11) + 42 ≤ R.locals) (hL : L.length = nL) (hp : pc + 3 = pc') (h : wp_X1_waitingCells σ P) (k : ∀ r, P r → GG V X σ pc' L (.int r :: st)) : GG V X σ pc L (.ref (ad V 0) :: st) :=
  g_callVi C (av := []) (fun l => c_X1_waitingCells V σ P l) (by decide) (en_0 V σ) (q := (RX1, TX1, 17)) rfl rfl ml_RX1_113 im_X1_waitingCells se_X1_waitingCells ini_RX1 co_X1_waitingCells hd_X1_waitingCells rfl ⟨rfl, rfl⟩ hr hst d hL hp h (fun r τ hq => by obtain ⟨rfl, hq⟩ := hq; exact k r hq)

theorem dX1_letPass_0 : decode cX1_letPass 0 = .ok (.aload_n 0, 1) := by decide +kernel
theorem dX1_letPass_1 : decode cX1_letPass 1 = .ok (.getfield 59, 3) := by decide +kernel
theorem dX1_letPass_4 : decode cX1_letPass 4 = .ok (.iload_n 1, 1) := by decide +kernel
theorem dX1_letPass_5 : decode cX1_letPass 5 = .ok (.iadd, 1) := by decide +kernel
theorem dX1_letPass_6 : decode cX1_letPass 6 = .ok (.sipush 9999, 3) := by decide +kernel
theorem dX1_letPass_9 : decode cX1_letPass 9 = .ok (.if_icmp .le 6, 3) := by decide +kernel
theorem dX1_letPass_12 : decode cX1_letPass 12 = .ok (.bipush (-3), 2) := by decide +kernel
theorem dX1_letPass_14 : decode cX1_letPass 14 = .ok (.ireturn, 1) := by decide +kernel
theorem dX1_letPass_15 : decode cX1_letPass 15 = .ok (.iconst 0, 1) := by decide +kernel
theorem dX1_letPass_16 : decode cX1_letPass 16 = .ok (.istore_n 2, 1) := by decide +kernel
theorem dX1_letPass_17 : decode cX1_letPass 17 = .ok (.iload_n 2, 1) := by decide +kernel
theorem dX1_letPass_18 : decode cX1_letPass 18 = .ok (.iload_n 1, 1) := by decide +kernel
theorem dX1_letPass_19 : decode cX1_letPass 19 = .ok (.if_icmp .ge 30, 3) := by decide +kernel
theorem dX1_letPass_22 : decode cX1_letPass 22 = .ok (.aload_n 0, 1) := by decide +kernel
theorem dX1_letPass_23 : decode cX1_letPass 23 = .ok (.dup, 1) := by decide +kernel
theorem dX1_letPass_24 : decode cX1_letPass 24 = .ok (.getfield 59, 3) := by decide +kernel
theorem dX1_letPass_27 : decode cX1_letPass 27 = .ok (.iconst 1, 1) := by decide +kernel
theorem dX1_letPass_28 : decode cX1_letPass 28 = .ok (.iadd, 1) := by decide +kernel
theorem dX1_letPass_29 : decode cX1_letPass 29 = .ok (.putfield 59, 3) := by decide +kernel
theorem dX1_letPass_32 : decode cX1_letPass 32 = .ok (.aload_n 0, 1) := by decide +kernel
theorem dX1_letPass_33 : decode cX1_letPass 33 = .ok (.invokevirtual 106, 3) := by decide +kernel
theorem dX1_letPass_36 : decode cX1_letPass 36 = .ok (.ifCond .eq 7, 3) := by decide +kernel
theorem dX1_letPass_39 : decode cX1_letPass 39 = .ok (.aload_n 0, 1) := by decide +kernel
theorem dX1_letPass_40 : decode cX1_letPass 40 = .ok (.invokevirtual 110, 3) := by decide +kernel
theorem dX1_letPass_43 : decode cX1_letPass 43 = .ok (.iinc 2 1, 3) := by decide +kernel
theorem dX1_letPass_46 : decode cX1_letPass 46 = .ok (.goto (-29), 3) := by decide +kernel
theorem dX1_letPass_49 : decode cX1_letPass 49 = .ok (.aload_n 0, 1) := by decide +kernel
theorem dX1_letPass_50 : decode cX1_letPass 50 = .ok (.invokevirtual 83, 3) := by decide +kernel
theorem dX1_letPass_53 : decode cX1_letPass 53 = .ok (.pop, 1) := by decide +kernel
theorem dX1_letPass_54 : decode cX1_letPass 54 = .ok (.aload_n 0, 1) := by decide +kernel
theorem dX1_letPass_55 : decode cX1_letPass 55 = .ok (.invokevirtual 113, 3) := by decide +kernel
theorem dX1_letPass_58 : decode cX1_letPass 58 = .ok (.ireturn, 1) := by decide +kernel
def wp_X1_letPass (σ : Mem) (y1 : Int32) (P : Int32 → Mem → Prop) : Prop :=
  ((((σ 0 12) + y1) ≤ 9999 →
    lq2 (fun rec3 (σ1 : Mem) (x2 : Int32) =>
      ((y1 ≤ x2 →
        wp_X1_retireWhatCan σ1  (fun r4 σ5 =>
          wp_X1_waitingCells σ5  (fun r6 =>
          P r6 σ5))) ∧
        (¬ y1 ≤ x2 →
        bm (up2 σ1 0 12 ((σ1 0 12) + 1)) (fun σ7 =>
          wp_X1_isForgettingDay σ7  (fun r8 =>
          ((r8 = 0 →
          rec3 σ7 (x2 + 1)) ∧
          (¬ r8 = 0 →
          wp_X1_forgetErrors σ7  (fun σ9 =>
            rec3 σ9 (x2 + 1))))))))) σ 0) ∧
    (¬ ((σ 0 12) + y1) ≤ 9999 →
    P (-3) σ))
set_option maxRecDepth 100000 in
set_option maxHeartbeats 4000000 in
theorem c_X1_letPass (V : EV) (σ : Mem) (y1 : Int32) (P : Int32 → Mem → Prop) (l : Launch) : Met l yX1_letPass (.code yX1_letPass cX1_letPass 3 (some .int) :: AW) { frames := 4, cells := 0, slots := 0, locals := 91 } (va_Pc [.ref (ad V 0), .int y1] (fun U => wP V σ U ∧ wp_X1_letPass σ y1 P)) (va_Qi P (wB V) (AA V)) 0 0 (AA V) := by
  refine met_i V σ (own := RX1) (by decide +kernel) rfl (fun v hv => by simp at hv; rcases hv with rfl | rfl <;> rfl) (Nat.le_of_ble_eq_true rfl) (fun X C D h => ?_) l
  show GG V X σ 0 [some (.ref (ad V 0)), some (.int y1), none] []
  refine g_aload_n C dX1_letPass_0 rfl rfl rfl ?_
  refine f_X1_59 C dX1_letPass_1 rfl ?_
  refine g_iload_n C dX1_letPass_4 rfl rfl rfl ?_
  refine g_iadd C dX1_letPass_5 rfl ?_
  refine g_sipush C dX1_letPass_6 sp_9999 rfl ?_
  refine g_icmp_le C dX1_letPass_9 (tgt := 15) rfl rfl (fun q => ?_) (fun q => ?_)
  · have h := h.1 q
    refine g_iconst C dX1_letPass_15 ic_0 rfl ?_
    refine g_istore_n C dX1_letPass_16 rfl (Nat.le_of_ble_eq_true rfl) (L' := [some (.ref (ad V 0)), some (.int y1), some (.int 0)]) rfl rfl ?_
    refine h (fun (σ1 : Mem) (x2 : Int32) => GG V X σ1 17 [some (.ref (ad V 0)), some (.int y1), some (.int x2)] []) (fun σ1 x2 h => ?_)
    refine g_iload_n C dX1_letPass_17 rfl rfl rfl ?_
    refine g_iload_n C dX1_letPass_18 rfl rfl rfl ?_
    refine g_icmp_ge C dX1_letPass_19 (tgt := 49) rfl rfl (fun q => ?_) (fun q => ?_)
    · have h := h.1 q
      refine g_aload_n C dX1_letPass_49 rfl rfl rfl ?_
      refine k_X1_83 C dX1_letPass_50 (Nat.le_of_ble_eq_true rfl) (by decide) rfl rfl h (fun r4 σ5 h => ?_)
      refine g_pop C dX1_letPass_53 rfl rfl ?_
      refine g_aload_n C dX1_letPass_54 rfl rfl rfl ?_
      refine k_X1_113 C dX1_letPass_55 (Nat.le_of_ble_eq_true rfl) (by decide) rfl rfl h (fun r6 h => ?_)
      exact g_iret C dX1_letPass_58 D h
    · have h := h.2 q
      refine g_aload_n C dX1_letPass_22 rfl rfl rfl ?_
      refine g_dup C dX1_letPass_23 rfl rfl ?_
      refine f_X1_59 C dX1_letPass_24 rfl ?_
      refine g_iconst C dX1_letPass_27 ic_1 rfl ?_
      refine g_iadd C dX1_letPass_28 rfl ?_
      refine p_X1_59 C dX1_letPass_29 rfl h (fun σ7 h => ?_)
      refine g_aload_n C dX1_letPass_32 rfl rfl rfl ?_
      refine k_X1_106 C dX1_letPass_33 (Nat.le_of_ble_eq_true rfl) (by decide) rfl rfl h (fun r8 h => ?_)
      refine g_if_eq C dX1_letPass_36 (tgt := 43) rfl rfl (fun q => ?_) (fun q => ?_)
      · have h := h.1 q
        refine g_iinc C dX1_letPass_43 (v := x2 + 1) (by rw [ic_1]) rfl (Nat.le_of_ble_eq_true rfl) (L' := [some (.ref (ad V 0)), some (.int y1), some (.int (x2 + 1))]) rfl rfl ?_
        refine g_goto C dX1_letPass_46 (pc' := 17) rfl ?_
        exact h
      · have h := h.2 q
        refine g_aload_n C dX1_letPass_39 rfl rfl rfl ?_
        refine k_X1_110 C dX1_letPass_40 (Nat.le_of_ble_eq_true rfl) (by decide) rfl rfl h (fun σ9 h => ?_)
        refine g_iinc C dX1_letPass_43 (v := x2 + 1) (by rw [ic_1]) rfl (Nat.le_of_ble_eq_true rfl) (L' := [some (.ref (ad V 0)), some (.int y1), some (.int (x2 + 1))]) rfl rfl ?_
        refine g_goto C dX1_letPass_46 (pc' := 17) rfl ?_
        exact h
  · have h := h.2 q
    refine g_bipush C dX1_letPass_12 bp_m3 rfl ?_
    exact g_iret C dX1_letPass_14 D h
theorem hd_X1_letPass : yX1_letPass.cls ≠ "java/lang/invoke/MethodHandle" ∧ yX1_letPass.cls ≠ "java/lang/invoke/VarHandle" ∧ (parseMethodDescriptor yX1_letPass.desc).map (fun d => d.parameters.length) = some 1 := by decide +kernel
theorem k_X4_100 {V : EV} {X : CX} {cc : ByteArray} {nL : Nat} {R : Room} {y1 : Int32} (C : OK V X RX4 cc nL R) {σ : Mem} {pc pc' : Nat} {L : List (Option Value)} {st : List Value} {P : Int32 → Mem → Prop} (d : decode cc pc = .ok (.invokevirtual 100, 3)) (hst : (st.map fun v => v.category).sum ≤ 8) (hr : 4 + 1 ≤ R.frames ∧ 8 + (3 + 11) + 91 ≤ R.locals) (hL : L.length = nL) (hp : pc + 3 = pc') (h : wp_X1_letPass σ y1 P) (k : ∀ r τ, P r τ → GG V X τ pc' L (.int r :: st)) : GG V X σ pc L (.int y1 :: .ref (ad V 0) :: st) :=
  g_callVi C (av := [.int y1]) (fun l => c_X1_letPass V σ y1 P l) (by decide) (en_0 V σ) (q := (RX1, TX1, 17)) rfl rfl ml_RX4_100 im_X1_letPass se_X1_letPass ini_RX1 co_X1_letPass hd_X1_letPass rfl ⟨rfl, rfl⟩ hr hst d hL hp h k

theorem dX1_changeSetting_0 : decode cX1_changeSetting 0 = .ok (.aload_n 0, 1) := by decide +kernel
theorem dX1_changeSetting_1 : decode cX1_changeSetting 1 = .ok (.getfield 43, 3) := by decide +kernel
theorem dX1_changeSetting_4 : decode cX1_changeSetting 4 = .ok (.iload_n 1, 1) := by decide +kernel
theorem dX1_changeSetting_5 : decode cX1_changeSetting 5 = .ok (.iaload, 1) := by decide +kernel
theorem dX1_changeSetting_6 : decode cX1_changeSetting 6 = .ok (.istore_n 3, 1) := by decide +kernel
theorem dX1_changeSetting_7 : decode cX1_changeSetting 7 = .ok (.iload_n 3, 1) := by decide +kernel
theorem dX1_changeSetting_8 : decode cX1_changeSetting 8 = .ok (.iload_n 2, 1) := by decide +kernel
theorem dX1_changeSetting_9 : decode cX1_changeSetting 9 = .ok (.if_icmp .ne 6, 3) := by decide +kernel
theorem dX1_changeSetting_12 : decode cX1_changeSetting 12 = .ok (.bipush (-5), 2) := by decide +kernel
theorem dX1_changeSetting_14 : decode cX1_changeSetting 14 = .ok (.ireturn, 1) := by decide +kernel
theorem dX1_changeSetting_15 : decode cX1_changeSetting 15 = .ok (.aload_n 0, 1) := by decide +kernel
theorem dX1_changeSetting_16 : decode cX1_changeSetting 16 = .ok (.getfield 43, 3) := by decide +kernel
theorem dX1_changeSetting_19 : decode cX1_changeSetting 19 = .ok (.iload_n 1, 1) := by decide +kernel
theorem dX1_changeSetting_20 : decode cX1_changeSetting 20 = .ok (.iload_n 2, 1) := by decide +kernel
theorem dX1_changeSetting_21 : decode cX1_changeSetting 21 = .ok (.iastore, 1) := by decide +kernel
theorem dX1_changeSetting_22 : decode cX1_changeSetting 22 = .ok (.aload_n 0, 1) := by decide +kernel
theorem dX1_changeSetting_23 : decode cX1_changeSetting 23 = .ok (.invokevirtual 83, 3) := by decide +kernel
theorem dX1_changeSetting_26 : decode cX1_changeSetting 26 = .ok (.pop, 1) := by decide +kernel
theorem dX1_changeSetting_27 : decode cX1_changeSetting 27 = .ok (.iload_n 3, 1) := by decide +kernel
theorem dX1_changeSetting_28 : decode cX1_changeSetting 28 = .ok (.ireturn, 1) := by decide +kernel
def wp_X1_changeSetting (σ : Mem) (y1 : Int32) (y2 : Int32) (P : Int32 → Mem → Prop) : Prop :=
  vp_in y1 3 ∧ (((σ 11 y1.toNatClampNeg) = y2 →
    P (-5) σ) ∧
    (¬ (σ 11 y1.toNatClampNeg) = y2 →
    vp_in y1 3 ∧ bm (up2 σ 11 y1.toNatClampNeg y2) (fun σ1 =>
      wp_X1_retireWhatCan σ1  (fun r2 σ3 =>
      P (σ 11 y1.toNatClampNeg) σ3))))
set_option maxRecDepth 100000 in
set_option maxHeartbeats 4000000 in
theorem c_X1_changeSetting (V : EV) (σ : Mem) (y1 : Int32) (y2 : Int32) (P : Int32 → Mem → Prop) (l : Launch) : Met l yX1_changeSetting (.code yX1_changeSetting cX1_changeSetting 4 (some .int) :: AW) { frames := 4, cells := 0, slots := 0, locals := 91 } (va_Pc [.ref (ad V 0), .int y1, .int y2] (fun U => wP V σ U ∧ wp_X1_changeSetting σ y1 y2 P)) (va_Qi P (wB V) (AA V)) 0 0 (AA V) := by
  refine met_i V σ (own := RX1) (by decide +kernel) rfl (fun v hv => by simp at hv; rcases hv with rfl | rfl | rfl <;> rfl) (Nat.le_of_ble_eq_true rfl) (fun X C D h => ?_) l
  show GG V X σ 0 [some (.ref (ad V 0)), some (.int y1), some (.int y2), none] []
  refine g_aload_n C dX1_changeSetting_0 rfl rfl rfl ?_
  refine f_X1_43 C dX1_changeSetting_1 rfl ?_
  refine g_iload_n C dX1_changeSetting_4 rfl rfl rfl ?_
  obtain ⟨hin, h⟩ := h
  refine g_ild C dX1_changeSetting_5 arr_11 hin rfl ?_
  refine g_istore_n C dX1_changeSetting_6 rfl (Nat.le_of_ble_eq_true rfl) (L' := [some (.ref (ad V 0)), some (.int y1), some (.int y2), some (.int (σ 11 y1.toNatClampNeg))]) rfl rfl ?_
  refine g_iload_n C dX1_changeSetting_7 rfl rfl rfl ?_
  refine g_iload_n C dX1_changeSetting_8 rfl rfl rfl ?_
  refine g_icmp_ne C dX1_changeSetting_9 (tgt := 15) rfl rfl (fun q => ?_) (fun q => ?_)
  · have h := h.2 q
    refine g_aload_n C dX1_changeSetting_15 rfl rfl rfl ?_
    refine f_X1_43 C dX1_changeSetting_16 rfl ?_
    refine g_iload_n C dX1_changeSetting_19 rfl rfl rfl ?_
    refine g_iload_n C dX1_changeSetting_20 rfl rfl rfl ?_
    obtain ⟨hin, h⟩ := h
    refine g_ist C dX1_changeSetting_21 arr_11 hin rfl h (fun σ1 h => ?_)
    refine g_aload_n C dX1_changeSetting_22 rfl rfl rfl ?_
    refine k_X1_83 C dX1_changeSetting_23 (Nat.le_of_ble_eq_true rfl) (by decide) rfl rfl h (fun r2 σ3 h => ?_)
    refine g_pop C dX1_changeSetting_26 rfl rfl ?_
    refine g_iload_n C dX1_changeSetting_27 rfl rfl rfl ?_
    exact g_iret C dX1_changeSetting_28 D h
  · have h := h.1 q
    refine g_bipush C dX1_changeSetting_12 bp_m5 rfl ?_
    exact g_iret C dX1_changeSetting_14 D h
theorem hd_X1_changeSetting : yX1_changeSetting.cls ≠ "java/lang/invoke/MethodHandle" ∧ yX1_changeSetting.cls ≠ "java/lang/invoke/VarHandle" ∧ (parseMethodDescriptor yX1_changeSetting.desc).map (fun d => d.parameters.length) = some 2 := by decide +kernel
theorem k_X4_109 {V : EV} {X : CX} {cc : ByteArray} {nL : Nat} {R : Room} {y1 : Int32} {y2 : Int32} (C : OK V X RX4 cc nL R) {σ : Mem} {pc pc' : Nat} {L : List (Option Value)} {st : List Value} {P : Int32 → Mem → Prop} (d : decode cc pc = .ok (.invokevirtual 109, 3)) (hst : (st.map fun v => v.category).sum ≤ 8) (hr : 4 + 1 ≤ R.frames ∧ 8 + (4 + 11) + 91 ≤ R.locals) (hL : L.length = nL) (hp : pc + 3 = pc') (h : wp_X1_changeSetting σ y1 y2 P) (k : ∀ r τ, P r τ → GG V X τ pc' L (.int r :: st)) : GG V X σ pc L (.int y2 :: .int y1 :: .ref (ad V 0) :: st) :=
  g_callVi C (av := [.int y1, .int y2]) (fun l => c_X1_changeSetting V σ y1 y2 P l) (by decide) (en_0 V σ) (q := (RX1, TX1, 17)) rfl rfl ml_RX4_109 im_X1_changeSetting se_X1_changeSetting ini_RX1 co_X1_changeSetting hd_X1_changeSetting rfl ⟨rfl, rfl⟩ hr hst d hL hp h k

theorem dX1_tellPage_0 : decode cX1_tellPage 0 = .ok (.iload_n 2, 1) := by decide +kernel
theorem dX1_tellPage_1 : decode cX1_tellPage 1 = .ok (.tableswitch 80 0 3 #[31, 38, 58, 73], 31) := by decide +kernel
theorem dX1_tellPage_32 : decode cX1_tellPage 32 = .ok (.aload_n 0, 1) := by decide +kernel
theorem dX1_tellPage_33 : decode cX1_tellPage 33 = .ok (.getfield 22, 3) := by decide +kernel
theorem dX1_tellPage_36 : decode cX1_tellPage 36 = .ok (.iload_n 1, 1) := by decide +kernel
theorem dX1_tellPage_37 : decode cX1_tellPage 37 = .ok (.iaload, 1) := by decide +kernel
theorem dX1_tellPage_38 : decode cX1_tellPage 38 = .ok (.ireturn, 1) := by decide +kernel
theorem dX1_tellPage_39 : decode cX1_tellPage 39 = .ok (.aload_n 0, 1) := by decide +kernel
theorem dX1_tellPage_40 : decode cX1_tellPage 40 = .ok (.iload_n 1, 1) := by decide +kernel
theorem dX1_tellPage_41 : decode cX1_tellPage 41 = .ok (.invokevirtual 71, 3) := by decide +kernel
theorem dX1_tellPage_44 : decode cX1_tellPage 44 = .ok (.ifCond .eq 12, 3) := by decide +kernel
theorem dX1_tellPage_47 : decode cX1_tellPage 47 = .ok (.aload_n 0, 1) := by decide +kernel
theorem dX1_tellPage_48 : decode cX1_tellPage 48 = .ok (.getfield 25, 3) := by decide +kernel
theorem dX1_tellPage_51 : decode cX1_tellPage 51 = .ok (.iload_n 1, 1) := by decide +kernel
theorem dX1_tellPage_52 : decode cX1_tellPage 52 = .ok (.iaload, 1) := by decide +kernel
theorem dX1_tellPage_53 : decode cX1_tellPage 53 = .ok (.goto 5, 3) := by decide +kernel
theorem dX1_tellPage_56 : decode cX1_tellPage 56 = .ok (.bipush (-5), 2) := by decide +kernel
theorem dX1_tellPage_58 : decode cX1_tellPage 58 = .ok (.ireturn, 1) := by decide +kernel
theorem dX1_tellPage_59 : decode cX1_tellPage 59 = .ok (.aload_n 0, 1) := by decide +kernel
theorem dX1_tellPage_60 : decode cX1_tellPage 60 = .ok (.getfield 28, 3) := by decide +kernel
theorem dX1_tellPage_63 : decode cX1_tellPage 63 = .ok (.iload_n 1, 1) := by decide +kernel
theorem dX1_tellPage_64 : decode cX1_tellPage 64 = .ok (.baload, 1) := by decide +kernel
theorem dX1_tellPage_65 : decode cX1_tellPage 65 = .ok (.ifCond .eq 7, 3) := by decide +kernel
theorem dX1_tellPage_68 : decode cX1_tellPage 68 = .ok (.iconst 1, 1) := by decide +kernel
theorem dX1_tellPage_69 : decode cX1_tellPage 69 = .ok (.goto 4, 3) := by decide +kernel
theorem dX1_tellPage_72 : decode cX1_tellPage 72 = .ok (.iconst 0, 1) := by decide +kernel
theorem dX1_tellPage_73 : decode cX1_tellPage 73 = .ok (.ireturn, 1) := by decide +kernel
theorem dX1_tellPage_74 : decode cX1_tellPage 74 = .ok (.aload_n 0, 1) := by decide +kernel
theorem dX1_tellPage_75 : decode cX1_tellPage 75 = .ok (.getfield 31, 3) := by decide +kernel
theorem dX1_tellPage_78 : decode cX1_tellPage 78 = .ok (.iload_n 1, 1) := by decide +kernel
theorem dX1_tellPage_79 : decode cX1_tellPage 79 = .ok (.iaload, 1) := by decide +kernel
theorem dX1_tellPage_80 : decode cX1_tellPage 80 = .ok (.ireturn, 1) := by decide +kernel
theorem dX1_tellPage_81 : decode cX1_tellPage 81 = .ok (.bipush (-2), 2) := by decide +kernel
theorem dX1_tellPage_83 : decode cX1_tellPage 83 = .ok (.ireturn, 1) := by decide +kernel
def wp_X1_tellPage (σ : Mem) (y1 : Int32) (y2 : Int32) (P : Int32 → Prop) : Prop :=
  ((y2 = 0 →
    vp_in y1 50 ∧ P (σ 4 y1.toNatClampNeg)) ∧
    (¬ y2 = 0 →
    ((y2 = 1 →
    wp_X1_hasCell σ y1 (fun r1 =>
      ((r1 = 0 →
      P (-5)) ∧
      (¬ r1 = 0 →
      vp_in y1 50 ∧ P (σ 5 y1.toNatClampNeg))))) ∧
    (¬ y2 = 1 →
    ((y2 = 2 →
    vp_in y1 50 ∧ (((σ 6 y1.toNatClampNeg) = 0 →
      P 0) ∧
      (¬ (σ 6 y1.toNatClampNeg) = 0 →
      P 1))) ∧
    (¬ y2 = 2 →
    ((y2 = 3 →
    vp_in y1 50 ∧ P (σ 7 y1.toNatClampNeg)) ∧
    (¬ y2 = 3 →
    P (-2)))))))))
set_option maxRecDepth 100000 in
set_option maxHeartbeats 4000000 in
theorem c_X1_tellPage (V : EV) (σ : Mem) (y1 : Int32) (y2 : Int32) (P : Int32 → Prop) (l : Launch) : Met l yX1_tellPage (.code yX1_tellPage cX1_tellPage 3 (some .int) :: AW) { frames := 1, cells := 0, slots := 0, locals := 21 } (va_Pc [.ref (ad V 0), .int y1, .int y2] (fun U => wP V σ U ∧ wp_X1_tellPage σ y1 y2 P)) (va_Qi (fun r τ => τ = σ ∧ P r) (wB V) (AA V)) 0 0 (AA V) := by
  refine met_i V σ (own := RX1) (by decide +kernel) rfl (fun v hv => by simp at hv; rcases hv with rfl | rfl | rfl <;> rfl) (Nat.le_of_ble_eq_true rfl) (fun X C D h => ?_) l
  show GG V X σ 0 [some (.ref (ad V 0)), some (.int y1), some (.int y2)] []
  refine g_iload_n C dX1_tellPage_0 rfl rfl rfl ?_
  by_cases q0 : y2 = 0
  · have h := h.1 q0
    refine g_tinK C dX1_tellPage_1 q0 (by decide) (by decide) (off := 31) (by rfl) (pc' := 32) rfl ?_
    refine g_aload_n C dX1_tellPage_32 rfl rfl rfl ?_
    refine f_X1_22 C dX1_tellPage_33 rfl ?_
    refine g_iload_n C dX1_tellPage_36 rfl rfl rfl ?_
    obtain ⟨hin, h⟩ := h
    refine g_ild C dX1_tellPage_37 arr_4 hin rfl ?_
    exact g_iret C dX1_tellPage_38 D ⟨rfl, h⟩
  have h := h.2 q0
  by_cases q1 : y2 = 1
  · have h := h.1 q1
    refine g_tinK C dX1_tellPage_1 q1 (by decide) (by decide) (off := 38) (by rfl) (pc' := 39) rfl ?_
    refine g_aload_n C dX1_tellPage_39 rfl rfl rfl ?_
    refine g_iload_n C dX1_tellPage_40 rfl rfl rfl ?_
    refine k_X1_71 C dX1_tellPage_41 (Nat.le_of_ble_eq_true rfl) (by decide) rfl rfl h (fun r1 h => ?_)
    refine g_if_eq C dX1_tellPage_44 (tgt := 56) rfl rfl (fun q => ?_) (fun q => ?_)
    · have h := h.1 q
      refine g_bipush C dX1_tellPage_56 bp_m5 rfl ?_
      exact g_iret C dX1_tellPage_58 D ⟨rfl, h⟩
    · have h := h.2 q
      refine g_aload_n C dX1_tellPage_47 rfl rfl rfl ?_
      refine f_X1_25 C dX1_tellPage_48 rfl ?_
      refine g_iload_n C dX1_tellPage_51 rfl rfl rfl ?_
      obtain ⟨hin, h⟩ := h
      refine g_ild C dX1_tellPage_52 arr_5 hin rfl ?_
      refine g_goto C dX1_tellPage_53 (pc' := 58) rfl ?_
      exact g_iret C dX1_tellPage_58 D ⟨rfl, h⟩
  have h := h.2 q1
  by_cases q2 : y2 = 2
  · have h := h.1 q2
    refine g_tinK C dX1_tellPage_1 q2 (by decide) (by decide) (off := 58) (by rfl) (pc' := 59) rfl ?_
    refine g_aload_n C dX1_tellPage_59 rfl rfl rfl ?_
    refine f_X1_28 C dX1_tellPage_60 rfl ?_
    refine g_iload_n C dX1_tellPage_63 rfl rfl rfl ?_
    obtain ⟨hin, h⟩ := h
    refine g_zld C dX1_tellPage_64 arr_6 hin rfl ?_
    refine g_if_eq C dX1_tellPage_65 (tgt := 72) rfl rfl (fun q => ?_) (fun q => ?_)
    · have h := h.1 q
      refine g_iconst C dX1_tellPage_72 ic_0 rfl ?_
      exact g_iret C dX1_tellPage_73 D ⟨rfl, h⟩
    · have h := h.2 q
      refine g_iconst C dX1_tellPage_68 ic_1 rfl ?_
      refine g_goto C dX1_tellPage_69 (pc' := 73) rfl ?_
      exact g_iret C dX1_tellPage_73 D ⟨rfl, h⟩
  have h := h.2 q2
  by_cases q3 : y2 = 3
  · have h := h.1 q3
    refine g_tinK C dX1_tellPage_1 q3 (by decide) (by decide) (off := 73) (by rfl) (pc' := 74) rfl ?_
    refine g_aload_n C dX1_tellPage_74 rfl rfl rfl ?_
    refine f_X1_31 C dX1_tellPage_75 rfl ?_
    refine g_iload_n C dX1_tellPage_78 rfl rfl rfl ?_
    obtain ⟨hin, h⟩ := h
    refine g_ild C dX1_tellPage_79 arr_7 hin rfl ?_
    exact g_iret C dX1_tellPage_80 D ⟨rfl, h⟩
  have h := h.2 q3
  have hout : ((y2).toInt < 0 ∨ 3 < (y2).toInt) := by
    rcases tsw_cases (y2) 0 4 with hq | ⟨k, hk, he⟩
    · omega
    · rcases (show k = 0 ∨ k = 1 ∨ k = 2 ∨ k = 3 by omega) with rfl | rfl | rfl | rfl
      · exact absurd (i32_of he (by decide)) q0
      · exact absurd (i32_of he (by decide)) q1
      · exact absurd (i32_of he (by decide)) q2
      · exact absurd (i32_of he (by decide)) q3
  refine g_tout C dX1_tellPage_1 hout (pc' := 81) rfl ?_
  refine g_bipush C dX1_tellPage_81 bp_m2 rfl ?_
  exact g_iret C dX1_tellPage_83 D ⟨rfl, h⟩
theorem hd_X1_tellPage : yX1_tellPage.cls ≠ "java/lang/invoke/MethodHandle" ∧ yX1_tellPage.cls ≠ "java/lang/invoke/VarHandle" ∧ (parseMethodDescriptor yX1_tellPage.desc).map (fun d => d.parameters.length) = some 2 := by decide +kernel
theorem k_X4_138 {V : EV} {X : CX} {cc : ByteArray} {nL : Nat} {R : Room} {y1 : Int32} {y2 : Int32} (C : OK V X RX4 cc nL R) {σ : Mem} {pc pc' : Nat} {L : List (Option Value)} {st : List Value} {P : Int32 → Prop} (d : decode cc pc = .ok (.invokevirtual 138, 3)) (hst : (st.map fun v => v.category).sum ≤ 8) (hr : 1 + 1 ≤ R.frames ∧ 8 + (3 + 11) + 21 ≤ R.locals) (hL : L.length = nL) (hp : pc + 3 = pc') (h : wp_X1_tellPage σ y1 y2 P) (k : ∀ r, P r → GG V X σ pc' L (.int r :: st)) : GG V X σ pc L (.int y2 :: .int y1 :: .ref (ad V 0) :: st) :=
  g_callVi C (av := [.int y1, .int y2]) (fun l => c_X1_tellPage V σ y1 y2 P l) (by decide) (en_0 V σ) (q := (RX1, TX1, 17)) rfl rfl ml_RX4_138 im_X1_tellPage se_X1_tellPage ini_RX1 co_X1_tellPage hd_X1_tellPage rfl ⟨rfl, rfl⟩ hr hst d hL hp h (fun r τ hq => by obtain ⟨rfl, hq⟩ := hq; exact k r hq)

theorem dX1_pagesWithCells_0 : decode cX1_pagesWithCells 0 = .ok (.iconst 0, 1) := by decide +kernel
theorem dX1_pagesWithCells_1 : decode cX1_pagesWithCells 1 = .ok (.istore_n 2, 1) := by decide +kernel
theorem dX1_pagesWithCells_2 : decode cX1_pagesWithCells 2 = .ok (.iconst 0, 1) := by decide +kernel
theorem dX1_pagesWithCells_3 : decode cX1_pagesWithCells 3 = .ok (.istore_n 3, 1) := by decide +kernel
theorem dX1_pagesWithCells_4 : decode cX1_pagesWithCells 4 = .ok (.iload_n 3, 1) := by decide +kernel
theorem dX1_pagesWithCells_5 : decode cX1_pagesWithCells 5 = .ok (.bipush 10, 2) := by decide +kernel
theorem dX1_pagesWithCells_7 : decode cX1_pagesWithCells 7 = .ok (.if_icmp .ge 24, 3) := by decide +kernel
theorem dX1_pagesWithCells_10 : decode cX1_pagesWithCells 10 = .ok (.aload_n 0, 1) := by decide +kernel
theorem dX1_pagesWithCells_11 : decode cX1_pagesWithCells 11 = .ok (.iload_n 1, 1) := by decide +kernel
theorem dX1_pagesWithCells_12 : decode cX1_pagesWithCells 12 = .ok (.iload_n 3, 1) := by decide +kernel
theorem dX1_pagesWithCells_13 : decode cX1_pagesWithCells 13 = .ok (.invokestatic 153, 3) := by decide +kernel
theorem dX1_pagesWithCells_16 : decode cX1_pagesWithCells 16 = .ok (.invokevirtual 71, 3) := by decide +kernel
theorem dX1_pagesWithCells_19 : decode cX1_pagesWithCells 19 = .ok (.ifCond .eq 6, 3) := by decide +kernel
theorem dX1_pagesWithCells_22 : decode cX1_pagesWithCells 22 = .ok (.iinc 2 1, 3) := by decide +kernel
theorem dX1_pagesWithCells_25 : decode cX1_pagesWithCells 25 = .ok (.iinc 3 1, 3) := by decide +kernel
theorem dX1_pagesWithCells_28 : decode cX1_pagesWithCells 28 = .ok (.goto (-24), 3) := by decide +kernel
theorem dX1_pagesWithCells_31 : decode cX1_pagesWithCells 31 = .ok (.iload_n 2, 1) := by decide +kernel
theorem dX1_pagesWithCells_32 : decode cX1_pagesWithCells 32 = .ok (.ireturn, 1) := by decide +kernel
def wp_X1_pagesWithCells (σ : Mem) (y1 : Int32) (P : Int32 → Prop) : Prop :=
  lq2 (fun rec3 (x1 : Int32) (x2 : Int32) =>
    ((10 ≤ x2 →
      P x1) ∧
      (¬ 10 ≤ x2 →
      wp_X4_pageIndex σ y1 x2 (fun r4 =>
        wp_X1_hasCell σ r4 (fun r5 =>
        ((r5 = 0 →
        rec3 x1 (x2 + 1)) ∧
        (¬ r5 = 0 →
        rec3 (x1 + 1) (x2 + 1)))))))) 0 0
set_option maxRecDepth 100000 in
set_option maxHeartbeats 4000000 in
theorem c_X1_pagesWithCells (V : EV) (σ : Mem) (y1 : Int32) (P : Int32 → Prop) (l : Launch) : Met l yX1_pagesWithCells (.code yX1_pagesWithCells cX1_pagesWithCells 4 (some .int) :: AW) { frames := 1, cells := 0, slots := 0, locals := 21 } (va_Pc [.ref (ad V 0), .int y1] (fun U => wP V σ U ∧ wp_X1_pagesWithCells σ y1 P)) (va_Qi (fun r τ => τ = σ ∧ P r) (wB V) (AA V)) 0 0 (AA V) := by
  refine met_i V σ (own := RX1) (by decide +kernel) rfl (fun v hv => by simp at hv; rcases hv with rfl | rfl <;> rfl) (Nat.le_of_ble_eq_true rfl) (fun X C D h => ?_) l
  show GG V X σ 0 [some (.ref (ad V 0)), some (.int y1), none, none] []
  refine g_iconst C dX1_pagesWithCells_0 ic_0 rfl ?_
  refine g_istore_n C dX1_pagesWithCells_1 rfl (Nat.le_of_ble_eq_true rfl) (L' := [some (.ref (ad V 0)), some (.int y1), some (.int 0), none]) rfl rfl ?_
  refine g_iconst C dX1_pagesWithCells_2 ic_0 rfl ?_
  refine g_istore_n C dX1_pagesWithCells_3 rfl (Nat.le_of_ble_eq_true rfl) (L' := [some (.ref (ad V 0)), some (.int y1), some (.int 0), some (.int 0)]) rfl rfl ?_
  refine h (fun (x1 : Int32) (x2 : Int32) => GG V X σ 4 [some (.ref (ad V 0)), some (.int y1), some (.int x1), some (.int x2)] []) (fun x1 x2 h => ?_)
  refine g_iload_n C dX1_pagesWithCells_4 rfl rfl rfl ?_
  refine g_bipush C dX1_pagesWithCells_5 bp_10 rfl ?_
  refine g_icmp_ge C dX1_pagesWithCells_7 (tgt := 31) rfl rfl (fun q => ?_) (fun q => ?_)
  · have h := h.1 q
    refine g_iload_n C dX1_pagesWithCells_31 rfl rfl rfl ?_
    exact g_iret C dX1_pagesWithCells_32 D ⟨rfl, h⟩
  · have h := h.2 q
    refine g_aload_n C dX1_pagesWithCells_10 rfl rfl rfl ?_
    refine g_iload_n C dX1_pagesWithCells_11 rfl rfl rfl ?_
    refine g_iload_n C dX1_pagesWithCells_12 rfl rfl rfl ?_
    refine k_X1_153 C dX1_pagesWithCells_13 (Nat.le_of_ble_eq_true rfl) (by decide) rfl rfl h (fun r4 h => ?_)
    refine k_X1_71 C dX1_pagesWithCells_16 (Nat.le_of_ble_eq_true rfl) (by decide) rfl rfl h (fun r5 h => ?_)
    refine g_if_eq C dX1_pagesWithCells_19 (tgt := 25) rfl rfl (fun q => ?_) (fun q => ?_)
    · have h := h.1 q
      refine g_iinc C dX1_pagesWithCells_25 (v := x2 + 1) (by rw [ic_1]) rfl (Nat.le_of_ble_eq_true rfl) (L' := [some (.ref (ad V 0)), some (.int y1), some (.int x1), some (.int (x2 + 1))]) rfl rfl ?_
      refine g_goto C dX1_pagesWithCells_28 (pc' := 4) rfl ?_
      exact h
    · have h := h.2 q
      refine g_iinc C dX1_pagesWithCells_22 (v := x1 + 1) (by rw [ic_1]) rfl (Nat.le_of_ble_eq_true rfl) (L' := [some (.ref (ad V 0)), some (.int y1), some (.int (x1 + 1)), some (.int x2)]) rfl rfl ?_
      refine g_iinc C dX1_pagesWithCells_25 (v := x2 + 1) (by rw [ic_1]) rfl (Nat.le_of_ble_eq_true rfl) (L' := [some (.ref (ad V 0)), some (.int y1), some (.int (x1 + 1)), some (.int (x2 + 1))]) rfl rfl ?_
      refine g_goto C dX1_pagesWithCells_28 (pc' := 4) rfl ?_
      exact h
theorem hd_X1_pagesWithCells : yX1_pagesWithCells.cls ≠ "java/lang/invoke/MethodHandle" ∧ yX1_pagesWithCells.cls ≠ "java/lang/invoke/VarHandle" ∧ (parseMethodDescriptor yX1_pagesWithCells.desc).map (fun d => d.parameters.length) = some 1 := by decide +kernel
theorem k_X1_128 {V : EV} {X : CX} {cc : ByteArray} {nL : Nat} {R : Room} {y1 : Int32} (C : OK V X RX1 cc nL R) {σ : Mem} {pc pc' : Nat} {L : List (Option Value)} {st : List Value} {P : Int32 → Prop} (d : decode cc pc = .ok (.invokevirtual 128, 3)) (hst : (st.map fun v => v.category).sum ≤ 8) (hr : 1 + 1 ≤ R.frames ∧ 8 + (4 + 11) + 21 ≤ R.locals) (hL : L.length = nL) (hp : pc + 3 = pc') (h : wp_X1_pagesWithCells σ y1 P) (k : ∀ r, P r → GG V X σ pc' L (.int r :: st)) : GG V X σ pc L (.int y1 :: .ref (ad V 0) :: st) :=
  g_callVi C (av := [.int y1]) (fun l => c_X1_pagesWithCells V σ y1 P l) (by decide) (en_0 V σ) (q := (RX1, TX1, 17)) rfl rfl ml_RX1_128 im_X1_pagesWithCells se_X1_pagesWithCells ini_RX1 co_X1_pagesWithCells hd_X1_pagesWithCells rfl ⟨rfl, rfl⟩ hr hst d hL hp h (fun r τ hq => by obtain ⟨rfl, hq⟩ := hq; exact k r hq)

theorem dX1_tellProgram_0 : decode cX1_tellProgram 0 = .ok (.iload_n 2, 1) := by decide +kernel
theorem dX1_tellProgram_1 : decode cX1_tellProgram 1 = .ok (.tableswitch 57 0 3 #[31, 37, 43, 50], 31) := by decide +kernel
theorem dX1_tellProgram_32 : decode cX1_tellProgram 32 = .ok (.aload_n 0, 1) := by decide +kernel
theorem dX1_tellProgram_33 : decode cX1_tellProgram 33 = .ok (.iload_n 1, 1) := by decide +kernel
theorem dX1_tellProgram_34 : decode cX1_tellProgram 34 = .ok (.invokevirtual 128, 3) := by decide +kernel
theorem dX1_tellProgram_37 : decode cX1_tellProgram 37 = .ok (.ireturn, 1) := by decide +kernel
theorem dX1_tellProgram_38 : decode cX1_tellProgram 38 = .ok (.aload_n 0, 1) := by decide +kernel
theorem dX1_tellProgram_39 : decode cX1_tellProgram 39 = .ok (.iload_n 1, 1) := by decide +kernel
theorem dX1_tellProgram_40 : decode cX1_tellProgram 40 = .ok (.invokevirtual 131, 3) := by decide +kernel
theorem dX1_tellProgram_43 : decode cX1_tellProgram 43 = .ok (.ireturn, 1) := by decide +kernel
theorem dX1_tellProgram_44 : decode cX1_tellProgram 44 = .ok (.aload_n 0, 1) := by decide +kernel
theorem dX1_tellProgram_45 : decode cX1_tellProgram 45 = .ok (.getfield 34, 3) := by decide +kernel
theorem dX1_tellProgram_48 : decode cX1_tellProgram 48 = .ok (.iload_n 1, 1) := by decide +kernel
theorem dX1_tellProgram_49 : decode cX1_tellProgram 49 = .ok (.iaload, 1) := by decide +kernel
theorem dX1_tellProgram_50 : decode cX1_tellProgram 50 = .ok (.ireturn, 1) := by decide +kernel
theorem dX1_tellProgram_51 : decode cX1_tellProgram 51 = .ok (.aload_n 0, 1) := by decide +kernel
theorem dX1_tellProgram_52 : decode cX1_tellProgram 52 = .ok (.getfield 37, 3) := by decide +kernel
theorem dX1_tellProgram_55 : decode cX1_tellProgram 55 = .ok (.iload_n 1, 1) := by decide +kernel
theorem dX1_tellProgram_56 : decode cX1_tellProgram 56 = .ok (.iaload, 1) := by decide +kernel
theorem dX1_tellProgram_57 : decode cX1_tellProgram 57 = .ok (.ireturn, 1) := by decide +kernel
theorem dX1_tellProgram_58 : decode cX1_tellProgram 58 = .ok (.bipush (-2), 2) := by decide +kernel
theorem dX1_tellProgram_60 : decode cX1_tellProgram 60 = .ok (.ireturn, 1) := by decide +kernel
def wp_X1_tellProgram (σ : Mem) (y1 : Int32) (y2 : Int32) (P : Int32 → Prop) : Prop :=
  ((y2 = 0 →
    wp_X1_pagesWithCells σ y1 (fun r1 =>
      P r1)) ∧
    (¬ y2 = 0 →
    ((y2 = 1 →
    wp_X1_pinnedPagesOf σ y1 (fun r2 =>
      P r2)) ∧
    (¬ y2 = 1 →
    ((y2 = 2 →
    vp_in y1 5 ∧ P (σ 8 y1.toNatClampNeg)) ∧
    (¬ y2 = 2 →
    ((y2 = 3 →
    vp_in y1 5 ∧ P (σ 9 y1.toNatClampNeg)) ∧
    (¬ y2 = 3 →
    P (-2)))))))))
set_option maxRecDepth 100000 in
set_option maxHeartbeats 4000000 in
theorem c_X1_tellProgram (V : EV) (σ : Mem) (y1 : Int32) (y2 : Int32) (P : Int32 → Prop) (l : Launch) : Met l yX1_tellProgram (.code yX1_tellProgram cX1_tellProgram 3 (some .int) :: AW) { frames := 2, cells := 0, slots := 0, locals := 44 } (va_Pc [.ref (ad V 0), .int y1, .int y2] (fun U => wP V σ U ∧ wp_X1_tellProgram σ y1 y2 P)) (va_Qi (fun r τ => τ = σ ∧ P r) (wB V) (AA V)) 0 0 (AA V) := by
  refine met_i V σ (own := RX1) (by decide +kernel) rfl (fun v hv => by simp at hv; rcases hv with rfl | rfl | rfl <;> rfl) (Nat.le_of_ble_eq_true rfl) (fun X C D h => ?_) l
  show GG V X σ 0 [some (.ref (ad V 0)), some (.int y1), some (.int y2)] []
  refine g_iload_n C dX1_tellProgram_0 rfl rfl rfl ?_
  by_cases q0 : y2 = 0
  · have h := h.1 q0
    refine g_tinK C dX1_tellProgram_1 q0 (by decide) (by decide) (off := 31) (by rfl) (pc' := 32) rfl ?_
    refine g_aload_n C dX1_tellProgram_32 rfl rfl rfl ?_
    refine g_iload_n C dX1_tellProgram_33 rfl rfl rfl ?_
    refine k_X1_128 C dX1_tellProgram_34 (Nat.le_of_ble_eq_true rfl) (by decide) rfl rfl h (fun r1 h => ?_)
    exact g_iret C dX1_tellProgram_37 D ⟨rfl, h⟩
  have h := h.2 q0
  by_cases q1 : y2 = 1
  · have h := h.1 q1
    refine g_tinK C dX1_tellProgram_1 q1 (by decide) (by decide) (off := 37) (by rfl) (pc' := 38) rfl ?_
    refine g_aload_n C dX1_tellProgram_38 rfl rfl rfl ?_
    refine g_iload_n C dX1_tellProgram_39 rfl rfl rfl ?_
    refine k_X1_131 C dX1_tellProgram_40 (Nat.le_of_ble_eq_true rfl) (by decide) rfl rfl h (fun r2 h => ?_)
    exact g_iret C dX1_tellProgram_43 D ⟨rfl, h⟩
  have h := h.2 q1
  by_cases q2 : y2 = 2
  · have h := h.1 q2
    refine g_tinK C dX1_tellProgram_1 q2 (by decide) (by decide) (off := 43) (by rfl) (pc' := 44) rfl ?_
    refine g_aload_n C dX1_tellProgram_44 rfl rfl rfl ?_
    refine f_X1_34 C dX1_tellProgram_45 rfl ?_
    refine g_iload_n C dX1_tellProgram_48 rfl rfl rfl ?_
    obtain ⟨hin, h⟩ := h
    refine g_ild C dX1_tellProgram_49 arr_8 hin rfl ?_
    exact g_iret C dX1_tellProgram_50 D ⟨rfl, h⟩
  have h := h.2 q2
  by_cases q3 : y2 = 3
  · have h := h.1 q3
    refine g_tinK C dX1_tellProgram_1 q3 (by decide) (by decide) (off := 50) (by rfl) (pc' := 51) rfl ?_
    refine g_aload_n C dX1_tellProgram_51 rfl rfl rfl ?_
    refine f_X1_37 C dX1_tellProgram_52 rfl ?_
    refine g_iload_n C dX1_tellProgram_55 rfl rfl rfl ?_
    obtain ⟨hin, h⟩ := h
    refine g_ild C dX1_tellProgram_56 arr_9 hin rfl ?_
    exact g_iret C dX1_tellProgram_57 D ⟨rfl, h⟩
  have h := h.2 q3
  have hout : ((y2).toInt < 0 ∨ 3 < (y2).toInt) := by
    rcases tsw_cases (y2) 0 4 with hq | ⟨k, hk, he⟩
    · omega
    · rcases (show k = 0 ∨ k = 1 ∨ k = 2 ∨ k = 3 by omega) with rfl | rfl | rfl | rfl
      · exact absurd (i32_of he (by decide)) q0
      · exact absurd (i32_of he (by decide)) q1
      · exact absurd (i32_of he (by decide)) q2
      · exact absurd (i32_of he (by decide)) q3
  refine g_tout C dX1_tellProgram_1 hout (pc' := 58) rfl ?_
  refine g_bipush C dX1_tellProgram_58 bp_m2 rfl ?_
  exact g_iret C dX1_tellProgram_60 D ⟨rfl, h⟩
theorem hd_X1_tellProgram : yX1_tellProgram.cls ≠ "java/lang/invoke/MethodHandle" ∧ yX1_tellProgram.cls ≠ "java/lang/invoke/VarHandle" ∧ (parseMethodDescriptor yX1_tellProgram.desc).map (fun d => d.parameters.length) = some 2 := by decide +kernel
theorem k_X4_141 {V : EV} {X : CX} {cc : ByteArray} {nL : Nat} {R : Room} {y1 : Int32} {y2 : Int32} (C : OK V X RX4 cc nL R) {σ : Mem} {pc pc' : Nat} {L : List (Option Value)} {st : List Value} {P : Int32 → Prop} (d : decode cc pc = .ok (.invokevirtual 141, 3)) (hst : (st.map fun v => v.category).sum ≤ 8) (hr : 2 + 1 ≤ R.frames ∧ 8 + (3 + 11) + 44 ≤ R.locals) (hL : L.length = nL) (hp : pc + 3 = pc') (h : wp_X1_tellProgram σ y1 y2 P) (k : ∀ r, P r → GG V X σ pc' L (.int r :: st)) : GG V X σ pc L (.int y2 :: .int y1 :: .ref (ad V 0) :: st) :=
  g_callVi C (av := [.int y1, .int y2]) (fun l => c_X1_tellProgram V σ y1 y2 P l) (by decide) (en_0 V σ) (q := (RX1, TX1, 17)) rfl rfl ml_RX4_141 im_X1_tellProgram se_X1_tellProgram ini_RX1 co_X1_tellProgram hd_X1_tellProgram rfl ⟨rfl, rfl⟩ hr hst d hL hp h (fun r τ hq => by obtain ⟨rfl, hq⟩ := hq; exact k r hq)

theorem dX1_tellCell_0 : decode cX1_tellCell 0 = .ok (.aload_n 0, 1) := by decide +kernel
theorem dX1_tellCell_1 : decode cX1_tellCell 1 = .ok (.getfield 19, 3) := by decide +kernel
theorem dX1_tellCell_4 : decode cX1_tellCell 4 = .ok (.iload_n 1, 1) := by decide +kernel
theorem dX1_tellCell_5 : decode cX1_tellCell 5 = .ok (.iaload, 1) := by decide +kernel
theorem dX1_tellCell_6 : decode cX1_tellCell 6 = .ok (.istore_n 3, 1) := by decide +kernel
theorem dX1_tellCell_7 : decode cX1_tellCell 7 = .ok (.iload_n 2, 1) := by decide +kernel
theorem dX1_tellCell_8 : decode cX1_tellCell 8 = .ok (.tableswitch 101 0 5 #[40, 46, 53, 67, 81, 95], 40) := by decide +kernel
theorem dX1_tellCell_48 : decode cX1_tellCell 48 = .ok (.aload_n 0, 1) := by decide +kernel
theorem dX1_tellCell_49 : decode cX1_tellCell 49 = .ok (.iload_n 1, 1) := by decide +kernel
theorem dX1_tellCell_50 : decode cX1_tellCell 50 = .ok (.invokevirtual 134, 3) := by decide +kernel
theorem dX1_tellCell_53 : decode cX1_tellCell 53 = .ok (.ireturn, 1) := by decide +kernel
theorem dX1_tellCell_54 : decode cX1_tellCell 54 = .ok (.aload_n 0, 1) := by decide +kernel
theorem dX1_tellCell_55 : decode cX1_tellCell 55 = .ok (.getfield 15, 3) := by decide +kernel
theorem dX1_tellCell_58 : decode cX1_tellCell 58 = .ok (.iload_n 1, 1) := by decide +kernel
theorem dX1_tellCell_59 : decode cX1_tellCell 59 = .ok (.iaload, 1) := by decide +kernel
theorem dX1_tellCell_60 : decode cX1_tellCell 60 = .ok (.ireturn, 1) := by decide +kernel
theorem dX1_tellCell_61 : decode cX1_tellCell 61 = .ok (.iload_n 3, 1) := by decide +kernel
theorem dX1_tellCell_62 : decode cX1_tellCell 62 = .ok (.ifCond .ge 8, 3) := by decide +kernel
theorem dX1_tellCell_65 : decode cX1_tellCell 65 = .ok (.bipush (-5), 2) := by decide +kernel
theorem dX1_tellCell_67 : decode cX1_tellCell 67 = .ok (.goto 7, 3) := by decide +kernel
theorem dX1_tellCell_70 : decode cX1_tellCell 70 = .ok (.iload_n 3, 1) := by decide +kernel
theorem dX1_tellCell_71 : decode cX1_tellCell 71 = .ok (.bipush 10, 2) := by decide +kernel
theorem dX1_tellCell_73 : decode cX1_tellCell 73 = .ok (.idiv, 1) := by decide +kernel
theorem dX1_tellCell_74 : decode cX1_tellCell 74 = .ok (.ireturn, 1) := by decide +kernel
theorem dX1_tellCell_75 : decode cX1_tellCell 75 = .ok (.iload_n 3, 1) := by decide +kernel
theorem dX1_tellCell_76 : decode cX1_tellCell 76 = .ok (.ifCond .ge 8, 3) := by decide +kernel
theorem dX1_tellCell_79 : decode cX1_tellCell 79 = .ok (.bipush (-5), 2) := by decide +kernel
theorem dX1_tellCell_81 : decode cX1_tellCell 81 = .ok (.goto 7, 3) := by decide +kernel
theorem dX1_tellCell_84 : decode cX1_tellCell 84 = .ok (.iload_n 3, 1) := by decide +kernel
theorem dX1_tellCell_85 : decode cX1_tellCell 85 = .ok (.bipush 10, 2) := by decide +kernel
theorem dX1_tellCell_87 : decode cX1_tellCell 87 = .ok (.irem, 1) := by decide +kernel
theorem dX1_tellCell_88 : decode cX1_tellCell 88 = .ok (.ireturn, 1) := by decide +kernel
theorem dX1_tellCell_89 : decode cX1_tellCell 89 = .ok (.aload_n 0, 1) := by decide +kernel
theorem dX1_tellCell_90 : decode cX1_tellCell 90 = .ok (.iload_n 1, 1) := by decide +kernel
theorem dX1_tellCell_91 : decode cX1_tellCell 91 = .ok (.invokevirtual 119, 3) := by decide +kernel
theorem dX1_tellCell_94 : decode cX1_tellCell 94 = .ok (.ifCond .eq 7, 3) := by decide +kernel
theorem dX1_tellCell_97 : decode cX1_tellCell 97 = .ok (.iconst 1, 1) := by decide +kernel
theorem dX1_tellCell_98 : decode cX1_tellCell 98 = .ok (.goto 4, 3) := by decide +kernel
theorem dX1_tellCell_101 : decode cX1_tellCell 101 = .ok (.iconst 0, 1) := by decide +kernel
theorem dX1_tellCell_102 : decode cX1_tellCell 102 = .ok (.ireturn, 1) := by decide +kernel
theorem dX1_tellCell_103 : decode cX1_tellCell 103 = .ok (.aload_n 0, 1) := by decide +kernel
theorem dX1_tellCell_104 : decode cX1_tellCell 104 = .ok (.iload_n 1, 1) := by decide +kernel
theorem dX1_tellCell_105 : decode cX1_tellCell 105 = .ok (.invokevirtual 100, 3) := by decide +kernel
theorem dX1_tellCell_108 : decode cX1_tellCell 108 = .ok (.ireturn, 1) := by decide +kernel
theorem dX1_tellCell_109 : decode cX1_tellCell 109 = .ok (.bipush (-2), 2) := by decide +kernel
theorem dX1_tellCell_111 : decode cX1_tellCell 111 = .ok (.ireturn, 1) := by decide +kernel
def wp_X1_tellCell (σ : Mem) (y1 : Int32) (y2 : Int32) (P : Int32 → Prop) : Prop :=
  vp_in y1 40 ∧ ((y2 = 0 →
    wp_X1_howCellIs σ y1 (fun r1 =>
      P r1)) ∧
    (¬ y2 = 0 →
    ((y2 = 1 →
    vp_in y1 40 ∧ P (σ 2 y1.toNatClampNeg)) ∧
    (¬ y2 = 1 →
    ((y2 = 2 →
    ((0 ≤ (σ 3 y1.toNatClampNeg) →
      P ((σ 3 y1.toNatClampNeg) / 10)) ∧
      (¬ 0 ≤ (σ 3 y1.toNatClampNeg) →
      P (-5)))) ∧
    (¬ y2 = 2 →
    ((y2 = 3 →
    ((0 ≤ (σ 3 y1.toNatClampNeg) →
      P (((σ 3 y1.toNatClampNeg) - (σ 3 y1.toNatClampNeg) / 10 * 10))) ∧
      (¬ 0 ≤ (σ 3 y1.toNatClampNeg) →
      P (-5)))) ∧
    (¬ y2 = 3 →
    ((y2 = 4 →
    wp_X1_waits σ y1 (fun r2 =>
      ((r2 = 0 →
      P 0) ∧
      (¬ r2 = 0 →
      P 1)))) ∧
    (¬ y2 = 4 →
    ((y2 = 5 →
    wp_X1_placeOnList σ y1 (fun r3 =>
      P r3)) ∧
    (¬ y2 = 5 →
    P (-2)))))))))))))
set_option maxRecDepth 100000 in
set_option maxHeartbeats 4000000 in
theorem c_X1_tellCell (V : EV) (σ : Mem) (y1 : Int32) (y2 : Int32) (P : Int32 → Prop) (l : Launch) : Met l yX1_tellCell (.code yX1_tellCell cX1_tellCell 4 (some .int) :: AW) { frames := 2, cells := 0, slots := 0, locals := 42 } (va_Pc [.ref (ad V 0), .int y1, .int y2] (fun U => wP V σ U ∧ wp_X1_tellCell σ y1 y2 P)) (va_Qi (fun r τ => τ = σ ∧ P r) (wB V) (AA V)) 0 0 (AA V) := by
  refine met_i V σ (own := RX1) (by decide +kernel) rfl (fun v hv => by simp at hv; rcases hv with rfl | rfl | rfl <;> rfl) (Nat.le_of_ble_eq_true rfl) (fun X C D h => ?_) l
  show GG V X σ 0 [some (.ref (ad V 0)), some (.int y1), some (.int y2), none] []
  refine g_aload_n C dX1_tellCell_0 rfl rfl rfl ?_
  refine f_X1_19 C dX1_tellCell_1 rfl ?_
  refine g_iload_n C dX1_tellCell_4 rfl rfl rfl ?_
  obtain ⟨hin, h⟩ := h
  refine g_ild C dX1_tellCell_5 arr_3 hin rfl ?_
  refine g_istore_n C dX1_tellCell_6 rfl (Nat.le_of_ble_eq_true rfl) (L' := [some (.ref (ad V 0)), some (.int y1), some (.int y2), some (.int (σ 3 y1.toNatClampNeg))]) rfl rfl ?_
  refine g_iload_n C dX1_tellCell_7 rfl rfl rfl ?_
  by_cases q0 : y2 = 0
  · have h := h.1 q0
    refine g_tinK C dX1_tellCell_8 q0 (by decide) (by decide) (off := 40) (by rfl) (pc' := 48) rfl ?_
    refine g_aload_n C dX1_tellCell_48 rfl rfl rfl ?_
    refine g_iload_n C dX1_tellCell_49 rfl rfl rfl ?_
    refine k_X1_134 C dX1_tellCell_50 (Nat.le_of_ble_eq_true rfl) (by decide) rfl rfl h (fun r1 h => ?_)
    exact g_iret C dX1_tellCell_53 D ⟨rfl, h⟩
  have h := h.2 q0
  by_cases q1 : y2 = 1
  · have h := h.1 q1
    refine g_tinK C dX1_tellCell_8 q1 (by decide) (by decide) (off := 46) (by rfl) (pc' := 54) rfl ?_
    refine g_aload_n C dX1_tellCell_54 rfl rfl rfl ?_
    refine f_X1_15 C dX1_tellCell_55 rfl ?_
    refine g_iload_n C dX1_tellCell_58 rfl rfl rfl ?_
    obtain ⟨hin, h⟩ := h
    refine g_ild C dX1_tellCell_59 arr_2 hin rfl ?_
    exact g_iret C dX1_tellCell_60 D ⟨rfl, h⟩
  have h := h.2 q1
  by_cases q2 : y2 = 2
  · have h := h.1 q2
    refine g_tinK C dX1_tellCell_8 q2 (by decide) (by decide) (off := 53) (by rfl) (pc' := 61) rfl ?_
    refine g_iload_n C dX1_tellCell_61 rfl rfl rfl ?_
    refine g_if_ge C dX1_tellCell_62 (tgt := 70) rfl rfl (fun q => ?_) (fun q => ?_)
    · have h := h.1 q
      refine g_iload_n C dX1_tellCell_70 rfl rfl rfl ?_
      refine g_bipush C dX1_tellCell_71 bp_10 rfl ?_
      refine g_idiv C dX1_tellCell_73 (by decide) rfl ?_
      exact g_iret C dX1_tellCell_74 D ⟨rfl, h⟩
    · have h := h.2 q
      refine g_bipush C dX1_tellCell_65 bp_m5 rfl ?_
      refine g_goto C dX1_tellCell_67 (pc' := 74) rfl ?_
      exact g_iret C dX1_tellCell_74 D ⟨rfl, h⟩
  have h := h.2 q2
  by_cases q3 : y2 = 3
  · have h := h.1 q3
    refine g_tinK C dX1_tellCell_8 q3 (by decide) (by decide) (off := 67) (by rfl) (pc' := 75) rfl ?_
    refine g_iload_n C dX1_tellCell_75 rfl rfl rfl ?_
    refine g_if_ge C dX1_tellCell_76 (tgt := 84) rfl rfl (fun q => ?_) (fun q => ?_)
    · have h := h.1 q
      refine g_iload_n C dX1_tellCell_84 rfl rfl rfl ?_
      refine g_bipush C dX1_tellCell_85 bp_10 rfl ?_
      refine g_irem C dX1_tellCell_87 (by decide) rfl ?_
      exact g_iret C dX1_tellCell_88 D ⟨rfl, h⟩
    · have h := h.2 q
      refine g_bipush C dX1_tellCell_79 bp_m5 rfl ?_
      refine g_goto C dX1_tellCell_81 (pc' := 88) rfl ?_
      exact g_iret C dX1_tellCell_88 D ⟨rfl, h⟩
  have h := h.2 q3
  by_cases q4 : y2 = 4
  · have h := h.1 q4
    refine g_tinK C dX1_tellCell_8 q4 (by decide) (by decide) (off := 81) (by rfl) (pc' := 89) rfl ?_
    refine g_aload_n C dX1_tellCell_89 rfl rfl rfl ?_
    refine g_iload_n C dX1_tellCell_90 rfl rfl rfl ?_
    refine k_X1_119 C dX1_tellCell_91 (Nat.le_of_ble_eq_true rfl) (by decide) rfl rfl h (fun r2 h => ?_)
    refine g_if_eq C dX1_tellCell_94 (tgt := 101) rfl rfl (fun q => ?_) (fun q => ?_)
    · have h := h.1 q
      refine g_iconst C dX1_tellCell_101 ic_0 rfl ?_
      exact g_iret C dX1_tellCell_102 D ⟨rfl, h⟩
    · have h := h.2 q
      refine g_iconst C dX1_tellCell_97 ic_1 rfl ?_
      refine g_goto C dX1_tellCell_98 (pc' := 102) rfl ?_
      exact g_iret C dX1_tellCell_102 D ⟨rfl, h⟩
  have h := h.2 q4
  by_cases q5 : y2 = 5
  · have h := h.1 q5
    refine g_tinK C dX1_tellCell_8 q5 (by decide) (by decide) (off := 95) (by rfl) (pc' := 103) rfl ?_
    refine g_aload_n C dX1_tellCell_103 rfl rfl rfl ?_
    refine g_iload_n C dX1_tellCell_104 rfl rfl rfl ?_
    refine k_X1_100 C dX1_tellCell_105 (Nat.le_of_ble_eq_true rfl) (by decide) rfl rfl h (fun r3 h => ?_)
    exact g_iret C dX1_tellCell_108 D ⟨rfl, h⟩
  have h := h.2 q5
  have hout : ((y2).toInt < 0 ∨ 5 < (y2).toInt) := by
    rcases tsw_cases (y2) 0 6 with hq | ⟨k, hk, he⟩
    · omega
    · rcases (show k = 0 ∨ k = 1 ∨ k = 2 ∨ k = 3 ∨ k = 4 ∨ k = 5 by omega) with rfl | rfl | rfl | rfl | rfl | rfl
      · exact absurd (i32_of he (by decide)) q0
      · exact absurd (i32_of he (by decide)) q1
      · exact absurd (i32_of he (by decide)) q2
      · exact absurd (i32_of he (by decide)) q3
      · exact absurd (i32_of he (by decide)) q4
      · exact absurd (i32_of he (by decide)) q5
  refine g_tout C dX1_tellCell_8 hout (pc' := 109) rfl ?_
  refine g_bipush C dX1_tellCell_109 bp_m2 rfl ?_
  exact g_iret C dX1_tellCell_111 D ⟨rfl, h⟩
theorem hd_X1_tellCell : yX1_tellCell.cls ≠ "java/lang/invoke/MethodHandle" ∧ yX1_tellCell.cls ≠ "java/lang/invoke/VarHandle" ∧ (parseMethodDescriptor yX1_tellCell.desc).map (fun d => d.parameters.length) = some 2 := by decide +kernel
theorem k_X4_144 {V : EV} {X : CX} {cc : ByteArray} {nL : Nat} {R : Room} {y1 : Int32} {y2 : Int32} (C : OK V X RX4 cc nL R) {σ : Mem} {pc pc' : Nat} {L : List (Option Value)} {st : List Value} {P : Int32 → Prop} (d : decode cc pc = .ok (.invokevirtual 144, 3)) (hst : (st.map fun v => v.category).sum ≤ 8) (hr : 2 + 1 ≤ R.frames ∧ 8 + (4 + 11) + 42 ≤ R.locals) (hL : L.length = nL) (hp : pc + 3 = pc') (h : wp_X1_tellCell σ y1 y2 P) (k : ∀ r, P r → GG V X σ pc' L (.int r :: st)) : GG V X σ pc L (.int y2 :: .int y1 :: .ref (ad V 0) :: st) :=
  g_callVi C (av := [.int y1, .int y2]) (fun l => c_X1_tellCell V σ y1 y2 P l) (by decide) (en_0 V σ) (q := (RX1, TX1, 17)) rfl rfl ml_RX4_144 im_X1_tellCell se_X1_tellCell ini_RX1 co_X1_tellCell hd_X1_tellCell rfl ⟨rfl, rfl⟩ hr hst d hL hp h (fun r τ hq => by obtain ⟨rfl, hq⟩ := hq; exact k r hq)

theorem dX1_usedCells_0 : decode cX1_usedCells 0 = .ok (.aload_n 0, 1) := by decide +kernel
theorem dX1_usedCells_1 : decode cX1_usedCells 1 = .ok (.iconst 1, 1) := by decide +kernel
theorem dX1_usedCells_2 : decode cX1_usedCells 2 = .ok (.invokevirtual 150, 3) := by decide +kernel
theorem dX1_usedCells_5 : decode cX1_usedCells 5 = .ok (.ireturn, 1) := by decide +kernel
def wp_X1_usedCells (σ : Mem) (P : Int32 → Prop) : Prop :=
  wp_X1_cellsThatAre σ 1 (fun r1 =>
    P r1)
set_option maxRecDepth 100000 in
set_option maxHeartbeats 4000000 in
theorem c_X1_usedCells (V : EV) (σ : Mem) (P : Int32 → Prop) (l : Launch) : Met l yX1_usedCells (.code yX1_usedCells cX1_usedCells 1 (some .int) :: AW) { frames := 2, cells := 0, slots := 0, locals := 44 } (va_Pc [.ref (ad V 0)] (fun U => wP V σ U ∧ wp_X1_usedCells σ P)) (va_Qi (fun r τ => τ = σ ∧ P r) (wB V) (AA V)) 0 0 (AA V) := by
  refine met_i V σ (own := RX1) (by decide +kernel) rfl (fun v hv => by simp at hv; subst hv; rfl) (Nat.le_of_ble_eq_true rfl) (fun X C D h => ?_) l
  show GG V X σ 0 [some (.ref (ad V 0))] []
  refine g_aload_n C dX1_usedCells_0 rfl rfl rfl ?_
  refine g_iconst C dX1_usedCells_1 ic_1 rfl ?_
  refine k_X1_150 C dX1_usedCells_2 (Nat.le_of_ble_eq_true rfl) (by decide) rfl rfl h (fun r1 h => ?_)
  exact g_iret C dX1_usedCells_5 D ⟨rfl, h⟩
theorem hd_X1_usedCells : yX1_usedCells.cls ≠ "java/lang/invoke/MethodHandle" ∧ yX1_usedCells.cls ≠ "java/lang/invoke/VarHandle" ∧ (parseMethodDescriptor yX1_usedCells.desc).map (fun d => d.parameters.length) = some 0 := by decide +kernel
theorem k_X1_137 {V : EV} {X : CX} {cc : ByteArray} {nL : Nat} {R : Room} (C : OK V X RX1 cc nL R) {σ : Mem} {pc pc' : Nat} {L : List (Option Value)} {st : List Value} {P : Int32 → Prop} (d : decode cc pc = .ok (.invokevirtual 137, 3)) (hst : (st.map fun v => v.category).sum ≤ 8) (hr : 2 + 1 ≤ R.frames ∧ 8 + (1 + 11) + 44 ≤ R.locals) (hL : L.length = nL) (hp : pc + 3 = pc') (h : wp_X1_usedCells σ P) (k : ∀ r, P r → GG V X σ pc' L (.int r :: st)) : GG V X σ pc L (.ref (ad V 0) :: st) :=
  g_callVi C (av := []) (fun l => c_X1_usedCells V σ P l) (by decide) (en_0 V σ) (q := (RX1, TX1, 17)) rfl rfl ml_RX1_137 im_X1_usedCells se_X1_usedCells ini_RX1 co_X1_usedCells hd_X1_usedCells rfl ⟨rfl, rfl⟩ hr hst d hL hp h (fun r τ hq => by obtain ⟨rfl, hq⟩ := hq; exact k r hq)

theorem dX1_retiredCells_0 : decode cX1_retiredCells 0 = .ok (.aload_n 0, 1) := by decide +kernel
theorem dX1_retiredCells_1 : decode cX1_retiredCells 1 = .ok (.iconst 2, 1) := by decide +kernel
theorem dX1_retiredCells_2 : decode cX1_retiredCells 2 = .ok (.invokevirtual 150, 3) := by decide +kernel
theorem dX1_retiredCells_5 : decode cX1_retiredCells 5 = .ok (.ireturn, 1) := by decide +kernel
def wp_X1_retiredCells (σ : Mem) (P : Int32 → Prop) : Prop :=
  wp_X1_cellsThatAre σ 2 (fun r1 =>
    P r1)
set_option maxRecDepth 100000 in
set_option maxHeartbeats 4000000 in
theorem c_X1_retiredCells (V : EV) (σ : Mem) (P : Int32 → Prop) (l : Launch) : Met l yX1_retiredCells (.code yX1_retiredCells cX1_retiredCells 1 (some .int) :: AW) { frames := 2, cells := 0, slots := 0, locals := 44 } (va_Pc [.ref (ad V 0)] (fun U => wP V σ U ∧ wp_X1_retiredCells σ P)) (va_Qi (fun r τ => τ = σ ∧ P r) (wB V) (AA V)) 0 0 (AA V) := by
  refine met_i V σ (own := RX1) (by decide +kernel) rfl (fun v hv => by simp at hv; subst hv; rfl) (Nat.le_of_ble_eq_true rfl) (fun X C D h => ?_) l
  show GG V X σ 0 [some (.ref (ad V 0))] []
  refine g_aload_n C dX1_retiredCells_0 rfl rfl rfl ?_
  refine g_iconst C dX1_retiredCells_1 ic_2 rfl ?_
  refine k_X1_150 C dX1_retiredCells_2 (Nat.le_of_ble_eq_true rfl) (by decide) rfl rfl h (fun r1 h => ?_)
  exact g_iret C dX1_retiredCells_5 D ⟨rfl, h⟩
theorem hd_X1_retiredCells : yX1_retiredCells.cls ≠ "java/lang/invoke/MethodHandle" ∧ yX1_retiredCells.cls ≠ "java/lang/invoke/VarHandle" ∧ (parseMethodDescriptor yX1_retiredCells.desc).map (fun d => d.parameters.length) = some 0 := by decide +kernel
theorem k_X1_140 {V : EV} {X : CX} {cc : ByteArray} {nL : Nat} {R : Room} (C : OK V X RX1 cc nL R) {σ : Mem} {pc pc' : Nat} {L : List (Option Value)} {st : List Value} {P : Int32 → Prop} (d : decode cc pc = .ok (.invokevirtual 140, 3)) (hst : (st.map fun v => v.category).sum ≤ 8) (hr : 2 + 1 ≤ R.frames ∧ 8 + (1 + 11) + 44 ≤ R.locals) (hL : L.length = nL) (hp : pc + 3 = pc') (h : wp_X1_retiredCells σ P) (k : ∀ r, P r → GG V X σ pc' L (.int r :: st)) : GG V X σ pc L (.ref (ad V 0) :: st) :=
  g_callVi C (av := []) (fun l => c_X1_retiredCells V σ P l) (by decide) (en_0 V σ) (q := (RX1, TX1, 17)) rfl rfl ml_RX1_140 im_X1_retiredCells se_X1_retiredCells ini_RX1 co_X1_retiredCells hd_X1_retiredCells rfl ⟨rfl, rfl⟩ hr hst d hL hp h (fun r τ hq => by obtain ⟨rfl, hq⟩ := hq; exact k r hq)
theorem k_X4_132 {V : EV} {X : CX} {cc : ByteArray} {nL : Nat} {R : Room} (C : OK V X RX4 cc nL R) {σ : Mem} {pc pc' : Nat} {L : List (Option Value)} {st : List Value} {P : Int32 → Prop} (d : decode cc pc = .ok (.invokevirtual 132, 3)) (hst : (st.map fun v => v.category).sum ≤ 8) (hr : 2 + 1 ≤ R.frames ∧ 8 + (1 + 11) + 44 ≤ R.locals) (hL : L.length = nL) (hp : pc + 3 = pc') (h : wp_X1_retiredCells σ P) (k : ∀ r, P r → GG V X σ pc' L (.int r :: st)) : GG V X σ pc L (.ref (ad V 0) :: st) :=
  g_callVi C (av := []) (fun l => c_X1_retiredCells V σ P l) (by decide) (en_0 V σ) (q := (RX1, TX1, 17)) rfl rfl ml_RX4_132 im_X1_retiredCells se_X1_retiredCells ini_RX1 co_X1_retiredCells hd_X1_retiredCells rfl ⟨rfl, rfl⟩ hr hst d hL hp h (fun r τ hq => by obtain ⟨rfl, hq⟩ := hq; exact k r hq)

theorem dX1_sum_0 : decode cX1_sum 0 = .ok (.iconst 0, 1) := by decide +kernel
theorem dX1_sum_1 : decode cX1_sum 1 = .ok (.istore_n 1, 1) := by decide +kernel
theorem dX1_sum_2 : decode cX1_sum 2 = .ok (.iconst 0, 1) := by decide +kernel
theorem dX1_sum_3 : decode cX1_sum 3 = .ok (.istore_n 2, 1) := by decide +kernel
theorem dX1_sum_4 : decode cX1_sum 4 = .ok (.iload_n 2, 1) := by decide +kernel
theorem dX1_sum_5 : decode cX1_sum 5 = .ok (.aload_n 0, 1) := by decide +kernel
theorem dX1_sum_6 : decode cX1_sum 6 = .ok (.arraylength, 1) := by decide +kernel
theorem dX1_sum_7 : decode cX1_sum 7 = .ok (.if_icmp .ge 15, 3) := by decide +kernel
theorem dX1_sum_10 : decode cX1_sum 10 = .ok (.iload_n 1, 1) := by decide +kernel
theorem dX1_sum_11 : decode cX1_sum 11 = .ok (.aload_n 0, 1) := by decide +kernel
theorem dX1_sum_12 : decode cX1_sum 12 = .ok (.iload_n 2, 1) := by decide +kernel
theorem dX1_sum_13 : decode cX1_sum 13 = .ok (.iaload, 1) := by decide +kernel
theorem dX1_sum_14 : decode cX1_sum 14 = .ok (.iadd, 1) := by decide +kernel
theorem dX1_sum_15 : decode cX1_sum 15 = .ok (.istore_n 1, 1) := by decide +kernel
theorem dX1_sum_16 : decode cX1_sum 16 = .ok (.iinc 2 1, 3) := by decide +kernel
theorem dX1_sum_19 : decode cX1_sum 19 = .ok (.goto (-15), 3) := by decide +kernel
theorem dX1_sum_22 : decode cX1_sum 22 = .ok (.iload_n 1, 1) := by decide +kernel
theorem dX1_sum_23 : decode cX1_sum 23 = .ok (.ireturn, 1) := by decide +kernel
def wp_X1_sum (σ : Mem) (a : Nat) (P : Int32 → Prop) : Prop :=
  lq2 (fun rec3 (x1 : Int32) (x2 : Int32) =>
    ((5 ≤ x2 →
      P x1) ∧
      (¬ 5 ≤ x2 →
      vp_in x2 5 ∧ rec3 (x1 + (σ a x2.toNatClampNeg)) (x2 + 1)))) 0 0
set_option maxRecDepth 100000 in
set_option maxHeartbeats 4000000 in
theorem c_X1_sum (V : EV) (σ : Mem) (a : Nat) (ha : iA a 5) (P : Int32 → Prop) (l : Launch) : Met l yX1_sum (.code yX1_sum cX1_sum 3 (some .int) :: AW) { frames := 0, cells := 0, slots := 0, locals := 0 } (va_Pc [.ref (ad V a)] (fun U => wP V σ U ∧ wp_X1_sum σ a P)) (va_Qi (fun r τ => τ = σ ∧ P r) (wB V) (AA V)) 0 0 (AA V) := by
  refine met_i V σ (own := RX1) (by decide +kernel) rfl (fun v hv => by simp at hv; subst hv; rfl) (Nat.le_of_ble_eq_true rfl) (fun X C D h => ?_) l
  show GG V X σ 0 [some (.ref (ad V a)), none, none] []
  refine g_iconst C dX1_sum_0 ic_0 rfl ?_
  refine g_istore_n C dX1_sum_1 rfl (Nat.le_of_ble_eq_true rfl) (L' := [some (.ref (ad V a)), some (.int 0), none]) rfl rfl ?_
  refine g_iconst C dX1_sum_2 ic_0 rfl ?_
  refine g_istore_n C dX1_sum_3 rfl (Nat.le_of_ble_eq_true rfl) (L' := [some (.ref (ad V a)), some (.int 0), some (.int 0)]) rfl rfl ?_
  refine h (fun (x1 : Int32) (x2 : Int32) => GG V X σ 4 [some (.ref (ad V a)), some (.int x1), some (.int x2)] []) (fun x1 x2 h => ?_)
  refine g_iload_n C dX1_sum_4 rfl rfl rfl ?_
  refine g_aload_n C dX1_sum_5 rfl rfl rfl ?_
  refine g_ialen C dX1_sum_6 ha (v := 5) rfl rfl ?_
  refine g_icmp_ge C dX1_sum_7 (tgt := 22) rfl rfl (fun q => ?_) (fun q => ?_)
  · have h := h.1 q
    refine g_iload_n C dX1_sum_22 rfl rfl rfl ?_
    exact g_iret C dX1_sum_23 D ⟨rfl, h⟩
  · have h := h.2 q
    refine g_iload_n C dX1_sum_10 rfl rfl rfl ?_
    refine g_aload_n C dX1_sum_11 rfl rfl rfl ?_
    refine g_iload_n C dX1_sum_12 rfl rfl rfl ?_
    obtain ⟨hin, h⟩ := h
    refine g_ild C dX1_sum_13 ha hin rfl ?_
    refine g_iadd C dX1_sum_14 rfl ?_
    refine g_istore_n C dX1_sum_15 rfl (Nat.le_of_ble_eq_true rfl) (L' := [some (.ref (ad V a)), some (.int (x1 + (σ a x2.toNatClampNeg))), some (.int x2)]) rfl rfl ?_
    refine g_iinc C dX1_sum_16 (v := x2 + 1) (by rw [ic_1]) rfl (Nat.le_of_ble_eq_true rfl) (L' := [some (.ref (ad V a)), some (.int (x1 + (σ a x2.toNatClampNeg))), some (.int (x2 + 1))]) rfl rfl ?_
    refine g_goto C dX1_sum_19 (pc' := 4) rfl ?_
    exact h
theorem hd_X1_sum : yX1_sum.cls ≠ "java/lang/invoke/MethodHandle" ∧ yX1_sum.cls ≠ "java/lang/invoke/VarHandle" ∧ (parseMethodDescriptor yX1_sum.desc).map (fun d => d.parameters.length) = some 1 := by decide +kernel
theorem k_X1_143 {V : EV} {X : CX} {cc : ByteArray} {nL : Nat} {R : Room} {a : Nat} (ha : iA a 5) (C : OK V X RX1 cc nL R) {σ : Mem} {pc pc' : Nat} {L : List (Option Value)} {st : List Value} {P : Int32 → Prop} (d : decode cc pc = .ok (.invokestatic 143, 3)) (hst : (st.map fun v => v.category).sum ≤ 8) (hr : 0 + 1 ≤ R.frames ∧ 8 + (3 + 11) + 0 ≤ R.locals) (hL : L.length = nL) (hp : pc + 3 = pc') (h : wp_X1_sum σ a P) (k : ∀ r, P r → GG V X σ pc' L (.int r :: st)) : GG V X σ pc L (.ref (ad V a) :: st) :=
  g_callSi C (av := [.ref (ad V a)]) (fun l => c_X1_sum V σ a ha P l) ml_RX1_143 st_X1_sum ini_RX1 co_X1_sum ⟨rfl, hd_X1_sum⟩ rfl ⟨rfl, rfl⟩ hr hst d hL hp h (fun r τ hq => by obtain ⟨rfl, hq⟩ := hq; exact k r hq)

theorem dX1_tellCount_0 : decode cX1_tellCount 0 = .ok (.iload_n 1, 1) := by decide +kernel
theorem dX1_tellCount_1 : decode cX1_tellCount 1 = .ok (.tableswitch 166 0 15 #[79, 84, 89, 94, 99, 104, 89, 109, 114, 119, 124, 132, 140, 145, 152, 159], 79) := by decide +kernel
theorem dX1_tellCount_80 : decode cX1_tellCount 80 = .ok (.aload_n 0, 1) := by decide +kernel
theorem dX1_tellCount_81 : decode cX1_tellCount 81 = .ok (.getfield 59, 3) := by decide +kernel
theorem dX1_tellCount_84 : decode cX1_tellCount 84 = .ok (.ireturn, 1) := by decide +kernel
theorem dX1_tellCount_85 : decode cX1_tellCount 85 = .ok (.aload_n 0, 1) := by decide +kernel
theorem dX1_tellCount_86 : decode cX1_tellCount 86 = .ok (.invokevirtual 103, 3) := by decide +kernel
theorem dX1_tellCount_89 : decode cX1_tellCount 89 = .ok (.ireturn, 1) := by decide +kernel
theorem dX1_tellCount_90 : decode cX1_tellCount 90 = .ok (.aload_n 0, 1) := by decide +kernel
theorem dX1_tellCount_91 : decode cX1_tellCount 91 = .ok (.invokevirtual 137, 3) := by decide +kernel
theorem dX1_tellCount_94 : decode cX1_tellCount 94 = .ok (.ireturn, 1) := by decide +kernel
theorem dX1_tellCount_95 : decode cX1_tellCount 95 = .ok (.aload_n 0, 1) := by decide +kernel
theorem dX1_tellCount_96 : decode cX1_tellCount 96 = .ok (.invokevirtual 140, 3) := by decide +kernel
theorem dX1_tellCount_99 : decode cX1_tellCount 99 = .ok (.ireturn, 1) := by decide +kernel
theorem dX1_tellCount_100 : decode cX1_tellCount 100 = .ok (.aload_n 0, 1) := by decide +kernel
theorem dX1_tellCount_101 : decode cX1_tellCount 101 = .ok (.invokevirtual 113, 3) := by decide +kernel
theorem dX1_tellCount_104 : decode cX1_tellCount 104 = .ok (.ireturn, 1) := by decide +kernel
theorem dX1_tellCount_105 : decode cX1_tellCount 105 = .ok (.aload_n 0, 1) := by decide +kernel
theorem dX1_tellCount_106 : decode cX1_tellCount 106 = .ok (.getfield 56, 3) := by decide +kernel
theorem dX1_tellCount_109 : decode cX1_tellCount 109 = .ok (.ireturn, 1) := by decide +kernel
theorem dX1_tellCount_110 : decode cX1_tellCount 110 = .ok (.aload_n 0, 1) := by decide +kernel
theorem dX1_tellCount_111 : decode cX1_tellCount 111 = .ok (.invokevirtual 90, 3) := by decide +kernel
theorem dX1_tellCount_114 : decode cX1_tellCount 114 = .ok (.ireturn, 1) := by decide +kernel
theorem dX1_tellCount_115 : decode cX1_tellCount 115 = .ok (.aload_n 0, 1) := by decide +kernel
theorem dX1_tellCount_116 : decode cX1_tellCount 116 = .ok (.getfield 62, 3) := by decide +kernel
theorem dX1_tellCount_119 : decode cX1_tellCount 119 = .ok (.ireturn, 1) := by decide +kernel
theorem dX1_tellCount_120 : decode cX1_tellCount 120 = .ok (.aload_n 0, 1) := by decide +kernel
theorem dX1_tellCount_121 : decode cX1_tellCount 121 = .ok (.getfield 65, 3) := by decide +kernel
theorem dX1_tellCount_124 : decode cX1_tellCount 124 = .ok (.ireturn, 1) := by decide +kernel
theorem dX1_tellCount_125 : decode cX1_tellCount 125 = .ok (.aload_n 0, 1) := by decide +kernel
theorem dX1_tellCount_126 : decode cX1_tellCount 126 = .ok (.getfield 37, 3) := by decide +kernel
theorem dX1_tellCount_129 : decode cX1_tellCount 129 = .ok (.invokestatic 143, 3) := by decide +kernel
theorem dX1_tellCount_132 : decode cX1_tellCount 132 = .ok (.ireturn, 1) := by decide +kernel
theorem dX1_tellCount_133 : decode cX1_tellCount 133 = .ok (.aload_n 0, 1) := by decide +kernel
theorem dX1_tellCount_134 : decode cX1_tellCount 134 = .ok (.getfield 34, 3) := by decide +kernel
theorem dX1_tellCount_137 : decode cX1_tellCount 137 = .ok (.invokestatic 143, 3) := by decide +kernel
theorem dX1_tellCount_140 : decode cX1_tellCount 140 = .ok (.ireturn, 1) := by decide +kernel
theorem dX1_tellCount_141 : decode cX1_tellCount 141 = .ok (.aload_n 0, 1) := by decide +kernel
theorem dX1_tellCount_142 : decode cX1_tellCount 142 = .ok (.getfield 68, 3) := by decide +kernel
theorem dX1_tellCount_145 : decode cX1_tellCount 145 = .ok (.ireturn, 1) := by decide +kernel
theorem dX1_tellCount_146 : decode cX1_tellCount 146 = .ok (.aload_n 0, 1) := by decide +kernel
theorem dX1_tellCount_147 : decode cX1_tellCount 147 = .ok (.getfield 43, 3) := by decide +kernel
theorem dX1_tellCount_150 : decode cX1_tellCount 150 = .ok (.iconst 0, 1) := by decide +kernel
theorem dX1_tellCount_151 : decode cX1_tellCount 151 = .ok (.iaload, 1) := by decide +kernel
theorem dX1_tellCount_152 : decode cX1_tellCount 152 = .ok (.ireturn, 1) := by decide +kernel
theorem dX1_tellCount_153 : decode cX1_tellCount 153 = .ok (.aload_n 0, 1) := by decide +kernel
theorem dX1_tellCount_154 : decode cX1_tellCount 154 = .ok (.getfield 43, 3) := by decide +kernel
theorem dX1_tellCount_157 : decode cX1_tellCount 157 = .ok (.iconst 1, 1) := by decide +kernel
theorem dX1_tellCount_158 : decode cX1_tellCount 158 = .ok (.iaload, 1) := by decide +kernel
theorem dX1_tellCount_159 : decode cX1_tellCount 159 = .ok (.ireturn, 1) := by decide +kernel
theorem dX1_tellCount_160 : decode cX1_tellCount 160 = .ok (.aload_n 0, 1) := by decide +kernel
theorem dX1_tellCount_161 : decode cX1_tellCount 161 = .ok (.getfield 43, 3) := by decide +kernel
theorem dX1_tellCount_164 : decode cX1_tellCount 164 = .ok (.iconst 2, 1) := by decide +kernel
theorem dX1_tellCount_165 : decode cX1_tellCount 165 = .ok (.iaload, 1) := by decide +kernel
theorem dX1_tellCount_166 : decode cX1_tellCount 166 = .ok (.ireturn, 1) := by decide +kernel
theorem dX1_tellCount_167 : decode cX1_tellCount 167 = .ok (.bipush (-2), 2) := by decide +kernel
theorem dX1_tellCount_169 : decode cX1_tellCount 169 = .ok (.ireturn, 1) := by decide +kernel
def wp_X1_tellCount (σ : Mem) (y1 : Int32) (P : Int32 → Prop) : Prop :=
  ((y1 = 0 →
    P (σ 0 12)) ∧
    (¬ y1 = 0 →
    ((y1 = 1 →
    wp_X1_freeCells σ  (fun r1 =>
      P r1)) ∧
    (¬ y1 = 1 →
    ((y1 = 2 →
    wp_X1_usedCells σ  (fun r2 =>
      P r2)) ∧
    (¬ y1 = 2 →
    ((y1 = 3 →
    wp_X1_retiredCells σ  (fun r3 =>
      P r3)) ∧
    (¬ y1 = 3 →
    ((y1 = 4 →
    wp_X1_waitingCells σ  (fun r4 =>
      P r4)) ∧
    (¬ y1 = 4 →
    ((y1 = 5 →
    P (σ 0 10)) ∧
    (¬ y1 = 5 →
    ((y1 = 6 →
    wp_X1_usedCells σ  (fun r5 =>
      P r5)) ∧
    (¬ y1 = 6 →
    ((y1 = 7 →
    wp_X1_pinnedPages σ  (fun r6 =>
      P r6)) ∧
    (¬ y1 = 7 →
    ((y1 = 8 →
    P (σ 0 14)) ∧
    (¬ y1 = 8 →
    ((y1 = 9 →
    P (σ 0 15)) ∧
    (¬ y1 = 9 →
    ((y1 = 10 →
    wp_X1_sum σ 9 (fun r7 =>
      P r7)) ∧
    (¬ y1 = 10 →
    ((y1 = 11 →
    wp_X1_sum σ 8 (fun r8 =>
      P r8)) ∧
    (¬ y1 = 11 →
    ((y1 = 12 →
    P (σ 0 16)) ∧
    (¬ y1 = 12 →
    ((y1 = 13 →
    P (σ 11 0)) ∧
    (¬ y1 = 13 →
    ((y1 = 14 →
    P (σ 11 1)) ∧
    (¬ y1 = 14 →
    ((y1 = 15 →
    P (σ 11 2)) ∧
    (¬ y1 = 15 →
    P (-2)))))))))))))))))))))))))))))))))
set_option maxRecDepth 100000 in
set_option maxHeartbeats 4000000 in
theorem c_X1_tellCount (V : EV) (σ : Mem) (y1 : Int32) (P : Int32 → Prop) (l : Launch) : Met l yX1_tellCount (.code yX1_tellCount cX1_tellCount 2 (some .int) :: AW) { frames := 3, cells := 0, slots := 0, locals := 66 } (va_Pc [.ref (ad V 0), .int y1] (fun U => wP V σ U ∧ wp_X1_tellCount σ y1 P)) (va_Qi (fun r τ => τ = σ ∧ P r) (wB V) (AA V)) 0 0 (AA V) := by
  refine met_i V σ (own := RX1) (by decide +kernel) rfl (fun v hv => by simp at hv; rcases hv with rfl | rfl <;> rfl) (Nat.le_of_ble_eq_true rfl) (fun X C D h => ?_) l
  show GG V X σ 0 [some (.ref (ad V 0)), some (.int y1)] []
  refine g_iload_n C dX1_tellCount_0 rfl rfl rfl ?_
  by_cases q0 : y1 = 0
  · have h := h.1 q0
    refine g_tinK C dX1_tellCount_1 q0 (by decide) (by decide) (off := 79) (by rfl) (pc' := 80) rfl ?_
    refine g_aload_n C dX1_tellCount_80 rfl rfl rfl ?_
    refine f_X1_59 C dX1_tellCount_81 rfl ?_
    exact g_iret C dX1_tellCount_84 D ⟨rfl, h⟩
  have h := h.2 q0
  by_cases q1 : y1 = 1
  · have h := h.1 q1
    refine g_tinK C dX1_tellCount_1 q1 (by decide) (by decide) (off := 84) (by rfl) (pc' := 85) rfl ?_
    refine g_aload_n C dX1_tellCount_85 rfl rfl rfl ?_
    refine k_X1_103 C dX1_tellCount_86 (Nat.le_of_ble_eq_true rfl) (by decide) rfl rfl h (fun r1 h => ?_)
    exact g_iret C dX1_tellCount_89 D ⟨rfl, h⟩
  have h := h.2 q1
  by_cases q2 : y1 = 2
  · have h := h.1 q2
    refine g_tinK C dX1_tellCount_1 q2 (by decide) (by decide) (off := 89) (by rfl) (pc' := 90) rfl ?_
    refine g_aload_n C dX1_tellCount_90 rfl rfl rfl ?_
    refine k_X1_137 C dX1_tellCount_91 (Nat.le_of_ble_eq_true rfl) (by decide) rfl rfl h (fun r2 h => ?_)
    exact g_iret C dX1_tellCount_94 D ⟨rfl, h⟩
  have h := h.2 q2
  by_cases q3 : y1 = 3
  · have h := h.1 q3
    refine g_tinK C dX1_tellCount_1 q3 (by decide) (by decide) (off := 94) (by rfl) (pc' := 95) rfl ?_
    refine g_aload_n C dX1_tellCount_95 rfl rfl rfl ?_
    refine k_X1_140 C dX1_tellCount_96 (Nat.le_of_ble_eq_true rfl) (by decide) rfl rfl h (fun r3 h => ?_)
    exact g_iret C dX1_tellCount_99 D ⟨rfl, h⟩
  have h := h.2 q3
  by_cases q4 : y1 = 4
  · have h := h.1 q4
    refine g_tinK C dX1_tellCount_1 q4 (by decide) (by decide) (off := 99) (by rfl) (pc' := 100) rfl ?_
    refine g_aload_n C dX1_tellCount_100 rfl rfl rfl ?_
    refine k_X1_113 C dX1_tellCount_101 (Nat.le_of_ble_eq_true rfl) (by decide) rfl rfl h (fun r4 h => ?_)
    exact g_iret C dX1_tellCount_104 D ⟨rfl, h⟩
  have h := h.2 q4
  by_cases q5 : y1 = 5
  · have h := h.1 q5
    refine g_tinK C dX1_tellCount_1 q5 (by decide) (by decide) (off := 104) (by rfl) (pc' := 105) rfl ?_
    refine g_aload_n C dX1_tellCount_105 rfl rfl rfl ?_
    refine f_X1_56 C dX1_tellCount_106 rfl ?_
    exact g_iret C dX1_tellCount_109 D ⟨rfl, h⟩
  have h := h.2 q5
  by_cases q6 : y1 = 6
  · have h := h.1 q6
    refine g_tinK C dX1_tellCount_1 q6 (by decide) (by decide) (off := 89) (by rfl) (pc' := 90) rfl ?_
    refine g_aload_n C dX1_tellCount_90 rfl rfl rfl ?_
    refine k_X1_137 C dX1_tellCount_91 (Nat.le_of_ble_eq_true rfl) (by decide) rfl rfl h (fun r5 h => ?_)
    exact g_iret C dX1_tellCount_94 D ⟨rfl, h⟩
  have h := h.2 q6
  by_cases q7 : y1 = 7
  · have h := h.1 q7
    refine g_tinK C dX1_tellCount_1 q7 (by decide) (by decide) (off := 109) (by rfl) (pc' := 110) rfl ?_
    refine g_aload_n C dX1_tellCount_110 rfl rfl rfl ?_
    refine k_X1_90 C dX1_tellCount_111 (Nat.le_of_ble_eq_true rfl) (by decide) rfl rfl h (fun r6 h => ?_)
    exact g_iret C dX1_tellCount_114 D ⟨rfl, h⟩
  have h := h.2 q7
  by_cases q8 : y1 = 8
  · have h := h.1 q8
    refine g_tinK C dX1_tellCount_1 q8 (by decide) (by decide) (off := 114) (by rfl) (pc' := 115) rfl ?_
    refine g_aload_n C dX1_tellCount_115 rfl rfl rfl ?_
    refine f_X1_62 C dX1_tellCount_116 rfl ?_
    exact g_iret C dX1_tellCount_119 D ⟨rfl, h⟩
  have h := h.2 q8
  by_cases q9 : y1 = 9
  · have h := h.1 q9
    refine g_tinK C dX1_tellCount_1 q9 (by decide) (by decide) (off := 119) (by rfl) (pc' := 120) rfl ?_
    refine g_aload_n C dX1_tellCount_120 rfl rfl rfl ?_
    refine f_X1_65 C dX1_tellCount_121 rfl ?_
    exact g_iret C dX1_tellCount_124 D ⟨rfl, h⟩
  have h := h.2 q9
  by_cases q10 : y1 = 10
  · have h := h.1 q10
    refine g_tinK C dX1_tellCount_1 q10 (by decide) (by decide) (off := 124) (by rfl) (pc' := 125) rfl ?_
    refine g_aload_n C dX1_tellCount_125 rfl rfl rfl ?_
    refine f_X1_37 C dX1_tellCount_126 rfl ?_
    refine k_X1_143 arr_9 C dX1_tellCount_129 (Nat.le_of_ble_eq_true rfl) (by decide) rfl rfl h (fun r7 h => ?_)
    exact g_iret C dX1_tellCount_132 D ⟨rfl, h⟩
  have h := h.2 q10
  by_cases q11 : y1 = 11
  · have h := h.1 q11
    refine g_tinK C dX1_tellCount_1 q11 (by decide) (by decide) (off := 132) (by rfl) (pc' := 133) rfl ?_
    refine g_aload_n C dX1_tellCount_133 rfl rfl rfl ?_
    refine f_X1_34 C dX1_tellCount_134 rfl ?_
    refine k_X1_143 arr_8 C dX1_tellCount_137 (Nat.le_of_ble_eq_true rfl) (by decide) rfl rfl h (fun r8 h => ?_)
    exact g_iret C dX1_tellCount_140 D ⟨rfl, h⟩
  have h := h.2 q11
  by_cases q12 : y1 = 12
  · have h := h.1 q12
    refine g_tinK C dX1_tellCount_1 q12 (by decide) (by decide) (off := 140) (by rfl) (pc' := 141) rfl ?_
    refine g_aload_n C dX1_tellCount_141 rfl rfl rfl ?_
    refine f_X1_68 C dX1_tellCount_142 rfl ?_
    exact g_iret C dX1_tellCount_145 D ⟨rfl, h⟩
  have h := h.2 q12
  by_cases q13 : y1 = 13
  · have h := h.1 q13
    refine g_tinK C dX1_tellCount_1 q13 (by decide) (by decide) (off := 145) (by rfl) (pc' := 146) rfl ?_
    refine g_aload_n C dX1_tellCount_146 rfl rfl rfl ?_
    refine f_X1_43 C dX1_tellCount_147 rfl ?_
    refine g_iconst C dX1_tellCount_150 ic_0 rfl ?_
    refine g_ildk C dX1_tellCount_151 arr_11 vi_0_3 tl_0 rfl ?_
    exact g_iret C dX1_tellCount_152 D ⟨rfl, h⟩
  have h := h.2 q13
  by_cases q14 : y1 = 14
  · have h := h.1 q14
    refine g_tinK C dX1_tellCount_1 q14 (by decide) (by decide) (off := 152) (by rfl) (pc' := 153) rfl ?_
    refine g_aload_n C dX1_tellCount_153 rfl rfl rfl ?_
    refine f_X1_43 C dX1_tellCount_154 rfl ?_
    refine g_iconst C dX1_tellCount_157 ic_1 rfl ?_
    refine g_ildk C dX1_tellCount_158 arr_11 vi_1_3 tl_1 rfl ?_
    exact g_iret C dX1_tellCount_159 D ⟨rfl, h⟩
  have h := h.2 q14
  by_cases q15 : y1 = 15
  · have h := h.1 q15
    refine g_tinK C dX1_tellCount_1 q15 (by decide) (by decide) (off := 159) (by rfl) (pc' := 160) rfl ?_
    refine g_aload_n C dX1_tellCount_160 rfl rfl rfl ?_
    refine f_X1_43 C dX1_tellCount_161 rfl ?_
    refine g_iconst C dX1_tellCount_164 ic_2 rfl ?_
    refine g_ildk C dX1_tellCount_165 arr_11 vi_2_3 tl_2 rfl ?_
    exact g_iret C dX1_tellCount_166 D ⟨rfl, h⟩
  have h := h.2 q15
  have hout : ((y1).toInt < 0 ∨ 15 < (y1).toInt) := by
    rcases tsw_cases (y1) 0 16 with hq | ⟨k, hk, he⟩
    · omega
    · rcases (show k = 0 ∨ k = 1 ∨ k = 2 ∨ k = 3 ∨ k = 4 ∨ k = 5 ∨ k = 6 ∨ k = 7 ∨ k = 8 ∨ k = 9 ∨ k = 10 ∨ k = 11 ∨ k = 12 ∨ k = 13 ∨ k = 14 ∨ k = 15 by omega) with rfl | rfl | rfl | rfl | rfl | rfl | rfl | rfl | rfl | rfl | rfl | rfl | rfl | rfl | rfl | rfl
      · exact absurd (i32_of he (by decide)) q0
      · exact absurd (i32_of he (by decide)) q1
      · exact absurd (i32_of he (by decide)) q2
      · exact absurd (i32_of he (by decide)) q3
      · exact absurd (i32_of he (by decide)) q4
      · exact absurd (i32_of he (by decide)) q5
      · exact absurd (i32_of he (by decide)) q6
      · exact absurd (i32_of he (by decide)) q7
      · exact absurd (i32_of he (by decide)) q8
      · exact absurd (i32_of he (by decide)) q9
      · exact absurd (i32_of he (by decide)) q10
      · exact absurd (i32_of he (by decide)) q11
      · exact absurd (i32_of he (by decide)) q12
      · exact absurd (i32_of he (by decide)) q13
      · exact absurd (i32_of he (by decide)) q14
      · exact absurd (i32_of he (by decide)) q15
  refine g_tout C dX1_tellCount_1 hout (pc' := 167) rfl ?_
  refine g_bipush C dX1_tellCount_167 bp_m2 rfl ?_
  exact g_iret C dX1_tellCount_169 D ⟨rfl, h⟩
theorem hd_X1_tellCount : yX1_tellCount.cls ≠ "java/lang/invoke/MethodHandle" ∧ yX1_tellCount.cls ≠ "java/lang/invoke/VarHandle" ∧ (parseMethodDescriptor yX1_tellCount.desc).map (fun d => d.parameters.length) = some 1 := by decide +kernel
theorem k_X4_169 {V : EV} {X : CX} {cc : ByteArray} {nL : Nat} {R : Room} {y1 : Int32} (C : OK V X RX4 cc nL R) {σ : Mem} {pc pc' : Nat} {L : List (Option Value)} {st : List Value} {P : Int32 → Prop} (d : decode cc pc = .ok (.invokevirtual 169, 3)) (hst : (st.map fun v => v.category).sum ≤ 8) (hr : 3 + 1 ≤ R.frames ∧ 8 + (2 + 11) + 66 ≤ R.locals) (hL : L.length = nL) (hp : pc + 3 = pc') (h : wp_X1_tellCount σ y1 P) (k : ∀ r, P r → GG V X σ pc' L (.int r :: st)) : GG V X σ pc L (.int y1 :: .ref (ad V 0) :: st) :=
  g_callVi C (av := [.int y1]) (fun l => c_X1_tellCount V σ y1 P l) (by decide) (en_0 V σ) (q := (RX1, TX1, 17)) rfl rfl ml_RX4_169 im_X1_tellCount se_X1_tellCount ini_RX1 co_X1_tellCount hd_X1_tellCount rfl ⟨rfl, rfl⟩ hr hst d hL hp h (fun r τ hq => by obtain ⟨rfl, hq⟩ := hq; exact k r hq)

theorem dX1_listedAt_0 : decode cX1_listedAt 0 = .ok (.iload_n 1, 1) := by decide +kernel
theorem dX1_listedAt_1 : decode cX1_listedAt 1 = .ok (.ifCond .lt 20, 3) := by decide +kernel
theorem dX1_listedAt_4 : decode cX1_listedAt 4 = .ok (.iload_n 1, 1) := by decide +kernel
theorem dX1_listedAt_5 : decode cX1_listedAt 5 = .ok (.aload_n 0, 1) := by decide +kernel
theorem dX1_listedAt_6 : decode cX1_listedAt 6 = .ok (.getfield 56, 3) := by decide +kernel
theorem dX1_listedAt_9 : decode cX1_listedAt 9 = .ok (.if_icmp .ge 12, 3) := by decide +kernel
theorem dX1_listedAt_12 : decode cX1_listedAt 12 = .ok (.aload_n 0, 1) := by decide +kernel
theorem dX1_listedAt_13 : decode cX1_listedAt 13 = .ok (.getfield 40, 3) := by decide +kernel
theorem dX1_listedAt_16 : decode cX1_listedAt 16 = .ok (.iload_n 1, 1) := by decide +kernel
theorem dX1_listedAt_17 : decode cX1_listedAt 17 = .ok (.iaload, 1) := by decide +kernel
theorem dX1_listedAt_18 : decode cX1_listedAt 18 = .ok (.goto 5, 3) := by decide +kernel
theorem dX1_listedAt_21 : decode cX1_listedAt 21 = .ok (.bipush (-5), 2) := by decide +kernel
theorem dX1_listedAt_23 : decode cX1_listedAt 23 = .ok (.ireturn, 1) := by decide +kernel
def wp_X1_listedAt (σ : Mem) (y1 : Int32) (P : Int32 → Prop) : Prop :=
  ((y1 < 0 →
    P (-5)) ∧
    (¬ y1 < 0 →
    (((σ 0 10) ≤ y1 →
      P (-5)) ∧
      (¬ (σ 0 10) ≤ y1 →
      vp_in y1 12 ∧ P (σ 10 y1.toNatClampNeg)))))
set_option maxRecDepth 100000 in
set_option maxHeartbeats 4000000 in
theorem c_X1_listedAt (V : EV) (σ : Mem) (y1 : Int32) (P : Int32 → Prop) (l : Launch) : Met l yX1_listedAt (.code yX1_listedAt cX1_listedAt 2 (some .int) :: AW) { frames := 0, cells := 0, slots := 0, locals := 0 } (va_Pc [.ref (ad V 0), .int y1] (fun U => wP V σ U ∧ wp_X1_listedAt σ y1 P)) (va_Qi (fun r τ => τ = σ ∧ P r) (wB V) (AA V)) 0 0 (AA V) := by
  refine met_i V σ (own := RX1) (by decide +kernel) rfl (fun v hv => by simp at hv; rcases hv with rfl | rfl <;> rfl) (Nat.le_of_ble_eq_true rfl) (fun X C D h => ?_) l
  show GG V X σ 0 [some (.ref (ad V 0)), some (.int y1)] []
  refine g_iload_n C dX1_listedAt_0 rfl rfl rfl ?_
  refine g_if_lt C dX1_listedAt_1 (tgt := 21) rfl rfl (fun q => ?_) (fun q => ?_)
  · have h := h.1 q
    refine g_bipush C dX1_listedAt_21 bp_m5 rfl ?_
    exact g_iret C dX1_listedAt_23 D ⟨rfl, h⟩
  · have h := h.2 q
    refine g_iload_n C dX1_listedAt_4 rfl rfl rfl ?_
    refine g_aload_n C dX1_listedAt_5 rfl rfl rfl ?_
    refine f_X1_56 C dX1_listedAt_6 rfl ?_
    refine g_icmp_ge C dX1_listedAt_9 (tgt := 21) rfl rfl (fun q => ?_) (fun q => ?_)
    · have h := h.1 q
      refine g_bipush C dX1_listedAt_21 bp_m5 rfl ?_
      exact g_iret C dX1_listedAt_23 D ⟨rfl, h⟩
    · have h := h.2 q
      refine g_aload_n C dX1_listedAt_12 rfl rfl rfl ?_
      refine f_X1_40 C dX1_listedAt_13 rfl ?_
      refine g_iload_n C dX1_listedAt_16 rfl rfl rfl ?_
      obtain ⟨hin, h⟩ := h
      refine g_ild C dX1_listedAt_17 arr_10 hin rfl ?_
      refine g_goto C dX1_listedAt_18 (pc' := 23) rfl ?_
      exact g_iret C dX1_listedAt_23 D ⟨rfl, h⟩
theorem hd_X1_listedAt : yX1_listedAt.cls ≠ "java/lang/invoke/MethodHandle" ∧ yX1_listedAt.cls ≠ "java/lang/invoke/VarHandle" ∧ (parseMethodDescriptor yX1_listedAt.desc).map (fun d => d.parameters.length) = some 1 := by decide +kernel
theorem k_X4_147 {V : EV} {X : CX} {cc : ByteArray} {nL : Nat} {R : Room} {y1 : Int32} (C : OK V X RX4 cc nL R) {σ : Mem} {pc pc' : Nat} {L : List (Option Value)} {st : List Value} {P : Int32 → Prop} (d : decode cc pc = .ok (.invokevirtual 147, 3)) (hst : (st.map fun v => v.category).sum ≤ 8) (hr : 0 + 1 ≤ R.frames ∧ 8 + (2 + 11) + 0 ≤ R.locals) (hL : L.length = nL) (hp : pc + 3 = pc') (h : wp_X1_listedAt σ y1 P) (k : ∀ r, P r → GG V X σ pc' L (.int r :: st)) : GG V X σ pc L (.int y1 :: .ref (ad V 0) :: st) :=
  g_callVi C (av := [.int y1]) (fun l => c_X1_listedAt V σ y1 P l) (by decide) (en_0 V σ) (q := (RX1, TX1, 17)) rfl rfl ml_RX4_147 im_X1_listedAt se_X1_listedAt ini_RX1 co_X1_listedAt hd_X1_listedAt rfl ⟨rfl, rfl⟩ hr hst d hL hp h (fun r τ hq => by obtain ⟨rfl, hq⟩ := hq; exact k r hq)

theorem dX1_whyNotRetired_0 : decode cX1_whyNotRetired 0 = .ok (.aload_n 0, 1) := by decide +kernel
theorem dX1_whyNotRetired_1 : decode cX1_whyNotRetired 1 = .ok (.getfield 9, 3) := by decide +kernel
theorem dX1_whyNotRetired_4 : decode cX1_whyNotRetired 4 = .ok (.iload_n 1, 1) := by decide +kernel
theorem dX1_whyNotRetired_5 : decode cX1_whyNotRetired 5 = .ok (.baload, 1) := by decide +kernel
theorem dX1_whyNotRetired_6 : decode cX1_whyNotRetired 6 = .ok (.ifCond .eq 5, 3) := by decide +kernel
theorem dX1_whyNotRetired_9 : decode cX1_whyNotRetired 9 = .ok (.iconst 0, 1) := by decide +kernel
theorem dX1_whyNotRetired_10 : decode cX1_whyNotRetired 10 = .ok (.ireturn, 1) := by decide +kernel
theorem dX1_whyNotRetired_11 : decode cX1_whyNotRetired 11 = .ok (.aload_n 0, 1) := by decide +kernel
theorem dX1_whyNotRetired_12 : decode cX1_whyNotRetired 12 = .ok (.iload_n 1, 1) := by decide +kernel
theorem dX1_whyNotRetired_13 : decode cX1_whyNotRetired 13 = .ok (.invokevirtual 147, 3) := by decide +kernel
theorem dX1_whyNotRetired_16 : decode cX1_whyNotRetired 16 = .ok (.ifCond .ne 5, 3) := by decide +kernel
theorem dX1_whyNotRetired_19 : decode cX1_whyNotRetired 19 = .ok (.iconst 1, 1) := by decide +kernel
theorem dX1_whyNotRetired_20 : decode cX1_whyNotRetired 20 = .ok (.ireturn, 1) := by decide +kernel
theorem dX1_whyNotRetired_21 : decode cX1_whyNotRetired 21 = .ok (.aload_n 0, 1) := by decide +kernel
theorem dX1_whyNotRetired_22 : decode cX1_whyNotRetired 22 = .ok (.getfield 19, 3) := by decide +kernel
theorem dX1_whyNotRetired_25 : decode cX1_whyNotRetired 25 = .ok (.iload_n 1, 1) := by decide +kernel
theorem dX1_whyNotRetired_26 : decode cX1_whyNotRetired 26 = .ok (.iaload, 1) := by decide +kernel
theorem dX1_whyNotRetired_27 : decode cX1_whyNotRetired 27 = .ok (.istore_n 2, 1) := by decide +kernel
theorem dX1_whyNotRetired_28 : decode cX1_whyNotRetired 28 = .ok (.iload_n 2, 1) := by decide +kernel
theorem dX1_whyNotRetired_29 : decode cX1_whyNotRetired 29 = .ok (.ifCond .lt 16, 3) := by decide +kernel
theorem dX1_whyNotRetired_32 : decode cX1_whyNotRetired 32 = .ok (.aload_n 0, 1) := by decide +kernel
theorem dX1_whyNotRetired_33 : decode cX1_whyNotRetired 33 = .ok (.getfield 28, 3) := by decide +kernel
theorem dX1_whyNotRetired_36 : decode cX1_whyNotRetired 36 = .ok (.iload_n 2, 1) := by decide +kernel
theorem dX1_whyNotRetired_37 : decode cX1_whyNotRetired 37 = .ok (.baload, 1) := by decide +kernel
theorem dX1_whyNotRetired_38 : decode cX1_whyNotRetired 38 = .ok (.ifCond .eq 7, 3) := by decide +kernel
theorem dX1_whyNotRetired_41 : decode cX1_whyNotRetired 41 = .ok (.iconst 2, 1) := by decide +kernel
theorem dX1_whyNotRetired_42 : decode cX1_whyNotRetired 42 = .ok (.goto 4, 3) := by decide +kernel
theorem dX1_whyNotRetired_45 : decode cX1_whyNotRetired 45 = .ok (.iconst 3, 1) := by decide +kernel
theorem dX1_whyNotRetired_46 : decode cX1_whyNotRetired 46 = .ok (.ireturn, 1) := by decide +kernel
def wp_X1_whyNotRetired (σ : Mem) (y1 : Int32) (P : Int32 → Prop) : Prop :=
  vp_in y1 40 ∧ (((σ 1 y1.toNatClampNeg) = 0 →
    wp_X1_isBad σ y1 (fun r1 =>
      ((r1 = 0 →
      P 1) ∧
      (¬ r1 = 0 →
      vp_in y1 40 ∧ (((σ 3 y1.toNatClampNeg) < 0 →
        P 3) ∧
        (¬ (σ 3 y1.toNatClampNeg) < 0 →
        vp_in (σ 3 y1.toNatClampNeg) 50 ∧ (((σ 6 (σ 3 y1.toNatClampNeg).toNatClampNeg) = 0 →
          P 3) ∧
          (¬ (σ 6 (σ 3 y1.toNatClampNeg).toNatClampNeg) = 0 →
          P 2)))))))) ∧
    (¬ (σ 1 y1.toNatClampNeg) = 0 →
    P 0))
set_option maxRecDepth 100000 in
set_option maxHeartbeats 4000000 in
theorem c_X1_whyNotRetired (V : EV) (σ : Mem) (y1 : Int32) (P : Int32 → Prop) (l : Launch) : Met l yX1_whyNotRetired (.code yX1_whyNotRetired cX1_whyNotRetired 3 (some .int) :: AW) { frames := 1, cells := 0, slots := 0, locals := 21 } (va_Pc [.ref (ad V 0), .int y1] (fun U => wP V σ U ∧ wp_X1_whyNotRetired σ y1 P)) (va_Qi (fun r τ => τ = σ ∧ P r) (wB V) (AA V)) 0 0 (AA V) := by
  refine met_i V σ (own := RX1) (by decide +kernel) rfl (fun v hv => by simp at hv; rcases hv with rfl | rfl <;> rfl) (Nat.le_of_ble_eq_true rfl) (fun X C D h => ?_) l
  show GG V X σ 0 [some (.ref (ad V 0)), some (.int y1), none] []
  refine g_aload_n C dX1_whyNotRetired_0 rfl rfl rfl ?_
  refine f_X1_9 C dX1_whyNotRetired_1 rfl ?_
  refine g_iload_n C dX1_whyNotRetired_4 rfl rfl rfl ?_
  obtain ⟨hin, h⟩ := h
  refine g_zld C dX1_whyNotRetired_5 arr_1 hin rfl ?_
  refine g_if_eq C dX1_whyNotRetired_6 (tgt := 11) rfl rfl (fun q => ?_) (fun q => ?_)
  · have h := h.1 q
    refine g_aload_n C dX1_whyNotRetired_11 rfl rfl rfl ?_
    refine g_iload_n C dX1_whyNotRetired_12 rfl rfl rfl ?_
    refine k_X1_147 C dX1_whyNotRetired_13 (Nat.le_of_ble_eq_true rfl) (by decide) rfl rfl h (fun r1 h => ?_)
    refine g_if_ne C dX1_whyNotRetired_16 (tgt := 21) rfl rfl (fun q => ?_) (fun q => ?_)
    · have h := h.2 q
      refine g_aload_n C dX1_whyNotRetired_21 rfl rfl rfl ?_
      refine f_X1_19 C dX1_whyNotRetired_22 rfl ?_
      refine g_iload_n C dX1_whyNotRetired_25 rfl rfl rfl ?_
      obtain ⟨hin, h⟩ := h
      refine g_ild C dX1_whyNotRetired_26 arr_3 hin rfl ?_
      refine g_istore_n C dX1_whyNotRetired_27 rfl (Nat.le_of_ble_eq_true rfl) (L' := [some (.ref (ad V 0)), some (.int y1), some (.int (σ 3 y1.toNatClampNeg))]) rfl rfl ?_
      refine g_iload_n C dX1_whyNotRetired_28 rfl rfl rfl ?_
      refine g_if_lt C dX1_whyNotRetired_29 (tgt := 45) rfl rfl (fun q => ?_) (fun q => ?_)
      · have h := h.1 q
        refine g_iconst C dX1_whyNotRetired_45 ic_3 rfl ?_
        exact g_iret C dX1_whyNotRetired_46 D ⟨rfl, h⟩
      · have h := h.2 q
        refine g_aload_n C dX1_whyNotRetired_32 rfl rfl rfl ?_
        refine f_X1_28 C dX1_whyNotRetired_33 rfl ?_
        refine g_iload_n C dX1_whyNotRetired_36 rfl rfl rfl ?_
        obtain ⟨hin, h⟩ := h
        refine g_zld C dX1_whyNotRetired_37 arr_6 hin rfl ?_
        refine g_if_eq C dX1_whyNotRetired_38 (tgt := 45) rfl rfl (fun q => ?_) (fun q => ?_)
        · have h := h.1 q
          refine g_iconst C dX1_whyNotRetired_45 ic_3 rfl ?_
          exact g_iret C dX1_whyNotRetired_46 D ⟨rfl, h⟩
        · have h := h.2 q
          refine g_iconst C dX1_whyNotRetired_41 ic_2 rfl ?_
          refine g_goto C dX1_whyNotRetired_42 (pc' := 46) rfl ?_
          exact g_iret C dX1_whyNotRetired_46 D ⟨rfl, h⟩
    · have h := h.1 q
      refine g_iconst C dX1_whyNotRetired_19 ic_1 rfl ?_
      exact g_iret C dX1_whyNotRetired_20 D ⟨rfl, h⟩
  · have h := h.2 q
    refine g_iconst C dX1_whyNotRetired_9 ic_0 rfl ?_
    exact g_iret C dX1_whyNotRetired_10 D ⟨rfl, h⟩
theorem hd_X1_whyNotRetired : yX1_whyNotRetired.cls ≠ "java/lang/invoke/MethodHandle" ∧ yX1_whyNotRetired.cls ≠ "java/lang/invoke/VarHandle" ∧ (parseMethodDescriptor yX1_whyNotRetired.desc).map (fun d => d.parameters.length) = some 1 := by decide +kernel
theorem k_X4_153 {V : EV} {X : CX} {cc : ByteArray} {nL : Nat} {R : Room} {y1 : Int32} (C : OK V X RX4 cc nL R) {σ : Mem} {pc pc' : Nat} {L : List (Option Value)} {st : List Value} {P : Int32 → Prop} (d : decode cc pc = .ok (.invokevirtual 153, 3)) (hst : (st.map fun v => v.category).sum ≤ 8) (hr : 1 + 1 ≤ R.frames ∧ 8 + (3 + 11) + 21 ≤ R.locals) (hL : L.length = nL) (hp : pc + 3 = pc') (h : wp_X1_whyNotRetired σ y1 P) (k : ∀ r, P r → GG V X σ pc' L (.int r :: st)) : GG V X σ pc L (.int y1 :: .ref (ad V 0) :: st) :=
  g_callVi C (av := [.int y1]) (fun l => c_X1_whyNotRetired V σ y1 P l) (by decide) (en_0 V σ) (q := (RX1, TX1, 17)) rfl rfl ml_RX4_153 im_X1_whyNotRetired se_X1_whyNotRetired ini_RX1 co_X1_whyNotRetired hd_X1_whyNotRetired rfl ⟨rfl, rfl⟩ hr hst d hL hp h (fun r τ hq => by obtain ⟨rfl, hq⟩ := hq; exact k r hq)

theorem dX1_errorsUntilRetired_0 : decode cX1_errorsUntilRetired 0 = .ok (.aload_n 0, 1) := by decide +kernel
theorem dX1_errorsUntilRetired_1 : decode cX1_errorsUntilRetired 1 = .ok (.getfield 9, 3) := by decide +kernel
theorem dX1_errorsUntilRetired_4 : decode cX1_errorsUntilRetired 4 = .ok (.iload_n 1, 1) := by decide +kernel
theorem dX1_errorsUntilRetired_5 : decode cX1_errorsUntilRetired 5 = .ok (.baload, 1) := by decide +kernel
theorem dX1_errorsUntilRetired_6 : decode cX1_errorsUntilRetired 6 = .ok (.ifCond .eq 6, 3) := by decide +kernel
theorem dX1_errorsUntilRetired_9 : decode cX1_errorsUntilRetired 9 = .ok (.bipush (-4), 2) := by decide +kernel
theorem dX1_errorsUntilRetired_11 : decode cX1_errorsUntilRetired 11 = .ok (.ireturn, 1) := by decide +kernel
theorem dX1_errorsUntilRetired_12 : decode cX1_errorsUntilRetired 12 = .ok (.aload_n 0, 1) := by decide +kernel
theorem dX1_errorsUntilRetired_13 : decode cX1_errorsUntilRetired 13 = .ok (.iload_n 1, 1) := by decide +kernel
theorem dX1_errorsUntilRetired_14 : decode cX1_errorsUntilRetired 14 = .ok (.invokevirtual 147, 3) := by decide +kernel
theorem dX1_errorsUntilRetired_17 : decode cX1_errorsUntilRetired 17 = .ok (.ifCond .ne 11, 3) := by decide +kernel
theorem dX1_errorsUntilRetired_20 : decode cX1_errorsUntilRetired 20 = .ok (.aload_n 0, 1) := by decide +kernel
theorem dX1_errorsUntilRetired_21 : decode cX1_errorsUntilRetired 21 = .ok (.iload_n 1, 1) := by decide +kernel
theorem dX1_errorsUntilRetired_22 : decode cX1_errorsUntilRetired 22 = .ok (.invokevirtual 122, 3) := by decide +kernel
theorem dX1_errorsUntilRetired_25 : decode cX1_errorsUntilRetired 25 = .ok (.ifCond .ne 6, 3) := by decide +kernel
theorem dX1_errorsUntilRetired_28 : decode cX1_errorsUntilRetired 28 = .ok (.bipush (-5), 2) := by decide +kernel
theorem dX1_errorsUntilRetired_30 : decode cX1_errorsUntilRetired 30 = .ok (.ireturn, 1) := by decide +kernel
theorem dX1_errorsUntilRetired_31 : decode cX1_errorsUntilRetired 31 = .ok (.aload_n 0, 1) := by decide +kernel
theorem dX1_errorsUntilRetired_32 : decode cX1_errorsUntilRetired 32 = .ok (.getfield 43, 3) := by decide +kernel
theorem dX1_errorsUntilRetired_35 : decode cX1_errorsUntilRetired 35 = .ok (.iconst 0, 1) := by decide +kernel
theorem dX1_errorsUntilRetired_36 : decode cX1_errorsUntilRetired 36 = .ok (.iaload, 1) := by decide +kernel
theorem dX1_errorsUntilRetired_37 : decode cX1_errorsUntilRetired 37 = .ok (.aload_n 0, 1) := by decide +kernel
theorem dX1_errorsUntilRetired_38 : decode cX1_errorsUntilRetired 38 = .ok (.getfield 15, 3) := by decide +kernel
theorem dX1_errorsUntilRetired_41 : decode cX1_errorsUntilRetired 41 = .ok (.iload_n 1, 1) := by decide +kernel
theorem dX1_errorsUntilRetired_42 : decode cX1_errorsUntilRetired 42 = .ok (.iaload, 1) := by decide +kernel
theorem dX1_errorsUntilRetired_43 : decode cX1_errorsUntilRetired 43 = .ok (.isub, 1) := by decide +kernel
theorem dX1_errorsUntilRetired_44 : decode cX1_errorsUntilRetired 44 = .ok (.ireturn, 1) := by decide +kernel
def wp_X1_errorsUntilRetired (σ : Mem) (y1 : Int32) (P : Int32 → Prop) : Prop :=
  vp_in y1 40 ∧ (((σ 1 y1.toNatClampNeg) = 0 →
    wp_X1_isBad σ y1 (fun r1 =>
      ((r1 = 0 →
      wp_X1_canRetire σ y1 (fun r2 =>
        ((r2 = 0 →
        P (-5)) ∧
        (¬ r2 = 0 →
        vp_in y1 40 ∧ P (((σ 11 0) - (σ 2 y1.toNatClampNeg))))))) ∧
      (¬ r1 = 0 →
      P (-5))))) ∧
    (¬ (σ 1 y1.toNatClampNeg) = 0 →
    P (-4)))
set_option maxRecDepth 100000 in
set_option maxHeartbeats 4000000 in
theorem c_X1_errorsUntilRetired (V : EV) (σ : Mem) (y1 : Int32) (P : Int32 → Prop) (l : Launch) : Met l yX1_errorsUntilRetired (.code yX1_errorsUntilRetired cX1_errorsUntilRetired 2 (some .int) :: AW) { frames := 3, cells := 0, slots := 0, locals := 68 } (va_Pc [.ref (ad V 0), .int y1] (fun U => wP V σ U ∧ wp_X1_errorsUntilRetired σ y1 P)) (va_Qi (fun r τ => τ = σ ∧ P r) (wB V) (AA V)) 0 0 (AA V) := by
  refine met_i V σ (own := RX1) (by decide +kernel) rfl (fun v hv => by simp at hv; rcases hv with rfl | rfl <;> rfl) (Nat.le_of_ble_eq_true rfl) (fun X C D h => ?_) l
  show GG V X σ 0 [some (.ref (ad V 0)), some (.int y1)] []
  refine g_aload_n C dX1_errorsUntilRetired_0 rfl rfl rfl ?_
  refine f_X1_9 C dX1_errorsUntilRetired_1 rfl ?_
  refine g_iload_n C dX1_errorsUntilRetired_4 rfl rfl rfl ?_
  obtain ⟨hin, h⟩ := h
  refine g_zld C dX1_errorsUntilRetired_5 arr_1 hin rfl ?_
  refine g_if_eq C dX1_errorsUntilRetired_6 (tgt := 12) rfl rfl (fun q => ?_) (fun q => ?_)
  · have h := h.1 q
    refine g_aload_n C dX1_errorsUntilRetired_12 rfl rfl rfl ?_
    refine g_iload_n C dX1_errorsUntilRetired_13 rfl rfl rfl ?_
    refine k_X1_147 C dX1_errorsUntilRetired_14 (Nat.le_of_ble_eq_true rfl) (by decide) rfl rfl h (fun r1 h => ?_)
    refine g_if_ne C dX1_errorsUntilRetired_17 (tgt := 28) rfl rfl (fun q => ?_) (fun q => ?_)
    · have h := h.2 q
      refine g_bipush C dX1_errorsUntilRetired_28 bp_m5 rfl ?_
      exact g_iret C dX1_errorsUntilRetired_30 D ⟨rfl, h⟩
    · have h := h.1 q
      refine g_aload_n C dX1_errorsUntilRetired_20 rfl rfl rfl ?_
      refine g_iload_n C dX1_errorsUntilRetired_21 rfl rfl rfl ?_
      refine k_X1_122 C dX1_errorsUntilRetired_22 (Nat.le_of_ble_eq_true rfl) (by decide) rfl rfl h (fun r2 h => ?_)
      refine g_if_ne C dX1_errorsUntilRetired_25 (tgt := 31) rfl rfl (fun q => ?_) (fun q => ?_)
      · have h := h.2 q
        refine g_aload_n C dX1_errorsUntilRetired_31 rfl rfl rfl ?_
        refine f_X1_43 C dX1_errorsUntilRetired_32 rfl ?_
        refine g_iconst C dX1_errorsUntilRetired_35 ic_0 rfl ?_
        refine g_ildk C dX1_errorsUntilRetired_36 arr_11 vi_0_3 tl_0 rfl ?_
        refine g_aload_n C dX1_errorsUntilRetired_37 rfl rfl rfl ?_
        refine f_X1_15 C dX1_errorsUntilRetired_38 rfl ?_
        refine g_iload_n C dX1_errorsUntilRetired_41 rfl rfl rfl ?_
        obtain ⟨hin, h⟩ := h
        refine g_ild C dX1_errorsUntilRetired_42 arr_2 hin rfl ?_
        refine g_isub C dX1_errorsUntilRetired_43 rfl ?_
        exact g_iret C dX1_errorsUntilRetired_44 D ⟨rfl, h⟩
      · have h := h.1 q
        refine g_bipush C dX1_errorsUntilRetired_28 bp_m5 rfl ?_
        exact g_iret C dX1_errorsUntilRetired_30 D ⟨rfl, h⟩
  · have h := h.2 q
    refine g_bipush C dX1_errorsUntilRetired_9 bp_m4 rfl ?_
    exact g_iret C dX1_errorsUntilRetired_11 D ⟨rfl, h⟩
theorem hd_X1_errorsUntilRetired : yX1_errorsUntilRetired.cls ≠ "java/lang/invoke/MethodHandle" ∧ yX1_errorsUntilRetired.cls ≠ "java/lang/invoke/VarHandle" ∧ (parseMethodDescriptor yX1_errorsUntilRetired.desc).map (fun d => d.parameters.length) = some 1 := by decide +kernel
theorem k_X4_156 {V : EV} {X : CX} {cc : ByteArray} {nL : Nat} {R : Room} {y1 : Int32} (C : OK V X RX4 cc nL R) {σ : Mem} {pc pc' : Nat} {L : List (Option Value)} {st : List Value} {P : Int32 → Prop} (d : decode cc pc = .ok (.invokevirtual 156, 3)) (hst : (st.map fun v => v.category).sum ≤ 8) (hr : 3 + 1 ≤ R.frames ∧ 8 + (2 + 11) + 68 ≤ R.locals) (hL : L.length = nL) (hp : pc + 3 = pc') (h : wp_X1_errorsUntilRetired σ y1 P) (k : ∀ r, P r → GG V X σ pc' L (.int r :: st)) : GG V X σ pc L (.int y1 :: .ref (ad V 0) :: st) :=
  g_callVi C (av := [.int y1]) (fun l => c_X1_errorsUntilRetired V σ y1 P l) (by decide) (en_0 V σ) (q := (RX1, TX1, 17)) rfl rfl ml_RX4_156 im_X1_errorsUntilRetired se_X1_errorsUntilRetired ini_RX1 co_X1_errorsUntilRetired hd_X1_errorsUntilRetired rfl ⟨rfl, rfl⟩ hr hst d hL hp h (fun r τ hq => by obtain ⟨rfl, hq⟩ := hq; exact k r hq)

theorem dX1_cellWithMostErrors_0 : decode cX1_cellWithMostErrors 0 = .ok (.bipush (-5), 2) := by decide +kernel
theorem dX1_cellWithMostErrors_2 : decode cX1_cellWithMostErrors 2 = .ok (.istore_n 1, 1) := by decide +kernel
theorem dX1_cellWithMostErrors_3 : decode cX1_cellWithMostErrors 3 = .ok (.iconst 0, 1) := by decide +kernel
theorem dX1_cellWithMostErrors_4 : decode cX1_cellWithMostErrors 4 = .ok (.istore_n 2, 1) := by decide +kernel
theorem dX1_cellWithMostErrors_5 : decode cX1_cellWithMostErrors 5 = .ok (.iconst 0, 1) := by decide +kernel
theorem dX1_cellWithMostErrors_6 : decode cX1_cellWithMostErrors 6 = .ok (.istore_n 3, 1) := by decide +kernel
theorem dX1_cellWithMostErrors_7 : decode cX1_cellWithMostErrors 7 = .ok (.iload_n 3, 1) := by decide +kernel
theorem dX1_cellWithMostErrors_8 : decode cX1_cellWithMostErrors 8 = .ok (.bipush 40, 2) := by decide +kernel
theorem dX1_cellWithMostErrors_10 : decode cX1_cellWithMostErrors 10 = .ok (.if_icmp .ge 37, 3) := by decide +kernel
theorem dX1_cellWithMostErrors_13 : decode cX1_cellWithMostErrors 13 = .ok (.aload_n 0, 1) := by decide +kernel
theorem dX1_cellWithMostErrors_14 : decode cX1_cellWithMostErrors 14 = .ok (.getfield 9, 3) := by decide +kernel
theorem dX1_cellWithMostErrors_17 : decode cX1_cellWithMostErrors 17 = .ok (.iload_n 3, 1) := by decide +kernel
theorem dX1_cellWithMostErrors_18 : decode cX1_cellWithMostErrors 18 = .ok (.baload, 1) := by decide +kernel
theorem dX1_cellWithMostErrors_19 : decode cX1_cellWithMostErrors 19 = .ok (.ifCond .ne 22, 3) := by decide +kernel
theorem dX1_cellWithMostErrors_22 : decode cX1_cellWithMostErrors 22 = .ok (.aload_n 0, 1) := by decide +kernel
theorem dX1_cellWithMostErrors_23 : decode cX1_cellWithMostErrors 23 = .ok (.getfield 15, 3) := by decide +kernel
theorem dX1_cellWithMostErrors_26 : decode cX1_cellWithMostErrors 26 = .ok (.iload_n 3, 1) := by decide +kernel
theorem dX1_cellWithMostErrors_27 : decode cX1_cellWithMostErrors 27 = .ok (.iaload, 1) := by decide +kernel
theorem dX1_cellWithMostErrors_28 : decode cX1_cellWithMostErrors 28 = .ok (.iload_n 2, 1) := by decide +kernel
theorem dX1_cellWithMostErrors_29 : decode cX1_cellWithMostErrors 29 = .ok (.if_icmp .le 12, 3) := by decide +kernel
theorem dX1_cellWithMostErrors_32 : decode cX1_cellWithMostErrors 32 = .ok (.iload_n 3, 1) := by decide +kernel
theorem dX1_cellWithMostErrors_33 : decode cX1_cellWithMostErrors 33 = .ok (.istore_n 1, 1) := by decide +kernel
theorem dX1_cellWithMostErrors_34 : decode cX1_cellWithMostErrors 34 = .ok (.aload_n 0, 1) := by decide +kernel
theorem dX1_cellWithMostErrors_35 : decode cX1_cellWithMostErrors 35 = .ok (.getfield 15, 3) := by decide +kernel
theorem dX1_cellWithMostErrors_38 : decode cX1_cellWithMostErrors 38 = .ok (.iload_n 3, 1) := by decide +kernel
theorem dX1_cellWithMostErrors_39 : decode cX1_cellWithMostErrors 39 = .ok (.iaload, 1) := by decide +kernel
theorem dX1_cellWithMostErrors_40 : decode cX1_cellWithMostErrors 40 = .ok (.istore_n 2, 1) := by decide +kernel
theorem dX1_cellWithMostErrors_41 : decode cX1_cellWithMostErrors 41 = .ok (.iinc 3 1, 3) := by decide +kernel
theorem dX1_cellWithMostErrors_44 : decode cX1_cellWithMostErrors 44 = .ok (.goto (-37), 3) := by decide +kernel
theorem dX1_cellWithMostErrors_47 : decode cX1_cellWithMostErrors 47 = .ok (.iload_n 1, 1) := by decide +kernel
theorem dX1_cellWithMostErrors_48 : decode cX1_cellWithMostErrors 48 = .ok (.ireturn, 1) := by decide +kernel
def wp_X1_cellWithMostErrors (σ : Mem) (P : Int32 → Prop) : Prop :=
  lq3 (fun rec4 (x1 : Int32) (x2 : Int32) (x3 : Int32) =>
    ((40 ≤ x3 →
      P x1) ∧
      (¬ 40 ≤ x3 →
      vp_in x3 40 ∧ (((σ 1 x3.toNatClampNeg) = 0 →
        vp_in x3 40 ∧ (((σ 2 x3.toNatClampNeg) ≤ x2 →
          rec4 x1 x2 (x3 + 1)) ∧
          (¬ (σ 2 x3.toNatClampNeg) ≤ x2 →
          vp_in x3 40 ∧ rec4 x3 (σ 2 x3.toNatClampNeg) (x3 + 1)))) ∧
        (¬ (σ 1 x3.toNatClampNeg) = 0 →
        rec4 x1 x2 (x3 + 1)))))) (-5) 0 0
set_option maxRecDepth 100000 in
set_option maxHeartbeats 4000000 in
theorem c_X1_cellWithMostErrors (V : EV) (σ : Mem) (P : Int32 → Prop) (l : Launch) : Met l yX1_cellWithMostErrors (.code yX1_cellWithMostErrors cX1_cellWithMostErrors 4 (some .int) :: AW) { frames := 0, cells := 0, slots := 0, locals := 0 } (va_Pc [.ref (ad V 0)] (fun U => wP V σ U ∧ wp_X1_cellWithMostErrors σ P)) (va_Qi (fun r τ => τ = σ ∧ P r) (wB V) (AA V)) 0 0 (AA V) := by
  refine met_i V σ (own := RX1) (by decide +kernel) rfl (fun v hv => by simp at hv; subst hv; rfl) (Nat.le_of_ble_eq_true rfl) (fun X C D h => ?_) l
  show GG V X σ 0 [some (.ref (ad V 0)), none, none, none] []
  refine g_bipush C dX1_cellWithMostErrors_0 bp_m5 rfl ?_
  refine g_istore_n C dX1_cellWithMostErrors_2 rfl (Nat.le_of_ble_eq_true rfl) (L' := [some (.ref (ad V 0)), some (.int (-5)), none, none]) rfl rfl ?_
  refine g_iconst C dX1_cellWithMostErrors_3 ic_0 rfl ?_
  refine g_istore_n C dX1_cellWithMostErrors_4 rfl (Nat.le_of_ble_eq_true rfl) (L' := [some (.ref (ad V 0)), some (.int (-5)), some (.int 0), none]) rfl rfl ?_
  refine g_iconst C dX1_cellWithMostErrors_5 ic_0 rfl ?_
  refine g_istore_n C dX1_cellWithMostErrors_6 rfl (Nat.le_of_ble_eq_true rfl) (L' := [some (.ref (ad V 0)), some (.int (-5)), some (.int 0), some (.int 0)]) rfl rfl ?_
  refine h (fun (x1 : Int32) (x2 : Int32) (x3 : Int32) => GG V X σ 7 [some (.ref (ad V 0)), some (.int x1), some (.int x2), some (.int x3)] []) (fun x1 x2 x3 h => ?_)
  refine g_iload_n C dX1_cellWithMostErrors_7 rfl rfl rfl ?_
  refine g_bipush C dX1_cellWithMostErrors_8 bp_40 rfl ?_
  refine g_icmp_ge C dX1_cellWithMostErrors_10 (tgt := 47) rfl rfl (fun q => ?_) (fun q => ?_)
  · have h := h.1 q
    refine g_iload_n C dX1_cellWithMostErrors_47 rfl rfl rfl ?_
    exact g_iret C dX1_cellWithMostErrors_48 D ⟨rfl, h⟩
  · have h := h.2 q
    refine g_aload_n C dX1_cellWithMostErrors_13 rfl rfl rfl ?_
    refine f_X1_9 C dX1_cellWithMostErrors_14 rfl ?_
    refine g_iload_n C dX1_cellWithMostErrors_17 rfl rfl rfl ?_
    obtain ⟨hin, h⟩ := h
    refine g_zld C dX1_cellWithMostErrors_18 arr_1 hin rfl ?_
    refine g_if_ne C dX1_cellWithMostErrors_19 (tgt := 41) rfl rfl (fun q => ?_) (fun q => ?_)
    · have h := h.2 q
      refine g_iinc C dX1_cellWithMostErrors_41 (v := x3 + 1) (by rw [ic_1]) rfl (Nat.le_of_ble_eq_true rfl) (L' := [some (.ref (ad V 0)), some (.int x1), some (.int x2), some (.int (x3 + 1))]) rfl rfl ?_
      refine g_goto C dX1_cellWithMostErrors_44 (pc' := 7) rfl ?_
      exact h
    · have h := h.1 q
      refine g_aload_n C dX1_cellWithMostErrors_22 rfl rfl rfl ?_
      refine f_X1_15 C dX1_cellWithMostErrors_23 rfl ?_
      refine g_iload_n C dX1_cellWithMostErrors_26 rfl rfl rfl ?_
      obtain ⟨hin, h⟩ := h
      refine g_ild C dX1_cellWithMostErrors_27 arr_2 hin rfl ?_
      refine g_iload_n C dX1_cellWithMostErrors_28 rfl rfl rfl ?_
      refine g_icmp_le C dX1_cellWithMostErrors_29 (tgt := 41) rfl rfl (fun q => ?_) (fun q => ?_)
      · have h := h.1 q
        refine g_iinc C dX1_cellWithMostErrors_41 (v := x3 + 1) (by rw [ic_1]) rfl (Nat.le_of_ble_eq_true rfl) (L' := [some (.ref (ad V 0)), some (.int x1), some (.int x2), some (.int (x3 + 1))]) rfl rfl ?_
        refine g_goto C dX1_cellWithMostErrors_44 (pc' := 7) rfl ?_
        exact h
      · have h := h.2 q
        refine g_iload_n C dX1_cellWithMostErrors_32 rfl rfl rfl ?_
        refine g_istore_n C dX1_cellWithMostErrors_33 rfl (Nat.le_of_ble_eq_true rfl) (L' := [some (.ref (ad V 0)), some (.int x3), some (.int x2), some (.int x3)]) rfl rfl ?_
        refine g_aload_n C dX1_cellWithMostErrors_34 rfl rfl rfl ?_
        refine f_X1_15 C dX1_cellWithMostErrors_35 rfl ?_
        refine g_iload_n C dX1_cellWithMostErrors_38 rfl rfl rfl ?_
        obtain ⟨hin, h⟩ := h
        refine g_ild C dX1_cellWithMostErrors_39 arr_2 hin rfl ?_
        refine g_istore_n C dX1_cellWithMostErrors_40 rfl (Nat.le_of_ble_eq_true rfl) (L' := [some (.ref (ad V 0)), some (.int x3), some (.int (σ 2 x3.toNatClampNeg)), some (.int x3)]) rfl rfl ?_
        refine g_iinc C dX1_cellWithMostErrors_41 (v := x3 + 1) (by rw [ic_1]) rfl (Nat.le_of_ble_eq_true rfl) (L' := [some (.ref (ad V 0)), some (.int x3), some (.int (σ 2 x3.toNatClampNeg)), some (.int (x3 + 1))]) rfl rfl ?_
        refine g_goto C dX1_cellWithMostErrors_44 (pc' := 7) rfl ?_
        exact h
theorem hd_X1_cellWithMostErrors : yX1_cellWithMostErrors.cls ≠ "java/lang/invoke/MethodHandle" ∧ yX1_cellWithMostErrors.cls ≠ "java/lang/invoke/VarHandle" ∧ (parseMethodDescriptor yX1_cellWithMostErrors.desc).map (fun d => d.parameters.length) = some 0 := by decide +kernel
theorem k_X4_159 {V : EV} {X : CX} {cc : ByteArray} {nL : Nat} {R : Room} (C : OK V X RX4 cc nL R) {σ : Mem} {pc pc' : Nat} {L : List (Option Value)} {st : List Value} {P : Int32 → Prop} (d : decode cc pc = .ok (.invokevirtual 159, 3)) (hst : (st.map fun v => v.category).sum ≤ 8) (hr : 0 + 1 ≤ R.frames ∧ 8 + (4 + 11) + 0 ≤ R.locals) (hL : L.length = nL) (hp : pc + 3 = pc') (h : wp_X1_cellWithMostErrors σ P) (k : ∀ r, P r → GG V X σ pc' L (.int r :: st)) : GG V X σ pc L (.ref (ad V 0) :: st) :=
  g_callVi C (av := []) (fun l => c_X1_cellWithMostErrors V σ P l) (by decide) (en_0 V σ) (q := (RX1, TX1, 17)) rfl rfl ml_RX4_159 im_X1_cellWithMostErrors se_X1_cellWithMostErrors ini_RX1 co_X1_cellWithMostErrors hd_X1_cellWithMostErrors rfl ⟨rfl, rfl⟩ hr hst d hL hp h (fun r τ hq => by obtain ⟨rfl, hq⟩ := hq; exact k r hq)

theorem dX1_freeBehindStart_0 : decode cX1_freeBehindStart 0 = .ok (.bipush 40, 2) := by decide +kernel
theorem dX1_freeBehindStart_2 : decode cX1_freeBehindStart 2 = .ok (.aload_n 0, 1) := by decide +kernel
theorem dX1_freeBehindStart_3 : decode cX1_freeBehindStart 3 = .ok (.getfield 56, 3) := by decide +kernel
theorem dX1_freeBehindStart_6 : decode cX1_freeBehindStart 6 = .ok (.isub, 1) := by decide +kernel
theorem dX1_freeBehindStart_7 : decode cX1_freeBehindStart 7 = .ok (.ireturn, 1) := by decide +kernel
def wp_X1_freeBehindStart (σ : Mem) (P : Int32 → Prop) : Prop :=
  P (40 - (σ 0 10))
set_option maxRecDepth 100000 in
set_option maxHeartbeats 4000000 in
theorem c_X1_freeBehindStart (V : EV) (σ : Mem) (P : Int32 → Prop) (l : Launch) : Met l yX1_freeBehindStart (.code yX1_freeBehindStart cX1_freeBehindStart 1 (some .int) :: AW) { frames := 0, cells := 0, slots := 0, locals := 0 } (va_Pc [.ref (ad V 0)] (fun U => wP V σ U ∧ wp_X1_freeBehindStart σ P)) (va_Qi (fun r τ => τ = σ ∧ P r) (wB V) (AA V)) 0 0 (AA V) := by
  refine met_i V σ (own := RX1) (by decide +kernel) rfl (fun v hv => by simp at hv; subst hv; rfl) (Nat.le_of_ble_eq_true rfl) (fun X C D h => ?_) l
  show GG V X σ 0 [some (.ref (ad V 0))] []
  refine g_bipush C dX1_freeBehindStart_0 bp_40 rfl ?_
  refine g_aload_n C dX1_freeBehindStart_2 rfl rfl rfl ?_
  refine f_X1_56 C dX1_freeBehindStart_3 rfl ?_
  refine g_isub C dX1_freeBehindStart_6 rfl ?_
  exact g_iret C dX1_freeBehindStart_7 D ⟨rfl, h⟩
theorem hd_X1_freeBehindStart : yX1_freeBehindStart.cls ≠ "java/lang/invoke/MethodHandle" ∧ yX1_freeBehindStart.cls ≠ "java/lang/invoke/VarHandle" ∧ (parseMethodDescriptor yX1_freeBehindStart.desc).map (fun d => d.parameters.length) = some 0 := by decide +kernel
theorem k_X4_162 {V : EV} {X : CX} {cc : ByteArray} {nL : Nat} {R : Room} (C : OK V X RX4 cc nL R) {σ : Mem} {pc pc' : Nat} {L : List (Option Value)} {st : List Value} {P : Int32 → Prop} (d : decode cc pc = .ok (.invokevirtual 162, 3)) (hst : (st.map fun v => v.category).sum ≤ 8) (hr : 0 + 1 ≤ R.frames ∧ 8 + (1 + 11) + 0 ≤ R.locals) (hL : L.length = nL) (hp : pc + 3 = pc') (h : wp_X1_freeBehindStart σ P) (k : ∀ r, P r → GG V X σ pc' L (.int r :: st)) : GG V X σ pc L (.ref (ad V 0) :: st) :=
  g_callVi C (av := []) (fun l => c_X1_freeBehindStart V σ P l) (by decide) (en_0 V σ) (q := (RX1, TX1, 17)) rfl rfl ml_RX4_162 im_X1_freeBehindStart se_X1_freeBehindStart ini_RX1 co_X1_freeBehindStart hd_X1_freeBehindStart rfl ⟨rfl, rfl⟩ hr hst d hL hp h (fun r τ hq => by obtain ⟨rfl, hq⟩ := hq; exact k r hq)

theorem dX1_isPinned_0 : decode cX1_isPinned 0 = .ok (.aload_n 0, 1) := by decide +kernel
theorem dX1_isPinned_1 : decode cX1_isPinned 1 = .ok (.getfield 28, 3) := by decide +kernel
theorem dX1_isPinned_4 : decode cX1_isPinned 4 = .ok (.iload_n 1, 1) := by decide +kernel
theorem dX1_isPinned_5 : decode cX1_isPinned 5 = .ok (.baload, 1) := by decide +kernel
theorem dX1_isPinned_6 : decode cX1_isPinned 6 = .ok (.ireturn, 1) := by decide +kernel
def wp_X1_isPinned (σ : Mem) (y1 : Int32) (P : Int32 → Prop) : Prop :=
  vp_in y1 50 ∧ isZ (σ 6 y1.toNatClampNeg) ∧ P (σ 6 y1.toNatClampNeg)
set_option maxRecDepth 100000 in
set_option maxHeartbeats 4000000 in
theorem c_X1_isPinned (V : EV) (σ : Mem) (y1 : Int32) (P : Int32 → Prop) (l : Launch) : Met l yX1_isPinned (.code yX1_isPinned cX1_isPinned 2 (some .boolean) :: AW) { frames := 0, cells := 0, slots := 0, locals := 0 } (va_Pc [.ref (ad V 0), .int y1] (fun U => wP V σ U ∧ wp_X1_isPinned σ y1 P)) (va_Qi (fun r τ => τ = σ ∧ P r) (wB V) (AA V)) 0 0 (AA V) := by
  refine met_i V σ (own := RX1) (by decide +kernel) rfl (fun v hv => by simp at hv; rcases hv with rfl | rfl <;> rfl) (Nat.le_of_ble_eq_true rfl) (fun X C D h => ?_) l
  show GG V X σ 0 [some (.ref (ad V 0)), some (.int y1)] []
  refine g_aload_n C dX1_isPinned_0 rfl rfl rfl ?_
  refine f_X1_28 C dX1_isPinned_1 rfl ?_
  refine g_iload_n C dX1_isPinned_4 rfl rfl rfl ?_
  obtain ⟨hin, h⟩ := h
  refine g_zld C dX1_isPinned_5 arr_6 hin rfl ?_
  obtain ⟨hz, h⟩ := h
  exact g_zret C dX1_isPinned_6 D hz ⟨rfl, h⟩
theorem hd_X1_isPinned : yX1_isPinned.cls ≠ "java/lang/invoke/MethodHandle" ∧ yX1_isPinned.cls ≠ "java/lang/invoke/VarHandle" ∧ (parseMethodDescriptor yX1_isPinned.desc).map (fun d => d.parameters.length) = some 1 := by decide +kernel
theorem k_X4_185 {V : EV} {X : CX} {cc : ByteArray} {nL : Nat} {R : Room} {y1 : Int32} (C : OK V X RX4 cc nL R) {σ : Mem} {pc pc' : Nat} {L : List (Option Value)} {st : List Value} {P : Int32 → Prop} (d : decode cc pc = .ok (.invokevirtual 185, 3)) (hst : (st.map fun v => v.category).sum ≤ 8) (hr : 0 + 1 ≤ R.frames ∧ 8 + (2 + 11) + 0 ≤ R.locals) (hL : L.length = nL) (hp : pc + 3 = pc') (h : wp_X1_isPinned σ y1 P) (k : ∀ r, P r → GG V X σ pc' L (.int r :: st)) : GG V X σ pc L (.int y1 :: .ref (ad V 0) :: st) :=
  g_callVi C (av := [.int y1]) (fun l => c_X1_isPinned V σ y1 P l) (by decide) (en_0 V σ) (q := (RX1, TX1, 17)) rfl rfl ml_RX4_185 im_X1_isPinned se_X1_isPinned ini_RX1 co_X1_isPinned hd_X1_isPinned rfl ⟨rfl, rfl⟩ hr hst d hL hp h (fun r τ hq => by obtain ⟨rfl, hq⟩ := hq; exact k r hq)

theorem dX2_size_0 : decode cX2_size 0 = .ok (.aload_n 0, 1) := by decide +kernel
theorem dX2_size_1 : decode cX2_size 1 = .ok (.getfield 26, 3) := by decide +kernel
theorem dX2_size_4 : decode cX2_size 4 = .ok (.ireturn, 1) := by decide +kernel
def wp_X2_size (σ : Mem) (P : Int32 → Prop) : Prop :=
  P (σ 89 4)
set_option maxRecDepth 100000 in
set_option maxHeartbeats 4000000 in
theorem c_X2_size (V : EV) (σ : Mem) (P : Int32 → Prop) (l : Launch) : Met l yX2_size (.code yX2_size cX2_size 1 (some .int) :: AW) { frames := 0, cells := 0, slots := 0, locals := 0 } (va_Pc [.ref (ad V 89)] (fun U => wP V σ U ∧ wp_X2_size σ P)) (va_Qi (fun r τ => τ = σ ∧ P r) (wB V) (AA V)) 0 0 (AA V) := by
  refine met_i V σ (own := RX2) (by decide +kernel) rfl (fun v hv => by simp at hv; subst hv; rfl) (Nat.le_of_ble_eq_true rfl) (fun X C D h => ?_) l
  show GG V X σ 0 [some (.ref (ad V 89))] []
  refine g_aload_n C dX2_size_0 rfl rfl rfl ?_
  refine f_X2_26 C dX2_size_1 rfl ?_
  exact g_iret C dX2_size_4 D ⟨rfl, h⟩
theorem hd_X2_size : yX2_size.cls ≠ "java/lang/invoke/MethodHandle" ∧ yX2_size.cls ≠ "java/lang/invoke/VarHandle" ∧ (parseMethodDescriptor yX2_size.desc).map (fun d => d.parameters.length) = some 0 := by decide +kernel
theorem k_X4_122 {V : EV} {X : CX} {cc : ByteArray} {nL : Nat} {R : Room} (C : OK V X RX4 cc nL R) {σ : Mem} {pc pc' : Nat} {L : List (Option Value)} {st : List Value} {P : Int32 → Prop} (d : decode cc pc = .ok (.invokevirtual 122, 3)) (hst : (st.map fun v => v.category).sum ≤ 8) (hr : 0 + 1 ≤ R.frames ∧ 8 + (1 + 11) + 0 ≤ R.locals) (hL : L.length = nL) (hp : pc + 3 = pc') (h : wp_X2_size σ P) (k : ∀ r, P r → GG V X σ pc' L (.int r :: st)) : GG V X σ pc L (.ref (ad V 89) :: st) :=
  g_callVi C (av := []) (fun l => c_X2_size V σ P l) (by decide) (en_89 V σ) (q := (RX2, TX2, 6)) rfl rfl ml_RX4_122 im_X2_size se_X2_size ini_RX2 co_X2_size hd_X2_size rfl ⟨rfl, rfl⟩ hr hst d hL hp h (fun r τ hq => by obtain ⟨rfl, hq⟩ := hq; exact k r hq)

theorem dX2_kindOf_0 : decode cX2_kindOf 0 = .ok (.aload_n 0, 1) := by decide +kernel
theorem dX2_kindOf_1 : decode cX2_kindOf 1 = .ok (.getfield 15, 3) := by decide +kernel
theorem dX2_kindOf_4 : decode cX2_kindOf 4 = .ok (.iload_n 1, 1) := by decide +kernel
theorem dX2_kindOf_5 : decode cX2_kindOf 5 = .ok (.caload, 1) := by decide +kernel
theorem dX2_kindOf_6 : decode cX2_kindOf 6 = .ok (.ireturn, 1) := by decide +kernel
def wp_X2_kindOf (σ : Mem) (y1 : Int32) (P : Int32 → Prop) : Prop :=
  vp_in y1 30 ∧ isC (σ 90 y1.toNatClampNeg) ∧ P (σ 90 y1.toNatClampNeg)
set_option maxRecDepth 100000 in
set_option maxHeartbeats 4000000 in
theorem c_X2_kindOf (V : EV) (σ : Mem) (y1 : Int32) (P : Int32 → Prop) (l : Launch) : Met l yX2_kindOf (.code yX2_kindOf cX2_kindOf 2 (some .char) :: AW) { frames := 0, cells := 0, slots := 0, locals := 0 } (va_Pc [.ref (ad V 89), .int y1] (fun U => wP V σ U ∧ wp_X2_kindOf σ y1 P)) (va_Qi (fun r τ => τ = σ ∧ P r) (wB V) (AA V)) 0 0 (AA V) := by
  refine met_i V σ (own := RX2) (by decide +kernel) rfl (fun v hv => by simp at hv; rcases hv with rfl | rfl <;> rfl) (Nat.le_of_ble_eq_true rfl) (fun X C D h => ?_) l
  show GG V X σ 0 [some (.ref (ad V 89)), some (.int y1)] []
  refine g_aload_n C dX2_kindOf_0 rfl rfl rfl ?_
  refine f_X2_15 C dX2_kindOf_1 rfl ?_
  refine g_iload_n C dX2_kindOf_4 rfl rfl rfl ?_
  obtain ⟨hin, h⟩ := h
  refine g_cld C dX2_kindOf_5 arr_90 hin rfl ?_
  obtain ⟨hz, h⟩ := h
  exact g_cret C dX2_kindOf_6 D hz ⟨rfl, h⟩
theorem hd_X2_kindOf : yX2_kindOf.cls ≠ "java/lang/invoke/MethodHandle" ∧ yX2_kindOf.cls ≠ "java/lang/invoke/VarHandle" ∧ (parseMethodDescriptor yX2_kindOf.desc).map (fun d => d.parameters.length) = some 1 := by decide +kernel
theorem k_X4_181 {V : EV} {X : CX} {cc : ByteArray} {nL : Nat} {R : Room} {y1 : Int32} (C : OK V X RX4 cc nL R) {σ : Mem} {pc pc' : Nat} {L : List (Option Value)} {st : List Value} {P : Int32 → Prop} (d : decode cc pc = .ok (.invokevirtual 181, 3)) (hst : (st.map fun v => v.category).sum ≤ 8) (hr : 0 + 1 ≤ R.frames ∧ 8 + (2 + 11) + 0 ≤ R.locals) (hL : L.length = nL) (hp : pc + 3 = pc') (h : wp_X2_kindOf σ y1 P) (k : ∀ r, P r → GG V X σ pc' L (.int r :: st)) : GG V X σ pc L (.int y1 :: .ref (ad V 89) :: st) :=
  g_callVi C (av := [.int y1]) (fun l => c_X2_kindOf V σ y1 P l) (by decide) (en_89 V σ) (q := (RX2, TX2, 6)) rfl rfl ml_RX4_181 im_X2_kindOf se_X2_kindOf ini_RX2 co_X2_kindOf hd_X2_kindOf rfl ⟨rfl, rfl⟩ hr hst d hL hp h (fun r τ hq => by obtain ⟨rfl, hq⟩ := hq; exact k r hq)

theorem dX2_pageOf_0 : decode cX2_pageOf 0 = .ok (.aload_n 0, 1) := by decide +kernel
theorem dX2_pageOf_1 : decode cX2_pageOf 1 = .ok (.getfield 19, 3) := by decide +kernel
theorem dX2_pageOf_4 : decode cX2_pageOf 4 = .ok (.iload_n 1, 1) := by decide +kernel
theorem dX2_pageOf_5 : decode cX2_pageOf 5 = .ok (.iaload, 1) := by decide +kernel
theorem dX2_pageOf_6 : decode cX2_pageOf 6 = .ok (.ireturn, 1) := by decide +kernel
def wp_X2_pageOf (σ : Mem) (y1 : Int32) (P : Int32 → Prop) : Prop :=
  vp_in y1 30 ∧ P (σ 91 y1.toNatClampNeg)
set_option maxRecDepth 100000 in
set_option maxHeartbeats 4000000 in
theorem c_X2_pageOf (V : EV) (σ : Mem) (y1 : Int32) (P : Int32 → Prop) (l : Launch) : Met l yX2_pageOf (.code yX2_pageOf cX2_pageOf 2 (some .int) :: AW) { frames := 0, cells := 0, slots := 0, locals := 0 } (va_Pc [.ref (ad V 89), .int y1] (fun U => wP V σ U ∧ wp_X2_pageOf σ y1 P)) (va_Qi (fun r τ => τ = σ ∧ P r) (wB V) (AA V)) 0 0 (AA V) := by
  refine met_i V σ (own := RX2) (by decide +kernel) rfl (fun v hv => by simp at hv; rcases hv with rfl | rfl <;> rfl) (Nat.le_of_ble_eq_true rfl) (fun X C D h => ?_) l
  show GG V X σ 0 [some (.ref (ad V 89)), some (.int y1)] []
  refine g_aload_n C dX2_pageOf_0 rfl rfl rfl ?_
  refine f_X2_19 C dX2_pageOf_1 rfl ?_
  refine g_iload_n C dX2_pageOf_4 rfl rfl rfl ?_
  obtain ⟨hin, h⟩ := h
  refine g_ild C dX2_pageOf_5 arr_91 hin rfl ?_
  exact g_iret C dX2_pageOf_6 D ⟨rfl, h⟩
theorem hd_X2_pageOf : yX2_pageOf.cls ≠ "java/lang/invoke/MethodHandle" ∧ yX2_pageOf.cls ≠ "java/lang/invoke/VarHandle" ∧ (parseMethodDescriptor yX2_pageOf.desc).map (fun d => d.parameters.length) = some 1 := by decide +kernel
theorem k_X4_175 {V : EV} {X : CX} {cc : ByteArray} {nL : Nat} {R : Room} {y1 : Int32} (C : OK V X RX4 cc nL R) {σ : Mem} {pc pc' : Nat} {L : List (Option Value)} {st : List Value} {P : Int32 → Prop} (d : decode cc pc = .ok (.invokevirtual 175, 3)) (hst : (st.map fun v => v.category).sum ≤ 8) (hr : 0 + 1 ≤ R.frames ∧ 8 + (2 + 11) + 0 ≤ R.locals) (hL : L.length = nL) (hp : pc + 3 = pc') (h : wp_X2_pageOf σ y1 P) (k : ∀ r, P r → GG V X σ pc' L (.int r :: st)) : GG V X σ pc L (.int y1 :: .ref (ad V 89) :: st) :=
  g_callVi C (av := [.int y1]) (fun l => c_X2_pageOf V σ y1 P l) (by decide) (en_89 V σ) (q := (RX2, TX2, 6)) rfl rfl ml_RX4_175 im_X2_pageOf se_X2_pageOf ini_RX2 co_X2_pageOf hd_X2_pageOf rfl ⟨rfl, rfl⟩ hr hst d hL hp h (fun r τ hq => by obtain ⟨rfl, hq⟩ := hq; exact k r hq)

theorem dX2_numberOf_0 : decode cX2_numberOf 0 = .ok (.aload_n 0, 1) := by decide +kernel
theorem dX2_numberOf_1 : decode cX2_numberOf 1 = .ok (.getfield 23, 3) := by decide +kernel
theorem dX2_numberOf_4 : decode cX2_numberOf 4 = .ok (.iload_n 1, 1) := by decide +kernel
theorem dX2_numberOf_5 : decode cX2_numberOf 5 = .ok (.iaload, 1) := by decide +kernel
theorem dX2_numberOf_6 : decode cX2_numberOf 6 = .ok (.ireturn, 1) := by decide +kernel
def wp_X2_numberOf (σ : Mem) (y1 : Int32) (P : Int32 → Prop) : Prop :=
  vp_in y1 30 ∧ P (σ 92 y1.toNatClampNeg)
set_option maxRecDepth 100000 in
set_option maxHeartbeats 4000000 in
theorem c_X2_numberOf (V : EV) (σ : Mem) (y1 : Int32) (P : Int32 → Prop) (l : Launch) : Met l yX2_numberOf (.code yX2_numberOf cX2_numberOf 2 (some .int) :: AW) { frames := 0, cells := 0, slots := 0, locals := 0 } (va_Pc [.ref (ad V 89), .int y1] (fun U => wP V σ U ∧ wp_X2_numberOf σ y1 P)) (va_Qi (fun r τ => τ = σ ∧ P r) (wB V) (AA V)) 0 0 (AA V) := by
  refine met_i V σ (own := RX2) (by decide +kernel) rfl (fun v hv => by simp at hv; rcases hv with rfl | rfl <;> rfl) (Nat.le_of_ble_eq_true rfl) (fun X C D h => ?_) l
  show GG V X σ 0 [some (.ref (ad V 89)), some (.int y1)] []
  refine g_aload_n C dX2_numberOf_0 rfl rfl rfl ?_
  refine f_X2_23 C dX2_numberOf_1 rfl ?_
  refine g_iload_n C dX2_numberOf_4 rfl rfl rfl ?_
  obtain ⟨hin, h⟩ := h
  refine g_ild C dX2_numberOf_5 arr_92 hin rfl ?_
  exact g_iret C dX2_numberOf_6 D ⟨rfl, h⟩
theorem hd_X2_numberOf : yX2_numberOf.cls ≠ "java/lang/invoke/MethodHandle" ∧ yX2_numberOf.cls ≠ "java/lang/invoke/VarHandle" ∧ (parseMethodDescriptor yX2_numberOf.desc).map (fun d => d.parameters.length) = some 1 := by decide +kernel
theorem k_X4_178 {V : EV} {X : CX} {cc : ByteArray} {nL : Nat} {R : Room} {y1 : Int32} (C : OK V X RX4 cc nL R) {σ : Mem} {pc pc' : Nat} {L : List (Option Value)} {st : List Value} {P : Int32 → Prop} (d : decode cc pc = .ok (.invokevirtual 178, 3)) (hst : (st.map fun v => v.category).sum ≤ 8) (hr : 0 + 1 ≤ R.frames ∧ 8 + (2 + 11) + 0 ≤ R.locals) (hL : L.length = nL) (hp : pc + 3 = pc') (h : wp_X2_numberOf σ y1 P) (k : ∀ r, P r → GG V X σ pc' L (.int r :: st)) : GG V X σ pc L (.int y1 :: .ref (ad V 89) :: st) :=
  g_callVi C (av := [.int y1]) (fun l => c_X2_numberOf V σ y1 P l) (by decide) (en_89 V σ) (q := (RX2, TX2, 6)) rfl rfl ml_RX4_178 im_X2_numberOf se_X2_numberOf ini_RX2 co_X2_numberOf hd_X2_numberOf rfl ⟨rfl, rfl⟩ hr hst d hL hp h (fun r τ hq => by obtain ⟨rfl, hq⟩ := hq; exact k r hq)

theorem dX3_at_0 : decode cX3_at 0 = .ok (.iload_n 1, 1) := by decide +kernel
theorem dX3_at_1 : decode cX3_at 1 = .ok (.ifCond .lt 20, 3) := by decide +kernel
theorem dX3_at_4 : decode cX3_at 4 = .ok (.iload_n 1, 1) := by decide +kernel
theorem dX3_at_5 : decode cX3_at 5 = .ok (.aload_n 0, 1) := by decide +kernel
theorem dX3_at_6 : decode cX3_at 6 = .ok (.getfield 15, 3) := by decide +kernel
theorem dX3_at_9 : decode cX3_at 9 = .ok (.if_icmp .ge 12, 3) := by decide +kernel
theorem dX3_at_12 : decode cX3_at 12 = .ok (.aload_n 0, 1) := by decide +kernel
theorem dX3_at_13 : decode cX3_at 13 = .ok (.getfield 9, 3) := by decide +kernel
theorem dX3_at_16 : decode cX3_at 16 = .ok (.iload_n 1, 1) := by decide +kernel
theorem dX3_at_17 : decode cX3_at 17 = .ok (.caload, 1) := by decide +kernel
theorem dX3_at_18 : decode cX3_at 18 = .ok (.goto 5, 3) := by decide +kernel
theorem dX3_at_21 : decode cX3_at 21 = .ok (.bipush (-5), 2) := by decide +kernel
theorem dX3_at_23 : decode cX3_at 23 = .ok (.ireturn, 1) := by decide +kernel
def wp_X3_at (σ : Mem) (y1 : Int32) (P : Int32 → Prop) : Prop :=
  ((y1 < 0 →
    P (-5)) ∧
    (¬ y1 < 0 →
    (((σ 87 1) ≤ y1 →
      P (-5)) ∧
      (¬ (σ 87 1) ≤ y1 →
      vp_in y1 60 ∧ P (σ 88 y1.toNatClampNeg)))))
set_option maxRecDepth 100000 in
set_option maxHeartbeats 4000000 in
theorem c_X3_at (V : EV) (σ : Mem) (y1 : Int32) (P : Int32 → Prop) (l : Launch) : Met l yX3_at (.code yX3_at cX3_at 2 (some .int) :: AW) { frames := 0, cells := 0, slots := 0, locals := 0 } (va_Pc [.ref (ad V 87), .int y1] (fun U => wP V σ U ∧ wp_X3_at σ y1 P)) (va_Qi (fun r τ => τ = σ ∧ P r) (wB V) (AA V)) 0 0 (AA V) := by
  refine met_i V σ (own := RX3) (by decide +kernel) rfl (fun v hv => by simp at hv; rcases hv with rfl | rfl <;> rfl) (Nat.le_of_ble_eq_true rfl) (fun X C D h => ?_) l
  show GG V X σ 0 [some (.ref (ad V 87)), some (.int y1)] []
  refine g_iload_n C dX3_at_0 rfl rfl rfl ?_
  refine g_if_lt C dX3_at_1 (tgt := 21) rfl rfl (fun q => ?_) (fun q => ?_)
  · have h := h.1 q
    refine g_bipush C dX3_at_21 bp_m5 rfl ?_
    exact g_iret C dX3_at_23 D ⟨rfl, h⟩
  · have h := h.2 q
    refine g_iload_n C dX3_at_4 rfl rfl rfl ?_
    refine g_aload_n C dX3_at_5 rfl rfl rfl ?_
    refine f_X3_15 C dX3_at_6 rfl ?_
    refine g_icmp_ge C dX3_at_9 (tgt := 21) rfl rfl (fun q => ?_) (fun q => ?_)
    · have h := h.1 q
      refine g_bipush C dX3_at_21 bp_m5 rfl ?_
      exact g_iret C dX3_at_23 D ⟨rfl, h⟩
    · have h := h.2 q
      refine g_aload_n C dX3_at_12 rfl rfl rfl ?_
      refine f_X3_9 C dX3_at_13 rfl ?_
      refine g_iload_n C dX3_at_16 rfl rfl rfl ?_
      obtain ⟨hin, h⟩ := h
      refine g_cld C dX3_at_17 arr_88 hin rfl ?_
      refine g_goto C dX3_at_18 (pc' := 23) rfl ?_
      exact g_iret C dX3_at_23 D ⟨rfl, h⟩
theorem hd_X3_at : yX3_at.cls ≠ "java/lang/invoke/MethodHandle" ∧ yX3_at.cls ≠ "java/lang/invoke/VarHandle" ∧ (parseMethodDescriptor yX3_at.desc).map (fun d => d.parameters.length) = some 1 := by decide +kernel
theorem k_X2_47 {V : EV} {X : CX} {cc : ByteArray} {nL : Nat} {R : Room} {y1 : Int32} (C : OK V X RX2 cc nL R) {σ : Mem} {pc pc' : Nat} {L : List (Option Value)} {st : List Value} {P : Int32 → Prop} (d : decode cc pc = .ok (.invokevirtual 47, 3)) (hst : (st.map fun v => v.category).sum ≤ 8) (hr : 0 + 1 ≤ R.frames ∧ 8 + (2 + 11) + 0 ≤ R.locals) (hL : L.length = nL) (hp : pc + 3 = pc') (h : wp_X3_at σ y1 P) (k : ∀ r, P r → GG V X σ pc' L (.int r :: st)) : GG V X σ pc L (.int y1 :: .ref (ad V 87) :: st) :=
  g_callVi C (av := [.int y1]) (fun l => c_X3_at V σ y1 P l) (by decide) (en_87 V σ) (q := (RX3, TX3, 2)) rfl rfl ml_RX2_47 im_X3_at se_X3_at ini_RX3 co_X3_at hd_X3_at rfl ⟨rfl, rfl⟩ hr hst d hL hp h (fun r τ hq => by obtain ⟨rfl, hq⟩ := hq; exact k r hq)

theorem dX2_readSign_0 : decode cX2_readSign 0 = .ok (.aload_n 0, 1) := by decide +kernel
theorem dX2_readSign_1 : decode cX2_readSign 1 = .ok (.getfield 9, 3) := by decide +kernel
theorem dX2_readSign_4 : decode cX2_readSign 4 = .ok (.aload_n 0, 1) := by decide +kernel
theorem dX2_readSign_5 : decode cX2_readSign 5 = .ok (.getfield 30, 3) := by decide +kernel
theorem dX2_readSign_8 : decode cX2_readSign 8 = .ok (.invokevirtual 47, 3) := by decide +kernel
theorem dX2_readSign_11 : decode cX2_readSign 11 = .ok (.iload_n 1, 1) := by decide +kernel
theorem dX2_readSign_12 : decode cX2_readSign 12 = .ok (.if_icmp .eq 5, 3) := by decide +kernel
theorem dX2_readSign_15 : decode cX2_readSign 15 = .ok (.iconst 0, 1) := by decide +kernel
theorem dX2_readSign_16 : decode cX2_readSign 16 = .ok (.ireturn, 1) := by decide +kernel
theorem dX2_readSign_17 : decode cX2_readSign 17 = .ok (.aload_n 0, 1) := by decide +kernel
theorem dX2_readSign_18 : decode cX2_readSign 18 = .ok (.dup, 1) := by decide +kernel
theorem dX2_readSign_19 : decode cX2_readSign 19 = .ok (.getfield 30, 3) := by decide +kernel
theorem dX2_readSign_22 : decode cX2_readSign 22 = .ok (.iconst 1, 1) := by decide +kernel
theorem dX2_readSign_23 : decode cX2_readSign 23 = .ok (.iadd, 1) := by decide +kernel
theorem dX2_readSign_24 : decode cX2_readSign 24 = .ok (.putfield 30, 3) := by decide +kernel
theorem dX2_readSign_27 : decode cX2_readSign 27 = .ok (.iconst 1, 1) := by decide +kernel
theorem dX2_readSign_28 : decode cX2_readSign 28 = .ok (.ireturn, 1) := by decide +kernel
def wp_X2_readSign (σ : Mem) (y1 : Int32) (P : Int32 → Mem → Prop) : Prop :=
  wp_X3_at σ (σ 89 5) (fun r1 =>
    ((r1 = y1 →
    bm (up2 σ 89 5 ((σ 89 5) + 1)) (fun σ2 =>
      P 1 σ2)) ∧
    (¬ r1 = y1 →
    P 0 σ)))
set_option maxRecDepth 100000 in
set_option maxHeartbeats 4000000 in
theorem c_X2_readSign (V : EV) (σ : Mem) (y1 : Int32) (P : Int32 → Mem → Prop) (l : Launch) : Met l yX2_readSign (.code yX2_readSign cX2_readSign 2 (some .boolean) :: AW) { frames := 1, cells := 0, slots := 0, locals := 21 } (va_Pc [.ref (ad V 89), .int y1] (fun U => wP V σ U ∧ wp_X2_readSign σ y1 P)) (va_Qi P (wB V) (AA V)) 0 0 (AA V) := by
  refine met_i V σ (own := RX2) (by decide +kernel) rfl (fun v hv => by simp at hv; rcases hv with rfl | rfl <;> rfl) (Nat.le_of_ble_eq_true rfl) (fun X C D h => ?_) l
  show GG V X σ 0 [some (.ref (ad V 89)), some (.int y1)] []
  refine g_aload_n C dX2_readSign_0 rfl rfl rfl ?_
  refine f_X2_9 C dX2_readSign_1 rfl ?_
  refine g_aload_n C dX2_readSign_4 rfl rfl rfl ?_
  refine f_X2_30 C dX2_readSign_5 rfl ?_
  refine k_X2_47 C dX2_readSign_8 (Nat.le_of_ble_eq_true rfl) (by decide) rfl rfl h (fun r1 h => ?_)
  refine g_iload_n C dX2_readSign_11 rfl rfl rfl ?_
  refine g_icmp_eq C dX2_readSign_12 (tgt := 17) rfl rfl (fun q => ?_) (fun q => ?_)
  · have h := h.1 q
    refine g_aload_n C dX2_readSign_17 rfl rfl rfl ?_
    refine g_dup C dX2_readSign_18 rfl rfl ?_
    refine f_X2_30 C dX2_readSign_19 rfl ?_
    refine g_iconst C dX2_readSign_22 ic_1 rfl ?_
    refine g_iadd C dX2_readSign_23 rfl ?_
    refine p_X2_30 C dX2_readSign_24 rfl h (fun σ2 h => ?_)
    refine g_iconst C dX2_readSign_27 ic_1 rfl ?_
    exact g_zret C dX2_readSign_28 D (by decide) h
  · have h := h.2 q
    refine g_iconst C dX2_readSign_15 ic_0 rfl ?_
    exact g_zret C dX2_readSign_16 D (by decide) h
theorem hd_X2_readSign : yX2_readSign.cls ≠ "java/lang/invoke/MethodHandle" ∧ yX2_readSign.cls ≠ "java/lang/invoke/VarHandle" ∧ (parseMethodDescriptor yX2_readSign.desc).map (fun d => d.parameters.length) = some 1 := by decide +kernel
theorem k_X2_43 {V : EV} {X : CX} {cc : ByteArray} {nL : Nat} {R : Room} {y1 : Int32} (C : OK V X RX2 cc nL R) {σ : Mem} {pc pc' : Nat} {L : List (Option Value)} {st : List Value} {P : Int32 → Mem → Prop} (d : decode cc pc = .ok (.invokevirtual 43, 3)) (hst : (st.map fun v => v.category).sum ≤ 8) (hr : 1 + 1 ≤ R.frames ∧ 8 + (2 + 11) + 21 ≤ R.locals) (hL : L.length = nL) (hp : pc + 3 = pc') (h : wp_X2_readSign σ y1 P) (k : ∀ r τ, P r τ → GG V X τ pc' L (.int r :: st)) : GG V X σ pc L (.int y1 :: .ref (ad V 89) :: st) :=
  g_callVi C (av := [.int y1]) (fun l => c_X2_readSign V σ y1 P l) (by decide) (en_89 V σ) (q := (RX2, TX2, 6)) rfl rfl ml_RX2_43 im_X2_readSign se_X2_readSign ini_RX2 co_X2_readSign hd_X2_readSign rfl ⟨rfl, rfl⟩ hr hst d hL hp h k

theorem dX2_readKind_0 : decode cX2_readKind 0 = .ok (.aload_n 0, 1) := by decide +kernel
theorem dX2_readKind_1 : decode cX2_readKind 1 = .ok (.getfield 15, 3) := by decide +kernel
theorem dX2_readKind_4 : decode cX2_readKind 4 = .ok (.iload_n 1, 1) := by decide +kernel
theorem dX2_readKind_5 : decode cX2_readKind 5 = .ok (.iload_n 2, 1) := by decide +kernel
theorem dX2_readKind_6 : decode cX2_readKind 6 = .ok (.castore, 1) := by decide +kernel
theorem dX2_readKind_7 : decode cX2_readKind 7 = .ok (.aload_n 0, 1) := by decide +kernel
theorem dX2_readKind_8 : decode cX2_readKind 8 = .ok (.iload_n 2, 1) := by decide +kernel
theorem dX2_readKind_9 : decode cX2_readKind 9 = .ok (.invokevirtual 43, 3) := by decide +kernel
theorem dX2_readKind_12 : decode cX2_readKind 12 = .ok (.ireturn, 1) := by decide +kernel
def wp_X2_readKind (σ : Mem) (y1 : Int32) (y2 : Int32) (P : Int32 → Mem → Prop) : Prop :=
  vp_in y1 30 ∧ bm (up2 σ 90 y1.toNatClampNeg (vp_nar .char y2)) (fun σ1 =>
    wp_X2_readSign σ1 y2 (fun r2 σ3 =>
    isZ r2 ∧ P r2 σ3))
set_option maxRecDepth 100000 in
set_option maxHeartbeats 4000000 in
theorem c_X2_readKind (V : EV) (σ : Mem) (y1 : Int32) (y2 : Int32) (P : Int32 → Mem → Prop) (l : Launch) : Met l yX2_readKind (.code yX2_readKind cX2_readKind 3 (some .boolean) :: AW) { frames := 2, cells := 0, slots := 0, locals := 42 } (va_Pc [.ref (ad V 89), .int y1, .int y2] (fun U => wP V σ U ∧ wp_X2_readKind σ y1 y2 P)) (va_Qi P (wB V) (AA V)) 0 0 (AA V) := by
  refine met_i V σ (own := RX2) (by decide +kernel) rfl (fun v hv => by simp at hv; rcases hv with rfl | rfl | rfl <;> rfl) (Nat.le_of_ble_eq_true rfl) (fun X C D h => ?_) l
  show GG V X σ 0 [some (.ref (ad V 89)), some (.int y1), some (.int y2)] []
  refine g_aload_n C dX2_readKind_0 rfl rfl rfl ?_
  refine f_X2_15 C dX2_readKind_1 rfl ?_
  refine g_iload_n C dX2_readKind_4 rfl rfl rfl ?_
  refine g_iload_n C dX2_readKind_5 rfl rfl rfl ?_
  obtain ⟨hin, h⟩ := h
  refine g_cst C dX2_readKind_6 arr_90 hin rfl h (fun σ1 h => ?_)
  refine g_aload_n C dX2_readKind_7 rfl rfl rfl ?_
  refine g_iload_n C dX2_readKind_8 rfl rfl rfl ?_
  refine k_X2_43 C dX2_readKind_9 (Nat.le_of_ble_eq_true rfl) (by decide) rfl rfl h (fun r2 σ3 h => ?_)
  obtain ⟨hz, h⟩ := h
  exact g_zret C dX2_readKind_12 D hz h
theorem hd_X2_readKind : yX2_readKind.cls ≠ "java/lang/invoke/MethodHandle" ∧ yX2_readKind.cls ≠ "java/lang/invoke/VarHandle" ∧ (parseMethodDescriptor yX2_readKind.desc).map (fun d => d.parameters.length) = some 2 := by decide +kernel
theorem k_X2_51 {V : EV} {X : CX} {cc : ByteArray} {nL : Nat} {R : Room} {y1 : Int32} {y2 : Int32} (C : OK V X RX2 cc nL R) {σ : Mem} {pc pc' : Nat} {L : List (Option Value)} {st : List Value} {P : Int32 → Mem → Prop} (d : decode cc pc = .ok (.invokevirtual 51, 3)) (hst : (st.map fun v => v.category).sum ≤ 8) (hr : 2 + 1 ≤ R.frames ∧ 8 + (3 + 11) + 42 ≤ R.locals) (hL : L.length = nL) (hp : pc + 3 = pc') (h : wp_X2_readKind σ y1 y2 P) (k : ∀ r τ, P r τ → GG V X τ pc' L (.int r :: st)) : GG V X σ pc L (.int y2 :: .int y1 :: .ref (ad V 89) :: st) :=
  g_callVi C (av := [.int y1, .int y2]) (fun l => c_X2_readKind V σ y1 y2 P l) (by decide) (en_89 V σ) (q := (RX2, TX2, 6)) rfl rfl ml_RX2_51 im_X2_readKind se_X2_readKind ini_RX2 co_X2_readKind hd_X2_readKind rfl ⟨rfl, rfl⟩ hr hst d hL hp h k

theorem dX4_isWithin_0 : decode cX4_isWithin 0 = .ok (.iload_n 0, 1) := by decide +kernel
theorem dX4_isWithin_1 : decode cX4_isWithin 1 = .ok (.iload_n 1, 1) := by decide +kernel
theorem dX4_isWithin_2 : decode cX4_isWithin 2 = .ok (.if_icmp .lt 12, 3) := by decide +kernel
theorem dX4_isWithin_5 : decode cX4_isWithin 5 = .ok (.iload_n 0, 1) := by decide +kernel
theorem dX4_isWithin_6 : decode cX4_isWithin 6 = .ok (.iload_n 2, 1) := by decide +kernel
theorem dX4_isWithin_7 : decode cX4_isWithin 7 = .ok (.if_icmp .gt 7, 3) := by decide +kernel
theorem dX4_isWithin_10 : decode cX4_isWithin 10 = .ok (.iconst 1, 1) := by decide +kernel
theorem dX4_isWithin_11 : decode cX4_isWithin 11 = .ok (.goto 4, 3) := by decide +kernel
theorem dX4_isWithin_14 : decode cX4_isWithin 14 = .ok (.iconst 0, 1) := by decide +kernel
theorem dX4_isWithin_15 : decode cX4_isWithin 15 = .ok (.ireturn, 1) := by decide +kernel
def wp_X4_isWithin (σ : Mem) (y1 : Int32) (y2 : Int32) (y3 : Int32) (P : Int32 → Prop) : Prop :=
  ((y1 < y2 →
    P 0) ∧
    (¬ y1 < y2 →
    ((y3 < y1 →
      P 0) ∧
      (¬ y3 < y1 →
      P 1))))
set_option maxRecDepth 100000 in
set_option maxHeartbeats 4000000 in
theorem c_X4_isWithin (V : EV) (σ : Mem) (y1 : Int32) (y2 : Int32) (y3 : Int32) (P : Int32 → Prop) (l : Launch) : Met l yX4_isWithin (.code yX4_isWithin cX4_isWithin 3 (some .boolean) :: AW) { frames := 0, cells := 0, slots := 0, locals := 0 } (va_Pc [.int y1, .int y2, .int y3] (fun U => wP V σ U ∧ wp_X4_isWithin σ y1 y2 y3 P)) (va_Qi (fun r τ => τ = σ ∧ P r) (wB V) (AA V)) 0 0 (AA V) := by
  refine met_i V σ (own := RX4) (by decide +kernel) rfl (fun v hv => by simp at hv; rcases hv with rfl | rfl | rfl <;> rfl) (Nat.le_of_ble_eq_true rfl) (fun X C D h => ?_) l
  show GG V X σ 0 [some (.int y1), some (.int y2), some (.int y3)] []
  refine g_iload_n C dX4_isWithin_0 rfl rfl rfl ?_
  refine g_iload_n C dX4_isWithin_1 rfl rfl rfl ?_
  refine g_icmp_lt C dX4_isWithin_2 (tgt := 14) rfl rfl (fun q => ?_) (fun q => ?_)
  · have h := h.1 q
    refine g_iconst C dX4_isWithin_14 ic_0 rfl ?_
    exact g_zret C dX4_isWithin_15 D (by decide) ⟨rfl, h⟩
  · have h := h.2 q
    refine g_iload_n C dX4_isWithin_5 rfl rfl rfl ?_
    refine g_iload_n C dX4_isWithin_6 rfl rfl rfl ?_
    refine g_icmp_gt C dX4_isWithin_7 (tgt := 14) rfl rfl (fun q => ?_) (fun q => ?_)
    · have h := h.1 q
      refine g_iconst C dX4_isWithin_14 ic_0 rfl ?_
      exact g_zret C dX4_isWithin_15 D (by decide) ⟨rfl, h⟩
    · have h := h.2 q
      refine g_iconst C dX4_isWithin_10 ic_1 rfl ?_
      refine g_goto C dX4_isWithin_11 (pc' := 15) rfl ?_
      exact g_zret C dX4_isWithin_15 D (by decide) ⟨rfl, h⟩
theorem hd_X4_isWithin : yX4_isWithin.cls ≠ "java/lang/invoke/MethodHandle" ∧ yX4_isWithin.cls ≠ "java/lang/invoke/VarHandle" ∧ (parseMethodDescriptor yX4_isWithin.desc).map (fun d => d.parameters.length) = some 3 := by decide +kernel
theorem k_X2_65 {V : EV} {X : CX} {cc : ByteArray} {nL : Nat} {R : Room} {y1 : Int32} {y2 : Int32} {y3 : Int32} (C : OK V X RX2 cc nL R) {σ : Mem} {pc pc' : Nat} {L : List (Option Value)} {st : List Value} {P : Int32 → Prop} (d : decode cc pc = .ok (.invokestatic 65, 3)) (hst : (st.map fun v => v.category).sum ≤ 8) (hr : 0 + 1 ≤ R.frames ∧ 8 + (3 + 11) + 0 ≤ R.locals) (hL : L.length = nL) (hp : pc + 3 = pc') (h : wp_X4_isWithin σ y1 y2 y3 P) (k : ∀ r, P r → GG V X σ pc' L (.int r :: st)) : GG V X σ pc L (.int y3 :: .int y2 :: .int y1 :: st) :=
  g_callNi C (av := [.int y1, .int y2, .int y3]) (fun l => c_X4_isWithin V σ y1 y2 y3 P l) (fun U h => h.2.2.1) st_X4_isWithin ini_RX4 co_X4_isWithin hd_X4_isWithin rfl ⟨rfl, rfl⟩ hr hst d hL hp h (fun r τ hq => by obtain ⟨rfl, hq⟩ := hq; exact k r hq)
theorem k_X4_60 {V : EV} {X : CX} {cc : ByteArray} {nL : Nat} {R : Room} {y1 : Int32} {y2 : Int32} {y3 : Int32} (C : OK V X RX4 cc nL R) {σ : Mem} {pc pc' : Nat} {L : List (Option Value)} {st : List Value} {P : Int32 → Prop} (d : decode cc pc = .ok (.invokestatic 60, 3)) (hst : (st.map fun v => v.category).sum ≤ 8) (hr : 0 + 1 ≤ R.frames ∧ 8 + (3 + 11) + 0 ≤ R.locals) (hL : L.length = nL) (hp : pc + 3 = pc') (h : wp_X4_isWithin σ y1 y2 y3 P) (k : ∀ r, P r → GG V X σ pc' L (.int r :: st)) : GG V X σ pc L (.int y3 :: .int y2 :: .int y1 :: st) :=
  g_callSi C (av := [.int y1, .int y2, .int y3]) (fun l => c_X4_isWithin V σ y1 y2 y3 P l) ml_RX4_60 st_X4_isWithin ini_RX4 co_X4_isWithin ⟨rfl, hd_X4_isWithin⟩ rfl ⟨rfl, rfl⟩ hr hst d hL hp h (fun r τ hq => by obtain ⟨rfl, hq⟩ := hq; exact k r hq)

theorem dX2_digitAt_0 : decode cX2_digitAt 0 = .ok (.aload_n 0, 1) := by decide +kernel
theorem dX2_digitAt_1 : decode cX2_digitAt 1 = .ok (.getfield 9, 3) := by decide +kernel
theorem dX2_digitAt_4 : decode cX2_digitAt 4 = .ok (.iload_n 1, 1) := by decide +kernel
theorem dX2_digitAt_5 : decode cX2_digitAt 5 = .ok (.invokevirtual 47, 3) := by decide +kernel
theorem dX2_digitAt_8 : decode cX2_digitAt 8 = .ok (.istore_n 2, 1) := by decide +kernel
theorem dX2_digitAt_9 : decode cX2_digitAt 9 = .ok (.iload_n 2, 1) := by decide +kernel
theorem dX2_digitAt_10 : decode cX2_digitAt 10 = .ok (.bipush 48, 2) := by decide +kernel
theorem dX2_digitAt_12 : decode cX2_digitAt 12 = .ok (.bipush 57, 2) := by decide +kernel
theorem dX2_digitAt_14 : decode cX2_digitAt 14 = .ok (.invokestatic 65, 3) := by decide +kernel
theorem dX2_digitAt_17 : decode cX2_digitAt 17 = .ok (.ifCond .eq 10, 3) := by decide +kernel
theorem dX2_digitAt_20 : decode cX2_digitAt 20 = .ok (.iload_n 2, 1) := by decide +kernel
theorem dX2_digitAt_21 : decode cX2_digitAt 21 = .ok (.bipush 48, 2) := by decide +kernel
theorem dX2_digitAt_23 : decode cX2_digitAt 23 = .ok (.isub, 1) := by decide +kernel
theorem dX2_digitAt_24 : decode cX2_digitAt 24 = .ok (.goto 5, 3) := by decide +kernel
theorem dX2_digitAt_27 : decode cX2_digitAt 27 = .ok (.bipush (-5), 2) := by decide +kernel
theorem dX2_digitAt_29 : decode cX2_digitAt 29 = .ok (.ireturn, 1) := by decide +kernel
def wp_X2_digitAt (σ : Mem) (y1 : Int32) (P : Int32 → Prop) : Prop :=
  wp_X3_at σ y1 (fun r1 =>
    wp_X4_isWithin σ r1 48 57 (fun r2 =>
    ((r2 = 0 →
    P (-5)) ∧
    (¬ r2 = 0 →
    P (r1 - 48)))))
set_option maxRecDepth 100000 in
set_option maxHeartbeats 4000000 in
theorem c_X2_digitAt (V : EV) (σ : Mem) (y1 : Int32) (P : Int32 → Prop) (l : Launch) : Met l yX2_digitAt (.code yX2_digitAt cX2_digitAt 3 (some .int) :: AW) { frames := 1, cells := 0, slots := 0, locals := 22 } (va_Pc [.ref (ad V 89), .int y1] (fun U => wP V σ U ∧ wp_X2_digitAt σ y1 P)) (va_Qi (fun r τ => τ = σ ∧ P r) (wB V) (AA V)) 0 0 (AA V) := by
  refine met_i V σ (own := RX2) (by decide +kernel) rfl (fun v hv => by simp at hv; rcases hv with rfl | rfl <;> rfl) (Nat.le_of_ble_eq_true rfl) (fun X C D h => ?_) l
  show GG V X σ 0 [some (.ref (ad V 89)), some (.int y1), none] []
  refine g_aload_n C dX2_digitAt_0 rfl rfl rfl ?_
  refine f_X2_9 C dX2_digitAt_1 rfl ?_
  refine g_iload_n C dX2_digitAt_4 rfl rfl rfl ?_
  refine k_X2_47 C dX2_digitAt_5 (Nat.le_of_ble_eq_true rfl) (by decide) rfl rfl h (fun r1 h => ?_)
  refine g_istore_n C dX2_digitAt_8 rfl (Nat.le_of_ble_eq_true rfl) (L' := [some (.ref (ad V 89)), some (.int y1), some (.int r1)]) rfl rfl ?_
  refine g_iload_n C dX2_digitAt_9 rfl rfl rfl ?_
  refine g_bipush C dX2_digitAt_10 bp_48 rfl ?_
  refine g_bipush C dX2_digitAt_12 bp_57 rfl ?_
  refine k_X2_65 C dX2_digitAt_14 (Nat.le_of_ble_eq_true rfl) (by decide) rfl rfl h (fun r2 h => ?_)
  refine g_if_eq C dX2_digitAt_17 (tgt := 27) rfl rfl (fun q => ?_) (fun q => ?_)
  · have h := h.1 q
    refine g_bipush C dX2_digitAt_27 bp_m5 rfl ?_
    exact g_iret C dX2_digitAt_29 D ⟨rfl, h⟩
  · have h := h.2 q
    refine g_iload_n C dX2_digitAt_20 rfl rfl rfl ?_
    refine g_bipush C dX2_digitAt_21 bp_48 rfl ?_
    refine g_isub C dX2_digitAt_23 rfl ?_
    refine g_goto C dX2_digitAt_24 (pc' := 29) rfl ?_
    exact g_iret C dX2_digitAt_29 D ⟨rfl, h⟩
theorem hd_X2_digitAt : yX2_digitAt.cls ≠ "java/lang/invoke/MethodHandle" ∧ yX2_digitAt.cls ≠ "java/lang/invoke/VarHandle" ∧ (parseMethodDescriptor yX2_digitAt.desc).map (fun d => d.parameters.length) = some 1 := by decide +kernel
theorem k_X2_62 {V : EV} {X : CX} {cc : ByteArray} {nL : Nat} {R : Room} {y1 : Int32} (C : OK V X RX2 cc nL R) {σ : Mem} {pc pc' : Nat} {L : List (Option Value)} {st : List Value} {P : Int32 → Prop} (d : decode cc pc = .ok (.invokevirtual 62, 3)) (hst : (st.map fun v => v.category).sum ≤ 8) (hr : 1 + 1 ≤ R.frames ∧ 8 + (3 + 11) + 22 ≤ R.locals) (hL : L.length = nL) (hp : pc + 3 = pc') (h : wp_X2_digitAt σ y1 P) (k : ∀ r, P r → GG V X σ pc' L (.int r :: st)) : GG V X σ pc L (.int y1 :: .ref (ad V 89) :: st) :=
  g_callVi C (av := [.int y1]) (fun l => c_X2_digitAt V σ y1 P l) (by decide) (en_89 V σ) (q := (RX2, TX2, 6)) rfl rfl ml_RX2_62 im_X2_digitAt se_X2_digitAt ini_RX2 co_X2_digitAt hd_X2_digitAt rfl ⟨rfl, rfl⟩ hr hst d hL hp h (fun r τ hq => by obtain ⟨rfl, hq⟩ := hq; exact k r hq)

theorem dX2_readPage_0 : decode cX2_readPage 0 = .ok (.aload_n 0, 1) := by decide +kernel
theorem dX2_readPage_1 : decode cX2_readPage 1 = .ok (.aload_n 0, 1) := by decide +kernel
theorem dX2_readPage_2 : decode cX2_readPage 2 = .ok (.getfield 30, 3) := by decide +kernel
theorem dX2_readPage_5 : decode cX2_readPage 5 = .ok (.invokevirtual 62, 3) := by decide +kernel
theorem dX2_readPage_8 : decode cX2_readPage 8 = .ok (.istore_n 2, 1) := by decide +kernel
theorem dX2_readPage_9 : decode cX2_readPage 9 = .ok (.iload_n 2, 1) := by decide +kernel
theorem dX2_readPage_10 : decode cX2_readPage 10 = .ok (.iconst 0, 1) := by decide +kernel
theorem dX2_readPage_11 : decode cX2_readPage 11 = .ok (.iconst 4, 1) := by decide +kernel
theorem dX2_readPage_12 : decode cX2_readPage 12 = .ok (.invokestatic 65, 3) := by decide +kernel
theorem dX2_readPage_15 : decode cX2_readPage 15 = .ok (.ifCond .ne 5, 3) := by decide +kernel
theorem dX2_readPage_18 : decode cX2_readPage 18 = .ok (.iconst 0, 1) := by decide +kernel
theorem dX2_readPage_19 : decode cX2_readPage 19 = .ok (.ireturn, 1) := by decide +kernel
theorem dX2_readPage_20 : decode cX2_readPage 20 = .ok (.aload_n 0, 1) := by decide +kernel
theorem dX2_readPage_21 : decode cX2_readPage 21 = .ok (.dup, 1) := by decide +kernel
theorem dX2_readPage_22 : decode cX2_readPage 22 = .ok (.getfield 30, 3) := by decide +kernel
theorem dX2_readPage_25 : decode cX2_readPage 25 = .ok (.iconst 1, 1) := by decide +kernel
theorem dX2_readPage_26 : decode cX2_readPage 26 = .ok (.iadd, 1) := by decide +kernel
theorem dX2_readPage_27 : decode cX2_readPage 27 = .ok (.putfield 30, 3) := by decide +kernel
theorem dX2_readPage_30 : decode cX2_readPage 30 = .ok (.aload_n 0, 1) := by decide +kernel
theorem dX2_readPage_31 : decode cX2_readPage 31 = .ok (.aload_n 0, 1) := by decide +kernel
theorem dX2_readPage_32 : decode cX2_readPage 32 = .ok (.getfield 30, 3) := by decide +kernel
theorem dX2_readPage_35 : decode cX2_readPage 35 = .ok (.invokevirtual 62, 3) := by decide +kernel
theorem dX2_readPage_38 : decode cX2_readPage 38 = .ok (.istore_n 3, 1) := by decide +kernel
theorem dX2_readPage_39 : decode cX2_readPage 39 = .ok (.iload_n 3, 1) := by decide +kernel
theorem dX2_readPage_40 : decode cX2_readPage 40 = .ok (.ifCond .ge 5, 3) := by decide +kernel
theorem dX2_readPage_43 : decode cX2_readPage 43 = .ok (.iconst 0, 1) := by decide +kernel
theorem dX2_readPage_44 : decode cX2_readPage 44 = .ok (.ireturn, 1) := by decide +kernel
theorem dX2_readPage_45 : decode cX2_readPage 45 = .ok (.aload_n 0, 1) := by decide +kernel
theorem dX2_readPage_46 : decode cX2_readPage 46 = .ok (.dup, 1) := by decide +kernel
theorem dX2_readPage_47 : decode cX2_readPage 47 = .ok (.getfield 30, 3) := by decide +kernel
theorem dX2_readPage_50 : decode cX2_readPage 50 = .ok (.iconst 1, 1) := by decide +kernel
theorem dX2_readPage_51 : decode cX2_readPage 51 = .ok (.iadd, 1) := by decide +kernel
theorem dX2_readPage_52 : decode cX2_readPage 52 = .ok (.putfield 30, 3) := by decide +kernel
theorem dX2_readPage_55 : decode cX2_readPage 55 = .ok (.aload_n 0, 1) := by decide +kernel
theorem dX2_readPage_56 : decode cX2_readPage 56 = .ok (.getfield 19, 3) := by decide +kernel
theorem dX2_readPage_59 : decode cX2_readPage 59 = .ok (.iload_n 1, 1) := by decide +kernel
theorem dX2_readPage_60 : decode cX2_readPage 60 = .ok (.iload_n 2, 1) := by decide +kernel
theorem dX2_readPage_61 : decode cX2_readPage 61 = .ok (.iload_n 3, 1) := by decide +kernel
theorem dX2_readPage_62 : decode cX2_readPage 62 = .ok (.invokestatic 68, 3) := by decide +kernel
theorem dX2_readPage_65 : decode cX2_readPage 65 = .ok (.iastore, 1) := by decide +kernel
theorem dX2_readPage_66 : decode cX2_readPage 66 = .ok (.iconst 1, 1) := by decide +kernel
theorem dX2_readPage_67 : decode cX2_readPage 67 = .ok (.ireturn, 1) := by decide +kernel
def wp_X2_readPage (σ : Mem) (y1 : Int32) (P : Int32 → Mem → Prop) : Prop :=
  wp_X2_digitAt σ (σ 89 5) (fun r1 =>
    wp_X4_isWithin σ r1 0 4 (fun r2 =>
    ((r2 = 0 →
    P 0 σ) ∧
    (¬ r2 = 0 →
    bm (up2 σ 89 5 ((σ 89 5) + 1)) (fun σ3 =>
      wp_X2_digitAt σ3 (σ3 89 5) (fun r4 =>
      ((0 ≤ r4 →
      bm (up2 σ3 89 5 ((σ3 89 5) + 1)) (fun σ5 =>
        wp_X4_pageIndex σ5 r1 r4 (fun r6 =>
        vp_in y1 30 ∧ bm (up2 σ5 91 y1.toNatClampNeg r6) (fun σ7 =>
        P 1 σ7)))) ∧
      (¬ 0 ≤ r4 →
      P 0 σ3))))))))
set_option maxRecDepth 100000 in
set_option maxHeartbeats 4000000 in
theorem c_X2_readPage (V : EV) (σ : Mem) (y1 : Int32) (P : Int32 → Mem → Prop) (l : Launch) : Met l yX2_readPage (.code yX2_readPage cX2_readPage 4 (some .boolean) :: AW) { frames := 2, cells := 0, slots := 0, locals := 44 } (va_Pc [.ref (ad V 89), .int y1] (fun U => wP V σ U ∧ wp_X2_readPage σ y1 P)) (va_Qi P (wB V) (AA V)) 0 0 (AA V) := by
  refine met_i V σ (own := RX2) (by decide +kernel) rfl (fun v hv => by simp at hv; rcases hv with rfl | rfl <;> rfl) (Nat.le_of_ble_eq_true rfl) (fun X C D h => ?_) l
  show GG V X σ 0 [some (.ref (ad V 89)), some (.int y1), none, none] []
  refine g_aload_n C dX2_readPage_0 rfl rfl rfl ?_
  refine g_aload_n C dX2_readPage_1 rfl rfl rfl ?_
  refine f_X2_30 C dX2_readPage_2 rfl ?_
  refine k_X2_62 C dX2_readPage_5 (Nat.le_of_ble_eq_true rfl) (by decide) rfl rfl h (fun r1 h => ?_)
  refine g_istore_n C dX2_readPage_8 rfl (Nat.le_of_ble_eq_true rfl) (L' := [some (.ref (ad V 89)), some (.int y1), some (.int r1), none]) rfl rfl ?_
  refine g_iload_n C dX2_readPage_9 rfl rfl rfl ?_
  refine g_iconst C dX2_readPage_10 ic_0 rfl ?_
  refine g_iconst C dX2_readPage_11 ic_4 rfl ?_
  refine k_X2_65 C dX2_readPage_12 (Nat.le_of_ble_eq_true rfl) (by decide) rfl rfl h (fun r2 h => ?_)
  refine g_if_ne C dX2_readPage_15 (tgt := 20) rfl rfl (fun q => ?_) (fun q => ?_)
  · have h := h.2 q
    refine g_aload_n C dX2_readPage_20 rfl rfl rfl ?_
    refine g_dup C dX2_readPage_21 rfl rfl ?_
    refine f_X2_30 C dX2_readPage_22 rfl ?_
    refine g_iconst C dX2_readPage_25 ic_1 rfl ?_
    refine g_iadd C dX2_readPage_26 rfl ?_
    refine p_X2_30 C dX2_readPage_27 rfl h (fun σ3 h => ?_)
    refine g_aload_n C dX2_readPage_30 rfl rfl rfl ?_
    refine g_aload_n C dX2_readPage_31 rfl rfl rfl ?_
    refine f_X2_30 C dX2_readPage_32 rfl ?_
    refine k_X2_62 C dX2_readPage_35 (Nat.le_of_ble_eq_true rfl) (by decide) rfl rfl h (fun r4 h => ?_)
    refine g_istore_n C dX2_readPage_38 rfl (Nat.le_of_ble_eq_true rfl) (L' := [some (.ref (ad V 89)), some (.int y1), some (.int r1), some (.int r4)]) rfl rfl ?_
    refine g_iload_n C dX2_readPage_39 rfl rfl rfl ?_
    refine g_if_ge C dX2_readPage_40 (tgt := 45) rfl rfl (fun q => ?_) (fun q => ?_)
    · have h := h.1 q
      refine g_aload_n C dX2_readPage_45 rfl rfl rfl ?_
      refine g_dup C dX2_readPage_46 rfl rfl ?_
      refine f_X2_30 C dX2_readPage_47 rfl ?_
      refine g_iconst C dX2_readPage_50 ic_1 rfl ?_
      refine g_iadd C dX2_readPage_51 rfl ?_
      refine p_X2_30 C dX2_readPage_52 rfl h (fun σ5 h => ?_)
      refine g_aload_n C dX2_readPage_55 rfl rfl rfl ?_
      refine f_X2_19 C dX2_readPage_56 rfl ?_
      refine g_iload_n C dX2_readPage_59 rfl rfl rfl ?_
      refine g_iload_n C dX2_readPage_60 rfl rfl rfl ?_
      refine g_iload_n C dX2_readPage_61 rfl rfl rfl ?_
      refine k_X2_68 C dX2_readPage_62 (Nat.le_of_ble_eq_true rfl) (by decide) rfl rfl h (fun r6 h => ?_)
      obtain ⟨hin, h⟩ := h
      refine g_ist C dX2_readPage_65 arr_91 hin rfl h (fun σ7 h => ?_)
      refine g_iconst C dX2_readPage_66 ic_1 rfl ?_
      exact g_zret C dX2_readPage_67 D (by decide) h
    · have h := h.2 q
      refine g_iconst C dX2_readPage_43 ic_0 rfl ?_
      exact g_zret C dX2_readPage_44 D (by decide) h
  · have h := h.1 q
    refine g_iconst C dX2_readPage_18 ic_0 rfl ?_
    exact g_zret C dX2_readPage_19 D (by decide) h
theorem hd_X2_readPage : yX2_readPage.cls ≠ "java/lang/invoke/MethodHandle" ∧ yX2_readPage.cls ≠ "java/lang/invoke/VarHandle" ∧ (parseMethodDescriptor yX2_readPage.desc).map (fun d => d.parameters.length) = some 1 := by decide +kernel
theorem k_X2_55 {V : EV} {X : CX} {cc : ByteArray} {nL : Nat} {R : Room} {y1 : Int32} (C : OK V X RX2 cc nL R) {σ : Mem} {pc pc' : Nat} {L : List (Option Value)} {st : List Value} {P : Int32 → Mem → Prop} (d : decode cc pc = .ok (.invokevirtual 55, 3)) (hst : (st.map fun v => v.category).sum ≤ 8) (hr : 2 + 1 ≤ R.frames ∧ 8 + (4 + 11) + 44 ≤ R.locals) (hL : L.length = nL) (hp : pc + 3 = pc') (h : wp_X2_readPage σ y1 P) (k : ∀ r τ, P r τ → GG V X τ pc' L (.int r :: st)) : GG V X σ pc L (.int y1 :: .ref (ad V 89) :: st) :=
  g_callVi C (av := [.int y1]) (fun l => c_X2_readPage V σ y1 P l) (by decide) (en_89 V σ) (q := (RX2, TX2, 6)) rfl rfl ml_RX2_55 im_X2_readPage se_X2_readPage ini_RX2 co_X2_readPage hd_X2_readPage rfl ⟨rfl, rfl⟩ hr hst d hL hp h k

theorem dX2_readNumber_0 : decode cX2_readNumber 0 = .ok (.aload_n 0, 1) := by decide +kernel
theorem dX2_readNumber_1 : decode cX2_readNumber 1 = .ok (.aload_n 0, 1) := by decide +kernel
theorem dX2_readNumber_2 : decode cX2_readNumber 2 = .ok (.getfield 30, 3) := by decide +kernel
theorem dX2_readNumber_5 : decode cX2_readNumber 5 = .ok (.invokevirtual 62, 3) := by decide +kernel
theorem dX2_readNumber_8 : decode cX2_readNumber 8 = .ok (.istore 4, 2) := by decide +kernel
theorem dX2_readNumber_10 : decode cX2_readNumber 10 = .ok (.iload 4, 2) := by decide +kernel
theorem dX2_readNumber_12 : decode cX2_readNumber 12 = .ok (.iload_n 2, 1) := by decide +kernel
theorem dX2_readNumber_13 : decode cX2_readNumber 13 = .ok (.if_icmp .ge 5, 3) := by decide +kernel
theorem dX2_readNumber_16 : decode cX2_readNumber 16 = .ok (.iconst 0, 1) := by decide +kernel
theorem dX2_readNumber_17 : decode cX2_readNumber 17 = .ok (.ireturn, 1) := by decide +kernel
theorem dX2_readNumber_18 : decode cX2_readNumber 18 = .ok (.aload_n 0, 1) := by decide +kernel
theorem dX2_readNumber_19 : decode cX2_readNumber 19 = .ok (.dup, 1) := by decide +kernel
theorem dX2_readNumber_20 : decode cX2_readNumber 20 = .ok (.getfield 30, 3) := by decide +kernel
theorem dX2_readNumber_23 : decode cX2_readNumber 23 = .ok (.iconst 1, 1) := by decide +kernel
theorem dX2_readNumber_24 : decode cX2_readNumber 24 = .ok (.iadd, 1) := by decide +kernel
theorem dX2_readNumber_25 : decode cX2_readNumber 25 = .ok (.putfield 30, 3) := by decide +kernel
theorem dX2_readNumber_28 : decode cX2_readNumber 28 = .ok (.aload_n 0, 1) := by decide +kernel
theorem dX2_readNumber_29 : decode cX2_readNumber 29 = .ok (.getfield 30, 3) := by decide +kernel
theorem dX2_readNumber_32 : decode cX2_readNumber 32 = .ok (.istore 5, 2) := by decide +kernel
theorem dX2_readNumber_34 : decode cX2_readNumber 34 = .ok (.iload 5, 2) := by decide +kernel
theorem dX2_readNumber_36 : decode cX2_readNumber 36 = .ok (.bipush 60, 2) := by decide +kernel
theorem dX2_readNumber_38 : decode cX2_readNumber 38 = .ok (.if_icmp .ge 62, 3) := by decide +kernel
theorem dX2_readNumber_41 : decode cX2_readNumber 41 = .ok (.aload_n 0, 1) := by decide +kernel
theorem dX2_readNumber_42 : decode cX2_readNumber 42 = .ok (.iload 5, 2) := by decide +kernel
theorem dX2_readNumber_44 : decode cX2_readNumber 44 = .ok (.invokevirtual 62, 3) := by decide +kernel
theorem dX2_readNumber_47 : decode cX2_readNumber 47 = .ok (.istore 6, 2) := by decide +kernel
theorem dX2_readNumber_49 : decode cX2_readNumber 49 = .ok (.iload 6, 2) := by decide +kernel
theorem dX2_readNumber_51 : decode cX2_readNumber 51 = .ok (.ifCond .lt 49, 3) := by decide +kernel
theorem dX2_readNumber_54 : decode cX2_readNumber 54 = .ok (.iload 4, 2) := by decide +kernel
theorem dX2_readNumber_56 : decode cX2_readNumber 56 = .ok (.ifCond .eq 44, 3) := by decide +kernel
theorem dX2_readNumber_59 : decode cX2_readNumber 59 = .ok (.iload 4, 2) := by decide +kernel
theorem dX2_readNumber_61 : decode cX2_readNumber 61 = .ok (.bipush 10, 2) := by decide +kernel
theorem dX2_readNumber_63 : decode cX2_readNumber 63 = .ok (.imul, 1) := by decide +kernel
theorem dX2_readNumber_64 : decode cX2_readNumber 64 = .ok (.iload 6, 2) := by decide +kernel
theorem dX2_readNumber_66 : decode cX2_readNumber 66 = .ok (.iadd, 1) := by decide +kernel
theorem dX2_readNumber_67 : decode cX2_readNumber 67 = .ok (.iload_n 3, 1) := by decide +kernel
theorem dX2_readNumber_68 : decode cX2_readNumber 68 = .ok (.if_icmp .le 6, 3) := by decide +kernel
theorem dX2_readNumber_71 : decode cX2_readNumber 71 = .ok (.goto 29, 3) := by decide +kernel
theorem dX2_readNumber_74 : decode cX2_readNumber 74 = .ok (.iload 4, 2) := by decide +kernel
theorem dX2_readNumber_76 : decode cX2_readNumber 76 = .ok (.bipush 10, 2) := by decide +kernel
theorem dX2_readNumber_78 : decode cX2_readNumber 78 = .ok (.imul, 1) := by decide +kernel
theorem dX2_readNumber_79 : decode cX2_readNumber 79 = .ok (.iload 6, 2) := by decide +kernel
theorem dX2_readNumber_81 : decode cX2_readNumber 81 = .ok (.iadd, 1) := by decide +kernel
theorem dX2_readNumber_82 : decode cX2_readNumber 82 = .ok (.istore 4, 2) := by decide +kernel
theorem dX2_readNumber_84 : decode cX2_readNumber 84 = .ok (.aload_n 0, 1) := by decide +kernel
theorem dX2_readNumber_85 : decode cX2_readNumber 85 = .ok (.dup, 1) := by decide +kernel
theorem dX2_readNumber_86 : decode cX2_readNumber 86 = .ok (.getfield 30, 3) := by decide +kernel
theorem dX2_readNumber_89 : decode cX2_readNumber 89 = .ok (.iconst 1, 1) := by decide +kernel
theorem dX2_readNumber_90 : decode cX2_readNumber 90 = .ok (.iadd, 1) := by decide +kernel
theorem dX2_readNumber_91 : decode cX2_readNumber 91 = .ok (.putfield 30, 3) := by decide +kernel
theorem dX2_readNumber_94 : decode cX2_readNumber 94 = .ok (.iinc 5 1, 3) := by decide +kernel
theorem dX2_readNumber_97 : decode cX2_readNumber 97 = .ok (.goto (-63), 3) := by decide +kernel
theorem dX2_readNumber_100 : decode cX2_readNumber 100 = .ok (.aload_n 0, 1) := by decide +kernel
theorem dX2_readNumber_101 : decode cX2_readNumber 101 = .ok (.getfield 23, 3) := by decide +kernel
theorem dX2_readNumber_104 : decode cX2_readNumber 104 = .ok (.iload_n 1, 1) := by decide +kernel
theorem dX2_readNumber_105 : decode cX2_readNumber 105 = .ok (.iload 4, 2) := by decide +kernel
theorem dX2_readNumber_107 : decode cX2_readNumber 107 = .ok (.iastore, 1) := by decide +kernel
theorem dX2_readNumber_108 : decode cX2_readNumber 108 = .ok (.iconst 1, 1) := by decide +kernel
theorem dX2_readNumber_109 : decode cX2_readNumber 109 = .ok (.ireturn, 1) := by decide +kernel
def wp_X2_readNumber (σ : Mem) (y1 : Int32) (y2 : Int32) (y3 : Int32) (P : Int32 → Mem → Prop) : Prop :=
  wp_X2_digitAt σ (σ 89 5) (fun r1 =>
    ((y2 ≤ r1 →
    bm (up2 σ 89 5 ((σ 89 5) + 1)) (fun σ2 =>
      lq3 (fun rec6 (σ3 : Mem) (x4 : Int32) (x5 : Int32) =>
      jn (A := Prop) (vp_in y1 30 ∧ bm (up2 σ3 92 y1.toNatClampNeg x4) (fun σ8 =>
          P 1 σ8))
        (fun J7 =>
        ((60 ≤ x5 →
        J7) ∧
        (¬ 60 ≤ x5 →
        wp_X2_digitAt σ3 x5 (fun r9 =>
          ((r9 < 0 →
          J7) ∧
          (¬ r9 < 0 →
          ((x4 = 0 →
            J7) ∧
            (¬ x4 = 0 →
            ((((x4 * 10) + r9) ≤ y3 →
              bm (up2 σ3 89 5 ((σ3 89 5) + 1)) (fun σ10 =>
                rec6 σ10 ((x4 * 10) + r9) (x5 + 1))) ∧
              (¬ ((x4 * 10) + r9) ≤ y3 →
              J7))))))))))) σ2 r1 (σ2 89 5))) ∧
    (¬ y2 ≤ r1 →
    P 0 σ)))
set_option maxRecDepth 100000 in
set_option maxHeartbeats 4000000 in
theorem c_X2_readNumber (V : EV) (σ : Mem) (y1 : Int32) (y2 : Int32) (y3 : Int32) (P : Int32 → Mem → Prop) (l : Launch) : Met l yX2_readNumber (.code yX2_readNumber cX2_readNumber 7 (some .boolean) :: AW) { frames := 2, cells := 0, slots := 0, locals := 44 } (va_Pc [.ref (ad V 89), .int y1, .int y2, .int y3] (fun U => wP V σ U ∧ wp_X2_readNumber σ y1 y2 y3 P)) (va_Qi P (wB V) (AA V)) 0 0 (AA V) := by
  refine met_i V σ (own := RX2) (by decide +kernel) rfl (fun v hv => by simp at hv; rcases hv with rfl | rfl | rfl | rfl <;> rfl) (Nat.le_of_ble_eq_true rfl) (fun X C D h => ?_) l
  show GG V X σ 0 [some (.ref (ad V 89)), some (.int y1), some (.int y2), some (.int y3), none, none, none] []
  refine g_aload_n C dX2_readNumber_0 rfl rfl rfl ?_
  refine g_aload_n C dX2_readNumber_1 rfl rfl rfl ?_
  refine f_X2_30 C dX2_readNumber_2 rfl ?_
  refine k_X2_62 C dX2_readNumber_5 (Nat.le_of_ble_eq_true rfl) (by decide) rfl rfl h (fun r1 h => ?_)
  refine g_istore C dX2_readNumber_8 (Nat.le_of_ble_eq_true rfl) (L' := [some (.ref (ad V 89)), some (.int y1), some (.int y2), some (.int y3), some (.int r1), none, none]) rfl rfl ?_
  refine g_iload C dX2_readNumber_10 rfl rfl ?_
  refine g_iload_n C dX2_readNumber_12 rfl rfl rfl ?_
  refine g_icmp_ge C dX2_readNumber_13 (tgt := 18) rfl rfl (fun q => ?_) (fun q => ?_)
  · have h := h.1 q
    refine g_aload_n C dX2_readNumber_18 rfl rfl rfl ?_
    refine g_dup C dX2_readNumber_19 rfl rfl ?_
    refine f_X2_30 C dX2_readNumber_20 rfl ?_
    refine g_iconst C dX2_readNumber_23 ic_1 rfl ?_
    refine g_iadd C dX2_readNumber_24 rfl ?_
    refine p_X2_30 C dX2_readNumber_25 rfl h (fun σ2 h => ?_)
    refine g_aload_n C dX2_readNumber_28 rfl rfl rfl ?_
    refine f_X2_30 C dX2_readNumber_29 rfl ?_
    refine g_istore C dX2_readNumber_32 (Nat.le_of_ble_eq_true rfl) (L' := [some (.ref (ad V 89)), some (.int y1), some (.int y2), some (.int y3), some (.int r1), some (.int (σ2 89 5)), none]) rfl rfl ?_
    refine g_drop 2 (L' := [some (.ref (ad V 89)), some (.int y1), none, some (.int y3), some (.int r1), some (.int (σ2 89 5)), none]) rfl ?_
    refine h (fun (σ3 : Mem) (x4 : Int32) (x5 : Int32) => GG V X σ3 34 [some (.ref (ad V 89)), some (.int y1), none, some (.int y3), some (.int x4), some (.int x5), none] []) (fun σ3 x4 x5 h => ?_)
    refine g_iload C dX2_readNumber_34 rfl rfl ?_
    refine g_bipush C dX2_readNumber_36 bp_60 rfl ?_
    refine jn_go h (fun (J7 : Prop) => J7 → GG V X σ3 100 [some (.ref (ad V 89)), some (.int y1), none, none, some (.int x4), none, none] []) (fun h => ?_) (fun J7 hJ7 h => ?_)
    · refine g_aload_n C dX2_readNumber_100 rfl rfl rfl ?_
      refine f_X2_23 C dX2_readNumber_101 rfl ?_
      refine g_iload_n C dX2_readNumber_104 rfl rfl rfl ?_
      refine g_iload C dX2_readNumber_105 rfl rfl ?_
      obtain ⟨hin, h⟩ := h
      refine g_ist C dX2_readNumber_107 arr_92 hin rfl h (fun σ8 h => ?_)
      refine g_iconst C dX2_readNumber_108 ic_1 rfl ?_
      exact g_zret C dX2_readNumber_109 D (by decide) h
    refine g_icmp_ge C dX2_readNumber_38 (tgt := 100) rfl rfl (fun q => ?_) (fun q => ?_)
    · have h := h.1 q
      refine g_drop 3 (L' := [some (.ref (ad V 89)), some (.int y1), none, none, some (.int x4), some (.int x5), none]) rfl ?_
      refine g_drop 5 (L' := [some (.ref (ad V 89)), some (.int y1), none, none, some (.int x4), none, none]) rfl ?_
      exact hJ7 h
    · have h := h.2 q
      refine g_aload_n C dX2_readNumber_41 rfl rfl rfl ?_
      refine g_iload C dX2_readNumber_42 rfl rfl ?_
      refine k_X2_62 C dX2_readNumber_44 (Nat.le_of_ble_eq_true rfl) (by decide) rfl rfl h (fun r9 h => ?_)
      refine g_istore C dX2_readNumber_47 (Nat.le_of_ble_eq_true rfl) (L' := [some (.ref (ad V 89)), some (.int y1), none, some (.int y3), some (.int x4), some (.int x5), some (.int r9)]) rfl rfl ?_
      refine g_iload C dX2_readNumber_49 rfl rfl ?_
      refine g_if_lt C dX2_readNumber_51 (tgt := 100) rfl rfl (fun q => ?_) (fun q => ?_)
      · have h := h.1 q
        refine g_drop 3 (L' := [some (.ref (ad V 89)), some (.int y1), none, none, some (.int x4), some (.int x5), some (.int r9)]) rfl ?_
        refine g_drop 5 (L' := [some (.ref (ad V 89)), some (.int y1), none, none, some (.int x4), none, some (.int r9)]) rfl ?_
        refine g_drop 6 (L' := [some (.ref (ad V 89)), some (.int y1), none, none, some (.int x4), none, none]) rfl ?_
        exact hJ7 h
      · have h := h.2 q
        refine g_iload C dX2_readNumber_54 rfl rfl ?_
        refine g_if_eq C dX2_readNumber_56 (tgt := 100) rfl rfl (fun q => ?_) (fun q => ?_)
        · have h := h.1 q
          refine g_drop 3 (L' := [some (.ref (ad V 89)), some (.int y1), none, none, some (.int x4), some (.int x5), some (.int r9)]) rfl ?_
          refine g_drop 5 (L' := [some (.ref (ad V 89)), some (.int y1), none, none, some (.int x4), none, some (.int r9)]) rfl ?_
          refine g_drop 6 (L' := [some (.ref (ad V 89)), some (.int y1), none, none, some (.int x4), none, none]) rfl ?_
          exact hJ7 h
        · have h := h.2 q
          refine g_iload C dX2_readNumber_59 rfl rfl ?_
          refine g_bipush C dX2_readNumber_61 bp_10 rfl ?_
          refine g_imul C dX2_readNumber_63 rfl ?_
          refine g_iload C dX2_readNumber_64 rfl rfl ?_
          refine g_iadd C dX2_readNumber_66 rfl ?_
          refine g_iload_n C dX2_readNumber_67 rfl rfl rfl ?_
          refine g_icmp_le C dX2_readNumber_68 (tgt := 74) rfl rfl (fun q => ?_) (fun q => ?_)
          · have h := h.1 q
            refine g_iload C dX2_readNumber_74 rfl rfl ?_
            refine g_bipush C dX2_readNumber_76 bp_10 rfl ?_
            refine g_imul C dX2_readNumber_78 rfl ?_
            refine g_iload C dX2_readNumber_79 rfl rfl ?_
            refine g_iadd C dX2_readNumber_81 rfl ?_
            refine g_istore C dX2_readNumber_82 (Nat.le_of_ble_eq_true rfl) (L' := [some (.ref (ad V 89)), some (.int y1), none, some (.int y3), some (.int ((x4 * 10) + r9)), some (.int x5), some (.int r9)]) rfl rfl ?_
            refine g_aload_n C dX2_readNumber_84 rfl rfl rfl ?_
            refine g_dup C dX2_readNumber_85 rfl rfl ?_
            refine f_X2_30 C dX2_readNumber_86 rfl ?_
            refine g_iconst C dX2_readNumber_89 ic_1 rfl ?_
            refine g_iadd C dX2_readNumber_90 rfl ?_
            refine p_X2_30 C dX2_readNumber_91 rfl h (fun σ10 h => ?_)
            refine g_iinc C dX2_readNumber_94 (v := x5 + 1) (by rw [ic_1]) rfl (Nat.le_of_ble_eq_true rfl) (L' := [some (.ref (ad V 89)), some (.int y1), none, some (.int y3), some (.int ((x4 * 10) + r9)), some (.int (x5 + 1)), some (.int r9)]) rfl rfl ?_
            refine g_goto C dX2_readNumber_97 (pc' := 34) rfl ?_
            refine g_drop 6 (L' := [some (.ref (ad V 89)), some (.int y1), none, some (.int y3), some (.int ((x4 * 10) + r9)), some (.int (x5 + 1)), none]) rfl ?_
            exact h
          · have h := h.2 q
            refine g_goto C dX2_readNumber_71 (pc' := 100) rfl ?_
            refine g_drop 3 (L' := [some (.ref (ad V 89)), some (.int y1), none, none, some (.int x4), some (.int x5), some (.int r9)]) rfl ?_
            refine g_drop 5 (L' := [some (.ref (ad V 89)), some (.int y1), none, none, some (.int x4), none, some (.int r9)]) rfl ?_
            refine g_drop 6 (L' := [some (.ref (ad V 89)), some (.int y1), none, none, some (.int x4), none, none]) rfl ?_
            exact hJ7 h
  · have h := h.2 q
    refine g_iconst C dX2_readNumber_16 ic_0 rfl ?_
    exact g_zret C dX2_readNumber_17 D (by decide) h
theorem hd_X2_readNumber : yX2_readNumber.cls ≠ "java/lang/invoke/MethodHandle" ∧ yX2_readNumber.cls ≠ "java/lang/invoke/VarHandle" ∧ (parseMethodDescriptor yX2_readNumber.desc).map (fun d => d.parameters.length) = some 3 := by decide +kernel
theorem k_X2_58 {V : EV} {X : CX} {cc : ByteArray} {nL : Nat} {R : Room} {y1 : Int32} {y2 : Int32} {y3 : Int32} (C : OK V X RX2 cc nL R) {σ : Mem} {pc pc' : Nat} {L : List (Option Value)} {st : List Value} {P : Int32 → Mem → Prop} (d : decode cc pc = .ok (.invokevirtual 58, 3)) (hst : (st.map fun v => v.category).sum ≤ 8) (hr : 2 + 1 ≤ R.frames ∧ 8 + (7 + 11) + 44 ≤ R.locals) (hL : L.length = nL) (hp : pc + 3 = pc') (h : wp_X2_readNumber σ y1 y2 y3 P) (k : ∀ r τ, P r τ → GG V X τ pc' L (.int r :: st)) : GG V X σ pc L (.int y3 :: .int y2 :: .int y1 :: .ref (ad V 89) :: st) :=
  g_callVi C (av := [.int y1, .int y2, .int y3]) (fun l => c_X2_readNumber V σ y1 y2 y3 P l) (by decide) (en_89 V σ) (q := (RX2, TX2, 6)) rfl rfl ml_RX2_58 im_X2_readNumber se_X2_readNumber ini_RX2 co_X2_readNumber hd_X2_readNumber rfl ⟨rfl, rfl⟩ hr hst d hL hp h k

theorem dX2_readThing_0 : decode cX2_readThing 0 = .ok (.aload_n 0, 1) := by decide +kernel
theorem dX2_readThing_1 : decode cX2_readThing 1 = .ok (.getfield 9, 3) := by decide +kernel
theorem dX2_readThing_4 : decode cX2_readThing 4 = .ok (.aload_n 0, 1) := by decide +kernel
theorem dX2_readThing_5 : decode cX2_readThing 5 = .ok (.getfield 30, 3) := by decide +kernel
theorem dX2_readThing_8 : decode cX2_readThing 8 = .ok (.invokevirtual 47, 3) := by decide +kernel
theorem dX2_readThing_11 : decode cX2_readThing 11 = .ok (.istore_n 2, 1) := by decide +kernel
theorem dX2_readThing_12 : decode cX2_readThing 12 = .ok (.aload_n 0, 1) := by decide +kernel
theorem dX2_readThing_13 : decode cX2_readThing 13 = .ok (.getfield 19, 3) := by decide +kernel
theorem dX2_readThing_16 : decode cX2_readThing 16 = .ok (.iload_n 1, 1) := by decide +kernel
theorem dX2_readThing_17 : decode cX2_readThing 17 = .ok (.iconst 0, 1) := by decide +kernel
theorem dX2_readThing_18 : decode cX2_readThing 18 = .ok (.iastore, 1) := by decide +kernel
theorem dX2_readThing_19 : decode cX2_readThing 19 = .ok (.aload_n 0, 1) := by decide +kernel
theorem dX2_readThing_20 : decode cX2_readThing 20 = .ok (.getfield 23, 3) := by decide +kernel
theorem dX2_readThing_23 : decode cX2_readThing 23 = .ok (.iload_n 1, 1) := by decide +kernel
theorem dX2_readThing_24 : decode cX2_readThing 24 = .ok (.iconst 0, 1) := by decide +kernel
theorem dX2_readThing_25 : decode cX2_readThing 25 = .ok (.iastore, 1) := by decide +kernel
theorem dX2_readThing_26 : decode cX2_readThing 26 = .ok (.iload_n 2, 1) := by decide +kernel
theorem dX2_readThing_27 : decode cX2_readThing 27 = .ok (.lookupswitch 247 #[(46, 220), (101, 158), (102, 110), (104, 185), (112, 134), (115, 212), (119, 65)], 65) := by decide +kernel
theorem dX2_readThing_92 : decode cX2_readThing 92 = .ok (.aload_n 0, 1) := by decide +kernel
theorem dX2_readThing_93 : decode cX2_readThing 93 = .ok (.iload_n 1, 1) := by decide +kernel
theorem dX2_readThing_94 : decode cX2_readThing 94 = .ok (.bipush 119, 2) := by decide +kernel
theorem dX2_readThing_96 : decode cX2_readThing 96 = .ok (.invokevirtual 51, 3) := by decide +kernel
theorem dX2_readThing_99 : decode cX2_readThing 99 = .ok (.ifCond .eq 36, 3) := by decide +kernel
theorem dX2_readThing_102 : decode cX2_readThing 102 = .ok (.aload_n 0, 1) := by decide +kernel
theorem dX2_readThing_103 : decode cX2_readThing 103 = .ok (.iload_n 1, 1) := by decide +kernel
theorem dX2_readThing_104 : decode cX2_readThing 104 = .ok (.invokevirtual 55, 3) := by decide +kernel
theorem dX2_readThing_107 : decode cX2_readThing 107 = .ok (.ifCond .eq 28, 3) := by decide +kernel
theorem dX2_readThing_110 : decode cX2_readThing 110 = .ok (.aload_n 0, 1) := by decide +kernel
theorem dX2_readThing_111 : decode cX2_readThing 111 = .ok (.bipush 61, 2) := by decide +kernel
theorem dX2_readThing_113 : decode cX2_readThing 113 = .ok (.invokevirtual 43, 3) := by decide +kernel
theorem dX2_readThing_116 : decode cX2_readThing 116 = .ok (.ifCond .eq 19, 3) := by decide +kernel
theorem dX2_readThing_119 : decode cX2_readThing 119 = .ok (.aload_n 0, 1) := by decide +kernel
theorem dX2_readThing_120 : decode cX2_readThing 120 = .ok (.iload_n 1, 1) := by decide +kernel
theorem dX2_readThing_121 : decode cX2_readThing 121 = .ok (.iconst 0, 1) := by decide +kernel
theorem dX2_readThing_122 : decode cX2_readThing 122 = .ok (.sipush 9999, 3) := by decide +kernel
theorem dX2_readThing_125 : decode cX2_readThing 125 = .ok (.invokevirtual 58, 3) := by decide +kernel
theorem dX2_readThing_128 : decode cX2_readThing 128 = .ok (.ifCond .eq 7, 3) := by decide +kernel
theorem dX2_readThing_131 : decode cX2_readThing 131 = .ok (.iconst 1, 1) := by decide +kernel
theorem dX2_readThing_132 : decode cX2_readThing 132 = .ok (.goto 4, 3) := by decide +kernel
theorem dX2_readThing_135 : decode cX2_readThing 135 = .ok (.iconst 0, 1) := by decide +kernel
theorem dX2_readThing_136 : decode cX2_readThing 136 = .ok (.ireturn, 1) := by decide +kernel
theorem dX2_readThing_137 : decode cX2_readThing 137 = .ok (.aload_n 0, 1) := by decide +kernel
theorem dX2_readThing_138 : decode cX2_readThing 138 = .ok (.iload_n 1, 1) := by decide +kernel
theorem dX2_readThing_139 : decode cX2_readThing 139 = .ok (.bipush 102, 2) := by decide +kernel
theorem dX2_readThing_141 : decode cX2_readThing 141 = .ok (.invokevirtual 51, 3) := by decide +kernel
theorem dX2_readThing_144 : decode cX2_readThing 144 = .ok (.ifCond .eq 15, 3) := by decide +kernel
theorem dX2_readThing_147 : decode cX2_readThing 147 = .ok (.aload_n 0, 1) := by decide +kernel
theorem dX2_readThing_148 : decode cX2_readThing 148 = .ok (.iload_n 1, 1) := by decide +kernel
theorem dX2_readThing_149 : decode cX2_readThing 149 = .ok (.invokevirtual 55, 3) := by decide +kernel
theorem dX2_readThing_152 : decode cX2_readThing 152 = .ok (.ifCond .eq 7, 3) := by decide +kernel
theorem dX2_readThing_155 : decode cX2_readThing 155 = .ok (.iconst 1, 1) := by decide +kernel
theorem dX2_readThing_156 : decode cX2_readThing 156 = .ok (.goto 4, 3) := by decide +kernel
theorem dX2_readThing_159 : decode cX2_readThing 159 = .ok (.iconst 0, 1) := by decide +kernel
theorem dX2_readThing_160 : decode cX2_readThing 160 = .ok (.ireturn, 1) := by decide +kernel
theorem dX2_readThing_161 : decode cX2_readThing 161 = .ok (.aload_n 0, 1) := by decide +kernel
theorem dX2_readThing_162 : decode cX2_readThing 162 = .ok (.iload_n 1, 1) := by decide +kernel
theorem dX2_readThing_163 : decode cX2_readThing 163 = .ok (.bipush 112, 2) := by decide +kernel
theorem dX2_readThing_165 : decode cX2_readThing 165 = .ok (.invokevirtual 51, 3) := by decide +kernel
theorem dX2_readThing_168 : decode cX2_readThing 168 = .ok (.ifCond .eq 15, 3) := by decide +kernel
theorem dX2_readThing_171 : decode cX2_readThing 171 = .ok (.aload_n 0, 1) := by decide +kernel
theorem dX2_readThing_172 : decode cX2_readThing 172 = .ok (.iload_n 1, 1) := by decide +kernel
theorem dX2_readThing_173 : decode cX2_readThing 173 = .ok (.invokevirtual 55, 3) := by decide +kernel
theorem dX2_readThing_176 : decode cX2_readThing 176 = .ok (.ifCond .eq 7, 3) := by decide +kernel
theorem dX2_readThing_179 : decode cX2_readThing 179 = .ok (.iconst 1, 1) := by decide +kernel
theorem dX2_readThing_180 : decode cX2_readThing 180 = .ok (.goto 4, 3) := by decide +kernel
theorem dX2_readThing_183 : decode cX2_readThing 183 = .ok (.iconst 0, 1) := by decide +kernel
theorem dX2_readThing_184 : decode cX2_readThing 184 = .ok (.ireturn, 1) := by decide +kernel
theorem dX2_readThing_185 : decode cX2_readThing 185 = .ok (.aload_n 0, 1) := by decide +kernel
theorem dX2_readThing_186 : decode cX2_readThing 186 = .ok (.iload_n 1, 1) := by decide +kernel
theorem dX2_readThing_187 : decode cX2_readThing 187 = .ok (.bipush 101, 2) := by decide +kernel
theorem dX2_readThing_189 : decode cX2_readThing 189 = .ok (.invokevirtual 51, 3) := by decide +kernel
theorem dX2_readThing_192 : decode cX2_readThing 192 = .ok (.ifCond .eq 18, 3) := by decide +kernel
theorem dX2_readThing_195 : decode cX2_readThing 195 = .ok (.aload_n 0, 1) := by decide +kernel
theorem dX2_readThing_196 : decode cX2_readThing 196 = .ok (.iload_n 1, 1) := by decide +kernel
theorem dX2_readThing_197 : decode cX2_readThing 197 = .ok (.iconst 0, 1) := by decide +kernel
theorem dX2_readThing_198 : decode cX2_readThing 198 = .ok (.bipush 39, 2) := by decide +kernel
theorem dX2_readThing_200 : decode cX2_readThing 200 = .ok (.invokevirtual 58, 3) := by decide +kernel
theorem dX2_readThing_203 : decode cX2_readThing 203 = .ok (.ifCond .eq 7, 3) := by decide +kernel
theorem dX2_readThing_206 : decode cX2_readThing 206 = .ok (.iconst 1, 1) := by decide +kernel
theorem dX2_readThing_207 : decode cX2_readThing 207 = .ok (.goto 4, 3) := by decide +kernel
theorem dX2_readThing_210 : decode cX2_readThing 210 = .ok (.iconst 0, 1) := by decide +kernel
theorem dX2_readThing_211 : decode cX2_readThing 211 = .ok (.ireturn, 1) := by decide +kernel
theorem dX2_readThing_212 : decode cX2_readThing 212 = .ok (.aload_n 0, 1) := by decide +kernel
theorem dX2_readThing_213 : decode cX2_readThing 213 = .ok (.iload_n 1, 1) := by decide +kernel
theorem dX2_readThing_214 : decode cX2_readThing 214 = .ok (.bipush 104, 2) := by decide +kernel
theorem dX2_readThing_216 : decode cX2_readThing 216 = .ok (.invokevirtual 51, 3) := by decide +kernel
theorem dX2_readThing_219 : decode cX2_readThing 219 = .ok (.ifCond .eq 18, 3) := by decide +kernel
theorem dX2_readThing_222 : decode cX2_readThing 222 = .ok (.aload_n 0, 1) := by decide +kernel
theorem dX2_readThing_223 : decode cX2_readThing 223 = .ok (.iload_n 1, 1) := by decide +kernel
theorem dX2_readThing_224 : decode cX2_readThing 224 = .ok (.iconst 0, 1) := by decide +kernel
theorem dX2_readThing_225 : decode cX2_readThing 225 = .ok (.bipush 39, 2) := by decide +kernel
theorem dX2_readThing_227 : decode cX2_readThing 227 = .ok (.invokevirtual 58, 3) := by decide +kernel
theorem dX2_readThing_230 : decode cX2_readThing 230 = .ok (.ifCond .eq 7, 3) := by decide +kernel
theorem dX2_readThing_233 : decode cX2_readThing 233 = .ok (.iconst 1, 1) := by decide +kernel
theorem dX2_readThing_234 : decode cX2_readThing 234 = .ok (.goto 4, 3) := by decide +kernel
theorem dX2_readThing_237 : decode cX2_readThing 237 = .ok (.iconst 0, 1) := by decide +kernel
theorem dX2_readThing_238 : decode cX2_readThing 238 = .ok (.ireturn, 1) := by decide +kernel
theorem dX2_readThing_239 : decode cX2_readThing 239 = .ok (.aload_n 0, 1) := by decide +kernel
theorem dX2_readThing_240 : decode cX2_readThing 240 = .ok (.iload_n 1, 1) := by decide +kernel
theorem dX2_readThing_241 : decode cX2_readThing 241 = .ok (.bipush 115, 2) := by decide +kernel
theorem dX2_readThing_243 : decode cX2_readThing 243 = .ok (.invokevirtual 51, 3) := by decide +kernel
theorem dX2_readThing_246 : decode cX2_readThing 246 = .ok (.ireturn, 1) := by decide +kernel
theorem dX2_readThing_247 : decode cX2_readThing 247 = .ok (.aload_n 0, 1) := by decide +kernel
theorem dX2_readThing_248 : decode cX2_readThing 248 = .ok (.iload_n 1, 1) := by decide +kernel
theorem dX2_readThing_249 : decode cX2_readThing 249 = .ok (.bipush 46, 2) := by decide +kernel
theorem dX2_readThing_251 : decode cX2_readThing 251 = .ok (.invokevirtual 51, 3) := by decide +kernel
theorem dX2_readThing_254 : decode cX2_readThing 254 = .ok (.ifCond .eq 18, 3) := by decide +kernel
theorem dX2_readThing_257 : decode cX2_readThing 257 = .ok (.aload_n 0, 1) := by decide +kernel
theorem dX2_readThing_258 : decode cX2_readThing 258 = .ok (.iload_n 1, 1) := by decide +kernel
theorem dX2_readThing_259 : decode cX2_readThing 259 = .ok (.iconst 1, 1) := by decide +kernel
theorem dX2_readThing_260 : decode cX2_readThing 260 = .ok (.bipush 99, 2) := by decide +kernel
theorem dX2_readThing_262 : decode cX2_readThing 262 = .ok (.invokevirtual 58, 3) := by decide +kernel
theorem dX2_readThing_265 : decode cX2_readThing 265 = .ok (.ifCond .eq 7, 3) := by decide +kernel
theorem dX2_readThing_268 : decode cX2_readThing 268 = .ok (.iconst 1, 1) := by decide +kernel
theorem dX2_readThing_269 : decode cX2_readThing 269 = .ok (.goto 4, 3) := by decide +kernel
theorem dX2_readThing_272 : decode cX2_readThing 272 = .ok (.iconst 0, 1) := by decide +kernel
theorem dX2_readThing_273 : decode cX2_readThing 273 = .ok (.ireturn, 1) := by decide +kernel
theorem dX2_readThing_274 : decode cX2_readThing 274 = .ok (.iconst 0, 1) := by decide +kernel
theorem dX2_readThing_275 : decode cX2_readThing 275 = .ok (.ireturn, 1) := by decide +kernel
def wp_X2_readThing (σ : Mem) (y1 : Int32) (P : Int32 → Mem → Prop) : Prop :=
  wp_X3_at σ (σ 89 5) (fun r1 =>
    vp_in y1 30 ∧ bm (up2 σ 91 y1.toNatClampNeg 0) (fun σ2 =>
    vp_in y1 30 ∧ bm (up2 σ2 92 y1.toNatClampNeg 0) (fun σ3 =>
    ((r1 = 46 →
    wp_X2_readKind σ3 y1 46 (fun r4 σ5 =>
      ((r4 = 0 →
      P 0 σ5) ∧
      (¬ r4 = 0 →
      wp_X2_readNumber σ5 y1 1 99 (fun r6 σ7 =>
        ((r6 = 0 →
        P 0 σ7) ∧
        (¬ r6 = 0 →
        P 1 σ7))))))) ∧
    (¬ r1 = 46 →
    ((r1 = 101 →
    wp_X2_readKind σ3 y1 101 (fun r8 σ9 =>
      ((r8 = 0 →
      P 0 σ9) ∧
      (¬ r8 = 0 →
      wp_X2_readNumber σ9 y1 0 39 (fun r10 σ11 =>
        ((r10 = 0 →
        P 0 σ11) ∧
        (¬ r10 = 0 →
        P 1 σ11))))))) ∧
    (¬ r1 = 101 →
    ((r1 = 102 →
    wp_X2_readKind σ3 y1 102 (fun r12 σ13 =>
      ((r12 = 0 →
      P 0 σ13) ∧
      (¬ r12 = 0 →
      wp_X2_readPage σ13 y1 (fun r14 σ15 =>
        ((r14 = 0 →
        P 0 σ15) ∧
        (¬ r14 = 0 →
        P 1 σ15))))))) ∧
    (¬ r1 = 102 →
    ((r1 = 104 →
    wp_X2_readKind σ3 y1 104 (fun r16 σ17 =>
      ((r16 = 0 →
      P 0 σ17) ∧
      (¬ r16 = 0 →
      wp_X2_readNumber σ17 y1 0 39 (fun r18 σ19 =>
        ((r18 = 0 →
        P 0 σ19) ∧
        (¬ r18 = 0 →
        P 1 σ19))))))) ∧
    (¬ r1 = 104 →
    ((r1 = 112 →
    wp_X2_readKind σ3 y1 112 (fun r20 σ21 =>
      ((r20 = 0 →
      P 0 σ21) ∧
      (¬ r20 = 0 →
      wp_X2_readPage σ21 y1 (fun r22 σ23 =>
        ((r22 = 0 →
        P 0 σ23) ∧
        (¬ r22 = 0 →
        P 1 σ23))))))) ∧
    (¬ r1 = 112 →
    ((r1 = 115 →
    wp_X2_readKind σ3 y1 115 (fun r24 σ25 =>
      isZ r24 ∧ P r24 σ25)) ∧
    (¬ r1 = 115 →
    ((r1 = 119 →
    wp_X2_readKind σ3 y1 119 (fun r26 σ27 =>
      ((r26 = 0 →
      P 0 σ27) ∧
      (¬ r26 = 0 →
      wp_X2_readPage σ27 y1 (fun r28 σ29 =>
        ((r28 = 0 →
        P 0 σ29) ∧
        (¬ r28 = 0 →
        wp_X2_readSign σ29 61 (fun r30 σ31 =>
          ((r30 = 0 →
          P 0 σ31) ∧
          (¬ r30 = 0 →
          wp_X2_readNumber σ31 y1 0 9999 (fun r32 σ33 =>
            ((r32 = 0 →
            P 0 σ33) ∧
            (¬ r32 = 0 →
            P 1 σ33))))))))))))) ∧
    (¬ r1 = 119 →
    P 0 σ3)))))))))))))))))
set_option maxRecDepth 100000 in
set_option maxHeartbeats 4000000 in
theorem c_X2_readThing (V : EV) (σ : Mem) (y1 : Int32) (P : Int32 → Mem → Prop) (l : Launch) : Met l yX2_readThing (.code yX2_readThing cX2_readThing 3 (some .boolean) :: AW) { frames := 3, cells := 0, slots := 0, locals := 70 } (va_Pc [.ref (ad V 89), .int y1] (fun U => wP V σ U ∧ wp_X2_readThing σ y1 P)) (va_Qi P (wB V) (AA V)) 0 0 (AA V) := by
  refine met_i V σ (own := RX2) (by decide +kernel) rfl (fun v hv => by simp at hv; rcases hv with rfl | rfl <;> rfl) (Nat.le_of_ble_eq_true rfl) (fun X C D h => ?_) l
  show GG V X σ 0 [some (.ref (ad V 89)), some (.int y1), none] []
  refine g_aload_n C dX2_readThing_0 rfl rfl rfl ?_
  refine f_X2_9 C dX2_readThing_1 rfl ?_
  refine g_aload_n C dX2_readThing_4 rfl rfl rfl ?_
  refine f_X2_30 C dX2_readThing_5 rfl ?_
  refine k_X2_47 C dX2_readThing_8 (Nat.le_of_ble_eq_true rfl) (by decide) rfl rfl h (fun r1 h => ?_)
  refine g_istore_n C dX2_readThing_11 rfl (Nat.le_of_ble_eq_true rfl) (L' := [some (.ref (ad V 89)), some (.int y1), some (.int r1)]) rfl rfl ?_
  refine g_aload_n C dX2_readThing_12 rfl rfl rfl ?_
  refine f_X2_19 C dX2_readThing_13 rfl ?_
  refine g_iload_n C dX2_readThing_16 rfl rfl rfl ?_
  refine g_iconst C dX2_readThing_17 ic_0 rfl ?_
  obtain ⟨hin, h⟩ := h
  refine g_ist C dX2_readThing_18 arr_91 hin rfl h (fun σ2 h => ?_)
  refine g_aload_n C dX2_readThing_19 rfl rfl rfl ?_
  refine f_X2_23 C dX2_readThing_20 rfl ?_
  refine g_iload_n C dX2_readThing_23 rfl rfl rfl ?_
  refine g_iconst C dX2_readThing_24 ic_0 rfl ?_
  obtain ⟨hin, h⟩ := h
  refine g_ist C dX2_readThing_25 arr_92 hin rfl h (fun σ3 h => ?_)
  refine g_iload_n C dX2_readThing_26 rfl rfl rfl ?_
  by_cases q46 : r1 = 46
  · have h := h.1 q46
    refine g_lookK C dX2_readThing_27 q46 (by decide) (off := 220) (by rfl) (pc' := 247) rfl ?_
    refine g_aload_n C dX2_readThing_247 rfl rfl rfl ?_
    refine g_iload_n C dX2_readThing_248 rfl rfl rfl ?_
    refine g_bipush C dX2_readThing_249 bp_46 rfl ?_
    refine k_X2_51 C dX2_readThing_251 (Nat.le_of_ble_eq_true rfl) (by decide) rfl rfl h (fun r4 σ5 h => ?_)
    refine g_if_eq C dX2_readThing_254 (tgt := 272) rfl rfl (fun q => ?_) (fun q => ?_)
    · have h := h.1 q
      refine g_iconst C dX2_readThing_272 ic_0 rfl ?_
      exact g_zret C dX2_readThing_273 D (by decide) h
    · have h := h.2 q
      refine g_aload_n C dX2_readThing_257 rfl rfl rfl ?_
      refine g_iload_n C dX2_readThing_258 rfl rfl rfl ?_
      refine g_iconst C dX2_readThing_259 ic_1 rfl ?_
      refine g_bipush C dX2_readThing_260 bp_99 rfl ?_
      refine k_X2_58 C dX2_readThing_262 (Nat.le_of_ble_eq_true rfl) (by decide) rfl rfl h (fun r6 σ7 h => ?_)
      refine g_if_eq C dX2_readThing_265 (tgt := 272) rfl rfl (fun q => ?_) (fun q => ?_)
      · have h := h.1 q
        refine g_iconst C dX2_readThing_272 ic_0 rfl ?_
        exact g_zret C dX2_readThing_273 D (by decide) h
      · have h := h.2 q
        refine g_iconst C dX2_readThing_268 ic_1 rfl ?_
        refine g_goto C dX2_readThing_269 (pc' := 273) rfl ?_
        exact g_zret C dX2_readThing_273 D (by decide) h
  have h := h.2 q46
  by_cases q101 : r1 = 101
  · have h := h.1 q101
    refine g_lookK C dX2_readThing_27 q101 (by decide) (off := 158) (by rfl) (pc' := 185) rfl ?_
    refine g_aload_n C dX2_readThing_185 rfl rfl rfl ?_
    refine g_iload_n C dX2_readThing_186 rfl rfl rfl ?_
    refine g_bipush C dX2_readThing_187 bp_101 rfl ?_
    refine k_X2_51 C dX2_readThing_189 (Nat.le_of_ble_eq_true rfl) (by decide) rfl rfl h (fun r8 σ9 h => ?_)
    refine g_if_eq C dX2_readThing_192 (tgt := 210) rfl rfl (fun q => ?_) (fun q => ?_)
    · have h := h.1 q
      refine g_iconst C dX2_readThing_210 ic_0 rfl ?_
      exact g_zret C dX2_readThing_211 D (by decide) h
    · have h := h.2 q
      refine g_aload_n C dX2_readThing_195 rfl rfl rfl ?_
      refine g_iload_n C dX2_readThing_196 rfl rfl rfl ?_
      refine g_iconst C dX2_readThing_197 ic_0 rfl ?_
      refine g_bipush C dX2_readThing_198 bp_39 rfl ?_
      refine k_X2_58 C dX2_readThing_200 (Nat.le_of_ble_eq_true rfl) (by decide) rfl rfl h (fun r10 σ11 h => ?_)
      refine g_if_eq C dX2_readThing_203 (tgt := 210) rfl rfl (fun q => ?_) (fun q => ?_)
      · have h := h.1 q
        refine g_iconst C dX2_readThing_210 ic_0 rfl ?_
        exact g_zret C dX2_readThing_211 D (by decide) h
      · have h := h.2 q
        refine g_iconst C dX2_readThing_206 ic_1 rfl ?_
        refine g_goto C dX2_readThing_207 (pc' := 211) rfl ?_
        exact g_zret C dX2_readThing_211 D (by decide) h
  have h := h.2 q101
  by_cases q102 : r1 = 102
  · have h := h.1 q102
    refine g_lookK C dX2_readThing_27 q102 (by decide) (off := 110) (by rfl) (pc' := 137) rfl ?_
    refine g_aload_n C dX2_readThing_137 rfl rfl rfl ?_
    refine g_iload_n C dX2_readThing_138 rfl rfl rfl ?_
    refine g_bipush C dX2_readThing_139 bp_102 rfl ?_
    refine k_X2_51 C dX2_readThing_141 (Nat.le_of_ble_eq_true rfl) (by decide) rfl rfl h (fun r12 σ13 h => ?_)
    refine g_if_eq C dX2_readThing_144 (tgt := 159) rfl rfl (fun q => ?_) (fun q => ?_)
    · have h := h.1 q
      refine g_iconst C dX2_readThing_159 ic_0 rfl ?_
      exact g_zret C dX2_readThing_160 D (by decide) h
    · have h := h.2 q
      refine g_aload_n C dX2_readThing_147 rfl rfl rfl ?_
      refine g_iload_n C dX2_readThing_148 rfl rfl rfl ?_
      refine k_X2_55 C dX2_readThing_149 (Nat.le_of_ble_eq_true rfl) (by decide) rfl rfl h (fun r14 σ15 h => ?_)
      refine g_if_eq C dX2_readThing_152 (tgt := 159) rfl rfl (fun q => ?_) (fun q => ?_)
      · have h := h.1 q
        refine g_iconst C dX2_readThing_159 ic_0 rfl ?_
        exact g_zret C dX2_readThing_160 D (by decide) h
      · have h := h.2 q
        refine g_iconst C dX2_readThing_155 ic_1 rfl ?_
        refine g_goto C dX2_readThing_156 (pc' := 160) rfl ?_
        exact g_zret C dX2_readThing_160 D (by decide) h
  have h := h.2 q102
  by_cases q104 : r1 = 104
  · have h := h.1 q104
    refine g_lookK C dX2_readThing_27 q104 (by decide) (off := 185) (by rfl) (pc' := 212) rfl ?_
    refine g_aload_n C dX2_readThing_212 rfl rfl rfl ?_
    refine g_iload_n C dX2_readThing_213 rfl rfl rfl ?_
    refine g_bipush C dX2_readThing_214 bp_104 rfl ?_
    refine k_X2_51 C dX2_readThing_216 (Nat.le_of_ble_eq_true rfl) (by decide) rfl rfl h (fun r16 σ17 h => ?_)
    refine g_if_eq C dX2_readThing_219 (tgt := 237) rfl rfl (fun q => ?_) (fun q => ?_)
    · have h := h.1 q
      refine g_iconst C dX2_readThing_237 ic_0 rfl ?_
      exact g_zret C dX2_readThing_238 D (by decide) h
    · have h := h.2 q
      refine g_aload_n C dX2_readThing_222 rfl rfl rfl ?_
      refine g_iload_n C dX2_readThing_223 rfl rfl rfl ?_
      refine g_iconst C dX2_readThing_224 ic_0 rfl ?_
      refine g_bipush C dX2_readThing_225 bp_39 rfl ?_
      refine k_X2_58 C dX2_readThing_227 (Nat.le_of_ble_eq_true rfl) (by decide) rfl rfl h (fun r18 σ19 h => ?_)
      refine g_if_eq C dX2_readThing_230 (tgt := 237) rfl rfl (fun q => ?_) (fun q => ?_)
      · have h := h.1 q
        refine g_iconst C dX2_readThing_237 ic_0 rfl ?_
        exact g_zret C dX2_readThing_238 D (by decide) h
      · have h := h.2 q
        refine g_iconst C dX2_readThing_233 ic_1 rfl ?_
        refine g_goto C dX2_readThing_234 (pc' := 238) rfl ?_
        exact g_zret C dX2_readThing_238 D (by decide) h
  have h := h.2 q104
  by_cases q112 : r1 = 112
  · have h := h.1 q112
    refine g_lookK C dX2_readThing_27 q112 (by decide) (off := 134) (by rfl) (pc' := 161) rfl ?_
    refine g_aload_n C dX2_readThing_161 rfl rfl rfl ?_
    refine g_iload_n C dX2_readThing_162 rfl rfl rfl ?_
    refine g_bipush C dX2_readThing_163 bp_112 rfl ?_
    refine k_X2_51 C dX2_readThing_165 (Nat.le_of_ble_eq_true rfl) (by decide) rfl rfl h (fun r20 σ21 h => ?_)
    refine g_if_eq C dX2_readThing_168 (tgt := 183) rfl rfl (fun q => ?_) (fun q => ?_)
    · have h := h.1 q
      refine g_iconst C dX2_readThing_183 ic_0 rfl ?_
      exact g_zret C dX2_readThing_184 D (by decide) h
    · have h := h.2 q
      refine g_aload_n C dX2_readThing_171 rfl rfl rfl ?_
      refine g_iload_n C dX2_readThing_172 rfl rfl rfl ?_
      refine k_X2_55 C dX2_readThing_173 (Nat.le_of_ble_eq_true rfl) (by decide) rfl rfl h (fun r22 σ23 h => ?_)
      refine g_if_eq C dX2_readThing_176 (tgt := 183) rfl rfl (fun q => ?_) (fun q => ?_)
      · have h := h.1 q
        refine g_iconst C dX2_readThing_183 ic_0 rfl ?_
        exact g_zret C dX2_readThing_184 D (by decide) h
      · have h := h.2 q
        refine g_iconst C dX2_readThing_179 ic_1 rfl ?_
        refine g_goto C dX2_readThing_180 (pc' := 184) rfl ?_
        exact g_zret C dX2_readThing_184 D (by decide) h
  have h := h.2 q112
  by_cases q115 : r1 = 115
  · have h := h.1 q115
    refine g_lookK C dX2_readThing_27 q115 (by decide) (off := 212) (by rfl) (pc' := 239) rfl ?_
    refine g_aload_n C dX2_readThing_239 rfl rfl rfl ?_
    refine g_iload_n C dX2_readThing_240 rfl rfl rfl ?_
    refine g_bipush C dX2_readThing_241 bp_115 rfl ?_
    refine k_X2_51 C dX2_readThing_243 (Nat.le_of_ble_eq_true rfl) (by decide) rfl rfl h (fun r24 σ25 h => ?_)
    obtain ⟨hz, h⟩ := h
    exact g_zret C dX2_readThing_246 D hz h
  have h := h.2 q115
  by_cases q119 : r1 = 119
  · have h := h.1 q119
    refine g_lookK C dX2_readThing_27 q119 (by decide) (off := 65) (by rfl) (pc' := 92) rfl ?_
    refine g_aload_n C dX2_readThing_92 rfl rfl rfl ?_
    refine g_iload_n C dX2_readThing_93 rfl rfl rfl ?_
    refine g_bipush C dX2_readThing_94 bp_119 rfl ?_
    refine k_X2_51 C dX2_readThing_96 (Nat.le_of_ble_eq_true rfl) (by decide) rfl rfl h (fun r26 σ27 h => ?_)
    refine g_if_eq C dX2_readThing_99 (tgt := 135) rfl rfl (fun q => ?_) (fun q => ?_)
    · have h := h.1 q
      refine g_iconst C dX2_readThing_135 ic_0 rfl ?_
      exact g_zret C dX2_readThing_136 D (by decide) h
    · have h := h.2 q
      refine g_aload_n C dX2_readThing_102 rfl rfl rfl ?_
      refine g_iload_n C dX2_readThing_103 rfl rfl rfl ?_
      refine k_X2_55 C dX2_readThing_104 (Nat.le_of_ble_eq_true rfl) (by decide) rfl rfl h (fun r28 σ29 h => ?_)
      refine g_if_eq C dX2_readThing_107 (tgt := 135) rfl rfl (fun q => ?_) (fun q => ?_)
      · have h := h.1 q
        refine g_iconst C dX2_readThing_135 ic_0 rfl ?_
        exact g_zret C dX2_readThing_136 D (by decide) h
      · have h := h.2 q
        refine g_aload_n C dX2_readThing_110 rfl rfl rfl ?_
        refine g_bipush C dX2_readThing_111 bp_61 rfl ?_
        refine k_X2_43 C dX2_readThing_113 (Nat.le_of_ble_eq_true rfl) (by decide) rfl rfl h (fun r30 σ31 h => ?_)
        refine g_if_eq C dX2_readThing_116 (tgt := 135) rfl rfl (fun q => ?_) (fun q => ?_)
        · have h := h.1 q
          refine g_iconst C dX2_readThing_135 ic_0 rfl ?_
          exact g_zret C dX2_readThing_136 D (by decide) h
        · have h := h.2 q
          refine g_aload_n C dX2_readThing_119 rfl rfl rfl ?_
          refine g_iload_n C dX2_readThing_120 rfl rfl rfl ?_
          refine g_iconst C dX2_readThing_121 ic_0 rfl ?_
          refine g_sipush C dX2_readThing_122 sp_9999 rfl ?_
          refine k_X2_58 C dX2_readThing_125 (Nat.le_of_ble_eq_true rfl) (by decide) rfl rfl h (fun r32 σ33 h => ?_)
          refine g_if_eq C dX2_readThing_128 (tgt := 135) rfl rfl (fun q => ?_) (fun q => ?_)
          · have h := h.1 q
            refine g_iconst C dX2_readThing_135 ic_0 rfl ?_
            exact g_zret C dX2_readThing_136 D (by decide) h
          · have h := h.2 q
            refine g_iconst C dX2_readThing_131 ic_1 rfl ?_
            refine g_goto C dX2_readThing_132 (pc' := 136) rfl ?_
            exact g_zret C dX2_readThing_136 D (by decide) h
  have h := h.2 q119
  refine g_look C dX2_readThing_27 (by decide) (off := 247) ((lv_osw q46 (by decide)).trans ((lv_osw q101 (by decide)).trans ((lv_osw q102 (by decide)).trans ((lv_osw q104 (by decide)).trans ((lv_osw q112 (by decide)).trans ((lv_osw q115 (by decide)).trans ((lv_osw q119 (by decide)).trans rfl))))))) (pc' := 274) rfl ?_
  refine g_iconst C dX2_readThing_274 ic_0 rfl ?_
  exact g_zret C dX2_readThing_275 D (by decide) h
theorem hd_X2_readThing : yX2_readThing.cls ≠ "java/lang/invoke/MethodHandle" ∧ yX2_readThing.cls ≠ "java/lang/invoke/VarHandle" ∧ (parseMethodDescriptor yX2_readThing.desc).map (fun d => d.parameters.length) = some 1 := by decide +kernel
theorem k_X2_33 {V : EV} {X : CX} {cc : ByteArray} {nL : Nat} {R : Room} {y1 : Int32} (C : OK V X RX2 cc nL R) {σ : Mem} {pc pc' : Nat} {L : List (Option Value)} {st : List Value} {P : Int32 → Mem → Prop} (d : decode cc pc = .ok (.invokevirtual 33, 3)) (hst : (st.map fun v => v.category).sum ≤ 8) (hr : 3 + 1 ≤ R.frames ∧ 8 + (3 + 11) + 70 ≤ R.locals) (hL : L.length = nL) (hp : pc + 3 = pc') (h : wp_X2_readThing σ y1 P) (k : ∀ r τ, P r τ → GG V X τ pc' L (.int r :: st)) : GG V X σ pc L (.int y1 :: .ref (ad V 89) :: st) :=
  g_callVi C (av := [.int y1]) (fun l => c_X2_readThing V σ y1 P l) (by decide) (en_89 V σ) (q := (RX2, TX2, 6)) rfl rfl ml_RX2_33 im_X2_readThing se_X2_readThing ini_RX2 co_X2_readThing hd_X2_readThing rfl ⟨rfl, rfl⟩ hr hst d hL hp h k
