theorem dX5_waiting_0 : decode cX5_waiting 0 = .ok (.iconst 0, 1) := by decide +kernel
theorem dX5_waiting_1 : decode cX5_waiting 1 = .ok (.istore_n 1, 1) := by decide +kernel
theorem dX5_waiting_2 : decode cX5_waiting 2 = .ok (.iconst 0, 1) := by decide +kernel
theorem dX5_waiting_3 : decode cX5_waiting 3 = .ok (.istore_n 2, 1) := by decide +kernel
theorem dX5_waiting_4 : decode cX5_waiting 4 = .ok (.iload_n 2, 1) := by decide +kernel
theorem dX5_waiting_5 : decode cX5_waiting 5 = .ok (.bipush 40, 2) := by decide +kernel
theorem dX5_waiting_7 : decode cX5_waiting 7 = .ok (.if_icmp .ge 25, 3) := by decide +kernel
theorem dX5_waiting_10 : decode cX5_waiting 10 = .ok (.iload_n 1, 1) := by decide +kernel
theorem dX5_waiting_11 : decode cX5_waiting 11 = .ok (.aload_n 0, 1) := by decide +kernel
theorem dX5_waiting_12 : decode cX5_waiting 12 = .ok (.iload_n 2, 1) := by decide +kernel
theorem dX5_waiting_13 : decode cX5_waiting 13 = .ok (.invokevirtual 70, 3) := by decide +kernel
theorem dX5_waiting_16 : decode cX5_waiting 16 = .ok (.ifCond .eq 7, 3) := by decide +kernel
theorem dX5_waiting_19 : decode cX5_waiting 19 = .ok (.iconst 1, 1) := by decide +kernel
theorem dX5_waiting_20 : decode cX5_waiting 20 = .ok (.goto 4, 3) := by decide +kernel
theorem dX5_waiting_23 : decode cX5_waiting 23 = .ok (.iconst 0, 1) := by decide +kernel
theorem dX5_waiting_24 : decode cX5_waiting 24 = .ok (.iadd, 1) := by decide +kernel
theorem dX5_waiting_25 : decode cX5_waiting 25 = .ok (.istore_n 1, 1) := by decide +kernel
theorem dX5_waiting_26 : decode cX5_waiting 26 = .ok (.iinc 2 1, 3) := by decide +kernel
theorem dX5_waiting_29 : decode cX5_waiting 29 = .ok (.goto (-25), 3) := by decide +kernel
theorem dX5_waiting_32 : decode cX5_waiting 32 = .ok (.iload_n 1, 1) := by decide +kernel
theorem dX5_waiting_33 : decode cX5_waiting 33 = .ok (.ireturn, 1) := by decide +kernel
def wp_X5_waiting (σ : Mem) (P : Int32 → Prop) : Prop :=
  lq2 (fun rec3 (x1 : Int32) (x2 : Int32) =>
    ((40 ≤ x2 →
      P x1) ∧
      (¬ 40 ≤ x2 →
      wp_X5_isBad σ x2 (fun r4 =>
        jn (A := Int32 → Prop) (fun (v5 : Int32) =>
        rec3 (x1 + v5) (x2 + 1))
        (fun J6 =>
        ((r4 = 0 →
        J6 0) ∧
        (¬ r4 = 0 →
        J6 1))))))) 0 0
set_option maxRecDepth 100000 in
set_option maxHeartbeats 4000000 in
theorem c_X5_waiting (V : EV) (σ : Mem) (P : Int32 → Prop) (l : Launch) : Met l yX5_waiting (.code yX5_waiting cX5_waiting 3 (some .int) :: AW) { frames := 1, cells := 0, slots := 0, locals := 21 } (va_Pc [.ref (ad V 93)] (fun U => wP V σ U ∧ wp_X5_waiting σ P)) (va_Qi (fun r τ => τ = σ ∧ P r) (wB V) (AA V)) 0 0 (AA V) := by
  refine met_i V σ (own := RX5) (by decide +kernel) rfl (fun v hv => by simp at hv; subst hv; rfl) (Nat.le_of_ble_eq_true rfl) (fun X C D h => ?_) l
  show GG V X σ 0 [some (.ref (ad V 93)), none, none] []
  refine g_iconst C dX5_waiting_0 ic_0 rfl ?_
  refine g_istore_n C dX5_waiting_1 rfl (Nat.le_of_ble_eq_true rfl) (L' := [some (.ref (ad V 93)), some (.int 0), none]) rfl rfl ?_
  refine g_iconst C dX5_waiting_2 ic_0 rfl ?_
  refine g_istore_n C dX5_waiting_3 rfl (Nat.le_of_ble_eq_true rfl) (L' := [some (.ref (ad V 93)), some (.int 0), some (.int 0)]) rfl rfl ?_
  refine h (fun (x1 : Int32) (x2 : Int32) => GG V X σ 4 [some (.ref (ad V 93)), some (.int x1), some (.int x2)] []) (fun x1 x2 h => ?_)
  refine g_iload_n C dX5_waiting_4 rfl rfl rfl ?_
  refine g_bipush C dX5_waiting_5 bp_40 rfl ?_
  refine g_icmp_ge C dX5_waiting_7 (tgt := 32) rfl rfl (fun q => ?_) (fun q => ?_)
  · have h := h.1 q
    refine g_iload_n C dX5_waiting_32 rfl rfl rfl ?_
    exact g_iret C dX5_waiting_33 D ⟨rfl, h⟩
  · have h := h.2 q
    refine g_iload_n C dX5_waiting_10 rfl rfl rfl ?_
    refine g_aload_n C dX5_waiting_11 rfl rfl rfl ?_
    refine g_iload_n C dX5_waiting_12 rfl rfl rfl ?_
    refine k_X5_70 C dX5_waiting_13 (Nat.le_of_ble_eq_true rfl) (by decide) rfl rfl h (fun r4 h => ?_)
    refine jn_go h (fun (J6 : Int32 → Prop) => ∀ (v5 : Int32), J6 v5 → GG V X σ 24 [some (.ref (ad V 93)), none, some (.int x2)] [.int v5, .int x1]) (fun v5 h => ?_) (fun J6 hJ6 h => ?_)
    · refine g_iadd C dX5_waiting_24 rfl ?_
      refine g_istore_n C dX5_waiting_25 rfl (Nat.le_of_ble_eq_true rfl) (L' := [some (.ref (ad V 93)), some (.int (x1 + v5)), some (.int x2)]) rfl rfl ?_
      refine g_iinc C dX5_waiting_26 (v := x2 + 1) (by rw [ic_1]) rfl (Nat.le_of_ble_eq_true rfl) (L' := [some (.ref (ad V 93)), some (.int (x1 + v5)), some (.int (x2 + 1))]) rfl rfl ?_
      refine g_goto C dX5_waiting_29 (pc' := 4) rfl ?_
      exact h
    refine g_if_eq C dX5_waiting_16 (tgt := 23) rfl rfl (fun q => ?_) (fun q => ?_)
    · have h := h.1 q
      refine g_iconst C dX5_waiting_23 ic_0 rfl ?_
      refine g_drop 1 (L' := [some (.ref (ad V 93)), none, some (.int x2)]) rfl ?_
      exact hJ6 0 h
    · have h := h.2 q
      refine g_iconst C dX5_waiting_19 ic_1 rfl ?_
      refine g_goto C dX5_waiting_20 (pc' := 24) rfl ?_
      refine g_drop 1 (L' := [some (.ref (ad V 93)), none, some (.int x2)]) rfl ?_
      exact hJ6 1 h
theorem hd_X5_waiting : yX5_waiting.cls ≠ "java/lang/invoke/MethodHandle" ∧ yX5_waiting.cls ≠ "java/lang/invoke/VarHandle" ∧ (parseMethodDescriptor yX5_waiting.desc).map (fun d => d.parameters.length) = some 0 := by decide +kernel
theorem k_X5_122 {V : EV} {X : CX} {cc : ByteArray} {nL : Nat} {R : Room} (C : OK V X RX5 cc nL R) {σ : Mem} {pc pc' : Nat} {L : List (Option Value)} {st : List Value} {P : Int32 → Prop} (d : decode cc pc = .ok (.invokevirtual 122, 3)) (hst : (st.map fun v => v.category).sum ≤ 8) (hr : 1 + 1 ≤ R.frames ∧ 8 + (3 + 11) + 21 ≤ R.locals) (hL : L.length = nL) (hp : pc + 3 = pc') (h : wp_X5_waiting σ P) (k : ∀ r, P r → GG V X σ pc' L (.int r :: st)) : GG V X σ pc L (.ref (ad V 93) :: st) :=
  g_callVi C (av := []) (fun l => c_X5_waiting V σ P l) (by decide) (en_93 V σ) (q := (RX5, TX5, 13)) rfl rfl ml_RX5_122 im_X5_waiting se_X5_waiting ini_RX5 co_X5_waiting hd_X5_waiting rfl ⟨rfl, rfl⟩ hr hst d hL hp h (fun r τ hq => by obtain ⟨rfl, hq⟩ := hq; exact k r hq)

theorem dX5_whyNotPass_0 : decode cX5_whyNotPass 0 = .ok (.iload_n 1, 1) := by decide +kernel
theorem dX5_whyNotPass_1 : decode cX5_whyNotPass 1 = .ok (.iconst 1, 1) := by decide +kernel
theorem dX5_whyNotPass_2 : decode cX5_whyNotPass 2 = .ok (.bipush 99, 2) := by decide +kernel
theorem dX5_whyNotPass_4 : decode cX5_whyNotPass 4 = .ok (.invokestatic 36, 3) := by decide +kernel
theorem dX5_whyNotPass_7 : decode cX5_whyNotPass 7 = .ok (.ifCond .ne 8, 3) := by decide +kernel
theorem dX5_whyNotPass_10 : decode cX5_whyNotPass 10 = .ok (.bipush (-2), 2) := by decide +kernel
theorem dX5_whyNotPass_12 : decode cX5_whyNotPass 12 = .ok (.goto 23, 3) := by decide +kernel
theorem dX5_whyNotPass_15 : decode cX5_whyNotPass 15 = .ok (.aload_n 0, 1) := by decide +kernel
theorem dX5_whyNotPass_16 : decode cX5_whyNotPass 16 = .ok (.getfield 7, 3) := by decide +kernel
theorem dX5_whyNotPass_19 : decode cX5_whyNotPass 19 = .ok (.iconst 3, 1) := by decide +kernel
theorem dX5_whyNotPass_20 : decode cX5_whyNotPass 20 = .ok (.iaload, 1) := by decide +kernel
theorem dX5_whyNotPass_21 : decode cX5_whyNotPass 21 = .ok (.iload_n 1, 1) := by decide +kernel
theorem dX5_whyNotPass_22 : decode cX5_whyNotPass 22 = .ok (.iadd, 1) := by decide +kernel
theorem dX5_whyNotPass_23 : decode cX5_whyNotPass 23 = .ok (.sipush 9999, 3) := by decide +kernel
theorem dX5_whyNotPass_26 : decode cX5_whyNotPass 26 = .ok (.if_icmp .le 8, 3) := by decide +kernel
theorem dX5_whyNotPass_29 : decode cX5_whyNotPass 29 = .ok (.bipush (-3), 2) := by decide +kernel
theorem dX5_whyNotPass_31 : decode cX5_whyNotPass 31 = .ok (.goto 4, 3) := by decide +kernel
theorem dX5_whyNotPass_34 : decode cX5_whyNotPass 34 = .ok (.iconst 0, 1) := by decide +kernel
theorem dX5_whyNotPass_35 : decode cX5_whyNotPass 35 = .ok (.ireturn, 1) := by decide +kernel
def wp_X5_whyNotPass (σ : Mem) (y1 : Int32) (P : Int32 → Prop) : Prop :=
  wp_X5_in σ y1 1 99 (fun r1 =>
    ((r1 = 0 →
    P (-2)) ∧
    (¬ r1 = 0 →
    ((((σ 94 3) + y1) ≤ 9999 →
      P 0) ∧
      (¬ ((σ 94 3) + y1) ≤ 9999 →
      P (-3))))))
set_option maxRecDepth 100000 in
set_option maxHeartbeats 4000000 in
theorem c_X5_whyNotPass (V : EV) (σ : Mem) (y1 : Int32) (P : Int32 → Prop) (l : Launch) : Met l yX5_whyNotPass (.code yX5_whyNotPass cX5_whyNotPass 2 (some .int) :: AW) { frames := 1, cells := 0, slots := 0, locals := 22 } (va_Pc [.ref (ad V 93), .int y1] (fun U => wP V σ U ∧ wp_X5_whyNotPass σ y1 P)) (va_Qi (fun r τ => τ = σ ∧ P r) (wB V) (AA V)) 0 0 (AA V) := by
  refine met_i V σ (own := RX5) (by decide +kernel) rfl (fun v hv => by simp at hv; rcases hv with rfl | rfl <;> rfl) (Nat.le_of_ble_eq_true rfl) (fun X C D h => ?_) l
  show GG V X σ 0 [some (.ref (ad V 93)), some (.int y1)] []
  refine g_iload_n C dX5_whyNotPass_0 rfl rfl rfl ?_
  refine g_iconst C dX5_whyNotPass_1 ic_1 rfl ?_
  refine g_bipush C dX5_whyNotPass_2 bp_99 rfl ?_
  refine k_X5_36 C dX5_whyNotPass_4 (Nat.le_of_ble_eq_true rfl) (by decide) rfl rfl h (fun r1 h => ?_)
  refine g_if_ne C dX5_whyNotPass_7 (tgt := 15) rfl rfl (fun q => ?_) (fun q => ?_)
  · have h := h.2 q
    refine g_aload_n C dX5_whyNotPass_15 rfl rfl rfl ?_
    refine f_X5_7 C dX5_whyNotPass_16 rfl ?_
    refine g_iconst C dX5_whyNotPass_19 ic_3 rfl ?_
    refine g_ildk C dX5_whyNotPass_20 arr_94 vi_3_313 tl_3 rfl ?_
    refine g_iload_n C dX5_whyNotPass_21 rfl rfl rfl ?_
    refine g_iadd C dX5_whyNotPass_22 rfl ?_
    refine g_sipush C dX5_whyNotPass_23 sp_9999 rfl ?_
    refine g_icmp_le C dX5_whyNotPass_26 (tgt := 34) rfl rfl (fun q => ?_) (fun q => ?_)
    · have h := h.1 q
      refine g_iconst C dX5_whyNotPass_34 ic_0 rfl ?_
      exact g_iret C dX5_whyNotPass_35 D ⟨rfl, h⟩
    · have h := h.2 q
      refine g_bipush C dX5_whyNotPass_29 bp_m3 rfl ?_
      refine g_goto C dX5_whyNotPass_31 (pc' := 35) rfl ?_
      exact g_iret C dX5_whyNotPass_35 D ⟨rfl, h⟩
  · have h := h.1 q
    refine g_bipush C dX5_whyNotPass_10 bp_m2 rfl ?_
    refine g_goto C dX5_whyNotPass_12 (pc' := 35) rfl ?_
    exact g_iret C dX5_whyNotPass_35 D ⟨rfl, h⟩
theorem hd_X5_whyNotPass : yX5_whyNotPass.cls ≠ "java/lang/invoke/MethodHandle" ∧ yX5_whyNotPass.cls ≠ "java/lang/invoke/VarHandle" ∧ (parseMethodDescriptor yX5_whyNotPass.desc).map (fun d => d.parameters.length) = some 1 := by decide +kernel
theorem k_X5_126 {V : EV} {X : CX} {cc : ByteArray} {nL : Nat} {R : Room} {y1 : Int32} (C : OK V X RX5 cc nL R) {σ : Mem} {pc pc' : Nat} {L : List (Option Value)} {st : List Value} {P : Int32 → Prop} (d : decode cc pc = .ok (.invokevirtual 126, 3)) (hst : (st.map fun v => v.category).sum ≤ 8) (hr : 1 + 1 ≤ R.frames ∧ 8 + (2 + 11) + 22 ≤ R.locals) (hL : L.length = nL) (hp : pc + 3 = pc') (h : wp_X5_whyNotPass σ y1 P) (k : ∀ r, P r → GG V X σ pc' L (.int r :: st)) : GG V X σ pc L (.int y1 :: .ref (ad V 93) :: st) :=
  g_callVi C (av := [.int y1]) (fun l => c_X5_whyNotPass V σ y1 P l) (by decide) (en_93 V σ) (q := (RX5, TX5, 13)) rfl rfl ml_RX5_126 im_X5_whyNotPass se_X5_whyNotPass ini_RX5 co_X5_whyNotPass hd_X5_whyNotPass rfl ⟨rfl, rfl⟩ hr hst d hL hp h (fun r τ hq => by obtain ⟨rfl, hq⟩ := hq; exact k r hq)

theorem dX5_passNow_0 : decode cX5_passNow 0 = .ok (.iconst 0, 1) := by decide +kernel
theorem dX5_passNow_1 : decode cX5_passNow 1 = .ok (.istore_n 2, 1) := by decide +kernel
theorem dX5_passNow_2 : decode cX5_passNow 2 = .ok (.iload_n 2, 1) := by decide +kernel
theorem dX5_passNow_3 : decode cX5_passNow 3 = .ok (.iload_n 1, 1) := by decide +kernel
theorem dX5_passNow_4 : decode cX5_passNow 4 = .ok (.if_icmp .ge 91, 3) := by decide +kernel
theorem dX5_passNow_7 : decode cX5_passNow 7 = .ok (.aload_n 0, 1) := by decide +kernel
theorem dX5_passNow_8 : decode cX5_passNow 8 = .ok (.getfield 7, 3) := by decide +kernel
theorem dX5_passNow_11 : decode cX5_passNow 11 = .ok (.iconst 3, 1) := by decide +kernel
theorem dX5_passNow_12 : decode cX5_passNow 12 = .ok (.dup2, 1) := by decide +kernel
theorem dX5_passNow_13 : decode cX5_passNow 13 = .ok (.iaload, 1) := by decide +kernel
theorem dX5_passNow_14 : decode cX5_passNow 14 = .ok (.iconst 1, 1) := by decide +kernel
theorem dX5_passNow_15 : decode cX5_passNow 15 = .ok (.iadd, 1) := by decide +kernel
theorem dX5_passNow_16 : decode cX5_passNow 16 = .ok (.iastore, 1) := by decide +kernel
theorem dX5_passNow_17 : decode cX5_passNow 17 = .ok (.iconst 0, 1) := by decide +kernel
theorem dX5_passNow_18 : decode cX5_passNow 18 = .ok (.istore_n 3, 1) := by decide +kernel
theorem dX5_passNow_19 : decode cX5_passNow 19 = .ok (.iload_n 3, 1) := by decide +kernel
theorem dX5_passNow_20 : decode cX5_passNow 20 = .ok (.bipush 40, 2) := by decide +kernel
theorem dX5_passNow_22 : decode cX5_passNow 22 = .ok (.if_icmp .ge 67, 3) := by decide +kernel
theorem dX5_passNow_25 : decode cX5_passNow 25 = .ok (.aload_n 0, 1) := by decide +kernel
theorem dX5_passNow_26 : decode cX5_passNow 26 = .ok (.getfield 7, 3) := by decide +kernel
theorem dX5_passNow_29 : decode cX5_passNow 29 = .ok (.iconst 3, 1) := by decide +kernel
theorem dX5_passNow_30 : decode cX5_passNow 30 = .ok (.iaload, 1) := by decide +kernel
theorem dX5_passNow_31 : decode cX5_passNow 31 = .ok (.aload_n 0, 1) := by decide +kernel
theorem dX5_passNow_32 : decode cX5_passNow 32 = .ok (.getfield 7, 3) := by decide +kernel
theorem dX5_passNow_35 : decode cX5_passNow 35 = .ok (.iconst 1, 1) := by decide +kernel
theorem dX5_passNow_36 : decode cX5_passNow 36 = .ok (.iaload, 1) := by decide +kernel
theorem dX5_passNow_37 : decode cX5_passNow 37 = .ok (.irem, 1) := by decide +kernel
theorem dX5_passNow_38 : decode cX5_passNow 38 = .ok (.ifCond .ne 51, 3) := by decide +kernel
theorem dX5_passNow_41 : decode cX5_passNow 41 = .ok (.aload_n 0, 1) := by decide +kernel
theorem dX5_passNow_42 : decode cX5_passNow 42 = .ok (.getfield 7, 3) := by decide +kernel
theorem dX5_passNow_45 : decode cX5_passNow 45 = .ok (.bipush 63, 2) := by decide +kernel
theorem dX5_passNow_47 : decode cX5_passNow 47 = .ok (.iload_n 3, 1) := by decide +kernel
theorem dX5_passNow_48 : decode cX5_passNow 48 = .ok (.iadd, 1) := by decide +kernel
theorem dX5_passNow_49 : decode cX5_passNow 49 = .ok (.dup2, 1) := by decide +kernel
theorem dX5_passNow_50 : decode cX5_passNow 50 = .ok (.iaload, 1) := by decide +kernel
theorem dX5_passNow_51 : decode cX5_passNow 51 = .ok (.aload_n 0, 1) := by decide +kernel
theorem dX5_passNow_52 : decode cX5_passNow 52 = .ok (.getfield 7, 3) := by decide +kernel
theorem dX5_passNow_55 : decode cX5_passNow 55 = .ok (.bipush 63, 2) := by decide +kernel
theorem dX5_passNow_57 : decode cX5_passNow 57 = .ok (.iload_n 3, 1) := by decide +kernel
theorem dX5_passNow_58 : decode cX5_passNow 58 = .ok (.iadd, 1) := by decide +kernel
theorem dX5_passNow_59 : decode cX5_passNow 59 = .ok (.iaload, 1) := by decide +kernel
theorem dX5_passNow_60 : decode cX5_passNow 60 = .ok (.ifCond .le 20, 3) := by decide +kernel
theorem dX5_passNow_63 : decode cX5_passNow 63 = .ok (.aload_n 0, 1) := by decide +kernel
theorem dX5_passNow_64 : decode cX5_passNow 64 = .ok (.getfield 7, 3) := by decide +kernel
theorem dX5_passNow_67 : decode cX5_passNow 67 = .ok (.bipush 23, 2) := by decide +kernel
theorem dX5_passNow_69 : decode cX5_passNow 69 = .ok (.iload_n 3, 1) := by decide +kernel
theorem dX5_passNow_70 : decode cX5_passNow 70 = .ok (.iadd, 1) := by decide +kernel
theorem dX5_passNow_71 : decode cX5_passNow 71 = .ok (.iaload, 1) := by decide +kernel
theorem dX5_passNow_72 : decode cX5_passNow 72 = .ok (.iconst 2, 1) := by decide +kernel
theorem dX5_passNow_73 : decode cX5_passNow 73 = .ok (.if_icmp .eq 7, 3) := by decide +kernel
theorem dX5_passNow_76 : decode cX5_passNow 76 = .ok (.iconst 1, 1) := by decide +kernel
theorem dX5_passNow_77 : decode cX5_passNow 77 = .ok (.goto 4, 3) := by decide +kernel
theorem dX5_passNow_80 : decode cX5_passNow 80 = .ok (.iconst 0, 1) := by decide +kernel
theorem dX5_passNow_81 : decode cX5_passNow 81 = .ok (.isub, 1) := by decide +kernel
theorem dX5_passNow_82 : decode cX5_passNow 82 = .ok (.iastore, 1) := by decide +kernel
theorem dX5_passNow_83 : decode cX5_passNow 83 = .ok (.iinc 3 1, 3) := by decide +kernel
theorem dX5_passNow_86 : decode cX5_passNow 86 = .ok (.goto (-67), 3) := by decide +kernel
theorem dX5_passNow_89 : decode cX5_passNow 89 = .ok (.iinc 2 1, 3) := by decide +kernel
theorem dX5_passNow_92 : decode cX5_passNow 92 = .ok (.goto (-90), 3) := by decide +kernel
theorem dX5_passNow_95 : decode cX5_passNow 95 = .ok (.aload_n 0, 1) := by decide +kernel
theorem dX5_passNow_96 : decode cX5_passNow 96 = .ok (.invokevirtual 67, 3) := by decide +kernel
theorem dX5_passNow_99 : decode cX5_passNow 99 = .ok (.aload_n 0, 1) := by decide +kernel
theorem dX5_passNow_100 : decode cX5_passNow 100 = .ok (.invokevirtual 122, 3) := by decide +kernel
theorem dX5_passNow_103 : decode cX5_passNow 103 = .ok (.ireturn, 1) := by decide +kernel
def wp_X5_passNow (σ : Mem) (y1 : Int32) (P : Int32 → Mem → Prop) : Prop :=
  lq2 (fun rec3 (σ1 : Mem) (x2 : Int32) =>
    ((y1 ≤ x2 →
      wp_X5_look σ1  (fun σ4 =>
        wp_X5_waiting σ4  (fun r5 =>
        P r5 σ4))) ∧
      (¬ y1 ≤ x2 →
      bm (up2 σ1 94 3 ((σ1 94 3) + 1)) (fun σ6 =>
        lq2 (fun rec9 (σ7 : Mem) (x8 : Int32) =>
        ((40 ≤ x8 →
          rec3 σ7 (x2 + 1)) ∧
          (¬ 40 ≤ x8 →
          (¬ (σ7 94 1) = 0) ∧ ((((σ7 94 3) - (σ7 94 3) / (σ7 94 1) * (σ7 94 1)) = 0 →
            vp_in (63 + x8) 313 ∧ vp_in (63 + x8) 313 ∧ jn (A := Int32 → Prop) (fun (v10 : Int32) =>
              vp_in (63 + x8) 313 ∧ bm (up2 σ7 94 (63 + x8).toNatClampNeg ((σ7 94 (63 + x8).toNatClampNeg) - v10)) (fun σ12 =>
                rec9 σ12 (x8 + 1)))
              (fun J11 =>
              (((σ7 94 (63 + x8).toNatClampNeg) ≤ 0 →
              J11 0) ∧
              (¬ (σ7 94 (63 + x8).toNatClampNeg) ≤ 0 →
              vp_in (23 + x8) 313 ∧ (((σ7 94 (23 + x8).toNatClampNeg) = 2 →
                J11 0) ∧
                (¬ (σ7 94 (23 + x8).toNatClampNeg) = 2 →
                J11 1)))))) ∧
            (¬ ((σ7 94 3) - (σ7 94 3) / (σ7 94 1) * (σ7 94 1)) = 0 →
            rec3 σ7 (x2 + 1)))))) σ6 0)))) σ 0
set_option maxRecDepth 100000 in
set_option maxHeartbeats 4000000 in
theorem c_X5_passNow (V : EV) (σ : Mem) (y1 : Int32) (P : Int32 → Mem → Prop) (l : Launch) : Met l yX5_passNow (.code yX5_passNow cX5_passNow 4 (some .int) :: AW) { frames := 3, cells := 0, slots := 0, locals := 71 } (va_Pc [.ref (ad V 93), .int y1] (fun U => wP V σ U ∧ wp_X5_passNow σ y1 P)) (va_Qi P (wB V) (AA V)) 0 0 (AA V) := by
  refine met_i V σ (own := RX5) (by decide +kernel) rfl (fun v hv => by simp at hv; rcases hv with rfl | rfl <;> rfl) (Nat.le_of_ble_eq_true rfl) (fun X C D h => ?_) l
  show GG V X σ 0 [some (.ref (ad V 93)), some (.int y1), none, none] []
  refine g_iconst C dX5_passNow_0 ic_0 rfl ?_
  refine g_istore_n C dX5_passNow_1 rfl (Nat.le_of_ble_eq_true rfl) (L' := [some (.ref (ad V 93)), some (.int y1), some (.int 0), none]) rfl rfl ?_
  refine h (fun (σ1 : Mem) (x2 : Int32) => GG V X σ1 2 [some (.ref (ad V 93)), some (.int y1), some (.int x2), none] []) (fun σ1 x2 h => ?_)
  refine g_iload_n C dX5_passNow_2 rfl rfl rfl ?_
  refine g_iload_n C dX5_passNow_3 rfl rfl rfl ?_
  refine g_icmp_ge C dX5_passNow_4 (tgt := 95) rfl rfl (fun q => ?_) (fun q => ?_)
  · have h := h.1 q
    refine g_aload_n C dX5_passNow_95 rfl rfl rfl ?_
    refine k_X5_67 C dX5_passNow_96 (Nat.le_of_ble_eq_true rfl) (by decide) rfl rfl h (fun σ4 h => ?_)
    refine g_aload_n C dX5_passNow_99 rfl rfl rfl ?_
    refine k_X5_122 C dX5_passNow_100 (Nat.le_of_ble_eq_true rfl) (by decide) rfl rfl h (fun r5 h => ?_)
    exact g_iret C dX5_passNow_103 D h
  · have h := h.2 q
    refine g_aload_n C dX5_passNow_7 rfl rfl rfl ?_
    refine f_X5_7 C dX5_passNow_8 rfl ?_
    refine g_iconst C dX5_passNow_11 ic_3 rfl ?_
    refine g_dup2 C dX5_passNow_12 rfl rfl rfl ?_
    refine g_ildk C dX5_passNow_13 arr_94 vi_3_313 tl_3 rfl ?_
    refine g_iconst C dX5_passNow_14 ic_1 rfl ?_
    refine g_iadd C dX5_passNow_15 rfl ?_
    refine g_istk C dX5_passNow_16 arr_94 vi_3_313 tl_3 rfl h (fun σ6 h => ?_)
    refine g_iconst C dX5_passNow_17 ic_0 rfl ?_
    refine g_istore_n C dX5_passNow_18 rfl (Nat.le_of_ble_eq_true rfl) (L' := [some (.ref (ad V 93)), some (.int y1), some (.int x2), some (.int 0)]) rfl rfl ?_
    refine h (fun (σ7 : Mem) (x8 : Int32) => GG V X σ7 19 [some (.ref (ad V 93)), some (.int y1), some (.int x2), some (.int x8)] []) (fun σ7 x8 h => ?_)
    refine g_iload_n C dX5_passNow_19 rfl rfl rfl ?_
    refine g_bipush C dX5_passNow_20 bp_40 rfl ?_
    refine g_icmp_ge C dX5_passNow_22 (tgt := 89) rfl rfl (fun q => ?_) (fun q => ?_)
    · have h := h.1 q
      refine g_iinc C dX5_passNow_89 (v := x2 + 1) (by rw [ic_1]) rfl (Nat.le_of_ble_eq_true rfl) (L' := [some (.ref (ad V 93)), some (.int y1), some (.int (x2 + 1)), some (.int x8)]) rfl rfl ?_
      refine g_goto C dX5_passNow_92 (pc' := 2) rfl ?_
      refine g_drop 3 (L' := [some (.ref (ad V 93)), some (.int y1), some (.int (x2 + 1)), none]) rfl ?_
      exact h
    · have h := h.2 q
      refine g_aload_n C dX5_passNow_25 rfl rfl rfl ?_
      refine f_X5_7 C dX5_passNow_26 rfl ?_
      refine g_iconst C dX5_passNow_29 ic_3 rfl ?_
      refine g_ildk C dX5_passNow_30 arr_94 vi_3_313 tl_3 rfl ?_
      refine g_aload_n C dX5_passNow_31 rfl rfl rfl ?_
      refine f_X5_7 C dX5_passNow_32 rfl ?_
      refine g_iconst C dX5_passNow_35 ic_1 rfl ?_
      refine g_ildk C dX5_passNow_36 arr_94 vi_1_313 tl_1 rfl ?_
      obtain ⟨hne, h⟩ := h
      refine g_irem C dX5_passNow_37 hne rfl ?_
      refine g_if_ne C dX5_passNow_38 (tgt := 89) rfl rfl (fun q => ?_) (fun q => ?_)
      · have h := h.2 q
        refine g_iinc C dX5_passNow_89 (v := x2 + 1) (by rw [ic_1]) rfl (Nat.le_of_ble_eq_true rfl) (L' := [some (.ref (ad V 93)), some (.int y1), some (.int (x2 + 1)), some (.int x8)]) rfl rfl ?_
        refine g_goto C dX5_passNow_92 (pc' := 2) rfl ?_
        refine g_drop 3 (L' := [some (.ref (ad V 93)), some (.int y1), some (.int (x2 + 1)), none]) rfl ?_
        exact h
      · have h := h.1 q
        refine g_aload_n C dX5_passNow_41 rfl rfl rfl ?_
        refine f_X5_7 C dX5_passNow_42 rfl ?_
        refine g_bipush C dX5_passNow_45 bp_63 rfl ?_
        refine g_iload_n C dX5_passNow_47 rfl rfl rfl ?_
        refine g_iadd C dX5_passNow_48 rfl ?_
        refine g_dup2 C dX5_passNow_49 rfl rfl rfl ?_
        obtain ⟨hin, h⟩ := h
        refine g_ild C dX5_passNow_50 arr_94 hin rfl ?_
        refine g_aload_n C dX5_passNow_51 rfl rfl rfl ?_
        refine f_X5_7 C dX5_passNow_52 rfl ?_
        refine g_bipush C dX5_passNow_55 bp_63 rfl ?_
        refine g_iload_n C dX5_passNow_57 rfl rfl rfl ?_
        refine g_iadd C dX5_passNow_58 rfl ?_
        obtain ⟨hin, h⟩ := h
        refine g_ild C dX5_passNow_59 arr_94 hin rfl ?_
        refine jn_go h (fun (J11 : Int32 → Prop) => ∀ (v10 : Int32), J11 v10 → GG V X σ7 81 [some (.ref (ad V 93)), some (.int y1), some (.int x2), some (.int x8)] [.int v10, .int (σ7 94 (63 + x8).toNatClampNeg), .int (63 + x8), .ref (ad V 94)]) (fun v10 h => ?_) (fun J11 hJ11 h => ?_)
        · refine g_isub C dX5_passNow_81 rfl ?_
          obtain ⟨hin, h⟩ := h
          refine g_ist C dX5_passNow_82 arr_94 hin rfl h (fun σ12 h => ?_)
          refine g_iinc C dX5_passNow_83 (v := x8 + 1) (by rw [ic_1]) rfl (Nat.le_of_ble_eq_true rfl) (L' := [some (.ref (ad V 93)), some (.int y1), some (.int x2), some (.int (x8 + 1))]) rfl rfl ?_
          refine g_goto C dX5_passNow_86 (pc' := 19) rfl ?_
          exact h
        refine g_if_le C dX5_passNow_60 (tgt := 80) rfl rfl (fun q => ?_) (fun q => ?_)
        · have h := h.1 q
          refine g_iconst C dX5_passNow_80 ic_0 rfl ?_
          exact hJ11 0 h
        · have h := h.2 q
          refine g_aload_n C dX5_passNow_63 rfl rfl rfl ?_
          refine f_X5_7 C dX5_passNow_64 rfl ?_
          refine g_bipush C dX5_passNow_67 bp_23 rfl ?_
          refine g_iload_n C dX5_passNow_69 rfl rfl rfl ?_
          refine g_iadd C dX5_passNow_70 rfl ?_
          obtain ⟨hin, h⟩ := h
          refine g_ild C dX5_passNow_71 arr_94 hin rfl ?_
          refine g_iconst C dX5_passNow_72 ic_2 rfl ?_
          refine g_icmp_eq C dX5_passNow_73 (tgt := 80) rfl rfl (fun q => ?_) (fun q => ?_)
          · have h := h.1 q
            refine g_iconst C dX5_passNow_80 ic_0 rfl ?_
            exact hJ11 0 h
          · have h := h.2 q
            refine g_iconst C dX5_passNow_76 ic_1 rfl ?_
            refine g_goto C dX5_passNow_77 (pc' := 81) rfl ?_
            exact hJ11 1 h
theorem hd_X5_passNow : yX5_passNow.cls ≠ "java/lang/invoke/MethodHandle" ∧ yX5_passNow.cls ≠ "java/lang/invoke/VarHandle" ∧ (parseMethodDescriptor yX5_passNow.desc).map (fun d => d.parameters.length) = some 1 := by decide +kernel
theorem k_X5_129 {V : EV} {X : CX} {cc : ByteArray} {nL : Nat} {R : Room} {y1 : Int32} (C : OK V X RX5 cc nL R) {σ : Mem} {pc pc' : Nat} {L : List (Option Value)} {st : List Value} {P : Int32 → Mem → Prop} (d : decode cc pc = .ok (.invokevirtual 129, 3)) (hst : (st.map fun v => v.category).sum ≤ 8) (hr : 3 + 1 ≤ R.frames ∧ 8 + (4 + 11) + 71 ≤ R.locals) (hL : L.length = nL) (hp : pc + 3 = pc') (h : wp_X5_passNow σ y1 P) (k : ∀ r τ, P r τ → GG V X τ pc' L (.int r :: st)) : GG V X σ pc L (.int y1 :: .ref (ad V 93) :: st) :=
  g_callVi C (av := [.int y1]) (fun l => c_X5_passNow V σ y1 P l) (by decide) (en_93 V σ) (q := (RX5, TX5, 13)) rfl rfl ml_RX5_129 im_X5_passNow se_X5_passNow ini_RX5 co_X5_passNow hd_X5_passNow rfl ⟨rfl, rfl⟩ hr hst d hL hp h k

theorem dX5_pass_0 : decode cX5_pass 0 = .ok (.aload_n 0, 1) := by decide +kernel
theorem dX5_pass_1 : decode cX5_pass 1 = .ok (.iload_n 1, 1) := by decide +kernel
theorem dX5_pass_2 : decode cX5_pass 2 = .ok (.invokevirtual 126, 3) := by decide +kernel
theorem dX5_pass_5 : decode cX5_pass 5 = .ok (.istore_n 2, 1) := by decide +kernel
theorem dX5_pass_6 : decode cX5_pass 6 = .ok (.iload_n 2, 1) := by decide +kernel
theorem dX5_pass_7 : decode cX5_pass 7 = .ok (.ifCond .ge 5, 3) := by decide +kernel
theorem dX5_pass_10 : decode cX5_pass 10 = .ok (.iload_n 2, 1) := by decide +kernel
theorem dX5_pass_11 : decode cX5_pass 11 = .ok (.ireturn, 1) := by decide +kernel
theorem dX5_pass_12 : decode cX5_pass 12 = .ok (.aload_n 0, 1) := by decide +kernel
theorem dX5_pass_13 : decode cX5_pass 13 = .ok (.invokevirtual 64, 3) := by decide +kernel
theorem dX5_pass_16 : decode cX5_pass 16 = .ok (.aload_n 0, 1) := by decide +kernel
theorem dX5_pass_17 : decode cX5_pass 17 = .ok (.iload_n 1, 1) := by decide +kernel
theorem dX5_pass_18 : decode cX5_pass 18 = .ok (.invokevirtual 129, 3) := by decide +kernel
theorem dX5_pass_21 : decode cX5_pass 21 = .ok (.ireturn, 1) := by decide +kernel
def wp_X5_pass (σ : Mem) (y1 : Int32) (P : Int32 → Mem → Prop) : Prop :=
  wp_X5_whyNotPass σ y1 (fun r1 =>
    ((0 ≤ r1 →
    wp_X5_record σ  (fun σ2 =>
      wp_X5_passNow σ2 y1 (fun r3 σ4 =>
      P r3 σ4))) ∧
    (¬ 0 ≤ r1 →
    P r1 σ)))
set_option maxRecDepth 100000 in
set_option maxHeartbeats 4000000 in
theorem c_X5_pass (V : EV) (σ : Mem) (y1 : Int32) (P : Int32 → Mem → Prop) (l : Launch) : Met l yX5_pass (.code yX5_pass cX5_pass 3 (some .int) :: AW) { frames := 4, cells := 0, slots := 0, locals := 94 } (va_Pc [.ref (ad V 93), .int y1] (fun U => wP V σ U ∧ wp_X5_pass σ y1 P)) (va_Qi P (wB V) (AA V)) 0 0 (AA V) := by
  refine met_i V σ (own := RX5) (by decide +kernel) rfl (fun v hv => by simp at hv; rcases hv with rfl | rfl <;> rfl) (Nat.le_of_ble_eq_true rfl) (fun X C D h => ?_) l
  show GG V X σ 0 [some (.ref (ad V 93)), some (.int y1), none] []
  refine g_aload_n C dX5_pass_0 rfl rfl rfl ?_
  refine g_iload_n C dX5_pass_1 rfl rfl rfl ?_
  refine k_X5_126 C dX5_pass_2 (Nat.le_of_ble_eq_true rfl) (by decide) rfl rfl h (fun r1 h => ?_)
  refine g_istore_n C dX5_pass_5 rfl (Nat.le_of_ble_eq_true rfl) (L' := [some (.ref (ad V 93)), some (.int y1), some (.int r1)]) rfl rfl ?_
  refine g_iload_n C dX5_pass_6 rfl rfl rfl ?_
  refine g_if_ge C dX5_pass_7 (tgt := 12) rfl rfl (fun q => ?_) (fun q => ?_)
  · have h := h.1 q
    refine g_aload_n C dX5_pass_12 rfl rfl rfl ?_
    refine k_X5_64 C dX5_pass_13 (Nat.le_of_ble_eq_true rfl) (by decide) rfl rfl h (fun σ2 h => ?_)
    refine g_aload_n C dX5_pass_16 rfl rfl rfl ?_
    refine g_iload_n C dX5_pass_17 rfl rfl rfl ?_
    refine k_X5_129 C dX5_pass_18 (Nat.le_of_ble_eq_true rfl) (by decide) rfl rfl h (fun r3 σ4 h => ?_)
    exact g_iret C dX5_pass_21 D h
  · have h := h.2 q
    refine g_iload_n C dX5_pass_10 rfl rfl rfl ?_
    exact g_iret C dX5_pass_11 D h
theorem hd_X5_pass : yX5_pass.cls ≠ "java/lang/invoke/MethodHandle" ∧ yX5_pass.cls ≠ "java/lang/invoke/VarHandle" ∧ (parseMethodDescriptor yX5_pass.desc).map (fun d => d.parameters.length) = some 1 := by decide +kernel

theorem dX5_set_0 : decode cX5_set 0 = .ok (.iload_n 1, 1) := by decide +kernel
theorem dX5_set_1 : decode cX5_set 1 = .ok (.iconst 0, 1) := by decide +kernel
theorem dX5_set_2 : decode cX5_set 2 = .ok (.iconst 2, 1) := by decide +kernel
theorem dX5_set_3 : decode cX5_set 3 = .ok (.invokestatic 36, 3) := by decide +kernel
theorem dX5_set_6 : decode cX5_set 6 = .ok (.ifCond .ne 5, 3) := by decide +kernel
theorem dX5_set_9 : decode cX5_set 9 = .ok (.iconst (-1), 1) := by decide +kernel
theorem dX5_set_10 : decode cX5_set 10 = .ok (.ireturn, 1) := by decide +kernel
theorem dX5_set_11 : decode cX5_set 11 = .ok (.iload_n 2, 1) := by decide +kernel
theorem dX5_set_12 : decode cX5_set 12 = .ok (.iload_n 1, 1) := by decide +kernel
theorem dX5_set_13 : decode cX5_set 13 = .ok (.iconst 2, 1) := by decide +kernel
theorem dX5_set_14 : decode cX5_set 14 = .ok (.if_icmp .ne 7, 3) := by decide +kernel
theorem dX5_set_17 : decode cX5_set 17 = .ok (.iconst 0, 1) := by decide +kernel
theorem dX5_set_18 : decode cX5_set 18 = .ok (.goto 4, 3) := by decide +kernel
theorem dX5_set_21 : decode cX5_set 21 = .ok (.iconst 1, 1) := by decide +kernel
theorem dX5_set_22 : decode cX5_set 22 = .ok (.iload_n 1, 1) := by decide +kernel
theorem dX5_set_23 : decode cX5_set 23 = .ok (.ifCond .ne 8, 3) := by decide +kernel
theorem dX5_set_26 : decode cX5_set 26 = .ok (.bipush 20, 2) := by decide +kernel
theorem dX5_set_28 : decode cX5_set 28 = .ok (.goto 14, 3) := by decide +kernel
theorem dX5_set_31 : decode cX5_set 31 = .ok (.iload_n 1, 1) := by decide +kernel
theorem dX5_set_32 : decode cX5_set 32 = .ok (.iconst 1, 1) := by decide +kernel
theorem dX5_set_33 : decode cX5_set 33 = .ok (.if_icmp .ne 8, 3) := by decide +kernel
theorem dX5_set_36 : decode cX5_set 36 = .ok (.bipush 99, 2) := by decide +kernel
theorem dX5_set_38 : decode cX5_set 38 = .ok (.goto 4, 3) := by decide +kernel
theorem dX5_set_41 : decode cX5_set 41 = .ok (.iconst 2, 1) := by decide +kernel
theorem dX5_set_42 : decode cX5_set 42 = .ok (.invokestatic 36, 3) := by decide +kernel
theorem dX5_set_45 : decode cX5_set 45 = .ok (.ifCond .ne 6, 3) := by decide +kernel
theorem dX5_set_48 : decode cX5_set 48 = .ok (.bipush (-2), 2) := by decide +kernel
theorem dX5_set_50 : decode cX5_set 50 = .ok (.ireturn, 1) := by decide +kernel
theorem dX5_set_51 : decode cX5_set 51 = .ok (.aload_n 0, 1) := by decide +kernel
theorem dX5_set_52 : decode cX5_set 52 = .ok (.getfield 7, 3) := by decide +kernel
theorem dX5_set_55 : decode cX5_set 55 = .ok (.iload_n 1, 1) := by decide +kernel
theorem dX5_set_56 : decode cX5_set 56 = .ok (.iaload, 1) := by decide +kernel
theorem dX5_set_57 : decode cX5_set 57 = .ok (.istore_n 3, 1) := by decide +kernel
theorem dX5_set_58 : decode cX5_set 58 = .ok (.iload_n 3, 1) := by decide +kernel
theorem dX5_set_59 : decode cX5_set 59 = .ok (.iload_n 2, 1) := by decide +kernel
theorem dX5_set_60 : decode cX5_set 60 = .ok (.if_icmp .ne 6, 3) := by decide +kernel
theorem dX5_set_63 : decode cX5_set 63 = .ok (.bipush (-5), 2) := by decide +kernel
theorem dX5_set_65 : decode cX5_set 65 = .ok (.ireturn, 1) := by decide +kernel
theorem dX5_set_66 : decode cX5_set 66 = .ok (.aload_n 0, 1) := by decide +kernel
theorem dX5_set_67 : decode cX5_set 67 = .ok (.invokevirtual 64, 3) := by decide +kernel
theorem dX5_set_70 : decode cX5_set 70 = .ok (.aload_n 0, 1) := by decide +kernel
theorem dX5_set_71 : decode cX5_set 71 = .ok (.getfield 7, 3) := by decide +kernel
theorem dX5_set_74 : decode cX5_set 74 = .ok (.iload_n 1, 1) := by decide +kernel
theorem dX5_set_75 : decode cX5_set 75 = .ok (.iload_n 2, 1) := by decide +kernel
theorem dX5_set_76 : decode cX5_set 76 = .ok (.iastore, 1) := by decide +kernel
theorem dX5_set_77 : decode cX5_set 77 = .ok (.aload_n 0, 1) := by decide +kernel
theorem dX5_set_78 : decode cX5_set 78 = .ok (.invokevirtual 67, 3) := by decide +kernel
theorem dX5_set_81 : decode cX5_set 81 = .ok (.iload_n 3, 1) := by decide +kernel
theorem dX5_set_82 : decode cX5_set 82 = .ok (.ireturn, 1) := by decide +kernel
def wp_X5_set (σ : Mem) (y1 : Int32) (y2 : Int32) (P : Int32 → Mem → Prop) : Prop :=
  wp_X5_in σ y1 0 2 (fun r1 =>
    ((r1 = 0 →
    P (-1) σ) ∧
    (¬ r1 = 0 →
    jn (A := Int32 → Prop) (fun (v2 : Int32) =>
      jn (A := Int32 → Prop) (fun (v4 : Int32) =>
        wp_X5_in σ y2 v2 v4 (fun r6 =>
          ((r6 = 0 →
          P (-2) σ) ∧
          (¬ r6 = 0 →
          vp_in y1 313 ∧ (((σ 94 y1.toNatClampNeg) = y2 →
            P (-5) σ) ∧
            (¬ (σ 94 y1.toNatClampNeg) = y2 →
            wp_X5_record σ  (fun σ7 =>
              vp_in y1 313 ∧ bm (up2 σ7 94 y1.toNatClampNeg y2) (fun σ8 =>
              wp_X5_look σ8  (fun σ9 =>
              P (σ 94 y1.toNatClampNeg) σ9)))))))))
        (fun J5 =>
        ((y1 = 0 →
        J5 20) ∧
        (¬ y1 = 0 →
        ((y1 = 1 →
          J5 99) ∧
          (¬ y1 = 1 →
          J5 2))))))
      (fun J3 =>
      ((y1 = 2 →
      J3 0) ∧
      (¬ y1 = 2 →
      J3 1))))))
set_option maxRecDepth 100000 in
set_option maxHeartbeats 4000000 in
theorem c_X5_set (V : EV) (σ : Mem) (y1 : Int32) (y2 : Int32) (P : Int32 → Mem → Prop) (l : Launch) : Met l yX5_set (.code yX5_set cX5_set 4 (some .int) :: AW) { frames := 3, cells := 0, slots := 0, locals := 71 } (va_Pc [.ref (ad V 93), .int y1, .int y2] (fun U => wP V σ U ∧ wp_X5_set σ y1 y2 P)) (va_Qi P (wB V) (AA V)) 0 0 (AA V) := by
  refine met_i V σ (own := RX5) (by decide +kernel) rfl (fun v hv => by simp at hv; rcases hv with rfl | rfl | rfl <;> rfl) (Nat.le_of_ble_eq_true rfl) (fun X C D h => ?_) l
  show GG V X σ 0 [some (.ref (ad V 93)), some (.int y1), some (.int y2), none] []
  refine g_iload_n C dX5_set_0 rfl rfl rfl ?_
  refine g_iconst C dX5_set_1 ic_0 rfl ?_
  refine g_iconst C dX5_set_2 ic_2 rfl ?_
  refine k_X5_36 C dX5_set_3 (Nat.le_of_ble_eq_true rfl) (by decide) rfl rfl h (fun r1 h => ?_)
  refine g_if_ne C dX5_set_6 (tgt := 11) rfl rfl (fun q => ?_) (fun q => ?_)
  · have h := h.2 q
    refine g_iload_n C dX5_set_11 rfl rfl rfl ?_
    refine g_iload_n C dX5_set_12 rfl rfl rfl ?_
    refine g_iconst C dX5_set_13 ic_2 rfl ?_
    refine jn_go h (fun (J3 : Int32 → Prop) => ∀ (v2 : Int32), J3 v2 → GG V X σ 22 [some (.ref (ad V 93)), some (.int y1), some (.int y2), none] [.int v2, .int y2]) (fun v2 h => ?_) (fun J3 hJ3 h => ?_)
    · refine g_iload_n C dX5_set_22 rfl rfl rfl ?_
      refine jn_go h (fun (J5 : Int32 → Prop) => ∀ (v4 : Int32), J5 v4 → GG V X σ 42 [some (.ref (ad V 93)), some (.int y1), some (.int y2), none] [.int v4, .int v2, .int y2]) (fun v4 h => ?_) (fun J5 hJ5 h => ?_)
      · refine k_X5_36 C dX5_set_42 (Nat.le_of_ble_eq_true rfl) (by decide) rfl rfl h (fun r6 h => ?_)
        refine g_if_ne C dX5_set_45 (tgt := 51) rfl rfl (fun q => ?_) (fun q => ?_)
        · have h := h.2 q
          refine g_aload_n C dX5_set_51 rfl rfl rfl ?_
          refine f_X5_7 C dX5_set_52 rfl ?_
          refine g_iload_n C dX5_set_55 rfl rfl rfl ?_
          obtain ⟨hin, h⟩ := h
          refine g_ild C dX5_set_56 arr_94 hin rfl ?_
          refine g_istore_n C dX5_set_57 rfl (Nat.le_of_ble_eq_true rfl) (L' := [some (.ref (ad V 93)), some (.int y1), some (.int y2), some (.int (σ 94 y1.toNatClampNeg))]) rfl rfl ?_
          refine g_iload_n C dX5_set_58 rfl rfl rfl ?_
          refine g_iload_n C dX5_set_59 rfl rfl rfl ?_
          refine g_icmp_ne C dX5_set_60 (tgt := 66) rfl rfl (fun q => ?_) (fun q => ?_)
          · have h := h.2 q
            refine g_aload_n C dX5_set_66 rfl rfl rfl ?_
            refine k_X5_64 C dX5_set_67 (Nat.le_of_ble_eq_true rfl) (by decide) rfl rfl h (fun σ7 h => ?_)
            refine g_aload_n C dX5_set_70 rfl rfl rfl ?_
            refine f_X5_7 C dX5_set_71 rfl ?_
            refine g_iload_n C dX5_set_74 rfl rfl rfl ?_
            refine g_iload_n C dX5_set_75 rfl rfl rfl ?_
            obtain ⟨hin, h⟩ := h
            refine g_ist C dX5_set_76 arr_94 hin rfl h (fun σ8 h => ?_)
            refine g_aload_n C dX5_set_77 rfl rfl rfl ?_
            refine k_X5_67 C dX5_set_78 (Nat.le_of_ble_eq_true rfl) (by decide) rfl rfl h (fun σ9 h => ?_)
            refine g_iload_n C dX5_set_81 rfl rfl rfl ?_
            exact g_iret C dX5_set_82 D h
          · have h := h.1 q
            refine g_bipush C dX5_set_63 bp_m5 rfl ?_
            exact g_iret C dX5_set_65 D h
        · have h := h.1 q
          refine g_bipush C dX5_set_48 bp_m2 rfl ?_
          exact g_iret C dX5_set_50 D h
      refine g_if_ne C dX5_set_23 (tgt := 31) rfl rfl (fun q => ?_) (fun q => ?_)
      · have h := h.2 q
        refine g_iload_n C dX5_set_31 rfl rfl rfl ?_
        refine g_iconst C dX5_set_32 ic_1 rfl ?_
        refine g_icmp_ne C dX5_set_33 (tgt := 41) rfl rfl (fun q => ?_) (fun q => ?_)
        · have h := h.2 q
          refine g_iconst C dX5_set_41 ic_2 rfl ?_
          exact hJ5 2 h
        · have h := h.1 q
          refine g_bipush C dX5_set_36 bp_99 rfl ?_
          refine g_goto C dX5_set_38 (pc' := 42) rfl ?_
          exact hJ5 99 h
      · have h := h.1 q
        refine g_bipush C dX5_set_26 bp_20 rfl ?_
        refine g_goto C dX5_set_28 (pc' := 42) rfl ?_
        exact hJ5 20 h
    refine g_icmp_ne C dX5_set_14 (tgt := 21) rfl rfl (fun q => ?_) (fun q => ?_)
    · have h := h.2 q
      refine g_iconst C dX5_set_21 ic_1 rfl ?_
      exact hJ3 1 h
    · have h := h.1 q
      refine g_iconst C dX5_set_17 ic_0 rfl ?_
      refine g_goto C dX5_set_18 (pc' := 22) rfl ?_
      exact hJ3 0 h
  · have h := h.1 q
    refine g_iconst C dX5_set_9 ic_m1 rfl ?_
    exact g_iret C dX5_set_10 D h
theorem hd_X5_set : yX5_set.cls ≠ "java/lang/invoke/MethodHandle" ∧ yX5_set.cls ≠ "java/lang/invoke/VarHandle" ∧ (parseMethodDescriptor yX5_set.desc).map (fun d => d.parameters.length) = some 2 := by decide +kernel

theorem dX5_type_0 : decode cX5_type 0 = .ok (.aload_n 0, 1) := by decide +kernel
theorem dX5_type_1 : decode cX5_type 1 = .ok (.getfield 132, 3) := by decide +kernel
theorem dX5_type_4 : decode cX5_type 4 = .ok (.bipush 60, 2) := by decide +kernel
theorem dX5_type_6 : decode cX5_type 6 = .ok (.if_icmp .ne 6, 3) := by decide +kernel
theorem dX5_type_9 : decode cX5_type 9 = .ok (.bipush (-3), 2) := by decide +kernel
theorem dX5_type_11 : decode cX5_type 11 = .ok (.ireturn, 1) := by decide +kernel
theorem dX5_type_12 : decode cX5_type 12 = .ok (.aload_n 0, 1) := by decide +kernel
theorem dX5_type_13 : decode cX5_type 13 = .ok (.getfield 22, 3) := by decide +kernel
theorem dX5_type_16 : decode cX5_type 16 = .ok (.aload_n 0, 1) := by decide +kernel
theorem dX5_type_17 : decode cX5_type 17 = .ok (.getfield 132, 3) := by decide +kernel
theorem dX5_type_20 : decode cX5_type 20 = .ok (.iload_n 1, 1) := by decide +kernel
theorem dX5_type_21 : decode cX5_type 21 = .ok (.iastore, 1) := by decide +kernel
theorem dX5_type_22 : decode cX5_type 22 = .ok (.aload_n 0, 1) := by decide +kernel
theorem dX5_type_23 : decode cX5_type 23 = .ok (.dup, 1) := by decide +kernel
theorem dX5_type_24 : decode cX5_type 24 = .ok (.getfield 132, 3) := by decide +kernel
theorem dX5_type_27 : decode cX5_type 27 = .ok (.iconst 1, 1) := by decide +kernel
theorem dX5_type_28 : decode cX5_type 28 = .ok (.iadd, 1) := by decide +kernel
theorem dX5_type_29 : decode cX5_type 29 = .ok (.putfield 132, 3) := by decide +kernel
theorem dX5_type_32 : decode cX5_type 32 = .ok (.aload_n 0, 1) := by decide +kernel
theorem dX5_type_33 : decode cX5_type 33 = .ok (.getfield 132, 3) := by decide +kernel
theorem dX5_type_36 : decode cX5_type 36 = .ok (.ireturn, 1) := by decide +kernel
def wp_X5_type (σ : Mem) (y1 : Int32) (P : Int32 → Mem → Prop) : Prop :=
  (((σ 93 7) = 60 →
    P (-3) σ) ∧
    (¬ (σ 93 7) = 60 →
    vp_in (σ 93 7) 60 ∧ bm (up2 σ 98 (σ 93 7).toNatClampNeg y1) (fun σ1 =>
      bm (up2 σ1 93 7 ((σ1 93 7) + 1)) (fun σ2 =>
      P (σ2 93 7) σ2))))
set_option maxRecDepth 100000 in
set_option maxHeartbeats 4000000 in
theorem c_X5_type (V : EV) (σ : Mem) (y1 : Int32) (P : Int32 → Mem → Prop) (l : Launch) : Met l yX5_type (.code yX5_type cX5_type 2 (some .int) :: AW) { frames := 0, cells := 0, slots := 0, locals := 0 } (va_Pc [.ref (ad V 93), .int y1] (fun U => wP V σ U ∧ wp_X5_type σ y1 P)) (va_Qi P (wB V) (AA V)) 0 0 (AA V) := by
  refine met_i V σ (own := RX5) (by decide +kernel) rfl (fun v hv => by simp at hv; rcases hv with rfl | rfl <;> rfl) (Nat.le_of_ble_eq_true rfl) (fun X C D h => ?_) l
  show GG V X σ 0 [some (.ref (ad V 93)), some (.int y1)] []
  refine g_aload_n C dX5_type_0 rfl rfl rfl ?_
  refine f_X5_132 C dX5_type_1 rfl ?_
  refine g_bipush C dX5_type_4 bp_60 rfl ?_
  refine g_icmp_ne C dX5_type_6 (tgt := 12) rfl rfl (fun q => ?_) (fun q => ?_)
  · have h := h.2 q
    refine g_aload_n C dX5_type_12 rfl rfl rfl ?_
    refine f_X5_22 C dX5_type_13 rfl ?_
    refine g_aload_n C dX5_type_16 rfl rfl rfl ?_
    refine f_X5_132 C dX5_type_17 rfl ?_
    refine g_iload_n C dX5_type_20 rfl rfl rfl ?_
    obtain ⟨hin, h⟩ := h
    refine g_ist C dX5_type_21 arr_98 hin rfl h (fun σ1 h => ?_)
    refine g_aload_n C dX5_type_22 rfl rfl rfl ?_
    refine g_dup C dX5_type_23 rfl rfl ?_
    refine f_X5_132 C dX5_type_24 rfl ?_
    refine g_iconst C dX5_type_27 ic_1 rfl ?_
    refine g_iadd C dX5_type_28 rfl ?_
    refine p_X5_132 C dX5_type_29 rfl h (fun σ2 h => ?_)
    refine g_aload_n C dX5_type_32 rfl rfl rfl ?_
    refine f_X5_132 C dX5_type_33 rfl ?_
    exact g_iret C dX5_type_36 D h
  · have h := h.1 q
    refine g_bipush C dX5_type_9 bp_m3 rfl ?_
    exact g_iret C dX5_type_11 D h
theorem hd_X5_type : yX5_type.cls ≠ "java/lang/invoke/MethodHandle" ∧ yX5_type.cls ≠ "java/lang/invoke/VarHandle" ∧ (parseMethodDescriptor yX5_type.desc).map (fun d => d.parameters.length) = some 1 := by decide +kernel

theorem dX5_clearText_0 : decode cX5_clearText 0 = .ok (.aload_n 0, 1) := by decide +kernel
theorem dX5_clearText_1 : decode cX5_clearText 1 = .ok (.getfield 132, 3) := by decide +kernel
theorem dX5_clearText_4 : decode cX5_clearText 4 = .ok (.istore_n 1, 1) := by decide +kernel
theorem dX5_clearText_5 : decode cX5_clearText 5 = .ok (.aload_n 0, 1) := by decide +kernel
theorem dX5_clearText_6 : decode cX5_clearText 6 = .ok (.iconst 0, 1) := by decide +kernel
theorem dX5_clearText_7 : decode cX5_clearText 7 = .ok (.putfield 132, 3) := by decide +kernel
theorem dX5_clearText_10 : decode cX5_clearText 10 = .ok (.iload_n 1, 1) := by decide +kernel
theorem dX5_clearText_11 : decode cX5_clearText 11 = .ok (.ireturn, 1) := by decide +kernel
def wp_X5_clearText (σ : Mem) (P : Int32 → Mem → Prop) : Prop :=
  bm (up2 σ 93 7 0) (fun σ1 =>
    P (σ 93 7) σ1)
set_option maxRecDepth 100000 in
set_option maxHeartbeats 4000000 in
theorem c_X5_clearText (V : EV) (σ : Mem) (P : Int32 → Mem → Prop) (l : Launch) : Met l yX5_clearText (.code yX5_clearText cX5_clearText 2 (some .int) :: AW) { frames := 0, cells := 0, slots := 0, locals := 0 } (va_Pc [.ref (ad V 93)] (fun U => wP V σ U ∧ wp_X5_clearText σ P)) (va_Qi P (wB V) (AA V)) 0 0 (AA V) := by
  refine met_i V σ (own := RX5) (by decide +kernel) rfl (fun v hv => by simp at hv; subst hv; rfl) (Nat.le_of_ble_eq_true rfl) (fun X C D h => ?_) l
  show GG V X σ 0 [some (.ref (ad V 93)), none] []
  refine g_aload_n C dX5_clearText_0 rfl rfl rfl ?_
  refine f_X5_132 C dX5_clearText_1 rfl ?_
  refine g_istore_n C dX5_clearText_4 rfl (Nat.le_of_ble_eq_true rfl) (L' := [some (.ref (ad V 93)), some (.int (σ 93 7))]) rfl rfl ?_
  refine g_aload_n C dX5_clearText_5 rfl rfl rfl ?_
  refine g_iconst C dX5_clearText_6 ic_0 rfl ?_
  refine p_X5_132 C dX5_clearText_7 rfl h (fun σ1 h => ?_)
  refine g_iload_n C dX5_clearText_10 rfl rfl rfl ?_
  exact g_iret C dX5_clearText_11 D h
theorem hd_X5_clearText : yX5_clearText.cls ≠ "java/lang/invoke/MethodHandle" ∧ yX5_clearText.cls ≠ "java/lang/invoke/VarHandle" ∧ (parseMethodDescriptor yX5_clearText.desc).map (fun d => d.parameters.length) = some 0 := by decide +kernel

theorem dX5_sees_0 : decode cX5_sees 0 = .ok (.aload_n 0, 1) := by decide +kernel
theorem dX5_sees_1 : decode cX5_sees 1 = .ok (.getfield 135, 3) := by decide +kernel
theorem dX5_sees_4 : decode cX5_sees 4 = .ok (.aload_n 0, 1) := by decide +kernel
theorem dX5_sees_5 : decode cX5_sees 5 = .ok (.getfield 132, 3) := by decide +kernel
theorem dX5_sees_8 : decode cX5_sees 8 = .ok (.if_icmp .ge 24, 3) := by decide +kernel
theorem dX5_sees_11 : decode cX5_sees 11 = .ok (.aload_n 0, 1) := by decide +kernel
theorem dX5_sees_12 : decode cX5_sees 12 = .ok (.getfield 22, 3) := by decide +kernel
theorem dX5_sees_15 : decode cX5_sees 15 = .ok (.aload_n 0, 1) := by decide +kernel
theorem dX5_sees_16 : decode cX5_sees 16 = .ok (.getfield 135, 3) := by decide +kernel
theorem dX5_sees_19 : decode cX5_sees 19 = .ok (.iaload, 1) := by decide +kernel
theorem dX5_sees_20 : decode cX5_sees 20 = .ok (.iload_n 1, 1) := by decide +kernel
theorem dX5_sees_21 : decode cX5_sees 21 = .ok (.iload_n 2, 1) := by decide +kernel
theorem dX5_sees_22 : decode cX5_sees 22 = .ok (.invokestatic 36, 3) := by decide +kernel
theorem dX5_sees_25 : decode cX5_sees 25 = .ok (.ifCond .eq 7, 3) := by decide +kernel
theorem dX5_sees_28 : decode cX5_sees 28 = .ok (.iconst 1, 1) := by decide +kernel
theorem dX5_sees_29 : decode cX5_sees 29 = .ok (.goto 4, 3) := by decide +kernel
theorem dX5_sees_32 : decode cX5_sees 32 = .ok (.iconst 0, 1) := by decide +kernel
theorem dX5_sees_33 : decode cX5_sees 33 = .ok (.ireturn, 1) := by decide +kernel
def wp_X5_sees (σ : Mem) (y1 : Int32) (y2 : Int32) (P : Int32 → Prop) : Prop :=
  (((σ 93 7) ≤ (σ 93 12) →
    P 0) ∧
    (¬ (σ 93 7) ≤ (σ 93 12) →
    vp_in (σ 93 12) 60 ∧ wp_X5_in σ (σ 98 (σ 93 12).toNatClampNeg) y1 y2 (fun r1 =>
      ((r1 = 0 →
      P 0) ∧
      (¬ r1 = 0 →
      P 1)))))
set_option maxRecDepth 100000 in
set_option maxHeartbeats 4000000 in
theorem c_X5_sees (V : EV) (σ : Mem) (y1 : Int32) (y2 : Int32) (P : Int32 → Prop) (l : Launch) : Met l yX5_sees (.code yX5_sees cX5_sees 3 (some .boolean) :: AW) { frames := 1, cells := 0, slots := 0, locals := 22 } (va_Pc [.ref (ad V 93), .int y1, .int y2] (fun U => wP V σ U ∧ wp_X5_sees σ y1 y2 P)) (va_Qi (fun r τ => τ = σ ∧ P r) (wB V) (AA V)) 0 0 (AA V) := by
  refine met_i V σ (own := RX5) (by decide +kernel) rfl (fun v hv => by simp at hv; rcases hv with rfl | rfl | rfl <;> rfl) (Nat.le_of_ble_eq_true rfl) (fun X C D h => ?_) l
  show GG V X σ 0 [some (.ref (ad V 93)), some (.int y1), some (.int y2)] []
  refine g_aload_n C dX5_sees_0 rfl rfl rfl ?_
  refine f_X5_135 C dX5_sees_1 rfl ?_
  refine g_aload_n C dX5_sees_4 rfl rfl rfl ?_
  refine f_X5_132 C dX5_sees_5 rfl ?_
  refine g_icmp_ge C dX5_sees_8 (tgt := 32) rfl rfl (fun q => ?_) (fun q => ?_)
  · have h := h.1 q
    refine g_iconst C dX5_sees_32 ic_0 rfl ?_
    exact g_zret C dX5_sees_33 D (by decide) ⟨rfl, h⟩
  · have h := h.2 q
    refine g_aload_n C dX5_sees_11 rfl rfl rfl ?_
    refine f_X5_22 C dX5_sees_12 rfl ?_
    refine g_aload_n C dX5_sees_15 rfl rfl rfl ?_
    refine f_X5_135 C dX5_sees_16 rfl ?_
    obtain ⟨hin, h⟩ := h
    refine g_ild C dX5_sees_19 arr_98 hin rfl ?_
    refine g_iload_n C dX5_sees_20 rfl rfl rfl ?_
    refine g_iload_n C dX5_sees_21 rfl rfl rfl ?_
    refine k_X5_36 C dX5_sees_22 (Nat.le_of_ble_eq_true rfl) (by decide) rfl rfl h (fun r1 h => ?_)
    refine g_if_eq C dX5_sees_25 (tgt := 32) rfl rfl (fun q => ?_) (fun q => ?_)
    · have h := h.1 q
      refine g_iconst C dX5_sees_32 ic_0 rfl ?_
      exact g_zret C dX5_sees_33 D (by decide) ⟨rfl, h⟩
    · have h := h.2 q
      refine g_iconst C dX5_sees_28 ic_1 rfl ?_
      refine g_goto C dX5_sees_29 (pc' := 33) rfl ?_
      exact g_zret C dX5_sees_33 D (by decide) ⟨rfl, h⟩
theorem hd_X5_sees : yX5_sees.cls ≠ "java/lang/invoke/MethodHandle" ∧ yX5_sees.cls ≠ "java/lang/invoke/VarHandle" ∧ (parseMethodDescriptor yX5_sees.desc).map (fun d => d.parameters.length) = some 2 := by decide +kernel
theorem k_X5_138 {V : EV} {X : CX} {cc : ByteArray} {nL : Nat} {R : Room} {y1 : Int32} {y2 : Int32} (C : OK V X RX5 cc nL R) {σ : Mem} {pc pc' : Nat} {L : List (Option Value)} {st : List Value} {P : Int32 → Prop} (d : decode cc pc = .ok (.invokevirtual 138, 3)) (hst : (st.map fun v => v.category).sum ≤ 8) (hr : 1 + 1 ≤ R.frames ∧ 8 + (3 + 11) + 22 ≤ R.locals) (hL : L.length = nL) (hp : pc + 3 = pc') (h : wp_X5_sees σ y1 y2 P) (k : ∀ r, P r → GG V X σ pc' L (.int r :: st)) : GG V X σ pc L (.int y2 :: .int y1 :: .ref (ad V 93) :: st) :=
  g_callVi C (av := [.int y1, .int y2]) (fun l => c_X5_sees V σ y1 y2 P l) (by decide) (en_93 V σ) (q := (RX5, TX5, 13)) rfl rfl ml_RX5_138 im_X5_sees se_X5_sees ini_RX5 co_X5_sees hd_X5_sees rfl ⟨rfl, rfl⟩ hr hst d hL hp h (fun r τ hq => by obtain ⟨rfl, hq⟩ := hq; exact k r hq)

theorem dX5_takes_0 : decode cX5_takes 0 = .ok (.aload_n 0, 1) := by decide +kernel
theorem dX5_takes_1 : decode cX5_takes 1 = .ok (.iload_n 1, 1) := by decide +kernel
theorem dX5_takes_2 : decode cX5_takes 2 = .ok (.iload_n 1, 1) := by decide +kernel
theorem dX5_takes_3 : decode cX5_takes 3 = .ok (.invokevirtual 138, 3) := by decide +kernel
theorem dX5_takes_6 : decode cX5_takes 6 = .ok (.istore_n 2, 1) := by decide +kernel
theorem dX5_takes_7 : decode cX5_takes 7 = .ok (.aload_n 0, 1) := by decide +kernel
theorem dX5_takes_8 : decode cX5_takes 8 = .ok (.dup, 1) := by decide +kernel
theorem dX5_takes_9 : decode cX5_takes 9 = .ok (.getfield 135, 3) := by decide +kernel
theorem dX5_takes_12 : decode cX5_takes 12 = .ok (.iload_n 2, 1) := by decide +kernel
theorem dX5_takes_13 : decode cX5_takes 13 = .ok (.ifCond .eq 7, 3) := by decide +kernel
theorem dX5_takes_16 : decode cX5_takes 16 = .ok (.iconst 1, 1) := by decide +kernel
theorem dX5_takes_17 : decode cX5_takes 17 = .ok (.goto 4, 3) := by decide +kernel
theorem dX5_takes_20 : decode cX5_takes 20 = .ok (.iconst 0, 1) := by decide +kernel
theorem dX5_takes_21 : decode cX5_takes 21 = .ok (.iadd, 1) := by decide +kernel
theorem dX5_takes_22 : decode cX5_takes 22 = .ok (.putfield 135, 3) := by decide +kernel
theorem dX5_takes_25 : decode cX5_takes 25 = .ok (.iload_n 2, 1) := by decide +kernel
theorem dX5_takes_26 : decode cX5_takes 26 = .ok (.ireturn, 1) := by decide +kernel
def wp_X5_takes (σ : Mem) (y1 : Int32) (P : Int32 → Mem → Prop) : Prop :=
  wp_X5_sees σ y1 y1 (fun r1 =>
    jn (A := Int32 → Prop) (fun (v2 : Int32) =>
    bm (up2 σ 93 12 ((σ 93 12) + v2)) (fun σ4 =>
      isZ r1 ∧ P r1 σ4))
    (fun J3 =>
    ((r1 = 0 →
    J3 0) ∧
    (¬ r1 = 0 →
    J3 1))))
set_option maxRecDepth 100000 in
set_option maxHeartbeats 4000000 in
theorem c_X5_takes (V : EV) (σ : Mem) (y1 : Int32) (P : Int32 → Mem → Prop) (l : Launch) : Met l yX5_takes (.code yX5_takes cX5_takes 3 (some .boolean) :: AW) { frames := 2, cells := 0, slots := 0, locals := 44 } (va_Pc [.ref (ad V 93), .int y1] (fun U => wP V σ U ∧ wp_X5_takes σ y1 P)) (va_Qi P (wB V) (AA V)) 0 0 (AA V) := by
  refine met_i V σ (own := RX5) (by decide +kernel) rfl (fun v hv => by simp at hv; rcases hv with rfl | rfl <;> rfl) (Nat.le_of_ble_eq_true rfl) (fun X C D h => ?_) l
  show GG V X σ 0 [some (.ref (ad V 93)), some (.int y1), none] []
  refine g_aload_n C dX5_takes_0 rfl rfl rfl ?_
  refine g_iload_n C dX5_takes_1 rfl rfl rfl ?_
  refine g_iload_n C dX5_takes_2 rfl rfl rfl ?_
  refine k_X5_138 C dX5_takes_3 (Nat.le_of_ble_eq_true rfl) (by decide) rfl rfl h (fun r1 h => ?_)
  refine g_istore_n C dX5_takes_6 rfl (Nat.le_of_ble_eq_true rfl) (L' := [some (.ref (ad V 93)), some (.int y1), some (.int r1)]) rfl rfl ?_
  refine g_aload_n C dX5_takes_7 rfl rfl rfl ?_
  refine g_dup C dX5_takes_8 rfl rfl ?_
  refine f_X5_135 C dX5_takes_9 rfl ?_
  refine g_iload_n C dX5_takes_12 rfl rfl rfl ?_
  refine jn_go h (fun (J3 : Int32 → Prop) => ∀ (v2 : Int32), J3 v2 → GG V X σ 21 [none, none, some (.int r1)] [.int v2, .int (σ 93 12), .ref (ad V 93)]) (fun v2 h => ?_) (fun J3 hJ3 h => ?_)
  · refine g_iadd C dX5_takes_21 rfl ?_
    refine p_X5_135 C dX5_takes_22 rfl h (fun σ4 h => ?_)
    refine g_iload_n C dX5_takes_25 rfl rfl rfl ?_
    obtain ⟨hz, h⟩ := h
    exact g_zret C dX5_takes_26 D hz h
  refine g_if_eq C dX5_takes_13 (tgt := 20) rfl rfl (fun q => ?_) (fun q => ?_)
  · have h := h.1 q
    refine g_iconst C dX5_takes_20 ic_0 rfl ?_
    refine g_drop 0 (L' := [none, some (.int y1), some (.int r1)]) rfl ?_
    refine g_drop 1 (L' := [none, none, some (.int r1)]) rfl ?_
    exact hJ3 0 h
  · have h := h.2 q
    refine g_iconst C dX5_takes_16 ic_1 rfl ?_
    refine g_goto C dX5_takes_17 (pc' := 21) rfl ?_
    refine g_drop 0 (L' := [none, some (.int y1), some (.int r1)]) rfl ?_
    refine g_drop 1 (L' := [none, none, some (.int r1)]) rfl ?_
    exact hJ3 1 h
theorem hd_X5_takes : yX5_takes.cls ≠ "java/lang/invoke/MethodHandle" ∧ yX5_takes.cls ≠ "java/lang/invoke/VarHandle" ∧ (parseMethodDescriptor yX5_takes.desc).map (fun d => d.parameters.length) = some 1 := by decide +kernel
theorem k_X5_150 {V : EV} {X : CX} {cc : ByteArray} {nL : Nat} {R : Room} {y1 : Int32} (C : OK V X RX5 cc nL R) {σ : Mem} {pc pc' : Nat} {L : List (Option Value)} {st : List Value} {P : Int32 → Mem → Prop} (d : decode cc pc = .ok (.invokevirtual 150, 3)) (hst : (st.map fun v => v.category).sum ≤ 8) (hr : 2 + 1 ≤ R.frames ∧ 8 + (3 + 11) + 44 ≤ R.locals) (hL : L.length = nL) (hp : pc + 3 = pc') (h : wp_X5_takes σ y1 P) (k : ∀ r τ, P r τ → GG V X τ pc' L (.int r :: st)) : GG V X σ pc L (.int y1 :: .ref (ad V 93) :: st) :=
  g_callVi C (av := [.int y1]) (fun l => c_X5_takes V σ y1 P l) (by decide) (en_93 V σ) (q := (RX5, TX5, 13)) rfl rfl ml_RX5_150 im_X5_takes se_X5_takes ini_RX5 co_X5_takes hd_X5_takes rfl ⟨rfl, rfl⟩ hr hst d hL hp h k

theorem dX5_number_0 : decode cX5_number 0 = .ok (.aload_n 0, 1) := by decide +kernel
theorem dX5_number_1 : decode cX5_number 1 = .ok (.bipush 48, 2) := by decide +kernel
theorem dX5_number_3 : decode cX5_number 3 = .ok (.iload_n 1, 1) := by decide +kernel
theorem dX5_number_4 : decode cX5_number 4 = .ok (.iadd, 1) := by decide +kernel
theorem dX5_number_5 : decode cX5_number 5 = .ok (.iload_n 2, 1) := by decide +kernel
theorem dX5_number_6 : decode cX5_number 6 = .ok (.bipush 9, 2) := by decide +kernel
theorem dX5_number_8 : decode cX5_number 8 = .ok (.if_icmp .ge 10, 3) := by decide +kernel
theorem dX5_number_11 : decode cX5_number 11 = .ok (.bipush 48, 2) := by decide +kernel
theorem dX5_number_13 : decode cX5_number 13 = .ok (.iload_n 2, 1) := by decide +kernel
theorem dX5_number_14 : decode cX5_number 14 = .ok (.iadd, 1) := by decide +kernel
theorem dX5_number_15 : decode cX5_number 15 = .ok (.goto 5, 3) := by decide +kernel
theorem dX5_number_18 : decode cX5_number 18 = .ok (.bipush 57, 2) := by decide +kernel
theorem dX5_number_20 : decode cX5_number 20 = .ok (.invokevirtual 138, 3) := by decide +kernel
theorem dX5_number_23 : decode cX5_number 23 = .ok (.ifCond .ne 6, 3) := by decide +kernel
theorem dX5_number_26 : decode cX5_number 26 = .ok (.bipush (-5), 2) := by decide +kernel
theorem dX5_number_28 : decode cX5_number 28 = .ok (.ireturn, 1) := by decide +kernel
theorem dX5_number_29 : decode cX5_number 29 = .ok (.aload_n 0, 1) := by decide +kernel
theorem dX5_number_30 : decode cX5_number 30 = .ok (.getfield 22, 3) := by decide +kernel
theorem dX5_number_33 : decode cX5_number 33 = .ok (.aload_n 0, 1) := by decide +kernel
theorem dX5_number_34 : decode cX5_number 34 = .ok (.getfield 135, 3) := by decide +kernel
theorem dX5_number_37 : decode cX5_number 37 = .ok (.iaload, 1) := by decide +kernel
theorem dX5_number_38 : decode cX5_number 38 = .ok (.bipush 48, 2) := by decide +kernel
theorem dX5_number_40 : decode cX5_number 40 = .ok (.isub, 1) := by decide +kernel
theorem dX5_number_41 : decode cX5_number 41 = .ok (.istore_n 3, 1) := by decide +kernel
theorem dX5_number_42 : decode cX5_number 42 = .ok (.aload_n 0, 1) := by decide +kernel
theorem dX5_number_43 : decode cX5_number 43 = .ok (.dup, 1) := by decide +kernel
theorem dX5_number_44 : decode cX5_number 44 = .ok (.getfield 135, 3) := by decide +kernel
theorem dX5_number_47 : decode cX5_number 47 = .ok (.iconst 1, 1) := by decide +kernel
theorem dX5_number_48 : decode cX5_number 48 = .ok (.iadd, 1) := by decide +kernel
theorem dX5_number_49 : decode cX5_number 49 = .ok (.putfield 135, 3) := by decide +kernel
theorem dX5_number_52 : decode cX5_number 52 = .ok (.iload_n 3, 1) := by decide +kernel
theorem dX5_number_53 : decode cX5_number 53 = .ok (.ifCond .le 66, 3) := by decide +kernel
theorem dX5_number_56 : decode cX5_number 56 = .ok (.aload_n 0, 1) := by decide +kernel
theorem dX5_number_57 : decode cX5_number 57 = .ok (.bipush 48, 2) := by decide +kernel
theorem dX5_number_59 : decode cX5_number 59 = .ok (.bipush 57, 2) := by decide +kernel
theorem dX5_number_61 : decode cX5_number 61 = .ok (.invokevirtual 138, 3) := by decide +kernel
theorem dX5_number_64 : decode cX5_number 64 = .ok (.ifCond .eq 55, 3) := by decide +kernel
theorem dX5_number_67 : decode cX5_number 67 = .ok (.bipush 10, 2) := by decide +kernel
theorem dX5_number_69 : decode cX5_number 69 = .ok (.iload_n 3, 1) := by decide +kernel
theorem dX5_number_70 : decode cX5_number 70 = .ok (.imul, 1) := by decide +kernel
theorem dX5_number_71 : decode cX5_number 71 = .ok (.aload_n 0, 1) := by decide +kernel
theorem dX5_number_72 : decode cX5_number 72 = .ok (.getfield 22, 3) := by decide +kernel
theorem dX5_number_75 : decode cX5_number 75 = .ok (.aload_n 0, 1) := by decide +kernel
theorem dX5_number_76 : decode cX5_number 76 = .ok (.getfield 135, 3) := by decide +kernel
theorem dX5_number_79 : decode cX5_number 79 = .ok (.iaload, 1) := by decide +kernel
theorem dX5_number_80 : decode cX5_number 80 = .ok (.iadd, 1) := by decide +kernel
theorem dX5_number_81 : decode cX5_number 81 = .ok (.bipush 48, 2) := by decide +kernel
theorem dX5_number_83 : decode cX5_number 83 = .ok (.isub, 1) := by decide +kernel
theorem dX5_number_84 : decode cX5_number 84 = .ok (.iload_n 2, 1) := by decide +kernel
theorem dX5_number_85 : decode cX5_number 85 = .ok (.if_icmp .gt 34, 3) := by decide +kernel
theorem dX5_number_88 : decode cX5_number 88 = .ok (.bipush 10, 2) := by decide +kernel
theorem dX5_number_90 : decode cX5_number 90 = .ok (.iload_n 3, 1) := by decide +kernel
theorem dX5_number_91 : decode cX5_number 91 = .ok (.imul, 1) := by decide +kernel
theorem dX5_number_92 : decode cX5_number 92 = .ok (.aload_n 0, 1) := by decide +kernel
theorem dX5_number_93 : decode cX5_number 93 = .ok (.getfield 22, 3) := by decide +kernel
theorem dX5_number_96 : decode cX5_number 96 = .ok (.aload_n 0, 1) := by decide +kernel
theorem dX5_number_97 : decode cX5_number 97 = .ok (.getfield 135, 3) := by decide +kernel
theorem dX5_number_100 : decode cX5_number 100 = .ok (.iaload, 1) := by decide +kernel
theorem dX5_number_101 : decode cX5_number 101 = .ok (.iadd, 1) := by decide +kernel
theorem dX5_number_102 : decode cX5_number 102 = .ok (.bipush 48, 2) := by decide +kernel
theorem dX5_number_104 : decode cX5_number 104 = .ok (.isub, 1) := by decide +kernel
theorem dX5_number_105 : decode cX5_number 105 = .ok (.istore_n 3, 1) := by decide +kernel
theorem dX5_number_106 : decode cX5_number 106 = .ok (.aload_n 0, 1) := by decide +kernel
theorem dX5_number_107 : decode cX5_number 107 = .ok (.dup, 1) := by decide +kernel
theorem dX5_number_108 : decode cX5_number 108 = .ok (.getfield 135, 3) := by decide +kernel
theorem dX5_number_111 : decode cX5_number 111 = .ok (.iconst 1, 1) := by decide +kernel
theorem dX5_number_112 : decode cX5_number 112 = .ok (.iadd, 1) := by decide +kernel
theorem dX5_number_113 : decode cX5_number 113 = .ok (.putfield 135, 3) := by decide +kernel
theorem dX5_number_116 : decode cX5_number 116 = .ok (.goto (-64), 3) := by decide +kernel
theorem dX5_number_119 : decode cX5_number 119 = .ok (.iload_n 3, 1) := by decide +kernel
theorem dX5_number_120 : decode cX5_number 120 = .ok (.ireturn, 1) := by decide +kernel
def wp_X5_number (σ : Mem) (y1 : Int32) (y2 : Int32) (P : Int32 → Mem → Prop) : Prop :=
  jn (A := Int32 → Prop) (fun (v1 : Int32) =>
    wp_X5_sees σ (48 + y1) v1 (fun r3 =>
      ((r3 = 0 →
      P (-5) σ) ∧
      (¬ r3 = 0 →
      vp_in (σ 93 12) 60 ∧ bm (up2 σ 93 12 ((σ 93 12) + 1)) (fun σ4 =>
        lq2 (fun rec7 (σ5 : Mem) (x6 : Int32) =>
        ((x6 ≤ 0 →
          P x6 σ5) ∧
          (¬ x6 ≤ 0 →
          wp_X5_sees σ5 48 57 (fun r8 =>
            ((r8 = 0 →
            P x6 σ5) ∧
            (¬ r8 = 0 →
            vp_in (σ5 93 12) 60 ∧ ((y2 < (((10 * x6) + (σ5 98 (σ5 93 12).toNatClampNeg)) - 48) →
              P x6 σ5) ∧
              (¬ y2 < (((10 * x6) + (σ5 98 (σ5 93 12).toNatClampNeg)) - 48) →
              vp_in (σ5 93 12) 60 ∧ bm (up2 σ5 93 12 ((σ5 93 12) + 1)) (fun σ9 =>
                rec7 σ9 ((((10 * x6) + (σ5 98 (σ5 93 12).toNatClampNeg)) - 48))))))))))) σ4 ((σ 98 (σ 93 12).toNatClampNeg) - 48))))))
    (fun J2 =>
    ((9 ≤ y2 →
    J2 57) ∧
    (¬ 9 ≤ y2 →
    J2 (48 + y2))))
set_option maxRecDepth 100000 in
set_option maxHeartbeats 4000000 in
theorem c_X5_number (V : EV) (σ : Mem) (y1 : Int32) (y2 : Int32) (P : Int32 → Mem → Prop) (l : Launch) : Met l yX5_number (.code yX5_number cX5_number 4 (some .int) :: AW) { frames := 2, cells := 0, slots := 0, locals := 44 } (va_Pc [.ref (ad V 93), .int y1, .int y2] (fun U => wP V σ U ∧ wp_X5_number σ y1 y2 P)) (va_Qi P (wB V) (AA V)) 0 0 (AA V) := by
  refine met_i V σ (own := RX5) (by decide +kernel) rfl (fun v hv => by simp at hv; rcases hv with rfl | rfl | rfl <;> rfl) (Nat.le_of_ble_eq_true rfl) (fun X C D h => ?_) l
  show GG V X σ 0 [some (.ref (ad V 93)), some (.int y1), some (.int y2), none] []
  refine g_aload_n C dX5_number_0 rfl rfl rfl ?_
  refine g_bipush C dX5_number_1 bp_48 rfl ?_
  refine g_iload_n C dX5_number_3 rfl rfl rfl ?_
  refine g_iadd C dX5_number_4 rfl ?_
  refine g_iload_n C dX5_number_5 rfl rfl rfl ?_
  refine g_bipush C dX5_number_6 bp_9 rfl ?_
  refine jn_go h (fun (J2 : Int32 → Prop) => ∀ (v1 : Int32), J2 v1 → GG V X σ 20 [some (.ref (ad V 93)), none, some (.int y2), none] [.int v1, .int (48 + y1), .ref (ad V 93)]) (fun v1 h => ?_) (fun J2 hJ2 h => ?_)
  · refine k_X5_138 C dX5_number_20 (Nat.le_of_ble_eq_true rfl) (by decide) rfl rfl h (fun r3 h => ?_)
    refine g_if_ne C dX5_number_23 (tgt := 29) rfl rfl (fun q => ?_) (fun q => ?_)
    · have h := h.2 q
      refine g_aload_n C dX5_number_29 rfl rfl rfl ?_
      refine f_X5_22 C dX5_number_30 rfl ?_
      refine g_aload_n C dX5_number_33 rfl rfl rfl ?_
      refine f_X5_135 C dX5_number_34 rfl ?_
      obtain ⟨hin, h⟩ := h
      refine g_ild C dX5_number_37 arr_98 hin rfl ?_
      refine g_bipush C dX5_number_38 bp_48 rfl ?_
      refine g_isub C dX5_number_40 rfl ?_
      refine g_istore_n C dX5_number_41 rfl (Nat.le_of_ble_eq_true rfl) (L' := [some (.ref (ad V 93)), none, some (.int y2), some (.int ((σ 98 (σ 93 12).toNatClampNeg) - 48))]) rfl rfl ?_
      refine g_aload_n C dX5_number_42 rfl rfl rfl ?_
      refine g_dup C dX5_number_43 rfl rfl ?_
      refine f_X5_135 C dX5_number_44 rfl ?_
      refine g_iconst C dX5_number_47 ic_1 rfl ?_
      refine g_iadd C dX5_number_48 rfl ?_
      refine p_X5_135 C dX5_number_49 rfl h (fun σ4 h => ?_)
      refine h (fun (σ5 : Mem) (x6 : Int32) => GG V X σ5 52 [some (.ref (ad V 93)), none, some (.int y2), some (.int x6)] []) (fun σ5 x6 h => ?_)
      refine g_iload_n C dX5_number_52 rfl rfl rfl ?_
      refine g_if_le C dX5_number_53 (tgt := 119) rfl rfl (fun q => ?_) (fun q => ?_)
      · have h := h.1 q
        refine g_iload_n C dX5_number_119 rfl rfl rfl ?_
        exact g_iret C dX5_number_120 D h
      · have h := h.2 q
        refine g_aload_n C dX5_number_56 rfl rfl rfl ?_
        refine g_bipush C dX5_number_57 bp_48 rfl ?_
        refine g_bipush C dX5_number_59 bp_57 rfl ?_
        refine k_X5_138 C dX5_number_61 (Nat.le_of_ble_eq_true rfl) (by decide) rfl rfl h (fun r8 h => ?_)
        refine g_if_eq C dX5_number_64 (tgt := 119) rfl rfl (fun q => ?_) (fun q => ?_)
        · have h := h.1 q
          refine g_iload_n C dX5_number_119 rfl rfl rfl ?_
          exact g_iret C dX5_number_120 D h
        · have h := h.2 q
          refine g_bipush C dX5_number_67 bp_10 rfl ?_
          refine g_iload_n C dX5_number_69 rfl rfl rfl ?_
          refine g_imul C dX5_number_70 rfl ?_
          refine g_aload_n C dX5_number_71 rfl rfl rfl ?_
          refine f_X5_22 C dX5_number_72 rfl ?_
          refine g_aload_n C dX5_number_75 rfl rfl rfl ?_
          refine f_X5_135 C dX5_number_76 rfl ?_
          obtain ⟨hin, h⟩ := h
          refine g_ild C dX5_number_79 arr_98 hin rfl ?_
          refine g_iadd C dX5_number_80 rfl ?_
          refine g_bipush C dX5_number_81 bp_48 rfl ?_
          refine g_isub C dX5_number_83 rfl ?_
          refine g_iload_n C dX5_number_84 rfl rfl rfl ?_
          refine g_icmp_gt C dX5_number_85 (tgt := 119) rfl rfl (fun q => ?_) (fun q => ?_)
          · have h := h.1 q
            refine g_iload_n C dX5_number_119 rfl rfl rfl ?_
            exact g_iret C dX5_number_120 D h
          · have h := h.2 q
            refine g_bipush C dX5_number_88 bp_10 rfl ?_
            refine g_iload_n C dX5_number_90 rfl rfl rfl ?_
            refine g_imul C dX5_number_91 rfl ?_
            refine g_aload_n C dX5_number_92 rfl rfl rfl ?_
            refine f_X5_22 C dX5_number_93 rfl ?_
            refine g_aload_n C dX5_number_96 rfl rfl rfl ?_
            refine f_X5_135 C dX5_number_97 rfl ?_
            obtain ⟨hin, h⟩ := h
            refine g_ild C dX5_number_100 arr_98 hin rfl ?_
            refine g_iadd C dX5_number_101 rfl ?_
            refine g_bipush C dX5_number_102 bp_48 rfl ?_
            refine g_isub C dX5_number_104 rfl ?_
            refine g_istore_n C dX5_number_105 rfl (Nat.le_of_ble_eq_true rfl) (L' := [some (.ref (ad V 93)), none, some (.int y2), some (.int (((10 * x6) + (σ5 98 (σ5 93 12).toNatClampNeg)) - 48))]) rfl rfl ?_
            refine g_aload_n C dX5_number_106 rfl rfl rfl ?_
            refine g_dup C dX5_number_107 rfl rfl ?_
            refine f_X5_135 C dX5_number_108 rfl ?_
            refine g_iconst C dX5_number_111 ic_1 rfl ?_
            refine g_iadd C dX5_number_112 rfl ?_
            refine p_X5_135 C dX5_number_113 rfl h (fun σ9 h => ?_)
            refine g_goto C dX5_number_116 (pc' := 52) rfl ?_
            exact h
    · have h := h.1 q
      refine g_bipush C dX5_number_26 bp_m5 rfl ?_
      exact g_iret C dX5_number_28 D h
  refine g_icmp_ge C dX5_number_8 (tgt := 18) rfl rfl (fun q => ?_) (fun q => ?_)
  · have h := h.1 q
    refine g_bipush C dX5_number_18 bp_57 rfl ?_
    refine g_drop 1 (L' := [some (.ref (ad V 93)), none, some (.int y2), none]) rfl ?_
    exact hJ2 57 h
  · have h := h.2 q
    refine g_bipush C dX5_number_11 bp_48 rfl ?_
    refine g_iload_n C dX5_number_13 rfl rfl rfl ?_
    refine g_iadd C dX5_number_14 rfl ?_
    refine g_goto C dX5_number_15 (pc' := 20) rfl ?_
    refine g_drop 1 (L' := [some (.ref (ad V 93)), none, some (.int y2), none]) rfl ?_
    exact hJ2 (48 + y2) h
theorem hd_X5_number : yX5_number.cls ≠ "java/lang/invoke/MethodHandle" ∧ yX5_number.cls ≠ "java/lang/invoke/VarHandle" ∧ (parseMethodDescriptor yX5_number.desc).map (fun d => d.parameters.length) = some 2 := by decide +kernel
theorem k_X5_141 {V : EV} {X : CX} {cc : ByteArray} {nL : Nat} {R : Room} {y1 : Int32} {y2 : Int32} (C : OK V X RX5 cc nL R) {σ : Mem} {pc pc' : Nat} {L : List (Option Value)} {st : List Value} {P : Int32 → Mem → Prop} (d : decode cc pc = .ok (.invokevirtual 141, 3)) (hst : (st.map fun v => v.category).sum ≤ 8) (hr : 2 + 1 ≤ R.frames ∧ 8 + (4 + 11) + 44 ≤ R.locals) (hL : L.length = nL) (hp : pc + 3 = pc') (h : wp_X5_number σ y1 y2 P) (k : ∀ r τ, P r τ → GG V X τ pc' L (.int r :: st)) : GG V X σ pc L (.int y2 :: .int y1 :: .ref (ad V 93) :: st) :=
  g_callVi C (av := [.int y1, .int y2]) (fun l => c_X5_number V σ y1 y2 P l) (by decide) (en_93 V σ) (q := (RX5, TX5, 13)) rfl rfl ml_RX5_141 im_X5_number se_X5_number ini_RX5 co_X5_number hd_X5_number rfl ⟨rfl, rfl⟩ hr hst d hL hp h k

theorem dX5_readPage_0 : decode cX5_readPage 0 = .ok (.aload_n 0, 1) := by decide +kernel
theorem dX5_readPage_1 : decode cX5_readPage 1 = .ok (.iconst 0, 1) := by decide +kernel
theorem dX5_readPage_2 : decode cX5_readPage 2 = .ok (.iconst 4, 1) := by decide +kernel
theorem dX5_readPage_3 : decode cX5_readPage 3 = .ok (.invokevirtual 141, 3) := by decide +kernel
theorem dX5_readPage_6 : decode cX5_readPage 6 = .ok (.istore_n 1, 1) := by decide +kernel
theorem dX5_readPage_7 : decode cX5_readPage 7 = .ok (.iload_n 1, 1) := by decide +kernel
theorem dX5_readPage_8 : decode cX5_readPage 8 = .ok (.bipush (-5), 2) := by decide +kernel
theorem dX5_readPage_10 : decode cX5_readPage 10 = .ok (.if_icmp .ne 8, 3) := by decide +kernel
theorem dX5_readPage_13 : decode cX5_readPage 13 = .ok (.bipush (-5), 2) := by decide +kernel
theorem dX5_readPage_15 : decode cX5_readPage 15 = .ok (.goto 10, 3) := by decide +kernel
theorem dX5_readPage_18 : decode cX5_readPage 18 = .ok (.aload_n 0, 1) := by decide +kernel
theorem dX5_readPage_19 : decode cX5_readPage 19 = .ok (.iconst 0, 1) := by decide +kernel
theorem dX5_readPage_20 : decode cX5_readPage 20 = .ok (.bipush 9, 2) := by decide +kernel
theorem dX5_readPage_22 : decode cX5_readPage 22 = .ok (.invokevirtual 141, 3) := by decide +kernel
theorem dX5_readPage_25 : decode cX5_readPage 25 = .ok (.istore_n 2, 1) := by decide +kernel
theorem dX5_readPage_26 : decode cX5_readPage 26 = .ok (.iload_n 2, 1) := by decide +kernel
theorem dX5_readPage_27 : decode cX5_readPage 27 = .ok (.bipush (-5), 2) := by decide +kernel
theorem dX5_readPage_29 : decode cX5_readPage 29 = .ok (.if_icmp .ne 8, 3) := by decide +kernel
theorem dX5_readPage_32 : decode cX5_readPage 32 = .ok (.bipush (-5), 2) := by decide +kernel
theorem dX5_readPage_34 : decode cX5_readPage 34 = .ok (.goto 9, 3) := by decide +kernel
theorem dX5_readPage_37 : decode cX5_readPage 37 = .ok (.bipush 10, 2) := by decide +kernel
theorem dX5_readPage_39 : decode cX5_readPage 39 = .ok (.iload_n 1, 1) := by decide +kernel
theorem dX5_readPage_40 : decode cX5_readPage 40 = .ok (.imul, 1) := by decide +kernel
theorem dX5_readPage_41 : decode cX5_readPage 41 = .ok (.iload_n 2, 1) := by decide +kernel
theorem dX5_readPage_42 : decode cX5_readPage 42 = .ok (.iadd, 1) := by decide +kernel
theorem dX5_readPage_43 : decode cX5_readPage 43 = .ok (.ireturn, 1) := by decide +kernel
def wp_X5_readPage (σ : Mem) (P : Int32 → Mem → Prop) : Prop :=
  wp_X5_number σ 0 4 (fun r1 σ2 =>
    jn (A := Mem → Int32 → Prop) (fun (σ3 : Mem) (v4 : Int32) =>
    ((v4 = (-5) →
      P (-5) σ3) ∧
      (¬ v4 = (-5) →
      P ((10 * r1) + v4) σ3)))
    (fun J5 =>
    ((r1 = (-5) →
    J5 σ2 (-5)) ∧
    (¬ r1 = (-5) →
    wp_X5_number σ2 0 9 (fun r6 σ7 =>
      J5 σ7 r6)))))
set_option maxRecDepth 100000 in
set_option maxHeartbeats 4000000 in
theorem c_X5_readPage (V : EV) (σ : Mem) (P : Int32 → Mem → Prop) (l : Launch) : Met l yX5_readPage (.code yX5_readPage cX5_readPage 3 (some .int) :: AW) { frames := 3, cells := 0, slots := 0, locals := 67 } (va_Pc [.ref (ad V 93)] (fun U => wP V σ U ∧ wp_X5_readPage σ P)) (va_Qi P (wB V) (AA V)) 0 0 (AA V) := by
  refine met_i V σ (own := RX5) (by decide +kernel) rfl (fun v hv => by simp at hv; subst hv; rfl) (Nat.le_of_ble_eq_true rfl) (fun X C D h => ?_) l
  show GG V X σ 0 [some (.ref (ad V 93)), none, none] []
  refine g_aload_n C dX5_readPage_0 rfl rfl rfl ?_
  refine g_iconst C dX5_readPage_1 ic_0 rfl ?_
  refine g_iconst C dX5_readPage_2 ic_4 rfl ?_
  refine k_X5_141 C dX5_readPage_3 (Nat.le_of_ble_eq_true rfl) (by decide) rfl rfl h (fun r1 σ2 h => ?_)
  refine g_istore_n C dX5_readPage_6 rfl (Nat.le_of_ble_eq_true rfl) (L' := [some (.ref (ad V 93)), some (.int r1), none]) rfl rfl ?_
  refine g_iload_n C dX5_readPage_7 rfl rfl rfl ?_
  refine g_bipush C dX5_readPage_8 bp_m5 rfl ?_
  refine jn_go h (fun (J5 : Mem → Int32 → Prop) => ∀ (σ3 : Mem) (v4 : Int32), J5 σ3 v4 → GG V X σ3 25 [none, some (.int r1), none] [.int v4]) (fun σ3 v4 h => ?_) (fun J5 hJ5 h => ?_)
  · refine g_istore_n C dX5_readPage_25 rfl (Nat.le_of_ble_eq_true rfl) (L' := [none, some (.int r1), some (.int v4)]) rfl rfl ?_
    refine g_iload_n C dX5_readPage_26 rfl rfl rfl ?_
    refine g_bipush C dX5_readPage_27 bp_m5 rfl ?_
    refine g_icmp_ne C dX5_readPage_29 (tgt := 37) rfl rfl (fun q => ?_) (fun q => ?_)
    · have h := h.2 q
      refine g_bipush C dX5_readPage_37 bp_10 rfl ?_
      refine g_iload_n C dX5_readPage_39 rfl rfl rfl ?_
      refine g_imul C dX5_readPage_40 rfl ?_
      refine g_iload_n C dX5_readPage_41 rfl rfl rfl ?_
      refine g_iadd C dX5_readPage_42 rfl ?_
      exact g_iret C dX5_readPage_43 D h
    · have h := h.1 q
      refine g_bipush C dX5_readPage_32 bp_m5 rfl ?_
      refine g_goto C dX5_readPage_34 (pc' := 43) rfl ?_
      exact g_iret C dX5_readPage_43 D h
  refine g_icmp_ne C dX5_readPage_10 (tgt := 18) rfl rfl (fun q => ?_) (fun q => ?_)
  · have h := h.2 q
    refine g_aload_n C dX5_readPage_18 rfl rfl rfl ?_
    refine g_iconst C dX5_readPage_19 ic_0 rfl ?_
    refine g_bipush C dX5_readPage_20 bp_9 rfl ?_
    refine k_X5_141 C dX5_readPage_22 (Nat.le_of_ble_eq_true rfl) (by decide) rfl rfl h (fun r6 σ7 h => ?_)
    refine g_drop 0 (L' := [none, some (.int r1), none]) rfl ?_
    exact hJ5 σ7 r6 h
  · have h := h.1 q
    refine g_bipush C dX5_readPage_13 bp_m5 rfl ?_
    refine g_goto C dX5_readPage_15 (pc' := 25) rfl ?_
    refine g_drop 0 (L' := [none, some (.int r1), none]) rfl ?_
    exact hJ5 σ2 (-5) h
theorem hd_X5_readPage : yX5_readPage.cls ≠ "java/lang/invoke/MethodHandle" ∧ yX5_readPage.cls ≠ "java/lang/invoke/VarHandle" ∧ (parseMethodDescriptor yX5_readPage.desc).map (fun d => d.parameters.length) = some 0 := by decide +kernel
theorem k_X5_147 {V : EV} {X : CX} {cc : ByteArray} {nL : Nat} {R : Room} (C : OK V X RX5 cc nL R) {σ : Mem} {pc pc' : Nat} {L : List (Option Value)} {st : List Value} {P : Int32 → Mem → Prop} (d : decode cc pc = .ok (.invokevirtual 147, 3)) (hst : (st.map fun v => v.category).sum ≤ 8) (hr : 3 + 1 ≤ R.frames ∧ 8 + (3 + 11) + 67 ≤ R.locals) (hL : L.length = nL) (hp : pc + 3 = pc') (h : wp_X5_readPage σ P) (k : ∀ r τ, P r τ → GG V X τ pc' L (.int r :: st)) : GG V X σ pc L (.ref (ad V 93) :: st) :=
  g_callVi C (av := []) (fun l => c_X5_readPage V σ P l) (by decide) (en_93 V σ) (q := (RX5, TX5, 13)) rfl rfl ml_RX5_147 im_X5_readPage se_X5_readPage ini_RX5 co_X5_readPage hd_X5_readPage rfl ⟨rfl, rfl⟩ hr hst d hL hp h k

theorem dX5_readThing_0 : decode cX5_readThing 0 = .ok (.aload_n 0, 1) := by decide +kernel
theorem dX5_readThing_1 : decode cX5_readThing 1 = .ok (.getfield 135, 3) := by decide +kernel
theorem dX5_readThing_4 : decode cX5_readThing 4 = .ok (.aload_n 0, 1) := by decide +kernel
theorem dX5_readThing_5 : decode cX5_readThing 5 = .ok (.getfield 132, 3) := by decide +kernel
theorem dX5_readThing_8 : decode cX5_readThing 8 = .ok (.if_icmp .ge 15, 3) := by decide +kernel
theorem dX5_readThing_11 : decode cX5_readThing 11 = .ok (.aload_n 0, 1) := by decide +kernel
theorem dX5_readThing_12 : decode cX5_readThing 12 = .ok (.getfield 22, 3) := by decide +kernel
theorem dX5_readThing_15 : decode cX5_readThing 15 = .ok (.aload_n 0, 1) := by decide +kernel
theorem dX5_readThing_16 : decode cX5_readThing 16 = .ok (.getfield 135, 3) := by decide +kernel
theorem dX5_readThing_19 : decode cX5_readThing 19 = .ok (.iaload, 1) := by decide +kernel
theorem dX5_readThing_20 : decode cX5_readThing 20 = .ok (.goto 4, 3) := by decide +kernel
theorem dX5_readThing_23 : decode cX5_readThing 23 = .ok (.iconst 0, 1) := by decide +kernel
theorem dX5_readThing_24 : decode cX5_readThing 24 = .ok (.istore_n 1, 1) := by decide +kernel
theorem dX5_readThing_25 : decode cX5_readThing 25 = .ok (.iconst 3, 1) := by decide +kernel
theorem dX5_readThing_26 : decode cX5_readThing 26 = .ok (.aload_n 0, 1) := by decide +kernel
theorem dX5_readThing_27 : decode cX5_readThing 27 = .ok (.getfield 144, 3) := by decide +kernel
theorem dX5_readThing_30 : decode cX5_readThing 30 = .ok (.imul, 1) := by decide +kernel
theorem dX5_readThing_31 : decode cX5_readThing 31 = .ok (.istore_n 2, 1) := by decide +kernel
theorem dX5_readThing_32 : decode cX5_readThing 32 = .ok (.iconst 0, 1) := by decide +kernel
theorem dX5_readThing_33 : decode cX5_readThing 33 = .ok (.istore_n 3, 1) := by decide +kernel
theorem dX5_readThing_34 : decode cX5_readThing 34 = .ok (.iconst 0, 1) := by decide +kernel
theorem dX5_readThing_35 : decode cX5_readThing 35 = .ok (.istore 4, 2) := by decide +kernel
theorem dX5_readThing_37 : decode cX5_readThing 37 = .ok (.iload_n 1, 1) := by decide +kernel
theorem dX5_readThing_38 : decode cX5_readThing 38 = .ok (.bipush 119, 2) := by decide +kernel
theorem dX5_readThing_40 : decode cX5_readThing 40 = .ok (.if_icmp .eq 41, 3) := by decide +kernel
theorem dX5_readThing_43 : decode cX5_readThing 43 = .ok (.iload_n 1, 1) := by decide +kernel
theorem dX5_readThing_44 : decode cX5_readThing 44 = .ok (.bipush 102, 2) := by decide +kernel
theorem dX5_readThing_46 : decode cX5_readThing 46 = .ok (.if_icmp .eq 35, 3) := by decide +kernel
theorem dX5_readThing_49 : decode cX5_readThing 49 = .ok (.iload_n 1, 1) := by decide +kernel
theorem dX5_readThing_50 : decode cX5_readThing 50 = .ok (.bipush 112, 2) := by decide +kernel
theorem dX5_readThing_52 : decode cX5_readThing 52 = .ok (.if_icmp .eq 29, 3) := by decide +kernel
theorem dX5_readThing_55 : decode cX5_readThing 55 = .ok (.iload_n 1, 1) := by decide +kernel
theorem dX5_readThing_56 : decode cX5_readThing 56 = .ok (.bipush 101, 2) := by decide +kernel
theorem dX5_readThing_58 : decode cX5_readThing 58 = .ok (.if_icmp .eq 23, 3) := by decide +kernel
theorem dX5_readThing_61 : decode cX5_readThing 61 = .ok (.iload_n 1, 1) := by decide +kernel
theorem dX5_readThing_62 : decode cX5_readThing 62 = .ok (.bipush 104, 2) := by decide +kernel
theorem dX5_readThing_64 : decode cX5_readThing 64 = .ok (.if_icmp .eq 17, 3) := by decide +kernel
theorem dX5_readThing_67 : decode cX5_readThing 67 = .ok (.iload_n 1, 1) := by decide +kernel
theorem dX5_readThing_68 : decode cX5_readThing 68 = .ok (.bipush 46, 2) := by decide +kernel
theorem dX5_readThing_70 : decode cX5_readThing 70 = .ok (.if_icmp .eq 11, 3) := by decide +kernel
theorem dX5_readThing_73 : decode cX5_readThing 73 = .ok (.iload_n 1, 1) := by decide +kernel
theorem dX5_readThing_74 : decode cX5_readThing 74 = .ok (.bipush 115, 2) := by decide +kernel
theorem dX5_readThing_76 : decode cX5_readThing 76 = .ok (.if_icmp .eq 5, 3) := by decide +kernel
theorem dX5_readThing_79 : decode cX5_readThing 79 = .ok (.iconst 0, 1) := by decide +kernel
theorem dX5_readThing_80 : decode cX5_readThing 80 = .ok (.ireturn, 1) := by decide +kernel
theorem dX5_readThing_81 : decode cX5_readThing 81 = .ok (.aload_n 0, 1) := by decide +kernel
theorem dX5_readThing_82 : decode cX5_readThing 82 = .ok (.dup, 1) := by decide +kernel
theorem dX5_readThing_83 : decode cX5_readThing 83 = .ok (.getfield 135, 3) := by decide +kernel
theorem dX5_readThing_86 : decode cX5_readThing 86 = .ok (.iconst 1, 1) := by decide +kernel
theorem dX5_readThing_87 : decode cX5_readThing 87 = .ok (.iadd, 1) := by decide +kernel
theorem dX5_readThing_88 : decode cX5_readThing 88 = .ok (.putfield 135, 3) := by decide +kernel
theorem dX5_readThing_91 : decode cX5_readThing 91 = .ok (.iload_n 1, 1) := by decide +kernel
theorem dX5_readThing_92 : decode cX5_readThing 92 = .ok (.lookupswitch 128 #[(46, 117), (101, 106), (102, 98), (104, 106), (112, 98), (119, 60)], 60) := by decide +kernel
theorem dX5_readThing_152 : decode cX5_readThing 152 = .ok (.aload_n 0, 1) := by decide +kernel
theorem dX5_readThing_153 : decode cX5_readThing 153 = .ok (.invokevirtual 147, 3) := by decide +kernel
theorem dX5_readThing_156 : decode cX5_readThing 156 = .ok (.istore_n 3, 1) := by decide +kernel
theorem dX5_readThing_157 : decode cX5_readThing 157 = .ok (.iload_n 3, 1) := by decide +kernel
theorem dX5_readThing_158 : decode cX5_readThing 158 = .ok (.bipush (-5), 2) := by decide +kernel
theorem dX5_readThing_160 : decode cX5_readThing 160 = .ok (.if_icmp .eq 23, 3) := by decide +kernel
theorem dX5_readThing_163 : decode cX5_readThing 163 = .ok (.aload_n 0, 1) := by decide +kernel
theorem dX5_readThing_164 : decode cX5_readThing 164 = .ok (.bipush 61, 2) := by decide +kernel
theorem dX5_readThing_166 : decode cX5_readThing 166 = .ok (.invokevirtual 150, 3) := by decide +kernel
theorem dX5_readThing_169 : decode cX5_readThing 169 = .ok (.ifCond .eq 14, 3) := by decide +kernel
theorem dX5_readThing_172 : decode cX5_readThing 172 = .ok (.aload_n 0, 1) := by decide +kernel
theorem dX5_readThing_173 : decode cX5_readThing 173 = .ok (.iconst 0, 1) := by decide +kernel
theorem dX5_readThing_174 : decode cX5_readThing 174 = .ok (.sipush 9999, 3) := by decide +kernel
theorem dX5_readThing_177 : decode cX5_readThing 177 = .ok (.invokevirtual 141, 3) := by decide +kernel
theorem dX5_readThing_180 : decode cX5_readThing 180 = .ok (.goto 5, 3) := by decide +kernel
theorem dX5_readThing_183 : decode cX5_readThing 183 = .ok (.bipush (-5), 2) := by decide +kernel
theorem dX5_readThing_185 : decode cX5_readThing 185 = .ok (.istore 4, 2) := by decide +kernel
theorem dX5_readThing_187 : decode cX5_readThing 187 = .ok (.goto 33, 3) := by decide +kernel
theorem dX5_readThing_190 : decode cX5_readThing 190 = .ok (.aload_n 0, 1) := by decide +kernel
theorem dX5_readThing_191 : decode cX5_readThing 191 = .ok (.invokevirtual 147, 3) := by decide +kernel
theorem dX5_readThing_194 : decode cX5_readThing 194 = .ok (.istore_n 3, 1) := by decide +kernel
theorem dX5_readThing_195 : decode cX5_readThing 195 = .ok (.goto 25, 3) := by decide +kernel
theorem dX5_readThing_198 : decode cX5_readThing 198 = .ok (.aload_n 0, 1) := by decide +kernel
theorem dX5_readThing_199 : decode cX5_readThing 199 = .ok (.iconst 0, 1) := by decide +kernel
theorem dX5_readThing_200 : decode cX5_readThing 200 = .ok (.bipush 39, 2) := by decide +kernel
theorem dX5_readThing_202 : decode cX5_readThing 202 = .ok (.invokevirtual 141, 3) := by decide +kernel
theorem dX5_readThing_205 : decode cX5_readThing 205 = .ok (.istore_n 3, 1) := by decide +kernel
theorem dX5_readThing_206 : decode cX5_readThing 206 = .ok (.goto 14, 3) := by decide +kernel
theorem dX5_readThing_209 : decode cX5_readThing 209 = .ok (.aload_n 0, 1) := by decide +kernel
theorem dX5_readThing_210 : decode cX5_readThing 210 = .ok (.iconst 1, 1) := by decide +kernel
theorem dX5_readThing_211 : decode cX5_readThing 211 = .ok (.bipush 99, 2) := by decide +kernel
theorem dX5_readThing_213 : decode cX5_readThing 213 = .ok (.invokevirtual 141, 3) := by decide +kernel
theorem dX5_readThing_216 : decode cX5_readThing 216 = .ok (.istore_n 3, 1) := by decide +kernel
theorem dX5_readThing_217 : decode cX5_readThing 217 = .ok (.goto 3, 3) := by decide +kernel
theorem dX5_readThing_220 : decode cX5_readThing 220 = .ok (.aload_n 0, 1) := by decide +kernel
theorem dX5_readThing_221 : decode cX5_readThing 221 = .ok (.getfield 25, 3) := by decide +kernel
theorem dX5_readThing_224 : decode cX5_readThing 224 = .ok (.iload_n 2, 1) := by decide +kernel
theorem dX5_readThing_225 : decode cX5_readThing 225 = .ok (.iload_n 1, 1) := by decide +kernel
theorem dX5_readThing_226 : decode cX5_readThing 226 = .ok (.iastore, 1) := by decide +kernel
theorem dX5_readThing_227 : decode cX5_readThing 227 = .ok (.aload_n 0, 1) := by decide +kernel
theorem dX5_readThing_228 : decode cX5_readThing 228 = .ok (.getfield 25, 3) := by decide +kernel
theorem dX5_readThing_231 : decode cX5_readThing 231 = .ok (.iload_n 2, 1) := by decide +kernel
theorem dX5_readThing_232 : decode cX5_readThing 232 = .ok (.iconst 1, 1) := by decide +kernel
theorem dX5_readThing_233 : decode cX5_readThing 233 = .ok (.iadd, 1) := by decide +kernel
theorem dX5_readThing_234 : decode cX5_readThing 234 = .ok (.iload_n 3, 1) := by decide +kernel
theorem dX5_readThing_235 : decode cX5_readThing 235 = .ok (.iastore, 1) := by decide +kernel
theorem dX5_readThing_236 : decode cX5_readThing 236 = .ok (.aload_n 0, 1) := by decide +kernel
theorem dX5_readThing_237 : decode cX5_readThing 237 = .ok (.getfield 25, 3) := by decide +kernel
theorem dX5_readThing_240 : decode cX5_readThing 240 = .ok (.iload_n 2, 1) := by decide +kernel
theorem dX5_readThing_241 : decode cX5_readThing 241 = .ok (.iconst 2, 1) := by decide +kernel
theorem dX5_readThing_242 : decode cX5_readThing 242 = .ok (.iadd, 1) := by decide +kernel
theorem dX5_readThing_243 : decode cX5_readThing 243 = .ok (.iload 4, 2) := by decide +kernel
theorem dX5_readThing_245 : decode cX5_readThing 245 = .ok (.iastore, 1) := by decide +kernel
theorem dX5_readThing_246 : decode cX5_readThing 246 = .ok (.aload_n 0, 1) := by decide +kernel
theorem dX5_readThing_247 : decode cX5_readThing 247 = .ok (.dup, 1) := by decide +kernel
theorem dX5_readThing_248 : decode cX5_readThing 248 = .ok (.getfield 144, 3) := by decide +kernel
theorem dX5_readThing_251 : decode cX5_readThing 251 = .ok (.iconst 1, 1) := by decide +kernel
theorem dX5_readThing_252 : decode cX5_readThing 252 = .ok (.iadd, 1) := by decide +kernel
theorem dX5_readThing_253 : decode cX5_readThing 253 = .ok (.putfield 144, 3) := by decide +kernel
theorem dX5_readThing_256 : decode cX5_readThing 256 = .ok (.iload_n 3, 1) := by decide +kernel
theorem dX5_readThing_257 : decode cX5_readThing 257 = .ok (.bipush (-5), 2) := by decide +kernel
theorem dX5_readThing_259 : decode cX5_readThing 259 = .ok (.if_icmp .eq 14, 3) := by decide +kernel
theorem dX5_readThing_262 : decode cX5_readThing 262 = .ok (.iload 4, 2) := by decide +kernel
theorem dX5_readThing_264 : decode cX5_readThing 264 = .ok (.bipush (-5), 2) := by decide +kernel
theorem dX5_readThing_266 : decode cX5_readThing 266 = .ok (.if_icmp .eq 7, 3) := by decide +kernel
theorem dX5_readThing_269 : decode cX5_readThing 269 = .ok (.iconst 1, 1) := by decide +kernel
theorem dX5_readThing_270 : decode cX5_readThing 270 = .ok (.goto 4, 3) := by decide +kernel
theorem dX5_readThing_273 : decode cX5_readThing 273 = .ok (.iconst 0, 1) := by decide +kernel
theorem dX5_readThing_274 : decode cX5_readThing 274 = .ok (.ireturn, 1) := by decide +kernel
def wp_X5_readThing (σ : Mem) (P : Int32 → Mem → Prop) : Prop :=
  jn (A := Int32 → Prop) (fun (v1 : Int32) =>
    jn (A := Prop) (bm (up2 σ 93 12 ((σ 93 12) + 1)) (fun σ4 =>
        jn (A := Mem → Int32 → Int32 → Prop) (fun (σ5 : Mem) (x6 : Int32) (x7 : Int32) =>
        vp_in (3 * (σ 93 11)) 93 ∧ bm (up2 σ5 99 (3 * (σ 93 11)).toNatClampNeg v1) (fun σ9 =>
          vp_in ((3 * (σ 93 11)) + 1) 93 ∧ bm (up2 σ9 99 ((3 * (σ 93 11)) + 1).toNatClampNeg x6) (fun σ10 =>
          vp_in ((3 * (σ 93 11)) + 2) 93 ∧ bm (up2 σ10 99 ((3 * (σ 93 11)) + 2).toNatClampNeg x7) (fun σ11 =>
          bm (up2 σ11 93 11 ((σ11 93 11) + 1)) (fun σ12 =>
          ((x6 = (-5) →
          P 0 σ12) ∧
          (¬ x6 = (-5) →
          ((x7 = (-5) →
            P 0 σ12) ∧
            (¬ x7 = (-5) →
            P 1 σ12)))))))))
        (fun J8 =>
        ((v1 = 46 →
        wp_X5_number σ4 1 99 (fun r13 σ14 =>
          J8 σ14 r13 0)) ∧
        (¬ v1 = 46 →
        ((v1 = 101 →
        wp_X5_number σ4 0 39 (fun r15 σ16 =>
          J8 σ16 r15 0)) ∧
        (¬ v1 = 101 →
        ((v1 = 102 →
        wp_X5_readPage σ4  (fun r17 σ18 =>
          J8 σ18 r17 0)) ∧
        (¬ v1 = 102 →
        ((v1 = 104 →
        wp_X5_number σ4 0 39 (fun r19 σ20 =>
          J8 σ20 r19 0)) ∧
        (¬ v1 = 104 →
        ((v1 = 112 →
        wp_X5_readPage σ4  (fun r21 σ22 =>
          J8 σ22 r21 0)) ∧
        (¬ v1 = 112 →
        ((v1 = 119 →
        wp_X5_readPage σ4  (fun r23 σ24 =>
          ((r23 = (-5) →
          J8 σ24 r23 (-5)) ∧
          (¬ r23 = (-5) →
          wp_X5_takes σ24 61 (fun r25 σ26 =>
            ((r25 = 0 →
            J8 σ26 r23 (-5)) ∧
            (¬ r25 = 0 →
            wp_X5_number σ26 0 9999 (fun r27 σ28 =>
              J8 σ28 r23 r27)))))))) ∧
        (¬ v1 = 119 →
        J8 σ4 0 0)))))))))))))))
      (fun J3 =>
      ((v1 = 119 →
      J3) ∧
      (¬ v1 = 119 →
      ((v1 = 102 →
        J3) ∧
        (¬ v1 = 102 →
        ((v1 = 112 →
          J3) ∧
          (¬ v1 = 112 →
          ((v1 = 101 →
            J3) ∧
            (¬ v1 = 101 →
            ((v1 = 104 →
              J3) ∧
              (¬ v1 = 104 →
              ((v1 = 46 →
                J3) ∧
                (¬ v1 = 46 →
                ((v1 = 115 →
                  J3) ∧
                  (¬ v1 = 115 →
                  P 0 σ))))))))))))))))
    (fun J2 =>
    (((σ 93 7) ≤ (σ 93 12) →
    J2 0) ∧
    (¬ (σ 93 7) ≤ (σ 93 12) →
    vp_in (σ 93 12) 60 ∧ J2 (σ 98 (σ 93 12).toNatClampNeg))))
set_option maxRecDepth 100000 in
set_option maxHeartbeats 4000000 in
theorem c_X5_readThing (V : EV) (σ : Mem) (P : Int32 → Mem → Prop) (l : Launch) : Met l yX5_readThing (.code yX5_readThing cX5_readThing 5 (some .boolean) :: AW) { frames := 4, cells := 0, slots := 0, locals := 89 } (va_Pc [.ref (ad V 93)] (fun U => wP V σ U ∧ wp_X5_readThing σ P)) (va_Qi P (wB V) (AA V)) 0 0 (AA V) := by
  refine met_i V σ (own := RX5) (by decide +kernel) rfl (fun v hv => by simp at hv; subst hv; rfl) (Nat.le_of_ble_eq_true rfl) (fun X C D h => ?_) l
  show GG V X σ 0 [some (.ref (ad V 93)), none, none, none, none] []
  refine g_aload_n C dX5_readThing_0 rfl rfl rfl ?_
  refine f_X5_135 C dX5_readThing_1 rfl ?_
  refine g_aload_n C dX5_readThing_4 rfl rfl rfl ?_
  refine f_X5_132 C dX5_readThing_5 rfl ?_
  refine jn_go h (fun (J2 : Int32 → Prop) => ∀ (v1 : Int32), J2 v1 → GG V X σ 24 [some (.ref (ad V 93)), none, none, none, none] [.int v1]) (fun v1 h => ?_) (fun J2 hJ2 h => ?_)
  · refine g_istore_n C dX5_readThing_24 rfl (Nat.le_of_ble_eq_true rfl) (L' := [some (.ref (ad V 93)), some (.int v1), none, none, none]) rfl rfl ?_
    refine g_iconst C dX5_readThing_25 ic_3 rfl ?_
    refine g_aload_n C dX5_readThing_26 rfl rfl rfl ?_
    refine f_X5_144 C dX5_readThing_27 rfl ?_
    refine g_imul C dX5_readThing_30 rfl ?_
    refine g_istore_n C dX5_readThing_31 rfl (Nat.le_of_ble_eq_true rfl) (L' := [some (.ref (ad V 93)), some (.int v1), some (.int (3 * (σ 93 11))), none, none]) rfl rfl ?_
    refine g_iconst C dX5_readThing_32 ic_0 rfl ?_
    refine g_istore_n C dX5_readThing_33 rfl (Nat.le_of_ble_eq_true rfl) (L' := [some (.ref (ad V 93)), some (.int v1), some (.int (3 * (σ 93 11))), some (.int 0), none]) rfl rfl ?_
    refine g_iconst C dX5_readThing_34 ic_0 rfl ?_
    refine g_istore C dX5_readThing_35 (Nat.le_of_ble_eq_true rfl) (L' := [some (.ref (ad V 93)), some (.int v1), some (.int (3 * (σ 93 11))), some (.int 0), some (.int 0)]) rfl rfl ?_
    refine g_iload_n C dX5_readThing_37 rfl rfl rfl ?_
    refine g_bipush C dX5_readThing_38 bp_119 rfl ?_
    refine jn_go h (fun (J3 : Prop) => J3 → GG V X σ 81 [some (.ref (ad V 93)), some (.int v1), some (.int (3 * (σ 93 11))), some (.int 0), some (.int 0)] []) (fun h => ?_) (fun J3 hJ3 h => ?_)
    · refine g_aload_n C dX5_readThing_81 rfl rfl rfl ?_
      refine g_dup C dX5_readThing_82 rfl rfl ?_
      refine f_X5_135 C dX5_readThing_83 rfl ?_
      refine g_iconst C dX5_readThing_86 ic_1 rfl ?_
      refine g_iadd C dX5_readThing_87 rfl ?_
      refine p_X5_135 C dX5_readThing_88 rfl h (fun σ4 h => ?_)
      refine g_iload_n C dX5_readThing_91 rfl rfl rfl ?_
      refine jn_go h (fun (J8 : Mem → Int32 → Int32 → Prop) => ∀ (σ5 : Mem) (x6 : Int32) (x7 : Int32), J8 σ5 x6 x7 → GG V X σ5 220 [some (.ref (ad V 93)), some (.int v1), some (.int (3 * (σ 93 11))), some (.int x6), some (.int x7)] []) (fun σ5 x6 x7 h => ?_) (fun J8 hJ8 h => ?_)
      · refine g_aload_n C dX5_readThing_220 rfl rfl rfl ?_
        refine f_X5_25 C dX5_readThing_221 rfl ?_
        refine g_iload_n C dX5_readThing_224 rfl rfl rfl ?_
        refine g_iload_n C dX5_readThing_225 rfl rfl rfl ?_
        obtain ⟨hin, h⟩ := h
        refine g_ist C dX5_readThing_226 arr_99 hin rfl h (fun σ9 h => ?_)
        refine g_aload_n C dX5_readThing_227 rfl rfl rfl ?_
        refine f_X5_25 C dX5_readThing_228 rfl ?_
        refine g_iload_n C dX5_readThing_231 rfl rfl rfl ?_
        refine g_iconst C dX5_readThing_232 ic_1 rfl ?_
        refine g_iadd C dX5_readThing_233 rfl ?_
        refine g_iload_n C dX5_readThing_234 rfl rfl rfl ?_
        obtain ⟨hin, h⟩ := h
        refine g_ist C dX5_readThing_235 arr_99 hin rfl h (fun σ10 h => ?_)
        refine g_aload_n C dX5_readThing_236 rfl rfl rfl ?_
        refine f_X5_25 C dX5_readThing_237 rfl ?_
        refine g_iload_n C dX5_readThing_240 rfl rfl rfl ?_
        refine g_iconst C dX5_readThing_241 ic_2 rfl ?_
        refine g_iadd C dX5_readThing_242 rfl ?_
        refine g_iload C dX5_readThing_243 rfl rfl ?_
        obtain ⟨hin, h⟩ := h
        refine g_ist C dX5_readThing_245 arr_99 hin rfl h (fun σ11 h => ?_)
        refine g_aload_n C dX5_readThing_246 rfl rfl rfl ?_
        refine g_dup C dX5_readThing_247 rfl rfl ?_
        refine f_X5_144 C dX5_readThing_248 rfl ?_
        refine g_iconst C dX5_readThing_251 ic_1 rfl ?_
        refine g_iadd C dX5_readThing_252 rfl ?_
        refine p_X5_144 C dX5_readThing_253 rfl h (fun σ12 h => ?_)
        refine g_iload_n C dX5_readThing_256 rfl rfl rfl ?_
        refine g_bipush C dX5_readThing_257 bp_m5 rfl ?_
        refine g_icmp_eq C dX5_readThing_259 (tgt := 273) rfl rfl (fun q => ?_) (fun q => ?_)
        · have h := h.1 q
          refine g_iconst C dX5_readThing_273 ic_0 rfl ?_
          exact g_zret C dX5_readThing_274 D (by decide) h
        · have h := h.2 q
          refine g_iload C dX5_readThing_262 rfl rfl ?_
          refine g_bipush C dX5_readThing_264 bp_m5 rfl ?_
          refine g_icmp_eq C dX5_readThing_266 (tgt := 273) rfl rfl (fun q => ?_) (fun q => ?_)
          · have h := h.1 q
            refine g_iconst C dX5_readThing_273 ic_0 rfl ?_
            exact g_zret C dX5_readThing_274 D (by decide) h
          · have h := h.2 q
            refine g_iconst C dX5_readThing_269 ic_1 rfl ?_
            refine g_goto C dX5_readThing_270 (pc' := 274) rfl ?_
            exact g_zret C dX5_readThing_274 D (by decide) h
      by_cases q46 : v1 = 46
      · have h := h.1 q46
        refine g_lookK C dX5_readThing_92 q46 (by decide) (off := 117) (by rfl) (pc' := 209) rfl ?_
        refine g_aload_n C dX5_readThing_209 rfl rfl rfl ?_
        refine g_iconst C dX5_readThing_210 ic_1 rfl ?_
        refine g_bipush C dX5_readThing_211 bp_99 rfl ?_
        refine k_X5_141 C dX5_readThing_213 (Nat.le_of_ble_eq_true rfl) (by decide) rfl rfl h (fun r13 σ14 h => ?_)
        refine g_istore_n C dX5_readThing_216 rfl (Nat.le_of_ble_eq_true rfl) (L' := [some (.ref (ad V 93)), some (.int v1), some (.int (3 * (σ 93 11))), some (.int r13), some (.int 0)]) rfl rfl ?_
        refine g_goto C dX5_readThing_217 (pc' := 220) rfl ?_
        exact hJ8 σ14 r13 0 h
      have h := h.2 q46
      by_cases q101 : v1 = 101
      · have h := h.1 q101
        refine g_lookK C dX5_readThing_92 q101 (by decide) (off := 106) (by rfl) (pc' := 198) rfl ?_
        refine g_aload_n C dX5_readThing_198 rfl rfl rfl ?_
        refine g_iconst C dX5_readThing_199 ic_0 rfl ?_
        refine g_bipush C dX5_readThing_200 bp_39 rfl ?_
        refine k_X5_141 C dX5_readThing_202 (Nat.le_of_ble_eq_true rfl) (by decide) rfl rfl h (fun r15 σ16 h => ?_)
        refine g_istore_n C dX5_readThing_205 rfl (Nat.le_of_ble_eq_true rfl) (L' := [some (.ref (ad V 93)), some (.int v1), some (.int (3 * (σ 93 11))), some (.int r15), some (.int 0)]) rfl rfl ?_
        refine g_goto C dX5_readThing_206 (pc' := 220) rfl ?_
        exact hJ8 σ16 r15 0 h
      have h := h.2 q101
      by_cases q102 : v1 = 102
      · have h := h.1 q102
        refine g_lookK C dX5_readThing_92 q102 (by decide) (off := 98) (by rfl) (pc' := 190) rfl ?_
        refine g_aload_n C dX5_readThing_190 rfl rfl rfl ?_
        refine k_X5_147 C dX5_readThing_191 (Nat.le_of_ble_eq_true rfl) (by decide) rfl rfl h (fun r17 σ18 h => ?_)
        refine g_istore_n C dX5_readThing_194 rfl (Nat.le_of_ble_eq_true rfl) (L' := [some (.ref (ad V 93)), some (.int v1), some (.int (3 * (σ 93 11))), some (.int r17), some (.int 0)]) rfl rfl ?_
        refine g_goto C dX5_readThing_195 (pc' := 220) rfl ?_
        exact hJ8 σ18 r17 0 h
      have h := h.2 q102
      by_cases q104 : v1 = 104
      · have h := h.1 q104
        refine g_lookK C dX5_readThing_92 q104 (by decide) (off := 106) (by rfl) (pc' := 198) rfl ?_
        refine g_aload_n C dX5_readThing_198 rfl rfl rfl ?_
        refine g_iconst C dX5_readThing_199 ic_0 rfl ?_
        refine g_bipush C dX5_readThing_200 bp_39 rfl ?_
        refine k_X5_141 C dX5_readThing_202 (Nat.le_of_ble_eq_true rfl) (by decide) rfl rfl h (fun r19 σ20 h => ?_)
        refine g_istore_n C dX5_readThing_205 rfl (Nat.le_of_ble_eq_true rfl) (L' := [some (.ref (ad V 93)), some (.int v1), some (.int (3 * (σ 93 11))), some (.int r19), some (.int 0)]) rfl rfl ?_
        refine g_goto C dX5_readThing_206 (pc' := 220) rfl ?_
        exact hJ8 σ20 r19 0 h
      have h := h.2 q104
      by_cases q112 : v1 = 112
      · have h := h.1 q112
        refine g_lookK C dX5_readThing_92 q112 (by decide) (off := 98) (by rfl) (pc' := 190) rfl ?_
        refine g_aload_n C dX5_readThing_190 rfl rfl rfl ?_
        refine k_X5_147 C dX5_readThing_191 (Nat.le_of_ble_eq_true rfl) (by decide) rfl rfl h (fun r21 σ22 h => ?_)
        refine g_istore_n C dX5_readThing_194 rfl (Nat.le_of_ble_eq_true rfl) (L' := [some (.ref (ad V 93)), some (.int v1), some (.int (3 * (σ 93 11))), some (.int r21), some (.int 0)]) rfl rfl ?_
        refine g_goto C dX5_readThing_195 (pc' := 220) rfl ?_
        exact hJ8 σ22 r21 0 h
      have h := h.2 q112
      by_cases q119 : v1 = 119
      · have h := h.1 q119
        refine g_lookK C dX5_readThing_92 q119 (by decide) (off := 60) (by rfl) (pc' := 152) rfl ?_
        refine g_aload_n C dX5_readThing_152 rfl rfl rfl ?_
        refine k_X5_147 C dX5_readThing_153 (Nat.le_of_ble_eq_true rfl) (by decide) rfl rfl h (fun r23 σ24 h => ?_)
        refine g_istore_n C dX5_readThing_156 rfl (Nat.le_of_ble_eq_true rfl) (L' := [some (.ref (ad V 93)), some (.int v1), some (.int (3 * (σ 93 11))), some (.int r23), some (.int 0)]) rfl rfl ?_
        refine g_iload_n C dX5_readThing_157 rfl rfl rfl ?_
        refine g_bipush C dX5_readThing_158 bp_m5 rfl ?_
        refine g_icmp_eq C dX5_readThing_160 (tgt := 183) rfl rfl (fun q => ?_) (fun q => ?_)
        · have h := h.1 q
          refine g_bipush C dX5_readThing_183 bp_m5 rfl ?_
          refine g_istore C dX5_readThing_185 (Nat.le_of_ble_eq_true rfl) (L' := [some (.ref (ad V 93)), some (.int v1), some (.int (3 * (σ 93 11))), some (.int r23), some (.int (-5))]) rfl rfl ?_
          refine g_goto C dX5_readThing_187 (pc' := 220) rfl ?_
          exact hJ8 σ24 r23 (-5) h
        · have h := h.2 q
          refine g_aload_n C dX5_readThing_163 rfl rfl rfl ?_
          refine g_bipush C dX5_readThing_164 bp_61 rfl ?_
          refine k_X5_150 C dX5_readThing_166 (Nat.le_of_ble_eq_true rfl) (by decide) rfl rfl h (fun r25 σ26 h => ?_)
          refine g_if_eq C dX5_readThing_169 (tgt := 183) rfl rfl (fun q => ?_) (fun q => ?_)
          · have h := h.1 q
            refine g_bipush C dX5_readThing_183 bp_m5 rfl ?_
            refine g_istore C dX5_readThing_185 (Nat.le_of_ble_eq_true rfl) (L' := [some (.ref (ad V 93)), some (.int v1), some (.int (3 * (σ 93 11))), some (.int r23), some (.int (-5))]) rfl rfl ?_
            refine g_goto C dX5_readThing_187 (pc' := 220) rfl ?_
            exact hJ8 σ26 r23 (-5) h
          · have h := h.2 q
            refine g_aload_n C dX5_readThing_172 rfl rfl rfl ?_
            refine g_iconst C dX5_readThing_173 ic_0 rfl ?_
            refine g_sipush C dX5_readThing_174 sp_9999 rfl ?_
            refine k_X5_141 C dX5_readThing_177 (Nat.le_of_ble_eq_true rfl) (by decide) rfl rfl h (fun r27 σ28 h => ?_)
            refine g_goto C dX5_readThing_180 (pc' := 185) rfl ?_
            refine g_istore C dX5_readThing_185 (Nat.le_of_ble_eq_true rfl) (L' := [some (.ref (ad V 93)), some (.int v1), some (.int (3 * (σ 93 11))), some (.int r23), some (.int r27)]) rfl rfl ?_
            refine g_goto C dX5_readThing_187 (pc' := 220) rfl ?_
            exact hJ8 σ28 r23 r27 h
      have h := h.2 q119
      refine g_look C dX5_readThing_92 (by decide) (off := 128) ((lv_osw q46 (by decide)).trans ((lv_osw q101 (by decide)).trans ((lv_osw q102 (by decide)).trans ((lv_osw q104 (by decide)).trans ((lv_osw q112 (by decide)).trans ((lv_osw q119 (by decide)).trans rfl)))))) (pc' := 220) rfl ?_
      exact hJ8 σ4 0 0 h
    refine g_icmp_eq C dX5_readThing_40 (tgt := 81) rfl rfl (fun q => ?_) (fun q => ?_)
    · have h := h.1 q
      exact hJ3 h
    · have h := h.2 q
      refine g_iload_n C dX5_readThing_43 rfl rfl rfl ?_
      refine g_bipush C dX5_readThing_44 bp_102 rfl ?_
      refine g_icmp_eq C dX5_readThing_46 (tgt := 81) rfl rfl (fun q => ?_) (fun q => ?_)
      · have h := h.1 q
        exact hJ3 h
      · have h := h.2 q
        refine g_iload_n C dX5_readThing_49 rfl rfl rfl ?_
        refine g_bipush C dX5_readThing_50 bp_112 rfl ?_
        refine g_icmp_eq C dX5_readThing_52 (tgt := 81) rfl rfl (fun q => ?_) (fun q => ?_)
        · have h := h.1 q
          exact hJ3 h
        · have h := h.2 q
          refine g_iload_n C dX5_readThing_55 rfl rfl rfl ?_
          refine g_bipush C dX5_readThing_56 bp_101 rfl ?_
          refine g_icmp_eq C dX5_readThing_58 (tgt := 81) rfl rfl (fun q => ?_) (fun q => ?_)
          · have h := h.1 q
            exact hJ3 h
          · have h := h.2 q
            refine g_iload_n C dX5_readThing_61 rfl rfl rfl ?_
            refine g_bipush C dX5_readThing_62 bp_104 rfl ?_
            refine g_icmp_eq C dX5_readThing_64 (tgt := 81) rfl rfl (fun q => ?_) (fun q => ?_)
            · have h := h.1 q
              exact hJ3 h
            · have h := h.2 q
              refine g_iload_n C dX5_readThing_67 rfl rfl rfl ?_
              refine g_bipush C dX5_readThing_68 bp_46 rfl ?_
              refine g_icmp_eq C dX5_readThing_70 (tgt := 81) rfl rfl (fun q => ?_) (fun q => ?_)
              · have h := h.1 q
                exact hJ3 h
              · have h := h.2 q
                refine g_iload_n C dX5_readThing_73 rfl rfl rfl ?_
                refine g_bipush C dX5_readThing_74 bp_115 rfl ?_
                refine g_icmp_eq C dX5_readThing_76 (tgt := 81) rfl rfl (fun q => ?_) (fun q => ?_)
                · have h := h.1 q
                  exact hJ3 h
                · have h := h.2 q
                  refine g_iconst C dX5_readThing_79 ic_0 rfl ?_
                  exact g_zret C dX5_readThing_80 D (by decide) h
  refine g_icmp_ge C dX5_readThing_8 (tgt := 23) rfl rfl (fun q => ?_) (fun q => ?_)
  · have h := h.1 q
    refine g_iconst C dX5_readThing_23 ic_0 rfl ?_
    exact hJ2 0 h
  · have h := h.2 q
    refine g_aload_n C dX5_readThing_11 rfl rfl rfl ?_
    refine f_X5_22 C dX5_readThing_12 rfl ?_
    refine g_aload_n C dX5_readThing_15 rfl rfl rfl ?_
    refine f_X5_135 C dX5_readThing_16 rfl ?_
    obtain ⟨hin, h⟩ := h
    refine g_ild C dX5_readThing_19 arr_98 hin rfl ?_
    refine g_goto C dX5_readThing_20 (pc' := 24) rfl ?_
    exact hJ2 (σ 98 (σ 93 12).toNatClampNeg) h
theorem hd_X5_readThing : yX5_readThing.cls ≠ "java/lang/invoke/MethodHandle" ∧ yX5_readThing.cls ≠ "java/lang/invoke/VarHandle" ∧ (parseMethodDescriptor yX5_readThing.desc).map (fun d => d.parameters.length) = some 0 := by decide +kernel
theorem k_X5_153 {V : EV} {X : CX} {cc : ByteArray} {nL : Nat} {R : Room} (C : OK V X RX5 cc nL R) {σ : Mem} {pc pc' : Nat} {L : List (Option Value)} {st : List Value} {P : Int32 → Mem → Prop} (d : decode cc pc = .ok (.invokevirtual 153, 3)) (hst : (st.map fun v => v.category).sum ≤ 8) (hr : 4 + 1 ≤ R.frames ∧ 8 + (5 + 11) + 89 ≤ R.locals) (hL : L.length = nL) (hp : pc + 3 = pc') (h : wp_X5_readThing σ P) (k : ∀ r τ, P r τ → GG V X τ pc' L (.int r :: st)) : GG V X σ pc L (.ref (ad V 93) :: st) :=
  g_callVi C (av := []) (fun l => c_X5_readThing V σ P l) (by decide) (en_93 V σ) (q := (RX5, TX5, 13)) rfl rfl ml_RX5_153 im_X5_readThing se_X5_readThing ini_RX5 co_X5_readThing hd_X5_readThing rfl ⟨rfl, rfl⟩ hr hst d hL hp h k

theorem dX5_readText_0 : decode cX5_readText 0 = .ok (.aload_n 0, 1) := by decide +kernel
theorem dX5_readText_1 : decode cX5_readText 1 = .ok (.iconst 0, 1) := by decide +kernel
theorem dX5_readText_2 : decode cX5_readText 2 = .ok (.putfield 135, 3) := by decide +kernel
theorem dX5_readText_5 : decode cX5_readText 5 = .ok (.aload_n 0, 1) := by decide +kernel
theorem dX5_readText_6 : decode cX5_readText 6 = .ok (.iconst 0, 1) := by decide +kernel
theorem dX5_readText_7 : decode cX5_readText 7 = .ok (.putfield 144, 3) := by decide +kernel
theorem dX5_readText_10 : decode cX5_readText 10 = .ok (.aload_n 0, 1) := by decide +kernel
theorem dX5_readText_11 : decode cX5_readText 11 = .ok (.invokevirtual 153, 3) := by decide +kernel
theorem dX5_readText_14 : decode cX5_readText 14 = .ok (.istore_n 1, 1) := by decide +kernel
theorem dX5_readText_15 : decode cX5_readText 15 = .ok (.iload_n 1, 1) := by decide +kernel
theorem dX5_readText_16 : decode cX5_readText 16 = .ok (.ifCond .eq 39, 3) := by decide +kernel
theorem dX5_readText_19 : decode cX5_readText 19 = .ok (.aload_n 0, 1) := by decide +kernel
theorem dX5_readText_20 : decode cX5_readText 20 = .ok (.getfield 135, 3) := by decide +kernel
theorem dX5_readText_23 : decode cX5_readText 23 = .ok (.aload_n 0, 1) := by decide +kernel
theorem dX5_readText_24 : decode cX5_readText 24 = .ok (.getfield 132, 3) := by decide +kernel
theorem dX5_readText_27 : decode cX5_readText 27 = .ok (.if_icmp .ge 28, 3) := by decide +kernel
theorem dX5_readText_30 : decode cX5_readText 30 = .ok (.aload_n 0, 1) := by decide +kernel
theorem dX5_readText_31 : decode cX5_readText 31 = .ok (.bipush 59, 2) := by decide +kernel
theorem dX5_readText_33 : decode cX5_readText 33 = .ok (.invokevirtual 150, 3) := by decide +kernel
theorem dX5_readText_36 : decode cX5_readText 36 = .ok (.ifCond .eq 14, 3) := by decide +kernel
theorem dX5_readText_39 : decode cX5_readText 39 = .ok (.aload_n 0, 1) := by decide +kernel
theorem dX5_readText_40 : decode cX5_readText 40 = .ok (.invokevirtual 153, 3) := by decide +kernel
theorem dX5_readText_43 : decode cX5_readText 43 = .ok (.ifCond .eq 7, 3) := by decide +kernel
theorem dX5_readText_46 : decode cX5_readText 46 = .ok (.iconst 1, 1) := by decide +kernel
theorem dX5_readText_47 : decode cX5_readText 47 = .ok (.goto 4, 3) := by decide +kernel
theorem dX5_readText_50 : decode cX5_readText 50 = .ok (.iconst 0, 1) := by decide +kernel
theorem dX5_readText_51 : decode cX5_readText 51 = .ok (.istore_n 1, 1) := by decide +kernel
theorem dX5_readText_52 : decode cX5_readText 52 = .ok (.goto (-37), 3) := by decide +kernel
theorem dX5_readText_55 : decode cX5_readText 55 = .ok (.iload_n 1, 1) := by decide +kernel
theorem dX5_readText_56 : decode cX5_readText 56 = .ok (.ireturn, 1) := by decide +kernel
def wp_X5_readText (σ : Mem) (P : Int32 → Mem → Prop) : Prop :=
  bm (up2 σ 93 12 0) (fun σ1 =>
    bm (up2 σ1 93 11 0) (fun σ2 =>
    wp_X5_readThing σ2  (fun r3 σ4 =>
    lq2 (fun rec7 (σ5 : Mem) (x6 : Int32) =>
    ((x6 = 0 →
      isZ x6 ∧ P x6 σ5) ∧
      (¬ x6 = 0 →
      (((σ5 93 7) ≤ (σ5 93 12) →
        isZ x6 ∧ P x6 σ5) ∧
        (¬ (σ5 93 7) ≤ (σ5 93 12) →
        wp_X5_takes σ5 59 (fun r8 σ9 =>
          ((r8 = 0 →
          rec7 σ9 0) ∧
          (¬ r8 = 0 →
          wp_X5_readThing σ9  (fun r10 σ11 =>
            ((r10 = 0 →
            rec7 σ11 0) ∧
            (¬ r10 = 0 →
            rec7 σ11 1))))))))))) σ4 r3)))
set_option maxRecDepth 100000 in
set_option maxHeartbeats 4000000 in
theorem c_X5_readText (V : EV) (σ : Mem) (P : Int32 → Mem → Prop) (l : Launch) : Met l yX5_readText (.code yX5_readText cX5_readText 2 (some .boolean) :: AW) { frames := 5, cells := 0, slots := 0, locals := 113 } (va_Pc [.ref (ad V 93)] (fun U => wP V σ U ∧ wp_X5_readText σ P)) (va_Qi P (wB V) (AA V)) 0 0 (AA V) := by
  refine met_i V σ (own := RX5) (by decide +kernel) rfl (fun v hv => by simp at hv; subst hv; rfl) (Nat.le_of_ble_eq_true rfl) (fun X C D h => ?_) l
  show GG V X σ 0 [some (.ref (ad V 93)), none] []
  refine g_aload_n C dX5_readText_0 rfl rfl rfl ?_
  refine g_iconst C dX5_readText_1 ic_0 rfl ?_
  refine p_X5_135 C dX5_readText_2 rfl h (fun σ1 h => ?_)
  refine g_aload_n C dX5_readText_5 rfl rfl rfl ?_
  refine g_iconst C dX5_readText_6 ic_0 rfl ?_
  refine p_X5_144 C dX5_readText_7 rfl h (fun σ2 h => ?_)
  refine g_aload_n C dX5_readText_10 rfl rfl rfl ?_
  refine k_X5_153 C dX5_readText_11 (Nat.le_of_ble_eq_true rfl) (by decide) rfl rfl h (fun r3 σ4 h => ?_)
  refine g_istore_n C dX5_readText_14 rfl (Nat.le_of_ble_eq_true rfl) (L' := [some (.ref (ad V 93)), some (.int r3)]) rfl rfl ?_
  refine h (fun (σ5 : Mem) (x6 : Int32) => GG V X σ5 15 [some (.ref (ad V 93)), some (.int x6)] []) (fun σ5 x6 h => ?_)
  refine g_iload_n C dX5_readText_15 rfl rfl rfl ?_
  refine g_if_eq C dX5_readText_16 (tgt := 55) rfl rfl (fun q => ?_) (fun q => ?_)
  · have h := h.1 q
    refine g_iload_n C dX5_readText_55 rfl rfl rfl ?_
    obtain ⟨hz, h⟩ := h
    exact g_zret C dX5_readText_56 D hz h
  · have h := h.2 q
    refine g_aload_n C dX5_readText_19 rfl rfl rfl ?_
    refine f_X5_135 C dX5_readText_20 rfl ?_
    refine g_aload_n C dX5_readText_23 rfl rfl rfl ?_
    refine f_X5_132 C dX5_readText_24 rfl ?_
    refine g_icmp_ge C dX5_readText_27 (tgt := 55) rfl rfl (fun q => ?_) (fun q => ?_)
    · have h := h.1 q
      refine g_iload_n C dX5_readText_55 rfl rfl rfl ?_
      obtain ⟨hz, h⟩ := h
      exact g_zret C dX5_readText_56 D hz h
    · have h := h.2 q
      refine g_aload_n C dX5_readText_30 rfl rfl rfl ?_
      refine g_bipush C dX5_readText_31 bp_59 rfl ?_
      refine k_X5_150 C dX5_readText_33 (Nat.le_of_ble_eq_true rfl) (by decide) rfl rfl h (fun r8 σ9 h => ?_)
      refine g_if_eq C dX5_readText_36 (tgt := 50) rfl rfl (fun q => ?_) (fun q => ?_)
      · have h := h.1 q
        refine g_iconst C dX5_readText_50 ic_0 rfl ?_
        refine g_istore_n C dX5_readText_51 rfl (Nat.le_of_ble_eq_true rfl) (L' := [some (.ref (ad V 93)), some (.int 0)]) rfl rfl ?_
        refine g_goto C dX5_readText_52 (pc' := 15) rfl ?_
        exact h
      · have h := h.2 q
        refine g_aload_n C dX5_readText_39 rfl rfl rfl ?_
        refine k_X5_153 C dX5_readText_40 (Nat.le_of_ble_eq_true rfl) (by decide) rfl rfl h (fun r10 σ11 h => ?_)
        refine g_if_eq C dX5_readText_43 (tgt := 50) rfl rfl (fun q => ?_) (fun q => ?_)
        · have h := h.1 q
          refine g_iconst C dX5_readText_50 ic_0 rfl ?_
          refine g_istore_n C dX5_readText_51 rfl (Nat.le_of_ble_eq_true rfl) (L' := [some (.ref (ad V 93)), some (.int 0)]) rfl rfl ?_
          refine g_goto C dX5_readText_52 (pc' := 15) rfl ?_
          exact h
        · have h := h.2 q
          refine g_iconst C dX5_readText_46 ic_1 rfl ?_
          refine g_goto C dX5_readText_47 (pc' := 51) rfl ?_
          refine g_istore_n C dX5_readText_51 rfl (Nat.le_of_ble_eq_true rfl) (L' := [some (.ref (ad V 93)), some (.int 1)]) rfl rfl ?_
          refine g_goto C dX5_readText_52 (pc' := 15) rfl ?_
          exact h
theorem hd_X5_readText : yX5_readText.cls ≠ "java/lang/invoke/MethodHandle" ∧ yX5_readText.cls ≠ "java/lang/invoke/VarHandle" ∧ (parseMethodDescriptor yX5_readText.desc).map (fun d => d.parameters.length) = some 0 := by decide +kernel
theorem k_X5_157 {V : EV} {X : CX} {cc : ByteArray} {nL : Nat} {R : Room} (C : OK V X RX5 cc nL R) {σ : Mem} {pc pc' : Nat} {L : List (Option Value)} {st : List Value} {P : Int32 → Mem → Prop} (d : decode cc pc = .ok (.invokevirtual 157, 3)) (hst : (st.map fun v => v.category).sum ≤ 8) (hr : 5 + 1 ≤ R.frames ∧ 8 + (2 + 11) + 113 ≤ R.locals) (hL : L.length = nL) (hp : pc + 3 = pc') (h : wp_X5_readText σ P) (k : ∀ r τ, P r τ → GG V X τ pc' L (.int r :: st)) : GG V X σ pc L (.ref (ad V 93) :: st) :=
  g_callVi C (av := []) (fun l => c_X5_readText V σ P l) (by decide) (en_93 V σ) (q := (RX5, TX5, 13)) rfl rfl ml_RX5_157 im_X5_readText se_X5_readText ini_RX5 co_X5_readText hd_X5_readText rfl ⟨rfl, rfl⟩ hr hst d hL hp h k

theorem dX5_whyNot_0 : decode cX5_whyNot 0 = .ok (.aload_n 0, 1) := by decide +kernel
theorem dX5_whyNot_1 : decode cX5_whyNot 1 = .ok (.getfield 25, 3) := by decide +kernel
theorem dX5_whyNot_4 : decode cX5_whyNot 4 = .ok (.iconst 3, 1) := by decide +kernel
theorem dX5_whyNot_5 : decode cX5_whyNot 5 = .ok (.iload_n 1, 1) := by decide +kernel
theorem dX5_whyNot_6 : decode cX5_whyNot 6 = .ok (.imul, 1) := by decide +kernel
theorem dX5_whyNot_7 : decode cX5_whyNot 7 = .ok (.iconst 1, 1) := by decide +kernel
theorem dX5_whyNot_8 : decode cX5_whyNot 8 = .ok (.iadd, 1) := by decide +kernel
theorem dX5_whyNot_9 : decode cX5_whyNot 9 = .ok (.iaload, 1) := by decide +kernel
theorem dX5_whyNot_10 : decode cX5_whyNot 10 = .ok (.istore_n 2, 1) := by decide +kernel
theorem dX5_whyNot_11 : decode cX5_whyNot 11 = .ok (.aload_n 0, 1) := by decide +kernel
theorem dX5_whyNot_12 : decode cX5_whyNot 12 = .ok (.getfield 25, 3) := by decide +kernel
theorem dX5_whyNot_15 : decode cX5_whyNot 15 = .ok (.iconst 3, 1) := by decide +kernel
theorem dX5_whyNot_16 : decode cX5_whyNot 16 = .ok (.iload_n 1, 1) := by decide +kernel
theorem dX5_whyNot_17 : decode cX5_whyNot 17 = .ok (.imul, 1) := by decide +kernel
theorem dX5_whyNot_18 : decode cX5_whyNot 18 = .ok (.iaload, 1) := by decide +kernel
theorem dX5_whyNot_19 : decode cX5_whyNot 19 = .ok (.lookupswitch 85 #[(46, 79), (101, 73), (104, 73), (112, 55), (119, 49)], 49) := by decide +kernel
theorem dX5_whyNot_68 : decode cX5_whyNot 68 = .ok (.aload_n 0, 1) := by decide +kernel
theorem dX5_whyNot_69 : decode cX5_whyNot 69 = .ok (.iload_n 2, 1) := by decide +kernel
theorem dX5_whyNot_70 : decode cX5_whyNot 70 = .ok (.invokevirtual 92, 3) := by decide +kernel
theorem dX5_whyNot_73 : decode cX5_whyNot 73 = .ok (.ireturn, 1) := by decide +kernel
theorem dX5_whyNot_74 : decode cX5_whyNot 74 = .ok (.aload_n 0, 1) := by decide +kernel
theorem dX5_whyNot_75 : decode cX5_whyNot 75 = .ok (.iload_n 2, 1) := by decide +kernel
theorem dX5_whyNot_76 : decode cX5_whyNot 76 = .ok (.iconst 0, 1) := by decide +kernel
theorem dX5_whyNot_77 : decode cX5_whyNot 77 = .ok (.invokevirtual 40, 3) := by decide +kernel
theorem dX5_whyNot_80 : decode cX5_whyNot 80 = .ok (.bipush (-5), 2) := by decide +kernel
theorem dX5_whyNot_82 : decode cX5_whyNot 82 = .ok (.if_icmp .ne 8, 3) := by decide +kernel
theorem dX5_whyNot_85 : decode cX5_whyNot 85 = .ok (.bipush (-4), 2) := by decide +kernel
theorem dX5_whyNot_87 : decode cX5_whyNot 87 = .ok (.goto 4, 3) := by decide +kernel
theorem dX5_whyNot_90 : decode cX5_whyNot 90 = .ok (.iconst 0, 1) := by decide +kernel
theorem dX5_whyNot_91 : decode cX5_whyNot 91 = .ok (.ireturn, 1) := by decide +kernel
theorem dX5_whyNot_92 : decode cX5_whyNot 92 = .ok (.aload_n 0, 1) := by decide +kernel
theorem dX5_whyNot_93 : decode cX5_whyNot 93 = .ok (.iload_n 2, 1) := by decide +kernel
theorem dX5_whyNot_94 : decode cX5_whyNot 94 = .ok (.invokevirtual 110, 3) := by decide +kernel
theorem dX5_whyNot_97 : decode cX5_whyNot 97 = .ok (.ireturn, 1) := by decide +kernel
theorem dX5_whyNot_98 : decode cX5_whyNot 98 = .ok (.aload_n 0, 1) := by decide +kernel
theorem dX5_whyNot_99 : decode cX5_whyNot 99 = .ok (.iload_n 2, 1) := by decide +kernel
theorem dX5_whyNot_100 : decode cX5_whyNot 100 = .ok (.invokevirtual 126, 3) := by decide +kernel
theorem dX5_whyNot_103 : decode cX5_whyNot 103 = .ok (.ireturn, 1) := by decide +kernel
theorem dX5_whyNot_104 : decode cX5_whyNot 104 = .ok (.iconst 0, 1) := by decide +kernel
theorem dX5_whyNot_105 : decode cX5_whyNot 105 = .ok (.ireturn, 1) := by decide +kernel
def wp_X5_whyNot (σ : Mem) (y1 : Int32) (P : Int32 → Prop) : Prop :=
  vp_in ((3 * y1) + 1) 93 ∧ vp_in (3 * y1) 93 ∧ (((σ 99 (3 * y1).toNatClampNeg) = 46 →
    wp_X5_whyNotPass σ (σ 99 ((3 * y1) + 1).toNatClampNeg) (fun r1 =>
      P r1)) ∧
    (¬ (σ 99 (3 * y1).toNatClampNeg) = 46 →
    (((σ 99 (3 * y1).toNatClampNeg) = 101 →
    wp_X5_whyNotError σ (σ 99 ((3 * y1) + 1).toNatClampNeg) (fun r2 =>
      P r2)) ∧
    (¬ (σ 99 (3 * y1).toNatClampNeg) = 101 →
    (((σ 99 (3 * y1).toNatClampNeg) = 104 →
    wp_X5_whyNotError σ (σ 99 ((3 * y1) + 1).toNatClampNeg) (fun r3 =>
      P r3)) ∧
    (¬ (σ 99 (3 * y1).toNatClampNeg) = 104 →
    (((σ 99 (3 * y1).toNatClampNeg) = 112 →
    wp_X5_of σ (σ 99 ((3 * y1) + 1).toNatClampNeg) 0 (fun r4 =>
      ((r4 = (-5) →
      P (-4)) ∧
      (¬ r4 = (-5) →
      P 0)))) ∧
    (¬ (σ 99 (3 * y1).toNatClampNeg) = 112 →
    (((σ 99 (3 * y1).toNatClampNeg) = 119 →
    wp_X5_whyNotWrite σ (σ 99 ((3 * y1) + 1).toNatClampNeg) (fun r5 =>
      P r5)) ∧
    (¬ (σ 99 (3 * y1).toNatClampNeg) = 119 →
    P 0))))))))))
set_option maxRecDepth 100000 in
set_option maxHeartbeats 4000000 in
theorem c_X5_whyNot (V : EV) (σ : Mem) (y1 : Int32) (P : Int32 → Prop) (l : Launch) : Met l yX5_whyNot (.code yX5_whyNot cX5_whyNot 3 (some .int) :: AW) { frames := 3, cells := 0, slots := 0, locals := 69 } (va_Pc [.ref (ad V 93), .int y1] (fun U => wP V σ U ∧ wp_X5_whyNot σ y1 P)) (va_Qi (fun r τ => τ = σ ∧ P r) (wB V) (AA V)) 0 0 (AA V) := by
  refine met_i V σ (own := RX5) (by decide +kernel) rfl (fun v hv => by simp at hv; rcases hv with rfl | rfl <;> rfl) (Nat.le_of_ble_eq_true rfl) (fun X C D h => ?_) l
  show GG V X σ 0 [some (.ref (ad V 93)), some (.int y1), none] []
  refine g_aload_n C dX5_whyNot_0 rfl rfl rfl ?_
  refine f_X5_25 C dX5_whyNot_1 rfl ?_
  refine g_iconst C dX5_whyNot_4 ic_3 rfl ?_
  refine g_iload_n C dX5_whyNot_5 rfl rfl rfl ?_
  refine g_imul C dX5_whyNot_6 rfl ?_
  refine g_iconst C dX5_whyNot_7 ic_1 rfl ?_
  refine g_iadd C dX5_whyNot_8 rfl ?_
  obtain ⟨hin, h⟩ := h
  refine g_ild C dX5_whyNot_9 arr_99 hin rfl ?_
  refine g_istore_n C dX5_whyNot_10 rfl (Nat.le_of_ble_eq_true rfl) (L' := [some (.ref (ad V 93)), some (.int y1), some (.int (σ 99 ((3 * y1) + 1).toNatClampNeg))]) rfl rfl ?_
  refine g_aload_n C dX5_whyNot_11 rfl rfl rfl ?_
  refine f_X5_25 C dX5_whyNot_12 rfl ?_
  refine g_iconst C dX5_whyNot_15 ic_3 rfl ?_
  refine g_iload_n C dX5_whyNot_16 rfl rfl rfl ?_
  refine g_imul C dX5_whyNot_17 rfl ?_
  obtain ⟨hin, h⟩ := h
  refine g_ild C dX5_whyNot_18 arr_99 hin rfl ?_
  by_cases q46 : (σ 99 (3 * y1).toNatClampNeg) = 46
  · have h := h.1 q46
    refine g_lookK C dX5_whyNot_19 q46 (by decide) (off := 79) (by rfl) (pc' := 98) rfl ?_
    refine g_aload_n C dX5_whyNot_98 rfl rfl rfl ?_
    refine g_iload_n C dX5_whyNot_99 rfl rfl rfl ?_
    refine k_X5_126 C dX5_whyNot_100 (Nat.le_of_ble_eq_true rfl) (by decide) rfl rfl h (fun r1 h => ?_)
    exact g_iret C dX5_whyNot_103 D ⟨rfl, h⟩
  have h := h.2 q46
  by_cases q101 : (σ 99 (3 * y1).toNatClampNeg) = 101
  · have h := h.1 q101
    refine g_lookK C dX5_whyNot_19 q101 (by decide) (off := 73) (by rfl) (pc' := 92) rfl ?_
    refine g_aload_n C dX5_whyNot_92 rfl rfl rfl ?_
    refine g_iload_n C dX5_whyNot_93 rfl rfl rfl ?_
    refine k_X5_110 C dX5_whyNot_94 (Nat.le_of_ble_eq_true rfl) (by decide) rfl rfl h (fun r2 h => ?_)
    exact g_iret C dX5_whyNot_97 D ⟨rfl, h⟩
  have h := h.2 q101
  by_cases q104 : (σ 99 (3 * y1).toNatClampNeg) = 104
  · have h := h.1 q104
    refine g_lookK C dX5_whyNot_19 q104 (by decide) (off := 73) (by rfl) (pc' := 92) rfl ?_
    refine g_aload_n C dX5_whyNot_92 rfl rfl rfl ?_
    refine g_iload_n C dX5_whyNot_93 rfl rfl rfl ?_
    refine k_X5_110 C dX5_whyNot_94 (Nat.le_of_ble_eq_true rfl) (by decide) rfl rfl h (fun r3 h => ?_)
    exact g_iret C dX5_whyNot_97 D ⟨rfl, h⟩
  have h := h.2 q104
  by_cases q112 : (σ 99 (3 * y1).toNatClampNeg) = 112
  · have h := h.1 q112
    refine g_lookK C dX5_whyNot_19 q112 (by decide) (off := 55) (by rfl) (pc' := 74) rfl ?_
    refine g_aload_n C dX5_whyNot_74 rfl rfl rfl ?_
    refine g_iload_n C dX5_whyNot_75 rfl rfl rfl ?_
    refine g_iconst C dX5_whyNot_76 ic_0 rfl ?_
    refine k_X5_40 C dX5_whyNot_77 (Nat.le_of_ble_eq_true rfl) (by decide) rfl rfl h (fun r4 h => ?_)
    refine g_bipush C dX5_whyNot_80 bp_m5 rfl ?_
    refine g_icmp_ne C dX5_whyNot_82 (tgt := 90) rfl rfl (fun q => ?_) (fun q => ?_)
    · have h := h.2 q
      refine g_iconst C dX5_whyNot_90 ic_0 rfl ?_
      exact g_iret C dX5_whyNot_91 D ⟨rfl, h⟩
    · have h := h.1 q
      refine g_bipush C dX5_whyNot_85 bp_m4 rfl ?_
      refine g_goto C dX5_whyNot_87 (pc' := 91) rfl ?_
      exact g_iret C dX5_whyNot_91 D ⟨rfl, h⟩
  have h := h.2 q112
  by_cases q119 : (σ 99 (3 * y1).toNatClampNeg) = 119
  · have h := h.1 q119
    refine g_lookK C dX5_whyNot_19 q119 (by decide) (off := 49) (by rfl) (pc' := 68) rfl ?_
    refine g_aload_n C dX5_whyNot_68 rfl rfl rfl ?_
    refine g_iload_n C dX5_whyNot_69 rfl rfl rfl ?_
    refine k_X5_92 C dX5_whyNot_70 (Nat.le_of_ble_eq_true rfl) (by decide) rfl rfl h (fun r5 h => ?_)
    exact g_iret C dX5_whyNot_73 D ⟨rfl, h⟩
  have h := h.2 q119
  refine g_look C dX5_whyNot_19 (by decide) (off := 85) ((lv_osw q46 (by decide)).trans ((lv_osw q101 (by decide)).trans ((lv_osw q104 (by decide)).trans ((lv_osw q112 (by decide)).trans ((lv_osw q119 (by decide)).trans rfl))))) (pc' := 104) rfl ?_
  refine g_iconst C dX5_whyNot_104 ic_0 rfl ?_
  exact g_iret C dX5_whyNot_105 D ⟨rfl, h⟩
theorem hd_X5_whyNot : yX5_whyNot.cls ≠ "java/lang/invoke/MethodHandle" ∧ yX5_whyNot.cls ≠ "java/lang/invoke/VarHandle" ∧ (parseMethodDescriptor yX5_whyNot.desc).map (fun d => d.parameters.length) = some 1 := by decide +kernel
theorem k_X5_160 {V : EV} {X : CX} {cc : ByteArray} {nL : Nat} {R : Room} {y1 : Int32} (C : OK V X RX5 cc nL R) {σ : Mem} {pc pc' : Nat} {L : List (Option Value)} {st : List Value} {P : Int32 → Prop} (d : decode cc pc = .ok (.invokevirtual 160, 3)) (hst : (st.map fun v => v.category).sum ≤ 8) (hr : 3 + 1 ≤ R.frames ∧ 8 + (3 + 11) + 69 ≤ R.locals) (hL : L.length = nL) (hp : pc + 3 = pc') (h : wp_X5_whyNot σ y1 P) (k : ∀ r, P r → GG V X σ pc' L (.int r :: st)) : GG V X σ pc L (.int y1 :: .ref (ad V 93) :: st) :=
  g_callVi C (av := [.int y1]) (fun l => c_X5_whyNot V σ y1 P l) (by decide) (en_93 V σ) (q := (RX5, TX5, 13)) rfl rfl ml_RX5_160 im_X5_whyNot se_X5_whyNot ini_RX5 co_X5_whyNot hd_X5_whyNot rfl ⟨rfl, rfl⟩ hr hst d hL hp h (fun r τ hq => by obtain ⟨rfl, hq⟩ := hq; exact k r hq)

theorem dX5_doThing_0 : decode cX5_doThing 0 = .ok (.aload_n 0, 1) := by decide +kernel
theorem dX5_doThing_1 : decode cX5_doThing 1 = .ok (.getfield 25, 3) := by decide +kernel
theorem dX5_doThing_4 : decode cX5_doThing 4 = .ok (.iconst 3, 1) := by decide +kernel
theorem dX5_doThing_5 : decode cX5_doThing 5 = .ok (.iload_n 1, 1) := by decide +kernel
theorem dX5_doThing_6 : decode cX5_doThing 6 = .ok (.imul, 1) := by decide +kernel
theorem dX5_doThing_7 : decode cX5_doThing 7 = .ok (.iconst 1, 1) := by decide +kernel
theorem dX5_doThing_8 : decode cX5_doThing 8 = .ok (.iadd, 1) := by decide +kernel
theorem dX5_doThing_9 : decode cX5_doThing 9 = .ok (.iaload, 1) := by decide +kernel
theorem dX5_doThing_10 : decode cX5_doThing 10 = .ok (.istore_n 2, 1) := by decide +kernel
theorem dX5_doThing_11 : decode cX5_doThing 11 = .ok (.aload_n 0, 1) := by decide +kernel
theorem dX5_doThing_12 : decode cX5_doThing 12 = .ok (.getfield 25, 3) := by decide +kernel
theorem dX5_doThing_15 : decode cX5_doThing 15 = .ok (.iconst 3, 1) := by decide +kernel
theorem dX5_doThing_16 : decode cX5_doThing 16 = .ok (.iload_n 1, 1) := by decide +kernel
theorem dX5_doThing_17 : decode cX5_doThing 17 = .ok (.imul, 1) := by decide +kernel
theorem dX5_doThing_18 : decode cX5_doThing 18 = .ok (.iaload, 1) := by decide +kernel
theorem dX5_doThing_19 : decode cX5_doThing 19 = .ok (.tableswitch 157 101 119 #[132, 108, 157, 141, 157, 157, 157, 157, 157, 157, 157, 116, 157, 157, 150, 157, 157, 157, 89], 89) := by decide +kernel
theorem dX5_doThing_108 : decode cX5_doThing 108 = .ok (.aload_n 0, 1) := by decide +kernel
theorem dX5_doThing_109 : decode cX5_doThing 109 = .ok (.iload_n 2, 1) := by decide +kernel
theorem dX5_doThing_110 : decode cX5_doThing 110 = .ok (.aload_n 0, 1) := by decide +kernel
theorem dX5_doThing_111 : decode cX5_doThing 111 = .ok (.getfield 25, 3) := by decide +kernel
theorem dX5_doThing_114 : decode cX5_doThing 114 = .ok (.iconst 3, 1) := by decide +kernel
theorem dX5_doThing_115 : decode cX5_doThing 115 = .ok (.iload_n 1, 1) := by decide +kernel
theorem dX5_doThing_116 : decode cX5_doThing 116 = .ok (.imul, 1) := by decide +kernel
theorem dX5_doThing_117 : decode cX5_doThing 117 = .ok (.iconst 2, 1) := by decide +kernel
theorem dX5_doThing_118 : decode cX5_doThing 118 = .ok (.iadd, 1) := by decide +kernel
theorem dX5_doThing_119 : decode cX5_doThing 119 = .ok (.iaload, 1) := by decide +kernel
theorem dX5_doThing_120 : decode cX5_doThing 120 = .ok (.invokevirtual 95, 3) := by decide +kernel
theorem dX5_doThing_123 : decode cX5_doThing 123 = .ok (.pop, 1) := by decide +kernel
theorem dX5_doThing_124 : decode cX5_doThing 124 = .ok (.goto 58, 3) := by decide +kernel
theorem dX5_doThing_127 : decode cX5_doThing 127 = .ok (.aload_n 0, 1) := by decide +kernel
theorem dX5_doThing_128 : decode cX5_doThing 128 = .ok (.iload_n 2, 1) := by decide +kernel
theorem dX5_doThing_129 : decode cX5_doThing 129 = .ok (.invokevirtual 98, 3) := by decide +kernel
theorem dX5_doThing_132 : decode cX5_doThing 132 = .ok (.goto 50, 3) := by decide +kernel
theorem dX5_doThing_135 : decode cX5_doThing 135 = .ok (.aload_n 0, 1) := by decide +kernel
theorem dX5_doThing_136 : decode cX5_doThing 136 = .ok (.iload_n 2, 1) := by decide +kernel
theorem dX5_doThing_137 : decode cX5_doThing 137 = .ok (.iconst 1, 1) := by decide +kernel
theorem dX5_doThing_138 : decode cX5_doThing 138 = .ok (.aload_n 0, 1) := by decide +kernel
theorem dX5_doThing_139 : decode cX5_doThing 139 = .ok (.iload_n 2, 1) := by decide +kernel
theorem dX5_doThing_140 : decode cX5_doThing 140 = .ok (.iconst 2, 1) := by decide +kernel
theorem dX5_doThing_141 : decode cX5_doThing 141 = .ok (.invokevirtual 40, 3) := by decide +kernel
theorem dX5_doThing_144 : decode cX5_doThing 144 = .ok (.isub, 1) := by decide +kernel
theorem dX5_doThing_145 : decode cX5_doThing 145 = .ok (.invokevirtual 101, 3) := by decide +kernel
theorem dX5_doThing_148 : decode cX5_doThing 148 = .ok (.goto 34, 3) := by decide +kernel
theorem dX5_doThing_151 : decode cX5_doThing 151 = .ok (.aload_n 0, 1) := by decide +kernel
theorem dX5_doThing_152 : decode cX5_doThing 152 = .ok (.iload_n 2, 1) := by decide +kernel
theorem dX5_doThing_153 : decode cX5_doThing 153 = .ok (.invokevirtual 113, 3) := by decide +kernel
theorem dX5_doThing_156 : decode cX5_doThing 156 = .ok (.pop, 1) := by decide +kernel
theorem dX5_doThing_157 : decode cX5_doThing 157 = .ok (.goto 25, 3) := by decide +kernel
theorem dX5_doThing_160 : decode cX5_doThing 160 = .ok (.aload_n 0, 1) := by decide +kernel
theorem dX5_doThing_161 : decode cX5_doThing 161 = .ok (.iload_n 2, 1) := by decide +kernel
theorem dX5_doThing_162 : decode cX5_doThing 162 = .ok (.invokevirtual 116, 3) := by decide +kernel
theorem dX5_doThing_165 : decode cX5_doThing 165 = .ok (.pop, 1) := by decide +kernel
theorem dX5_doThing_166 : decode cX5_doThing 166 = .ok (.goto 16, 3) := by decide +kernel
theorem dX5_doThing_169 : decode cX5_doThing 169 = .ok (.aload_n 0, 1) := by decide +kernel
theorem dX5_doThing_170 : decode cX5_doThing 170 = .ok (.invokevirtual 119, 3) := by decide +kernel
theorem dX5_doThing_173 : decode cX5_doThing 173 = .ok (.goto 9, 3) := by decide +kernel
theorem dX5_doThing_176 : decode cX5_doThing 176 = .ok (.aload_n 0, 1) := by decide +kernel
theorem dX5_doThing_177 : decode cX5_doThing 177 = .ok (.iload_n 2, 1) := by decide +kernel
theorem dX5_doThing_178 : decode cX5_doThing 178 = .ok (.invokevirtual 129, 3) := by decide +kernel
theorem dX5_doThing_181 : decode cX5_doThing 181 = .ok (.pop, 1) := by decide +kernel
theorem dX5_doThing_182 : decode cX5_doThing 182 = .ok (.return_, 1) := by decide +kernel
def wp_X5_doThing (σ : Mem) (y1 : Int32) (P : Mem → Prop) : Prop :=
  vp_in ((3 * y1) + 1) 93 ∧ vp_in (3 * y1) 93 ∧ (((σ 99 (3 * y1).toNatClampNeg) = 101 →
    wp_X5_errorNow σ (σ 99 ((3 * y1) + 1).toNatClampNeg) (fun r1 σ2 =>
      P σ2)) ∧
    (¬ (σ 99 (3 * y1).toNatClampNeg) = 101 →
    (((σ 99 (3 * y1).toNatClampNeg) = 102 →
    wp_X5_giveBackNow σ (σ 99 ((3 * y1) + 1).toNatClampNeg) (fun σ3 =>
      P σ3)) ∧
    (¬ (σ 99 (3 * y1).toNatClampNeg) = 102 →
    (((σ 99 (3 * y1).toNatClampNeg) = 104 →
    wp_X5_hardNow σ (σ 99 ((3 * y1) + 1).toNatClampNeg) (fun r4 σ5 =>
      P σ5)) ∧
    (¬ (σ 99 (3 * y1).toNatClampNeg) = 104 →
    (((σ 99 (3 * y1).toNatClampNeg) = 112 →
    wp_X5_of σ (σ 99 ((3 * y1) + 1).toNatClampNeg) 2 (fun r6 =>
      wp_X5_pinNow σ (σ 99 ((3 * y1) + 1).toNatClampNeg) (1 - r6) (fun σ7 =>
      P σ7))) ∧
    (¬ (σ 99 (3 * y1).toNatClampNeg) = 112 →
    (((σ 99 (3 * y1).toNatClampNeg) = 115 →
    wp_X5_startNow σ  (fun σ8 =>
      P σ8)) ∧
    (¬ (σ 99 (3 * y1).toNatClampNeg) = 115 →
    (((σ 99 (3 * y1).toNatClampNeg) = 119 →
    vp_in ((3 * y1) + 2) 93 ∧ wp_X5_writeNow σ (σ 99 ((3 * y1) + 1).toNatClampNeg) (σ 99 ((3 * y1) + 2).toNatClampNeg) (fun r9 σ10 =>
      P σ10)) ∧
    (¬ (σ 99 (3 * y1).toNatClampNeg) = 119 →
    wp_X5_passNow σ (σ 99 ((3 * y1) + 1).toNatClampNeg) (fun r11 σ12 =>
      P σ12)))))))))))))
set_option maxRecDepth 100000 in
set_option maxHeartbeats 4000000 in
theorem c_X5_doThing (V : EV) (σ : Mem) (y1 : Int32) (P : Mem → Prop) (l : Launch) : Met l yX5_doThing (.code yX5_doThing cX5_doThing 3 (none) :: AW) { frames := 4, cells := 0, slots := 0, locals := 94 } (va_Pc [.ref (ad V 93), .int y1] (fun U => wP V σ U ∧ wp_X5_doThing σ y1 P)) (va_Qv P (wB V) (AA V)) 0 0 (AA V) := by
  refine met_v V σ (own := RX5) (by decide +kernel) rfl (fun v hv => by simp at hv; rcases hv with rfl | rfl <;> rfl) (Nat.le_of_ble_eq_true rfl) (fun X C D h => ?_) l
  show GG V X σ 0 [some (.ref (ad V 93)), some (.int y1), none] []
  refine g_aload_n C dX5_doThing_0 rfl rfl rfl ?_
  refine f_X5_25 C dX5_doThing_1 rfl ?_
  refine g_iconst C dX5_doThing_4 ic_3 rfl ?_
  refine g_iload_n C dX5_doThing_5 rfl rfl rfl ?_
  refine g_imul C dX5_doThing_6 rfl ?_
  refine g_iconst C dX5_doThing_7 ic_1 rfl ?_
  refine g_iadd C dX5_doThing_8 rfl ?_
  obtain ⟨hin, h⟩ := h
  refine g_ild C dX5_doThing_9 arr_99 hin rfl ?_
  refine g_istore_n C dX5_doThing_10 rfl (Nat.le_of_ble_eq_true rfl) (L' := [some (.ref (ad V 93)), some (.int y1), some (.int (σ 99 ((3 * y1) + 1).toNatClampNeg))]) rfl rfl ?_
  refine g_aload_n C dX5_doThing_11 rfl rfl rfl ?_
  refine f_X5_25 C dX5_doThing_12 rfl ?_
  refine g_iconst C dX5_doThing_15 ic_3 rfl ?_
  refine g_iload_n C dX5_doThing_16 rfl rfl rfl ?_
  refine g_imul C dX5_doThing_17 rfl ?_
  obtain ⟨hin, h⟩ := h
  refine g_ild C dX5_doThing_18 arr_99 hin rfl ?_
  by_cases q101 : (σ 99 (3 * y1).toNatClampNeg) = 101
  · have h := h.1 q101
    refine g_tinK C dX5_doThing_19 q101 (by decide) (by decide) (off := 132) (by rfl) (pc' := 151) rfl ?_
    refine g_aload_n C dX5_doThing_151 rfl rfl rfl ?_
    refine g_iload_n C dX5_doThing_152 rfl rfl rfl ?_
    refine k_X5_113 C dX5_doThing_153 (Nat.le_of_ble_eq_true rfl) (by decide) rfl rfl h (fun r1 σ2 h => ?_)
    refine g_pop C dX5_doThing_156 rfl rfl ?_
    refine g_goto C dX5_doThing_157 (pc' := 182) rfl ?_
    exact g_vret C dX5_doThing_182 D h
  have h := h.2 q101
  by_cases q102 : (σ 99 (3 * y1).toNatClampNeg) = 102
  · have h := h.1 q102
    refine g_tinK C dX5_doThing_19 q102 (by decide) (by decide) (off := 108) (by rfl) (pc' := 127) rfl ?_
    refine g_aload_n C dX5_doThing_127 rfl rfl rfl ?_
    refine g_iload_n C dX5_doThing_128 rfl rfl rfl ?_
    refine k_X5_98 C dX5_doThing_129 (Nat.le_of_ble_eq_true rfl) (by decide) rfl rfl h (fun σ3 h => ?_)
    refine g_goto C dX5_doThing_132 (pc' := 182) rfl ?_
    exact g_vret C dX5_doThing_182 D h
  have h := h.2 q102
  by_cases q104 : (σ 99 (3 * y1).toNatClampNeg) = 104
  · have h := h.1 q104
    refine g_tinK C dX5_doThing_19 q104 (by decide) (by decide) (off := 141) (by rfl) (pc' := 160) rfl ?_
    refine g_aload_n C dX5_doThing_160 rfl rfl rfl ?_
    refine g_iload_n C dX5_doThing_161 rfl rfl rfl ?_
    refine k_X5_116 C dX5_doThing_162 (Nat.le_of_ble_eq_true rfl) (by decide) rfl rfl h (fun r4 σ5 h => ?_)
    refine g_pop C dX5_doThing_165 rfl rfl ?_
    refine g_goto C dX5_doThing_166 (pc' := 182) rfl ?_
    exact g_vret C dX5_doThing_182 D h
  have h := h.2 q104
  by_cases q112 : (σ 99 (3 * y1).toNatClampNeg) = 112
  · have h := h.1 q112
    refine g_tinK C dX5_doThing_19 q112 (by decide) (by decide) (off := 116) (by rfl) (pc' := 135) rfl ?_
    refine g_aload_n C dX5_doThing_135 rfl rfl rfl ?_
    refine g_iload_n C dX5_doThing_136 rfl rfl rfl ?_
    refine g_iconst C dX5_doThing_137 ic_1 rfl ?_
    refine g_aload_n C dX5_doThing_138 rfl rfl rfl ?_
    refine g_iload_n C dX5_doThing_139 rfl rfl rfl ?_
    refine g_iconst C dX5_doThing_140 ic_2 rfl ?_
    refine k_X5_40 C dX5_doThing_141 (Nat.le_of_ble_eq_true rfl) (by decide) rfl rfl h (fun r6 h => ?_)
    refine g_isub C dX5_doThing_144 rfl ?_
    refine k_X5_101 C dX5_doThing_145 (Nat.le_of_ble_eq_true rfl) (by decide) rfl rfl h (fun σ7 h => ?_)
    refine g_goto C dX5_doThing_148 (pc' := 182) rfl ?_
    exact g_vret C dX5_doThing_182 D h
  have h := h.2 q112
  by_cases q115 : (σ 99 (3 * y1).toNatClampNeg) = 115
  · have h := h.1 q115
    refine g_tinK C dX5_doThing_19 q115 (by decide) (by decide) (off := 150) (by rfl) (pc' := 169) rfl ?_
    refine g_aload_n C dX5_doThing_169 rfl rfl rfl ?_
    refine k_X5_119 C dX5_doThing_170 (Nat.le_of_ble_eq_true rfl) (by decide) rfl rfl h (fun σ8 h => ?_)
    refine g_goto C dX5_doThing_173 (pc' := 182) rfl ?_
    exact g_vret C dX5_doThing_182 D h
  have h := h.2 q115
  by_cases q119 : (σ 99 (3 * y1).toNatClampNeg) = 119
  · have h := h.1 q119
    refine g_tinK C dX5_doThing_19 q119 (by decide) (by decide) (off := 89) (by rfl) (pc' := 108) rfl ?_
    refine g_aload_n C dX5_doThing_108 rfl rfl rfl ?_
    refine g_iload_n C dX5_doThing_109 rfl rfl rfl ?_
    refine g_aload_n C dX5_doThing_110 rfl rfl rfl ?_
    refine f_X5_25 C dX5_doThing_111 rfl ?_
    refine g_iconst C dX5_doThing_114 ic_3 rfl ?_
    refine g_iload_n C dX5_doThing_115 rfl rfl rfl ?_
    refine g_imul C dX5_doThing_116 rfl ?_
    refine g_iconst C dX5_doThing_117 ic_2 rfl ?_
    refine g_iadd C dX5_doThing_118 rfl ?_
    obtain ⟨hin, h⟩ := h
    refine g_ild C dX5_doThing_119 arr_99 hin rfl ?_
    refine k_X5_95 C dX5_doThing_120 (Nat.le_of_ble_eq_true rfl) (by decide) rfl rfl h (fun r9 σ10 h => ?_)
    refine g_pop C dX5_doThing_123 rfl rfl ?_
    refine g_goto C dX5_doThing_124 (pc' := 182) rfl ?_
    exact g_vret C dX5_doThing_182 D h
  have h := h.2 q119
  have hout : (((σ 99 (3 * y1).toNatClampNeg)).toInt < 101 ∨ 119 < ((σ 99 (3 * y1).toNatClampNeg)).toInt) ∨ (σ 99 (3 * y1).toNatClampNeg) = 103 ∨ (σ 99 (3 * y1).toNatClampNeg) = 105 ∨ (σ 99 (3 * y1).toNatClampNeg) = 106 ∨ (σ 99 (3 * y1).toNatClampNeg) = 107 ∨ (σ 99 (3 * y1).toNatClampNeg) = 108 ∨ (σ 99 (3 * y1).toNatClampNeg) = 109 ∨ (σ 99 (3 * y1).toNatClampNeg) = 110 ∨ (σ 99 (3 * y1).toNatClampNeg) = 111 ∨ (σ 99 (3 * y1).toNatClampNeg) = 113 ∨ (σ 99 (3 * y1).toNatClampNeg) = 114 ∨ (σ 99 (3 * y1).toNatClampNeg) = 116 ∨ (σ 99 (3 * y1).toNatClampNeg) = 117 ∨ (σ 99 (3 * y1).toNatClampNeg) = 118 := by
    rcases tsw_cases ((σ 99 (3 * y1).toNatClampNeg)) 101 19 with hq | ⟨k, hk, he⟩
    · exact Or.inl (by omega)
    · rcases (show k = 0 ∨ k = 1 ∨ k = 2 ∨ k = 3 ∨ k = 4 ∨ k = 5 ∨ k = 6 ∨ k = 7 ∨ k = 8 ∨ k = 9 ∨ k = 10 ∨ k = 11 ∨ k = 12 ∨ k = 13 ∨ k = 14 ∨ k = 15 ∨ k = 16 ∨ k = 17 ∨ k = 18 by omega) with rfl | rfl | rfl | rfl | rfl | rfl | rfl | rfl | rfl | rfl | rfl | rfl | rfl | rfl | rfl | rfl | rfl | rfl | rfl
      · exact absurd (i32_of he (by decide)) q101
      · exact absurd (i32_of he (by decide)) q102
      · exact Or.inr (Or.inl (i32_of he (by decide)))
      · exact absurd (i32_of he (by decide)) q104
      · exact Or.inr (Or.inr (Or.inl (i32_of he (by decide))))
      · exact Or.inr (Or.inr (Or.inr (Or.inl (i32_of he (by decide)))))
      · exact Or.inr (Or.inr (Or.inr (Or.inr (Or.inl (i32_of he (by decide))))))
      · exact Or.inr (Or.inr (Or.inr (Or.inr (Or.inr (Or.inl (i32_of he (by decide)))))))
      · exact Or.inr (Or.inr (Or.inr (Or.inr (Or.inr (Or.inr (Or.inl (i32_of he (by decide))))))))
      · exact Or.inr (Or.inr (Or.inr (Or.inr (Or.inr (Or.inr (Or.inr (Or.inl (i32_of he (by decide)))))))))
      · exact Or.inr (Or.inr (Or.inr (Or.inr (Or.inr (Or.inr (Or.inr (Or.inr (Or.inl (i32_of he (by decide))))))))))
      · exact absurd (i32_of he (by decide)) q112
      · exact Or.inr (Or.inr (Or.inr (Or.inr (Or.inr (Or.inr (Or.inr (Or.inr (Or.inr (Or.inl (i32_of he (by decide)))))))))))
      · exact Or.inr (Or.inr (Or.inr (Or.inr (Or.inr (Or.inr (Or.inr (Or.inr (Or.inr (Or.inr (Or.inl (i32_of he (by decide))))))))))))
      · exact absurd (i32_of he (by decide)) q115
      · exact Or.inr (Or.inr (Or.inr (Or.inr (Or.inr (Or.inr (Or.inr (Or.inr (Or.inr (Or.inr (Or.inr (Or.inl (i32_of he (by decide)))))))))))))
      · exact Or.inr (Or.inr (Or.inr (Or.inr (Or.inr (Or.inr (Or.inr (Or.inr (Or.inr (Or.inr (Or.inr (Or.inr (Or.inl (i32_of he (by decide))))))))))))))
      · exact Or.inr (Or.inr (Or.inr (Or.inr (Or.inr (Or.inr (Or.inr (Or.inr (Or.inr (Or.inr (Or.inr (Or.inr (Or.inr (i32_of he (by decide))))))))))))))
      · exact absurd (i32_of he (by decide)) q119
  have hgo : GG V X σ 176 [some (.ref (ad V 93)), some (.int y1), some (.int (σ 99 ((3 * y1) + 1).toNatClampNeg))] [] := by
    refine g_aload_n C dX5_doThing_176 rfl rfl rfl ?_
    refine g_iload_n C dX5_doThing_177 rfl rfl rfl ?_
    refine k_X5_129 C dX5_doThing_178 (Nat.le_of_ble_eq_true rfl) (by decide) rfl rfl h (fun r11 σ12 h => ?_)
    refine g_pop C dX5_doThing_181 rfl rfl ?_
    exact g_vret C dX5_doThing_182 D h
  rcases hout with hq | hq | hq | hq | hq | hq | hq | hq | hq | hq | hq | hq | hq | hq
  · exact g_tout C dX5_doThing_19 hq (pc' := 176) rfl hgo
  · exact g_tinK C dX5_doThing_19 hq (by decide) (by decide) (off := 157) (by rfl) (pc' := 176) rfl hgo
  · exact g_tinK C dX5_doThing_19 hq (by decide) (by decide) (off := 157) (by rfl) (pc' := 176) rfl hgo
  · exact g_tinK C dX5_doThing_19 hq (by decide) (by decide) (off := 157) (by rfl) (pc' := 176) rfl hgo
  · exact g_tinK C dX5_doThing_19 hq (by decide) (by decide) (off := 157) (by rfl) (pc' := 176) rfl hgo
  · exact g_tinK C dX5_doThing_19 hq (by decide) (by decide) (off := 157) (by rfl) (pc' := 176) rfl hgo
  · exact g_tinK C dX5_doThing_19 hq (by decide) (by decide) (off := 157) (by rfl) (pc' := 176) rfl hgo
  · exact g_tinK C dX5_doThing_19 hq (by decide) (by decide) (off := 157) (by rfl) (pc' := 176) rfl hgo
  · exact g_tinK C dX5_doThing_19 hq (by decide) (by decide) (off := 157) (by rfl) (pc' := 176) rfl hgo
  · exact g_tinK C dX5_doThing_19 hq (by decide) (by decide) (off := 157) (by rfl) (pc' := 176) rfl hgo
  · exact g_tinK C dX5_doThing_19 hq (by decide) (by decide) (off := 157) (by rfl) (pc' := 176) rfl hgo
  · exact g_tinK C dX5_doThing_19 hq (by decide) (by decide) (off := 157) (by rfl) (pc' := 176) rfl hgo
  · exact g_tinK C dX5_doThing_19 hq (by decide) (by decide) (off := 157) (by rfl) (pc' := 176) rfl hgo
  · exact g_tinK C dX5_doThing_19 hq (by decide) (by decide) (off := 157) (by rfl) (pc' := 176) rfl hgo
theorem hd_X5_doThing : yX5_doThing.cls ≠ "java/lang/invoke/MethodHandle" ∧ yX5_doThing.cls ≠ "java/lang/invoke/VarHandle" ∧ (parseMethodDescriptor yX5_doThing.desc).map (fun d => d.parameters.length) = some 1 := by decide +kernel
theorem k_X5_169 {V : EV} {X : CX} {cc : ByteArray} {nL : Nat} {R : Room} {y1 : Int32} (C : OK V X RX5 cc nL R) {σ : Mem} {pc pc' : Nat} {L : List (Option Value)} {st : List Value} {P : Mem → Prop} (d : decode cc pc = .ok (.invokevirtual 169, 3)) (hst : (st.map fun v => v.category).sum ≤ 8) (hr : 4 + 1 ≤ R.frames ∧ 8 + (3 + 11) + 94 ≤ R.locals) (hL : L.length = nL) (hp : pc + 3 = pc') (h : wp_X5_doThing σ y1 P) (k : ∀ τ, P τ → GG V X τ pc' L st) : GG V X σ pc L (.int y1 :: .ref (ad V 93) :: st) :=
  g_callVv C (av := [.int y1]) (fun l => c_X5_doThing V σ y1 P l) (by decide) (en_93 V σ) (q := (RX5, TX5, 13)) rfl rfl ml_RX5_169 im_X5_doThing se_X5_doThing ini_RX5 co_X5_doThing hd_X5_doThing rfl ⟨rfl, rfl⟩ hr hst d hL hp h k

theorem dX5_perform_0 : decode cX5_perform 0 = .ok (.aload_n 0, 1) := by decide +kernel
theorem dX5_perform_1 : decode cX5_perform 1 = .ok (.invokevirtual 157, 3) := by decide +kernel
theorem dX5_perform_4 : decode cX5_perform 4 = .ok (.ifCond .ne 11, 3) := by decide +kernel
theorem dX5_perform_7 : decode cX5_perform 7 = .ok (.bipush (-100), 2) := by decide +kernel
theorem dX5_perform_9 : decode cX5_perform 9 = .ok (.aload_n 0, 1) := by decide +kernel
theorem dX5_perform_10 : decode cX5_perform 10 = .ok (.getfield 135, 3) := by decide +kernel
theorem dX5_perform_13 : decode cX5_perform 13 = .ok (.isub, 1) := by decide +kernel
theorem dX5_perform_14 : decode cX5_perform 14 = .ok (.ireturn, 1) := by decide +kernel
theorem dX5_perform_15 : decode cX5_perform 15 = .ok (.aload_n 0, 1) := by decide +kernel
theorem dX5_perform_16 : decode cX5_perform 16 = .ok (.getfield 7, 3) := by decide +kernel
theorem dX5_perform_19 : decode cX5_perform 19 = .ok (.iconst 0, 1) := by decide +kernel
theorem dX5_perform_20 : decode cX5_perform 20 = .ok (.aload_n 0, 1) := by decide +kernel
theorem dX5_perform_21 : decode cX5_perform 21 = .ok (.getfield 13, 3) := by decide +kernel
theorem dX5_perform_24 : decode cX5_perform 24 = .ok (.iconst 0, 1) := by decide +kernel
theorem dX5_perform_25 : decode cX5_perform 25 = .ok (.invokestatic 48, 3) := by decide +kernel
theorem dX5_perform_28 : decode cX5_perform 28 = .ok (.iconst 0, 1) := by decide +kernel
theorem dX5_perform_29 : decode cX5_perform 29 = .ok (.istore_n 1, 1) := by decide +kernel
theorem dX5_perform_30 : decode cX5_perform 30 = .ok (.iload_n 1, 1) := by decide +kernel
theorem dX5_perform_31 : decode cX5_perform 31 = .ok (.aload_n 0, 1) := by decide +kernel
theorem dX5_perform_32 : decode cX5_perform 32 = .ok (.getfield 144, 3) := by decide +kernel
theorem dX5_perform_35 : decode cX5_perform 35 = .ok (.if_icmp .ge 50, 3) := by decide +kernel
theorem dX5_perform_38 : decode cX5_perform 38 = .ok (.aload_n 0, 1) := by decide +kernel
theorem dX5_perform_39 : decode cX5_perform 39 = .ok (.iload_n 1, 1) := by decide +kernel
theorem dX5_perform_40 : decode cX5_perform 40 = .ok (.invokevirtual 160, 3) := by decide +kernel
theorem dX5_perform_43 : decode cX5_perform 43 = .ok (.istore_n 2, 1) := by decide +kernel
theorem dX5_perform_44 : decode cX5_perform 44 = .ok (.iload_n 2, 1) := by decide +kernel
theorem dX5_perform_45 : decode cX5_perform 45 = .ok (.ifCond .ge 29, 3) := by decide +kernel
theorem dX5_perform_48 : decode cX5_perform 48 = .ok (.aload_n 0, 1) := by decide +kernel
theorem dX5_perform_49 : decode cX5_perform 49 = .ok (.getfield 13, 3) := by decide +kernel
theorem dX5_perform_52 : decode cX5_perform 52 = .ok (.iconst 0, 1) := by decide +kernel
theorem dX5_perform_53 : decode cX5_perform 53 = .ok (.aload_n 0, 1) := by decide +kernel
theorem dX5_perform_54 : decode cX5_perform 54 = .ok (.getfield 7, 3) := by decide +kernel
theorem dX5_perform_57 : decode cX5_perform 57 = .ok (.iconst 0, 1) := by decide +kernel
theorem dX5_perform_58 : decode cX5_perform 58 = .ok (.invokestatic 48, 3) := by decide +kernel
theorem dX5_perform_61 : decode cX5_perform 61 = .ok (.aload_n 0, 1) := by decide +kernel
theorem dX5_perform_62 : decode cX5_perform 62 = .ok (.iload_n 1, 1) := by decide +kernel
theorem dX5_perform_63 : decode cX5_perform 63 = .ok (.putfield 163, 3) := by decide +kernel
theorem dX5_perform_66 : decode cX5_perform 66 = .ok (.aload_n 0, 1) := by decide +kernel
theorem dX5_perform_67 : decode cX5_perform 67 = .ok (.iload_n 2, 1) := by decide +kernel
theorem dX5_perform_68 : decode cX5_perform 68 = .ok (.putfield 166, 3) := by decide +kernel
theorem dX5_perform_71 : decode cX5_perform 71 = .ok (.bipush (-4), 2) := by decide +kernel
theorem dX5_perform_73 : decode cX5_perform 73 = .ok (.ireturn, 1) := by decide +kernel
theorem dX5_perform_74 : decode cX5_perform 74 = .ok (.aload_n 0, 1) := by decide +kernel
theorem dX5_perform_75 : decode cX5_perform 75 = .ok (.iload_n 1, 1) := by decide +kernel
theorem dX5_perform_76 : decode cX5_perform 76 = .ok (.invokevirtual 169, 3) := by decide +kernel
theorem dX5_perform_79 : decode cX5_perform 79 = .ok (.iinc 1 1, 3) := by decide +kernel
theorem dX5_perform_82 : decode cX5_perform 82 = .ok (.goto (-52), 3) := by decide +kernel
theorem dX5_perform_85 : decode cX5_perform 85 = .ok (.aload_n 0, 1) := by decide +kernel
theorem dX5_perform_86 : decode cX5_perform 86 = .ok (.aload_n 0, 1) := by decide +kernel
theorem dX5_perform_87 : decode cX5_perform 87 = .ok (.getfield 13, 3) := by decide +kernel
theorem dX5_perform_90 : decode cX5_perform 90 = .ok (.invokevirtual 52, 3) := by decide +kernel
theorem dX5_perform_93 : decode cX5_perform 93 = .ok (.aload_n 0, 1) := by decide +kernel
theorem dX5_perform_94 : decode cX5_perform 94 = .ok (.getfield 144, 3) := by decide +kernel
theorem dX5_perform_97 : decode cX5_perform 97 = .ok (.ireturn, 1) := by decide +kernel
def wp_X5_perform (σ : Mem) (P : Int32 → Mem → Prop) : Prop :=
  wp_X5_readText σ  (fun r1 σ2 =>
    ((r1 = 0 →
    P (((-100) - (σ2 93 12))) σ2) ∧
    (¬ r1 = 0 →
    wp_X5_copyState σ2 94 0 95 0 (fun σ3 =>
      lq2 (fun rec6 (σ4 : Mem) (x5 : Int32) =>
      (((σ4 93 11) ≤ x5 →
        wp_X5_recordRow σ4 95 (fun σ7 =>
          P (σ7 93 11) σ7)) ∧
        (¬ (σ4 93 11) ≤ x5 →
        wp_X5_whyNot σ4 x5 (fun r8 =>
          ((0 ≤ r8 →
          wp_X5_doThing σ4 x5 (fun σ9 =>
            rec6 σ9 (x5 + 1))) ∧
          (¬ 0 ≤ r8 →
          wp_X5_copyState σ4 95 0 94 0 (fun σ10 =>
            bm (up2 σ10 93 8 x5) (fun σ11 =>
            bm (up2 σ11 93 9 r8) (fun σ12 =>
            P (-4) σ12))))))))) σ3 0))))
set_option maxRecDepth 100000 in
set_option maxHeartbeats 4000000 in
theorem c_X5_perform (V : EV) (σ : Mem) (P : Int32 → Mem → Prop) (l : Launch) : Met l yX5_perform (.code yX5_perform cX5_perform 3 (some .int) :: AW) { frames := 6, cells := 0, slots := 0, locals := 134 } (va_Pc [.ref (ad V 93)] (fun U => wP V σ U ∧ wp_X5_perform σ P)) (va_Qi P (wB V) (AA V)) 0 0 (AA V) := by
  refine met_i V σ (own := RX5) (by decide +kernel) rfl (fun v hv => by simp at hv; subst hv; rfl) (Nat.le_of_ble_eq_true rfl) (fun X C D h => ?_) l
  show GG V X σ 0 [some (.ref (ad V 93)), none, none] []
  refine g_aload_n C dX5_perform_0 rfl rfl rfl ?_
  refine k_X5_157 C dX5_perform_1 (Nat.le_of_ble_eq_true rfl) (by decide) rfl rfl h (fun r1 σ2 h => ?_)
  refine g_if_ne C dX5_perform_4 (tgt := 15) rfl rfl (fun q => ?_) (fun q => ?_)
  · have h := h.2 q
    refine g_aload_n C dX5_perform_15 rfl rfl rfl ?_
    refine f_X5_7 C dX5_perform_16 rfl ?_
    refine g_iconst C dX5_perform_19 ic_0 rfl ?_
    refine g_aload_n C dX5_perform_20 rfl rfl rfl ?_
    refine f_X5_13 C dX5_perform_21 rfl ?_
    refine g_iconst C dX5_perform_24 ic_0 rfl ?_
    refine k_X5_48 isZr_94 isZr_95 C dX5_perform_25 (Nat.le_of_ble_eq_true rfl) (by decide) rfl rfl h (fun σ3 h => ?_)
    refine g_iconst C dX5_perform_28 ic_0 rfl ?_
    refine g_istore_n C dX5_perform_29 rfl (Nat.le_of_ble_eq_true rfl) (L' := [some (.ref (ad V 93)), some (.int 0), none]) rfl rfl ?_
    refine h (fun (σ4 : Mem) (x5 : Int32) => GG V X σ4 30 [some (.ref (ad V 93)), some (.int x5), none] []) (fun σ4 x5 h => ?_)
    refine g_iload_n C dX5_perform_30 rfl rfl rfl ?_
    refine g_aload_n C dX5_perform_31 rfl rfl rfl ?_
    refine f_X5_144 C dX5_perform_32 rfl ?_
    refine g_icmp_ge C dX5_perform_35 (tgt := 85) rfl rfl (fun q => ?_) (fun q => ?_)
    · have h := h.1 q
      refine g_aload_n C dX5_perform_85 rfl rfl rfl ?_
      refine g_aload_n C dX5_perform_86 rfl rfl rfl ?_
      refine f_X5_13 C dX5_perform_87 rfl ?_
      refine k_X5_52 isZr_95 C dX5_perform_90 (Nat.le_of_ble_eq_true rfl) (by decide) rfl rfl h (fun σ7 h => ?_)
      refine g_aload_n C dX5_perform_93 rfl rfl rfl ?_
      refine f_X5_144 C dX5_perform_94 rfl ?_
      exact g_iret C dX5_perform_97 D h
    · have h := h.2 q
      refine g_aload_n C dX5_perform_38 rfl rfl rfl ?_
      refine g_iload_n C dX5_perform_39 rfl rfl rfl ?_
      refine k_X5_160 C dX5_perform_40 (Nat.le_of_ble_eq_true rfl) (by decide) rfl rfl h (fun r8 h => ?_)
      refine g_istore_n C dX5_perform_43 rfl (Nat.le_of_ble_eq_true rfl) (L' := [some (.ref (ad V 93)), some (.int x5), some (.int r8)]) rfl rfl ?_
      refine g_iload_n C dX5_perform_44 rfl rfl rfl ?_
      refine g_if_ge C dX5_perform_45 (tgt := 74) rfl rfl (fun q => ?_) (fun q => ?_)
      · have h := h.1 q
        refine g_aload_n C dX5_perform_74 rfl rfl rfl ?_
        refine g_iload_n C dX5_perform_75 rfl rfl rfl ?_
        refine k_X5_169 C dX5_perform_76 (Nat.le_of_ble_eq_true rfl) (by decide) rfl rfl h (fun σ9 h => ?_)
        refine g_iinc C dX5_perform_79 (v := x5 + 1) (by rw [ic_1]) rfl (Nat.le_of_ble_eq_true rfl) (L' := [some (.ref (ad V 93)), some (.int (x5 + 1)), some (.int r8)]) rfl rfl ?_
        refine g_goto C dX5_perform_82 (pc' := 30) rfl ?_
        refine g_drop 2 (L' := [some (.ref (ad V 93)), some (.int (x5 + 1)), none]) rfl ?_
        exact h
      · have h := h.2 q
        refine g_aload_n C dX5_perform_48 rfl rfl rfl ?_
        refine f_X5_13 C dX5_perform_49 rfl ?_
        refine g_iconst C dX5_perform_52 ic_0 rfl ?_
        refine g_aload_n C dX5_perform_53 rfl rfl rfl ?_
        refine f_X5_7 C dX5_perform_54 rfl ?_
        refine g_iconst C dX5_perform_57 ic_0 rfl ?_
        refine k_X5_48 isZr_95 isZr_94 C dX5_perform_58 (Nat.le_of_ble_eq_true rfl) (by decide) rfl rfl h (fun σ10 h => ?_)
        refine g_aload_n C dX5_perform_61 rfl rfl rfl ?_
        refine g_iload_n C dX5_perform_62 rfl rfl rfl ?_
        refine p_X5_163 C dX5_perform_63 rfl h (fun σ11 h => ?_)
        refine g_aload_n C dX5_perform_66 rfl rfl rfl ?_
        refine g_iload_n C dX5_perform_67 rfl rfl rfl ?_
        refine p_X5_166 C dX5_perform_68 rfl h (fun σ12 h => ?_)
        refine g_bipush C dX5_perform_71 bp_m4 rfl ?_
        exact g_iret C dX5_perform_73 D h
  · have h := h.1 q
    refine g_bipush C dX5_perform_7 bp_m100 rfl ?_
    refine g_aload_n C dX5_perform_9 rfl rfl rfl ?_
    refine f_X5_135 C dX5_perform_10 rfl ?_
    refine g_isub C dX5_perform_13 rfl ?_
    exact g_iret C dX5_perform_14 D h
theorem hd_X5_perform : yX5_perform.cls ≠ "java/lang/invoke/MethodHandle" ∧ yX5_perform.cls ≠ "java/lang/invoke/VarHandle" ∧ (parseMethodDescriptor yX5_perform.desc).map (fun d => d.parameters.length) = some 0 := by decide +kernel

theorem dX5_stopped_0 : decode cX5_stopped 0 = .ok (.iload_n 1, 1) := by decide +kernel
theorem dX5_stopped_1 : decode cX5_stopped 1 = .ok (.iconst 0, 1) := by decide +kernel
theorem dX5_stopped_2 : decode cX5_stopped 2 = .ok (.iconst 1, 1) := by decide +kernel
theorem dX5_stopped_3 : decode cX5_stopped 3 = .ok (.invokestatic 36, 3) := by decide +kernel
theorem dX5_stopped_6 : decode cX5_stopped 6 = .ok (.ifCond .ne 6, 3) := by decide +kernel
theorem dX5_stopped_9 : decode cX5_stopped 9 = .ok (.bipush (-2), 2) := by decide +kernel
theorem dX5_stopped_11 : decode cX5_stopped 11 = .ok (.ireturn, 1) := by decide +kernel
theorem dX5_stopped_12 : decode cX5_stopped 12 = .ok (.aload_n 0, 1) := by decide +kernel
theorem dX5_stopped_13 : decode cX5_stopped 13 = .ok (.getfield 166, 3) := by decide +kernel
theorem dX5_stopped_16 : decode cX5_stopped 16 = .ok (.ifCond .ne 8, 3) := by decide +kernel
theorem dX5_stopped_19 : decode cX5_stopped 19 = .ok (.bipush (-5), 2) := by decide +kernel
theorem dX5_stopped_21 : decode cX5_stopped 21 = .ok (.goto 18, 3) := by decide +kernel
theorem dX5_stopped_24 : decode cX5_stopped 24 = .ok (.iload_n 1, 1) := by decide +kernel
theorem dX5_stopped_25 : decode cX5_stopped 25 = .ok (.ifCond .ne 10, 3) := by decide +kernel
theorem dX5_stopped_28 : decode cX5_stopped 28 = .ok (.aload_n 0, 1) := by decide +kernel
theorem dX5_stopped_29 : decode cX5_stopped 29 = .ok (.getfield 163, 3) := by decide +kernel
theorem dX5_stopped_32 : decode cX5_stopped 32 = .ok (.goto 7, 3) := by decide +kernel
theorem dX5_stopped_35 : decode cX5_stopped 35 = .ok (.aload_n 0, 1) := by decide +kernel
theorem dX5_stopped_36 : decode cX5_stopped 36 = .ok (.getfield 166, 3) := by decide +kernel
theorem dX5_stopped_39 : decode cX5_stopped 39 = .ok (.ireturn, 1) := by decide +kernel
def wp_X5_stopped (σ : Mem) (y1 : Int32) (P : Int32 → Prop) : Prop :=
  wp_X5_in σ y1 0 1 (fun r1 =>
    ((r1 = 0 →
    P (-2)) ∧
    (¬ r1 = 0 →
    (((σ 93 9) = 0 →
      P (-5)) ∧
      (¬ (σ 93 9) = 0 →
      ((y1 = 0 →
        P (σ 93 8)) ∧
        (¬ y1 = 0 →
        P (σ 93 9))))))))
set_option maxRecDepth 100000 in
set_option maxHeartbeats 4000000 in
theorem c_X5_stopped (V : EV) (σ : Mem) (y1 : Int32) (P : Int32 → Prop) (l : Launch) : Met l yX5_stopped (.code yX5_stopped cX5_stopped 2 (some .int) :: AW) { frames := 1, cells := 0, slots := 0, locals := 22 } (va_Pc [.ref (ad V 93), .int y1] (fun U => wP V σ U ∧ wp_X5_stopped σ y1 P)) (va_Qi (fun r τ => τ = σ ∧ P r) (wB V) (AA V)) 0 0 (AA V) := by
  refine met_i V σ (own := RX5) (by decide +kernel) rfl (fun v hv => by simp at hv; rcases hv with rfl | rfl <;> rfl) (Nat.le_of_ble_eq_true rfl) (fun X C D h => ?_) l
  show GG V X σ 0 [some (.ref (ad V 93)), some (.int y1)] []
  refine g_iload_n C dX5_stopped_0 rfl rfl rfl ?_
  refine g_iconst C dX5_stopped_1 ic_0 rfl ?_
  refine g_iconst C dX5_stopped_2 ic_1 rfl ?_
  refine k_X5_36 C dX5_stopped_3 (Nat.le_of_ble_eq_true rfl) (by decide) rfl rfl h (fun r1 h => ?_)
  refine g_if_ne C dX5_stopped_6 (tgt := 12) rfl rfl (fun q => ?_) (fun q => ?_)
  · have h := h.2 q
    refine g_aload_n C dX5_stopped_12 rfl rfl rfl ?_
    refine f_X5_166 C dX5_stopped_13 rfl ?_
    refine g_if_ne C dX5_stopped_16 (tgt := 24) rfl rfl (fun q => ?_) (fun q => ?_)
    · have h := h.2 q
      refine g_iload_n C dX5_stopped_24 rfl rfl rfl ?_
      refine g_if_ne C dX5_stopped_25 (tgt := 35) rfl rfl (fun q => ?_) (fun q => ?_)
      · have h := h.2 q
        refine g_aload_n C dX5_stopped_35 rfl rfl rfl ?_
        refine f_X5_166 C dX5_stopped_36 rfl ?_
        exact g_iret C dX5_stopped_39 D ⟨rfl, h⟩
      · have h := h.1 q
        refine g_aload_n C dX5_stopped_28 rfl rfl rfl ?_
        refine f_X5_163 C dX5_stopped_29 rfl ?_
        refine g_goto C dX5_stopped_32 (pc' := 39) rfl ?_
        exact g_iret C dX5_stopped_39 D ⟨rfl, h⟩
    · have h := h.1 q
      refine g_bipush C dX5_stopped_19 bp_m5 rfl ?_
      refine g_goto C dX5_stopped_21 (pc' := 39) rfl ?_
      exact g_iret C dX5_stopped_39 D ⟨rfl, h⟩
  · have h := h.1 q
    refine g_bipush C dX5_stopped_9 bp_m2 rfl ?_
    exact g_iret C dX5_stopped_11 D ⟨rfl, h⟩
theorem hd_X5_stopped : yX5_stopped.cls ≠ "java/lang/invoke/MethodHandle" ∧ yX5_stopped.cls ≠ "java/lang/invoke/VarHandle" ∧ (parseMethodDescriptor yX5_stopped.desc).map (fun d => d.parameters.length) = some 1 := by decide +kernel

theorem dX5_page_0 : decode cX5_page 0 = .ok (.iload_n 1, 1) := by decide +kernel
theorem dX5_page_1 : decode cX5_page 1 = .ok (.iload_n 2, 1) := by decide +kernel
theorem dX5_page_2 : decode cX5_page 2 = .ok (.invokestatic 88, 3) := by decide +kernel
theorem dX5_page_5 : decode cX5_page 5 = .ok (.ifCond .ne 5, 3) := by decide +kernel
theorem dX5_page_8 : decode cX5_page 8 = .ok (.iconst (-1), 1) := by decide +kernel
theorem dX5_page_9 : decode cX5_page 9 = .ok (.ireturn, 1) := by decide +kernel
theorem dX5_page_10 : decode cX5_page 10 = .ok (.iload_n 3, 1) := by decide +kernel
theorem dX5_page_11 : decode cX5_page 11 = .ok (.iconst 0, 1) := by decide +kernel
theorem dX5_page_12 : decode cX5_page 12 = .ok (.iconst 3, 1) := by decide +kernel
theorem dX5_page_13 : decode cX5_page 13 = .ok (.invokestatic 36, 3) := by decide +kernel
theorem dX5_page_16 : decode cX5_page 16 = .ok (.ifCond .eq 17, 3) := by decide +kernel
theorem dX5_page_19 : decode cX5_page 19 = .ok (.aload_n 0, 1) := by decide +kernel
theorem dX5_page_20 : decode cX5_page 20 = .ok (.bipush 10, 2) := by decide +kernel
theorem dX5_page_22 : decode cX5_page 22 = .ok (.iload_n 1, 1) := by decide +kernel
theorem dX5_page_23 : decode cX5_page 23 = .ok (.imul, 1) := by decide +kernel
theorem dX5_page_24 : decode cX5_page 24 = .ok (.iload_n 2, 1) := by decide +kernel
theorem dX5_page_25 : decode cX5_page 25 = .ok (.iadd, 1) := by decide +kernel
theorem dX5_page_26 : decode cX5_page 26 = .ok (.iload_n 3, 1) := by decide +kernel
theorem dX5_page_27 : decode cX5_page 27 = .ok (.invokevirtual 40, 3) := by decide +kernel
theorem dX5_page_30 : decode cX5_page 30 = .ok (.goto 5, 3) := by decide +kernel
theorem dX5_page_33 : decode cX5_page 33 = .ok (.bipush (-2), 2) := by decide +kernel
theorem dX5_page_35 : decode cX5_page 35 = .ok (.ireturn, 1) := by decide +kernel
def wp_X5_page (σ : Mem) (y1 : Int32) (y2 : Int32) (y3 : Int32) (P : Int32 → Prop) : Prop :=
  wp_X5_isPage σ y1 y2 (fun r1 =>
    ((r1 = 0 →
    P (-1)) ∧
    (¬ r1 = 0 →
    wp_X5_in σ y3 0 3 (fun r2 =>
      ((r2 = 0 →
      P (-2)) ∧
      (¬ r2 = 0 →
      wp_X5_of σ ((10 * y1) + y2) y3 (fun r3 =>
        P r3)))))))
set_option maxRecDepth 100000 in
set_option maxHeartbeats 4000000 in
theorem c_X5_page (V : EV) (σ : Mem) (y1 : Int32) (y2 : Int32) (y3 : Int32) (P : Int32 → Prop) (l : Launch) : Met l yX5_page (.code yX5_page cX5_page 4 (some .int) :: AW) { frames := 2, cells := 0, slots := 0, locals := 43 } (va_Pc [.ref (ad V 93), .int y1, .int y2, .int y3] (fun U => wP V σ U ∧ wp_X5_page σ y1 y2 y3 P)) (va_Qi (fun r τ => τ = σ ∧ P r) (wB V) (AA V)) 0 0 (AA V) := by
  refine met_i V σ (own := RX5) (by decide +kernel) rfl (fun v hv => by simp at hv; rcases hv with rfl | rfl | rfl | rfl <;> rfl) (Nat.le_of_ble_eq_true rfl) (fun X C D h => ?_) l
  show GG V X σ 0 [some (.ref (ad V 93)), some (.int y1), some (.int y2), some (.int y3)] []
  refine g_iload_n C dX5_page_0 rfl rfl rfl ?_
  refine g_iload_n C dX5_page_1 rfl rfl rfl ?_
  refine k_X5_88 C dX5_page_2 (Nat.le_of_ble_eq_true rfl) (by decide) rfl rfl h (fun r1 h => ?_)
  refine g_if_ne C dX5_page_5 (tgt := 10) rfl rfl (fun q => ?_) (fun q => ?_)
  · have h := h.2 q
    refine g_iload_n C dX5_page_10 rfl rfl rfl ?_
    refine g_iconst C dX5_page_11 ic_0 rfl ?_
    refine g_iconst C dX5_page_12 ic_3 rfl ?_
    refine k_X5_36 C dX5_page_13 (Nat.le_of_ble_eq_true rfl) (by decide) rfl rfl h (fun r2 h => ?_)
    refine g_if_eq C dX5_page_16 (tgt := 33) rfl rfl (fun q => ?_) (fun q => ?_)
    · have h := h.1 q
      refine g_bipush C dX5_page_33 bp_m2 rfl ?_
      exact g_iret C dX5_page_35 D ⟨rfl, h⟩
    · have h := h.2 q
      refine g_aload_n C dX5_page_19 rfl rfl rfl ?_
      refine g_bipush C dX5_page_20 bp_10 rfl ?_
      refine g_iload_n C dX5_page_22 rfl rfl rfl ?_
      refine g_imul C dX5_page_23 rfl ?_
      refine g_iload_n C dX5_page_24 rfl rfl rfl ?_
      refine g_iadd C dX5_page_25 rfl ?_
      refine g_iload_n C dX5_page_26 rfl rfl rfl ?_
      refine k_X5_40 C dX5_page_27 (Nat.le_of_ble_eq_true rfl) (by decide) rfl rfl h (fun r3 h => ?_)
      refine g_goto C dX5_page_30 (pc' := 35) rfl ?_
      exact g_iret C dX5_page_35 D ⟨rfl, h⟩
  · have h := h.1 q
    refine g_iconst C dX5_page_8 ic_m1 rfl ?_
    exact g_iret C dX5_page_9 D ⟨rfl, h⟩
theorem hd_X5_page : yX5_page.cls ≠ "java/lang/invoke/MethodHandle" ∧ yX5_page.cls ≠ "java/lang/invoke/VarHandle" ∧ (parseMethodDescriptor yX5_page.desc).map (fun d => d.parameters.length) = some 3 := by decide +kernel

theorem dX5_withCells_0 : decode cX5_withCells 0 = .ok (.iconst 0, 1) := by decide +kernel
theorem dX5_withCells_1 : decode cX5_withCells 1 = .ok (.istore_n 3, 1) := by decide +kernel
theorem dX5_withCells_2 : decode cX5_withCells 2 = .ok (.iload_n 1, 1) := by decide +kernel
theorem dX5_withCells_3 : decode cX5_withCells 3 = .ok (.istore 4, 2) := by decide +kernel
theorem dX5_withCells_5 : decode cX5_withCells 5 = .ok (.iload 4, 2) := by decide +kernel
theorem dX5_withCells_7 : decode cX5_withCells 7 = .ok (.iload_n 1, 1) := by decide +kernel
theorem dX5_withCells_8 : decode cX5_withCells 8 = .ok (.iload_n 2, 1) := by decide +kernel
theorem dX5_withCells_9 : decode cX5_withCells 9 = .ok (.iadd, 1) := by decide +kernel
theorem dX5_withCells_10 : decode cX5_withCells 10 = .ok (.if_icmp .ge 29, 3) := by decide +kernel
theorem dX5_withCells_13 : decode cX5_withCells 13 = .ok (.iload_n 3, 1) := by decide +kernel
theorem dX5_withCells_14 : decode cX5_withCells 14 = .ok (.aload_n 0, 1) := by decide +kernel
theorem dX5_withCells_15 : decode cX5_withCells 15 = .ok (.iload 4, 2) := by decide +kernel
theorem dX5_withCells_17 : decode cX5_withCells 17 = .ok (.iconst 0, 1) := by decide +kernel
theorem dX5_withCells_18 : decode cX5_withCells 18 = .ok (.invokevirtual 40, 3) := by decide +kernel
theorem dX5_withCells_21 : decode cX5_withCells 21 = .ok (.bipush (-5), 2) := by decide +kernel
theorem dX5_withCells_23 : decode cX5_withCells 23 = .ok (.if_icmp .ne 7, 3) := by decide +kernel
theorem dX5_withCells_26 : decode cX5_withCells 26 = .ok (.iconst 0, 1) := by decide +kernel
theorem dX5_withCells_27 : decode cX5_withCells 27 = .ok (.goto 4, 3) := by decide +kernel
theorem dX5_withCells_30 : decode cX5_withCells 30 = .ok (.iconst 1, 1) := by decide +kernel
theorem dX5_withCells_31 : decode cX5_withCells 31 = .ok (.iadd, 1) := by decide +kernel
theorem dX5_withCells_32 : decode cX5_withCells 32 = .ok (.istore_n 3, 1) := by decide +kernel
theorem dX5_withCells_33 : decode cX5_withCells 33 = .ok (.iinc 4 1, 3) := by decide +kernel
theorem dX5_withCells_36 : decode cX5_withCells 36 = .ok (.goto (-31), 3) := by decide +kernel
theorem dX5_withCells_39 : decode cX5_withCells 39 = .ok (.iload_n 3, 1) := by decide +kernel
theorem dX5_withCells_40 : decode cX5_withCells 40 = .ok (.ireturn, 1) := by decide +kernel
def wp_X5_withCells (σ : Mem) (y1 : Int32) (y2 : Int32) (P : Int32 → Prop) : Prop :=
  lq2 (fun rec3 (x1 : Int32) (x2 : Int32) =>
    (((y1 + y2) ≤ x2 →
      P x1) ∧
      (¬ (y1 + y2) ≤ x2 →
      wp_X5_of σ x2 0 (fun r4 =>
        jn (A := Int32 → Prop) (fun (v5 : Int32) =>
        rec3 (x1 + v5) (x2 + 1))
        (fun J6 =>
        ((r4 = (-5) →
        J6 0) ∧
        (¬ r4 = (-5) →
        J6 1))))))) 0 y1
set_option maxRecDepth 100000 in
set_option maxHeartbeats 4000000 in
theorem c_X5_withCells (V : EV) (σ : Mem) (y1 : Int32) (y2 : Int32) (P : Int32 → Prop) (l : Launch) : Met l yX5_withCells (.code yX5_withCells cX5_withCells 5 (some .int) :: AW) { frames := 1, cells := 0, slots := 0, locals := 22 } (va_Pc [.ref (ad V 93), .int y1, .int y2] (fun U => wP V σ U ∧ wp_X5_withCells σ y1 y2 P)) (va_Qi (fun r τ => τ = σ ∧ P r) (wB V) (AA V)) 0 0 (AA V) := by
  refine met_i V σ (own := RX5) (by decide +kernel) rfl (fun v hv => by simp at hv; rcases hv with rfl | rfl | rfl <;> rfl) (Nat.le_of_ble_eq_true rfl) (fun X C D h => ?_) l
  show GG V X σ 0 [some (.ref (ad V 93)), some (.int y1), some (.int y2), none, none] []
  refine g_iconst C dX5_withCells_0 ic_0 rfl ?_
  refine g_istore_n C dX5_withCells_1 rfl (Nat.le_of_ble_eq_true rfl) (L' := [some (.ref (ad V 93)), some (.int y1), some (.int y2), some (.int 0), none]) rfl rfl ?_
  refine g_iload_n C dX5_withCells_2 rfl rfl rfl ?_
  refine g_istore C dX5_withCells_3 (Nat.le_of_ble_eq_true rfl) (L' := [some (.ref (ad V 93)), some (.int y1), some (.int y2), some (.int 0), some (.int y1)]) rfl rfl ?_
  refine h (fun (x1 : Int32) (x2 : Int32) => GG V X σ 5 [some (.ref (ad V 93)), some (.int y1), some (.int y2), some (.int x1), some (.int x2)] []) (fun x1 x2 h => ?_)
  refine g_iload C dX5_withCells_5 rfl rfl ?_
  refine g_iload_n C dX5_withCells_7 rfl rfl rfl ?_
  refine g_iload_n C dX5_withCells_8 rfl rfl rfl ?_
  refine g_iadd C dX5_withCells_9 rfl ?_
  refine g_icmp_ge C dX5_withCells_10 (tgt := 39) rfl rfl (fun q => ?_) (fun q => ?_)
  · have h := h.1 q
    refine g_iload_n C dX5_withCells_39 rfl rfl rfl ?_
    exact g_iret C dX5_withCells_40 D ⟨rfl, h⟩
  · have h := h.2 q
    refine g_iload_n C dX5_withCells_13 rfl rfl rfl ?_
    refine g_aload_n C dX5_withCells_14 rfl rfl rfl ?_
    refine g_iload C dX5_withCells_15 rfl rfl ?_
    refine g_iconst C dX5_withCells_17 ic_0 rfl ?_
    refine k_X5_40 C dX5_withCells_18 (Nat.le_of_ble_eq_true rfl) (by decide) rfl rfl h (fun r4 h => ?_)
    refine g_bipush C dX5_withCells_21 bp_m5 rfl ?_
    refine jn_go h (fun (J6 : Int32 → Prop) => ∀ (v5 : Int32), J6 v5 → GG V X σ 31 [some (.ref (ad V 93)), some (.int y1), some (.int y2), none, some (.int x2)] [.int v5, .int x1]) (fun v5 h => ?_) (fun J6 hJ6 h => ?_)
    · refine g_iadd C dX5_withCells_31 rfl ?_
      refine g_istore_n C dX5_withCells_32 rfl (Nat.le_of_ble_eq_true rfl) (L' := [some (.ref (ad V 93)), some (.int y1), some (.int y2), some (.int (x1 + v5)), some (.int x2)]) rfl rfl ?_
      refine g_iinc C dX5_withCells_33 (v := x2 + 1) (by rw [ic_1]) rfl (Nat.le_of_ble_eq_true rfl) (L' := [some (.ref (ad V 93)), some (.int y1), some (.int y2), some (.int (x1 + v5)), some (.int (x2 + 1))]) rfl rfl ?_
      refine g_goto C dX5_withCells_36 (pc' := 5) rfl ?_
      exact h
    refine g_icmp_ne C dX5_withCells_23 (tgt := 30) rfl rfl (fun q => ?_) (fun q => ?_)
    · have h := h.2 q
      refine g_iconst C dX5_withCells_30 ic_1 rfl ?_
      refine g_drop 3 (L' := [some (.ref (ad V 93)), some (.int y1), some (.int y2), none, some (.int x2)]) rfl ?_
      exact hJ6 1 h
    · have h := h.1 q
      refine g_iconst C dX5_withCells_26 ic_0 rfl ?_
      refine g_goto C dX5_withCells_27 (pc' := 31) rfl ?_
      refine g_drop 3 (L' := [some (.ref (ad V 93)), some (.int y1), some (.int y2), none, some (.int x2)]) rfl ?_
      exact hJ6 0 h
theorem hd_X5_withCells : yX5_withCells.cls ≠ "java/lang/invoke/MethodHandle" ∧ yX5_withCells.cls ≠ "java/lang/invoke/VarHandle" ∧ (parseMethodDescriptor yX5_withCells.desc).map (fun d => d.parameters.length) = some 2 := by decide +kernel
theorem k_X5_172 {V : EV} {X : CX} {cc : ByteArray} {nL : Nat} {R : Room} {y1 : Int32} {y2 : Int32} (C : OK V X RX5 cc nL R) {σ : Mem} {pc pc' : Nat} {L : List (Option Value)} {st : List Value} {P : Int32 → Prop} (d : decode cc pc = .ok (.invokevirtual 172, 3)) (hst : (st.map fun v => v.category).sum ≤ 8) (hr : 1 + 1 ≤ R.frames ∧ 8 + (5 + 11) + 22 ≤ R.locals) (hL : L.length = nL) (hp : pc + 3 = pc') (h : wp_X5_withCells σ y1 y2 P) (k : ∀ r, P r → GG V X σ pc' L (.int r :: st)) : GG V X σ pc L (.int y2 :: .int y1 :: .ref (ad V 93) :: st) :=
  g_callVi C (av := [.int y1, .int y2]) (fun l => c_X5_withCells V σ y1 y2 P l) (by decide) (en_93 V σ) (q := (RX5, TX5, 13)) rfl rfl ml_RX5_172 im_X5_withCells se_X5_withCells ini_RX5 co_X5_withCells hd_X5_withCells rfl ⟨rfl, rfl⟩ hr hst d hL hp h (fun r τ hq => by obtain ⟨rfl, hq⟩ := hq; exact k r hq)
