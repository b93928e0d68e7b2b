theorem dX0_size_0 : decode cX0_size 0 = .ok (.aload_n 0, 1) := by decide +kernel
theorem dX0_size_1 : decode cX0_size 1 = .ok (.getfield 22, 3) := by decide +kernel
theorem dX0_size_4 : decode cX0_size 4 = .ok (.ireturn, 1) := by decide +kernel
def wp_X0_size (σ : Mem) (P : Int32 → Prop) : Prop :=
  P (σ 85 2)
set_option maxRecDepth 100000 in
set_option maxHeartbeats 4000000 in
theorem c_X0_size (V : EV) (σ : Mem) (P : Int32 → Prop) (l : Launch) : Met l yX0_size (.code yX0_size cX0_size 1 (some .int) :: AW) { frames := 0, cells := 0, slots := 0, locals := 0 } (va_Pc [.ref (ad V 85)] (fun U => wP V σ U ∧ wp_X0_size σ P)) (va_Qi (fun r τ => τ = σ ∧ P r) (wB V) (AA V)) 0 0 (AA V) := by
  refine met_i V σ (own := RX0) (by decide +kernel) rfl (fun v hv => by simp at hv; subst hv; rfl) (Nat.le_of_ble_eq_true rfl) (fun X C D h => ?_) l
  show GG V X σ 0 [some (.ref (ad V 85))] []
  refine g_aload_n C dX0_size_0 rfl rfl rfl ?_
  refine f_X0_22 C dX0_size_1 rfl ?_
  exact g_iret C dX0_size_4 D ⟨rfl, h⟩
theorem hd_X0_size : yX0_size.cls ≠ "java/lang/invoke/MethodHandle" ∧ yX0_size.cls ≠ "java/lang/invoke/VarHandle" ∧ (parseMethodDescriptor yX0_size.desc).map (fun d => d.parameters.length) = some 0 := by decide +kernel
theorem k_X4_165 {V : EV} {X : CX} {cc : ByteArray} {nL : Nat} {R : Room} (C : OK V X RX4 cc nL R) {σ : Mem} {pc pc' : Nat} {L : List (Option Value)} {st : List Value} {P : Int32 → Prop} (d : decode cc pc = .ok (.invokevirtual 165, 3)) (hst : (st.map fun v => v.category).sum ≤ 8) (hr : 0 + 1 ≤ R.frames ∧ 8 + (1 + 11) + 0 ≤ R.locals) (hL : L.length = nL) (hp : pc + 3 = pc') (h : wp_X0_size σ P) (k : ∀ r, P r → GG V X σ pc' L (.int r :: st)) : GG V X σ pc L (.ref (ad V 85) :: st) :=
  g_callVi C (av := []) (fun l => c_X0_size V σ P l) (by decide) (en_85 V σ) (q := (RX0, TX0, 3)) rfl rfl ml_RX4_165 im_X0_size se_X0_size ini_RX0 co_X0_size hd_X0_size rfl ⟨rfl, rfl⟩ hr hst d hL hp h (fun r τ hq => by obtain ⟨rfl, hq⟩ := hq; exact k r hq)

theorem dX1_copyFrom_0 : decode cX1_copyFrom 0 = .ok (.aload_n 1, 1) := by decide +kernel
theorem dX1_copyFrom_1 : decode cX1_copyFrom 1 = .ok (.getfield 9, 3) := by decide +kernel
theorem dX1_copyFrom_4 : decode cX1_copyFrom 4 = .ok (.iconst 0, 1) := by decide +kernel
theorem dX1_copyFrom_5 : decode cX1_copyFrom 5 = .ok (.aload_n 0, 1) := by decide +kernel
theorem dX1_copyFrom_6 : decode cX1_copyFrom 6 = .ok (.getfield 9, 3) := by decide +kernel
theorem dX1_copyFrom_9 : decode cX1_copyFrom 9 = .ok (.iconst 0, 1) := by decide +kernel
theorem dX1_copyFrom_10 : decode cX1_copyFrom 10 = .ok (.bipush 40, 2) := by decide +kernel
theorem dX1_copyFrom_12 : decode cX1_copyFrom 12 = .ok (.invokestatic 50, 3) := by decide +kernel
theorem dX1_copyFrom_15 : decode cX1_copyFrom 15 = .ok (.aload_n 1, 1) := by decide +kernel
theorem dX1_copyFrom_16 : decode cX1_copyFrom 16 = .ok (.getfield 15, 3) := by decide +kernel
theorem dX1_copyFrom_19 : decode cX1_copyFrom 19 = .ok (.iconst 0, 1) := by decide +kernel
theorem dX1_copyFrom_20 : decode cX1_copyFrom 20 = .ok (.aload_n 0, 1) := by decide +kernel
theorem dX1_copyFrom_21 : decode cX1_copyFrom 21 = .ok (.getfield 15, 3) := by decide +kernel
theorem dX1_copyFrom_24 : decode cX1_copyFrom 24 = .ok (.iconst 0, 1) := by decide +kernel
theorem dX1_copyFrom_25 : decode cX1_copyFrom 25 = .ok (.bipush 40, 2) := by decide +kernel
theorem dX1_copyFrom_27 : decode cX1_copyFrom 27 = .ok (.invokestatic 50, 3) := by decide +kernel
theorem dX1_copyFrom_30 : decode cX1_copyFrom 30 = .ok (.aload_n 1, 1) := by decide +kernel
theorem dX1_copyFrom_31 : decode cX1_copyFrom 31 = .ok (.getfield 19, 3) := by decide +kernel
theorem dX1_copyFrom_34 : decode cX1_copyFrom 34 = .ok (.iconst 0, 1) := by decide +kernel
theorem dX1_copyFrom_35 : decode cX1_copyFrom 35 = .ok (.aload_n 0, 1) := by decide +kernel
theorem dX1_copyFrom_36 : decode cX1_copyFrom 36 = .ok (.getfield 19, 3) := by decide +kernel
theorem dX1_copyFrom_39 : decode cX1_copyFrom 39 = .ok (.iconst 0, 1) := by decide +kernel
theorem dX1_copyFrom_40 : decode cX1_copyFrom 40 = .ok (.bipush 40, 2) := by decide +kernel
theorem dX1_copyFrom_42 : decode cX1_copyFrom 42 = .ok (.invokestatic 50, 3) := by decide +kernel
theorem dX1_copyFrom_45 : decode cX1_copyFrom 45 = .ok (.aload_n 1, 1) := by decide +kernel
theorem dX1_copyFrom_46 : decode cX1_copyFrom 46 = .ok (.getfield 22, 3) := by decide +kernel
theorem dX1_copyFrom_49 : decode cX1_copyFrom 49 = .ok (.iconst 0, 1) := by decide +kernel
theorem dX1_copyFrom_50 : decode cX1_copyFrom 50 = .ok (.aload_n 0, 1) := by decide +kernel
theorem dX1_copyFrom_51 : decode cX1_copyFrom 51 = .ok (.getfield 22, 3) := by decide +kernel
theorem dX1_copyFrom_54 : decode cX1_copyFrom 54 = .ok (.iconst 0, 1) := by decide +kernel
theorem dX1_copyFrom_55 : decode cX1_copyFrom 55 = .ok (.bipush 50, 2) := by decide +kernel
theorem dX1_copyFrom_57 : decode cX1_copyFrom 57 = .ok (.invokestatic 50, 3) := by decide +kernel
theorem dX1_copyFrom_60 : decode cX1_copyFrom 60 = .ok (.aload_n 1, 1) := by decide +kernel
theorem dX1_copyFrom_61 : decode cX1_copyFrom 61 = .ok (.getfield 25, 3) := by decide +kernel
theorem dX1_copyFrom_64 : decode cX1_copyFrom 64 = .ok (.iconst 0, 1) := by decide +kernel
theorem dX1_copyFrom_65 : decode cX1_copyFrom 65 = .ok (.aload_n 0, 1) := by decide +kernel
theorem dX1_copyFrom_66 : decode cX1_copyFrom 66 = .ok (.getfield 25, 3) := by decide +kernel
theorem dX1_copyFrom_69 : decode cX1_copyFrom 69 = .ok (.iconst 0, 1) := by decide +kernel
theorem dX1_copyFrom_70 : decode cX1_copyFrom 70 = .ok (.bipush 50, 2) := by decide +kernel
theorem dX1_copyFrom_72 : decode cX1_copyFrom 72 = .ok (.invokestatic 50, 3) := by decide +kernel
theorem dX1_copyFrom_75 : decode cX1_copyFrom 75 = .ok (.aload_n 1, 1) := by decide +kernel
theorem dX1_copyFrom_76 : decode cX1_copyFrom 76 = .ok (.getfield 28, 3) := by decide +kernel
theorem dX1_copyFrom_79 : decode cX1_copyFrom 79 = .ok (.iconst 0, 1) := by decide +kernel
theorem dX1_copyFrom_80 : decode cX1_copyFrom 80 = .ok (.aload_n 0, 1) := by decide +kernel
theorem dX1_copyFrom_81 : decode cX1_copyFrom 81 = .ok (.getfield 28, 3) := by decide +kernel
theorem dX1_copyFrom_84 : decode cX1_copyFrom 84 = .ok (.iconst 0, 1) := by decide +kernel
theorem dX1_copyFrom_85 : decode cX1_copyFrom 85 = .ok (.bipush 50, 2) := by decide +kernel
theorem dX1_copyFrom_87 : decode cX1_copyFrom 87 = .ok (.invokestatic 50, 3) := by decide +kernel
theorem dX1_copyFrom_90 : decode cX1_copyFrom 90 = .ok (.aload_n 1, 1) := by decide +kernel
theorem dX1_copyFrom_91 : decode cX1_copyFrom 91 = .ok (.getfield 31, 3) := by decide +kernel
theorem dX1_copyFrom_94 : decode cX1_copyFrom 94 = .ok (.iconst 0, 1) := by decide +kernel
theorem dX1_copyFrom_95 : decode cX1_copyFrom 95 = .ok (.aload_n 0, 1) := by decide +kernel
theorem dX1_copyFrom_96 : decode cX1_copyFrom 96 = .ok (.getfield 31, 3) := by decide +kernel
theorem dX1_copyFrom_99 : decode cX1_copyFrom 99 = .ok (.iconst 0, 1) := by decide +kernel
theorem dX1_copyFrom_100 : decode cX1_copyFrom 100 = .ok (.bipush 50, 2) := by decide +kernel
theorem dX1_copyFrom_102 : decode cX1_copyFrom 102 = .ok (.invokestatic 50, 3) := by decide +kernel
theorem dX1_copyFrom_105 : decode cX1_copyFrom 105 = .ok (.aload_n 1, 1) := by decide +kernel
theorem dX1_copyFrom_106 : decode cX1_copyFrom 106 = .ok (.getfield 34, 3) := by decide +kernel
theorem dX1_copyFrom_109 : decode cX1_copyFrom 109 = .ok (.iconst 0, 1) := by decide +kernel
theorem dX1_copyFrom_110 : decode cX1_copyFrom 110 = .ok (.aload_n 0, 1) := by decide +kernel
theorem dX1_copyFrom_111 : decode cX1_copyFrom 111 = .ok (.getfield 34, 3) := by decide +kernel
theorem dX1_copyFrom_114 : decode cX1_copyFrom 114 = .ok (.iconst 0, 1) := by decide +kernel
theorem dX1_copyFrom_115 : decode cX1_copyFrom 115 = .ok (.iconst 5, 1) := by decide +kernel
theorem dX1_copyFrom_116 : decode cX1_copyFrom 116 = .ok (.invokestatic 50, 3) := by decide +kernel
theorem dX1_copyFrom_119 : decode cX1_copyFrom 119 = .ok (.aload_n 1, 1) := by decide +kernel
theorem dX1_copyFrom_120 : decode cX1_copyFrom 120 = .ok (.getfield 37, 3) := by decide +kernel
theorem dX1_copyFrom_123 : decode cX1_copyFrom 123 = .ok (.iconst 0, 1) := by decide +kernel
theorem dX1_copyFrom_124 : decode cX1_copyFrom 124 = .ok (.aload_n 0, 1) := by decide +kernel
theorem dX1_copyFrom_125 : decode cX1_copyFrom 125 = .ok (.getfield 37, 3) := by decide +kernel
theorem dX1_copyFrom_128 : decode cX1_copyFrom 128 = .ok (.iconst 0, 1) := by decide +kernel
theorem dX1_copyFrom_129 : decode cX1_copyFrom 129 = .ok (.iconst 5, 1) := by decide +kernel
theorem dX1_copyFrom_130 : decode cX1_copyFrom 130 = .ok (.invokestatic 50, 3) := by decide +kernel
theorem dX1_copyFrom_133 : decode cX1_copyFrom 133 = .ok (.aload_n 1, 1) := by decide +kernel
theorem dX1_copyFrom_134 : decode cX1_copyFrom 134 = .ok (.getfield 40, 3) := by decide +kernel
theorem dX1_copyFrom_137 : decode cX1_copyFrom 137 = .ok (.iconst 0, 1) := by decide +kernel
theorem dX1_copyFrom_138 : decode cX1_copyFrom 138 = .ok (.aload_n 0, 1) := by decide +kernel
theorem dX1_copyFrom_139 : decode cX1_copyFrom 139 = .ok (.getfield 40, 3) := by decide +kernel
theorem dX1_copyFrom_142 : decode cX1_copyFrom 142 = .ok (.iconst 0, 1) := by decide +kernel
theorem dX1_copyFrom_143 : decode cX1_copyFrom 143 = .ok (.bipush 12, 2) := by decide +kernel
theorem dX1_copyFrom_145 : decode cX1_copyFrom 145 = .ok (.invokestatic 50, 3) := by decide +kernel
theorem dX1_copyFrom_148 : decode cX1_copyFrom 148 = .ok (.aload_n 1, 1) := by decide +kernel
theorem dX1_copyFrom_149 : decode cX1_copyFrom 149 = .ok (.getfield 43, 3) := by decide +kernel
theorem dX1_copyFrom_152 : decode cX1_copyFrom 152 = .ok (.iconst 0, 1) := by decide +kernel
theorem dX1_copyFrom_153 : decode cX1_copyFrom 153 = .ok (.aload_n 0, 1) := by decide +kernel
theorem dX1_copyFrom_154 : decode cX1_copyFrom 154 = .ok (.getfield 43, 3) := by decide +kernel
theorem dX1_copyFrom_157 : decode cX1_copyFrom 157 = .ok (.iconst 0, 1) := by decide +kernel
theorem dX1_copyFrom_158 : decode cX1_copyFrom 158 = .ok (.iconst 3, 1) := by decide +kernel
theorem dX1_copyFrom_159 : decode cX1_copyFrom 159 = .ok (.invokestatic 50, 3) := by decide +kernel
theorem dX1_copyFrom_162 : decode cX1_copyFrom 162 = .ok (.aload_n 0, 1) := by decide +kernel
theorem dX1_copyFrom_163 : decode cX1_copyFrom 163 = .ok (.aload_n 1, 1) := by decide +kernel
theorem dX1_copyFrom_164 : decode cX1_copyFrom 164 = .ok (.getfield 56, 3) := by decide +kernel
theorem dX1_copyFrom_167 : decode cX1_copyFrom 167 = .ok (.putfield 56, 3) := by decide +kernel
theorem dX1_copyFrom_170 : decode cX1_copyFrom 170 = .ok (.aload_n 0, 1) := by decide +kernel
theorem dX1_copyFrom_171 : decode cX1_copyFrom 171 = .ok (.aload_n 1, 1) := by decide +kernel
theorem dX1_copyFrom_172 : decode cX1_copyFrom 172 = .ok (.getfield 59, 3) := by decide +kernel
theorem dX1_copyFrom_175 : decode cX1_copyFrom 175 = .ok (.putfield 59, 3) := by decide +kernel
theorem dX1_copyFrom_178 : decode cX1_copyFrom 178 = .ok (.aload_n 0, 1) := by decide +kernel
theorem dX1_copyFrom_179 : decode cX1_copyFrom 179 = .ok (.aload_n 1, 1) := by decide +kernel
theorem dX1_copyFrom_180 : decode cX1_copyFrom 180 = .ok (.getfield 46, 3) := by decide +kernel
theorem dX1_copyFrom_183 : decode cX1_copyFrom 183 = .ok (.putfield 46, 3) := by decide +kernel
theorem dX1_copyFrom_186 : decode cX1_copyFrom 186 = .ok (.aload_n 0, 1) := by decide +kernel
theorem dX1_copyFrom_187 : decode cX1_copyFrom 187 = .ok (.aload_n 1, 1) := by decide +kernel
theorem dX1_copyFrom_188 : decode cX1_copyFrom 188 = .ok (.getfield 62, 3) := by decide +kernel
theorem dX1_copyFrom_191 : decode cX1_copyFrom 191 = .ok (.putfield 62, 3) := by decide +kernel
theorem dX1_copyFrom_194 : decode cX1_copyFrom 194 = .ok (.aload_n 0, 1) := by decide +kernel
theorem dX1_copyFrom_195 : decode cX1_copyFrom 195 = .ok (.aload_n 1, 1) := by decide +kernel
theorem dX1_copyFrom_196 : decode cX1_copyFrom 196 = .ok (.getfield 65, 3) := by decide +kernel
theorem dX1_copyFrom_199 : decode cX1_copyFrom 199 = .ok (.putfield 65, 3) := by decide +kernel
theorem dX1_copyFrom_202 : decode cX1_copyFrom 202 = .ok (.aload_n 0, 1) := by decide +kernel
theorem dX1_copyFrom_203 : decode cX1_copyFrom 203 = .ok (.aload_n 1, 1) := by decide +kernel
theorem dX1_copyFrom_204 : decode cX1_copyFrom 204 = .ok (.getfield 68, 3) := by decide +kernel
theorem dX1_copyFrom_207 : decode cX1_copyFrom 207 = .ok (.putfield 68, 3) := by decide +kernel
theorem dX1_copyFrom_210 : decode cX1_copyFrom 210 = .ok (.return_, 1) := by decide +kernel
def wp_X1_copyFrom (σ : Mem) (b : Nat) (a : Nat) (P : Mem → Prop) : Prop :=
  (∀ i, i < 40 → isZ (σ (a + 1) i)) ∧ bm (cpA σ (a + 1) (b + 1) 40) (fun σ1 =>
    bm (cpA σ1 (a + 2) (b + 2) 40) (fun σ2 =>
    bm (cpA σ2 (a + 3) (b + 3) 40) (fun σ3 =>
    bm (cpA σ3 (a + 4) (b + 4) 50) (fun σ4 =>
    bm (cpA σ4 (a + 5) (b + 5) 50) (fun σ5 =>
    (∀ i, i < 50 → isZ (σ5 (a + 6) i)) ∧ bm (cpA σ5 (a + 6) (b + 6) 50) (fun σ6 =>
    bm (cpA σ6 (a + 7) (b + 7) 50) (fun σ7 =>
    bm (cpA σ7 (a + 8) (b + 8) 5) (fun σ8 =>
    bm (cpA σ8 (a + 9) (b + 9) 5) (fun σ9 =>
    bm (cpA σ9 (a + 10) (b + 10) 12) (fun σ10 =>
    bm (cpA σ10 (a + 11) (b + 11) 3) (fun σ11 =>
    bm (up2 σ11 b 10 (σ11 a 10)) (fun σ12 =>
    bm (up2 σ12 b 12 (σ12 a 12)) (fun σ13 =>
    bm (up2 σ13 b 13 (σ13 a 13)) (fun σ14 =>
    bm (up2 σ14 b 14 (σ14 a 14)) (fun σ15 =>
    bm (up2 σ15 b 15 (σ15 a 15)) (fun σ16 =>
    bm (up2 σ16 b 16 (σ16 a 16)) (fun σ17 =>
    P σ17)))))))))))))))))
set_option maxRecDepth 100000 in
set_option maxHeartbeats 4000000 in
theorem c_X1_copyFrom (V : EV) (σ : Mem) (b : Nat) (a : Nat) (hb : isM b) (ha : isM a) (P : Mem → Prop) (l : Launch) : Met l yX1_copyFrom (.code yX1_copyFrom cX1_copyFrom 2 (none) :: AW) { frames := 1, cells := 0, slots := 0, locals := 24 } (va_Pc [.ref (ad V b), .ref (ad V a)] (fun U => wP V σ U ∧ wp_X1_copyFrom σ b a P)) (va_Qv P (wB V) (AA V)) 0 0 (AA V) := by
  refine met_v V σ (own := RX1) (by decide +kernel) rfl (fun v hv => by simp at hv; rcases hv with rfl | rfl <;> rfl) (Nat.le_of_ble_eq_true rfl) (fun X C D h => ?_) l
  show GG V X σ 0 [some (.ref (ad V b)), some (.ref (ad V a))] []
  refine g_aload_n C dX1_copyFrom_0 rfl rfl rfl ?_
  refine fb_X1_9 ha C dX1_copyFrom_1 rfl ?_
  refine g_iconst C dX1_copyFrom_4 ic_0 rfl ?_
  refine g_aload_n C dX1_copyFrom_5 rfl rfl rfl ?_
  refine fb_X1_9 hb C dX1_copyFrom_6 rfl ?_
  refine g_iconst C dX1_copyFrom_9 ic_0 rfl ?_
  refine g_bipush C dX1_copyFrom_10 bp_40 rfl ?_
  obtain ⟨hz, h⟩ := h
  refine cp_X1_50_1 ha hb hz C dX1_copyFrom_12 rfl rfl h (fun σ1 h => ?_)
  refine g_aload_n C dX1_copyFrom_15 rfl rfl rfl ?_
  refine fb_X1_15 ha C dX1_copyFrom_16 rfl ?_
  refine g_iconst C dX1_copyFrom_19 ic_0 rfl ?_
  refine g_aload_n C dX1_copyFrom_20 rfl rfl rfl ?_
  refine fb_X1_15 hb C dX1_copyFrom_21 rfl ?_
  refine g_iconst C dX1_copyFrom_24 ic_0 rfl ?_
  refine g_bipush C dX1_copyFrom_25 bp_40 rfl ?_
  refine cp_X1_50_2 ha hb C dX1_copyFrom_27 rfl rfl h (fun σ2 h => ?_)
  refine g_aload_n C dX1_copyFrom_30 rfl rfl rfl ?_
  refine fb_X1_19 ha C dX1_copyFrom_31 rfl ?_
  refine g_iconst C dX1_copyFrom_34 ic_0 rfl ?_
  refine g_aload_n C dX1_copyFrom_35 rfl rfl rfl ?_
  refine fb_X1_19 hb C dX1_copyFrom_36 rfl ?_
  refine g_iconst C dX1_copyFrom_39 ic_0 rfl ?_
  refine g_bipush C dX1_copyFrom_40 bp_40 rfl ?_
  refine cp_X1_50_3 ha hb C dX1_copyFrom_42 rfl rfl h (fun σ3 h => ?_)
  refine g_aload_n C dX1_copyFrom_45 rfl rfl rfl ?_
  refine fb_X1_22 ha C dX1_copyFrom_46 rfl ?_
  refine g_iconst C dX1_copyFrom_49 ic_0 rfl ?_
  refine g_aload_n C dX1_copyFrom_50 rfl rfl rfl ?_
  refine fb_X1_22 hb C dX1_copyFrom_51 rfl ?_
  refine g_iconst C dX1_copyFrom_54 ic_0 rfl ?_
  refine g_bipush C dX1_copyFrom_55 bp_50 rfl ?_
  refine cp_X1_50_4 ha hb C dX1_copyFrom_57 rfl rfl h (fun σ4 h => ?_)
  refine g_aload_n C dX1_copyFrom_60 rfl rfl rfl ?_
  refine fb_X1_25 ha C dX1_copyFrom_61 rfl ?_
  refine g_iconst C dX1_copyFrom_64 ic_0 rfl ?_
  refine g_aload_n C dX1_copyFrom_65 rfl rfl rfl ?_
  refine fb_X1_25 hb C dX1_copyFrom_66 rfl ?_
  refine g_iconst C dX1_copyFrom_69 ic_0 rfl ?_
  refine g_bipush C dX1_copyFrom_70 bp_50 rfl ?_
  refine cp_X1_50_5 ha hb C dX1_copyFrom_72 rfl rfl h (fun σ5 h => ?_)
  refine g_aload_n C dX1_copyFrom_75 rfl rfl rfl ?_
  refine fb_X1_28 ha C dX1_copyFrom_76 rfl ?_
  refine g_iconst C dX1_copyFrom_79 ic_0 rfl ?_
  refine g_aload_n C dX1_copyFrom_80 rfl rfl rfl ?_
  refine fb_X1_28 hb C dX1_copyFrom_81 rfl ?_
  refine g_iconst C dX1_copyFrom_84 ic_0 rfl ?_
  refine g_bipush C dX1_copyFrom_85 bp_50 rfl ?_
  obtain ⟨hz, h⟩ := h
  refine cp_X1_50_6 ha hb hz C dX1_copyFrom_87 rfl rfl h (fun σ6 h => ?_)
  refine g_aload_n C dX1_copyFrom_90 rfl rfl rfl ?_
  refine fb_X1_31 ha C dX1_copyFrom_91 rfl ?_
  refine g_iconst C dX1_copyFrom_94 ic_0 rfl ?_
  refine g_aload_n C dX1_copyFrom_95 rfl rfl rfl ?_
  refine fb_X1_31 hb C dX1_copyFrom_96 rfl ?_
  refine g_iconst C dX1_copyFrom_99 ic_0 rfl ?_
  refine g_bipush C dX1_copyFrom_100 bp_50 rfl ?_
  refine cp_X1_50_7 ha hb C dX1_copyFrom_102 rfl rfl h (fun σ7 h => ?_)
  refine g_aload_n C dX1_copyFrom_105 rfl rfl rfl ?_
  refine fb_X1_34 ha C dX1_copyFrom_106 rfl ?_
  refine g_iconst C dX1_copyFrom_109 ic_0 rfl ?_
  refine g_aload_n C dX1_copyFrom_110 rfl rfl rfl ?_
  refine fb_X1_34 hb C dX1_copyFrom_111 rfl ?_
  refine g_iconst C dX1_copyFrom_114 ic_0 rfl ?_
  refine g_iconst C dX1_copyFrom_115 ic_5 rfl ?_
  refine cp_X1_50_8 ha hb C dX1_copyFrom_116 rfl rfl h (fun σ8 h => ?_)
  refine g_aload_n C dX1_copyFrom_119 rfl rfl rfl ?_
  refine fb_X1_37 ha C dX1_copyFrom_120 rfl ?_
  refine g_iconst C dX1_copyFrom_123 ic_0 rfl ?_
  refine g_aload_n C dX1_copyFrom_124 rfl rfl rfl ?_
  refine fb_X1_37 hb C dX1_copyFrom_125 rfl ?_
  refine g_iconst C dX1_copyFrom_128 ic_0 rfl ?_
  refine g_iconst C dX1_copyFrom_129 ic_5 rfl ?_
  refine cp_X1_50_9 ha hb C dX1_copyFrom_130 rfl rfl h (fun σ9 h => ?_)
  refine g_aload_n C dX1_copyFrom_133 rfl rfl rfl ?_
  refine fb_X1_40 ha C dX1_copyFrom_134 rfl ?_
  refine g_iconst C dX1_copyFrom_137 ic_0 rfl ?_
  refine g_aload_n C dX1_copyFrom_138 rfl rfl rfl ?_
  refine fb_X1_40 hb C dX1_copyFrom_139 rfl ?_
  refine g_iconst C dX1_copyFrom_142 ic_0 rfl ?_
  refine g_bipush C dX1_copyFrom_143 bp_12 rfl ?_
  refine cp_X1_50_10 ha hb C dX1_copyFrom_145 rfl rfl h (fun σ10 h => ?_)
  refine g_aload_n C dX1_copyFrom_148 rfl rfl rfl ?_
  refine fb_X1_43 ha C dX1_copyFrom_149 rfl ?_
  refine g_iconst C dX1_copyFrom_152 ic_0 rfl ?_
  refine g_aload_n C dX1_copyFrom_153 rfl rfl rfl ?_
  refine fb_X1_43 hb C dX1_copyFrom_154 rfl ?_
  refine g_iconst C dX1_copyFrom_157 ic_0 rfl ?_
  refine g_iconst C dX1_copyFrom_158 ic_3 rfl ?_
  refine cp_X1_50_11 ha hb C dX1_copyFrom_159 rfl rfl h (fun σ11 h => ?_)
  refine g_aload_n C dX1_copyFrom_162 rfl rfl rfl ?_
  refine g_aload_n C dX1_copyFrom_163 rfl rfl rfl ?_
  refine fb_X1_56 ha C dX1_copyFrom_164 rfl ?_
  refine pb_X1_56 hb C dX1_copyFrom_167 rfl h (fun σ12 h => ?_)
  refine g_aload_n C dX1_copyFrom_170 rfl rfl rfl ?_
  refine g_aload_n C dX1_copyFrom_171 rfl rfl rfl ?_
  refine fb_X1_59 ha C dX1_copyFrom_172 rfl ?_
  refine pb_X1_59 hb C dX1_copyFrom_175 rfl h (fun σ13 h => ?_)
  refine g_aload_n C dX1_copyFrom_178 rfl rfl rfl ?_
  refine g_aload_n C dX1_copyFrom_179 rfl rfl rfl ?_
  refine fb_X1_46 ha C dX1_copyFrom_180 rfl ?_
  refine pb_X1_46 hb C dX1_copyFrom_183 rfl h (fun σ14 h => ?_)
  refine g_aload_n C dX1_copyFrom_186 rfl rfl rfl ?_
  refine g_aload_n C dX1_copyFrom_187 rfl rfl rfl ?_
  refine fb_X1_62 ha C dX1_copyFrom_188 rfl ?_
  refine pb_X1_62 hb C dX1_copyFrom_191 rfl h (fun σ15 h => ?_)
  refine g_aload_n C dX1_copyFrom_194 rfl rfl rfl ?_
  refine g_aload_n C dX1_copyFrom_195 rfl rfl rfl ?_
  refine fb_X1_65 ha C dX1_copyFrom_196 rfl ?_
  refine pb_X1_65 hb C dX1_copyFrom_199 rfl h (fun σ16 h => ?_)
  refine g_aload_n C dX1_copyFrom_202 rfl rfl rfl ?_
  refine g_aload_n C dX1_copyFrom_203 rfl rfl rfl ?_
  refine fb_X1_68 ha C dX1_copyFrom_204 rfl ?_
  refine pb_X1_68 hb C dX1_copyFrom_207 rfl h (fun σ17 h => ?_)
  exact g_vret C dX1_copyFrom_210 D h
theorem hd_X1_copyFrom : yX1_copyFrom.cls ≠ "java/lang/invoke/MethodHandle" ∧ yX1_copyFrom.cls ≠ "java/lang/invoke/VarHandle" ∧ (parseMethodDescriptor yX1_copyFrom.desc).map (fun d => d.parameters.length) = some 1 := by decide +kernel
theorem k_X0_25 {V : EV} {X : CX} {cc : ByteArray} {nL : Nat} {R : Room} {b : Nat} {a : Nat} (hb : isM b) (ha : isM a) (C : OK V X RX0 cc nL R) {σ : Mem} {pc pc' : Nat} {L : List (Option Value)} {st : List Value} {P : Mem → Prop} (d : decode cc pc = .ok (.invokevirtual 25, 3)) (hst : (st.map fun v => v.category).sum ≤ 8) (hr : 1 + 1 ≤ R.frames ∧ 8 + (2 + 11) + 24 ≤ R.locals) (hL : L.length = nL) (hp : pc + 3 = pc') (h : wp_X1_copyFrom σ b a P) (k : ∀ τ, P τ → GG V X τ pc' L st) : GG V X σ pc L (.ref (ad V a) :: .ref (ad V b) :: st) :=
  g_callVv C (av := [.ref (ad V a)]) (fun l => c_X1_copyFrom V σ b a hb ha P l) (isM_lt hb) (en_M V σ hb) (q := (RX1, TX1, 17)) rfl rfl ml_RX0_25 im_X1_copyFrom se_X1_copyFrom ini_RX1 co_X1_copyFrom hd_X1_copyFrom rfl ⟨rfl, rfl⟩ hr hst d hL hp h k
theorem k_X4_64 {V : EV} {X : CX} {cc : ByteArray} {nL : Nat} {R : Room} {b : Nat} {a : Nat} (hb : isM b) (ha : isM a) (C : OK V X RX4 cc nL R) {σ : Mem} {pc pc' : Nat} {L : List (Option Value)} {st : List Value} {P : Mem → Prop} (d : decode cc pc = .ok (.invokevirtual 64, 3)) (hst : (st.map fun v => v.category).sum ≤ 8) (hr : 1 + 1 ≤ R.frames ∧ 8 + (2 + 11) + 24 ≤ R.locals) (hL : L.length = nL) (hp : pc + 3 = pc') (h : wp_X1_copyFrom σ b a P) (k : ∀ τ, P τ → GG V X τ pc' L st) : GG V X σ pc L (.ref (ad V a) :: .ref (ad V b) :: st) :=
  g_callVv C (av := [.ref (ad V a)]) (fun l => c_X1_copyFrom V σ b a hb ha P l) (isM_lt hb) (en_M V σ hb) (q := (RX1, TX1, 17)) rfl rfl ml_RX4_64 im_X1_copyFrom se_X1_copyFrom ini_RX1 co_X1_copyFrom hd_X1_copyFrom rfl ⟨rfl, rfl⟩ hr hst d hL hp h k

theorem dX0_add_0 : decode cX0_add 0 = .ok (.aload_n 0, 1) := by decide +kernel
theorem dX0_add_1 : decode cX0_add 1 = .ok (.getfield 11, 3) := by decide +kernel
theorem dX0_add_4 : decode cX0_add 4 = .ok (.aload_n 0, 1) := by decide +kernel
theorem dX0_add_5 : decode cX0_add 5 = .ok (.getfield 18, 3) := by decide +kernel
theorem dX0_add_8 : decode cX0_add 8 = .ok (.aload_n 0, 1) := by decide +kernel
theorem dX0_add_9 : decode cX0_add 9 = .ok (.getfield 22, 3) := by decide +kernel
theorem dX0_add_12 : decode cX0_add 12 = .ok (.iadd, 1) := by decide +kernel
theorem dX0_add_13 : decode cX0_add 13 = .ok (.iconst 4, 1) := by decide +kernel
theorem dX0_add_14 : decode cX0_add 14 = .ok (.irem, 1) := by decide +kernel
theorem dX0_add_15 : decode cX0_add 15 = .ok (.aaload, 1) := by decide +kernel
theorem dX0_add_16 : decode cX0_add 16 = .ok (.aload_n 1, 1) := by decide +kernel
theorem dX0_add_17 : decode cX0_add 17 = .ok (.invokevirtual 25, 3) := by decide +kernel
theorem dX0_add_20 : decode cX0_add 20 = .ok (.aload_n 0, 1) := by decide +kernel
theorem dX0_add_21 : decode cX0_add 21 = .ok (.getfield 22, 3) := by decide +kernel
theorem dX0_add_24 : decode cX0_add 24 = .ok (.iconst 4, 1) := by decide +kernel
theorem dX0_add_25 : decode cX0_add 25 = .ok (.if_icmp .ge 16, 3) := by decide +kernel
theorem dX0_add_28 : decode cX0_add 28 = .ok (.aload_n 0, 1) := by decide +kernel
theorem dX0_add_29 : decode cX0_add 29 = .ok (.dup, 1) := by decide +kernel
theorem dX0_add_30 : decode cX0_add 30 = .ok (.getfield 22, 3) := by decide +kernel
theorem dX0_add_33 : decode cX0_add 33 = .ok (.iconst 1, 1) := by decide +kernel
theorem dX0_add_34 : decode cX0_add 34 = .ok (.iadd, 1) := by decide +kernel
theorem dX0_add_35 : decode cX0_add 35 = .ok (.putfield 22, 3) := by decide +kernel
theorem dX0_add_38 : decode cX0_add 38 = .ok (.goto 15, 3) := by decide +kernel
theorem dX0_add_41 : decode cX0_add 41 = .ok (.aload_n 0, 1) := by decide +kernel
theorem dX0_add_42 : decode cX0_add 42 = .ok (.aload_n 0, 1) := by decide +kernel
theorem dX0_add_43 : decode cX0_add 43 = .ok (.getfield 18, 3) := by decide +kernel
theorem dX0_add_46 : decode cX0_add 46 = .ok (.iconst 1, 1) := by decide +kernel
theorem dX0_add_47 : decode cX0_add 47 = .ok (.iadd, 1) := by decide +kernel
theorem dX0_add_48 : decode cX0_add 48 = .ok (.iconst 4, 1) := by decide +kernel
theorem dX0_add_49 : decode cX0_add 49 = .ok (.irem, 1) := by decide +kernel
theorem dX0_add_50 : decode cX0_add 50 = .ok (.putfield 18, 3) := by decide +kernel
theorem dX0_add_53 : decode cX0_add 53 = .ok (.return_, 1) := by decide +kernel
def wp_X0_add (σ : Mem) (P : Mem → Prop) : Prop :=
  vp_in ((((σ 85 1) + (σ 85 2)) - ((σ 85 1) + (σ 85 2)) / 4 * 4)) 4 ∧ wp_X1_copyFrom σ (36 + 12 * ((((σ 85 1) + (σ 85 2)) - ((σ 85 1) + (σ 85 2)) / 4 * 4)).toNatClampNeg) 12 (fun σ1 =>
    ((4 ≤ (σ1 85 2) →
    bm (up2 σ1 85 1 ((((σ1 85 1) + 1) - ((σ1 85 1) + 1) / 4 * 4))) (fun σ2 =>
      P σ2)) ∧
    (¬ 4 ≤ (σ1 85 2) →
    bm (up2 σ1 85 2 ((σ1 85 2) + 1)) (fun σ3 =>
      P σ3))))
set_option maxRecDepth 100000 in
set_option maxHeartbeats 4000000 in
theorem c_X0_add (V : EV) (σ : Mem) (P : Mem → Prop) (l : Launch) : Met l yX0_add (.code yX0_add cX0_add 2 (none) :: AW) { frames := 2, cells := 0, slots := 0, locals := 45 } (va_Pc [.ref (ad V 85), .ref (ad V 12)] (fun U => wP V σ U ∧ wp_X0_add σ P)) (va_Qv P (wB V) (AA V)) 0 0 (AA V) := by
  refine met_v V σ (own := RX0) (by decide +kernel) rfl (fun v hv => by simp at hv; rcases hv with rfl | rfl <;> rfl) (Nat.le_of_ble_eq_true rfl) (fun X C D h => ?_) l
  show GG V X σ 0 [some (.ref (ad V 85)), some (.ref (ad V 12))] []
  refine g_aload_n C dX0_add_0 rfl rfl rfl ?_
  refine f_X0_11 C dX0_add_1 rfl ?_
  refine g_aload_n C dX0_add_4 rfl rfl rfl ?_
  refine f_X0_18 C dX0_add_5 rfl ?_
  refine g_aload_n C dX0_add_8 rfl rfl rfl ?_
  refine f_X0_22 C dX0_add_9 rfl ?_
  refine g_iadd C dX0_add_12 rfl ?_
  refine g_iconst C dX0_add_13 ic_4 rfl ?_
  refine g_irem C dX0_add_14 (by decide) rfl ?_
  obtain ⟨hin4, h⟩ := h
  refine g_aald C dX0_add_15 hin4 rfl ?_
  refine g_aload_n C dX0_add_16 rfl rfl rfl ?_
  refine k_X0_25 (isM_st hin4) isM_12 C dX0_add_17 (Nat.le_of_ble_eq_true rfl) (by decide) rfl rfl h (fun σ1 h => ?_)
  refine g_aload_n C dX0_add_20 rfl rfl rfl ?_
  refine f_X0_22 C dX0_add_21 rfl ?_
  refine g_iconst C dX0_add_24 ic_4 rfl ?_
  refine g_icmp_ge C dX0_add_25 (tgt := 41) rfl rfl (fun q => ?_) (fun q => ?_)
  · have h := h.1 q
    refine g_aload_n C dX0_add_41 rfl rfl rfl ?_
    refine g_aload_n C dX0_add_42 rfl rfl rfl ?_
    refine f_X0_18 C dX0_add_43 rfl ?_
    refine g_iconst C dX0_add_46 ic_1 rfl ?_
    refine g_iadd C dX0_add_47 rfl ?_
    refine g_iconst C dX0_add_48 ic_4 rfl ?_
    refine g_irem C dX0_add_49 (by decide) rfl ?_
    refine p_X0_18 C dX0_add_50 rfl h (fun σ2 h => ?_)
    exact g_vret C dX0_add_53 D h
  · have h := h.2 q
    refine g_aload_n C dX0_add_28 rfl rfl rfl ?_
    refine g_dup C dX0_add_29 rfl rfl ?_
    refine f_X0_22 C dX0_add_30 rfl ?_
    refine g_iconst C dX0_add_33 ic_1 rfl ?_
    refine g_iadd C dX0_add_34 rfl ?_
    refine p_X0_22 C dX0_add_35 rfl h (fun σ3 h => ?_)
    refine g_goto C dX0_add_38 (pc' := 53) rfl ?_
    exact g_vret C dX0_add_53 D h
theorem hd_X0_add : yX0_add.cls ≠ "java/lang/invoke/MethodHandle" ∧ yX0_add.cls ≠ "java/lang/invoke/VarHandle" ∧ (parseMethodDescriptor yX0_add.desc).map (fun d => d.parameters.length) = some 1 := by decide +kernel
theorem k_X4_172 {V : EV} {X : CX} {cc : ByteArray} {nL : Nat} {R : Room} (C : OK V X RX4 cc nL R) {σ : Mem} {pc pc' : Nat} {L : List (Option Value)} {st : List Value} {P : Mem → Prop} (d : decode cc pc = .ok (.invokevirtual 172, 3)) (hst : (st.map fun v => v.category).sum ≤ 8) (hr : 2 + 1 ≤ R.frames ∧ 8 + (2 + 11) + 45 ≤ R.locals) (hL : L.length = nL) (hp : pc + 3 = pc') (h : wp_X0_add σ P) (k : ∀ τ, P τ → GG V X τ pc' L st) : GG V X σ pc L (.ref (ad V 12) :: .ref (ad V 85) :: st) :=
  g_callVv C (av := [.ref (ad V 12)]) (fun l => c_X0_add V σ P l) (by decide) (en_85 V σ) (q := (RX0, TX0, 3)) rfl rfl ml_RX4_172 im_X0_add se_X0_add ini_RX0 co_X0_add hd_X0_add rfl ⟨rfl, rfl⟩ hr hst d hL hp h k

theorem dX0_takeLatest_0 : decode cX0_takeLatest 0 = .ok (.aload_n 0, 1) := by decide +kernel
theorem dX0_takeLatest_1 : decode cX0_takeLatest 1 = .ok (.getfield 22, 3) := by decide +kernel
theorem dX0_takeLatest_4 : decode cX0_takeLatest 4 = .ok (.ifCond .ne 6, 3) := by decide +kernel
theorem dX0_takeLatest_7 : decode cX0_takeLatest 7 = .ok (.bipush (-5), 2) := by decide +kernel
theorem dX0_takeLatest_9 : decode cX0_takeLatest 9 = .ok (.ireturn, 1) := by decide +kernel
theorem dX0_takeLatest_10 : decode cX0_takeLatest 10 = .ok (.aload_n 0, 1) := by decide +kernel
theorem dX0_takeLatest_11 : decode cX0_takeLatest 11 = .ok (.dup, 1) := by decide +kernel
theorem dX0_takeLatest_12 : decode cX0_takeLatest 12 = .ok (.getfield 22, 3) := by decide +kernel
theorem dX0_takeLatest_15 : decode cX0_takeLatest 15 = .ok (.iconst 1, 1) := by decide +kernel
theorem dX0_takeLatest_16 : decode cX0_takeLatest 16 = .ok (.isub, 1) := by decide +kernel
theorem dX0_takeLatest_17 : decode cX0_takeLatest 17 = .ok (.putfield 22, 3) := by decide +kernel
theorem dX0_takeLatest_20 : decode cX0_takeLatest 20 = .ok (.aload_n 1, 1) := by decide +kernel
theorem dX0_takeLatest_21 : decode cX0_takeLatest 21 = .ok (.aload_n 0, 1) := by decide +kernel
theorem dX0_takeLatest_22 : decode cX0_takeLatest 22 = .ok (.getfield 11, 3) := by decide +kernel
theorem dX0_takeLatest_25 : decode cX0_takeLatest 25 = .ok (.aload_n 0, 1) := by decide +kernel
theorem dX0_takeLatest_26 : decode cX0_takeLatest 26 = .ok (.getfield 18, 3) := by decide +kernel
theorem dX0_takeLatest_29 : decode cX0_takeLatest 29 = .ok (.aload_n 0, 1) := by decide +kernel
theorem dX0_takeLatest_30 : decode cX0_takeLatest 30 = .ok (.getfield 22, 3) := by decide +kernel
theorem dX0_takeLatest_33 : decode cX0_takeLatest 33 = .ok (.iadd, 1) := by decide +kernel
theorem dX0_takeLatest_34 : decode cX0_takeLatest 34 = .ok (.iconst 4, 1) := by decide +kernel
theorem dX0_takeLatest_35 : decode cX0_takeLatest 35 = .ok (.irem, 1) := by decide +kernel
theorem dX0_takeLatest_36 : decode cX0_takeLatest 36 = .ok (.aaload, 1) := by decide +kernel
theorem dX0_takeLatest_37 : decode cX0_takeLatest 37 = .ok (.invokevirtual 25, 3) := by decide +kernel
theorem dX0_takeLatest_40 : decode cX0_takeLatest 40 = .ok (.aload_n 0, 1) := by decide +kernel
theorem dX0_takeLatest_41 : decode cX0_takeLatest 41 = .ok (.getfield 22, 3) := by decide +kernel
theorem dX0_takeLatest_44 : decode cX0_takeLatest 44 = .ok (.ireturn, 1) := by decide +kernel
def wp_X0_takeLatest (σ : Mem) (P : Int32 → Mem → Prop) : Prop :=
  (((σ 85 2) = 0 →
    P (-5) σ) ∧
    (¬ (σ 85 2) = 0 →
    bm (up2 σ 85 2 ((σ 85 2) - 1)) (fun σ1 =>
      vp_in ((((σ1 85 1) + (σ1 85 2)) - ((σ1 85 1) + (σ1 85 2)) / 4 * 4)) 4 ∧ wp_X1_copyFrom σ1 0 (36 + 12 * ((((σ1 85 1) + (σ1 85 2)) - ((σ1 85 1) + (σ1 85 2)) / 4 * 4)).toNatClampNeg) (fun σ2 =>
      P (σ2 85 2) σ2))))
set_option maxRecDepth 100000 in
set_option maxHeartbeats 4000000 in
theorem c_X0_takeLatest (V : EV) (σ : Mem) (P : Int32 → Mem → Prop) (l : Launch) : Met l yX0_takeLatest (.code yX0_takeLatest cX0_takeLatest 2 (some .int) :: AW) { frames := 2, cells := 0, slots := 0, locals := 45 } (va_Pc [.ref (ad V 85), .ref (ad V 0)] (fun U => wP V σ U ∧ wp_X0_takeLatest σ P)) (va_Qi P (wB V) (AA V)) 0 0 (AA V) := by
  refine met_i V σ (own := RX0) (by decide +kernel) rfl (fun v hv => by simp at hv; rcases hv with rfl | rfl <;> rfl) (Nat.le_of_ble_eq_true rfl) (fun X C D h => ?_) l
  show GG V X σ 0 [some (.ref (ad V 85)), some (.ref (ad V 0))] []
  refine g_aload_n C dX0_takeLatest_0 rfl rfl rfl ?_
  refine f_X0_22 C dX0_takeLatest_1 rfl ?_
  refine g_if_ne C dX0_takeLatest_4 (tgt := 10) rfl rfl (fun q => ?_) (fun q => ?_)
  · have h := h.2 q
    refine g_aload_n C dX0_takeLatest_10 rfl rfl rfl ?_
    refine g_dup C dX0_takeLatest_11 rfl rfl ?_
    refine f_X0_22 C dX0_takeLatest_12 rfl ?_
    refine g_iconst C dX0_takeLatest_15 ic_1 rfl ?_
    refine g_isub C dX0_takeLatest_16 rfl ?_
    refine p_X0_22 C dX0_takeLatest_17 rfl h (fun σ1 h => ?_)
    refine g_aload_n C dX0_takeLatest_20 rfl rfl rfl ?_
    refine g_aload_n C dX0_takeLatest_21 rfl rfl rfl ?_
    refine f_X0_11 C dX0_takeLatest_22 rfl ?_
    refine g_aload_n C dX0_takeLatest_25 rfl rfl rfl ?_
    refine f_X0_18 C dX0_takeLatest_26 rfl ?_
    refine g_aload_n C dX0_takeLatest_29 rfl rfl rfl ?_
    refine f_X0_22 C dX0_takeLatest_30 rfl ?_
    refine g_iadd C dX0_takeLatest_33 rfl ?_
    refine g_iconst C dX0_takeLatest_34 ic_4 rfl ?_
    refine g_irem C dX0_takeLatest_35 (by decide) rfl ?_
    obtain ⟨hin4, h⟩ := h
    refine g_aald C dX0_takeLatest_36 hin4 rfl ?_
    refine k_X0_25 isM_0 (isM_st hin4) C dX0_takeLatest_37 (Nat.le_of_ble_eq_true rfl) (by decide) rfl rfl h (fun σ2 h => ?_)
    refine g_aload_n C dX0_takeLatest_40 rfl rfl rfl ?_
    refine f_X0_22 C dX0_takeLatest_41 rfl ?_
    exact g_iret C dX0_takeLatest_44 D h
  · have h := h.1 q
    refine g_bipush C dX0_takeLatest_7 bp_m5 rfl ?_
    exact g_iret C dX0_takeLatest_9 D h
theorem hd_X0_takeLatest : yX0_takeLatest.cls ≠ "java/lang/invoke/MethodHandle" ∧ yX0_takeLatest.cls ≠ "java/lang/invoke/VarHandle" ∧ (parseMethodDescriptor yX0_takeLatest.desc).map (fun d => d.parameters.length) = some 1 := by decide +kernel
theorem k_X4_128 {V : EV} {X : CX} {cc : ByteArray} {nL : Nat} {R : Room} (C : OK V X RX4 cc nL R) {σ : Mem} {pc pc' : Nat} {L : List (Option Value)} {st : List Value} {P : Int32 → Mem → Prop} (d : decode cc pc = .ok (.invokevirtual 128, 3)) (hst : (st.map fun v => v.category).sum ≤ 8) (hr : 2 + 1 ≤ R.frames ∧ 8 + (2 + 11) + 45 ≤ R.locals) (hL : L.length = nL) (hp : pc + 3 = pc') (h : wp_X0_takeLatest σ P) (k : ∀ r τ, P r τ → GG V X τ pc' L (.int r :: st)) : GG V X σ pc L (.ref (ad V 0) :: .ref (ad V 85) :: st) :=
  g_callVi C (av := [.ref (ad V 0)]) (fun l => c_X0_takeLatest V σ P l) (by decide) (en_85 V σ) (q := (RX0, TX0, 3)) rfl rfl ml_RX4_128 im_X0_takeLatest se_X0_takeLatest ini_RX0 co_X0_takeLatest hd_X0_takeLatest rfl ⟨rfl, rfl⟩ hr hst d hL hp h k

theorem dX1_hasCell_0 : decode cX1_hasCell 0 = .ok (.aload_n 0, 1) := by decide +kernel
theorem dX1_hasCell_1 : decode cX1_hasCell 1 = .ok (.getfield 22, 3) := by decide +kernel
theorem dX1_hasCell_4 : decode cX1_hasCell 4 = .ok (.iload_n 1, 1) := by decide +kernel
theorem dX1_hasCell_5 : decode cX1_hasCell 5 = .ok (.iaload, 1) := by decide +kernel
theorem dX1_hasCell_6 : decode cX1_hasCell 6 = .ok (.ifCond .lt 7, 3) := by decide +kernel
theorem dX1_hasCell_9 : decode cX1_hasCell 9 = .ok (.iconst 1, 1) := by decide +kernel
theorem dX1_hasCell_10 : decode cX1_hasCell 10 = .ok (.goto 4, 3) := by decide +kernel
theorem dX1_hasCell_13 : decode cX1_hasCell 13 = .ok (.iconst 0, 1) := by decide +kernel
theorem dX1_hasCell_14 : decode cX1_hasCell 14 = .ok (.ireturn, 1) := by decide +kernel
def wp_X1_hasCell (σ : Mem) (y1 : Int32) (P : Int32 → Prop) : Prop :=
  vp_in y1 50 ∧ (((σ 4 y1.toNatClampNeg) < 0 →
    P 0) ∧
    (¬ (σ 4 y1.toNatClampNeg) < 0 →
    P 1))
set_option maxRecDepth 100000 in
set_option maxHeartbeats 4000000 in
theorem c_X1_hasCell (V : EV) (σ : Mem) (y1 : Int32) (P : Int32 → Prop) (l : Launch) : Met l yX1_hasCell (.code yX1_hasCell cX1_hasCell 2 (some .boolean) :: AW) { frames := 0, cells := 0, slots := 0, locals := 0 } (va_Pc [.ref (ad V 0), .int y1] (fun U => wP V σ U ∧ wp_X1_hasCell σ y1 P)) (va_Qi (fun r τ => τ = σ ∧ P r) (wB V) (AA V)) 0 0 (AA V) := by
  refine met_i V σ (own := RX1) (by decide +kernel) rfl (fun v hv => by simp at hv; rcases hv with rfl | rfl <;> rfl) (Nat.le_of_ble_eq_true rfl) (fun X C D h => ?_) l
  show GG V X σ 0 [some (.ref (ad V 0)), some (.int y1)] []
  refine g_aload_n C dX1_hasCell_0 rfl rfl rfl ?_
  refine f_X1_22 C dX1_hasCell_1 rfl ?_
  refine g_iload_n C dX1_hasCell_4 rfl rfl rfl ?_
  obtain ⟨hin, h⟩ := h
  refine g_ild C dX1_hasCell_5 arr_4 hin rfl ?_
  refine g_if_lt C dX1_hasCell_6 (tgt := 13) rfl rfl (fun q => ?_) (fun q => ?_)
  · have h := h.1 q
    refine g_iconst C dX1_hasCell_13 ic_0 rfl ?_
    exact g_zret C dX1_hasCell_14 D (by decide) ⟨rfl, h⟩
  · have h := h.2 q
    refine g_iconst C dX1_hasCell_9 ic_1 rfl ?_
    refine g_goto C dX1_hasCell_10 (pc' := 14) rfl ?_
    exact g_zret C dX1_hasCell_14 D (by decide) ⟨rfl, h⟩
theorem hd_X1_hasCell : yX1_hasCell.cls ≠ "java/lang/invoke/MethodHandle" ∧ yX1_hasCell.cls ≠ "java/lang/invoke/VarHandle" ∧ (parseMethodDescriptor yX1_hasCell.desc).map (fun d => d.parameters.length) = some 1 := by decide +kernel
theorem k_X1_71 {V : EV} {X : CX} {cc : ByteArray} {nL : Nat} {R : Room} {y1 : Int32} (C : OK V X RX1 cc nL R) {σ : Mem} {pc pc' : Nat} {L : List (Option Value)} {st : List Value} {P : Int32 → Prop} (d : decode cc pc = .ok (.invokevirtual 71, 3)) (hst : (st.map fun v => v.category).sum ≤ 8) (hr : 0 + 1 ≤ R.frames ∧ 8 + (2 + 11) + 0 ≤ R.locals) (hL : L.length = nL) (hp : pc + 3 = pc') (h : wp_X1_hasCell σ y1 P) (k : ∀ r, P r → GG V X σ pc' L (.int r :: st)) : GG V X σ pc L (.int y1 :: .ref (ad V 0) :: st) :=
  g_callVi C (av := [.int y1]) (fun l => c_X1_hasCell V σ y1 P l) (by decide) (en_0 V σ) (q := (RX1, TX1, 17)) rfl rfl ml_RX1_71 im_X1_hasCell se_X1_hasCell ini_RX1 co_X1_hasCell hd_X1_hasCell rfl ⟨rfl, rfl⟩ hr hst d hL hp h (fun r τ hq => by obtain ⟨rfl, hq⟩ := hq; exact k r hq)

theorem dX1_isGivable_0 : decode cX1_isGivable 0 = .ok (.aload_n 0, 1) := by decide +kernel
theorem dX1_isGivable_1 : decode cX1_isGivable 1 = .ok (.getfield 9, 3) := by decide +kernel
theorem dX1_isGivable_4 : decode cX1_isGivable 4 = .ok (.iload_n 1, 1) := by decide +kernel
theorem dX1_isGivable_5 : decode cX1_isGivable 5 = .ok (.baload, 1) := by decide +kernel
theorem dX1_isGivable_6 : decode cX1_isGivable 6 = .ok (.ifCond .ne 31, 3) := by decide +kernel
theorem dX1_isGivable_9 : decode cX1_isGivable 9 = .ok (.aload_n 0, 1) := by decide +kernel
theorem dX1_isGivable_10 : decode cX1_isGivable 10 = .ok (.getfield 19, 3) := by decide +kernel
theorem dX1_isGivable_13 : decode cX1_isGivable 13 = .ok (.iload_n 1, 1) := by decide +kernel
theorem dX1_isGivable_14 : decode cX1_isGivable 14 = .ok (.iaload, 1) := by decide +kernel
theorem dX1_isGivable_15 : decode cX1_isGivable 15 = .ok (.ifCond .ge 22, 3) := by decide +kernel
theorem dX1_isGivable_18 : decode cX1_isGivable 18 = .ok (.aload_n 0, 1) := by decide +kernel
theorem dX1_isGivable_19 : decode cX1_isGivable 19 = .ok (.getfield 15, 3) := by decide +kernel
theorem dX1_isGivable_22 : decode cX1_isGivable 22 = .ok (.iload_n 1, 1) := by decide +kernel
theorem dX1_isGivable_23 : decode cX1_isGivable 23 = .ok (.iaload, 1) := by decide +kernel
theorem dX1_isGivable_24 : decode cX1_isGivable 24 = .ok (.aload_n 0, 1) := by decide +kernel
theorem dX1_isGivable_25 : decode cX1_isGivable 25 = .ok (.getfield 43, 3) := by decide +kernel
theorem dX1_isGivable_28 : decode cX1_isGivable 28 = .ok (.iconst 0, 1) := by decide +kernel
theorem dX1_isGivable_29 : decode cX1_isGivable 29 = .ok (.iaload, 1) := by decide +kernel
theorem dX1_isGivable_30 : decode cX1_isGivable 30 = .ok (.if_icmp .ge 7, 3) := by decide +kernel
theorem dX1_isGivable_33 : decode cX1_isGivable 33 = .ok (.iconst 1, 1) := by decide +kernel
theorem dX1_isGivable_34 : decode cX1_isGivable 34 = .ok (.goto 4, 3) := by decide +kernel
theorem dX1_isGivable_37 : decode cX1_isGivable 37 = .ok (.iconst 0, 1) := by decide +kernel
theorem dX1_isGivable_38 : decode cX1_isGivable 38 = .ok (.ireturn, 1) := by decide +kernel
def wp_X1_isGivable (σ : Mem) (y1 : Int32) (P : Int32 → Prop) : Prop :=
  vp_in y1 40 ∧ (((σ 1 y1.toNatClampNeg) = 0 →
    vp_in y1 40 ∧ ((0 ≤ (σ 3 y1.toNatClampNeg) →
      P 0) ∧
      (¬ 0 ≤ (σ 3 y1.toNatClampNeg) →
      vp_in y1 40 ∧ (((σ 11 0) ≤ (σ 2 y1.toNatClampNeg) →
        P 0) ∧
        (¬ (σ 11 0) ≤ (σ 2 y1.toNatClampNeg) →
        P 1))))) ∧
    (¬ (σ 1 y1.toNatClampNeg) = 0 →
    P 0))
set_option maxRecDepth 100000 in
set_option maxHeartbeats 4000000 in
theorem c_X1_isGivable (V : EV) (σ : Mem) (y1 : Int32) (P : Int32 → Prop) (l : Launch) : Met l yX1_isGivable (.code yX1_isGivable cX1_isGivable 2 (some .boolean) :: AW) { frames := 0, cells := 0, slots := 0, locals := 0 } (va_Pc [.ref (ad V 0), .int y1] (fun U => wP V σ U ∧ wp_X1_isGivable σ y1 P)) (va_Qi (fun r τ => τ = σ ∧ P r) (wB V) (AA V)) 0 0 (AA V) := by
  refine met_i V σ (own := RX1) (by decide +kernel) rfl (fun v hv => by simp at hv; rcases hv with rfl | rfl <;> rfl) (Nat.le_of_ble_eq_true rfl) (fun X C D h => ?_) l
  show GG V X σ 0 [some (.ref (ad V 0)), some (.int y1)] []
  refine g_aload_n C dX1_isGivable_0 rfl rfl rfl ?_
  refine f_X1_9 C dX1_isGivable_1 rfl ?_
  refine g_iload_n C dX1_isGivable_4 rfl rfl rfl ?_
  obtain ⟨hin, h⟩ := h
  refine g_zld C dX1_isGivable_5 arr_1 hin rfl ?_
  refine g_if_ne C dX1_isGivable_6 (tgt := 37) rfl rfl (fun q => ?_) (fun q => ?_)
  · have h := h.2 q
    refine g_iconst C dX1_isGivable_37 ic_0 rfl ?_
    exact g_zret C dX1_isGivable_38 D (by decide) ⟨rfl, h⟩
  · have h := h.1 q
    refine g_aload_n C dX1_isGivable_9 rfl rfl rfl ?_
    refine f_X1_19 C dX1_isGivable_10 rfl ?_
    refine g_iload_n C dX1_isGivable_13 rfl rfl rfl ?_
    obtain ⟨hin, h⟩ := h
    refine g_ild C dX1_isGivable_14 arr_3 hin rfl ?_
    refine g_if_ge C dX1_isGivable_15 (tgt := 37) rfl rfl (fun q => ?_) (fun q => ?_)
    · have h := h.1 q
      refine g_iconst C dX1_isGivable_37 ic_0 rfl ?_
      exact g_zret C dX1_isGivable_38 D (by decide) ⟨rfl, h⟩
    · have h := h.2 q
      refine g_aload_n C dX1_isGivable_18 rfl rfl rfl ?_
      refine f_X1_15 C dX1_isGivable_19 rfl ?_
      refine g_iload_n C dX1_isGivable_22 rfl rfl rfl ?_
      obtain ⟨hin, h⟩ := h
      refine g_ild C dX1_isGivable_23 arr_2 hin rfl ?_
      refine g_aload_n C dX1_isGivable_24 rfl rfl rfl ?_
      refine f_X1_43 C dX1_isGivable_25 rfl ?_
      refine g_iconst C dX1_isGivable_28 ic_0 rfl ?_
      refine g_ildk C dX1_isGivable_29 arr_11 vi_0_3 tl_0 rfl ?_
      refine g_icmp_ge C dX1_isGivable_30 (tgt := 37) rfl rfl (fun q => ?_) (fun q => ?_)
      · have h := h.1 q
        refine g_iconst C dX1_isGivable_37 ic_0 rfl ?_
        exact g_zret C dX1_isGivable_38 D (by decide) ⟨rfl, h⟩
      · have h := h.2 q
        refine g_iconst C dX1_isGivable_33 ic_1 rfl ?_
        refine g_goto C dX1_isGivable_34 (pc' := 38) rfl ?_
        exact g_zret C dX1_isGivable_38 D (by decide) ⟨rfl, h⟩
theorem hd_X1_isGivable : yX1_isGivable.cls ≠ "java/lang/invoke/MethodHandle" ∧ yX1_isGivable.cls ≠ "java/lang/invoke/VarHandle" ∧ (parseMethodDescriptor yX1_isGivable.desc).map (fun d => d.parameters.length) = some 1 := by decide +kernel
theorem k_X1_116 {V : EV} {X : CX} {cc : ByteArray} {nL : Nat} {R : Room} {y1 : Int32} (C : OK V X RX1 cc nL R) {σ : Mem} {pc pc' : Nat} {L : List (Option Value)} {st : List Value} {P : Int32 → Prop} (d : decode cc pc = .ok (.invokevirtual 116, 3)) (hst : (st.map fun v => v.category).sum ≤ 8) (hr : 0 + 1 ≤ R.frames ∧ 8 + (2 + 11) + 0 ≤ R.locals) (hL : L.length = nL) (hp : pc + 3 = pc') (h : wp_X1_isGivable σ y1 P) (k : ∀ r, P r → GG V X σ pc' L (.int r :: st)) : GG V X σ pc L (.int y1 :: .ref (ad V 0) :: st) :=
  g_callVi C (av := [.int y1]) (fun l => c_X1_isGivable V σ y1 P l) (by decide) (en_0 V σ) (q := (RX1, TX1, 17)) rfl rfl ml_RX1_116 im_X1_isGivable se_X1_isGivable ini_RX1 co_X1_isGivable hd_X1_isGivable rfl ⟨rfl, rfl⟩ hr hst d hL hp h (fun r τ hq => by obtain ⟨rfl, hq⟩ := hq; exact k r hq)

theorem dX1_cellToGive_0 : decode cX1_cellToGive 0 = .ok (.aload_n 0, 1) := by decide +kernel
theorem dX1_cellToGive_1 : decode cX1_cellToGive 1 = .ok (.getfield 43, 3) := by decide +kernel
theorem dX1_cellToGive_4 : decode cX1_cellToGive 4 = .ok (.iconst 2, 1) := by decide +kernel
theorem dX1_cellToGive_5 : decode cX1_cellToGive 5 = .ok (.iaload, 1) := by decide +kernel
theorem dX1_cellToGive_6 : decode cX1_cellToGive 6 = .ok (.iconst 1, 1) := by decide +kernel
theorem dX1_cellToGive_7 : decode cX1_cellToGive 7 = .ok (.if_icmp .ne 7, 3) := by decide +kernel
theorem dX1_cellToGive_10 : decode cX1_cellToGive 10 = .ok (.iconst 1, 1) := by decide +kernel
theorem dX1_cellToGive_11 : decode cX1_cellToGive 11 = .ok (.goto 4, 3) := by decide +kernel
theorem dX1_cellToGive_14 : decode cX1_cellToGive 14 = .ok (.iconst 0, 1) := by decide +kernel
theorem dX1_cellToGive_15 : decode cX1_cellToGive 15 = .ok (.istore_n 1, 1) := by decide +kernel
theorem dX1_cellToGive_16 : decode cX1_cellToGive 16 = .ok (.aload_n 0, 1) := by decide +kernel
theorem dX1_cellToGive_17 : decode cX1_cellToGive 17 = .ok (.getfield 43, 3) := by decide +kernel
theorem dX1_cellToGive_20 : decode cX1_cellToGive 20 = .ok (.iconst 2, 1) := by decide +kernel
theorem dX1_cellToGive_21 : decode cX1_cellToGive 21 = .ok (.iaload, 1) := by decide +kernel
theorem dX1_cellToGive_22 : decode cX1_cellToGive 22 = .ok (.iconst 2, 1) := by decide +kernel
theorem dX1_cellToGive_23 : decode cX1_cellToGive 23 = .ok (.if_icmp .ne 12, 3) := by decide +kernel
theorem dX1_cellToGive_26 : decode cX1_cellToGive 26 = .ok (.aload_n 0, 1) := by decide +kernel
theorem dX1_cellToGive_27 : decode cX1_cellToGive 27 = .ok (.getfield 46, 3) := by decide +kernel
theorem dX1_cellToGive_30 : decode cX1_cellToGive 30 = .ok (.iconst 1, 1) := by decide +kernel
theorem dX1_cellToGive_31 : decode cX1_cellToGive 31 = .ok (.iadd, 1) := by decide +kernel
theorem dX1_cellToGive_32 : decode cX1_cellToGive 32 = .ok (.goto 4, 3) := by decide +kernel
theorem dX1_cellToGive_35 : decode cX1_cellToGive 35 = .ok (.iconst 0, 1) := by decide +kernel
theorem dX1_cellToGive_36 : decode cX1_cellToGive 36 = .ok (.istore_n 2, 1) := by decide +kernel
theorem dX1_cellToGive_37 : decode cX1_cellToGive 37 = .ok (.bipush (-5), 2) := by decide +kernel
theorem dX1_cellToGive_39 : decode cX1_cellToGive 39 = .ok (.istore_n 3, 1) := by decide +kernel
theorem dX1_cellToGive_40 : decode cX1_cellToGive 40 = .ok (.iconst 0, 1) := by decide +kernel
theorem dX1_cellToGive_41 : decode cX1_cellToGive 41 = .ok (.istore 4, 2) := by decide +kernel
theorem dX1_cellToGive_43 : decode cX1_cellToGive 43 = .ok (.iload 4, 2) := by decide +kernel
theorem dX1_cellToGive_45 : decode cX1_cellToGive 45 = .ok (.bipush 40, 2) := by decide +kernel
theorem dX1_cellToGive_47 : decode cX1_cellToGive 47 = .ok (.if_icmp .ge 54, 3) := by decide +kernel
theorem dX1_cellToGive_50 : decode cX1_cellToGive 50 = .ok (.iload_n 2, 1) := by decide +kernel
theorem dX1_cellToGive_51 : decode cX1_cellToGive 51 = .ok (.iload 4, 2) := by decide +kernel
theorem dX1_cellToGive_53 : decode cX1_cellToGive 53 = .ok (.iadd, 1) := by decide +kernel
theorem dX1_cellToGive_54 : decode cX1_cellToGive 54 = .ok (.bipush 40, 2) := by decide +kernel
theorem dX1_cellToGive_56 : decode cX1_cellToGive 56 = .ok (.irem, 1) := by decide +kernel
theorem dX1_cellToGive_57 : decode cX1_cellToGive 57 = .ok (.istore 5, 2) := by decide +kernel
theorem dX1_cellToGive_59 : decode cX1_cellToGive 59 = .ok (.aload_n 0, 1) := by decide +kernel
theorem dX1_cellToGive_60 : decode cX1_cellToGive 60 = .ok (.iload 5, 2) := by decide +kernel
theorem dX1_cellToGive_62 : decode cX1_cellToGive 62 = .ok (.invokevirtual 116, 3) := by decide +kernel
theorem dX1_cellToGive_65 : decode cX1_cellToGive 65 = .ok (.ifCond .eq 30, 3) := by decide +kernel
theorem dX1_cellToGive_68 : decode cX1_cellToGive 68 = .ok (.iload_n 3, 1) := by decide +kernel
theorem dX1_cellToGive_69 : decode cX1_cellToGive 69 = .ok (.ifCond .lt 23, 3) := by decide +kernel
theorem dX1_cellToGive_72 : decode cX1_cellToGive 72 = .ok (.iload_n 1, 1) := by decide +kernel
theorem dX1_cellToGive_73 : decode cX1_cellToGive 73 = .ok (.ifCond .eq 22, 3) := by decide +kernel
theorem dX1_cellToGive_76 : decode cX1_cellToGive 76 = .ok (.aload_n 0, 1) := by decide +kernel
theorem dX1_cellToGive_77 : decode cX1_cellToGive 77 = .ok (.getfield 15, 3) := by decide +kernel
theorem dX1_cellToGive_80 : decode cX1_cellToGive 80 = .ok (.iload 5, 2) := by decide +kernel
theorem dX1_cellToGive_82 : decode cX1_cellToGive 82 = .ok (.iaload, 1) := by decide +kernel
theorem dX1_cellToGive_83 : decode cX1_cellToGive 83 = .ok (.aload_n 0, 1) := by decide +kernel
theorem dX1_cellToGive_84 : decode cX1_cellToGive 84 = .ok (.getfield 15, 3) := by decide +kernel
theorem dX1_cellToGive_87 : decode cX1_cellToGive 87 = .ok (.iload_n 3, 1) := by decide +kernel
theorem dX1_cellToGive_88 : decode cX1_cellToGive 88 = .ok (.iaload, 1) := by decide +kernel
theorem dX1_cellToGive_89 : decode cX1_cellToGive 89 = .ok (.if_icmp .ge 6, 3) := by decide +kernel
theorem dX1_cellToGive_92 : decode cX1_cellToGive 92 = .ok (.iload 5, 2) := by decide +kernel
theorem dX1_cellToGive_94 : decode cX1_cellToGive 94 = .ok (.istore_n 3, 1) := by decide +kernel
theorem dX1_cellToGive_95 : decode cX1_cellToGive 95 = .ok (.iinc 4 1, 3) := by decide +kernel
theorem dX1_cellToGive_98 : decode cX1_cellToGive 98 = .ok (.goto (-55), 3) := by decide +kernel
theorem dX1_cellToGive_101 : decode cX1_cellToGive 101 = .ok (.iload_n 3, 1) := by decide +kernel
theorem dX1_cellToGive_102 : decode cX1_cellToGive 102 = .ok (.ireturn, 1) := by decide +kernel
def wp_X1_cellToGive (σ : Mem) (P : Int32 → Prop) : Prop :=
  jn (A := Int32 → Prop) (fun (v1 : Int32) =>
    jn (A := Int32 → Prop) (fun (v3 : Int32) =>
      lq2 (fun rec7 (x5 : Int32) (x6 : Int32) =>
        ((40 ≤ x6 →
          P x5) ∧
          (¬ 40 ≤ x6 →
          wp_X1_isGivable σ (((v3 + x6) - (v3 + x6) / 40 * 40)) (fun r8 =>
            ((r8 = 0 →
            rec7 x5 (x6 + 1)) ∧
            (¬ r8 = 0 →
            ((x5 < 0 →
              rec7 (((v3 + x6) - (v3 + x6) / 40 * 40)) (x6 + 1)) ∧
              (¬ x5 < 0 →
              ((v1 = 0 →
                rec7 x5 (x6 + 1)) ∧
                (¬ v1 = 0 →
                vp_in (((v3 + x6) - (v3 + x6) / 40 * 40)) 40 ∧ vp_in x5 40 ∧ (((σ 2 x5.toNatClampNeg) ≤ (σ 2 (((v3 + x6) - (v3 + x6) / 40 * 40)).toNatClampNeg) →
                  rec7 x5 (x6 + 1)) ∧
                  (¬ (σ 2 x5.toNatClampNeg) ≤ (σ 2 (((v3 + x6) - (v3 + x6) / 40 * 40)).toNatClampNeg) →
                  rec7 (((v3 + x6) - (v3 + x6) / 40 * 40)) (x6 + 1))))))))))))) (-5) 0)
      (fun J4 =>
      (((σ 11 2) = 2 →
      J4 ((σ 0 13) + 1)) ∧
      (¬ (σ 11 2) = 2 →
      J4 0))))
    (fun J2 =>
    (((σ 11 2) = 1 →
    J2 1) ∧
    (¬ (σ 11 2) = 1 →
    J2 0)))
set_option maxRecDepth 100000 in
set_option maxHeartbeats 4000000 in
theorem c_X1_cellToGive (V : EV) (σ : Mem) (P : Int32 → Prop) (l : Launch) : Met l yX1_cellToGive (.code yX1_cellToGive cX1_cellToGive 6 (some .int) :: AW) { frames := 1, cells := 0, slots := 0, locals := 21 } (va_Pc [.ref (ad V 0)] (fun U => wP V σ U ∧ wp_X1_cellToGive σ P)) (va_Qi (fun r τ => τ = σ ∧ P r) (wB V) (AA V)) 0 0 (AA V) := by
  refine met_i V σ (own := RX1) (by decide +kernel) rfl (fun v hv => by simp at hv; subst hv; rfl) (Nat.le_of_ble_eq_true rfl) (fun X C D h => ?_) l
  show GG V X σ 0 [some (.ref (ad V 0)), none, none, none, none, none] []
  refine g_aload_n C dX1_cellToGive_0 rfl rfl rfl ?_
  refine f_X1_43 C dX1_cellToGive_1 rfl ?_
  refine g_iconst C dX1_cellToGive_4 ic_2 rfl ?_
  refine g_ildk C dX1_cellToGive_5 arr_11 vi_2_3 tl_2 rfl ?_
  refine g_iconst C dX1_cellToGive_6 ic_1 rfl ?_
  refine jn_go h (fun (J2 : Int32 → Prop) => ∀ (v1 : Int32), J2 v1 → GG V X σ 15 [some (.ref (ad V 0)), none, none, none, none, none] [.int v1]) (fun v1 h => ?_) (fun J2 hJ2 h => ?_)
  · refine g_istore_n C dX1_cellToGive_15 rfl (Nat.le_of_ble_eq_true rfl) (L' := [some (.ref (ad V 0)), some (.int v1), none, none, none, none]) rfl rfl ?_
    refine g_aload_n C dX1_cellToGive_16 rfl rfl rfl ?_
    refine f_X1_43 C dX1_cellToGive_17 rfl ?_
    refine g_iconst C dX1_cellToGive_20 ic_2 rfl ?_
    refine g_ildk C dX1_cellToGive_21 arr_11 vi_2_3 tl_2 rfl ?_
    refine g_iconst C dX1_cellToGive_22 ic_2 rfl ?_
    refine jn_go h (fun (J4 : Int32 → Prop) => ∀ (v3 : Int32), J4 v3 → GG V X σ 36 [some (.ref (ad V 0)), some (.int v1), none, none, none, none] [.int v3]) (fun v3 h => ?_) (fun J4 hJ4 h => ?_)
    · refine g_istore_n C dX1_cellToGive_36 rfl (Nat.le_of_ble_eq_true rfl) (L' := [some (.ref (ad V 0)), some (.int v1), some (.int v3), none, none, none]) rfl rfl ?_
      refine g_bipush C dX1_cellToGive_37 bp_m5 rfl ?_
      refine g_istore_n C dX1_cellToGive_39 rfl (Nat.le_of_ble_eq_true rfl) (L' := [some (.ref (ad V 0)), some (.int v1), some (.int v3), some (.int (-5)), none, none]) rfl rfl ?_
      refine g_iconst C dX1_cellToGive_40 ic_0 rfl ?_
      refine g_istore C dX1_cellToGive_41 (Nat.le_of_ble_eq_true rfl) (L' := [some (.ref (ad V 0)), some (.int v1), some (.int v3), some (.int (-5)), some (.int 0), none]) rfl rfl ?_
      refine h (fun (x5 : Int32) (x6 : Int32) => GG V X σ 43 [some (.ref (ad V 0)), some (.int v1), some (.int v3), some (.int x5), some (.int x6), none] []) (fun x5 x6 h => ?_)
      refine g_iload C dX1_cellToGive_43 rfl rfl ?_
      refine g_bipush C dX1_cellToGive_45 bp_40 rfl ?_
      refine g_icmp_ge C dX1_cellToGive_47 (tgt := 101) rfl rfl (fun q => ?_) (fun q => ?_)
      · have h := h.1 q
        refine g_iload_n C dX1_cellToGive_101 rfl rfl rfl ?_
        exact g_iret C dX1_cellToGive_102 D ⟨rfl, h⟩
      · have h := h.2 q
        refine g_iload_n C dX1_cellToGive_50 rfl rfl rfl ?_
        refine g_iload C dX1_cellToGive_51 rfl rfl ?_
        refine g_iadd C dX1_cellToGive_53 rfl ?_
        refine g_bipush C dX1_cellToGive_54 bp_40 rfl ?_
        refine g_irem C dX1_cellToGive_56 (by decide) rfl ?_
        refine g_istore C dX1_cellToGive_57 (Nat.le_of_ble_eq_true rfl) (L' := [some (.ref (ad V 0)), some (.int v1), some (.int v3), some (.int x5), some (.int x6), some (.int ((v3 + x6) - (v3 + x6) / 40 * 40))]) rfl rfl ?_
        refine g_aload_n C dX1_cellToGive_59 rfl rfl rfl ?_
        refine g_iload C dX1_cellToGive_60 rfl rfl ?_
        refine k_X1_116 C dX1_cellToGive_62 (Nat.le_of_ble_eq_true rfl) (by decide) rfl rfl h (fun r8 h => ?_)
        refine g_if_eq C dX1_cellToGive_65 (tgt := 95) rfl rfl (fun q => ?_) (fun q => ?_)
        · have h := h.1 q
          refine g_iinc C dX1_cellToGive_95 (v := x6 + 1) (by rw [ic_1]) rfl (Nat.le_of_ble_eq_true rfl) (L' := [some (.ref (ad V 0)), some (.int v1), some (.int v3), some (.int x5), some (.int (x6 + 1)), some (.int ((v3 + x6) - (v3 + x6) / 40 * 40))]) rfl rfl ?_
          refine g_goto C dX1_cellToGive_98 (pc' := 43) rfl ?_
          refine g_drop 5 (L' := [some (.ref (ad V 0)), some (.int v1), some (.int v3), some (.int x5), some (.int (x6 + 1)), none]) rfl ?_
          exact h
        · have h := h.2 q
          refine g_iload_n C dX1_cellToGive_68 rfl rfl rfl ?_
          refine g_if_lt C dX1_cellToGive_69 (tgt := 92) rfl rfl (fun q => ?_) (fun q => ?_)
          · have h := h.1 q
            refine g_iload C dX1_cellToGive_92 rfl rfl ?_
            refine g_istore_n C dX1_cellToGive_94 rfl (Nat.le_of_ble_eq_true rfl) (L' := [some (.ref (ad V 0)), some (.int v1), some (.int v3), some (.int ((v3 + x6) - (v3 + x6) / 40 * 40)), some (.int x6), some (.int ((v3 + x6) - (v3 + x6) / 40 * 40))]) rfl rfl ?_
            refine g_iinc C dX1_cellToGive_95 (v := x6 + 1) (by rw [ic_1]) rfl (Nat.le_of_ble_eq_true rfl) (L' := [some (.ref (ad V 0)), some (.int v1), some (.int v3), some (.int ((v3 + x6) - (v3 + x6) / 40 * 40)), some (.int (x6 + 1)), some (.int ((v3 + x6) - (v3 + x6) / 40 * 40))]) rfl rfl ?_
            refine g_goto C dX1_cellToGive_98 (pc' := 43) rfl ?_
            refine g_drop 5 (L' := [some (.ref (ad V 0)), some (.int v1), some (.int v3), some (.int ((v3 + x6) - (v3 + x6) / 40 * 40)), some (.int (x6 + 1)), none]) rfl ?_
            exact h
          · have h := h.2 q
            refine g_iload_n C dX1_cellToGive_72 rfl rfl rfl ?_
            refine g_if_eq C dX1_cellToGive_73 (tgt := 95) rfl rfl (fun q => ?_) (fun q => ?_)
            · have h := h.1 q
              refine g_iinc C dX1_cellToGive_95 (v := x6 + 1) (by rw [ic_1]) rfl (Nat.le_of_ble_eq_true rfl) (L' := [some (.ref (ad V 0)), some (.int v1), some (.int v3), some (.int x5), some (.int (x6 + 1)), some (.int ((v3 + x6) - (v3 + x6) / 40 * 40))]) rfl rfl ?_
              refine g_goto C dX1_cellToGive_98 (pc' := 43) rfl ?_
              refine g_drop 5 (L' := [some (.ref (ad V 0)), some (.int v1), some (.int v3), some (.int x5), some (.int (x6 + 1)), none]) rfl ?_
              exact h
            · have h := h.2 q
              refine g_aload_n C dX1_cellToGive_76 rfl rfl rfl ?_
              refine f_X1_15 C dX1_cellToGive_77 rfl ?_
              refine g_iload C dX1_cellToGive_80 rfl rfl ?_
              obtain ⟨hin, h⟩ := h
              refine g_ild C dX1_cellToGive_82 arr_2 hin rfl ?_
              refine g_aload_n C dX1_cellToGive_83 rfl rfl rfl ?_
              refine f_X1_15 C dX1_cellToGive_84 rfl ?_
              refine g_iload_n C dX1_cellToGive_87 rfl rfl rfl ?_
              obtain ⟨hin, h⟩ := h
              refine g_ild C dX1_cellToGive_88 arr_2 hin rfl ?_
              refine g_icmp_ge C dX1_cellToGive_89 (tgt := 95) rfl rfl (fun q => ?_) (fun q => ?_)
              · have h := h.1 q
                refine g_iinc C dX1_cellToGive_95 (v := x6 + 1) (by rw [ic_1]) rfl (Nat.le_of_ble_eq_true rfl) (L' := [some (.ref (ad V 0)), some (.int v1), some (.int v3), some (.int x5), some (.int (x6 + 1)), some (.int ((v3 + x6) - (v3 + x6) / 40 * 40))]) rfl rfl ?_
                refine g_goto C dX1_cellToGive_98 (pc' := 43) rfl ?_
                refine g_drop 5 (L' := [some (.ref (ad V 0)), some (.int v1), some (.int v3), some (.int x5), some (.int (x6 + 1)), none]) rfl ?_
                exact h
              · have h := h.2 q
                refine g_iload C dX1_cellToGive_92 rfl rfl ?_
                refine g_istore_n C dX1_cellToGive_94 rfl (Nat.le_of_ble_eq_true rfl) (L' := [some (.ref (ad V 0)), some (.int v1), some (.int v3), some (.int ((v3 + x6) - (v3 + x6) / 40 * 40)), some (.int x6), some (.int ((v3 + x6) - (v3 + x6) / 40 * 40))]) rfl rfl ?_
                refine g_iinc C dX1_cellToGive_95 (v := x6 + 1) (by rw [ic_1]) rfl (Nat.le_of_ble_eq_true rfl) (L' := [some (.ref (ad V 0)), some (.int v1), some (.int v3), some (.int ((v3 + x6) - (v3 + x6) / 40 * 40)), some (.int (x6 + 1)), some (.int ((v3 + x6) - (v3 + x6) / 40 * 40))]) rfl rfl ?_
                refine g_goto C dX1_cellToGive_98 (pc' := 43) rfl ?_
                refine g_drop 5 (L' := [some (.ref (ad V 0)), some (.int v1), some (.int v3), some (.int ((v3 + x6) - (v3 + x6) / 40 * 40)), some (.int (x6 + 1)), none]) rfl ?_
                exact h
    refine g_icmp_ne C dX1_cellToGive_23 (tgt := 35) rfl rfl (fun q => ?_) (fun q => ?_)
    · have h := h.2 q
      refine g_iconst C dX1_cellToGive_35 ic_0 rfl ?_
      exact hJ4 0 h
    · have h := h.1 q
      refine g_aload_n C dX1_cellToGive_26 rfl rfl rfl ?_
      refine f_X1_46 C dX1_cellToGive_27 rfl ?_
      refine g_iconst C dX1_cellToGive_30 ic_1 rfl ?_
      refine g_iadd C dX1_cellToGive_31 rfl ?_
      refine g_goto C dX1_cellToGive_32 (pc' := 36) rfl ?_
      exact hJ4 ((σ 0 13) + 1) h
  refine g_icmp_ne C dX1_cellToGive_7 (tgt := 14) rfl rfl (fun q => ?_) (fun q => ?_)
  · have h := h.2 q
    refine g_iconst C dX1_cellToGive_14 ic_0 rfl ?_
    exact hJ2 0 h
  · have h := h.1 q
    refine g_iconst C dX1_cellToGive_10 ic_1 rfl ?_
    refine g_goto C dX1_cellToGive_11 (pc' := 15) rfl ?_
    exact hJ2 1 h
theorem hd_X1_cellToGive : yX1_cellToGive.cls ≠ "java/lang/invoke/MethodHandle" ∧ yX1_cellToGive.cls ≠ "java/lang/invoke/VarHandle" ∧ (parseMethodDescriptor yX1_cellToGive.desc).map (fun d => d.parameters.length) = some 0 := by decide +kernel
theorem k_X1_75 {V : EV} {X : CX} {cc : ByteArray} {nL : Nat} {R : Room} (C : OK V X RX1 cc nL R) {σ : Mem} {pc pc' : Nat} {L : List (Option Value)} {st : List Value} {P : Int32 → Prop} (d : decode cc pc = .ok (.invokevirtual 75, 3)) (hst : (st.map fun v => v.category).sum ≤ 8) (hr : 1 + 1 ≤ R.frames ∧ 8 + (6 + 11) + 21 ≤ R.locals) (hL : L.length = nL) (hp : pc + 3 = pc') (h : wp_X1_cellToGive σ P) (k : ∀ r, P r → GG V X σ pc' L (.int r :: st)) : GG V X σ pc L (.ref (ad V 0) :: st) :=
  g_callVi C (av := []) (fun l => c_X1_cellToGive V σ P l) (by decide) (en_0 V σ) (q := (RX1, TX1, 17)) rfl rfl ml_RX1_75 im_X1_cellToGive se_X1_cellToGive ini_RX1 co_X1_cellToGive hd_X1_cellToGive rfl ⟨rfl, rfl⟩ hr hst d hL hp h (fun r τ hq => by obtain ⟨rfl, hq⟩ := hq; exact k r hq)
theorem k_X4_150 {V : EV} {X : CX} {cc : ByteArray} {nL : Nat} {R : Room} (C : OK V X RX4 cc nL R) {σ : Mem} {pc pc' : Nat} {L : List (Option Value)} {st : List Value} {P : Int32 → Prop} (d : decode cc pc = .ok (.invokevirtual 150, 3)) (hst : (st.map fun v => v.category).sum ≤ 8) (hr : 1 + 1 ≤ R.frames ∧ 8 + (6 + 11) + 21 ≤ R.locals) (hL : L.length = nL) (hp : pc + 3 = pc') (h : wp_X1_cellToGive σ P) (k : ∀ r, P r → GG V X σ pc' L (.int r :: st)) : GG V X σ pc L (.ref (ad V 0) :: st) :=
  g_callVi C (av := []) (fun l => c_X1_cellToGive V σ P l) (by decide) (en_0 V σ) (q := (RX1, TX1, 17)) rfl rfl ml_RX4_150 im_X1_cellToGive se_X1_cellToGive ini_RX1 co_X1_cellToGive hd_X1_cellToGive rfl ⟨rfl, rfl⟩ hr hst d hL hp h (fun r τ hq => by obtain ⟨rfl, hq⟩ := hq; exact k r hq)

theorem dX1_give_0 : decode cX1_give 0 = .ok (.aload_n 0, 1) := by decide +kernel
theorem dX1_give_1 : decode cX1_give 1 = .ok (.getfield 19, 3) := by decide +kernel
theorem dX1_give_4 : decode cX1_give 4 = .ok (.iload_n 1, 1) := by decide +kernel
theorem dX1_give_5 : decode cX1_give 5 = .ok (.iload_n 2, 1) := by decide +kernel
theorem dX1_give_6 : decode cX1_give 6 = .ok (.iastore, 1) := by decide +kernel
theorem dX1_give_7 : decode cX1_give 7 = .ok (.aload_n 0, 1) := by decide +kernel
theorem dX1_give_8 : decode cX1_give 8 = .ok (.getfield 22, 3) := by decide +kernel
theorem dX1_give_11 : decode cX1_give 11 = .ok (.iload_n 2, 1) := by decide +kernel
theorem dX1_give_12 : decode cX1_give 12 = .ok (.iload_n 1, 1) := by decide +kernel
theorem dX1_give_13 : decode cX1_give 13 = .ok (.iastore, 1) := by decide +kernel
theorem dX1_give_14 : decode cX1_give 14 = .ok (.aload_n 0, 1) := by decide +kernel
theorem dX1_give_15 : decode cX1_give 15 = .ok (.iload_n 1, 1) := by decide +kernel
theorem dX1_give_16 : decode cX1_give 16 = .ok (.putfield 46, 3) := by decide +kernel
theorem dX1_give_19 : decode cX1_give 19 = .ok (.return_, 1) := by decide +kernel
def wp_X1_give (σ : Mem) (y1 : Int32) (y2 : Int32) (P : Mem → Prop) : Prop :=
  vp_in y1 40 ∧ bm (up2 σ 3 y1.toNatClampNeg y2) (fun σ1 =>
    vp_in y2 50 ∧ bm (up2 σ1 4 y2.toNatClampNeg y1) (fun σ2 =>
    bm (up2 σ2 0 13 y1) (fun σ3 =>
    P σ3)))
set_option maxRecDepth 100000 in
set_option maxHeartbeats 4000000 in
theorem c_X1_give (V : EV) (σ : Mem) (y1 : Int32) (y2 : Int32) (P : Mem → Prop) (l : Launch) : Met l yX1_give (.code yX1_give cX1_give 3 (none) :: AW) { frames := 0, cells := 0, slots := 0, locals := 0 } (va_Pc [.ref (ad V 0), .int y1, .int y2] (fun U => wP V σ U ∧ wp_X1_give σ y1 y2 P)) (va_Qv P (wB V) (AA V)) 0 0 (AA V) := by
  refine met_v V σ (own := RX1) (by decide +kernel) rfl (fun v hv => by simp at hv; rcases hv with rfl | rfl | rfl <;> rfl) (Nat.le_of_ble_eq_true rfl) (fun X C D h => ?_) l
  show GG V X σ 0 [some (.ref (ad V 0)), some (.int y1), some (.int y2)] []
  refine g_aload_n C dX1_give_0 rfl rfl rfl ?_
  refine f_X1_19 C dX1_give_1 rfl ?_
  refine g_iload_n C dX1_give_4 rfl rfl rfl ?_
  refine g_iload_n C dX1_give_5 rfl rfl rfl ?_
  obtain ⟨hin, h⟩ := h
  refine g_ist C dX1_give_6 arr_3 hin rfl h (fun σ1 h => ?_)
  refine g_aload_n C dX1_give_7 rfl rfl rfl ?_
  refine f_X1_22 C dX1_give_8 rfl ?_
  refine g_iload_n C dX1_give_11 rfl rfl rfl ?_
  refine g_iload_n C dX1_give_12 rfl rfl rfl ?_
  obtain ⟨hin, h⟩ := h
  refine g_ist C dX1_give_13 arr_4 hin rfl h (fun σ2 h => ?_)
  refine g_aload_n C dX1_give_14 rfl rfl rfl ?_
  refine g_iload_n C dX1_give_15 rfl rfl rfl ?_
  refine p_X1_46 C dX1_give_16 rfl h (fun σ3 h => ?_)
  exact g_vret C dX1_give_19 D h
theorem hd_X1_give : yX1_give.cls ≠ "java/lang/invoke/MethodHandle" ∧ yX1_give.cls ≠ "java/lang/invoke/VarHandle" ∧ (parseMethodDescriptor yX1_give.desc).map (fun d => d.parameters.length) = some 2 := by decide +kernel
theorem k_X1_79 {V : EV} {X : CX} {cc : ByteArray} {nL : Nat} {R : Room} {y1 : Int32} {y2 : Int32} (C : OK V X RX1 cc nL R) {σ : Mem} {pc pc' : Nat} {L : List (Option Value)} {st : List Value} {P : Mem → Prop} (d : decode cc pc = .ok (.invokevirtual 79, 3)) (hst : (st.map fun v => v.category).sum ≤ 8) (hr : 0 + 1 ≤ R.frames ∧ 8 + (3 + 11) + 0 ≤ R.locals) (hL : L.length = nL) (hp : pc + 3 = pc') (h : wp_X1_give σ y1 y2 P) (k : ∀ τ, P τ → GG V X τ pc' L st) : GG V X σ pc L (.int y2 :: .int y1 :: .ref (ad V 0) :: st) :=
  g_callVv C (av := [.int y1, .int y2]) (fun l => c_X1_give V σ y1 y2 P l) (by decide) (en_0 V σ) (q := (RX1, TX1, 17)) rfl rfl ml_RX1_79 im_X1_give se_X1_give ini_RX1 co_X1_give hd_X1_give rfl ⟨rfl, rfl⟩ hr hst d hL hp h k

theorem dX1_isBad_0 : decode cX1_isBad 0 = .ok (.aload_n 0, 1) := by decide +kernel
theorem dX1_isBad_1 : decode cX1_isBad 1 = .ok (.getfield 15, 3) := by decide +kernel
theorem dX1_isBad_4 : decode cX1_isBad 4 = .ok (.iload_n 1, 1) := by decide +kernel
theorem dX1_isBad_5 : decode cX1_isBad 5 = .ok (.iaload, 1) := by decide +kernel
theorem dX1_isBad_6 : decode cX1_isBad 6 = .ok (.aload_n 0, 1) := by decide +kernel
theorem dX1_isBad_7 : decode cX1_isBad 7 = .ok (.getfield 43, 3) := by decide +kernel
theorem dX1_isBad_10 : decode cX1_isBad 10 = .ok (.iconst 0, 1) := by decide +kernel
theorem dX1_isBad_11 : decode cX1_isBad 11 = .ok (.iaload, 1) := by decide +kernel
theorem dX1_isBad_12 : decode cX1_isBad 12 = .ok (.if_icmp .lt 7, 3) := by decide +kernel
theorem dX1_isBad_15 : decode cX1_isBad 15 = .ok (.iconst 1, 1) := by decide +kernel
theorem dX1_isBad_16 : decode cX1_isBad 16 = .ok (.goto 4, 3) := by decide +kernel
theorem dX1_isBad_19 : decode cX1_isBad 19 = .ok (.iconst 0, 1) := by decide +kernel
theorem dX1_isBad_20 : decode cX1_isBad 20 = .ok (.ireturn, 1) := by decide +kernel
def wp_X1_isBad (σ : Mem) (y1 : Int32) (P : Int32 → Prop) : Prop :=
  vp_in y1 40 ∧ (((σ 2 y1.toNatClampNeg) < (σ 11 0) →
    P 0) ∧
    (¬ (σ 2 y1.toNatClampNeg) < (σ 11 0) →
    P 1))
set_option maxRecDepth 100000 in
set_option maxHeartbeats 4000000 in
theorem c_X1_isBad (V : EV) (σ : Mem) (y1 : Int32) (P : Int32 → Prop) (l : Launch) : Met l yX1_isBad (.code yX1_isBad cX1_isBad 2 (some .boolean) :: AW) { frames := 0, cells := 0, slots := 0, locals := 0 } (va_Pc [.ref (ad V 0), .int y1] (fun U => wP V σ U ∧ wp_X1_isBad σ y1 P)) (va_Qi (fun r τ => τ = σ ∧ P r) (wB V) (AA V)) 0 0 (AA V) := by
  refine met_i V σ (own := RX1) (by decide +kernel) rfl (fun v hv => by simp at hv; rcases hv with rfl | rfl <;> rfl) (Nat.le_of_ble_eq_true rfl) (fun X C D h => ?_) l
  show GG V X σ 0 [some (.ref (ad V 0)), some (.int y1)] []
  refine g_aload_n C dX1_isBad_0 rfl rfl rfl ?_
  refine f_X1_15 C dX1_isBad_1 rfl ?_
  refine g_iload_n C dX1_isBad_4 rfl rfl rfl ?_
  obtain ⟨hin, h⟩ := h
  refine g_ild C dX1_isBad_5 arr_2 hin rfl ?_
  refine g_aload_n C dX1_isBad_6 rfl rfl rfl ?_
  refine f_X1_43 C dX1_isBad_7 rfl ?_
  refine g_iconst C dX1_isBad_10 ic_0 rfl ?_
  refine g_ildk C dX1_isBad_11 arr_11 vi_0_3 tl_0 rfl ?_
  refine g_icmp_lt C dX1_isBad_12 (tgt := 19) rfl rfl (fun q => ?_) (fun q => ?_)
  · have h := h.1 q
    refine g_iconst C dX1_isBad_19 ic_0 rfl ?_
    exact g_zret C dX1_isBad_20 D (by decide) ⟨rfl, h⟩
  · have h := h.2 q
    refine g_iconst C dX1_isBad_15 ic_1 rfl ?_
    refine g_goto C dX1_isBad_16 (pc' := 20) rfl ?_
    exact g_zret C dX1_isBad_20 D (by decide) ⟨rfl, h⟩
theorem hd_X1_isBad : yX1_isBad.cls ≠ "java/lang/invoke/MethodHandle" ∧ yX1_isBad.cls ≠ "java/lang/invoke/VarHandle" ∧ (parseMethodDescriptor yX1_isBad.desc).map (fun d => d.parameters.length) = some 1 := by decide +kernel
theorem k_X1_147 {V : EV} {X : CX} {cc : ByteArray} {nL : Nat} {R : Room} {y1 : Int32} (C : OK V X RX1 cc nL R) {σ : Mem} {pc pc' : Nat} {L : List (Option Value)} {st : List Value} {P : Int32 → Prop} (d : decode cc pc = .ok (.invokevirtual 147, 3)) (hst : (st.map fun v => v.category).sum ≤ 8) (hr : 0 + 1 ≤ R.frames ∧ 8 + (2 + 11) + 0 ≤ R.locals) (hL : L.length = nL) (hp : pc + 3 = pc') (h : wp_X1_isBad σ y1 P) (k : ∀ r, P r → GG V X σ pc' L (.int r :: st)) : GG V X σ pc L (.int y1 :: .ref (ad V 0) :: st) :=
  g_callVi C (av := [.int y1]) (fun l => c_X1_isBad V σ y1 P l) (by decide) (en_0 V σ) (q := (RX1, TX1, 17)) rfl rfl ml_RX1_147 im_X1_isBad se_X1_isBad ini_RX1 co_X1_isBad hd_X1_isBad rfl ⟨rfl, rfl⟩ hr hst d hL hp h (fun r τ hq => by obtain ⟨rfl, hq⟩ := hq; exact k r hq)

theorem dX1_waits_0 : decode cX1_waits 0 = .ok (.aload_n 0, 1) := by decide +kernel
theorem dX1_waits_1 : decode cX1_waits 1 = .ok (.getfield 9, 3) := by decide +kernel
theorem dX1_waits_4 : decode cX1_waits 4 = .ok (.iload_n 1, 1) := by decide +kernel
theorem dX1_waits_5 : decode cX1_waits 5 = .ok (.baload, 1) := by decide +kernel
theorem dX1_waits_6 : decode cX1_waits 6 = .ok (.ifCond .ne 15, 3) := by decide +kernel
theorem dX1_waits_9 : decode cX1_waits 9 = .ok (.aload_n 0, 1) := by decide +kernel
theorem dX1_waits_10 : decode cX1_waits 10 = .ok (.iload_n 1, 1) := by decide +kernel
theorem dX1_waits_11 : decode cX1_waits 11 = .ok (.invokevirtual 147, 3) := by decide +kernel
theorem dX1_waits_14 : decode cX1_waits 14 = .ok (.ifCond .eq 7, 3) := by decide +kernel
theorem dX1_waits_17 : decode cX1_waits 17 = .ok (.iconst 1, 1) := by decide +kernel
theorem dX1_waits_18 : decode cX1_waits 18 = .ok (.goto 4, 3) := by decide +kernel
theorem dX1_waits_21 : decode cX1_waits 21 = .ok (.iconst 0, 1) := by decide +kernel
theorem dX1_waits_22 : decode cX1_waits 22 = .ok (.ireturn, 1) := by decide +kernel
def wp_X1_waits (σ : Mem) (y1 : Int32) (P : Int32 → Prop) : Prop :=
  vp_in y1 40 ∧ (((σ 1 y1.toNatClampNeg) = 0 →
    wp_X1_isBad σ y1 (fun r1 =>
      ((r1 = 0 →
      P 0) ∧
      (¬ r1 = 0 →
      P 1)))) ∧
    (¬ (σ 1 y1.toNatClampNeg) = 0 →
    P 0))
set_option maxRecDepth 100000 in
set_option maxHeartbeats 4000000 in
theorem c_X1_waits (V : EV) (σ : Mem) (y1 : Int32) (P : Int32 → Prop) (l : Launch) : Met l yX1_waits (.code yX1_waits cX1_waits 2 (some .boolean) :: AW) { frames := 1, cells := 0, slots := 0, locals := 21 } (va_Pc [.ref (ad V 0), .int y1] (fun U => wP V σ U ∧ wp_X1_waits σ y1 P)) (va_Qi (fun r τ => τ = σ ∧ P r) (wB V) (AA V)) 0 0 (AA V) := by
  refine met_i V σ (own := RX1) (by decide +kernel) rfl (fun v hv => by simp at hv; rcases hv with rfl | rfl <;> rfl) (Nat.le_of_ble_eq_true rfl) (fun X C D h => ?_) l
  show GG V X σ 0 [some (.ref (ad V 0)), some (.int y1)] []
  refine g_aload_n C dX1_waits_0 rfl rfl rfl ?_
  refine f_X1_9 C dX1_waits_1 rfl ?_
  refine g_iload_n C dX1_waits_4 rfl rfl rfl ?_
  obtain ⟨hin, h⟩ := h
  refine g_zld C dX1_waits_5 arr_1 hin rfl ?_
  refine g_if_ne C dX1_waits_6 (tgt := 21) rfl rfl (fun q => ?_) (fun q => ?_)
  · have h := h.2 q
    refine g_iconst C dX1_waits_21 ic_0 rfl ?_
    exact g_zret C dX1_waits_22 D (by decide) ⟨rfl, h⟩
  · have h := h.1 q
    refine g_aload_n C dX1_waits_9 rfl rfl rfl ?_
    refine g_iload_n C dX1_waits_10 rfl rfl rfl ?_
    refine k_X1_147 C dX1_waits_11 (Nat.le_of_ble_eq_true rfl) (by decide) rfl rfl h (fun r1 h => ?_)
    refine g_if_eq C dX1_waits_14 (tgt := 21) rfl rfl (fun q => ?_) (fun q => ?_)
    · have h := h.1 q
      refine g_iconst C dX1_waits_21 ic_0 rfl ?_
      exact g_zret C dX1_waits_22 D (by decide) ⟨rfl, h⟩
    · have h := h.2 q
      refine g_iconst C dX1_waits_17 ic_1 rfl ?_
      refine g_goto C dX1_waits_18 (pc' := 22) rfl ?_
      exact g_zret C dX1_waits_22 D (by decide) ⟨rfl, h⟩
theorem hd_X1_waits : yX1_waits.cls ≠ "java/lang/invoke/MethodHandle" ∧ yX1_waits.cls ≠ "java/lang/invoke/VarHandle" ∧ (parseMethodDescriptor yX1_waits.desc).map (fun d => d.parameters.length) = some 1 := by decide +kernel
theorem k_X1_119 {V : EV} {X : CX} {cc : ByteArray} {nL : Nat} {R : Room} {y1 : Int32} (C : OK V X RX1 cc nL R) {σ : Mem} {pc pc' : Nat} {L : List (Option Value)} {st : List Value} {P : Int32 → Prop} (d : decode cc pc = .ok (.invokevirtual 119, 3)) (hst : (st.map fun v => v.category).sum ≤ 8) (hr : 1 + 1 ≤ R.frames ∧ 8 + (2 + 11) + 21 ≤ R.locals) (hL : L.length = nL) (hp : pc + 3 = pc') (h : wp_X1_waits σ y1 P) (k : ∀ r, P r → GG V X σ pc' L (.int r :: st)) : GG V X σ pc L (.int y1 :: .ref (ad V 0) :: st) :=
  g_callVi C (av := [.int y1]) (fun l => c_X1_waits V σ y1 P l) (by decide) (en_0 V σ) (q := (RX1, TX1, 17)) rfl rfl ml_RX1_119 im_X1_waits se_X1_waits ini_RX1 co_X1_waits hd_X1_waits rfl ⟨rfl, rfl⟩ hr hst d hL hp h (fun r τ hq => by obtain ⟨rfl, hq⟩ := hq; exact k r hq)

theorem dX1_canRetire_0 : decode cX1_canRetire 0 = .ok (.aload_n 0, 1) := by decide +kernel
theorem dX1_canRetire_1 : decode cX1_canRetire 1 = .ok (.getfield 19, 3) := by decide +kernel
theorem dX1_canRetire_4 : decode cX1_canRetire 4 = .ok (.iload_n 1, 1) := by decide +kernel
theorem dX1_canRetire_5 : decode cX1_canRetire 5 = .ok (.iaload, 1) := by decide +kernel
theorem dX1_canRetire_6 : decode cX1_canRetire 6 = .ok (.istore_n 2, 1) := by decide +kernel
theorem dX1_canRetire_7 : decode cX1_canRetire 7 = .ok (.iload_n 2, 1) := by decide +kernel
theorem dX1_canRetire_8 : decode cX1_canRetire 8 = .ok (.ifCond .lt 19, 3) := by decide +kernel
theorem dX1_canRetire_11 : decode cX1_canRetire 11 = .ok (.aload_n 0, 1) := by decide +kernel
theorem dX1_canRetire_12 : decode cX1_canRetire 12 = .ok (.getfield 28, 3) := by decide +kernel
theorem dX1_canRetire_15 : decode cX1_canRetire 15 = .ok (.iload_n 2, 1) := by decide +kernel
theorem dX1_canRetire_16 : decode cX1_canRetire 16 = .ok (.baload, 1) := by decide +kernel
theorem dX1_canRetire_17 : decode cX1_canRetire 17 = .ok (.ifCond .ne 14, 3) := by decide +kernel
theorem dX1_canRetire_20 : decode cX1_canRetire 20 = .ok (.aload_n 0, 1) := by decide +kernel
theorem dX1_canRetire_21 : decode cX1_canRetire 21 = .ok (.invokevirtual 75, 3) := by decide +kernel
theorem dX1_canRetire_24 : decode cX1_canRetire 24 = .ok (.ifCond .lt 7, 3) := by decide +kernel
theorem dX1_canRetire_27 : decode cX1_canRetire 27 = .ok (.iconst 1, 1) := by decide +kernel
theorem dX1_canRetire_28 : decode cX1_canRetire 28 = .ok (.goto 4, 3) := by decide +kernel
theorem dX1_canRetire_31 : decode cX1_canRetire 31 = .ok (.iconst 0, 1) := by decide +kernel
theorem dX1_canRetire_32 : decode cX1_canRetire 32 = .ok (.ireturn, 1) := by decide +kernel
def wp_X1_canRetire (σ : Mem) (y1 : Int32) (P : Int32 → Prop) : Prop :=
  vp_in y1 40 ∧ (((σ 3 y1.toNatClampNeg) < 0 →
    P 1) ∧
    (¬ (σ 3 y1.toNatClampNeg) < 0 →
    vp_in (σ 3 y1.toNatClampNeg) 50 ∧ (((σ 6 (σ 3 y1.toNatClampNeg).toNatClampNeg) = 0 →
      wp_X1_cellToGive σ  (fun r1 =>
        ((r1 < 0 →
        P 0) ∧
        (¬ r1 < 0 →
        P 1)))) ∧
      (¬ (σ 6 (σ 3 y1.toNatClampNeg).toNatClampNeg) = 0 →
      P 0))))
set_option maxRecDepth 100000 in
set_option maxHeartbeats 4000000 in
theorem c_X1_canRetire (V : EV) (σ : Mem) (y1 : Int32) (P : Int32 → Prop) (l : Launch) : Met l yX1_canRetire (.code yX1_canRetire cX1_canRetire 3 (some .boolean) :: AW) { frames := 2, cells := 0, slots := 0, locals := 46 } (va_Pc [.ref (ad V 0), .int y1] (fun U => wP V σ U ∧ wp_X1_canRetire σ y1 P)) (va_Qi (fun r τ => τ = σ ∧ P r) (wB V) (AA V)) 0 0 (AA V) := by
  refine met_i V σ (own := RX1) (by decide +kernel) rfl (fun v hv => by simp at hv; rcases hv with rfl | rfl <;> rfl) (Nat.le_of_ble_eq_true rfl) (fun X C D h => ?_) l
  show GG V X σ 0 [some (.ref (ad V 0)), some (.int y1), none] []
  refine g_aload_n C dX1_canRetire_0 rfl rfl rfl ?_
  refine f_X1_19 C dX1_canRetire_1 rfl ?_
  refine g_iload_n C dX1_canRetire_4 rfl rfl rfl ?_
  obtain ⟨hin, h⟩ := h
  refine g_ild C dX1_canRetire_5 arr_3 hin rfl ?_
  refine g_istore_n C dX1_canRetire_6 rfl (Nat.le_of_ble_eq_true rfl) (L' := [some (.ref (ad V 0)), some (.int y1), some (.int (σ 3 y1.toNatClampNeg))]) rfl rfl ?_
  refine g_iload_n C dX1_canRetire_7 rfl rfl rfl ?_
  refine g_if_lt C dX1_canRetire_8 (tgt := 27) rfl rfl (fun q => ?_) (fun q => ?_)
  · have h := h.1 q
    refine g_iconst C dX1_canRetire_27 ic_1 rfl ?_
    refine g_goto C dX1_canRetire_28 (pc' := 32) rfl ?_
    exact g_zret C dX1_canRetire_32 D (by decide) ⟨rfl, h⟩
  · have h := h.2 q
    refine g_aload_n C dX1_canRetire_11 rfl rfl rfl ?_
    refine f_X1_28 C dX1_canRetire_12 rfl ?_
    refine g_iload_n C dX1_canRetire_15 rfl rfl rfl ?_
    obtain ⟨hin, h⟩ := h
    refine g_zld C dX1_canRetire_16 arr_6 hin rfl ?_
    refine g_if_ne C dX1_canRetire_17 (tgt := 31) rfl rfl (fun q => ?_) (fun q => ?_)
    · have h := h.2 q
      refine g_iconst C dX1_canRetire_31 ic_0 rfl ?_
      exact g_zret C dX1_canRetire_32 D (by decide) ⟨rfl, h⟩
    · have h := h.1 q
      refine g_aload_n C dX1_canRetire_20 rfl rfl rfl ?_
      refine k_X1_75 C dX1_canRetire_21 (Nat.le_of_ble_eq_true rfl) (by decide) rfl rfl h (fun r1 h => ?_)
      refine g_if_lt C dX1_canRetire_24 (tgt := 31) rfl rfl (fun q => ?_) (fun q => ?_)
      · have h := h.1 q
        refine g_iconst C dX1_canRetire_31 ic_0 rfl ?_
        exact g_zret C dX1_canRetire_32 D (by decide) ⟨rfl, h⟩
      · have h := h.2 q
        refine g_iconst C dX1_canRetire_27 ic_1 rfl ?_
        refine g_goto C dX1_canRetire_28 (pc' := 32) rfl ?_
        exact g_zret C dX1_canRetire_32 D (by decide) ⟨rfl, h⟩
theorem hd_X1_canRetire : yX1_canRetire.cls ≠ "java/lang/invoke/MethodHandle" ∧ yX1_canRetire.cls ≠ "java/lang/invoke/VarHandle" ∧ (parseMethodDescriptor yX1_canRetire.desc).map (fun d => d.parameters.length) = some 1 := by decide +kernel
theorem k_X1_122 {V : EV} {X : CX} {cc : ByteArray} {nL : Nat} {R : Room} {y1 : Int32} (C : OK V X RX1 cc nL R) {σ : Mem} {pc pc' : Nat} {L : List (Option Value)} {st : List Value} {P : Int32 → Prop} (d : decode cc pc = .ok (.invokevirtual 122, 3)) (hst : (st.map fun v => v.category).sum ≤ 8) (hr : 2 + 1 ≤ R.frames ∧ 8 + (3 + 11) + 46 ≤ R.locals) (hL : L.length = nL) (hp : pc + 3 = pc') (h : wp_X1_canRetire σ y1 P) (k : ∀ r, P r → GG V X σ pc' L (.int r :: st)) : GG V X σ pc L (.int y1 :: .ref (ad V 0) :: st) :=
  g_callVi C (av := [.int y1]) (fun l => c_X1_canRetire V σ y1 P l) (by decide) (en_0 V σ) (q := (RX1, TX1, 17)) rfl rfl ml_RX1_122 im_X1_canRetire se_X1_canRetire ini_RX1 co_X1_canRetire hd_X1_canRetire rfl ⟨rfl, rfl⟩ hr hst d hL hp h (fun r τ hq => by obtain ⟨rfl, hq⟩ := hq; exact k r hq)

theorem dX1_moveAwayFrom_0 : decode cX1_moveAwayFrom 0 = .ok (.aload_n 0, 1) := by decide +kernel
theorem dX1_moveAwayFrom_1 : decode cX1_moveAwayFrom 1 = .ok (.getfield 19, 3) := by decide +kernel
theorem dX1_moveAwayFrom_4 : decode cX1_moveAwayFrom 4 = .ok (.iload_n 1, 1) := by decide +kernel
theorem dX1_moveAwayFrom_5 : decode cX1_moveAwayFrom 5 = .ok (.iaload, 1) := by decide +kernel
theorem dX1_moveAwayFrom_6 : decode cX1_moveAwayFrom 6 = .ok (.istore_n 2, 1) := by decide +kernel
theorem dX1_moveAwayFrom_7 : decode cX1_moveAwayFrom 7 = .ok (.aload_n 0, 1) := by decide +kernel
theorem dX1_moveAwayFrom_8 : decode cX1_moveAwayFrom 8 = .ok (.invokevirtual 75, 3) := by decide +kernel
theorem dX1_moveAwayFrom_11 : decode cX1_moveAwayFrom 11 = .ok (.istore_n 3, 1) := by decide +kernel
theorem dX1_moveAwayFrom_12 : decode cX1_moveAwayFrom 12 = .ok (.iload_n 2, 1) := by decide +kernel
theorem dX1_moveAwayFrom_13 : decode cX1_moveAwayFrom 13 = .ok (.ifCond .lt 7, 3) := by decide +kernel
theorem dX1_moveAwayFrom_16 : decode cX1_moveAwayFrom 16 = .ok (.iload_n 3, 1) := by decide +kernel
theorem dX1_moveAwayFrom_17 : decode cX1_moveAwayFrom 17 = .ok (.ifCond .ge 4, 3) := by decide +kernel
theorem dX1_moveAwayFrom_20 : decode cX1_moveAwayFrom 20 = .ok (.return_, 1) := by decide +kernel
theorem dX1_moveAwayFrom_21 : decode cX1_moveAwayFrom 21 = .ok (.aload_n 0, 1) := by decide +kernel
theorem dX1_moveAwayFrom_22 : decode cX1_moveAwayFrom 22 = .ok (.getfield 19, 3) := by decide +kernel
theorem dX1_moveAwayFrom_25 : decode cX1_moveAwayFrom 25 = .ok (.iload_n 1, 1) := by decide +kernel
theorem dX1_moveAwayFrom_26 : decode cX1_moveAwayFrom 26 = .ok (.bipush (-5), 2) := by decide +kernel
theorem dX1_moveAwayFrom_28 : decode cX1_moveAwayFrom 28 = .ok (.iastore, 1) := by decide +kernel
theorem dX1_moveAwayFrom_29 : decode cX1_moveAwayFrom 29 = .ok (.aload_n 0, 1) := by decide +kernel
theorem dX1_moveAwayFrom_30 : decode cX1_moveAwayFrom 30 = .ok (.iload_n 3, 1) := by decide +kernel
theorem dX1_moveAwayFrom_31 : decode cX1_moveAwayFrom 31 = .ok (.iload_n 2, 1) := by decide +kernel
theorem dX1_moveAwayFrom_32 : decode cX1_moveAwayFrom 32 = .ok (.invokevirtual 79, 3) := by decide +kernel
theorem dX1_moveAwayFrom_35 : decode cX1_moveAwayFrom 35 = .ok (.aload_n 0, 1) := by decide +kernel
theorem dX1_moveAwayFrom_36 : decode cX1_moveAwayFrom 36 = .ok (.getfield 31, 3) := by decide +kernel
theorem dX1_moveAwayFrom_39 : decode cX1_moveAwayFrom 39 = .ok (.iload_n 2, 1) := by decide +kernel
theorem dX1_moveAwayFrom_40 : decode cX1_moveAwayFrom 40 = .ok (.dup2, 1) := by decide +kernel
theorem dX1_moveAwayFrom_41 : decode cX1_moveAwayFrom 41 = .ok (.iaload, 1) := by decide +kernel
theorem dX1_moveAwayFrom_42 : decode cX1_moveAwayFrom 42 = .ok (.iconst 1, 1) := by decide +kernel
theorem dX1_moveAwayFrom_43 : decode cX1_moveAwayFrom 43 = .ok (.iadd, 1) := by decide +kernel
theorem dX1_moveAwayFrom_44 : decode cX1_moveAwayFrom 44 = .ok (.iastore, 1) := by decide +kernel
theorem dX1_moveAwayFrom_45 : decode cX1_moveAwayFrom 45 = .ok (.aload_n 0, 1) := by decide +kernel
theorem dX1_moveAwayFrom_46 : decode cX1_moveAwayFrom 46 = .ok (.getfield 37, 3) := by decide +kernel
theorem dX1_moveAwayFrom_49 : decode cX1_moveAwayFrom 49 = .ok (.iload_n 2, 1) := by decide +kernel
theorem dX1_moveAwayFrom_50 : decode cX1_moveAwayFrom 50 = .ok (.bipush 10, 2) := by decide +kernel
theorem dX1_moveAwayFrom_52 : decode cX1_moveAwayFrom 52 = .ok (.idiv, 1) := by decide +kernel
theorem dX1_moveAwayFrom_53 : decode cX1_moveAwayFrom 53 = .ok (.dup2, 1) := by decide +kernel
theorem dX1_moveAwayFrom_54 : decode cX1_moveAwayFrom 54 = .ok (.iaload, 1) := by decide +kernel
theorem dX1_moveAwayFrom_55 : decode cX1_moveAwayFrom 55 = .ok (.iconst 1, 1) := by decide +kernel
theorem dX1_moveAwayFrom_56 : decode cX1_moveAwayFrom 56 = .ok (.iadd, 1) := by decide +kernel
theorem dX1_moveAwayFrom_57 : decode cX1_moveAwayFrom 57 = .ok (.iastore, 1) := by decide +kernel
theorem dX1_moveAwayFrom_58 : decode cX1_moveAwayFrom 58 = .ok (.return_, 1) := by decide +kernel
def wp_X1_moveAwayFrom (σ : Mem) (y1 : Int32) (P : Mem → Prop) : Prop :=
  vp_in y1 40 ∧ wp_X1_cellToGive σ  (fun r1 =>
    (((σ 3 y1.toNatClampNeg) < 0 →
    P σ) ∧
    (¬ (σ 3 y1.toNatClampNeg) < 0 →
    ((0 ≤ r1 →
      vp_in y1 40 ∧ bm (up2 σ 3 y1.toNatClampNeg (-5)) (fun σ2 =>
        wp_X1_give σ2 r1 (σ 3 y1.toNatClampNeg) (fun σ3 =>
        vp_in (σ 3 y1.toNatClampNeg) 50 ∧ vp_in (σ 3 y1.toNatClampNeg) 50 ∧ bm (up2 σ3 7 (σ 3 y1.toNatClampNeg).toNatClampNeg ((σ3 7 (σ 3 y1.toNatClampNeg).toNatClampNeg) + 1)) (fun σ4 =>
        vp_in ((σ 3 y1.toNatClampNeg) / 10) 5 ∧ vp_in ((σ 3 y1.toNatClampNeg) / 10) 5 ∧ bm (up2 σ4 9 ((σ 3 y1.toNatClampNeg) / 10).toNatClampNeg ((σ4 9 ((σ 3 y1.toNatClampNeg) / 10).toNatClampNeg) + 1)) (fun σ5 =>
        P σ5))))) ∧
      (¬ 0 ≤ r1 →
      P σ)))))
set_option maxRecDepth 100000 in
set_option maxHeartbeats 4000000 in
theorem c_X1_moveAwayFrom (V : EV) (σ : Mem) (y1 : Int32) (P : Mem → Prop) (l : Launch) : Met l yX1_moveAwayFrom (.code yX1_moveAwayFrom cX1_moveAwayFrom 4 (none) :: AW) { frames := 2, cells := 0, slots := 0, locals := 46 } (va_Pc [.ref (ad V 0), .int y1] (fun U => wP V σ U ∧ wp_X1_moveAwayFrom σ y1 P)) (va_Qv P (wB V) (AA V)) 0 0 (AA V) := by
  refine met_v V σ (own := RX1) (by decide +kernel) rfl (fun v hv => by simp at hv; rcases hv with rfl | rfl <;> rfl) (Nat.le_of_ble_eq_true rfl) (fun X C D h => ?_) l
  show GG V X σ 0 [some (.ref (ad V 0)), some (.int y1), none, none] []
  refine g_aload_n C dX1_moveAwayFrom_0 rfl rfl rfl ?_
  refine f_X1_19 C dX1_moveAwayFrom_1 rfl ?_
  refine g_iload_n C dX1_moveAwayFrom_4 rfl rfl rfl ?_
  obtain ⟨hin, h⟩ := h
  refine g_ild C dX1_moveAwayFrom_5 arr_3 hin rfl ?_
  refine g_istore_n C dX1_moveAwayFrom_6 rfl (Nat.le_of_ble_eq_true rfl) (L' := [some (.ref (ad V 0)), some (.int y1), some (.int (σ 3 y1.toNatClampNeg)), none]) rfl rfl ?_
  refine g_aload_n C dX1_moveAwayFrom_7 rfl rfl rfl ?_
  refine k_X1_75 C dX1_moveAwayFrom_8 (Nat.le_of_ble_eq_true rfl) (by decide) rfl rfl h (fun r1 h => ?_)
  refine g_istore_n C dX1_moveAwayFrom_11 rfl (Nat.le_of_ble_eq_true rfl) (L' := [some (.ref (ad V 0)), some (.int y1), some (.int (σ 3 y1.toNatClampNeg)), some (.int r1)]) rfl rfl ?_
  refine g_iload_n C dX1_moveAwayFrom_12 rfl rfl rfl ?_
  refine g_if_lt C dX1_moveAwayFrom_13 (tgt := 20) rfl rfl (fun q => ?_) (fun q => ?_)
  · have h := h.1 q
    exact g_vret C dX1_moveAwayFrom_20 D h
  · have h := h.2 q
    refine g_iload_n C dX1_moveAwayFrom_16 rfl rfl rfl ?_
    refine g_if_ge C dX1_moveAwayFrom_17 (tgt := 21) rfl rfl (fun q => ?_) (fun q => ?_)
    · have h := h.1 q
      refine g_aload_n C dX1_moveAwayFrom_21 rfl rfl rfl ?_
      refine f_X1_19 C dX1_moveAwayFrom_22 rfl ?_
      refine g_iload_n C dX1_moveAwayFrom_25 rfl rfl rfl ?_
      refine g_bipush C dX1_moveAwayFrom_26 bp_m5 rfl ?_
      obtain ⟨hin, h⟩ := h
      refine g_ist C dX1_moveAwayFrom_28 arr_3 hin rfl h (fun σ2 h => ?_)
      refine g_aload_n C dX1_moveAwayFrom_29 rfl rfl rfl ?_
      refine g_iload_n C dX1_moveAwayFrom_30 rfl rfl rfl ?_
      refine g_iload_n C dX1_moveAwayFrom_31 rfl rfl rfl ?_
      refine k_X1_79 C dX1_moveAwayFrom_32 (Nat.le_of_ble_eq_true rfl) (by decide) rfl rfl h (fun σ3 h => ?_)
      refine g_aload_n C dX1_moveAwayFrom_35 rfl rfl rfl ?_
      refine f_X1_31 C dX1_moveAwayFrom_36 rfl ?_
      refine g_iload_n C dX1_moveAwayFrom_39 rfl rfl rfl ?_
      refine g_dup2 C dX1_moveAwayFrom_40 rfl rfl rfl ?_
      obtain ⟨hin, h⟩ := h
      refine g_ild C dX1_moveAwayFrom_41 arr_7 hin rfl ?_
      refine g_iconst C dX1_moveAwayFrom_42 ic_1 rfl ?_
      refine g_iadd C dX1_moveAwayFrom_43 rfl ?_
      obtain ⟨hin, h⟩ := h
      refine g_ist C dX1_moveAwayFrom_44 arr_7 hin rfl h (fun σ4 h => ?_)
      refine g_aload_n C dX1_moveAwayFrom_45 rfl rfl rfl ?_
      refine f_X1_37 C dX1_moveAwayFrom_46 rfl ?_
      refine g_iload_n C dX1_moveAwayFrom_49 rfl rfl rfl ?_
      refine g_bipush C dX1_moveAwayFrom_50 bp_10 rfl ?_
      refine g_idiv C dX1_moveAwayFrom_52 (by decide) rfl ?_
      refine g_dup2 C dX1_moveAwayFrom_53 rfl rfl rfl ?_
      obtain ⟨hin, h⟩ := h
      refine g_ild C dX1_moveAwayFrom_54 arr_9 hin rfl ?_
      refine g_iconst C dX1_moveAwayFrom_55 ic_1 rfl ?_
      refine g_iadd C dX1_moveAwayFrom_56 rfl ?_
      obtain ⟨hin, h⟩ := h
      refine g_ist C dX1_moveAwayFrom_57 arr_9 hin rfl h (fun σ5 h => ?_)
      exact g_vret C dX1_moveAwayFrom_58 D h
    · have h := h.2 q
      exact g_vret C dX1_moveAwayFrom_20 D h
theorem hd_X1_moveAwayFrom : yX1_moveAwayFrom.cls ≠ "java/lang/invoke/MethodHandle" ∧ yX1_moveAwayFrom.cls ≠ "java/lang/invoke/VarHandle" ∧ (parseMethodDescriptor yX1_moveAwayFrom.desc).map (fun d => d.parameters.length) = some 1 := by decide +kernel
theorem k_X1_125 {V : EV} {X : CX} {cc : ByteArray} {nL : Nat} {R : Room} {y1 : Int32} (C : OK V X RX1 cc nL R) {σ : Mem} {pc pc' : Nat} {L : List (Option Value)} {st : List Value} {P : Mem → Prop} (d : decode cc pc = .ok (.invokevirtual 125, 3)) (hst : (st.map fun v => v.category).sum ≤ 8) (hr : 2 + 1 ≤ R.frames ∧ 8 + (4 + 11) + 46 ≤ R.locals) (hL : L.length = nL) (hp : pc + 3 = pc') (h : wp_X1_moveAwayFrom σ y1 P) (k : ∀ τ, P τ → GG V X τ pc' L st) : GG V X σ pc L (.int y1 :: .ref (ad V 0) :: st) :=
  g_callVv C (av := [.int y1]) (fun l => c_X1_moveAwayFrom V σ y1 P l) (by decide) (en_0 V σ) (q := (RX1, TX1, 17)) rfl rfl ml_RX1_125 im_X1_moveAwayFrom se_X1_moveAwayFrom ini_RX1 co_X1_moveAwayFrom hd_X1_moveAwayFrom rfl ⟨rfl, rfl⟩ hr hst d hL hp h k

theorem dX1_retire_0 : decode cX1_retire 0 = .ok (.aload_n 0, 1) := by decide +kernel
theorem dX1_retire_1 : decode cX1_retire 1 = .ok (.getfield 9, 3) := by decide +kernel
theorem dX1_retire_4 : decode cX1_retire 4 = .ok (.iload_n 1, 1) := by decide +kernel
theorem dX1_retire_5 : decode cX1_retire 5 = .ok (.iconst 1, 1) := by decide +kernel
theorem dX1_retire_6 : decode cX1_retire 6 = .ok (.bastore, 1) := by decide +kernel
theorem dX1_retire_7 : decode cX1_retire 7 = .ok (.aload_n 0, 1) := by decide +kernel
theorem dX1_retire_8 : decode cX1_retire 8 = .ok (.getfield 56, 3) := by decide +kernel
theorem dX1_retire_11 : decode cX1_retire 11 = .ok (.bipush 12, 2) := by decide +kernel
theorem dX1_retire_13 : decode cX1_retire 13 = .ok (.if_icmp .ge 23, 3) := by decide +kernel
theorem dX1_retire_16 : decode cX1_retire 16 = .ok (.aload_n 0, 1) := by decide +kernel
theorem dX1_retire_17 : decode cX1_retire 17 = .ok (.getfield 40, 3) := by decide +kernel
theorem dX1_retire_20 : decode cX1_retire 20 = .ok (.aload_n 0, 1) := by decide +kernel
theorem dX1_retire_21 : decode cX1_retire 21 = .ok (.getfield 56, 3) := by decide +kernel
theorem dX1_retire_24 : decode cX1_retire 24 = .ok (.iload_n 1, 1) := by decide +kernel
theorem dX1_retire_25 : decode cX1_retire 25 = .ok (.iastore, 1) := by decide +kernel
theorem dX1_retire_26 : decode cX1_retire 26 = .ok (.aload_n 0, 1) := by decide +kernel
theorem dX1_retire_27 : decode cX1_retire 27 = .ok (.dup, 1) := by decide +kernel
theorem dX1_retire_28 : decode cX1_retire 28 = .ok (.getfield 56, 3) := by decide +kernel
theorem dX1_retire_31 : decode cX1_retire 31 = .ok (.iconst 1, 1) := by decide +kernel
theorem dX1_retire_32 : decode cX1_retire 32 = .ok (.iadd, 1) := by decide +kernel
theorem dX1_retire_33 : decode cX1_retire 33 = .ok (.putfield 56, 3) := by decide +kernel
theorem dX1_retire_36 : decode cX1_retire 36 = .ok (.return_, 1) := by decide +kernel
def wp_X1_retire (σ : Mem) (y1 : Int32) (P : Mem → Prop) : Prop :=
  vp_in y1 40 ∧ bm (up2 σ 1 y1.toNatClampNeg (vp_nar .boolean 1)) (fun σ1 =>
    ((12 ≤ (σ1 0 10) →
    P σ1) ∧
    (¬ 12 ≤ (σ1 0 10) →
    vp_in (σ1 0 10) 12 ∧ bm (up2 σ1 10 (σ1 0 10).toNatClampNeg y1) (fun σ2 =>
      bm (up2 σ2 0 10 ((σ2 0 10) + 1)) (fun σ3 =>
      P σ3)))))
set_option maxRecDepth 100000 in
set_option maxHeartbeats 4000000 in
theorem c_X1_retire (V : EV) (σ : Mem) (y1 : Int32) (P : Mem → Prop) (l : Launch) : Met l yX1_retire (.code yX1_retire cX1_retire 2 (none) :: AW) { frames := 0, cells := 0, slots := 0, locals := 0 } (va_Pc [.ref (ad V 0), .int y1] (fun U => wP V σ U ∧ wp_X1_retire σ y1 P)) (va_Qv P (wB V) (AA V)) 0 0 (AA V) := by
  refine met_v V σ (own := RX1) (by decide +kernel) rfl (fun v hv => by simp at hv; rcases hv with rfl | rfl <;> rfl) (Nat.le_of_ble_eq_true rfl) (fun X C D h => ?_) l
  show GG V X σ 0 [some (.ref (ad V 0)), some (.int y1)] []
  refine g_aload_n C dX1_retire_0 rfl rfl rfl ?_
  refine f_X1_9 C dX1_retire_1 rfl ?_
  refine g_iload_n C dX1_retire_4 rfl rfl rfl ?_
  refine g_iconst C dX1_retire_5 ic_1 rfl ?_
  obtain ⟨hin, h⟩ := h
  refine g_zst C dX1_retire_6 arr_1 hin rfl h (fun σ1 h => ?_)
  refine g_aload_n C dX1_retire_7 rfl rfl rfl ?_
  refine f_X1_56 C dX1_retire_8 rfl ?_
  refine g_bipush C dX1_retire_11 bp_12 rfl ?_
  refine g_icmp_ge C dX1_retire_13 (tgt := 36) rfl rfl (fun q => ?_) (fun q => ?_)
  · have h := h.1 q
    exact g_vret C dX1_retire_36 D h
  · have h := h.2 q
    refine g_aload_n C dX1_retire_16 rfl rfl rfl ?_
    refine f_X1_40 C dX1_retire_17 rfl ?_
    refine g_aload_n C dX1_retire_20 rfl rfl rfl ?_
    refine f_X1_56 C dX1_retire_21 rfl ?_
    refine g_iload_n C dX1_retire_24 rfl rfl rfl ?_
    obtain ⟨hin, h⟩ := h
    refine g_ist C dX1_retire_25 arr_10 hin rfl h (fun σ2 h => ?_)
    refine g_aload_n C dX1_retire_26 rfl rfl rfl ?_
    refine g_dup C dX1_retire_27 rfl rfl ?_
    refine f_X1_56 C dX1_retire_28 rfl ?_
    refine g_iconst C dX1_retire_31 ic_1 rfl ?_
    refine g_iadd C dX1_retire_32 rfl ?_
    refine p_X1_56 C dX1_retire_33 rfl h (fun σ3 h => ?_)
    exact g_vret C dX1_retire_36 D h
theorem hd_X1_retire : yX1_retire.cls ≠ "java/lang/invoke/MethodHandle" ∧ yX1_retire.cls ≠ "java/lang/invoke/VarHandle" ∧ (parseMethodDescriptor yX1_retire.desc).map (fun d => d.parameters.length) = some 1 := by decide +kernel
theorem k_X1_97 {V : EV} {X : CX} {cc : ByteArray} {nL : Nat} {R : Room} {y1 : Int32} (C : OK V X RX1 cc nL R) {σ : Mem} {pc pc' : Nat} {L : List (Option Value)} {st : List Value} {P : Mem → Prop} (d : decode cc pc = .ok (.invokevirtual 97, 3)) (hst : (st.map fun v => v.category).sum ≤ 8) (hr : 0 + 1 ≤ R.frames ∧ 8 + (2 + 11) + 0 ≤ R.locals) (hL : L.length = nL) (hp : pc + 3 = pc') (h : wp_X1_retire σ y1 P) (k : ∀ τ, P τ → GG V X τ pc' L st) : GG V X σ pc L (.int y1 :: .ref (ad V 0) :: st) :=
  g_callVv C (av := [.int y1]) (fun l => c_X1_retire V σ y1 P l) (by decide) (en_0 V σ) (q := (RX1, TX1, 17)) rfl rfl ml_RX1_97 im_X1_retire se_X1_retire ini_RX1 co_X1_retire hd_X1_retire rfl ⟨rfl, rfl⟩ hr hst d hL hp h k

theorem dX1_retireWhatCan_0 : decode cX1_retireWhatCan 0 = .ok (.iconst 0, 1) := by decide +kernel
theorem dX1_retireWhatCan_1 : decode cX1_retireWhatCan 1 = .ok (.istore_n 1, 1) := by decide +kernel
theorem dX1_retireWhatCan_2 : decode cX1_retireWhatCan 2 = .ok (.iconst 0, 1) := by decide +kernel
theorem dX1_retireWhatCan_3 : decode cX1_retireWhatCan 3 = .ok (.istore_n 2, 1) := by decide +kernel
theorem dX1_retireWhatCan_4 : decode cX1_retireWhatCan 4 = .ok (.iload_n 2, 1) := by decide +kernel
theorem dX1_retireWhatCan_5 : decode cX1_retireWhatCan 5 = .ok (.bipush 40, 2) := by decide +kernel
theorem dX1_retireWhatCan_7 : decode cX1_retireWhatCan 7 = .ok (.if_icmp .ge 38, 3) := by decide +kernel
theorem dX1_retireWhatCan_10 : decode cX1_retireWhatCan 10 = .ok (.aload_n 0, 1) := by decide +kernel
theorem dX1_retireWhatCan_11 : decode cX1_retireWhatCan 11 = .ok (.iload_n 2, 1) := by decide +kernel
theorem dX1_retireWhatCan_12 : decode cX1_retireWhatCan 12 = .ok (.invokevirtual 119, 3) := by decide +kernel
theorem dX1_retireWhatCan_15 : decode cX1_retireWhatCan 15 = .ok (.ifCond .eq 24, 3) := by decide +kernel
theorem dX1_retireWhatCan_18 : decode cX1_retireWhatCan 18 = .ok (.aload_n 0, 1) := by decide +kernel
theorem dX1_retireWhatCan_19 : decode cX1_retireWhatCan 19 = .ok (.iload_n 2, 1) := by decide +kernel
theorem dX1_retireWhatCan_20 : decode cX1_retireWhatCan 20 = .ok (.invokevirtual 122, 3) := by decide +kernel
theorem dX1_retireWhatCan_23 : decode cX1_retireWhatCan 23 = .ok (.ifCond .eq 16, 3) := by decide +kernel
theorem dX1_retireWhatCan_26 : decode cX1_retireWhatCan 26 = .ok (.aload_n 0, 1) := by decide +kernel
theorem dX1_retireWhatCan_27 : decode cX1_retireWhatCan 27 = .ok (.iload_n 2, 1) := by decide +kernel
theorem dX1_retireWhatCan_28 : decode cX1_retireWhatCan 28 = .ok (.invokevirtual 125, 3) := by decide +kernel
theorem dX1_retireWhatCan_31 : decode cX1_retireWhatCan 31 = .ok (.aload_n 0, 1) := by decide +kernel
theorem dX1_retireWhatCan_32 : decode cX1_retireWhatCan 32 = .ok (.iload_n 2, 1) := by decide +kernel
theorem dX1_retireWhatCan_33 : decode cX1_retireWhatCan 33 = .ok (.invokevirtual 97, 3) := by decide +kernel
theorem dX1_retireWhatCan_36 : decode cX1_retireWhatCan 36 = .ok (.iinc 1 1, 3) := by decide +kernel
theorem dX1_retireWhatCan_39 : decode cX1_retireWhatCan 39 = .ok (.iinc 2 1, 3) := by decide +kernel
theorem dX1_retireWhatCan_42 : decode cX1_retireWhatCan 42 = .ok (.goto (-38), 3) := by decide +kernel
theorem dX1_retireWhatCan_45 : decode cX1_retireWhatCan 45 = .ok (.iload_n 1, 1) := by decide +kernel
theorem dX1_retireWhatCan_46 : decode cX1_retireWhatCan 46 = .ok (.ireturn, 1) := by decide +kernel
def wp_X1_retireWhatCan (σ : Mem) (P : Int32 → Mem → Prop) : Prop :=
  lq3 (fun rec4 (σ1 : Mem) (x2 : Int32) (x3 : Int32) =>
    ((40 ≤ x3 →
      P x2 σ1) ∧
      (¬ 40 ≤ x3 →
      wp_X1_waits σ1 x3 (fun r5 =>
        ((r5 = 0 →
        rec4 σ1 x2 (x3 + 1)) ∧
        (¬ r5 = 0 →
        wp_X1_canRetire σ1 x3 (fun r6 =>
          ((r6 = 0 →
          rec4 σ1 x2 (x3 + 1)) ∧
          (¬ r6 = 0 →
          wp_X1_moveAwayFrom σ1 x3 (fun σ7 =>
            wp_X1_retire σ7 x3 (fun σ8 =>
            rec4 σ8 (x2 + 1) (x3 + 1)))))))))))) σ 0 0
set_option maxRecDepth 100000 in
set_option maxHeartbeats 4000000 in
theorem c_X1_retireWhatCan (V : EV) (σ : Mem) (P : Int32 → Mem → Prop) (l : Launch) : Met l yX1_retireWhatCan (.code yX1_retireWhatCan cX1_retireWhatCan 3 (some .int) :: AW) { frames := 3, cells := 0, slots := 0, locals := 69 } (va_Pc [.ref (ad V 0)] (fun U => wP V σ U ∧ wp_X1_retireWhatCan σ P)) (va_Qi P (wB V) (AA V)) 0 0 (AA V) := by
  refine met_i V σ (own := RX1) (by decide +kernel) rfl (fun v hv => by simp at hv; subst hv; rfl) (Nat.le_of_ble_eq_true rfl) (fun X C D h => ?_) l
  show GG V X σ 0 [some (.ref (ad V 0)), none, none] []
  refine g_iconst C dX1_retireWhatCan_0 ic_0 rfl ?_
  refine g_istore_n C dX1_retireWhatCan_1 rfl (Nat.le_of_ble_eq_true rfl) (L' := [some (.ref (ad V 0)), some (.int 0), none]) rfl rfl ?_
  refine g_iconst C dX1_retireWhatCan_2 ic_0 rfl ?_
  refine g_istore_n C dX1_retireWhatCan_3 rfl (Nat.le_of_ble_eq_true rfl) (L' := [some (.ref (ad V 0)), some (.int 0), some (.int 0)]) rfl rfl ?_
  refine h (fun (σ1 : Mem) (x2 : Int32) (x3 : Int32) => GG V X σ1 4 [some (.ref (ad V 0)), some (.int x2), some (.int x3)] []) (fun σ1 x2 x3 h => ?_)
  refine g_iload_n C dX1_retireWhatCan_4 rfl rfl rfl ?_
  refine g_bipush C dX1_retireWhatCan_5 bp_40 rfl ?_
  refine g_icmp_ge C dX1_retireWhatCan_7 (tgt := 45) rfl rfl (fun q => ?_) (fun q => ?_)
  · have h := h.1 q
    refine g_iload_n C dX1_retireWhatCan_45 rfl rfl rfl ?_
    exact g_iret C dX1_retireWhatCan_46 D h
  · have h := h.2 q
    refine g_aload_n C dX1_retireWhatCan_10 rfl rfl rfl ?_
    refine g_iload_n C dX1_retireWhatCan_11 rfl rfl rfl ?_
    refine k_X1_119 C dX1_retireWhatCan_12 (Nat.le_of_ble_eq_true rfl) (by decide) rfl rfl h (fun r5 h => ?_)
    refine g_if_eq C dX1_retireWhatCan_15 (tgt := 39) rfl rfl (fun q => ?_) (fun q => ?_)
    · have h := h.1 q
      refine g_iinc C dX1_retireWhatCan_39 (v := x3 + 1) (by rw [ic_1]) rfl (Nat.le_of_ble_eq_true rfl) (L' := [some (.ref (ad V 0)), some (.int x2), some (.int (x3 + 1))]) rfl rfl ?_
      refine g_goto C dX1_retireWhatCan_42 (pc' := 4) rfl ?_
      exact h
    · have h := h.2 q
      refine g_aload_n C dX1_retireWhatCan_18 rfl rfl rfl ?_
      refine g_iload_n C dX1_retireWhatCan_19 rfl rfl rfl ?_
      refine k_X1_122 C dX1_retireWhatCan_20 (Nat.le_of_ble_eq_true rfl) (by decide) rfl rfl h (fun r6 h => ?_)
      refine g_if_eq C dX1_retireWhatCan_23 (tgt := 39) rfl rfl (fun q => ?_) (fun q => ?_)
      · have h := h.1 q
        refine g_iinc C dX1_retireWhatCan_39 (v := x3 + 1) (by rw [ic_1]) rfl (Nat.le_of_ble_eq_true rfl) (L' := [some (.ref (ad V 0)), some (.int x2), some (.int (x3 + 1))]) rfl rfl ?_
        refine g_goto C dX1_retireWhatCan_42 (pc' := 4) rfl ?_
        exact h
      · have h := h.2 q
        refine g_aload_n C dX1_retireWhatCan_26 rfl rfl rfl ?_
        refine g_iload_n C dX1_retireWhatCan_27 rfl rfl rfl ?_
        refine k_X1_125 C dX1_retireWhatCan_28 (Nat.le_of_ble_eq_true rfl) (by decide) rfl rfl h (fun σ7 h => ?_)
        refine g_aload_n C dX1_retireWhatCan_31 rfl rfl rfl ?_
        refine g_iload_n C dX1_retireWhatCan_32 rfl rfl rfl ?_
        refine k_X1_97 C dX1_retireWhatCan_33 (Nat.le_of_ble_eq_true rfl) (by decide) rfl rfl h (fun σ8 h => ?_)
        refine g_iinc C dX1_retireWhatCan_36 (v := x2 + 1) (by rw [ic_1]) rfl (Nat.le_of_ble_eq_true rfl) (L' := [some (.ref (ad V 0)), some (.int (x2 + 1)), some (.int x3)]) rfl rfl ?_
        refine g_iinc C dX1_retireWhatCan_39 (v := x3 + 1) (by rw [ic_1]) rfl (Nat.le_of_ble_eq_true rfl) (L' := [some (.ref (ad V 0)), some (.int (x2 + 1)), some (.int (x3 + 1))]) rfl rfl ?_
        refine g_goto C dX1_retireWhatCan_42 (pc' := 4) rfl ?_
        exact h
theorem hd_X1_retireWhatCan : yX1_retireWhatCan.cls ≠ "java/lang/invoke/MethodHandle" ∧ yX1_retireWhatCan.cls ≠ "java/lang/invoke/VarHandle" ∧ (parseMethodDescriptor yX1_retireWhatCan.desc).map (fun d => d.parameters.length) = some 0 := by decide +kernel
theorem k_X1_83 {V : EV} {X : CX} {cc : ByteArray} {nL : Nat} {R : Room} (C : OK V X RX1 cc nL R) {σ : Mem} {pc pc' : Nat} {L : List (Option Value)} {st : List Value} {P : Int32 → Mem → Prop} (d : decode cc pc = .ok (.invokevirtual 83, 3)) (hst : (st.map fun v => v.category).sum ≤ 8) (hr : 3 + 1 ≤ R.frames ∧ 8 + (3 + 11) + 69 ≤ R.locals) (hL : L.length = nL) (hp : pc + 3 = pc') (h : wp_X1_retireWhatCan σ P) (k : ∀ r τ, P r τ → GG V X τ pc' L (.int r :: st)) : GG V X σ pc L (.ref (ad V 0) :: st) :=
  g_callVi C (av := []) (fun l => c_X1_retireWhatCan V σ P l) (by decide) (en_0 V σ) (q := (RX1, TX1, 17)) rfl rfl ml_RX1_83 im_X1_retireWhatCan se_X1_retireWhatCan ini_RX1 co_X1_retireWhatCan hd_X1_retireWhatCan rfl ⟨rfl, rfl⟩ hr hst d hL hp h k
theorem k_X4_135 {V : EV} {X : CX} {cc : ByteArray} {nL : Nat} {R : Room} (C : OK V X RX4 cc nL R) {σ : Mem} {pc pc' : Nat} {L : List (Option Value)} {st : List Value} {P : Int32 → Mem → Prop} (d : decode cc pc = .ok (.invokevirtual 135, 3)) (hst : (st.map fun v => v.category).sum ≤ 8) (hr : 3 + 1 ≤ R.frames ∧ 8 + (3 + 11) + 69 ≤ R.locals) (hL : L.length = nL) (hp : pc + 3 = pc') (h : wp_X1_retireWhatCan σ P) (k : ∀ r τ, P r τ → GG V X τ pc' L (.int r :: st)) : GG V X σ pc L (.ref (ad V 0) :: st) :=
  g_callVi C (av := []) (fun l => c_X1_retireWhatCan V σ P l) (by decide) (en_0 V σ) (q := (RX1, TX1, 17)) rfl rfl ml_RX4_135 im_X1_retireWhatCan se_X1_retireWhatCan ini_RX1 co_X1_retireWhatCan hd_X1_retireWhatCan rfl ⟨rfl, rfl⟩ hr hst d hL hp h k

theorem dX1_put_0 : decode cX1_put 0 = .ok (.aload_n 0, 1) := by decide +kernel
theorem dX1_put_1 : decode cX1_put 1 = .ok (.iload_n 1, 1) := by decide +kernel
theorem dX1_put_2 : decode cX1_put 2 = .ok (.invokevirtual 71, 3) := by decide +kernel
theorem dX1_put_5 : decode cX1_put 5 = .ok (.ifCond .ne 28, 3) := by decide +kernel
theorem dX1_put_8 : decode cX1_put 8 = .ok (.aload_n 0, 1) := by decide +kernel
theorem dX1_put_9 : decode cX1_put 9 = .ok (.invokevirtual 75, 3) := by decide +kernel
theorem dX1_put_12 : decode cX1_put 12 = .ok (.istore_n 3, 1) := by decide +kernel
theorem dX1_put_13 : decode cX1_put 13 = .ok (.iload_n 3, 1) := by decide +kernel
theorem dX1_put_14 : decode cX1_put 14 = .ok (.ifCond .ge 6, 3) := by decide +kernel
theorem dX1_put_17 : decode cX1_put 17 = .ok (.bipush (-3), 2) := by decide +kernel
theorem dX1_put_19 : decode cX1_put 19 = .ok (.ireturn, 1) := by decide +kernel
theorem dX1_put_20 : decode cX1_put 20 = .ok (.aload_n 0, 1) := by decide +kernel
theorem dX1_put_21 : decode cX1_put 21 = .ok (.getfield 31, 3) := by decide +kernel
theorem dX1_put_24 : decode cX1_put 24 = .ok (.iload_n 1, 1) := by decide +kernel
theorem dX1_put_25 : decode cX1_put 25 = .ok (.iconst 0, 1) := by decide +kernel
theorem dX1_put_26 : decode cX1_put 26 = .ok (.iastore, 1) := by decide +kernel
theorem dX1_put_27 : decode cX1_put 27 = .ok (.aload_n 0, 1) := by decide +kernel
theorem dX1_put_28 : decode cX1_put 28 = .ok (.iload_n 3, 1) := by decide +kernel
theorem dX1_put_29 : decode cX1_put 29 = .ok (.iload_n 1, 1) := by decide +kernel
theorem dX1_put_30 : decode cX1_put 30 = .ok (.invokevirtual 79, 3) := by decide +kernel
theorem dX1_put_33 : decode cX1_put 33 = .ok (.aload_n 0, 1) := by decide +kernel
theorem dX1_put_34 : decode cX1_put 34 = .ok (.getfield 25, 3) := by decide +kernel
theorem dX1_put_37 : decode cX1_put 37 = .ok (.iload_n 1, 1) := by decide +kernel
theorem dX1_put_38 : decode cX1_put 38 = .ok (.iload_n 2, 1) := by decide +kernel
theorem dX1_put_39 : decode cX1_put 39 = .ok (.iastore, 1) := by decide +kernel
theorem dX1_put_40 : decode cX1_put 40 = .ok (.aload_n 0, 1) := by decide +kernel
theorem dX1_put_41 : decode cX1_put 41 = .ok (.invokevirtual 83, 3) := by decide +kernel
theorem dX1_put_44 : decode cX1_put 44 = .ok (.pop, 1) := by decide +kernel
theorem dX1_put_45 : decode cX1_put 45 = .ok (.aload_n 0, 1) := by decide +kernel
theorem dX1_put_46 : decode cX1_put 46 = .ok (.getfield 22, 3) := by decide +kernel
theorem dX1_put_49 : decode cX1_put 49 = .ok (.iload_n 1, 1) := by decide +kernel
theorem dX1_put_50 : decode cX1_put 50 = .ok (.iaload, 1) := by decide +kernel
theorem dX1_put_51 : decode cX1_put 51 = .ok (.ireturn, 1) := by decide +kernel
def wp_X1_put (σ : Mem) (y1 : Int32) (y2 : Int32) (P : Int32 → Mem → Prop) : Prop :=
  wp_X1_hasCell σ y1 (fun r1 =>
    jn (A := Mem → Prop) (fun (σ2 : Mem) =>
    vp_in y1 50 ∧ bm (up2 σ2 5 y1.toNatClampNeg y2) (fun σ4 =>
      wp_X1_retireWhatCan σ4  (fun r5 σ6 =>
      vp_in y1 50 ∧ P (σ6 4 y1.toNatClampNeg) σ6)))
    (fun J3 =>
    ((r1 = 0 →
    wp_X1_cellToGive σ  (fun r7 =>
      ((0 ≤ r7 →
      vp_in y1 50 ∧ bm (up2 σ 7 y1.toNatClampNeg 0) (fun σ8 =>
        wp_X1_give σ8 r7 y1 (fun σ9 =>
        J3 σ9))) ∧
      (¬ 0 ≤ r7 →
      P (-3) σ)))) ∧
    (¬ r1 = 0 →
    J3 σ))))
set_option maxRecDepth 100000 in
set_option maxHeartbeats 4000000 in
theorem c_X1_put (V : EV) (σ : Mem) (y1 : Int32) (y2 : Int32) (P : Int32 → Mem → Prop) (l : Launch) : Met l yX1_put (.code yX1_put cX1_put 4 (some .int) :: AW) { frames := 4, cells := 0, slots := 0, locals := 91 } (va_Pc [.ref (ad V 0), .int y1, .int y2] (fun U => wP V σ U ∧ wp_X1_put σ y1 y2 P)) (va_Qi P (wB V) (AA V)) 0 0 (AA V) := by
  refine met_i V σ (own := RX1) (by decide +kernel) rfl (fun v hv => by simp at hv; rcases hv with rfl | rfl | rfl <;> rfl) (Nat.le_of_ble_eq_true rfl) (fun X C D h => ?_) l
  show GG V X σ 0 [some (.ref (ad V 0)), some (.int y1), some (.int y2), none] []
  refine g_aload_n C dX1_put_0 rfl rfl rfl ?_
  refine g_iload_n C dX1_put_1 rfl rfl rfl ?_
  refine k_X1_71 C dX1_put_2 (Nat.le_of_ble_eq_true rfl) (by decide) rfl rfl h (fun r1 h => ?_)
  refine jn_go h (fun (J3 : Mem → Prop) => ∀ (σ2 : Mem), J3 σ2 → GG V X σ2 33 [some (.ref (ad V 0)), some (.int y1), some (.int y2), none] []) (fun σ2 h => ?_) (fun J3 hJ3 h => ?_)
  · refine g_aload_n C dX1_put_33 rfl rfl rfl ?_
    refine f_X1_25 C dX1_put_34 rfl ?_
    refine g_iload_n C dX1_put_37 rfl rfl rfl ?_
    refine g_iload_n C dX1_put_38 rfl rfl rfl ?_
    obtain ⟨hin, h⟩ := h
    refine g_ist C dX1_put_39 arr_5 hin rfl h (fun σ4 h => ?_)
    refine g_aload_n C dX1_put_40 rfl rfl rfl ?_
    refine k_X1_83 C dX1_put_41 (Nat.le_of_ble_eq_true rfl) (by decide) rfl rfl h (fun r5 σ6 h => ?_)
    refine g_pop C dX1_put_44 rfl rfl ?_
    refine g_aload_n C dX1_put_45 rfl rfl rfl ?_
    refine f_X1_22 C dX1_put_46 rfl ?_
    refine g_iload_n C dX1_put_49 rfl rfl rfl ?_
    obtain ⟨hin, h⟩ := h
    refine g_ild C dX1_put_50 arr_4 hin rfl ?_
    exact g_iret C dX1_put_51 D h
  refine g_if_ne C dX1_put_5 (tgt := 33) rfl rfl (fun q => ?_) (fun q => ?_)
  · have h := h.2 q
    exact hJ3 σ h
  · have h := h.1 q
    refine g_aload_n C dX1_put_8 rfl rfl rfl ?_
    refine k_X1_75 C dX1_put_9 (Nat.le_of_ble_eq_true rfl) (by decide) rfl rfl h (fun r7 h => ?_)
    refine g_istore_n C dX1_put_12 rfl (Nat.le_of_ble_eq_true rfl) (L' := [some (.ref (ad V 0)), some (.int y1), some (.int y2), some (.int r7)]) rfl rfl ?_
    refine g_iload_n C dX1_put_13 rfl rfl rfl ?_
    refine g_if_ge C dX1_put_14 (tgt := 20) rfl rfl (fun q => ?_) (fun q => ?_)
    · have h := h.1 q
      refine g_aload_n C dX1_put_20 rfl rfl rfl ?_
      refine f_X1_31 C dX1_put_21 rfl ?_
      refine g_iload_n C dX1_put_24 rfl rfl rfl ?_
      refine g_iconst C dX1_put_25 ic_0 rfl ?_
      obtain ⟨hin, h⟩ := h
      refine g_ist C dX1_put_26 arr_7 hin rfl h (fun σ8 h => ?_)
      refine g_aload_n C dX1_put_27 rfl rfl rfl ?_
      refine g_iload_n C dX1_put_28 rfl rfl rfl ?_
      refine g_iload_n C dX1_put_29 rfl rfl rfl ?_
      refine k_X1_79 C dX1_put_30 (Nat.le_of_ble_eq_true rfl) (by decide) rfl rfl h (fun σ9 h => ?_)
      refine g_drop 3 (L' := [some (.ref (ad V 0)), some (.int y1), some (.int y2), none]) rfl ?_
      exact hJ3 σ9 h
    · have h := h.2 q
      refine g_bipush C dX1_put_17 bp_m3 rfl ?_
      exact g_iret C dX1_put_19 D h
theorem hd_X1_put : yX1_put.cls ≠ "java/lang/invoke/MethodHandle" ∧ yX1_put.cls ≠ "java/lang/invoke/VarHandle" ∧ (parseMethodDescriptor yX1_put.desc).map (fun d => d.parameters.length) = some 2 := by decide +kernel
theorem k_X4_72 {V : EV} {X : CX} {cc : ByteArray} {nL : Nat} {R : Room} {y1 : Int32} {y2 : Int32} (C : OK V X RX4 cc nL R) {σ : Mem} {pc pc' : Nat} {L : List (Option Value)} {st : List Value} {P : Int32 → Mem → Prop} (d : decode cc pc = .ok (.invokevirtual 72, 3)) (hst : (st.map fun v => v.category).sum ≤ 8) (hr : 4 + 1 ≤ R.frames ∧ 8 + (4 + 11) + 91 ≤ R.locals) (hL : L.length = nL) (hp : pc + 3 = pc') (h : wp_X1_put σ y1 y2 P) (k : ∀ r τ, P r τ → GG V X τ pc' L (.int r :: st)) : GG V X σ pc L (.int y2 :: .int y1 :: .ref (ad V 0) :: st) :=
  g_callVi C (av := [.int y1, .int y2]) (fun l => c_X1_put V σ y1 y2 P l) (by decide) (en_0 V σ) (q := (RX1, TX1, 17)) rfl rfl ml_RX4_72 im_X1_put se_X1_put ini_RX1 co_X1_put hd_X1_put rfl ⟨rfl, rfl⟩ hr hst d hL hp h k

theorem dX1_release_0 : decode cX1_release 0 = .ok (.aload_n 0, 1) := by decide +kernel
theorem dX1_release_1 : decode cX1_release 1 = .ok (.getfield 22, 3) := by decide +kernel
theorem dX1_release_4 : decode cX1_release 4 = .ok (.iload_n 1, 1) := by decide +kernel
theorem dX1_release_5 : decode cX1_release 5 = .ok (.iaload, 1) := by decide +kernel
theorem dX1_release_6 : decode cX1_release 6 = .ok (.istore_n 2, 1) := by decide +kernel
theorem dX1_release_7 : decode cX1_release 7 = .ok (.iload_n 2, 1) := by decide +kernel
theorem dX1_release_8 : decode cX1_release 8 = .ok (.ifCond .ge 4, 3) := by decide +kernel
theorem dX1_release_11 : decode cX1_release 11 = .ok (.return_, 1) := by decide +kernel
theorem dX1_release_12 : decode cX1_release 12 = .ok (.aload_n 0, 1) := by decide +kernel
theorem dX1_release_13 : decode cX1_release 13 = .ok (.getfield 19, 3) := by decide +kernel
theorem dX1_release_16 : decode cX1_release 16 = .ok (.iload_n 2, 1) := by decide +kernel
theorem dX1_release_17 : decode cX1_release 17 = .ok (.bipush (-5), 2) := by decide +kernel
theorem dX1_release_19 : decode cX1_release 19 = .ok (.iastore, 1) := by decide +kernel
theorem dX1_release_20 : decode cX1_release 20 = .ok (.aload_n 0, 1) := by decide +kernel
theorem dX1_release_21 : decode cX1_release 21 = .ok (.getfield 22, 3) := by decide +kernel
theorem dX1_release_24 : decode cX1_release 24 = .ok (.iload_n 1, 1) := by decide +kernel
theorem dX1_release_25 : decode cX1_release 25 = .ok (.bipush (-5), 2) := by decide +kernel
theorem dX1_release_27 : decode cX1_release 27 = .ok (.iastore, 1) := by decide +kernel
theorem dX1_release_28 : decode cX1_release 28 = .ok (.aload_n 0, 1) := by decide +kernel
theorem dX1_release_29 : decode cX1_release 29 = .ok (.getfield 28, 3) := by decide +kernel
theorem dX1_release_32 : decode cX1_release 32 = .ok (.iload_n 1, 1) := by decide +kernel
theorem dX1_release_33 : decode cX1_release 33 = .ok (.iconst 0, 1) := by decide +kernel
theorem dX1_release_34 : decode cX1_release 34 = .ok (.bastore, 1) := by decide +kernel
theorem dX1_release_35 : decode cX1_release 35 = .ok (.return_, 1) := by decide +kernel
def wp_X1_release (σ : Mem) (y1 : Int32) (P : Mem → Prop) : Prop :=
  vp_in y1 50 ∧ ((0 ≤ (σ 4 y1.toNatClampNeg) →
    vp_in (σ 4 y1.toNatClampNeg) 40 ∧ bm (up2 σ 3 (σ 4 y1.toNatClampNeg).toNatClampNeg (-5)) (fun σ1 =>
      vp_in y1 50 ∧ bm (up2 σ1 4 y1.toNatClampNeg (-5)) (fun σ2 =>
      vp_in y1 50 ∧ bm (up2 σ2 6 y1.toNatClampNeg (vp_nar .boolean 0)) (fun σ3 =>
      P σ3)))) ∧
    (¬ 0 ≤ (σ 4 y1.toNatClampNeg) →
    P σ))
set_option maxRecDepth 100000 in
set_option maxHeartbeats 4000000 in
theorem c_X1_release (V : EV) (σ : Mem) (y1 : Int32) (P : Mem → Prop) (l : Launch) : Met l yX1_release (.code yX1_release cX1_release 3 (none) :: AW) { frames := 0, cells := 0, slots := 0, locals := 0 } (va_Pc [.ref (ad V 0), .int y1] (fun U => wP V σ U ∧ wp_X1_release σ y1 P)) (va_Qv P (wB V) (AA V)) 0 0 (AA V) := by
  refine met_v V σ (own := RX1) (by decide +kernel) rfl (fun v hv => by simp at hv; rcases hv with rfl | rfl <;> rfl) (Nat.le_of_ble_eq_true rfl) (fun X C D h => ?_) l
  show GG V X σ 0 [some (.ref (ad V 0)), some (.int y1), none] []
  refine g_aload_n C dX1_release_0 rfl rfl rfl ?_
  refine f_X1_22 C dX1_release_1 rfl ?_
  refine g_iload_n C dX1_release_4 rfl rfl rfl ?_
  obtain ⟨hin, h⟩ := h
  refine g_ild C dX1_release_5 arr_4 hin rfl ?_
  refine g_istore_n C dX1_release_6 rfl (Nat.le_of_ble_eq_true rfl) (L' := [some (.ref (ad V 0)), some (.int y1), some (.int (σ 4 y1.toNatClampNeg))]) rfl rfl ?_
  refine g_iload_n C dX1_release_7 rfl rfl rfl ?_
  refine g_if_ge C dX1_release_8 (tgt := 12) rfl rfl (fun q => ?_) (fun q => ?_)
  · have h := h.1 q
    refine g_aload_n C dX1_release_12 rfl rfl rfl ?_
    refine f_X1_19 C dX1_release_13 rfl ?_
    refine g_iload_n C dX1_release_16 rfl rfl rfl ?_
    refine g_bipush C dX1_release_17 bp_m5 rfl ?_
    obtain ⟨hin, h⟩ := h
    refine g_ist C dX1_release_19 arr_3 hin rfl h (fun σ1 h => ?_)
    refine g_aload_n C dX1_release_20 rfl rfl rfl ?_
    refine f_X1_22 C dX1_release_21 rfl ?_
    refine g_iload_n C dX1_release_24 rfl rfl rfl ?_
    refine g_bipush C dX1_release_25 bp_m5 rfl ?_
    obtain ⟨hin, h⟩ := h
    refine g_ist C dX1_release_27 arr_4 hin rfl h (fun σ2 h => ?_)
    refine g_aload_n C dX1_release_28 rfl rfl rfl ?_
    refine f_X1_28 C dX1_release_29 rfl ?_
    refine g_iload_n C dX1_release_32 rfl rfl rfl ?_
    refine g_iconst C dX1_release_33 ic_0 rfl ?_
    obtain ⟨hin, h⟩ := h
    refine g_zst C dX1_release_34 arr_6 hin rfl h (fun σ3 h => ?_)
    exact g_vret C dX1_release_35 D h
  · have h := h.2 q
    exact g_vret C dX1_release_11 D h
theorem hd_X1_release : yX1_release.cls ≠ "java/lang/invoke/MethodHandle" ∧ yX1_release.cls ≠ "java/lang/invoke/VarHandle" ∧ (parseMethodDescriptor yX1_release.desc).map (fun d => d.parameters.length) = some 1 := by decide +kernel
theorem k_X1_86 {V : EV} {X : CX} {cc : ByteArray} {nL : Nat} {R : Room} {y1 : Int32} (C : OK V X RX1 cc nL R) {σ : Mem} {pc pc' : Nat} {L : List (Option Value)} {st : List Value} {P : Mem → Prop} (d : decode cc pc = .ok (.invokevirtual 86, 3)) (hst : (st.map fun v => v.category).sum ≤ 8) (hr : 0 + 1 ≤ R.frames ∧ 8 + (3 + 11) + 0 ≤ R.locals) (hL : L.length = nL) (hp : pc + 3 = pc') (h : wp_X1_release σ y1 P) (k : ∀ τ, P τ → GG V X τ pc' L st) : GG V X σ pc L (.int y1 :: .ref (ad V 0) :: st) :=
  g_callVv C (av := [.int y1]) (fun l => c_X1_release V σ y1 P l) (by decide) (en_0 V σ) (q := (RX1, TX1, 17)) rfl rfl ml_RX1_86 im_X1_release se_X1_release ini_RX1 co_X1_release hd_X1_release rfl ⟨rfl, rfl⟩ hr hst d hL hp h k

theorem dX1_takeBack_0 : decode cX1_takeBack 0 = .ok (.aload_n 0, 1) := by decide +kernel
theorem dX1_takeBack_1 : decode cX1_takeBack 1 = .ok (.iload_n 1, 1) := by decide +kernel
theorem dX1_takeBack_2 : decode cX1_takeBack 2 = .ok (.invokevirtual 71, 3) := by decide +kernel
theorem dX1_takeBack_5 : decode cX1_takeBack 5 = .ok (.ifCond .ne 6, 3) := by decide +kernel
theorem dX1_takeBack_8 : decode cX1_takeBack 8 = .ok (.bipush (-5), 2) := by decide +kernel
theorem dX1_takeBack_10 : decode cX1_takeBack 10 = .ok (.ireturn, 1) := by decide +kernel
theorem dX1_takeBack_11 : decode cX1_takeBack 11 = .ok (.aload_n 0, 1) := by decide +kernel
theorem dX1_takeBack_12 : decode cX1_takeBack 12 = .ok (.getfield 25, 3) := by decide +kernel
theorem dX1_takeBack_15 : decode cX1_takeBack 15 = .ok (.iload_n 1, 1) := by decide +kernel
theorem dX1_takeBack_16 : decode cX1_takeBack 16 = .ok (.iaload, 1) := by decide +kernel
theorem dX1_takeBack_17 : decode cX1_takeBack 17 = .ok (.istore_n 2, 1) := by decide +kernel
theorem dX1_takeBack_18 : decode cX1_takeBack 18 = .ok (.aload_n 0, 1) := by decide +kernel
theorem dX1_takeBack_19 : decode cX1_takeBack 19 = .ok (.iload_n 1, 1) := by decide +kernel
theorem dX1_takeBack_20 : decode cX1_takeBack 20 = .ok (.invokevirtual 86, 3) := by decide +kernel
theorem dX1_takeBack_23 : decode cX1_takeBack 23 = .ok (.aload_n 0, 1) := by decide +kernel
theorem dX1_takeBack_24 : decode cX1_takeBack 24 = .ok (.invokevirtual 83, 3) := by decide +kernel
theorem dX1_takeBack_27 : decode cX1_takeBack 27 = .ok (.pop, 1) := by decide +kernel
theorem dX1_takeBack_28 : decode cX1_takeBack 28 = .ok (.iload_n 2, 1) := by decide +kernel
theorem dX1_takeBack_29 : decode cX1_takeBack 29 = .ok (.ireturn, 1) := by decide +kernel
def wp_X1_takeBack (σ : Mem) (y1 : Int32) (P : Int32 → Mem → Prop) : Prop :=
  wp_X1_hasCell σ y1 (fun r1 =>
    ((r1 = 0 →
    P (-5) σ) ∧
    (¬ r1 = 0 →
    vp_in y1 50 ∧ wp_X1_release σ y1 (fun σ2 =>
      wp_X1_retireWhatCan σ2  (fun r3 σ4 =>
      P (σ 5 y1.toNatClampNeg) σ4)))))
set_option maxRecDepth 100000 in
set_option maxHeartbeats 4000000 in
theorem c_X1_takeBack (V : EV) (σ : Mem) (y1 : Int32) (P : Int32 → Mem → Prop) (l : Launch) : Met l yX1_takeBack (.code yX1_takeBack cX1_takeBack 3 (some .int) :: AW) { frames := 4, cells := 0, slots := 0, locals := 91 } (va_Pc [.ref (ad V 0), .int y1] (fun U => wP V σ U ∧ wp_X1_takeBack σ y1 P)) (va_Qi P (wB V) (AA V)) 0 0 (AA V) := by
  refine met_i V σ (own := RX1) (by decide +kernel) rfl (fun v hv => by simp at hv; rcases hv with rfl | rfl <;> rfl) (Nat.le_of_ble_eq_true rfl) (fun X C D h => ?_) l
  show GG V X σ 0 [some (.ref (ad V 0)), some (.int y1), none] []
  refine g_aload_n C dX1_takeBack_0 rfl rfl rfl ?_
  refine g_iload_n C dX1_takeBack_1 rfl rfl rfl ?_
  refine k_X1_71 C dX1_takeBack_2 (Nat.le_of_ble_eq_true rfl) (by decide) rfl rfl h (fun r1 h => ?_)
  refine g_if_ne C dX1_takeBack_5 (tgt := 11) rfl rfl (fun q => ?_) (fun q => ?_)
  · have h := h.2 q
    refine g_aload_n C dX1_takeBack_11 rfl rfl rfl ?_
    refine f_X1_25 C dX1_takeBack_12 rfl ?_
    refine g_iload_n C dX1_takeBack_15 rfl rfl rfl ?_
    obtain ⟨hin, h⟩ := h
    refine g_ild C dX1_takeBack_16 arr_5 hin rfl ?_
    refine g_istore_n C dX1_takeBack_17 rfl (Nat.le_of_ble_eq_true rfl) (L' := [some (.ref (ad V 0)), some (.int y1), some (.int (σ 5 y1.toNatClampNeg))]) rfl rfl ?_
    refine g_aload_n C dX1_takeBack_18 rfl rfl rfl ?_
    refine g_iload_n C dX1_takeBack_19 rfl rfl rfl ?_
    refine k_X1_86 C dX1_takeBack_20 (Nat.le_of_ble_eq_true rfl) (by decide) rfl rfl h (fun σ2 h => ?_)
    refine g_aload_n C dX1_takeBack_23 rfl rfl rfl ?_
    refine k_X1_83 C dX1_takeBack_24 (Nat.le_of_ble_eq_true rfl) (by decide) rfl rfl h (fun r3 σ4 h => ?_)
    refine g_pop C dX1_takeBack_27 rfl rfl ?_
    refine g_iload_n C dX1_takeBack_28 rfl rfl rfl ?_
    exact g_iret C dX1_takeBack_29 D h
  · have h := h.1 q
    refine g_bipush C dX1_takeBack_8 bp_m5 rfl ?_
    exact g_iret C dX1_takeBack_10 D h
theorem hd_X1_takeBack : yX1_takeBack.cls ≠ "java/lang/invoke/MethodHandle" ∧ yX1_takeBack.cls ≠ "java/lang/invoke/VarHandle" ∧ (parseMethodDescriptor yX1_takeBack.desc).map (fun d => d.parameters.length) = some 1 := by decide +kernel
theorem k_X4_79 {V : EV} {X : CX} {cc : ByteArray} {nL : Nat} {R : Room} {y1 : Int32} (C : OK V X RX4 cc nL R) {σ : Mem} {pc pc' : Nat} {L : List (Option Value)} {st : List Value} {P : Int32 → Mem → Prop} (d : decode cc pc = .ok (.invokevirtual 79, 3)) (hst : (st.map fun v => v.category).sum ≤ 8) (hr : 4 + 1 ≤ R.frames ∧ 8 + (3 + 11) + 91 ≤ R.locals) (hL : L.length = nL) (hp : pc + 3 = pc') (h : wp_X1_takeBack σ y1 P) (k : ∀ r τ, P r τ → GG V X τ pc' L (.int r :: st)) : GG V X σ pc L (.int y1 :: .ref (ad V 0) :: st) :=
  g_callVi C (av := [.int y1]) (fun l => c_X1_takeBack V σ y1 P l) (by decide) (en_0 V σ) (q := (RX1, TX1, 17)) rfl rfl ml_RX4_79 im_X1_takeBack se_X1_takeBack ini_RX1 co_X1_takeBack hd_X1_takeBack rfl ⟨rfl, rfl⟩ hr hst d hL hp h k

theorem dX4_pageIndex_0 : decode cX4_pageIndex 0 = .ok (.iload_n 0, 1) := by decide +kernel
theorem dX4_pageIndex_1 : decode cX4_pageIndex 1 = .ok (.bipush 10, 2) := by decide +kernel
theorem dX4_pageIndex_3 : decode cX4_pageIndex 3 = .ok (.imul, 1) := by decide +kernel
theorem dX4_pageIndex_4 : decode cX4_pageIndex 4 = .ok (.iload_n 1, 1) := by decide +kernel
theorem dX4_pageIndex_5 : decode cX4_pageIndex 5 = .ok (.iadd, 1) := by decide +kernel
theorem dX4_pageIndex_6 : decode cX4_pageIndex 6 = .ok (.ireturn, 1) := by decide +kernel
def wp_X4_pageIndex (σ : Mem) (y1 : Int32) (y2 : Int32) (P : Int32 → Prop) : Prop :=
  P ((y1 * 10) + y2)
set_option maxRecDepth 100000 in
set_option maxHeartbeats 4000000 in
theorem c_X4_pageIndex (V : EV) (σ : Mem) (y1 : Int32) (y2 : Int32) (P : Int32 → Prop) (l : Launch) : Met l yX4_pageIndex (.code yX4_pageIndex cX4_pageIndex 2 (some .int) :: AW) { frames := 0, cells := 0, slots := 0, locals := 0 } (va_Pc [.int y1, .int y2] (fun U => wP V σ U ∧ wp_X4_pageIndex σ y1 y2 P)) (va_Qi (fun r τ => τ = σ ∧ P r) (wB V) (AA V)) 0 0 (AA V) := by
  refine met_i V σ (own := RX4) (by decide +kernel) rfl (fun v hv => by simp at hv; rcases hv with rfl | rfl <;> rfl) (Nat.le_of_ble_eq_true rfl) (fun X C D h => ?_) l
  show GG V X σ 0 [some (.int y1), some (.int y2)] []
  refine g_iload_n C dX4_pageIndex_0 rfl rfl rfl ?_
  refine g_bipush C dX4_pageIndex_1 bp_10 rfl ?_
  refine g_imul C dX4_pageIndex_3 rfl ?_
  refine g_iload_n C dX4_pageIndex_4 rfl rfl rfl ?_
  refine g_iadd C dX4_pageIndex_5 rfl ?_
  exact g_iret C dX4_pageIndex_6 D ⟨rfl, h⟩
theorem hd_X4_pageIndex : yX4_pageIndex.cls ≠ "java/lang/invoke/MethodHandle" ∧ yX4_pageIndex.cls ≠ "java/lang/invoke/VarHandle" ∧ (parseMethodDescriptor yX4_pageIndex.desc).map (fun d => d.parameters.length) = some 2 := by decide +kernel
theorem k_X1_153 {V : EV} {X : CX} {cc : ByteArray} {nL : Nat} {R : Room} {y1 : Int32} {y2 : Int32} (C : OK V X RX1 cc nL R) {σ : Mem} {pc pc' : Nat} {L : List (Option Value)} {st : List Value} {P : Int32 → Prop} (d : decode cc pc = .ok (.invokestatic 153, 3)) (hst : (st.map fun v => v.category).sum ≤ 8) (hr : 0 + 1 ≤ R.frames ∧ 8 + (2 + 11) + 0 ≤ R.locals) (hL : L.length = nL) (hp : pc + 3 = pc') (h : wp_X4_pageIndex σ y1 y2 P) (k : ∀ r, P r → GG V X σ pc' L (.int r :: st)) : GG V X σ pc L (.int y2 :: .int y1 :: st) :=
  g_callNi C (av := [.int y1, .int y2]) (fun l => c_X4_pageIndex V σ y1 y2 P l) (fun U h => h.2.1) st_X4_pageIndex ini_RX4 co_X4_pageIndex hd_X4_pageIndex rfl ⟨rfl, rfl⟩ hr hst d hL hp h (fun r τ hq => by obtain ⟨rfl, hq⟩ := hq; exact k r hq)
theorem k_X2_68 {V : EV} {X : CX} {cc : ByteArray} {nL : Nat} {R : Room} {y1 : Int32} {y2 : Int32} (C : OK V X RX2 cc nL R) {σ : Mem} {pc pc' : Nat} {L : List (Option Value)} {st : List Value} {P : Int32 → Prop} (d : decode cc pc = .ok (.invokestatic 68, 3)) (hst : (st.map fun v => v.category).sum ≤ 8) (hr : 0 + 1 ≤ R.frames ∧ 8 + (2 + 11) + 0 ≤ R.locals) (hL : L.length = nL) (hp : pc + 3 = pc') (h : wp_X4_pageIndex σ y1 y2 P) (k : ∀ r, P r → GG V X σ pc' L (.int r :: st)) : GG V X σ pc L (.int y2 :: .int y1 :: st) :=
  g_callNi C (av := [.int y1, .int y2]) (fun l => c_X4_pageIndex V σ y1 y2 P l) (fun U h => h.2.2.2) st_X4_pageIndex ini_RX4 co_X4_pageIndex hd_X4_pageIndex rfl ⟨rfl, rfl⟩ hr hst d hL hp h (fun r τ hq => by obtain ⟨rfl, hq⟩ := hq; exact k r hq)
theorem k_X4_68 {V : EV} {X : CX} {cc : ByteArray} {nL : Nat} {R : Room} {y1 : Int32} {y2 : Int32} (C : OK V X RX4 cc nL R) {σ : Mem} {pc pc' : Nat} {L : List (Option Value)} {st : List Value} {P : Int32 → Prop} (d : decode cc pc = .ok (.invokestatic 68, 3)) (hst : (st.map fun v => v.category).sum ≤ 8) (hr : 0 + 1 ≤ R.frames ∧ 8 + (2 + 11) + 0 ≤ R.locals) (hL : L.length = nL) (hp : pc + 3 = pc') (h : wp_X4_pageIndex σ y1 y2 P) (k : ∀ r, P r → GG V X σ pc' L (.int r :: st)) : GG V X σ pc L (.int y2 :: .int y1 :: st) :=
  g_callSi C (av := [.int y1, .int y2]) (fun l => c_X4_pageIndex V σ y1 y2 P l) ml_RX4_68 st_X4_pageIndex ini_RX4 co_X4_pageIndex ⟨rfl, hd_X4_pageIndex⟩ rfl ⟨rfl, rfl⟩ hr hst d hL hp h (fun r τ hq => by obtain ⟨rfl, hq⟩ := hq; exact k r hq)

theorem dX1_pinnedPagesOf_0 : decode cX1_pinnedPagesOf 0 = .ok (.iconst 0, 1) := by decide +kernel
theorem dX1_pinnedPagesOf_1 : decode cX1_pinnedPagesOf 1 = .ok (.istore_n 2, 1) := by decide +kernel
theorem dX1_pinnedPagesOf_2 : decode cX1_pinnedPagesOf 2 = .ok (.iconst 0, 1) := by decide +kernel
theorem dX1_pinnedPagesOf_3 : decode cX1_pinnedPagesOf 3 = .ok (.istore_n 3, 1) := by decide +kernel
theorem dX1_pinnedPagesOf_4 : decode cX1_pinnedPagesOf 4 = .ok (.iload_n 3, 1) := by decide +kernel
theorem dX1_pinnedPagesOf_5 : decode cX1_pinnedPagesOf 5 = .ok (.bipush 10, 2) := by decide +kernel
theorem dX1_pinnedPagesOf_7 : decode cX1_pinnedPagesOf 7 = .ok (.if_icmp .ge 25, 3) := by decide +kernel
theorem dX1_pinnedPagesOf_10 : decode cX1_pinnedPagesOf 10 = .ok (.aload_n 0, 1) := by decide +kernel
theorem dX1_pinnedPagesOf_11 : decode cX1_pinnedPagesOf 11 = .ok (.getfield 28, 3) := by decide +kernel
theorem dX1_pinnedPagesOf_14 : decode cX1_pinnedPagesOf 14 = .ok (.iload_n 1, 1) := by decide +kernel
theorem dX1_pinnedPagesOf_15 : decode cX1_pinnedPagesOf 15 = .ok (.iload_n 3, 1) := by decide +kernel
theorem dX1_pinnedPagesOf_16 : decode cX1_pinnedPagesOf 16 = .ok (.invokestatic 153, 3) := by decide +kernel
theorem dX1_pinnedPagesOf_19 : decode cX1_pinnedPagesOf 19 = .ok (.baload, 1) := by decide +kernel
theorem dX1_pinnedPagesOf_20 : decode cX1_pinnedPagesOf 20 = .ok (.ifCond .eq 6, 3) := by decide +kernel
theorem dX1_pinnedPagesOf_23 : decode cX1_pinnedPagesOf 23 = .ok (.iinc 2 1, 3) := by decide +kernel
theorem dX1_pinnedPagesOf_26 : decode cX1_pinnedPagesOf 26 = .ok (.iinc 3 1, 3) := by decide +kernel
theorem dX1_pinnedPagesOf_29 : decode cX1_pinnedPagesOf 29 = .ok (.goto (-25), 3) := by decide +kernel
theorem dX1_pinnedPagesOf_32 : decode cX1_pinnedPagesOf 32 = .ok (.iload_n 2, 1) := by decide +kernel
theorem dX1_pinnedPagesOf_33 : decode cX1_pinnedPagesOf 33 = .ok (.ireturn, 1) := by decide +kernel
def wp_X1_pinnedPagesOf (σ : Mem) (y1 : Int32) (P : Int32 → Prop) : Prop :=
  lq2 (fun rec3 (x1 : Int32) (x2 : Int32) =>
    ((10 ≤ x2 →
      P x1) ∧
      (¬ 10 ≤ x2 →
      wp_X4_pageIndex σ y1 x2 (fun r4 =>
        vp_in r4 50 ∧ (((σ 6 r4.toNatClampNeg) = 0 →
        rec3 x1 (x2 + 1)) ∧
        (¬ (σ 6 r4.toNatClampNeg) = 0 →
        rec3 (x1 + 1) (x2 + 1))))))) 0 0
set_option maxRecDepth 100000 in
set_option maxHeartbeats 4000000 in
theorem c_X1_pinnedPagesOf (V : EV) (σ : Mem) (y1 : Int32) (P : Int32 → Prop) (l : Launch) : Met l yX1_pinnedPagesOf (.code yX1_pinnedPagesOf cX1_pinnedPagesOf 4 (some .int) :: AW) { frames := 1, cells := 0, slots := 0, locals := 21 } (va_Pc [.ref (ad V 0), .int y1] (fun U => wP V σ U ∧ wp_X1_pinnedPagesOf σ y1 P)) (va_Qi (fun r τ => τ = σ ∧ P r) (wB V) (AA V)) 0 0 (AA V) := by
  refine met_i V σ (own := RX1) (by decide +kernel) rfl (fun v hv => by simp at hv; rcases hv with rfl | rfl <;> rfl) (Nat.le_of_ble_eq_true rfl) (fun X C D h => ?_) l
  show GG V X σ 0 [some (.ref (ad V 0)), some (.int y1), none, none] []
  refine g_iconst C dX1_pinnedPagesOf_0 ic_0 rfl ?_
  refine g_istore_n C dX1_pinnedPagesOf_1 rfl (Nat.le_of_ble_eq_true rfl) (L' := [some (.ref (ad V 0)), some (.int y1), some (.int 0), none]) rfl rfl ?_
  refine g_iconst C dX1_pinnedPagesOf_2 ic_0 rfl ?_
  refine g_istore_n C dX1_pinnedPagesOf_3 rfl (Nat.le_of_ble_eq_true rfl) (L' := [some (.ref (ad V 0)), some (.int y1), some (.int 0), some (.int 0)]) rfl rfl ?_
  refine h (fun (x1 : Int32) (x2 : Int32) => GG V X σ 4 [some (.ref (ad V 0)), some (.int y1), some (.int x1), some (.int x2)] []) (fun x1 x2 h => ?_)
  refine g_iload_n C dX1_pinnedPagesOf_4 rfl rfl rfl ?_
  refine g_bipush C dX1_pinnedPagesOf_5 bp_10 rfl ?_
  refine g_icmp_ge C dX1_pinnedPagesOf_7 (tgt := 32) rfl rfl (fun q => ?_) (fun q => ?_)
  · have h := h.1 q
    refine g_iload_n C dX1_pinnedPagesOf_32 rfl rfl rfl ?_
    exact g_iret C dX1_pinnedPagesOf_33 D ⟨rfl, h⟩
  · have h := h.2 q
    refine g_aload_n C dX1_pinnedPagesOf_10 rfl rfl rfl ?_
    refine f_X1_28 C dX1_pinnedPagesOf_11 rfl ?_
    refine g_iload_n C dX1_pinnedPagesOf_14 rfl rfl rfl ?_
    refine g_iload_n C dX1_pinnedPagesOf_15 rfl rfl rfl ?_
    refine k_X1_153 C dX1_pinnedPagesOf_16 (Nat.le_of_ble_eq_true rfl) (by decide) rfl rfl h (fun r4 h => ?_)
    obtain ⟨hin, h⟩ := h
    refine g_zld C dX1_pinnedPagesOf_19 arr_6 hin rfl ?_
    refine g_if_eq C dX1_pinnedPagesOf_20 (tgt := 26) rfl rfl (fun q => ?_) (fun q => ?_)
    · have h := h.1 q
      refine g_iinc C dX1_pinnedPagesOf_26 (v := x2 + 1) (by rw [ic_1]) rfl (Nat.le_of_ble_eq_true rfl) (L' := [some (.ref (ad V 0)), some (.int y1), some (.int x1), some (.int (x2 + 1))]) rfl rfl ?_
      refine g_goto C dX1_pinnedPagesOf_29 (pc' := 4) rfl ?_
      exact h
    · have h := h.2 q
      refine g_iinc C dX1_pinnedPagesOf_23 (v := x1 + 1) (by rw [ic_1]) rfl (Nat.le_of_ble_eq_true rfl) (L' := [some (.ref (ad V 0)), some (.int y1), some (.int (x1 + 1)), some (.int x2)]) rfl rfl ?_
      refine g_iinc C dX1_pinnedPagesOf_26 (v := x2 + 1) (by rw [ic_1]) rfl (Nat.le_of_ble_eq_true rfl) (L' := [some (.ref (ad V 0)), some (.int y1), some (.int (x1 + 1)), some (.int (x2 + 1))]) rfl rfl ?_
      refine g_goto C dX1_pinnedPagesOf_29 (pc' := 4) rfl ?_
      exact h
theorem hd_X1_pinnedPagesOf : yX1_pinnedPagesOf.cls ≠ "java/lang/invoke/MethodHandle" ∧ yX1_pinnedPagesOf.cls ≠ "java/lang/invoke/VarHandle" ∧ (parseMethodDescriptor yX1_pinnedPagesOf.desc).map (fun d => d.parameters.length) = some 1 := by decide +kernel
theorem k_X1_131 {V : EV} {X : CX} {cc : ByteArray} {nL : Nat} {R : Room} {y1 : Int32} (C : OK V X RX1 cc nL R) {σ : Mem} {pc pc' : Nat} {L : List (Option Value)} {st : List Value} {P : Int32 → Prop} (d : decode cc pc = .ok (.invokevirtual 131, 3)) (hst : (st.map fun v => v.category).sum ≤ 8) (hr : 1 + 1 ≤ R.frames ∧ 8 + (4 + 11) + 21 ≤ R.locals) (hL : L.length = nL) (hp : pc + 3 = pc') (h : wp_X1_pinnedPagesOf σ y1 P) (k : ∀ r, P r → GG V X σ pc' L (.int r :: st)) : GG V X σ pc L (.int y1 :: .ref (ad V 0) :: st) :=
  g_callVi C (av := [.int y1]) (fun l => c_X1_pinnedPagesOf V σ y1 P l) (by decide) (en_0 V σ) (q := (RX1, TX1, 17)) rfl rfl ml_RX1_131 im_X1_pinnedPagesOf se_X1_pinnedPagesOf ini_RX1 co_X1_pinnedPagesOf hd_X1_pinnedPagesOf rfl ⟨rfl, rfl⟩ hr hst d hL hp h (fun r τ hq => by obtain ⟨rfl, hq⟩ := hq; exact k r hq)

theorem dX1_pinnedPages_0 : decode cX1_pinnedPages 0 = .ok (.iconst 0, 1) := by decide +kernel
theorem dX1_pinnedPages_1 : decode cX1_pinnedPages 1 = .ok (.istore_n 1, 1) := by decide +kernel
theorem dX1_pinnedPages_2 : decode cX1_pinnedPages 2 = .ok (.iconst 0, 1) := by decide +kernel
theorem dX1_pinnedPages_3 : decode cX1_pinnedPages 3 = .ok (.istore_n 2, 1) := by decide +kernel
theorem dX1_pinnedPages_4 : decode cX1_pinnedPages 4 = .ok (.iload_n 2, 1) := by decide +kernel
theorem dX1_pinnedPages_5 : decode cX1_pinnedPages 5 = .ok (.iconst 5, 1) := by decide +kernel
theorem dX1_pinnedPages_6 : decode cX1_pinnedPages 6 = .ok (.if_icmp .ge 17, 3) := by decide +kernel
theorem dX1_pinnedPages_9 : decode cX1_pinnedPages 9 = .ok (.iload_n 1, 1) := by decide +kernel
theorem dX1_pinnedPages_10 : decode cX1_pinnedPages 10 = .ok (.aload_n 0, 1) := by decide +kernel
theorem dX1_pinnedPages_11 : decode cX1_pinnedPages 11 = .ok (.iload_n 2, 1) := by decide +kernel
theorem dX1_pinnedPages_12 : decode cX1_pinnedPages 12 = .ok (.invokevirtual 131, 3) := by decide +kernel
theorem dX1_pinnedPages_15 : decode cX1_pinnedPages 15 = .ok (.iadd, 1) := by decide +kernel
theorem dX1_pinnedPages_16 : decode cX1_pinnedPages 16 = .ok (.istore_n 1, 1) := by decide +kernel
theorem dX1_pinnedPages_17 : decode cX1_pinnedPages 17 = .ok (.iinc 2 1, 3) := by decide +kernel
theorem dX1_pinnedPages_20 : decode cX1_pinnedPages 20 = .ok (.goto (-16), 3) := by decide +kernel
theorem dX1_pinnedPages_23 : decode cX1_pinnedPages 23 = .ok (.iload_n 1, 1) := by decide +kernel
theorem dX1_pinnedPages_24 : decode cX1_pinnedPages 24 = .ok (.ireturn, 1) := by decide +kernel
def wp_X1_pinnedPages (σ : Mem) (P : Int32 → Prop) : Prop :=
  lq2 (fun rec3 (x1 : Int32) (x2 : Int32) =>
    ((5 ≤ x2 →
      P x1) ∧
      (¬ 5 ≤ x2 →
      wp_X1_pinnedPagesOf σ x2 (fun r4 =>
        rec3 (x1 + r4) (x2 + 1))))) 0 0
set_option maxRecDepth 100000 in
set_option maxHeartbeats 4000000 in
theorem c_X1_pinnedPages (V : EV) (σ : Mem) (P : Int32 → Prop) (l : Launch) : Met l yX1_pinnedPages (.code yX1_pinnedPages cX1_pinnedPages 3 (some .int) :: AW) { frames := 2, cells := 0, slots := 0, locals := 44 } (va_Pc [.ref (ad V 0)] (fun U => wP V σ U ∧ wp_X1_pinnedPages σ P)) (va_Qi (fun r τ => τ = σ ∧ P r) (wB V) (AA V)) 0 0 (AA V) := by
  refine met_i V σ (own := RX1) (by decide +kernel) rfl (fun v hv => by simp at hv; subst hv; rfl) (Nat.le_of_ble_eq_true rfl) (fun X C D h => ?_) l
  show GG V X σ 0 [some (.ref (ad V 0)), none, none] []
  refine g_iconst C dX1_pinnedPages_0 ic_0 rfl ?_
  refine g_istore_n C dX1_pinnedPages_1 rfl (Nat.le_of_ble_eq_true rfl) (L' := [some (.ref (ad V 0)), some (.int 0), none]) rfl rfl ?_
  refine g_iconst C dX1_pinnedPages_2 ic_0 rfl ?_
  refine g_istore_n C dX1_pinnedPages_3 rfl (Nat.le_of_ble_eq_true rfl) (L' := [some (.ref (ad V 0)), some (.int 0), some (.int 0)]) rfl rfl ?_
  refine h (fun (x1 : Int32) (x2 : Int32) => GG V X σ 4 [some (.ref (ad V 0)), some (.int x1), some (.int x2)] []) (fun x1 x2 h => ?_)
  refine g_iload_n C dX1_pinnedPages_4 rfl rfl rfl ?_
  refine g_iconst C dX1_pinnedPages_5 ic_5 rfl ?_
  refine g_icmp_ge C dX1_pinnedPages_6 (tgt := 23) rfl rfl (fun q => ?_) (fun q => ?_)
  · have h := h.1 q
    refine g_iload_n C dX1_pinnedPages_23 rfl rfl rfl ?_
    exact g_iret C dX1_pinnedPages_24 D ⟨rfl, h⟩
  · have h := h.2 q
    refine g_iload_n C dX1_pinnedPages_9 rfl rfl rfl ?_
    refine g_aload_n C dX1_pinnedPages_10 rfl rfl rfl ?_
    refine g_iload_n C dX1_pinnedPages_11 rfl rfl rfl ?_
    refine k_X1_131 C dX1_pinnedPages_12 (Nat.le_of_ble_eq_true rfl) (by decide) rfl rfl h (fun r4 h => ?_)
    refine g_iadd C dX1_pinnedPages_15 rfl ?_
    refine g_istore_n C dX1_pinnedPages_16 rfl (Nat.le_of_ble_eq_true rfl) (L' := [some (.ref (ad V 0)), some (.int (x1 + r4)), some (.int x2)]) rfl rfl ?_
    refine g_iinc C dX1_pinnedPages_17 (v := x2 + 1) (by rw [ic_1]) rfl (Nat.le_of_ble_eq_true rfl) (L' := [some (.ref (ad V 0)), some (.int (x1 + r4)), some (.int (x2 + 1))]) rfl rfl ?_
    refine g_goto C dX1_pinnedPages_20 (pc' := 4) rfl ?_
    exact h
theorem hd_X1_pinnedPages : yX1_pinnedPages.cls ≠ "java/lang/invoke/MethodHandle" ∧ yX1_pinnedPages.cls ≠ "java/lang/invoke/VarHandle" ∧ (parseMethodDescriptor yX1_pinnedPages.desc).map (fun d => d.parameters.length) = some 0 := by decide +kernel
theorem k_X1_90 {V : EV} {X : CX} {cc : ByteArray} {nL : Nat} {R : Room} (C : OK V X RX1 cc nL R) {σ : Mem} {pc pc' : Nat} {L : List (Option Value)} {st : List Value} {P : Int32 → Prop} (d : decode cc pc = .ok (.invokevirtual 90, 3)) (hst : (st.map fun v => v.category).sum ≤ 8) (hr : 2 + 1 ≤ R.frames ∧ 8 + (3 + 11) + 44 ≤ R.locals) (hL : L.length = nL) (hp : pc + 3 = pc') (h : wp_X1_pinnedPages σ P) (k : ∀ r, P r → GG V X σ pc' L (.int r :: st)) : GG V X σ pc L (.ref (ad V 0) :: st) :=
  g_callVi C (av := []) (fun l => c_X1_pinnedPages V σ P l) (by decide) (en_0 V σ) (q := (RX1, TX1, 17)) rfl rfl ml_RX1_90 im_X1_pinnedPages se_X1_pinnedPages ini_RX1 co_X1_pinnedPages hd_X1_pinnedPages rfl ⟨rfl, rfl⟩ hr hst d hL hp h (fun r τ hq => by obtain ⟨rfl, hq⟩ := hq; exact k r hq)

theorem dX1_changePin_0 : decode cX1_changePin 0 = .ok (.aload_n 0, 1) := by decide +kernel
theorem dX1_changePin_1 : decode cX1_changePin 1 = .ok (.iload_n 1, 1) := by decide +kernel
theorem dX1_changePin_2 : decode cX1_changePin 2 = .ok (.invokevirtual 71, 3) := by decide +kernel
theorem dX1_changePin_5 : decode cX1_changePin 5 = .ok (.ifCond .ne 6, 3) := by decide +kernel
theorem dX1_changePin_8 : decode cX1_changePin 8 = .ok (.bipush (-4), 2) := by decide +kernel
theorem dX1_changePin_10 : decode cX1_changePin 10 = .ok (.ireturn, 1) := by decide +kernel
theorem dX1_changePin_11 : decode cX1_changePin 11 = .ok (.aload_n 0, 1) := by decide +kernel
theorem dX1_changePin_12 : decode cX1_changePin 12 = .ok (.getfield 28, 3) := by decide +kernel
theorem dX1_changePin_15 : decode cX1_changePin 15 = .ok (.iload_n 1, 1) := by decide +kernel
theorem dX1_changePin_16 : decode cX1_changePin 16 = .ok (.baload, 1) := by decide +kernel
theorem dX1_changePin_17 : decode cX1_changePin 17 = .ok (.iload_n 2, 1) := by decide +kernel
theorem dX1_changePin_18 : decode cX1_changePin 18 = .ok (.if_icmp .ne 6, 3) := by decide +kernel
theorem dX1_changePin_21 : decode cX1_changePin 21 = .ok (.bipush (-5), 2) := by decide +kernel
theorem dX1_changePin_23 : decode cX1_changePin 23 = .ok (.ireturn, 1) := by decide +kernel
theorem dX1_changePin_24 : decode cX1_changePin 24 = .ok (.aload_n 0, 1) := by decide +kernel
theorem dX1_changePin_25 : decode cX1_changePin 25 = .ok (.getfield 28, 3) := by decide +kernel
theorem dX1_changePin_28 : decode cX1_changePin 28 = .ok (.iload_n 1, 1) := by decide +kernel
theorem dX1_changePin_29 : decode cX1_changePin 29 = .ok (.iload_n 2, 1) := by decide +kernel
theorem dX1_changePin_30 : decode cX1_changePin 30 = .ok (.bastore, 1) := by decide +kernel
theorem dX1_changePin_31 : decode cX1_changePin 31 = .ok (.aload_n 0, 1) := by decide +kernel
theorem dX1_changePin_32 : decode cX1_changePin 32 = .ok (.invokevirtual 83, 3) := by decide +kernel
theorem dX1_changePin_35 : decode cX1_changePin 35 = .ok (.pop, 1) := by decide +kernel
theorem dX1_changePin_36 : decode cX1_changePin 36 = .ok (.aload_n 0, 1) := by decide +kernel
theorem dX1_changePin_37 : decode cX1_changePin 37 = .ok (.invokevirtual 90, 3) := by decide +kernel
theorem dX1_changePin_40 : decode cX1_changePin 40 = .ok (.ireturn, 1) := by decide +kernel
def wp_X1_changePin (σ : Mem) (y1 : Int32) (y2 : Int32) (P : Int32 → Mem → Prop) : Prop :=
  wp_X1_hasCell σ y1 (fun r1 =>
    ((r1 = 0 →
    P (-4) σ) ∧
    (¬ r1 = 0 →
    vp_in y1 50 ∧ (((σ 6 y1.toNatClampNeg) = y2 →
      P (-5) σ) ∧
      (¬ (σ 6 y1.toNatClampNeg) = y2 →
      vp_in y1 50 ∧ bm (up2 σ 6 y1.toNatClampNeg (vp_nar .boolean y2)) (fun σ2 =>
        wp_X1_retireWhatCan σ2  (fun r3 σ4 =>
        wp_X1_pinnedPages σ4  (fun r5 =>
        P r5 σ4))))))))
set_option maxRecDepth 100000 in
set_option maxHeartbeats 4000000 in
theorem c_X1_changePin (V : EV) (σ : Mem) (y1 : Int32) (y2 : Int32) (P : Int32 → Mem → Prop) (l : Launch) : Met l yX1_changePin (.code yX1_changePin cX1_changePin 3 (some .int) :: AW) { frames := 4, cells := 0, slots := 0, locals := 91 } (va_Pc [.ref (ad V 0), .int y1, .int y2] (fun U => wP V σ U ∧ wp_X1_changePin σ y1 y2 P)) (va_Qi P (wB V) (AA V)) 0 0 (AA V) := by
  refine met_i V σ (own := RX1) (by decide +kernel) rfl (fun v hv => by simp at hv; rcases hv with rfl | rfl | rfl <;> rfl) (Nat.le_of_ble_eq_true rfl) (fun X C D h => ?_) l
  show GG V X σ 0 [some (.ref (ad V 0)), some (.int y1), some (.int y2)] []
  refine g_aload_n C dX1_changePin_0 rfl rfl rfl ?_
  refine g_iload_n C dX1_changePin_1 rfl rfl rfl ?_
  refine k_X1_71 C dX1_changePin_2 (Nat.le_of_ble_eq_true rfl) (by decide) rfl rfl h (fun r1 h => ?_)
  refine g_if_ne C dX1_changePin_5 (tgt := 11) rfl rfl (fun q => ?_) (fun q => ?_)
  · have h := h.2 q
    refine g_aload_n C dX1_changePin_11 rfl rfl rfl ?_
    refine f_X1_28 C dX1_changePin_12 rfl ?_
    refine g_iload_n C dX1_changePin_15 rfl rfl rfl ?_
    obtain ⟨hin, h⟩ := h
    refine g_zld C dX1_changePin_16 arr_6 hin rfl ?_
    refine g_iload_n C dX1_changePin_17 rfl rfl rfl ?_
    refine g_icmp_ne C dX1_changePin_18 (tgt := 24) rfl rfl (fun q => ?_) (fun q => ?_)
    · have h := h.2 q
      refine g_aload_n C dX1_changePin_24 rfl rfl rfl ?_
      refine f_X1_28 C dX1_changePin_25 rfl ?_
      refine g_iload_n C dX1_changePin_28 rfl rfl rfl ?_
      refine g_iload_n C dX1_changePin_29 rfl rfl rfl ?_
      obtain ⟨hin, h⟩ := h
      refine g_zst C dX1_changePin_30 arr_6 hin rfl h (fun σ2 h => ?_)
      refine g_aload_n C dX1_changePin_31 rfl rfl rfl ?_
      refine k_X1_83 C dX1_changePin_32 (Nat.le_of_ble_eq_true rfl) (by decide) rfl rfl h (fun r3 σ4 h => ?_)
      refine g_pop C dX1_changePin_35 rfl rfl ?_
      refine g_aload_n C dX1_changePin_36 rfl rfl rfl ?_
      refine k_X1_90 C dX1_changePin_37 (Nat.le_of_ble_eq_true rfl) (by decide) rfl rfl h (fun r5 h => ?_)
      exact g_iret C dX1_changePin_40 D h
    · have h := h.1 q
      refine g_bipush C dX1_changePin_21 bp_m5 rfl ?_
      exact g_iret C dX1_changePin_23 D h
  · have h := h.1 q
    refine g_bipush C dX1_changePin_8 bp_m4 rfl ?_
    exact g_iret C dX1_changePin_10 D h
theorem hd_X1_changePin : yX1_changePin.cls ≠ "java/lang/invoke/MethodHandle" ∧ yX1_changePin.cls ≠ "java/lang/invoke/VarHandle" ∧ (parseMethodDescriptor yX1_changePin.desc).map (fun d => d.parameters.length) = some 2 := by decide +kernel
theorem k_X4_82 {V : EV} {X : CX} {cc : ByteArray} {nL : Nat} {R : Room} {y1 : Int32} {y2 : Int32} (C : OK V X RX4 cc nL R) {σ : Mem} {pc pc' : Nat} {L : List (Option Value)} {st : List Value} {P : Int32 → Mem → Prop} (d : decode cc pc = .ok (.invokevirtual 82, 3)) (hst : (st.map fun v => v.category).sum ≤ 8) (hr : 4 + 1 ≤ R.frames ∧ 8 + (3 + 11) + 91 ≤ R.locals) (hL : L.length = nL) (hp : pc + 3 = pc') (h : wp_X1_changePin σ y1 y2 P) (k : ∀ r τ, P r τ → GG V X τ pc' L (.int r :: st)) : GG V X σ pc L (.int y2 :: .int y1 :: .ref (ad V 0) :: st) :=
  g_callVi C (av := [.int y1, .int y2]) (fun l => c_X1_changePin V σ y1 y2 P l) (by decide) (en_0 V σ) (q := (RX1, TX1, 17)) rfl rfl ml_RX4_82 im_X1_changePin se_X1_changePin ini_RX1 co_X1_changePin hd_X1_changePin rfl ⟨rfl, rfl⟩ hr hst d hL hp h k

theorem dX1_meetError_0 : decode cX1_meetError 0 = .ok (.aload_n 0, 1) := by decide +kernel
theorem dX1_meetError_1 : decode cX1_meetError 1 = .ok (.getfield 9, 3) := by decide +kernel
theorem dX1_meetError_4 : decode cX1_meetError 4 = .ok (.iload_n 1, 1) := by decide +kernel
theorem dX1_meetError_5 : decode cX1_meetError 5 = .ok (.baload, 1) := by decide +kernel
theorem dX1_meetError_6 : decode cX1_meetError 6 = .ok (.ifCond .eq 6, 3) := by decide +kernel
theorem dX1_meetError_9 : decode cX1_meetError 9 = .ok (.bipush (-4), 2) := by decide +kernel
theorem dX1_meetError_11 : decode cX1_meetError 11 = .ok (.ireturn, 1) := by decide +kernel
theorem dX1_meetError_12 : decode cX1_meetError 12 = .ok (.aload_n 0, 1) := by decide +kernel
theorem dX1_meetError_13 : decode cX1_meetError 13 = .ok (.getfield 15, 3) := by decide +kernel
theorem dX1_meetError_16 : decode cX1_meetError 16 = .ok (.iload_n 1, 1) := by decide +kernel
theorem dX1_meetError_17 : decode cX1_meetError 17 = .ok (.dup2, 1) := by decide +kernel
theorem dX1_meetError_18 : decode cX1_meetError 18 = .ok (.iaload, 1) := by decide +kernel
theorem dX1_meetError_19 : decode cX1_meetError 19 = .ok (.iconst 1, 1) := by decide +kernel
theorem dX1_meetError_20 : decode cX1_meetError 20 = .ok (.iadd, 1) := by decide +kernel
theorem dX1_meetError_21 : decode cX1_meetError 21 = .ok (.iastore, 1) := by decide +kernel
theorem dX1_meetError_22 : decode cX1_meetError 22 = .ok (.aload_n 0, 1) := by decide +kernel
theorem dX1_meetError_23 : decode cX1_meetError 23 = .ok (.dup, 1) := by decide +kernel
theorem dX1_meetError_24 : decode cX1_meetError 24 = .ok (.getfield 62, 3) := by decide +kernel
theorem dX1_meetError_27 : decode cX1_meetError 27 = .ok (.iconst 1, 1) := by decide +kernel
theorem dX1_meetError_28 : decode cX1_meetError 28 = .ok (.iadd, 1) := by decide +kernel
theorem dX1_meetError_29 : decode cX1_meetError 29 = .ok (.putfield 62, 3) := by decide +kernel
theorem dX1_meetError_32 : decode cX1_meetError 32 = .ok (.aload_n 0, 1) := by decide +kernel
theorem dX1_meetError_33 : decode cX1_meetError 33 = .ok (.invokevirtual 83, 3) := by decide +kernel
theorem dX1_meetError_36 : decode cX1_meetError 36 = .ok (.ireturn, 1) := by decide +kernel
def wp_X1_meetError (σ : Mem) (y1 : Int32) (P : Int32 → Mem → Prop) : Prop :=
  vp_in y1 40 ∧ (((σ 1 y1.toNatClampNeg) = 0 →
    vp_in y1 40 ∧ vp_in y1 40 ∧ bm (up2 σ 2 y1.toNatClampNeg ((σ 2 y1.toNatClampNeg) + 1)) (fun σ1 =>
      bm (up2 σ1 0 14 ((σ1 0 14) + 1)) (fun σ2 =>
      wp_X1_retireWhatCan σ2  (fun r3 σ4 =>
      P r3 σ4)))) ∧
    (¬ (σ 1 y1.toNatClampNeg) = 0 →
    P (-4) σ))
set_option maxRecDepth 100000 in
set_option maxHeartbeats 4000000 in
theorem c_X1_meetError (V : EV) (σ : Mem) (y1 : Int32) (P : Int32 → Mem → Prop) (l : Launch) : Met l yX1_meetError (.code yX1_meetError cX1_meetError 2 (some .int) :: AW) { frames := 4, cells := 0, slots := 0, locals := 91 } (va_Pc [.ref (ad V 0), .int y1] (fun U => wP V σ U ∧ wp_X1_meetError σ y1 P)) (va_Qi P (wB V) (AA V)) 0 0 (AA V) := by
  refine met_i V σ (own := RX1) (by decide +kernel) rfl (fun v hv => by simp at hv; rcases hv with rfl | rfl <;> rfl) (Nat.le_of_ble_eq_true rfl) (fun X C D h => ?_) l
  show GG V X σ 0 [some (.ref (ad V 0)), some (.int y1)] []
  refine g_aload_n C dX1_meetError_0 rfl rfl rfl ?_
  refine f_X1_9 C dX1_meetError_1 rfl ?_
  refine g_iload_n C dX1_meetError_4 rfl rfl rfl ?_
  obtain ⟨hin, h⟩ := h
  refine g_zld C dX1_meetError_5 arr_1 hin rfl ?_
  refine g_if_eq C dX1_meetError_6 (tgt := 12) rfl rfl (fun q => ?_) (fun q => ?_)
  · have h := h.1 q
    refine g_aload_n C dX1_meetError_12 rfl rfl rfl ?_
    refine f_X1_15 C dX1_meetError_13 rfl ?_
    refine g_iload_n C dX1_meetError_16 rfl rfl rfl ?_
    refine g_dup2 C dX1_meetError_17 rfl rfl rfl ?_
    obtain ⟨hin, h⟩ := h
    refine g_ild C dX1_meetError_18 arr_2 hin rfl ?_
    refine g_iconst C dX1_meetError_19 ic_1 rfl ?_
    refine g_iadd C dX1_meetError_20 rfl ?_
    obtain ⟨hin, h⟩ := h
    refine g_ist C dX1_meetError_21 arr_2 hin rfl h (fun σ1 h => ?_)
    refine g_aload_n C dX1_meetError_22 rfl rfl rfl ?_
    refine g_dup C dX1_meetError_23 rfl rfl ?_
    refine f_X1_62 C dX1_meetError_24 rfl ?_
    refine g_iconst C dX1_meetError_27 ic_1 rfl ?_
    refine g_iadd C dX1_meetError_28 rfl ?_
    refine p_X1_62 C dX1_meetError_29 rfl h (fun σ2 h => ?_)
    refine g_aload_n C dX1_meetError_32 rfl rfl rfl ?_
    refine k_X1_83 C dX1_meetError_33 (Nat.le_of_ble_eq_true rfl) (by decide) rfl rfl h (fun r3 σ4 h => ?_)
    exact g_iret C dX1_meetError_36 D h
  · have h := h.2 q
    refine g_bipush C dX1_meetError_9 bp_m4 rfl ?_
    exact g_iret C dX1_meetError_11 D h
theorem hd_X1_meetError : yX1_meetError.cls ≠ "java/lang/invoke/MethodHandle" ∧ yX1_meetError.cls ≠ "java/lang/invoke/VarHandle" ∧ (parseMethodDescriptor yX1_meetError.desc).map (fun d => d.parameters.length) = some 1 := by decide +kernel
theorem k_X4_90 {V : EV} {X : CX} {cc : ByteArray} {nL : Nat} {R : Room} {y1 : Int32} (C : OK V X RX4 cc nL R) {σ : Mem} {pc pc' : Nat} {L : List (Option Value)} {st : List Value} {P : Int32 → Mem → Prop} (d : decode cc pc = .ok (.invokevirtual 90, 3)) (hst : (st.map fun v => v.category).sum ≤ 8) (hr : 4 + 1 ≤ R.frames ∧ 8 + (2 + 11) + 91 ≤ R.locals) (hL : L.length = nL) (hp : pc + 3 = pc') (h : wp_X1_meetError σ y1 P) (k : ∀ r τ, P r τ → GG V X τ pc' L (.int r :: st)) : GG V X σ pc L (.int y1 :: .ref (ad V 0) :: st) :=
  g_callVi C (av := [.int y1]) (fun l => c_X1_meetError V σ y1 P l) (by decide) (en_0 V σ) (q := (RX1, TX1, 17)) rfl rfl ml_RX4_90 im_X1_meetError se_X1_meetError ini_RX1 co_X1_meetError hd_X1_meetError rfl ⟨rfl, rfl⟩ hr hst d hL hp h k

theorem dX1_loseWhatLiesIn_0 : decode cX1_loseWhatLiesIn 0 = .ok (.aload_n 0, 1) := by decide +kernel
theorem dX1_loseWhatLiesIn_1 : decode cX1_loseWhatLiesIn 1 = .ok (.getfield 19, 3) := by decide +kernel
theorem dX1_loseWhatLiesIn_4 : decode cX1_loseWhatLiesIn 4 = .ok (.iload_n 1, 1) := by decide +kernel
theorem dX1_loseWhatLiesIn_5 : decode cX1_loseWhatLiesIn 5 = .ok (.iaload, 1) := by decide +kernel
theorem dX1_loseWhatLiesIn_6 : decode cX1_loseWhatLiesIn 6 = .ok (.istore_n 2, 1) := by decide +kernel
theorem dX1_loseWhatLiesIn_7 : decode cX1_loseWhatLiesIn 7 = .ok (.iload_n 2, 1) := by decide +kernel
theorem dX1_loseWhatLiesIn_8 : decode cX1_loseWhatLiesIn 8 = .ok (.ifCond .ge 7, 3) := by decide +kernel
theorem dX1_loseWhatLiesIn_11 : decode cX1_loseWhatLiesIn 11 = .ok (.sipush 10000, 3) := by decide +kernel
theorem dX1_loseWhatLiesIn_14 : decode cX1_loseWhatLiesIn 14 = .ok (.ireturn, 1) := by decide +kernel
theorem dX1_loseWhatLiesIn_15 : decode cX1_loseWhatLiesIn 15 = .ok (.aload_n 0, 1) := by decide +kernel
theorem dX1_loseWhatLiesIn_16 : decode cX1_loseWhatLiesIn 16 = .ok (.getfield 34, 3) := by decide +kernel
theorem dX1_loseWhatLiesIn_19 : decode cX1_loseWhatLiesIn 19 = .ok (.iload_n 2, 1) := by decide +kernel
theorem dX1_loseWhatLiesIn_20 : decode cX1_loseWhatLiesIn 20 = .ok (.bipush 10, 2) := by decide +kernel
theorem dX1_loseWhatLiesIn_22 : decode cX1_loseWhatLiesIn 22 = .ok (.idiv, 1) := by decide +kernel
theorem dX1_loseWhatLiesIn_23 : decode cX1_loseWhatLiesIn 23 = .ok (.dup2, 1) := by decide +kernel
theorem dX1_loseWhatLiesIn_24 : decode cX1_loseWhatLiesIn 24 = .ok (.iaload, 1) := by decide +kernel
theorem dX1_loseWhatLiesIn_25 : decode cX1_loseWhatLiesIn 25 = .ok (.iconst 1, 1) := by decide +kernel
theorem dX1_loseWhatLiesIn_26 : decode cX1_loseWhatLiesIn 26 = .ok (.iadd, 1) := by decide +kernel
theorem dX1_loseWhatLiesIn_27 : decode cX1_loseWhatLiesIn 27 = .ok (.iastore, 1) := by decide +kernel
theorem dX1_loseWhatLiesIn_28 : decode cX1_loseWhatLiesIn 28 = .ok (.aload_n 0, 1) := by decide +kernel
theorem dX1_loseWhatLiesIn_29 : decode cX1_loseWhatLiesIn 29 = .ok (.iload_n 2, 1) := by decide +kernel
theorem dX1_loseWhatLiesIn_30 : decode cX1_loseWhatLiesIn 30 = .ok (.invokevirtual 86, 3) := by decide +kernel
theorem dX1_loseWhatLiesIn_33 : decode cX1_loseWhatLiesIn 33 = .ok (.aload_n 0, 1) := by decide +kernel
theorem dX1_loseWhatLiesIn_34 : decode cX1_loseWhatLiesIn 34 = .ok (.getfield 25, 3) := by decide +kernel
theorem dX1_loseWhatLiesIn_37 : decode cX1_loseWhatLiesIn 37 = .ok (.iload_n 2, 1) := by decide +kernel
theorem dX1_loseWhatLiesIn_38 : decode cX1_loseWhatLiesIn 38 = .ok (.iaload, 1) := by decide +kernel
theorem dX1_loseWhatLiesIn_39 : decode cX1_loseWhatLiesIn 39 = .ok (.ireturn, 1) := by decide +kernel
def wp_X1_loseWhatLiesIn (σ : Mem) (y1 : Int32) (P : Int32 → Mem → Prop) : Prop :=
  vp_in y1 40 ∧ ((0 ≤ (σ 3 y1.toNatClampNeg) →
    vp_in ((σ 3 y1.toNatClampNeg) / 10) 5 ∧ vp_in ((σ 3 y1.toNatClampNeg) / 10) 5 ∧ bm (up2 σ 8 ((σ 3 y1.toNatClampNeg) / 10).toNatClampNeg ((σ 8 ((σ 3 y1.toNatClampNeg) / 10).toNatClampNeg) + 1)) (fun σ1 =>
      wp_X1_release σ1 (σ 3 y1.toNatClampNeg) (fun σ2 =>
      vp_in (σ 3 y1.toNatClampNeg) 50 ∧ P (σ2 5 (σ 3 y1.toNatClampNeg).toNatClampNeg) σ2))) ∧
    (¬ 0 ≤ (σ 3 y1.toNatClampNeg) →
    P 10000 σ))
set_option maxRecDepth 100000 in
set_option maxHeartbeats 4000000 in
theorem c_X1_loseWhatLiesIn (V : EV) (σ : Mem) (y1 : Int32) (P : Int32 → Mem → Prop) (l : Launch) : Met l yX1_loseWhatLiesIn (.code yX1_loseWhatLiesIn cX1_loseWhatLiesIn 3 (some .int) :: AW) { frames := 1, cells := 0, slots := 0, locals := 22 } (va_Pc [.ref (ad V 0), .int y1] (fun U => wP V σ U ∧ wp_X1_loseWhatLiesIn σ y1 P)) (va_Qi P (wB V) (AA V)) 0 0 (AA V) := by
  refine met_i V σ (own := RX1) (by decide +kernel) rfl (fun v hv => by simp at hv; rcases hv with rfl | rfl <;> rfl) (Nat.le_of_ble_eq_true rfl) (fun X C D h => ?_) l
  show GG V X σ 0 [some (.ref (ad V 0)), some (.int y1), none] []
  refine g_aload_n C dX1_loseWhatLiesIn_0 rfl rfl rfl ?_
  refine f_X1_19 C dX1_loseWhatLiesIn_1 rfl ?_
  refine g_iload_n C dX1_loseWhatLiesIn_4 rfl rfl rfl ?_
  obtain ⟨hin, h⟩ := h
  refine g_ild C dX1_loseWhatLiesIn_5 arr_3 hin rfl ?_
  refine g_istore_n C dX1_loseWhatLiesIn_6 rfl (Nat.le_of_ble_eq_true rfl) (L' := [some (.ref (ad V 0)), some (.int y1), some (.int (σ 3 y1.toNatClampNeg))]) rfl rfl ?_
  refine g_iload_n C dX1_loseWhatLiesIn_7 rfl rfl rfl ?_
  refine g_if_ge C dX1_loseWhatLiesIn_8 (tgt := 15) rfl rfl (fun q => ?_) (fun q => ?_)
  · have h := h.1 q
    refine g_aload_n C dX1_loseWhatLiesIn_15 rfl rfl rfl ?_
    refine f_X1_34 C dX1_loseWhatLiesIn_16 rfl ?_
    refine g_iload_n C dX1_loseWhatLiesIn_19 rfl rfl rfl ?_
    refine g_bipush C dX1_loseWhatLiesIn_20 bp_10 rfl ?_
    refine g_idiv C dX1_loseWhatLiesIn_22 (by decide) rfl ?_
    refine g_dup2 C dX1_loseWhatLiesIn_23 rfl rfl rfl ?_
    obtain ⟨hin, h⟩ := h
    refine g_ild C dX1_loseWhatLiesIn_24 arr_8 hin rfl ?_
    refine g_iconst C dX1_loseWhatLiesIn_25 ic_1 rfl ?_
    refine g_iadd C dX1_loseWhatLiesIn_26 rfl ?_
    obtain ⟨hin, h⟩ := h
    refine g_ist C dX1_loseWhatLiesIn_27 arr_8 hin rfl h (fun σ1 h => ?_)
    refine g_aload_n C dX1_loseWhatLiesIn_28 rfl rfl rfl ?_
    refine g_iload_n C dX1_loseWhatLiesIn_29 rfl rfl rfl ?_
    refine k_X1_86 C dX1_loseWhatLiesIn_30 (Nat.le_of_ble_eq_true rfl) (by decide) rfl rfl h (fun σ2 h => ?_)
    refine g_aload_n C dX1_loseWhatLiesIn_33 rfl rfl rfl ?_
    refine f_X1_25 C dX1_loseWhatLiesIn_34 rfl ?_
    refine g_iload_n C dX1_loseWhatLiesIn_37 rfl rfl rfl ?_
    obtain ⟨hin, h⟩ := h
    refine g_ild C dX1_loseWhatLiesIn_38 arr_5 hin rfl ?_
    exact g_iret C dX1_loseWhatLiesIn_39 D h
  · have h := h.2 q
    refine g_sipush C dX1_loseWhatLiesIn_11 sp_10000 rfl ?_
    exact g_iret C dX1_loseWhatLiesIn_14 D h
theorem hd_X1_loseWhatLiesIn : yX1_loseWhatLiesIn.cls ≠ "java/lang/invoke/MethodHandle" ∧ yX1_loseWhatLiesIn.cls ≠ "java/lang/invoke/VarHandle" ∧ (parseMethodDescriptor yX1_loseWhatLiesIn.desc).map (fun d => d.parameters.length) = some 1 := by decide +kernel
theorem k_X1_93 {V : EV} {X : CX} {cc : ByteArray} {nL : Nat} {R : Room} {y1 : Int32} (C : OK V X RX1 cc nL R) {σ : Mem} {pc pc' : Nat} {L : List (Option Value)} {st : List Value} {P : Int32 → Mem → Prop} (d : decode cc pc = .ok (.invokevirtual 93, 3)) (hst : (st.map fun v => v.category).sum ≤ 8) (hr : 1 + 1 ≤ R.frames ∧ 8 + (3 + 11) + 22 ≤ R.locals) (hL : L.length = nL) (hp : pc + 3 = pc') (h : wp_X1_loseWhatLiesIn σ y1 P) (k : ∀ r τ, P r τ → GG V X τ pc' L (.int r :: st)) : GG V X σ pc L (.int y1 :: .ref (ad V 0) :: st) :=
  g_callVi C (av := [.int y1]) (fun l => c_X1_loseWhatLiesIn V σ y1 P l) (by decide) (en_0 V σ) (q := (RX1, TX1, 17)) rfl rfl ml_RX1_93 im_X1_loseWhatLiesIn se_X1_loseWhatLiesIn ini_RX1 co_X1_loseWhatLiesIn hd_X1_loseWhatLiesIn rfl ⟨rfl, rfl⟩ hr hst d hL hp h k

theorem dX1_meetHardError_0 : decode cX1_meetHardError 0 = .ok (.aload_n 0, 1) := by decide +kernel
theorem dX1_meetHardError_1 : decode cX1_meetHardError 1 = .ok (.getfield 9, 3) := by decide +kernel
theorem dX1_meetHardError_4 : decode cX1_meetHardError 4 = .ok (.iload_n 1, 1) := by decide +kernel
theorem dX1_meetHardError_5 : decode cX1_meetHardError 5 = .ok (.baload, 1) := by decide +kernel
theorem dX1_meetHardError_6 : decode cX1_meetHardError 6 = .ok (.ifCond .eq 6, 3) := by decide +kernel
theorem dX1_meetHardError_9 : decode cX1_meetHardError 9 = .ok (.bipush (-4), 2) := by decide +kernel
theorem dX1_meetHardError_11 : decode cX1_meetHardError 11 = .ok (.ireturn, 1) := by decide +kernel
theorem dX1_meetHardError_12 : decode cX1_meetHardError 12 = .ok (.aload_n 0, 1) := by decide +kernel
theorem dX1_meetHardError_13 : decode cX1_meetHardError 13 = .ok (.dup, 1) := by decide +kernel
theorem dX1_meetHardError_14 : decode cX1_meetHardError 14 = .ok (.getfield 65, 3) := by decide +kernel
theorem dX1_meetHardError_17 : decode cX1_meetHardError 17 = .ok (.iconst 1, 1) := by decide +kernel
theorem dX1_meetHardError_18 : decode cX1_meetHardError 18 = .ok (.iadd, 1) := by decide +kernel
theorem dX1_meetHardError_19 : decode cX1_meetHardError 19 = .ok (.putfield 65, 3) := by decide +kernel
theorem dX1_meetHardError_22 : decode cX1_meetHardError 22 = .ok (.aload_n 0, 1) := by decide +kernel
theorem dX1_meetHardError_23 : decode cX1_meetHardError 23 = .ok (.iload_n 1, 1) := by decide +kernel
theorem dX1_meetHardError_24 : decode cX1_meetHardError 24 = .ok (.invokevirtual 93, 3) := by decide +kernel
theorem dX1_meetHardError_27 : decode cX1_meetHardError 27 = .ok (.istore_n 2, 1) := by decide +kernel
theorem dX1_meetHardError_28 : decode cX1_meetHardError 28 = .ok (.aload_n 0, 1) := by decide +kernel
theorem dX1_meetHardError_29 : decode cX1_meetHardError 29 = .ok (.iload_n 1, 1) := by decide +kernel
theorem dX1_meetHardError_30 : decode cX1_meetHardError 30 = .ok (.invokevirtual 97, 3) := by decide +kernel
theorem dX1_meetHardError_33 : decode cX1_meetHardError 33 = .ok (.aload_n 0, 1) := by decide +kernel
theorem dX1_meetHardError_34 : decode cX1_meetHardError 34 = .ok (.invokevirtual 83, 3) := by decide +kernel
theorem dX1_meetHardError_37 : decode cX1_meetHardError 37 = .ok (.pop, 1) := by decide +kernel
theorem dX1_meetHardError_38 : decode cX1_meetHardError 38 = .ok (.iload_n 2, 1) := by decide +kernel
theorem dX1_meetHardError_39 : decode cX1_meetHardError 39 = .ok (.ireturn, 1) := by decide +kernel
def wp_X1_meetHardError (σ : Mem) (y1 : Int32) (P : Int32 → Mem → Prop) : Prop :=
  vp_in y1 40 ∧ (((σ 1 y1.toNatClampNeg) = 0 →
    bm (up2 σ 0 15 ((σ 0 15) + 1)) (fun σ1 =>
      wp_X1_loseWhatLiesIn σ1 y1 (fun r2 σ3 =>
      wp_X1_retire σ3 y1 (fun σ4 =>
      wp_X1_retireWhatCan σ4  (fun r5 σ6 =>
      P r2 σ6))))) ∧
    (¬ (σ 1 y1.toNatClampNeg) = 0 →
    P (-4) σ))
set_option maxRecDepth 100000 in
set_option maxHeartbeats 4000000 in
theorem c_X1_meetHardError (V : EV) (σ : Mem) (y1 : Int32) (P : Int32 → Mem → Prop) (l : Launch) : Met l yX1_meetHardError (.code yX1_meetHardError cX1_meetHardError 3 (some .int) :: AW) { frames := 4, cells := 0, slots := 0, locals := 91 } (va_Pc [.ref (ad V 0), .int y1] (fun U => wP V σ U ∧ wp_X1_meetHardError σ y1 P)) (va_Qi P (wB V) (AA V)) 0 0 (AA V) := by
  refine met_i V σ (own := RX1) (by decide +kernel) rfl (fun v hv => by simp at hv; rcases hv with rfl | rfl <;> rfl) (Nat.le_of_ble_eq_true rfl) (fun X C D h => ?_) l
  show GG V X σ 0 [some (.ref (ad V 0)), some (.int y1), none] []
  refine g_aload_n C dX1_meetHardError_0 rfl rfl rfl ?_
  refine f_X1_9 C dX1_meetHardError_1 rfl ?_
  refine g_iload_n C dX1_meetHardError_4 rfl rfl rfl ?_
  obtain ⟨hin, h⟩ := h
  refine g_zld C dX1_meetHardError_5 arr_1 hin rfl ?_
  refine g_if_eq C dX1_meetHardError_6 (tgt := 12) rfl rfl (fun q => ?_) (fun q => ?_)
  · have h := h.1 q
    refine g_aload_n C dX1_meetHardError_12 rfl rfl rfl ?_
    refine g_dup C dX1_meetHardError_13 rfl rfl ?_
    refine f_X1_65 C dX1_meetHardError_14 rfl ?_
    refine g_iconst C dX1_meetHardError_17 ic_1 rfl ?_
    refine g_iadd C dX1_meetHardError_18 rfl ?_
    refine p_X1_65 C dX1_meetHardError_19 rfl h (fun σ1 h => ?_)
    refine g_aload_n C dX1_meetHardError_22 rfl rfl rfl ?_
    refine g_iload_n C dX1_meetHardError_23 rfl rfl rfl ?_
    refine k_X1_93 C dX1_meetHardError_24 (Nat.le_of_ble_eq_true rfl) (by decide) rfl rfl h (fun r2 σ3 h => ?_)
    refine g_istore_n C dX1_meetHardError_27 rfl (Nat.le_of_ble_eq_true rfl) (L' := [some (.ref (ad V 0)), some (.int y1), some (.int r2)]) rfl rfl ?_
    refine g_aload_n C dX1_meetHardError_28 rfl rfl rfl ?_
    refine g_iload_n C dX1_meetHardError_29 rfl rfl rfl ?_
    refine k_X1_97 C dX1_meetHardError_30 (Nat.le_of_ble_eq_true rfl) (by decide) rfl rfl h (fun σ4 h => ?_)
    refine g_aload_n C dX1_meetHardError_33 rfl rfl rfl ?_
    refine k_X1_83 C dX1_meetHardError_34 (Nat.le_of_ble_eq_true rfl) (by decide) rfl rfl h (fun r5 σ6 h => ?_)
    refine g_pop C dX1_meetHardError_37 rfl rfl ?_
    refine g_iload_n C dX1_meetHardError_38 rfl rfl rfl ?_
    exact g_iret C dX1_meetHardError_39 D h
  · have h := h.2 q
    refine g_bipush C dX1_meetHardError_9 bp_m4 rfl ?_
    exact g_iret C dX1_meetHardError_11 D h
theorem hd_X1_meetHardError : yX1_meetHardError.cls ≠ "java/lang/invoke/MethodHandle" ∧ yX1_meetHardError.cls ≠ "java/lang/invoke/VarHandle" ∧ (parseMethodDescriptor yX1_meetHardError.desc).map (fun d => d.parameters.length) = some 1 := by decide +kernel
theorem k_X4_93 {V : EV} {X : CX} {cc : ByteArray} {nL : Nat} {R : Room} {y1 : Int32} (C : OK V X RX4 cc nL R) {σ : Mem} {pc pc' : Nat} {L : List (Option Value)} {st : List Value} {P : Int32 → Mem → Prop} (d : decode cc pc = .ok (.invokevirtual 93, 3)) (hst : (st.map fun v => v.category).sum ≤ 8) (hr : 4 + 1 ≤ R.frames ∧ 8 + (3 + 11) + 91 ≤ R.locals) (hL : L.length = nL) (hp : pc + 3 = pc') (h : wp_X1_meetHardError σ y1 P) (k : ∀ r τ, P r τ → GG V X τ pc' L (.int r :: st)) : GG V X σ pc L (.int y1 :: .ref (ad V 0) :: st) :=
  g_callVi C (av := [.int y1]) (fun l => c_X1_meetHardError V σ y1 P l) (by decide) (en_0 V σ) (q := (RX1, TX1, 17)) rfl rfl ml_RX4_93 im_X1_meetHardError se_X1_meetHardError ini_RX1 co_X1_meetHardError hd_X1_meetHardError rfl ⟨rfl, rfl⟩ hr hst d hL hp h k

theorem dX1_placeOnList_0 : decode cX1_placeOnList 0 = .ok (.iconst 0, 1) := by decide +kernel
theorem dX1_placeOnList_1 : decode cX1_placeOnList 1 = .ok (.istore_n 2, 1) := by decide +kernel
theorem dX1_placeOnList_2 : decode cX1_placeOnList 2 = .ok (.iload_n 2, 1) := by decide +kernel
theorem dX1_placeOnList_3 : decode cX1_placeOnList 3 = .ok (.aload_n 0, 1) := by decide +kernel
theorem dX1_placeOnList_4 : decode cX1_placeOnList 4 = .ok (.getfield 56, 3) := by decide +kernel
theorem dX1_placeOnList_7 : decode cX1_placeOnList 7 = .ok (.if_icmp .ge 21, 3) := by decide +kernel
theorem dX1_placeOnList_10 : decode cX1_placeOnList 10 = .ok (.aload_n 0, 1) := by decide +kernel
theorem dX1_placeOnList_11 : decode cX1_placeOnList 11 = .ok (.getfield 40, 3) := by decide +kernel
theorem dX1_placeOnList_14 : decode cX1_placeOnList 14 = .ok (.iload_n 2, 1) := by decide +kernel
theorem dX1_placeOnList_15 : decode cX1_placeOnList 15 = .ok (.iaload, 1) := by decide +kernel
theorem dX1_placeOnList_16 : decode cX1_placeOnList 16 = .ok (.iload_n 1, 1) := by decide +kernel
theorem dX1_placeOnList_17 : decode cX1_placeOnList 17 = .ok (.if_icmp .ne 5, 3) := by decide +kernel
theorem dX1_placeOnList_20 : decode cX1_placeOnList 20 = .ok (.iload_n 2, 1) := by decide +kernel
theorem dX1_placeOnList_21 : decode cX1_placeOnList 21 = .ok (.ireturn, 1) := by decide +kernel
theorem dX1_placeOnList_22 : decode cX1_placeOnList 22 = .ok (.iinc 2 1, 3) := by decide +kernel
theorem dX1_placeOnList_25 : decode cX1_placeOnList 25 = .ok (.goto (-23), 3) := by decide +kernel
theorem dX1_placeOnList_28 : decode cX1_placeOnList 28 = .ok (.bipush (-5), 2) := by decide +kernel
theorem dX1_placeOnList_30 : decode cX1_placeOnList 30 = .ok (.ireturn, 1) := by decide +kernel
def wp_X1_placeOnList (σ : Mem) (y1 : Int32) (P : Int32 → Prop) : Prop :=
  lq1 (fun rec2 (x1 : Int32) =>
    (((σ 0 10) ≤ x1 →
      P (-5)) ∧
      (¬ (σ 0 10) ≤ x1 →
      vp_in x1 12 ∧ (((σ 10 x1.toNatClampNeg) = y1 →
        P x1) ∧
        (¬ (σ 10 x1.toNatClampNeg) = y1 →
        rec2 (x1 + 1)))))) 0
set_option maxRecDepth 100000 in
set_option maxHeartbeats 4000000 in
theorem c_X1_placeOnList (V : EV) (σ : Mem) (y1 : Int32) (P : Int32 → Prop) (l : Launch) : Met l yX1_placeOnList (.code yX1_placeOnList cX1_placeOnList 3 (some .int) :: AW) { frames := 0, cells := 0, slots := 0, locals := 0 } (va_Pc [.ref (ad V 0), .int y1] (fun U => wP V σ U ∧ wp_X1_placeOnList σ y1 P)) (va_Qi (fun r τ => τ = σ ∧ P r) (wB V) (AA V)) 0 0 (AA V) := by
  refine met_i V σ (own := RX1) (by decide +kernel) rfl (fun v hv => by simp at hv; rcases hv with rfl | rfl <;> rfl) (Nat.le_of_ble_eq_true rfl) (fun X C D h => ?_) l
  show GG V X σ 0 [some (.ref (ad V 0)), some (.int y1), none] []
  refine g_iconst C dX1_placeOnList_0 ic_0 rfl ?_
  refine g_istore_n C dX1_placeOnList_1 rfl (Nat.le_of_ble_eq_true rfl) (L' := [some (.ref (ad V 0)), some (.int y1), some (.int 0)]) rfl rfl ?_
  refine h (fun (x1 : Int32) => GG V X σ 2 [some (.ref (ad V 0)), some (.int y1), some (.int x1)] []) (fun x1 h => ?_)
  refine g_iload_n C dX1_placeOnList_2 rfl rfl rfl ?_
  refine g_aload_n C dX1_placeOnList_3 rfl rfl rfl ?_
  refine f_X1_56 C dX1_placeOnList_4 rfl ?_
  refine g_icmp_ge C dX1_placeOnList_7 (tgt := 28) rfl rfl (fun q => ?_) (fun q => ?_)
  · have h := h.1 q
    refine g_bipush C dX1_placeOnList_28 bp_m5 rfl ?_
    exact g_iret C dX1_placeOnList_30 D ⟨rfl, h⟩
  · have h := h.2 q
    refine g_aload_n C dX1_placeOnList_10 rfl rfl rfl ?_
    refine f_X1_40 C dX1_placeOnList_11 rfl ?_
    refine g_iload_n C dX1_placeOnList_14 rfl rfl rfl ?_
    obtain ⟨hin, h⟩ := h
    refine g_ild C dX1_placeOnList_15 arr_10 hin rfl ?_
    refine g_iload_n C dX1_placeOnList_16 rfl rfl rfl ?_
    refine g_icmp_ne C dX1_placeOnList_17 (tgt := 22) rfl rfl (fun q => ?_) (fun q => ?_)
    · have h := h.2 q
      refine g_iinc C dX1_placeOnList_22 (v := x1 + 1) (by rw [ic_1]) rfl (Nat.le_of_ble_eq_true rfl) (L' := [some (.ref (ad V 0)), some (.int y1), some (.int (x1 + 1))]) rfl rfl ?_
      refine g_goto C dX1_placeOnList_25 (pc' := 2) rfl ?_
      exact h
    · have h := h.1 q
      refine g_iload_n C dX1_placeOnList_20 rfl rfl rfl ?_
      exact g_iret C dX1_placeOnList_21 D ⟨rfl, h⟩
theorem hd_X1_placeOnList : yX1_placeOnList.cls ≠ "java/lang/invoke/MethodHandle" ∧ yX1_placeOnList.cls ≠ "java/lang/invoke/VarHandle" ∧ (parseMethodDescriptor yX1_placeOnList.desc).map (fun d => d.parameters.length) = some 1 := by decide +kernel
theorem k_X1_100 {V : EV} {X : CX} {cc : ByteArray} {nL : Nat} {R : Room} {y1 : Int32} (C : OK V X RX1 cc nL R) {σ : Mem} {pc pc' : Nat} {L : List (Option Value)} {st : List Value} {P : Int32 → Prop} (d : decode cc pc = .ok (.invokevirtual 100, 3)) (hst : (st.map fun v => v.category).sum ≤ 8) (hr : 0 + 1 ≤ R.frames ∧ 8 + (3 + 11) + 0 ≤ R.locals) (hL : L.length = nL) (hp : pc + 3 = pc') (h : wp_X1_placeOnList σ y1 P) (k : ∀ r, P r → GG V X σ pc' L (.int r :: st)) : GG V X σ pc L (.int y1 :: .ref (ad V 0) :: st) :=
  g_callVi C (av := [.int y1]) (fun l => c_X1_placeOnList V σ y1 P l) (by decide) (en_0 V σ) (q := (RX1, TX1, 17)) rfl rfl ml_RX1_100 im_X1_placeOnList se_X1_placeOnList ini_RX1 co_X1_placeOnList hd_X1_placeOnList rfl ⟨rfl, rfl⟩ hr hst d hL hp h (fun r τ hq => by obtain ⟨rfl, hq⟩ := hq; exact k r hq)

theorem dX1_howCellIs_0 : decode cX1_howCellIs 0 = .ok (.aload_n 0, 1) := by decide +kernel
theorem dX1_howCellIs_1 : decode cX1_howCellIs 1 = .ok (.getfield 9, 3) := by decide +kernel
theorem dX1_howCellIs_4 : decode cX1_howCellIs 4 = .ok (.iload_n 1, 1) := by decide +kernel
theorem dX1_howCellIs_5 : decode cX1_howCellIs 5 = .ok (.baload, 1) := by decide +kernel
theorem dX1_howCellIs_6 : decode cX1_howCellIs 6 = .ok (.ifCond .eq 5, 3) := by decide +kernel
theorem dX1_howCellIs_9 : decode cX1_howCellIs 9 = .ok (.iconst 2, 1) := by decide +kernel
theorem dX1_howCellIs_10 : decode cX1_howCellIs 10 = .ok (.ireturn, 1) := by decide +kernel
theorem dX1_howCellIs_11 : decode cX1_howCellIs 11 = .ok (.aload_n 0, 1) := by decide +kernel
theorem dX1_howCellIs_12 : decode cX1_howCellIs 12 = .ok (.getfield 19, 3) := by decide +kernel
theorem dX1_howCellIs_15 : decode cX1_howCellIs 15 = .ok (.iload_n 1, 1) := by decide +kernel
theorem dX1_howCellIs_16 : decode cX1_howCellIs 16 = .ok (.iaload, 1) := by decide +kernel
theorem dX1_howCellIs_17 : decode cX1_howCellIs 17 = .ok (.ifCond .ge 7, 3) := by decide +kernel
theorem dX1_howCellIs_20 : decode cX1_howCellIs 20 = .ok (.iconst 0, 1) := by decide +kernel
theorem dX1_howCellIs_21 : decode cX1_howCellIs 21 = .ok (.goto 4, 3) := by decide +kernel
theorem dX1_howCellIs_24 : decode cX1_howCellIs 24 = .ok (.iconst 1, 1) := by decide +kernel
theorem dX1_howCellIs_25 : decode cX1_howCellIs 25 = .ok (.ireturn, 1) := by decide +kernel
def wp_X1_howCellIs (σ : Mem) (y1 : Int32) (P : Int32 → Prop) : Prop :=
  vp_in y1 40 ∧ (((σ 1 y1.toNatClampNeg) = 0 →
    vp_in y1 40 ∧ ((0 ≤ (σ 3 y1.toNatClampNeg) →
      P 1) ∧
      (¬ 0 ≤ (σ 3 y1.toNatClampNeg) →
      P 0))) ∧
    (¬ (σ 1 y1.toNatClampNeg) = 0 →
    P 2))
set_option maxRecDepth 100000 in
set_option maxHeartbeats 4000000 in
theorem c_X1_howCellIs (V : EV) (σ : Mem) (y1 : Int32) (P : Int32 → Prop) (l : Launch) : Met l yX1_howCellIs (.code yX1_howCellIs cX1_howCellIs 2 (some .int) :: AW) { frames := 0, cells := 0, slots := 0, locals := 0 } (va_Pc [.ref (ad V 0), .int y1] (fun U => wP V σ U ∧ wp_X1_howCellIs σ y1 P)) (va_Qi (fun r τ => τ = σ ∧ P r) (wB V) (AA V)) 0 0 (AA V) := by
  refine met_i V σ (own := RX1) (by decide +kernel) rfl (fun v hv => by simp at hv; rcases hv with rfl | rfl <;> rfl) (Nat.le_of_ble_eq_true rfl) (fun X C D h => ?_) l
  show GG V X σ 0 [some (.ref (ad V 0)), some (.int y1)] []
  refine g_aload_n C dX1_howCellIs_0 rfl rfl rfl ?_
  refine f_X1_9 C dX1_howCellIs_1 rfl ?_
  refine g_iload_n C dX1_howCellIs_4 rfl rfl rfl ?_
  obtain ⟨hin, h⟩ := h
  refine g_zld C dX1_howCellIs_5 arr_1 hin rfl ?_
  refine g_if_eq C dX1_howCellIs_6 (tgt := 11) rfl rfl (fun q => ?_) (fun q => ?_)
  · have h := h.1 q
    refine g_aload_n C dX1_howCellIs_11 rfl rfl rfl ?_
    refine f_X1_19 C dX1_howCellIs_12 rfl ?_
    refine g_iload_n C dX1_howCellIs_15 rfl rfl rfl ?_
    obtain ⟨hin, h⟩ := h
    refine g_ild C dX1_howCellIs_16 arr_3 hin rfl ?_
    refine g_if_ge C dX1_howCellIs_17 (tgt := 24) rfl rfl (fun q => ?_) (fun q => ?_)
    · have h := h.1 q
      refine g_iconst C dX1_howCellIs_24 ic_1 rfl ?_
      exact g_iret C dX1_howCellIs_25 D ⟨rfl, h⟩
    · have h := h.2 q
      refine g_iconst C dX1_howCellIs_20 ic_0 rfl ?_
      refine g_goto C dX1_howCellIs_21 (pc' := 25) rfl ?_
      exact g_iret C dX1_howCellIs_25 D ⟨rfl, h⟩
  · have h := h.2 q
    refine g_iconst C dX1_howCellIs_9 ic_2 rfl ?_
    exact g_iret C dX1_howCellIs_10 D ⟨rfl, h⟩
theorem hd_X1_howCellIs : yX1_howCellIs.cls ≠ "java/lang/invoke/MethodHandle" ∧ yX1_howCellIs.cls ≠ "java/lang/invoke/VarHandle" ∧ (parseMethodDescriptor yX1_howCellIs.desc).map (fun d => d.parameters.length) = some 1 := by decide +kernel
theorem k_X1_134 {V : EV} {X : CX} {cc : ByteArray} {nL : Nat} {R : Room} {y1 : Int32} (C : OK V X RX1 cc nL R) {σ : Mem} {pc pc' : Nat} {L : List (Option Value)} {st : List Value} {P : Int32 → Prop} (d : decode cc pc = .ok (.invokevirtual 134, 3)) (hst : (st.map fun v => v.category).sum ≤ 8) (hr : 0 + 1 ≤ R.frames ∧ 8 + (2 + 11) + 0 ≤ R.locals) (hL : L.length = nL) (hp : pc + 3 = pc') (h : wp_X1_howCellIs σ y1 P) (k : ∀ r, P r → GG V X σ pc' L (.int r :: st)) : GG V X σ pc L (.int y1 :: .ref (ad V 0) :: st) :=
  g_callVi C (av := [.int y1]) (fun l => c_X1_howCellIs V σ y1 P l) (by decide) (en_0 V σ) (q := (RX1, TX1, 17)) rfl rfl ml_RX1_134 im_X1_howCellIs se_X1_howCellIs ini_RX1 co_X1_howCellIs hd_X1_howCellIs rfl ⟨rfl, rfl⟩ hr hst d hL hp h (fun r τ hq => by obtain ⟨rfl, hq⟩ := hq; exact k r hq)

theorem dX1_cellsThatAre_0 : decode cX1_cellsThatAre 0 = .ok (.iconst 0, 1) := by decide +kernel
theorem dX1_cellsThatAre_1 : decode cX1_cellsThatAre 1 = .ok (.istore_n 2, 1) := by decide +kernel
theorem dX1_cellsThatAre_2 : decode cX1_cellsThatAre 2 = .ok (.iconst 0, 1) := by decide +kernel
theorem dX1_cellsThatAre_3 : decode cX1_cellsThatAre 3 = .ok (.istore_n 3, 1) := by decide +kernel
theorem dX1_cellsThatAre_4 : decode cX1_cellsThatAre 4 = .ok (.iload_n 3, 1) := by decide +kernel
theorem dX1_cellsThatAre_5 : decode cX1_cellsThatAre 5 = .ok (.bipush 40, 2) := by decide +kernel
theorem dX1_cellsThatAre_7 : decode cX1_cellsThatAre 7 = .ok (.if_icmp .ge 21, 3) := by decide +kernel
theorem dX1_cellsThatAre_10 : decode cX1_cellsThatAre 10 = .ok (.aload_n 0, 1) := by decide +kernel
theorem dX1_cellsThatAre_11 : decode cX1_cellsThatAre 11 = .ok (.iload_n 3, 1) := by decide +kernel
theorem dX1_cellsThatAre_12 : decode cX1_cellsThatAre 12 = .ok (.invokevirtual 134, 3) := by decide +kernel
theorem dX1_cellsThatAre_15 : decode cX1_cellsThatAre 15 = .ok (.iload_n 1, 1) := by decide +kernel
theorem dX1_cellsThatAre_16 : decode cX1_cellsThatAre 16 = .ok (.if_icmp .ne 6, 3) := by decide +kernel
theorem dX1_cellsThatAre_19 : decode cX1_cellsThatAre 19 = .ok (.iinc 2 1, 3) := by decide +kernel
theorem dX1_cellsThatAre_22 : decode cX1_cellsThatAre 22 = .ok (.iinc 3 1, 3) := by decide +kernel
theorem dX1_cellsThatAre_25 : decode cX1_cellsThatAre 25 = .ok (.goto (-21), 3) := by decide +kernel
theorem dX1_cellsThatAre_28 : decode cX1_cellsThatAre 28 = .ok (.iload_n 2, 1) := by decide +kernel
theorem dX1_cellsThatAre_29 : decode cX1_cellsThatAre 29 = .ok (.ireturn, 1) := by decide +kernel
def wp_X1_cellsThatAre (σ : Mem) (y1 : Int32) (P : Int32 → Prop) : Prop :=
  lq2 (fun rec3 (x1 : Int32) (x2 : Int32) =>
    ((40 ≤ x2 →
      P x1) ∧
      (¬ 40 ≤ x2 →
      wp_X1_howCellIs σ x2 (fun r4 =>
        ((r4 = y1 →
        rec3 (x1 + 1) (x2 + 1)) ∧
        (¬ r4 = y1 →
        rec3 x1 (x2 + 1))))))) 0 0
set_option maxRecDepth 100000 in
set_option maxHeartbeats 4000000 in
theorem c_X1_cellsThatAre (V : EV) (σ : Mem) (y1 : Int32) (P : Int32 → Prop) (l : Launch) : Met l yX1_cellsThatAre (.code yX1_cellsThatAre cX1_cellsThatAre 4 (some .int) :: AW) { frames := 1, cells := 0, slots := 0, locals := 21 } (va_Pc [.ref (ad V 0), .int y1] (fun U => wP V σ U ∧ wp_X1_cellsThatAre σ y1 P)) (va_Qi (fun r τ => τ = σ ∧ P r) (wB V) (AA V)) 0 0 (AA V) := by
  refine met_i V σ (own := RX1) (by decide +kernel) rfl (fun v hv => by simp at hv; rcases hv with rfl | rfl <;> rfl) (Nat.le_of_ble_eq_true rfl) (fun X C D h => ?_) l
  show GG V X σ 0 [some (.ref (ad V 0)), some (.int y1), none, none] []
  refine g_iconst C dX1_cellsThatAre_0 ic_0 rfl ?_
  refine g_istore_n C dX1_cellsThatAre_1 rfl (Nat.le_of_ble_eq_true rfl) (L' := [some (.ref (ad V 0)), some (.int y1), some (.int 0), none]) rfl rfl ?_
  refine g_iconst C dX1_cellsThatAre_2 ic_0 rfl ?_
  refine g_istore_n C dX1_cellsThatAre_3 rfl (Nat.le_of_ble_eq_true rfl) (L' := [some (.ref (ad V 0)), some (.int y1), some (.int 0), some (.int 0)]) rfl rfl ?_
  refine h (fun (x1 : Int32) (x2 : Int32) => GG V X σ 4 [some (.ref (ad V 0)), some (.int y1), some (.int x1), some (.int x2)] []) (fun x1 x2 h => ?_)
  refine g_iload_n C dX1_cellsThatAre_4 rfl rfl rfl ?_
  refine g_bipush C dX1_cellsThatAre_5 bp_40 rfl ?_
  refine g_icmp_ge C dX1_cellsThatAre_7 (tgt := 28) rfl rfl (fun q => ?_) (fun q => ?_)
  · have h := h.1 q
    refine g_iload_n C dX1_cellsThatAre_28 rfl rfl rfl ?_
    exact g_iret C dX1_cellsThatAre_29 D ⟨rfl, h⟩
  · have h := h.2 q
    refine g_aload_n C dX1_cellsThatAre_10 rfl rfl rfl ?_
    refine g_iload_n C dX1_cellsThatAre_11 rfl rfl rfl ?_
    refine k_X1_134 C dX1_cellsThatAre_12 (Nat.le_of_ble_eq_true rfl) (by decide) rfl rfl h (fun r4 h => ?_)
    refine g_iload_n C dX1_cellsThatAre_15 rfl rfl rfl ?_
    refine g_icmp_ne C dX1_cellsThatAre_16 (tgt := 22) rfl rfl (fun q => ?_) (fun q => ?_)
    · have h := h.2 q
      refine g_iinc C dX1_cellsThatAre_22 (v := x2 + 1) (by rw [ic_1]) rfl (Nat.le_of_ble_eq_true rfl) (L' := [some (.ref (ad V 0)), some (.int y1), some (.int x1), some (.int (x2 + 1))]) rfl rfl ?_
      refine g_goto C dX1_cellsThatAre_25 (pc' := 4) rfl ?_
      exact h
    · have h := h.1 q
      refine g_iinc C dX1_cellsThatAre_19 (v := x1 + 1) (by rw [ic_1]) rfl (Nat.le_of_ble_eq_true rfl) (L' := [some (.ref (ad V 0)), some (.int y1), some (.int (x1 + 1)), some (.int x2)]) rfl rfl ?_
      refine g_iinc C dX1_cellsThatAre_22 (v := x2 + 1) (by rw [ic_1]) rfl (Nat.le_of_ble_eq_true rfl) (L' := [some (.ref (ad V 0)), some (.int y1), some (.int (x1 + 1)), some (.int (x2 + 1))]) rfl rfl ?_
      refine g_goto C dX1_cellsThatAre_25 (pc' := 4) rfl ?_
      exact h
theorem hd_X1_cellsThatAre : yX1_cellsThatAre.cls ≠ "java/lang/invoke/MethodHandle" ∧ yX1_cellsThatAre.cls ≠ "java/lang/invoke/VarHandle" ∧ (parseMethodDescriptor yX1_cellsThatAre.desc).map (fun d => d.parameters.length) = some 1 := by decide +kernel
theorem k_X1_150 {V : EV} {X : CX} {cc : ByteArray} {nL : Nat} {R : Room} {y1 : Int32} (C : OK V X RX1 cc nL R) {σ : Mem} {pc pc' : Nat} {L : List (Option Value)} {st : List Value} {P : Int32 → Prop} (d : decode cc pc = .ok (.invokevirtual 150, 3)) (hst : (st.map fun v => v.category).sum ≤ 8) (hr : 1 + 1 ≤ R.frames ∧ 8 + (4 + 11) + 21 ≤ R.locals) (hL : L.length = nL) (hp : pc + 3 = pc') (h : wp_X1_cellsThatAre σ y1 P) (k : ∀ r, P r → GG V X σ pc' L (.int r :: st)) : GG V X σ pc L (.int y1 :: .ref (ad V 0) :: st) :=
  g_callVi C (av := [.int y1]) (fun l => c_X1_cellsThatAre V σ y1 P l) (by decide) (en_0 V σ) (q := (RX1, TX1, 17)) rfl rfl ml_RX1_150 im_X1_cellsThatAre se_X1_cellsThatAre ini_RX1 co_X1_cellsThatAre hd_X1_cellsThatAre rfl ⟨rfl, rfl⟩ hr hst d hL hp h (fun r τ hq => by obtain ⟨rfl, hq⟩ := hq; exact k r hq)

theorem dX1_freeCells_0 : decode cX1_freeCells 0 = .ok (.aload_n 0, 1) := by decide +kernel
theorem dX1_freeCells_1 : decode cX1_freeCells 1 = .ok (.iconst 0, 1) := by decide +kernel
theorem dX1_freeCells_2 : decode cX1_freeCells 2 = .ok (.invokevirtual 150, 3) := by decide +kernel
theorem dX1_freeCells_5 : decode cX1_freeCells 5 = .ok (.ireturn, 1) := by decide +kernel
def wp_X1_freeCells (σ : Mem) (P : Int32 → Prop) : Prop :=
  wp_X1_cellsThatAre σ 0 (fun r1 =>
    P r1)
set_option maxRecDepth 100000 in
set_option maxHeartbeats 4000000 in
theorem c_X1_freeCells (V : EV) (σ : Mem) (P : Int32 → Prop) (l : Launch) : Met l yX1_freeCells (.code yX1_freeCells cX1_freeCells 1 (some .int) :: AW) { frames := 2, cells := 0, slots := 0, locals := 44 } (va_Pc [.ref (ad V 0)] (fun U => wP V σ U ∧ wp_X1_freeCells σ P)) (va_Qi (fun r τ => τ = σ ∧ P r) (wB V) (AA V)) 0 0 (AA V) := by
  refine met_i V σ (own := RX1) (by decide +kernel) rfl (fun v hv => by simp at hv; subst hv; rfl) (Nat.le_of_ble_eq_true rfl) (fun X C D h => ?_) l
  show GG V X σ 0 [some (.ref (ad V 0))] []
  refine g_aload_n C dX1_freeCells_0 rfl rfl rfl ?_
  refine g_iconst C dX1_freeCells_1 ic_0 rfl ?_
  refine k_X1_150 C dX1_freeCells_2 (Nat.le_of_ble_eq_true rfl) (by decide) rfl rfl h (fun r1 h => ?_)
  exact g_iret C dX1_freeCells_5 D ⟨rfl, h⟩
theorem hd_X1_freeCells : yX1_freeCells.cls ≠ "java/lang/invoke/MethodHandle" ∧ yX1_freeCells.cls ≠ "java/lang/invoke/VarHandle" ∧ (parseMethodDescriptor yX1_freeCells.desc).map (fun d => d.parameters.length) = some 0 := by decide +kernel
theorem k_X1_103 {V : EV} {X : CX} {cc : ByteArray} {nL : Nat} {R : Room} (C : OK V X RX1 cc nL R) {σ : Mem} {pc pc' : Nat} {L : List (Option Value)} {st : List Value} {P : Int32 → Prop} (d : decode cc pc = .ok (.invokevirtual 103, 3)) (hst : (st.map fun v => v.category).sum ≤ 8) (hr : 2 + 1 ≤ R.frames ∧ 8 + (1 + 11) + 44 ≤ R.locals) (hL : L.length = nL) (hp : pc + 3 = pc') (h : wp_X1_freeCells σ P) (k : ∀ r, P r → GG V X σ pc' L (.int r :: st)) : GG V X σ pc L (.ref (ad V 0) :: st) :=
  g_callVi C (av := []) (fun l => c_X1_freeCells V σ P l) (by decide) (en_0 V σ) (q := (RX1, TX1, 17)) rfl rfl ml_RX1_103 im_X1_freeCells se_X1_freeCells ini_RX1 co_X1_freeCells hd_X1_freeCells rfl ⟨rfl, rfl⟩ hr hst d hL hp h (fun r τ hq => by obtain ⟨rfl, hq⟩ := hq; exact k r hq)

theorem dX1_startAnew_0 : decode cX1_startAnew 0 = .ok (.aload_n 0, 1) := by decide +kernel
theorem dX1_startAnew_1 : decode cX1_startAnew 1 = .ok (.dup, 1) := by decide +kernel
theorem dX1_startAnew_2 : decode cX1_startAnew 2 = .ok (.getfield 68, 3) := by decide +kernel
theorem dX1_startAnew_5 : decode cX1_startAnew 5 = .ok (.iconst 1, 1) := by decide +kernel
theorem dX1_startAnew_6 : decode cX1_startAnew 6 = .ok (.iadd, 1) := by decide +kernel
theorem dX1_startAnew_7 : decode cX1_startAnew 7 = .ok (.putfield 68, 3) := by decide +kernel
theorem dX1_startAnew_10 : decode cX1_startAnew 10 = .ok (.iconst 0, 1) := by decide +kernel
theorem dX1_startAnew_11 : decode cX1_startAnew 11 = .ok (.istore_n 1, 1) := by decide +kernel
theorem dX1_startAnew_12 : decode cX1_startAnew 12 = .ok (.iload_n 1, 1) := by decide +kernel
theorem dX1_startAnew_13 : decode cX1_startAnew 13 = .ok (.bipush 50, 2) := by decide +kernel
theorem dX1_startAnew_15 : decode cX1_startAnew 15 = .ok (.if_icmp .ge 14, 3) := by decide +kernel
theorem dX1_startAnew_18 : decode cX1_startAnew 18 = .ok (.aload_n 0, 1) := by decide +kernel
theorem dX1_startAnew_19 : decode cX1_startAnew 19 = .ok (.iload_n 1, 1) := by decide +kernel
theorem dX1_startAnew_20 : decode cX1_startAnew 20 = .ok (.invokevirtual 86, 3) := by decide +kernel
theorem dX1_startAnew_23 : decode cX1_startAnew 23 = .ok (.iinc 1 1, 3) := by decide +kernel
theorem dX1_startAnew_26 : decode cX1_startAnew 26 = .ok (.goto (-14), 3) := by decide +kernel
theorem dX1_startAnew_29 : decode cX1_startAnew 29 = .ok (.iconst 0, 1) := by decide +kernel
theorem dX1_startAnew_30 : decode cX1_startAnew 30 = .ok (.istore_n 1, 1) := by decide +kernel
theorem dX1_startAnew_31 : decode cX1_startAnew 31 = .ok (.iload_n 1, 1) := by decide +kernel
theorem dX1_startAnew_32 : decode cX1_startAnew 32 = .ok (.bipush 40, 2) := by decide +kernel
theorem dX1_startAnew_34 : decode cX1_startAnew 34 = .ok (.if_icmp .ge 35, 3) := by decide +kernel
theorem dX1_startAnew_37 : decode cX1_startAnew 37 = .ok (.aload_n 0, 1) := by decide +kernel
theorem dX1_startAnew_38 : decode cX1_startAnew 38 = .ok (.getfield 15, 3) := by decide +kernel
theorem dX1_startAnew_41 : decode cX1_startAnew 41 = .ok (.iload_n 1, 1) := by decide +kernel
theorem dX1_startAnew_42 : decode cX1_startAnew 42 = .ok (.iconst 0, 1) := by decide +kernel
theorem dX1_startAnew_43 : decode cX1_startAnew 43 = .ok (.iastore, 1) := by decide +kernel
theorem dX1_startAnew_44 : decode cX1_startAnew 44 = .ok (.aload_n 0, 1) := by decide +kernel
theorem dX1_startAnew_45 : decode cX1_startAnew 45 = .ok (.getfield 9, 3) := by decide +kernel
theorem dX1_startAnew_48 : decode cX1_startAnew 48 = .ok (.iload_n 1, 1) := by decide +kernel
theorem dX1_startAnew_49 : decode cX1_startAnew 49 = .ok (.aload_n 0, 1) := by decide +kernel
theorem dX1_startAnew_50 : decode cX1_startAnew 50 = .ok (.iload_n 1, 1) := by decide +kernel
theorem dX1_startAnew_51 : decode cX1_startAnew 51 = .ok (.invokevirtual 100, 3) := by decide +kernel
theorem dX1_startAnew_54 : decode cX1_startAnew 54 = .ok (.ifCond .lt 7, 3) := by decide +kernel
theorem dX1_startAnew_57 : decode cX1_startAnew 57 = .ok (.iconst 1, 1) := by decide +kernel
theorem dX1_startAnew_58 : decode cX1_startAnew 58 = .ok (.goto 4, 3) := by decide +kernel
theorem dX1_startAnew_61 : decode cX1_startAnew 61 = .ok (.iconst 0, 1) := by decide +kernel
theorem dX1_startAnew_62 : decode cX1_startAnew 62 = .ok (.bastore, 1) := by decide +kernel
theorem dX1_startAnew_63 : decode cX1_startAnew 63 = .ok (.iinc 1 1, 3) := by decide +kernel
theorem dX1_startAnew_66 : decode cX1_startAnew 66 = .ok (.goto (-35), 3) := by decide +kernel
theorem dX1_startAnew_69 : decode cX1_startAnew 69 = .ok (.aload_n 0, 1) := by decide +kernel
theorem dX1_startAnew_70 : decode cX1_startAnew 70 = .ok (.invokevirtual 83, 3) := by decide +kernel
theorem dX1_startAnew_73 : decode cX1_startAnew 73 = .ok (.pop, 1) := by decide +kernel
theorem dX1_startAnew_74 : decode cX1_startAnew 74 = .ok (.aload_n 0, 1) := by decide +kernel
theorem dX1_startAnew_75 : decode cX1_startAnew 75 = .ok (.invokevirtual 103, 3) := by decide +kernel
theorem dX1_startAnew_78 : decode cX1_startAnew 78 = .ok (.ireturn, 1) := by decide +kernel
def wp_X1_startAnew (σ : Mem) (P : Int32 → Mem → Prop) : Prop :=
  bm (up2 σ 0 16 ((σ 0 16) + 1)) (fun σ1 =>
    lq2 (fun rec4 (σ2 : Mem) (x3 : Int32) =>
    ((50 ≤ x3 →
      lq2 (fun rec7 (σ5 : Mem) (x6 : Int32) =>
        ((40 ≤ x6 →
          wp_X1_retireWhatCan σ5  (fun r8 σ9 =>
            wp_X1_freeCells σ9  (fun r10 =>
            P r10 σ9))) ∧
          (¬ 40 ≤ x6 →
          vp_in x6 40 ∧ bm (up2 σ5 2 x6.toNatClampNeg 0) (fun σ11 =>
            wp_X1_placeOnList σ11 x6 (fun r12 =>
            ((r12 < 0 →
            vp_in x6 40 ∧ bm (up2 σ11 1 x6.toNatClampNeg (vp_nar .boolean 0)) (fun σ13 =>
              rec7 σ13 (x6 + 1))) ∧
            (¬ r12 < 0 →
            vp_in x6 40 ∧ bm (up2 σ11 1 x6.toNatClampNeg (vp_nar .boolean 1)) (fun σ14 =>
              rec7 σ14 (x6 + 1))))))))) σ2 0) ∧
      (¬ 50 ≤ x3 →
      wp_X1_release σ2 x3 (fun σ15 =>
        rec4 σ15 (x3 + 1))))) σ1 0)
set_option maxRecDepth 100000 in
set_option maxHeartbeats 4000000 in
theorem c_X1_startAnew (V : EV) (σ : Mem) (P : Int32 → Mem → Prop) (l : Launch) : Met l yX1_startAnew (.code yX1_startAnew cX1_startAnew 2 (some .int) :: AW) { frames := 4, cells := 0, slots := 0, locals := 91 } (va_Pc [.ref (ad V 0)] (fun U => wP V σ U ∧ wp_X1_startAnew σ P)) (va_Qi P (wB V) (AA V)) 0 0 (AA V) := by
  refine met_i V σ (own := RX1) (by decide +kernel) rfl (fun v hv => by simp at hv; subst hv; rfl) (Nat.le_of_ble_eq_true rfl) (fun X C D h => ?_) l
  show GG V X σ 0 [some (.ref (ad V 0)), none] []
  refine g_aload_n C dX1_startAnew_0 rfl rfl rfl ?_
  refine g_dup C dX1_startAnew_1 rfl rfl ?_
  refine f_X1_68 C dX1_startAnew_2 rfl ?_
  refine g_iconst C dX1_startAnew_5 ic_1 rfl ?_
  refine g_iadd C dX1_startAnew_6 rfl ?_
  refine p_X1_68 C dX1_startAnew_7 rfl h (fun σ1 h => ?_)
  refine g_iconst C dX1_startAnew_10 ic_0 rfl ?_
  refine g_istore_n C dX1_startAnew_11 rfl (Nat.le_of_ble_eq_true rfl) (L' := [some (.ref (ad V 0)), some (.int 0)]) rfl rfl ?_
  refine h (fun (σ2 : Mem) (x3 : Int32) => GG V X σ2 12 [some (.ref (ad V 0)), some (.int x3)] []) (fun σ2 x3 h => ?_)
  refine g_iload_n C dX1_startAnew_12 rfl rfl rfl ?_
  refine g_bipush C dX1_startAnew_13 bp_50 rfl ?_
  refine g_icmp_ge C dX1_startAnew_15 (tgt := 29) rfl rfl (fun q => ?_) (fun q => ?_)
  · have h := h.1 q
    refine g_iconst C dX1_startAnew_29 ic_0 rfl ?_
    refine g_istore_n C dX1_startAnew_30 rfl (Nat.le_of_ble_eq_true rfl) (L' := [some (.ref (ad V 0)), some (.int 0)]) rfl rfl ?_
    refine h (fun (σ5 : Mem) (x6 : Int32) => GG V X σ5 31 [some (.ref (ad V 0)), some (.int x6)] []) (fun σ5 x6 h => ?_)
    refine g_iload_n C dX1_startAnew_31 rfl rfl rfl ?_
    refine g_bipush C dX1_startAnew_32 bp_40 rfl ?_
    refine g_icmp_ge C dX1_startAnew_34 (tgt := 69) rfl rfl (fun q => ?_) (fun q => ?_)
    · have h := h.1 q
      refine g_aload_n C dX1_startAnew_69 rfl rfl rfl ?_
      refine k_X1_83 C dX1_startAnew_70 (Nat.le_of_ble_eq_true rfl) (by decide) rfl rfl h (fun r8 σ9 h => ?_)
      refine g_pop C dX1_startAnew_73 rfl rfl ?_
      refine g_aload_n C dX1_startAnew_74 rfl rfl rfl ?_
      refine k_X1_103 C dX1_startAnew_75 (Nat.le_of_ble_eq_true rfl) (by decide) rfl rfl h (fun r10 h => ?_)
      exact g_iret C dX1_startAnew_78 D h
    · have h := h.2 q
      refine g_aload_n C dX1_startAnew_37 rfl rfl rfl ?_
      refine f_X1_15 C dX1_startAnew_38 rfl ?_
      refine g_iload_n C dX1_startAnew_41 rfl rfl rfl ?_
      refine g_iconst C dX1_startAnew_42 ic_0 rfl ?_
      obtain ⟨hin, h⟩ := h
      refine g_ist C dX1_startAnew_43 arr_2 hin rfl h (fun σ11 h => ?_)
      refine g_aload_n C dX1_startAnew_44 rfl rfl rfl ?_
      refine f_X1_9 C dX1_startAnew_45 rfl ?_
      refine g_iload_n C dX1_startAnew_48 rfl rfl rfl ?_
      refine g_aload_n C dX1_startAnew_49 rfl rfl rfl ?_
      refine g_iload_n C dX1_startAnew_50 rfl rfl rfl ?_
      refine k_X1_100 C dX1_startAnew_51 (Nat.le_of_ble_eq_true rfl) (by decide) rfl rfl h (fun r12 h => ?_)
      refine g_if_lt C dX1_startAnew_54 (tgt := 61) rfl rfl (fun q => ?_) (fun q => ?_)
      · have h := h.1 q
        refine g_iconst C dX1_startAnew_61 ic_0 rfl ?_
        obtain ⟨hin, h⟩ := h
        refine g_zst C dX1_startAnew_62 arr_1 hin rfl h (fun σ13 h => ?_)
        refine g_iinc C dX1_startAnew_63 (v := x6 + 1) (by rw [ic_1]) rfl (Nat.le_of_ble_eq_true rfl) (L' := [some (.ref (ad V 0)), some (.int (x6 + 1))]) rfl rfl ?_
        refine g_goto C dX1_startAnew_66 (pc' := 31) rfl ?_
        exact h
      · have h := h.2 q
        refine g_iconst C dX1_startAnew_57 ic_1 rfl ?_
        refine g_goto C dX1_startAnew_58 (pc' := 62) rfl ?_
        obtain ⟨hin, h⟩ := h
        refine g_zst C dX1_startAnew_62 arr_1 hin rfl h (fun σ14 h => ?_)
        refine g_iinc C dX1_startAnew_63 (v := x6 + 1) (by rw [ic_1]) rfl (Nat.le_of_ble_eq_true rfl) (L' := [some (.ref (ad V 0)), some (.int (x6 + 1))]) rfl rfl ?_
        refine g_goto C dX1_startAnew_66 (pc' := 31) rfl ?_
        exact h
  · have h := h.2 q
    refine g_aload_n C dX1_startAnew_18 rfl rfl rfl ?_
    refine g_iload_n C dX1_startAnew_19 rfl rfl rfl ?_
    refine k_X1_86 C dX1_startAnew_20 (Nat.le_of_ble_eq_true rfl) (by decide) rfl rfl h (fun σ15 h => ?_)
    refine g_iinc C dX1_startAnew_23 (v := x3 + 1) (by rw [ic_1]) rfl (Nat.le_of_ble_eq_true rfl) (L' := [some (.ref (ad V 0)), some (.int (x3 + 1))]) rfl rfl ?_
    refine g_goto C dX1_startAnew_26 (pc' := 12) rfl ?_
    exact h
theorem hd_X1_startAnew : yX1_startAnew.cls ≠ "java/lang/invoke/MethodHandle" ∧ yX1_startAnew.cls ≠ "java/lang/invoke/VarHandle" ∧ (parseMethodDescriptor yX1_startAnew.desc).map (fun d => d.parameters.length) = some 0 := by decide +kernel
theorem k_X4_96 {V : EV} {X : CX} {cc : ByteArray} {nL : Nat} {R : Room} (C : OK V X RX4 cc nL R) {σ : Mem} {pc pc' : Nat} {L : List (Option Value)} {st : List Value} {P : Int32 → Mem → Prop} (d : decode cc pc = .ok (.invokevirtual 96, 3)) (hst : (st.map fun v => v.category).sum ≤ 8) (hr : 4 + 1 ≤ R.frames ∧ 8 + (2 + 11) + 91 ≤ R.locals) (hL : L.length = nL) (hp : pc + 3 = pc') (h : wp_X1_startAnew σ P) (k : ∀ r τ, P r τ → GG V X τ pc' L (.int r :: st)) : GG V X σ pc L (.ref (ad V 0) :: st) :=
  g_callVi C (av := []) (fun l => c_X1_startAnew V σ P l) (by decide) (en_0 V σ) (q := (RX1, TX1, 17)) rfl rfl ml_RX4_96 im_X1_startAnew se_X1_startAnew ini_RX1 co_X1_startAnew hd_X1_startAnew rfl ⟨rfl, rfl⟩ hr hst d hL hp h k
