/-! THE LAW -/
def LX (X : CX) (b n : Nat) (xs : Nat → Int32) : Prop := match X with
  | (p, l, e, R, s, m, args, below, meth, c, A, kc, ks, Q) => R = room_1 ∧ args = #[Value.ref b] ∧ meth.sig.returnType = ret ∧ meth.locks = false ∧ va_X b n xs s s.heap ∧ b < s.heap.size ∧ A = (fun q => s.heap.size ≤ q) ∧ kc ≤ 600000 ∧ ks ≤ 7302250 ∧ Q = lw_Z below #[Value.ref b] s
theorem g_sld {V : EV} {X : CX} {own : String} {cc : ByteArray} {nL : Nat} {R : Room} (C : OK V X own cc nL R) {b n : Nat} {xs : Nat → Int32} (E : LX X b n xs) {σ : Mem} {pc pc' : Nat} {L : List (Option Value)} {st : List Value} {i : Int32} (d : decode cc pc = .ok (.iaload, 1)) (hin : vp_in i n) (hp : pc + 1 = pc') (k : GG V X σ pc' L (.int (xs i.toNatClampNeg) :: st)) : GG V X σ pc L (.int i :: .ref b :: st) := by
  obtain ⟨p, l, e, R', s, m, args, below, meth, c, A, kc, ks, Q⟩ := X
  obtain ⟨rfl, hx, hb, hml, hown, hts, hT, hI, hA, hk1, hk2⟩ := C
  obtain ⟨-, -, -, -, hX, hbl, rfl, -, -, -⟩ := E
  subst hp
  intro H locs ls hP hS hL
  exact va_sld hx hb hX hbl (Nat.not_le.mpr hbl) hS hin d (k H locs ls hP hS hL)
theorem g_slen {V : EV} {X : CX} {own : String} {cc : ByteArray} {nL : Nat} {R : Room} (C : OK V X own cc nL R) {b n : Nat} {xs : Nat → Int32} (E : LX X b n xs) {σ : Mem} {pc pc' : Nat} {L : List (Option Value)} {st : List Value} (d : decode cc pc = .ok (.arraylength, 1)) (hp : pc + 1 = pc') (k : GG V X σ pc' L (.int (Int32.ofNat n) :: st)) : GG V X σ pc L (.ref b :: st) := by
  obtain ⟨p, l, e, R', s, m, args, below, meth, c, A, kc, ks, Q⟩ := X
  obtain ⟨rfl, hx, hb, hml, hown, hts, hT, hI, hA, hk1, hk2⟩ := C
  obtain ⟨-, -, -, -, hX, hbl, rfl, -, -, -⟩ := E
  subst hp
  intro H locs ls hP hS hL
  exact va_slen hx hb hX hbl (Nat.not_le.mpr hbl) hS d (k H locs ls hP hS hL)
theorem g_lend {V : EV} {X : CX} {nL : Nat} {R : Room} (C : OK V X RL code nL R) {b n : Nat} {xs : Nat → Int32} (E : LX X b n xs) {σ : Mem} {pc : Nat} {L : List (Option Value)} (d : decode code pc = .ok (.ireturn, 1)) : GG V X σ pc L [.int 1] := by
  obtain ⟨p, l, e, R', s, m, args, below, meth, c, A, kc, ks, Q⟩ := X
  obtain ⟨rfl, hx, hb, hml, hown, hts, hT, hI, hA, hk1, hk2⟩ := C
  obtain ⟨rfl, rfl, hr, hlocks, hX, hbl, rfl, k1, k2, rfl⟩ := E
  intro H locs ls hP hS hL
  refine va_forget (fun q hq => hS.2.2 q hq) ?_
  refine W.widen (k := 600000) (n := 7302250) k1 k2 ?_
  exact lw_ret hx hb hr hlocks d
theorem i2c_w (x : Int32) : ∃ w, w < 65536 ∧ (x.toUInt32 % 65536).toInt32 = nI w := by
  have h : (x.toUInt32 % 65536).toNat < 65536 := by rw [UInt32.toNat_mod]; exact Nat.mod_lt _ (by decide)
  refine ⟨_, h, ?_⟩
  rw [show nI (x.toUInt32 % 65536).toNat = (UInt32.ofNat (x.toUInt32 % 65536).toNat).toInt32 from rfl, UInt32.ofNat_toNat]

theorem sub4 {n i : Nat} (hn : n < 2 ^ 31) (hi : i < 2 ^ 31) (q : ¬ nI n - 4 < nI i) : i + 4 ≤ n := by
  rcases Nat.lt_or_ge n 4 with h | h
  · have h0 : (0 : Int32) ≤ nI i := nI_ge0 hi
    have : nI n - 4 < 0 := by
      rcases (show n = 0 ∨ n = 1 ∨ n = 2 ∨ n = 3 by omega) with rfl | rfl | rfl | rfl <;> decide
    exact absurd (Int32.lt_of_lt_of_le this h0) q
  · obtain ⟨k, rfl⟩ : ∃ k, n = k + 4 := ⟨n - 4, by omega⟩
    have e : nI (k + 4) - 4 = nI k := by
      rw [← nI_add]
      show nI k + nI 4 - nI 4 = _
      rw [Int32.add_sub_cancel]
    rw [e] at q
    rcases Nat.lt_or_ge k i with w | w
    · exact absurd ((ltI (by omega) hi).mpr w) q
    · omega
theorem vin {i k n : Nat} (h : i + k < n) (hn : n < 2 ^ 31) : vp_in (nI i + nI k) n := by rw [nI_add]; exact inI h hn
set_option maxRecDepth 100000 in
set_option maxHeartbeats 4000000 in
theorem law_loop {V : EV} {X : CX} {b n : Nat} {xs : Nat → Int32} (C : OK V X RL code 4 room_1) (E : LX X b n xs) (hn : n ≤ 2048) : ∀ (f i : Nat) (σ : Mem), SS σ → n < i + 4 * f → i ≤ n + 4 → GG V X σ 18 [some (.ref b), some (.ref (ad V 84)), some (.ref (ad V 93)), some (.int (nI i))] [] := by
  have fin : ∀ τ Lc, GG V X τ 757 Lc [] := fun τ Lc => g_iconst C (v := 1) dL_law_757 (by decide) rfl (g_lend C E dL_law_758)
  intro f
  induction f with
  | zero =>
    intro i σ S hf hi
    refine g_iload_n C dL_law_18 rfl rfl rfl ?_
    refine g_aload_n C dL_law_19 rfl rfl rfl ?_
    refine g_slen C E dL_law_20 rfl ?_
    refine g_iconst C (v := 4) dL_law_21 (by decide) rfl ?_
    refine g_isub C dL_law_22 rfl ?_
    exact g_icmp_gt C (tgt := 757) dL_law_23 (by decide) rfl (fun _ => fin _ _) (fun q => absurd (sub4 (n := n) (i := i) (by omega) (by omega) q) (by omega))
  | succ f ih =>
  intro i σ S hf hi
  refine g_iload_n C dL_law_18 rfl rfl rfl ?_
  refine g_aload_n C dL_law_19 rfl rfl rfl ?_
  refine g_slen C E dL_law_20 rfl ?_
  refine g_iconst C (v := 4) dL_law_21 (by decide) rfl ?_
  refine g_isub C dL_law_22 rfl ?_
  refine g_icmp_gt C (tgt := 757) dL_law_23 (by decide) rfl (fun _ => fin _ _) (fun q => ?_)
  have h4 : i + 4 ≤ n := sub4 (n := n) (i := i) (by omega) (by omega) q
  have next : ∀ τ, SS τ → GG V X τ 751 [some (.ref b), some (.ref (ad V 84)), some (.ref (ad V 93)), some (.int (nI i))] [] := by
    intro τ Sτ
    refine g_iinc C (v := nI (i + 4)) dL_law_751 (by show nI i + nI 4 = _; rw [nI_add]) rfl (Nat.le_of_ble_eq_true rfl) rfl rfl ?_
    refine g_goto C (pc' := 18) dL_law_754 (by decide) ?_
    exact ih (i + 4) τ Sτ (by omega) (by omega)
  refine g_aload_n C dL_law_26 rfl rfl rfl ?_
  refine g_iload_n C dL_law_27 rfl rfl rfl ?_
  refine g_sld C E dL_law_28 (inI (by omega) (by omega)) rfl ?_
  refine g_bipush C (v := 31) dL_law_29 (by decide) rfl ?_
  refine g_iand C dL_law_31 rfl ?_
  rcases tsw_cases (xs (nI i).toNatClampNeg &&& 31) 0 25 with hout | ⟨k, hk, ek⟩
  · exact g_tout C dL_law_32 (by omega) (pc' := 751) (by decide) (next _ S)
  rcases (show k = 0 ∨ k = 1 ∨ k = 2 ∨ k = 3 ∨ k = 4 ∨ k = 5 ∨ k = 6 ∨ k = 7 ∨ k = 8 ∨ k = 9 ∨ k = 10 ∨ k = 11 ∨ k = 12 ∨ k = 13 ∨ k = 14 ∨ k = 15 ∨ k = 16 ∨ k = 17 ∨ k = 18 ∨ k = 19 ∨ k = 20 ∨ k = 21 ∨ k = 22 ∨ k = 23 ∨ k = 24 by omega) with rfl | rfl | rfl | rfl | rfl | rfl | rfl | rfl | rfl | rfl | rfl | rfl | rfl | rfl | rfl | rfl | rfl | rfl | rfl | rfl | rfl | rfl | rfl | rfl | rfl
  · refine g_tin C dL_law_32 (by omega) (by omega) (off := 116) (by rw [ek]; rfl) (pc' := 148) (by decide) ?_
    refine g_aload_n C dL_law_148 rfl rfl rfl ?_
    refine g_aload_n C dL_law_149 rfl rfl rfl ?_
    refine g_iload_n C dL_law_150 rfl rfl rfl ?_
    refine g_iconst C (v := 1) dL_law_151 (by decide) rfl ?_
    refine g_iadd C dL_law_152 rfl ?_
    refine g_sld C E dL_law_153 (vin (k := 1) (by omega) (by omega)) rfl ?_
    refine g_aload_n C dL_law_154 rfl rfl rfl ?_
    refine g_iload_n C dL_law_155 rfl rfl rfl ?_
    refine g_iconst C (v := 2) dL_law_156 (by decide) rfl ?_
    refine g_iadd C dL_law_157 rfl ?_
    refine g_sld C E dL_law_158 (vin (k := 2) (by omega) (by omega)) rfl ?_
    refine g_aload_n C dL_law_159 rfl rfl rfl ?_
    refine g_iload_n C dL_law_160 rfl rfl rfl ?_
    refine g_iconst C (v := 3) dL_law_161 (by decide) rfl ?_
    refine g_iadd C dL_law_162 rfl ?_
    refine g_sld C E dL_law_163 (vin (k := 3) (by omega) (by omega)) rfl ?_
    refine k_L_13 C dL_law_164 (Nat.le_of_ble_eq_true rfl) ⟨Nat.le_of_ble_eq_true rfl, Nat.le_of_ble_eq_true rfl⟩ rfl rfl (sim_write S _ _ _ (Q := fun _ _ ρ => SS ρ) (fun _ _ h => h)) (fun r τ h => ?_)
    refine g_pop C dL_law_167 rfl rfl ?_
    refine g_aload_n C dL_law_168 rfl rfl rfl ?_
    refine g_aload_n C dL_law_169 rfl rfl rfl ?_
    refine g_iload_n C dL_law_170 rfl rfl rfl ?_
    refine g_iconst C (v := 1) dL_law_171 (by decide) rfl ?_
    refine g_iadd C dL_law_172 rfl ?_
    refine g_sld C E dL_law_173 (vin (k := 1) (by omega) (by omega)) rfl ?_
    refine g_aload_n C dL_law_174 rfl rfl rfl ?_
    refine g_iload_n C dL_law_175 rfl rfl rfl ?_
    refine g_iconst C (v := 2) dL_law_176 (by decide) rfl ?_
    refine g_iadd C dL_law_177 rfl ?_
    refine g_sld C E dL_law_178 (vin (k := 2) (by omega) (by omega)) rfl ?_
    refine g_aload_n C dL_law_179 rfl rfl rfl ?_
    refine g_iload_n C dL_law_180 rfl rfl rfl ?_
    refine g_iconst C (v := 3) dL_law_181 (by decide) rfl ?_
    refine g_iadd C dL_law_182 rfl ?_
    refine g_sld C E dL_law_183 (vin (k := 3) (by omega) (by omega)) rfl ?_
    refine k_L_17 C dL_law_184 (Nat.le_of_ble_eq_true rfl) ⟨Nat.le_of_ble_eq_true rfl, Nat.le_of_ble_eq_true rfl⟩ rfl rfl h (fun r2 ρ h => ?_)
    refine g_pop C dL_law_187 rfl rfl ?_
    refine g_goto C (pc' := 751) dL_law_188 (by decide) ?_
    exact next _ h
  · refine g_tin C dL_law_32 (by omega) (by omega) (off := 159) (by rw [ek]; rfl) (pc' := 191) (by decide) ?_
    refine g_aload_n C dL_law_191 rfl rfl rfl ?_
    refine g_aload_n C dL_law_192 rfl rfl rfl ?_
    refine g_iload_n C dL_law_193 rfl rfl rfl ?_
    refine g_iconst C (v := 1) dL_law_194 (by decide) rfl ?_
    refine g_iadd C dL_law_195 rfl ?_
    refine g_sld C E dL_law_196 (vin (k := 1) (by omega) (by omega)) rfl ?_
    refine g_aload_n C dL_law_197 rfl rfl rfl ?_
    refine g_iload_n C dL_law_198 rfl rfl rfl ?_
    refine g_iconst C (v := 2) dL_law_199 (by decide) rfl ?_
    refine g_iadd C dL_law_200 rfl ?_
    refine g_sld C E dL_law_201 (vin (k := 2) (by omega) (by omega)) rfl ?_
    refine k_L_18 C dL_law_202 (Nat.le_of_ble_eq_true rfl) ⟨Nat.le_of_ble_eq_true rfl, Nat.le_of_ble_eq_true rfl⟩ rfl rfl (sim_giveBack S _ _ (Q := fun _ _ ρ => SS ρ) (fun _ _ h => h)) (fun r τ h => ?_)
    refine g_pop C dL_law_205 rfl rfl ?_
    refine g_aload_n C dL_law_206 rfl rfl rfl ?_
    refine g_aload_n C dL_law_207 rfl rfl rfl ?_
    refine g_iload_n C dL_law_208 rfl rfl rfl ?_
    refine g_iconst C (v := 1) dL_law_209 (by decide) rfl ?_
    refine g_iadd C dL_law_210 rfl ?_
    refine g_sld C E dL_law_211 (vin (k := 1) (by omega) (by omega)) rfl ?_
    refine g_aload_n C dL_law_212 rfl rfl rfl ?_
    refine g_iload_n C dL_law_213 rfl rfl rfl ?_
    refine g_iconst C (v := 2) dL_law_214 (by decide) rfl ?_
    refine g_iadd C dL_law_215 rfl ?_
    refine g_sld C E dL_law_216 (vin (k := 2) (by omega) (by omega)) rfl ?_
    refine k_L_22 C dL_law_217 (Nat.le_of_ble_eq_true rfl) ⟨Nat.le_of_ble_eq_true rfl, Nat.le_of_ble_eq_true rfl⟩ rfl rfl h (fun r2 ρ h => ?_)
    refine g_pop C dL_law_220 rfl rfl ?_
    refine g_goto C (pc' := 751) dL_law_221 (by decide) ?_
    exact next _ h
  · refine g_tin C dL_law_32 (by omega) (by omega) (off := 192) (by rw [ek]; rfl) (pc' := 224) (by decide) ?_
    refine g_aload_n C dL_law_224 rfl rfl rfl ?_
    refine g_aload_n C dL_law_225 rfl rfl rfl ?_
    refine g_iload_n C dL_law_226 rfl rfl rfl ?_
    refine g_iconst C (v := 1) dL_law_227 (by decide) rfl ?_
    refine g_iadd C dL_law_228 rfl ?_
    refine g_sld C E dL_law_229 (vin (k := 1) (by omega) (by omega)) rfl ?_
    refine g_aload_n C dL_law_230 rfl rfl rfl ?_
    refine g_iload_n C dL_law_231 rfl rfl rfl ?_
    refine g_iconst C (v := 2) dL_law_232 (by decide) rfl ?_
    refine g_iadd C dL_law_233 rfl ?_
    refine g_sld C E dL_law_234 (vin (k := 2) (by omega) (by omega)) rfl ?_
    refine g_aload_n C dL_law_235 rfl rfl rfl ?_
    refine g_iload_n C dL_law_236 rfl rfl rfl ?_
    refine g_iconst C (v := 3) dL_law_237 (by decide) rfl ?_
    refine g_iadd C dL_law_238 rfl ?_
    refine g_sld C E dL_law_239 (vin (k := 3) (by omega) (by omega)) rfl ?_
    refine g_if_eq C (tgt := 247) dL_law_240 (by decide) rfl (fun q => ?_) (fun q => ?_)
    ·
      refine g_iconst C (v := 0) dL_law_247 (by decide) rfl ?_
      refine k_L_23 C dL_law_248 (Nat.le_of_ble_eq_true rfl) ⟨Nat.le_of_ble_eq_true rfl, Nat.le_of_ble_eq_true rfl⟩ rfl rfl (sim_pin S _ _ _ isZ_0 (Q := fun _ _ ρ => SS ρ) (fun _ _ h => h)) (fun r τ h => ?_)
      refine g_pop C dL_law_251 rfl rfl ?_
      refine g_aload_n C dL_law_252 rfl rfl rfl ?_
      refine g_aload_n C dL_law_253 rfl rfl rfl ?_
      refine g_iload_n C dL_law_254 rfl rfl rfl ?_
      refine g_iconst C (v := 1) dL_law_255 (by decide) rfl ?_
      refine g_iadd C dL_law_256 rfl ?_
      refine g_sld C E dL_law_257 (vin (k := 1) (by omega) (by omega)) rfl ?_
      refine g_aload_n C dL_law_258 rfl rfl rfl ?_
      refine g_iload_n C dL_law_259 rfl rfl rfl ?_
      refine g_iconst C (v := 2) dL_law_260 (by decide) rfl ?_
      refine g_iadd C dL_law_261 rfl ?_
      refine g_sld C E dL_law_262 (vin (k := 2) (by omega) (by omega)) rfl ?_
      refine g_aload_n C dL_law_263 rfl rfl rfl ?_
      refine g_iload_n C dL_law_264 rfl rfl rfl ?_
      refine g_iconst C (v := 3) dL_law_265 (by decide) rfl ?_
      refine g_iadd C dL_law_266 rfl ?_
      refine g_sld C E dL_law_267 (vin (k := 3) (by omega) (by omega)) rfl ?_
      refine g_if_eq C (tgt := 275) dL_law_268 (by decide) rfl (fun _ => ?_) (fun q2 => absurd q q2)
      refine g_iconst C (v := 0) dL_law_275 (by decide) rfl ?_
      refine k_L_27 C dL_law_276 (Nat.le_of_ble_eq_true rfl) ⟨Nat.le_of_ble_eq_true rfl, Nat.le_of_ble_eq_true rfl⟩ rfl rfl h (fun r2 ρ h => ?_)
      refine g_pop C dL_law_279 rfl rfl ?_
      refine g_goto C (pc' := 751) dL_law_280 (by decide) ?_
      exact next _ h
    ·
      refine g_iconst C (v := 1) dL_law_243 (by decide) rfl ?_
      refine g_goto C (pc' := 248) dL_law_244 (by decide) ?_
      refine k_L_23 C dL_law_248 (Nat.le_of_ble_eq_true rfl) ⟨Nat.le_of_ble_eq_true rfl, Nat.le_of_ble_eq_true rfl⟩ rfl rfl (sim_pin S _ _ _ isZ_1 (Q := fun _ _ ρ => SS ρ) (fun _ _ h => h)) (fun r τ h => ?_)
      refine g_pop C dL_law_251 rfl rfl ?_
      refine g_aload_n C dL_law_252 rfl rfl rfl ?_
      refine g_aload_n C dL_law_253 rfl rfl rfl ?_
      refine g_iload_n C dL_law_254 rfl rfl rfl ?_
      refine g_iconst C (v := 1) dL_law_255 (by decide) rfl ?_
      refine g_iadd C dL_law_256 rfl ?_
      refine g_sld C E dL_law_257 (vin (k := 1) (by omega) (by omega)) rfl ?_
      refine g_aload_n C dL_law_258 rfl rfl rfl ?_
      refine g_iload_n C dL_law_259 rfl rfl rfl ?_
      refine g_iconst C (v := 2) dL_law_260 (by decide) rfl ?_
      refine g_iadd C dL_law_261 rfl ?_
      refine g_sld C E dL_law_262 (vin (k := 2) (by omega) (by omega)) rfl ?_
      refine g_aload_n C dL_law_263 rfl rfl rfl ?_
      refine g_iload_n C dL_law_264 rfl rfl rfl ?_
      refine g_iconst C (v := 3) dL_law_265 (by decide) rfl ?_
      refine g_iadd C dL_law_266 rfl ?_
      refine g_sld C E dL_law_267 (vin (k := 3) (by omega) (by omega)) rfl ?_
      refine g_if_eq C (tgt := 275) dL_law_268 (by decide) rfl (fun q2 => absurd q2 q) (fun _ => ?_)
      refine g_iconst C (v := 1) dL_law_271 (by decide) rfl ?_
      refine g_goto C (pc' := 276) dL_law_272 (by decide) ?_
      refine k_L_27 C dL_law_276 (Nat.le_of_ble_eq_true rfl) ⟨Nat.le_of_ble_eq_true rfl, Nat.le_of_ble_eq_true rfl⟩ rfl rfl h (fun r2 ρ h => ?_)
      refine g_pop C dL_law_279 rfl rfl ?_
      refine g_goto C (pc' := 751) dL_law_280 (by decide) ?_
      exact next _ h
  · refine g_tin C dL_law_32 (by omega) (by omega) (off := 251) (by rw [ek]; rfl) (pc' := 283) (by decide) ?_
    refine g_aload_n C dL_law_283 rfl rfl rfl ?_
    refine g_aload_n C dL_law_284 rfl rfl rfl ?_
    refine g_iload_n C dL_law_285 rfl rfl rfl ?_
    refine g_iconst C (v := 1) dL_law_286 (by decide) rfl ?_
    refine g_iadd C dL_law_287 rfl ?_
    refine g_sld C E dL_law_288 (vin (k := 1) (by omega) (by omega)) rfl ?_
    refine k_L_28 C dL_law_289 (Nat.le_of_ble_eq_true rfl) ⟨Nat.le_of_ble_eq_true rfl, Nat.le_of_ble_eq_true rfl⟩ rfl rfl (sim_error S _ (Q := fun _ _ ρ => SS ρ) (fun _ _ h => h)) (fun r τ h => ?_)
    refine g_pop C dL_law_292 rfl rfl ?_
    refine g_aload_n C dL_law_293 rfl rfl rfl ?_
    refine g_aload_n C dL_law_294 rfl rfl rfl ?_
    refine g_iload_n C dL_law_295 rfl rfl rfl ?_
    refine g_iconst C (v := 1) dL_law_296 (by decide) rfl ?_
    refine g_iadd C dL_law_297 rfl ?_
    refine g_sld C E dL_law_298 (vin (k := 1) (by omega) (by omega)) rfl ?_
    refine k_L_32 C dL_law_299 (Nat.le_of_ble_eq_true rfl) ⟨Nat.le_of_ble_eq_true rfl, Nat.le_of_ble_eq_true rfl⟩ rfl rfl h (fun r2 ρ h => ?_)
    refine g_pop C dL_law_302 rfl rfl ?_
    refine g_goto C (pc' := 751) dL_law_303 (by decide) ?_
    exact next _ h
  · refine g_tin C dL_law_32 (by omega) (by omega) (off := 274) (by rw [ek]; rfl) (pc' := 306) (by decide) ?_
    refine g_aload_n C dL_law_306 rfl rfl rfl ?_
    refine g_aload_n C dL_law_307 rfl rfl rfl ?_
    refine g_iload_n C dL_law_308 rfl rfl rfl ?_
    refine g_iconst C (v := 1) dL_law_309 (by decide) rfl ?_
    refine g_iadd C dL_law_310 rfl ?_
    refine g_sld C E dL_law_311 (vin (k := 1) (by omega) (by omega)) rfl ?_
    refine k_L_33 C dL_law_312 (Nat.le_of_ble_eq_true rfl) ⟨Nat.le_of_ble_eq_true rfl, Nat.le_of_ble_eq_true rfl⟩ rfl rfl (sim_hardError S _ (Q := fun _ _ ρ => SS ρ) (fun _ _ h => h)) (fun r τ h => ?_)
    refine g_pop C dL_law_315 rfl rfl ?_
    refine g_aload_n C dL_law_316 rfl rfl rfl ?_
    refine g_aload_n C dL_law_317 rfl rfl rfl ?_
    refine g_iload_n C dL_law_318 rfl rfl rfl ?_
    refine g_iconst C (v := 1) dL_law_319 (by decide) rfl ?_
    refine g_iadd C dL_law_320 rfl ?_
    refine g_sld C E dL_law_321 (vin (k := 1) (by omega) (by omega)) rfl ?_
    refine k_L_36 C dL_law_322 (Nat.le_of_ble_eq_true rfl) ⟨Nat.le_of_ble_eq_true rfl, Nat.le_of_ble_eq_true rfl⟩ rfl rfl h (fun r2 ρ h => ?_)
    refine g_pop C dL_law_325 rfl rfl ?_
    refine g_goto C (pc' := 751) dL_law_326 (by decide) ?_
    exact next _ h
  · refine g_tin C dL_law_32 (by omega) (by omega) (off := 297) (by rw [ek]; rfl) (pc' := 329) (by decide) ?_
    refine g_aload_n C dL_law_329 rfl rfl rfl ?_
    refine k_L_37 C dL_law_330 (Nat.le_of_ble_eq_true rfl) ⟨Nat.le_of_ble_eq_true rfl, Nat.le_of_ble_eq_true rfl⟩ rfl rfl (sim_start S  (Q := fun _ _ ρ => SS ρ) (fun _ _ h => h)) (fun r τ h => ?_)
    refine g_pop C dL_law_333 rfl rfl ?_
    refine g_aload_n C dL_law_334 rfl rfl rfl ?_
    refine k_L_41 C dL_law_335 (Nat.le_of_ble_eq_true rfl) ⟨Nat.le_of_ble_eq_true rfl, Nat.le_of_ble_eq_true rfl⟩ rfl rfl h (fun r2 ρ h => ?_)
    refine g_pop C dL_law_338 rfl rfl ?_
    refine g_goto C (pc' := 751) dL_law_339 (by decide) ?_
    exact next _ h
  · refine g_tin C dL_law_32 (by omega) (by omega) (off := 310) (by rw [ek]; rfl) (pc' := 342) (by decide) ?_
    refine g_aload_n C dL_law_342 rfl rfl rfl ?_
    refine g_aload_n C dL_law_343 rfl rfl rfl ?_
    refine g_iload_n C dL_law_344 rfl rfl rfl ?_
    refine g_iconst C (v := 1) dL_law_345 (by decide) rfl ?_
    refine g_iadd C dL_law_346 rfl ?_
    refine g_sld C E dL_law_347 (vin (k := 1) (by omega) (by omega)) rfl ?_
    refine k_L_42 C dL_law_348 (Nat.le_of_ble_eq_true rfl) ⟨Nat.le_of_ble_eq_true rfl, Nat.le_of_ble_eq_true rfl⟩ rfl rfl (sim_pass S _ (Q := fun _ _ ρ => SS ρ) (fun _ _ h => h)) (fun r τ h => ?_)
    refine g_pop C dL_law_351 rfl rfl ?_
    refine g_aload_n C dL_law_352 rfl rfl rfl ?_
    refine g_aload_n C dL_law_353 rfl rfl rfl ?_
    refine g_iload_n C dL_law_354 rfl rfl rfl ?_
    refine g_iconst C (v := 1) dL_law_355 (by decide) rfl ?_
    refine g_iadd C dL_law_356 rfl ?_
    refine g_sld C E dL_law_357 (vin (k := 1) (by omega) (by omega)) rfl ?_
    refine k_L_45 C dL_law_358 (Nat.le_of_ble_eq_true rfl) ⟨Nat.le_of_ble_eq_true rfl, Nat.le_of_ble_eq_true rfl⟩ rfl rfl h (fun r2 ρ h => ?_)
    refine g_pop C dL_law_361 rfl rfl ?_
    refine g_goto C (pc' := 751) dL_law_362 (by decide) ?_
    exact next _ h
  · refine g_tin C dL_law_32 (by omega) (by omega) (off := 333) (by rw [ek]; rfl) (pc' := 365) (by decide) ?_
    refine g_aload_n C dL_law_365 rfl rfl rfl ?_
    refine g_aload_n C dL_law_366 rfl rfl rfl ?_
    refine g_iload_n C dL_law_367 rfl rfl rfl ?_
    refine g_iconst C (v := 1) dL_law_368 (by decide) rfl ?_
    refine g_iadd C dL_law_369 rfl ?_
    refine g_sld C E dL_law_370 (vin (k := 1) (by omega) (by omega)) rfl ?_
    refine g_aload_n C dL_law_371 rfl rfl rfl ?_
    refine g_iload_n C dL_law_372 rfl rfl rfl ?_
    refine g_iconst C (v := 2) dL_law_373 (by decide) rfl ?_
    refine g_iadd C dL_law_374 rfl ?_
    refine g_sld C E dL_law_375 (vin (k := 2) (by omega) (by omega)) rfl ?_
    refine k_L_46 C dL_law_376 (Nat.le_of_ble_eq_true rfl) ⟨Nat.le_of_ble_eq_true rfl, Nat.le_of_ble_eq_true rfl⟩ rfl rfl (sim_set S _ _ (Q := fun _ _ ρ => SS ρ) (fun _ _ h => h)) (fun r τ h => ?_)
    refine g_pop C dL_law_379 rfl rfl ?_
    refine g_aload_n C dL_law_380 rfl rfl rfl ?_
    refine g_aload_n C dL_law_381 rfl rfl rfl ?_
    refine g_iload_n C dL_law_382 rfl rfl rfl ?_
    refine g_iconst C (v := 1) dL_law_383 (by decide) rfl ?_
    refine g_iadd C dL_law_384 rfl ?_
    refine g_sld C E dL_law_385 (vin (k := 1) (by omega) (by omega)) rfl ?_
    refine g_aload_n C dL_law_386 rfl rfl rfl ?_
    refine g_iload_n C dL_law_387 rfl rfl rfl ?_
    refine g_iconst C (v := 2) dL_law_388 (by decide) rfl ?_
    refine g_iadd C dL_law_389 rfl ?_
    refine g_sld C E dL_law_390 (vin (k := 2) (by omega) (by omega)) rfl ?_
    refine k_L_49 C dL_law_391 (Nat.le_of_ble_eq_true rfl) ⟨Nat.le_of_ble_eq_true rfl, Nat.le_of_ble_eq_true rfl⟩ rfl rfl h (fun r2 ρ h => ?_)
    refine g_pop C dL_law_394 rfl rfl ?_
    refine g_goto C (pc' := 751) dL_law_395 (by decide) ?_
    exact next _ h
  · refine g_tin C dL_law_32 (by omega) (by omega) (off := 366) (by rw [ek]; rfl) (pc' := 398) (by decide) ?_
    refine g_aload_n C dL_law_398 rfl rfl rfl ?_
    refine g_aload_n C dL_law_399 rfl rfl rfl ?_
    refine g_iload_n C dL_law_400 rfl rfl rfl ?_
    refine g_iconst C (v := 1) dL_law_401 (by decide) rfl ?_
    refine g_iadd C dL_law_402 rfl ?_
    refine g_sld C E dL_law_403 (vin (k := 1) (by omega) (by omega)) rfl ?_
    refine g_i2c C dL_law_404 rfl ?_
    refine k_L_50 C dL_law_405 (Nat.le_of_ble_eq_true rfl) ⟨Nat.le_of_ble_eq_true rfl, Nat.le_of_ble_eq_true rfl⟩ rfl rfl (sim_type S _ (i2c_w _) (Q := fun _ _ ρ => SS ρ) (fun _ _ h => h)) (fun r τ h => ?_)
    refine g_pop C dL_law_408 rfl rfl ?_
    refine g_aload_n C dL_law_409 rfl rfl rfl ?_
    refine g_aload_n C dL_law_410 rfl rfl rfl ?_
    refine g_iload_n C dL_law_411 rfl rfl rfl ?_
    refine g_iconst C (v := 1) dL_law_412 (by decide) rfl ?_
    refine g_iadd C dL_law_413 rfl ?_
    refine g_sld C E dL_law_414 (vin (k := 1) (by omega) (by omega)) rfl ?_
    refine g_i2c C dL_law_415 rfl ?_
    refine k_L_54 C dL_law_416 (Nat.le_of_ble_eq_true rfl) ⟨Nat.le_of_ble_eq_true rfl, Nat.le_of_ble_eq_true rfl⟩ rfl rfl h (fun r2 ρ h => ?_)
    refine g_pop C dL_law_419 rfl rfl ?_
    refine g_goto C (pc' := 751) dL_law_420 (by decide) ?_
    exact next _ h
  · refine g_tin C dL_law_32 (by omega) (by omega) (off := 391) (by rw [ek]; rfl) (pc' := 423) (by decide) ?_
    refine g_aload_n C dL_law_423 rfl rfl rfl ?_
    refine k_L_55 C dL_law_424 (Nat.le_of_ble_eq_true rfl) ⟨Nat.le_of_ble_eq_true rfl, Nat.le_of_ble_eq_true rfl⟩ rfl rfl (sim_clearText S  (Q := fun _ _ ρ => SS ρ) (fun _ _ h => h)) (fun r τ h => ?_)
    refine g_pop C dL_law_427 rfl rfl ?_
    refine g_aload_n C dL_law_428 rfl rfl rfl ?_
    refine k_L_58 C dL_law_429 (Nat.le_of_ble_eq_true rfl) ⟨Nat.le_of_ble_eq_true rfl, Nat.le_of_ble_eq_true rfl⟩ rfl rfl h (fun r2 ρ h => ?_)
    refine g_pop C dL_law_432 rfl rfl ?_
    refine g_goto C (pc' := 751) dL_law_433 (by decide) ?_
    exact next _ h
  · refine g_tin C dL_law_32 (by omega) (by omega) (off := 404) (by rw [ek]; rfl) (pc' := 436) (by decide) ?_
    refine g_aload_n C dL_law_436 rfl rfl rfl ?_
    refine k_L_59 C dL_law_437 (Nat.le_of_ble_eq_true rfl) ⟨Nat.le_of_ble_eq_true rfl, Nat.le_of_ble_eq_true rfl⟩ rfl rfl (sim_perform S  (Q := fun _ _ ρ => SS ρ) (fun _ _ h => h)) (fun r τ h => ?_)
    refine g_pop C dL_law_440 rfl rfl ?_
    refine g_aload_n C dL_law_441 rfl rfl rfl ?_
    refine k_L_62 C dL_law_442 (Nat.le_of_ble_eq_true rfl) ⟨Nat.le_of_ble_eq_true rfl, Nat.le_of_ble_eq_true rfl⟩ rfl rfl h (fun r2 ρ h => ?_)
    refine g_pop C dL_law_445 rfl rfl ?_
    refine g_goto C (pc' := 751) dL_law_446 (by decide) ?_
    exact next _ h
  · refine g_tin C dL_law_32 (by omega) (by omega) (off := 417) (by rw [ek]; rfl) (pc' := 449) (by decide) ?_
    refine g_aload_n C dL_law_449 rfl rfl rfl ?_
    refine g_aload_n C dL_law_450 rfl rfl rfl ?_
    refine g_iload_n C dL_law_451 rfl rfl rfl ?_
    refine g_iconst C (v := 1) dL_law_452 (by decide) rfl ?_
    refine g_iadd C dL_law_453 rfl ?_
    refine g_sld C E dL_law_454 (vin (k := 1) (by omega) (by omega)) rfl ?_
    refine k_L_63 C dL_law_455 (Nat.le_of_ble_eq_true rfl) ⟨Nat.le_of_ble_eq_true rfl, Nat.le_of_ble_eq_true rfl⟩ rfl rfl (sim_stopped S _ (Q := fun _ _ => True) (fun _ => trivial)) (fun r h => ?_)
    refine g_pop C dL_law_458 rfl rfl ?_
    refine g_aload_n C dL_law_459 rfl rfl rfl ?_
    refine g_aload_n C dL_law_460 rfl rfl rfl ?_
    refine g_iload_n C dL_law_461 rfl rfl rfl ?_
    refine g_iconst C (v := 1) dL_law_462 (by decide) rfl ?_
    refine g_iadd C dL_law_463 rfl ?_
    refine g_sld C E dL_law_464 (vin (k := 1) (by omega) (by omega)) rfl ?_
    refine k_L_66 C dL_law_465 (Nat.le_of_ble_eq_true rfl) ⟨Nat.le_of_ble_eq_true rfl, Nat.le_of_ble_eq_true rfl⟩ rfl rfl h (fun r2 h => ?_)
    refine g_pop C dL_law_468 rfl rfl ?_
    refine g_goto C (pc' := 751) dL_law_469 (by decide) ?_
    exact next _ S
  · refine g_tin C dL_law_32 (by omega) (by omega) (off := 440) (by rw [ek]; rfl) (pc' := 472) (by decide) ?_
    refine g_aload_n C dL_law_472 rfl rfl rfl ?_
    refine k_L_67 C dL_law_473 (Nat.le_of_ble_eq_true rfl) ⟨Nat.le_of_ble_eq_true rfl, Nat.le_of_ble_eq_true rfl⟩ rfl rfl (sim_undo S  (Q := fun _ _ ρ => SS ρ) (fun _ _ h => h)) (fun r τ h => ?_)
    refine g_pop C dL_law_476 rfl rfl ?_
    refine g_aload_n C dL_law_477 rfl rfl rfl ?_
    refine k_L_70 C dL_law_478 (Nat.le_of_ble_eq_true rfl) ⟨Nat.le_of_ble_eq_true rfl, Nat.le_of_ble_eq_true rfl⟩ rfl rfl h (fun r2 ρ h => ?_)
    refine g_pop C dL_law_481 rfl rfl ?_
    refine g_goto C (pc' := 751) dL_law_482 (by decide) ?_
    exact next _ h
  · refine g_tin C dL_law_32 (by omega) (by omega) (off := 453) (by rw [ek]; rfl) (pc' := 485) (by decide) ?_
    refine g_aload_n C dL_law_485 rfl rfl rfl ?_
    refine k_L_71 C dL_law_486 (Nat.le_of_ble_eq_true rfl) ⟨Nat.le_of_ble_eq_true rfl, Nat.le_of_ble_eq_true rfl⟩ rfl rfl (sim_keep S  (Q := fun _ _ ρ => SS ρ) (fun _ _ h => h)) (fun r τ h => ?_)
    refine g_pop C dL_law_489 rfl rfl ?_
    refine g_aload_n C dL_law_490 rfl rfl rfl ?_
    refine k_L_74 C dL_law_491 (Nat.le_of_ble_eq_true rfl) ⟨Nat.le_of_ble_eq_true rfl, Nat.le_of_ble_eq_true rfl⟩ rfl rfl h (fun r2 ρ h => ?_)
    refine g_pop C dL_law_494 rfl rfl ?_
    refine g_goto C (pc' := 751) dL_law_495 (by decide) ?_
    exact next _ h
  · refine g_tin C dL_law_32 (by omega) (by omega) (off := 466) (by rw [ek]; rfl) (pc' := 498) (by decide) ?_
    refine g_aload_n C dL_law_498 rfl rfl rfl ?_
    refine k_L_75 C dL_law_499 (Nat.le_of_ble_eq_true rfl) ⟨Nat.le_of_ble_eq_true rfl, Nat.le_of_ble_eq_true rfl⟩ rfl rfl (sim_restore S  (Q := fun _ _ ρ => SS ρ) (fun _ _ h => h)) (fun r τ h => ?_)
    refine g_pop C dL_law_502 rfl rfl ?_
    refine g_aload_n C dL_law_503 rfl rfl rfl ?_
    refine k_L_78 C dL_law_504 (Nat.le_of_ble_eq_true rfl) ⟨Nat.le_of_ble_eq_true rfl, Nat.le_of_ble_eq_true rfl⟩ rfl rfl h (fun r2 ρ h => ?_)
    refine g_pop C dL_law_507 rfl rfl ?_
    refine g_goto C (pc' := 751) dL_law_508 (by decide) ?_
    exact next _ h
  · refine g_tin C dL_law_32 (by omega) (by omega) (off := 479) (by rw [ek]; rfl) (pc' := 511) (by decide) ?_
    refine g_aload_n C dL_law_511 rfl rfl rfl ?_
    refine g_aload_n C dL_law_512 rfl rfl rfl ?_
    refine g_iload_n C dL_law_513 rfl rfl rfl ?_
    refine g_iconst C (v := 1) dL_law_514 (by decide) rfl ?_
    refine g_iadd C dL_law_515 rfl ?_
    refine g_sld C E dL_law_516 (vin (k := 1) (by omega) (by omega)) rfl ?_
    refine g_aload_n C dL_law_517 rfl rfl rfl ?_
    refine g_iload_n C dL_law_518 rfl rfl rfl ?_
    refine g_iconst C (v := 2) dL_law_519 (by decide) rfl ?_
    refine g_iadd C dL_law_520 rfl ?_
    refine g_sld C E dL_law_521 (vin (k := 2) (by omega) (by omega)) rfl ?_
    refine g_aload_n C dL_law_522 rfl rfl rfl ?_
    refine g_iload_n C dL_law_523 rfl rfl rfl ?_
    refine g_iconst C (v := 3) dL_law_524 (by decide) rfl ?_
    refine g_iadd C dL_law_525 rfl ?_
    refine g_sld C E dL_law_526 (vin (k := 3) (by omega) (by omega)) rfl ?_
    refine k_L_79 C dL_law_527 (Nat.le_of_ble_eq_true rfl) ⟨Nat.le_of_ble_eq_true rfl, Nat.le_of_ble_eq_true rfl⟩ rfl rfl (any_page _ _ _ (Q := fun _ _ => True) (fun _ _ => trivial)) (fun r h => ?_)
    refine g_pop C dL_law_530 rfl rfl ?_
    refine g_aload_n C dL_law_531 rfl rfl rfl ?_
    refine g_aload_n C dL_law_532 rfl rfl rfl ?_
    refine g_iload_n C dL_law_533 rfl rfl rfl ?_
    refine g_iconst C (v := 1) dL_law_534 (by decide) rfl ?_
    refine g_iadd C dL_law_535 rfl ?_
    refine g_sld C E dL_law_536 (vin (k := 1) (by omega) (by omega)) rfl ?_
    refine g_aload_n C dL_law_537 rfl rfl rfl ?_
    refine g_iload_n C dL_law_538 rfl rfl rfl ?_
    refine g_iconst C (v := 2) dL_law_539 (by decide) rfl ?_
    refine g_iadd C dL_law_540 rfl ?_
    refine g_sld C E dL_law_541 (vin (k := 2) (by omega) (by omega)) rfl ?_
    refine g_aload_n C dL_law_542 rfl rfl rfl ?_
    refine g_iload_n C dL_law_543 rfl rfl rfl ?_
    refine g_iconst C (v := 3) dL_law_544 (by decide) rfl ?_
    refine g_iadd C dL_law_545 rfl ?_
    refine g_sld C E dL_law_546 (vin (k := 3) (by omega) (by omega)) rfl ?_
    refine k_L_82 C dL_law_547 (Nat.le_of_ble_eq_true rfl) ⟨Nat.le_of_ble_eq_true rfl, Nat.le_of_ble_eq_true rfl⟩ rfl rfl h (fun r2 h => ?_)
    refine g_pop C dL_law_550 rfl rfl ?_
    refine g_goto C (pc' := 751) dL_law_551 (by decide) ?_
    exact next _ S
  · refine g_tin C dL_law_32 (by omega) (by omega) (off := 522) (by rw [ek]; rfl) (pc' := 554) (by decide) ?_
    refine g_aload_n C dL_law_554 rfl rfl rfl ?_
    refine g_aload_n C dL_law_555 rfl rfl rfl ?_
    refine g_iload_n C dL_law_556 rfl rfl rfl ?_
    refine g_iconst C (v := 1) dL_law_557 (by decide) rfl ?_
    refine g_iadd C dL_law_558 rfl ?_
    refine g_sld C E dL_law_559 (vin (k := 1) (by omega) (by omega)) rfl ?_
    refine g_aload_n C dL_law_560 rfl rfl rfl ?_
    refine g_iload_n C dL_law_561 rfl rfl rfl ?_
    refine g_iconst C (v := 2) dL_law_562 (by decide) rfl ?_
    refine g_iadd C dL_law_563 rfl ?_
    refine g_sld C E dL_law_564 (vin (k := 2) (by omega) (by omega)) rfl ?_
    refine k_L_83 C dL_law_565 (Nat.le_of_ble_eq_true rfl) ⟨Nat.le_of_ble_eq_true rfl, Nat.le_of_ble_eq_true rfl⟩ rfl rfl (sim_program S _ _ (Q := fun _ _ => True) (fun _ => trivial)) (fun r h => ?_)
    refine g_pop C dL_law_568 rfl rfl ?_
    refine g_aload_n C dL_law_569 rfl rfl rfl ?_
    refine g_aload_n C dL_law_570 rfl rfl rfl ?_
    refine g_iload_n C dL_law_571 rfl rfl rfl ?_
    refine g_iconst C (v := 1) dL_law_572 (by decide) rfl ?_
    refine g_iadd C dL_law_573 rfl ?_
    refine g_sld C E dL_law_574 (vin (k := 1) (by omega) (by omega)) rfl ?_
    refine g_aload_n C dL_law_575 rfl rfl rfl ?_
    refine g_iload_n C dL_law_576 rfl rfl rfl ?_
    refine g_iconst C (v := 2) dL_law_577 (by decide) rfl ?_
    refine g_iadd C dL_law_578 rfl ?_
    refine g_sld C E dL_law_579 (vin (k := 2) (by omega) (by omega)) rfl ?_
    refine k_L_86 C dL_law_580 (Nat.le_of_ble_eq_true rfl) ⟨Nat.le_of_ble_eq_true rfl, Nat.le_of_ble_eq_true rfl⟩ rfl rfl h (fun r2 h => ?_)
    refine g_pop C dL_law_583 rfl rfl ?_
    refine g_goto C (pc' := 751) dL_law_584 (by decide) ?_
    exact next _ S
  · refine g_tin C dL_law_32 (by omega) (by omega) (off := 555) (by rw [ek]; rfl) (pc' := 587) (by decide) ?_
    refine g_aload_n C dL_law_587 rfl rfl rfl ?_
    refine g_aload_n C dL_law_588 rfl rfl rfl ?_
    refine g_iload_n C dL_law_589 rfl rfl rfl ?_
    refine g_iconst C (v := 1) dL_law_590 (by decide) rfl ?_
    refine g_iadd C dL_law_591 rfl ?_
    refine g_sld C E dL_law_592 (vin (k := 1) (by omega) (by omega)) rfl ?_
    refine g_aload_n C dL_law_593 rfl rfl rfl ?_
    refine g_iload_n C dL_law_594 rfl rfl rfl ?_
    refine g_iconst C (v := 2) dL_law_595 (by decide) rfl ?_
    refine g_iadd C dL_law_596 rfl ?_
    refine g_sld C E dL_law_597 (vin (k := 2) (by omega) (by omega)) rfl ?_
    refine k_L_87 C dL_law_598 (Nat.le_of_ble_eq_true rfl) ⟨Nat.le_of_ble_eq_true rfl, Nat.le_of_ble_eq_true rfl⟩ rfl rfl (sim_cell S _ _ (Q := fun _ _ => True) (fun _ => trivial)) (fun r h => ?_)
    refine g_pop C dL_law_601 rfl rfl ?_
    refine g_aload_n C dL_law_602 rfl rfl rfl ?_
    refine g_aload_n C dL_law_603 rfl rfl rfl ?_
    refine g_iload_n C dL_law_604 rfl rfl rfl ?_
    refine g_iconst C (v := 1) dL_law_605 (by decide) rfl ?_
    refine g_iadd C dL_law_606 rfl ?_
    refine g_sld C E dL_law_607 (vin (k := 1) (by omega) (by omega)) rfl ?_
    refine g_aload_n C dL_law_608 rfl rfl rfl ?_
    refine g_iload_n C dL_law_609 rfl rfl rfl ?_
    refine g_iconst C (v := 2) dL_law_610 (by decide) rfl ?_
    refine g_iadd C dL_law_611 rfl ?_
    refine g_sld C E dL_law_612 (vin (k := 2) (by omega) (by omega)) rfl ?_
    refine k_L_90 C dL_law_613 (Nat.le_of_ble_eq_true rfl) ⟨Nat.le_of_ble_eq_true rfl, Nat.le_of_ble_eq_true rfl⟩ rfl rfl h (fun r2 h => ?_)
    refine g_pop C dL_law_616 rfl rfl ?_
    refine g_goto C (pc' := 751) dL_law_617 (by decide) ?_
    exact next _ S
  · refine g_tin C dL_law_32 (by omega) (by omega) (off := 588) (by rw [ek]; rfl) (pc' := 620) (by decide) ?_
    refine g_aload_n C dL_law_620 rfl rfl rfl ?_
    refine g_aload_n C dL_law_621 rfl rfl rfl ?_
    refine g_iload_n C dL_law_622 rfl rfl rfl ?_
    refine g_iconst C (v := 1) dL_law_623 (by decide) rfl ?_
    refine g_iadd C dL_law_624 rfl ?_
    refine g_sld C E dL_law_625 (vin (k := 1) (by omega) (by omega)) rfl ?_
    refine k_L_91 C dL_law_626 (Nat.le_of_ble_eq_true rfl) ⟨Nat.le_of_ble_eq_true rfl, Nat.le_of_ble_eq_true rfl⟩ rfl rfl (sim_list S _ (Q := fun _ _ => True) (fun _ => trivial)) (fun r h => ?_)
    refine g_pop C dL_law_629 rfl rfl ?_
    refine g_aload_n C dL_law_630 rfl rfl rfl ?_
    refine g_aload_n C dL_law_631 rfl rfl rfl ?_
    refine g_iload_n C dL_law_632 rfl rfl rfl ?_
    refine g_iconst C (v := 1) dL_law_633 (by decide) rfl ?_
    refine g_iadd C dL_law_634 rfl ?_
    refine g_sld C E dL_law_635 (vin (k := 1) (by omega) (by omega)) rfl ?_
    refine k_L_94 C dL_law_636 (Nat.le_of_ble_eq_true rfl) ⟨Nat.le_of_ble_eq_true rfl, Nat.le_of_ble_eq_true rfl⟩ rfl rfl h (fun r2 h => ?_)
    refine g_pop C dL_law_639 rfl rfl ?_
    refine g_goto C (pc' := 751) dL_law_640 (by decide) ?_
    exact next _ S
  · refine g_tin C dL_law_32 (by omega) (by omega) (off := 611) (by rw [ek]; rfl) (pc' := 643) (by decide) ?_
    refine g_aload_n C dL_law_643 rfl rfl rfl ?_
    refine k_L_95 C dL_law_644 (Nat.le_of_ble_eq_true rfl) ⟨Nat.le_of_ble_eq_true rfl, Nat.le_of_ble_eq_true rfl⟩ rfl rfl (sim_next S  (Q := fun _ _ => True) (fun _ => trivial)) (fun r h => ?_)
    refine g_pop C dL_law_647 rfl rfl ?_
    refine g_aload_n C dL_law_648 rfl rfl rfl ?_
    refine k_L_98 C dL_law_649 (Nat.le_of_ble_eq_true rfl) ⟨Nat.le_of_ble_eq_true rfl, Nat.le_of_ble_eq_true rfl⟩ rfl rfl h (fun r2 h => ?_)
    refine g_pop C dL_law_652 rfl rfl ?_
    refine g_goto C (pc' := 751) dL_law_653 (by decide) ?_
    exact next _ S
  · refine g_tin C dL_law_32 (by omega) (by omega) (off := 624) (by rw [ek]; rfl) (pc' := 656) (by decide) ?_
    refine g_aload_n C dL_law_656 rfl rfl rfl ?_
    refine g_aload_n C dL_law_657 rfl rfl rfl ?_
    refine g_iload_n C dL_law_658 rfl rfl rfl ?_
    refine g_iconst C (v := 1) dL_law_659 (by decide) rfl ?_
    refine g_iadd C dL_law_660 rfl ?_
    refine g_sld C E dL_law_661 (vin (k := 1) (by omega) (by omega)) rfl ?_
    refine k_L_99 C dL_law_662 (Nat.le_of_ble_eq_true rfl) ⟨Nat.le_of_ble_eq_true rfl, Nat.le_of_ble_eq_true rfl⟩ rfl rfl (sim_reason S _ (Q := fun _ _ => True) (fun _ => trivial)) (fun r h => ?_)
    refine g_pop C dL_law_665 rfl rfl ?_
    refine g_aload_n C dL_law_666 rfl rfl rfl ?_
    refine g_aload_n C dL_law_667 rfl rfl rfl ?_
    refine g_iload_n C dL_law_668 rfl rfl rfl ?_
    refine g_iconst C (v := 1) dL_law_669 (by decide) rfl ?_
    refine g_iadd C dL_law_670 rfl ?_
    refine g_sld C E dL_law_671 (vin (k := 1) (by omega) (by omega)) rfl ?_
    refine k_L_102 C dL_law_672 (Nat.le_of_ble_eq_true rfl) ⟨Nat.le_of_ble_eq_true rfl, Nat.le_of_ble_eq_true rfl⟩ rfl rfl h (fun r2 h => ?_)
    refine g_pop C dL_law_675 rfl rfl ?_
    refine g_goto C (pc' := 751) dL_law_676 (by decide) ?_
    exact next _ S
  · refine g_tin C dL_law_32 (by omega) (by omega) (off := 647) (by rw [ek]; rfl) (pc' := 679) (by decide) ?_
    refine g_aload_n C dL_law_679 rfl rfl rfl ?_
    refine g_aload_n C dL_law_680 rfl rfl rfl ?_
    refine g_iload_n C dL_law_681 rfl rfl rfl ?_
    refine g_iconst C (v := 1) dL_law_682 (by decide) rfl ?_
    refine g_iadd C dL_law_683 rfl ?_
    refine g_sld C E dL_law_684 (vin (k := 1) (by omega) (by omega)) rfl ?_
    refine k_L_103 C dL_law_685 (Nat.le_of_ble_eq_true rfl) ⟨Nat.le_of_ble_eq_true rfl, Nat.le_of_ble_eq_true rfl⟩ rfl rfl (sim_errorsLeft S _ (Q := fun _ _ => True) (fun _ => trivial)) (fun r h => ?_)
    refine g_pop C dL_law_688 rfl rfl ?_
    refine g_aload_n C dL_law_689 rfl rfl rfl ?_
    refine g_aload_n C dL_law_690 rfl rfl rfl ?_
    refine g_iload_n C dL_law_691 rfl rfl rfl ?_
    refine g_iconst C (v := 1) dL_law_692 (by decide) rfl ?_
    refine g_iadd C dL_law_693 rfl ?_
    refine g_sld C E dL_law_694 (vin (k := 1) (by omega) (by omega)) rfl ?_
    refine k_L_106 C dL_law_695 (Nat.le_of_ble_eq_true rfl) ⟨Nat.le_of_ble_eq_true rfl, Nat.le_of_ble_eq_true rfl⟩ rfl rfl h (fun r2 h => ?_)
    refine g_pop C dL_law_698 rfl rfl ?_
    refine g_goto C (pc' := 751) dL_law_699 (by decide) ?_
    exact next _ S
  · refine g_tin C dL_law_32 (by omega) (by omega) (off := 670) (by rw [ek]; rfl) (pc' := 702) (by decide) ?_
    refine g_aload_n C dL_law_702 rfl rfl rfl ?_
    refine k_L_107 C dL_law_703 (Nat.le_of_ble_eq_true rfl) ⟨Nat.le_of_ble_eq_true rfl, Nat.le_of_ble_eq_true rfl⟩ rfl rfl (sim_worst S  (Q := fun _ _ => True) (fun _ => trivial)) (fun r h => ?_)
    refine g_pop C dL_law_706 rfl rfl ?_
    refine g_aload_n C dL_law_707 rfl rfl rfl ?_
    refine k_L_110 C dL_law_708 (Nat.le_of_ble_eq_true rfl) ⟨Nat.le_of_ble_eq_true rfl, Nat.le_of_ble_eq_true rfl⟩ rfl rfl h (fun r2 h => ?_)
    refine g_pop C dL_law_711 rfl rfl ?_
    refine g_goto C (pc' := 751) dL_law_712 (by decide) ?_
    exact next _ S
  · refine g_tin C dL_law_32 (by omega) (by omega) (off := 683) (by rw [ek]; rfl) (pc' := 715) (by decide) ?_
    refine g_aload_n C dL_law_715 rfl rfl rfl ?_
    refine k_L_111 C dL_law_716 (Nat.le_of_ble_eq_true rfl) ⟨Nat.le_of_ble_eq_true rfl, Nat.le_of_ble_eq_true rfl⟩ rfl rfl (sim_ifStarted S  (Q := fun _ _ => True) (fun _ => trivial)) (fun r h => ?_)
    refine g_pop C dL_law_719 rfl rfl ?_
    refine g_aload_n C dL_law_720 rfl rfl rfl ?_
    refine k_L_114 C dL_law_721 (Nat.le_of_ble_eq_true rfl) ⟨Nat.le_of_ble_eq_true rfl, Nat.le_of_ble_eq_true rfl⟩ rfl rfl h (fun r2 h => ?_)
    refine g_pop C dL_law_724 rfl rfl ?_
    refine g_goto C (pc' := 751) dL_law_725 (by decide) ?_
    exact next _ S
  · refine g_tin C dL_law_32 (by omega) (by omega) (off := 696) (by rw [ek]; rfl) (pc' := 728) (by decide) ?_
    refine g_aload_n C dL_law_728 rfl rfl rfl ?_
    refine g_aload_n C dL_law_729 rfl rfl rfl ?_
    refine g_iload_n C dL_law_730 rfl rfl rfl ?_
    refine g_iconst C (v := 1) dL_law_731 (by decide) rfl ?_
    refine g_iadd C dL_law_732 rfl ?_
    refine g_sld C E dL_law_733 (vin (k := 1) (by omega) (by omega)) rfl ?_
    refine k_L_115 C dL_law_734 (Nat.le_of_ble_eq_true rfl) ⟨Nat.le_of_ble_eq_true rfl, Nat.le_of_ble_eq_true rfl⟩ rfl rfl (sim_count S _ (Q := fun r r' => r = r') (fun _ => rfl)) (fun r h => ?_)
    refine g_aload_n C dL_law_737 rfl rfl rfl ?_
    refine g_aload_n C dL_law_738 rfl rfl rfl ?_
    refine g_iload_n C dL_law_739 rfl rfl rfl ?_
    refine g_iconst C (v := 1) dL_law_740 (by decide) rfl ?_
    refine g_iadd C dL_law_741 rfl ?_
    refine g_sld C E dL_law_742 (vin (k := 1) (by omega) (by omega)) rfl ?_
    refine k_L_118 C dL_law_743 (Nat.le_of_ble_eq_true rfl) ⟨Nat.le_of_ble_eq_true rfl, Nat.le_of_ble_eq_true rfl⟩ rfl rfl h (fun r2 h => ?_)
    exact g_icmp_eq C (tgt := 751) dL_law_746 (by decide) rfl (fun _ => next _ S) (fun w => absurd h w)
theorem law_run {V : EV} {X : CX} {b n : Nat} {xs : Nat → Int32} (C : OK V X RL code 4 room_1) (E : LX X b n xs) (hn : n ≤ 2048) : GG V X ini2 16 [some (.ref b), some (.ref (ad V 84)), some (.ref (ad V 93)), none] [] := by
  refine g_iconst C (v := 0) dL_law_16 (by decide) rfl ?_
  refine g_istore_n C dL_law_17 rfl (Nat.le_of_ble_eq_true rfl) rfl rfl ?_
  exact law_loop C E hn (n + 1) 0 ini2 SS_first (by omega) (by omega)
