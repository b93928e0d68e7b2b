/-! CALLS over the fixed world -/
theorem aw_goodIn {y : MethodName} {cc : ByteArray} {nL : Nat} {ret : Option FieldType} (co : Cond.code y cc nL ret ∈ AW) : GoodIn AW (.code y cc nL ret :: AW) := by
  intro w hw
  have h : w ∈ AW := by
    rcases List.mem_cons.mp hw with rfl | h
    · exact co
    · exact h
  exact ⟨h, good_of_word (aw_good h)⟩
theorem wP_blind (V : EV) (σ : Mem) (av : List Value) (w : Prop) : FrameBlind (va_Pc av (fun U => wP V σ U ∧ w)) := by
  intro a U g mk h
  obtain ⟨h1, ⟨h2, h3, h4⟩, h5⟩ := h
  exact ⟨h1, ⟨h2, h3.same rfl, h4⟩, h5⟩
theorem wP_of {V : EV} {σ : Mem} {s U : State} {H : Heap} (hP : va_P V.1 clv (wsOf V σ) H) (hT : TK V s) (hI : INJ V) (hU : U.heap = H) (hW : s.WarmedH U.vm) : wP V σ U := ⟨by rw [hU]; exact hP, hT.warm hW, hI⟩
theorem g_callVi {V : EV} {X : CX} {own : String} {cc : ByteArray} {nL : Nat} {R : Room} (C : OK V X own cc nL R) {σ : Mem} {pc pc' : Nat} {L : List (Option Value)} {st : List Value} {y : MethodName} {idx maxL n id ci : Nat} {bytes : ByteArray} {ret : Option FieldType} {R' : Room} {q : vw_C} {fs : List Value} {av : List Value} {w : Prop} {P : Int32 → Mem → Prop} (hM : ∀ l, Met l y (.code y bytes maxL ret :: AW) R' (va_Pc (.ref (ad V id) :: av) (fun U => wP V σ U ∧ w)) (va_Qi P (wB V) (AA V)) 0 0 (AA V)) (hid : id < 100) (he : ent V σ id = .inr (ci, fs)) (hc : clv[ci]? = some q) (hq : q.1 = y.cls) (ml : Cond.methodLink own idx y ∈ AW) (im : Cond.instanceMethod y ∈ AW) (se : Cond.selects y.cls y y ∈ AW) (ini : Cond.initialized y.cls ∈ AW) (co : Cond.code y bytes maxL ret ∈ AW) (hd : y.cls ≠ "java/lang/invoke/MethodHandle" ∧ y.cls ≠ "java/lang/invoke/VarHandle" ∧ (parseMethodDescriptor y.desc).map (fun d => d.parameters.length) = some n) (hn : av.length = n) (h0 : R'.cells = 0 ∧ R'.slots = 0) (hr : R'.frames + 1 ≤ R.frames ∧ 8 + (maxL + 11) + R'.locals ≤ R.locals) (hst : (st.map fun v => v.category).sum ≤ 8) (d : decode cc pc = .ok (.invokevirtual idx, 3)) (hL : L.length = nL) (hp : pc + 3 = pc') (hw : w) (k : ∀ r τ, P r τ → GG V X τ pc' L (.int r :: st)) : GG V X σ pc L (av.reverse ++ .ref (ad V id) :: st) := by
  obtain ⟨p, l, e, R0, s, m, args, below, meth, c, A, kc, ks, Q⟩ := X
  obtain ⟨rfl, hx, hb, hml, hown, hts, hT, hI, hA, hk1, hk2⟩ := C
  subst hp
  intro H locs ls hP hS hls
  have hG : GoodIn AW (wsV own idx y.cls y (.code y bytes maxL ret :: AW)) := by
    intro w hw
    have h : w ∈ AW := by
      simp only [wsV, List.mem_append, List.mem_cons, List.not_mem_nil, or_false] at hw
      rcases hw with (rfl | rfl | rfl | rfl) | rfl | h
      · exact ml
      · exact im
      · exact se
      · exact ini
      · exact co
      · exact h
    exact ⟨h, good_of_word (aw_good h)⟩
  have cw := cwV (R := R0) (Ts := AW) (ws' := AW) (rm := R') (mc := 0) (ms := 0) n hts hG rfl h0.1 h0.2 ⟨rfl, hd⟩ hr
  have hrecv := va_recv hT.1 hP hc (ws_e hid he)
  rw [hq] at hrecv
  refine va_calli (va_runV (As := av) (rest := st) ⟨hx, hb, hml, hown, hts⟩ (hM l) cw ⟨wP_blind V σ _ w, hrecv, fun U hU hW => ⟨rfl, wP_of hP hT hI hU hW, hw⟩⟩ rfl hn (hls.1.trans hL) rfl (lv_room hst) d ⟨by omega, by omega⟩) hS (fun q _ h => by obtain ⟨j, hj, rfl⟩ := h; exact hA j hj) (fun q h => by obtain ⟨j, hj, rfl⟩ := h; exact hA j hj) (fun r τ t H1 locs1 ht hvm hpost hB hz hk1 hS1 => ?_)
  exact k r τ hpost H1 locs1 ls (by rw [← ht]; exact hB) hS1 hls
theorem g_callVv {V : EV} {X : CX} {own : String} {cc : ByteArray} {nL : Nat} {R : Room} (C : OK V X own cc nL R) {σ : Mem} {pc pc' : Nat} {L : List (Option Value)} {st : List Value} {y : MethodName} {idx maxL n id ci : Nat} {bytes : ByteArray} {ret : Option FieldType} {R' : Room} {q : vw_C} {fs : List Value} {av : List Value} {w : Prop} {P : Mem → Prop} (hM : ∀ l, Met l y (.code y bytes maxL ret :: AW) R' (va_Pc (.ref (ad V id) :: av) (fun U => wP V σ U ∧ w)) (va_Qv P (wB V) (AA V)) 0 0 (AA V)) (hid : id < 100) (he : ent V σ id = .inr (ci, fs)) (hc : clv[ci]? = some q) (hq : q.1 = y.cls) (ml : Cond.methodLink own idx y ∈ AW) (im : Cond.instanceMethod y ∈ AW) (se : Cond.selects y.cls y y ∈ AW) (ini : Cond.initialized y.cls ∈ AW) (co : Cond.code y bytes maxL ret ∈ AW) (hd : y.cls ≠ "java/lang/invoke/MethodHandle" ∧ y.cls ≠ "java/lang/invoke/VarHandle" ∧ (parseMethodDescriptor y.desc).map (fun d => d.parameters.length) = some n) (hn : av.length = n) (h0 : R'.cells = 0 ∧ R'.slots = 0) (hr : R'.frames + 1 ≤ R.frames ∧ 8 + (maxL + 11) + R'.locals ≤ R.locals) (hst : (st.map fun v => v.category).sum ≤ 8) (d : decode cc pc = .ok (.invokevirtual idx, 3)) (hL : L.length = nL) (hp : pc + 3 = pc') (hw : w) (k : ∀ τ, P τ → GG V X τ pc' L st) : GG V X σ pc L (av.reverse ++ .ref (ad V id) :: st) := by
  obtain ⟨p, l, e, R0, s, m, args, below, meth, c, A, kc, ks, Q⟩ := X
  obtain ⟨rfl, hx, hb, hml, hown, hts, hT, hI, hA, hk1, hk2⟩ := C
  subst hp
  intro H locs ls hP hS hls
  have hG : GoodIn AW (wsV own idx y.cls y (.code y bytes maxL ret :: AW)) := by
    intro w hw
    have h : w ∈ AW := by
      simp only [wsV, List.mem_append, List.mem_cons, List.not_mem_nil, or_false] at hw
      rcases hw with (rfl | rfl | rfl | rfl) | rfl | h
      · exact ml
      · exact im
      · exact se
      · exact ini
      · exact co
      · exact h
    exact ⟨h, good_of_word (aw_good h)⟩
  have cw := cwV (R := R0) (Ts := AW) (ws' := AW) (rm := R') (mc := 0) (ms := 0) n hts hG rfl h0.1 h0.2 ⟨rfl, hd⟩ hr
  have hrecv := va_recv hT.1 hP hc (ws_e hid he)
  rw [hq] at hrecv
  refine va_callv (va_runV (As := av) (rest := st) ⟨hx, hb, hml, hown, hts⟩ (hM l) cw ⟨wP_blind V σ _ w, hrecv, fun U hU hW => ⟨rfl, wP_of hP hT hI hU hW, hw⟩⟩ rfl hn (hls.1.trans hL) rfl (lv_room hst) d ⟨by omega, by omega⟩) hS (fun q _ h => by obtain ⟨j, hj, rfl⟩ := h; exact hA j hj) (fun q h => by obtain ⟨j, hj, rfl⟩ := h; exact hA j hj) (fun τ t H1 locs1 ht hvm hpost hB hz hk1 hS1 => ?_)
  exact k τ hpost H1 locs1 ls (by rw [← ht]; exact hB) hS1 hls
theorem aw_wsS {own : String} {idx : Nat} {y : MethodName} {bytes : ByteArray} {maxL : Nat} {ret : Option FieldType} (ml : Cond.methodLink own idx y ∈ AW) (stt : Cond.static y ∈ AW) (ini : Cond.initialized own ∈ AW) (co : Cond.code y bytes maxL ret ∈ AW) : GoodIn AW (wsS own idx y (.code y bytes maxL ret :: AW)) := by
  intro w hw
  have h : w ∈ AW := by
    simp only [wsS, List.mem_append, List.mem_cons, List.not_mem_nil, or_false] at hw
    rcases hw with (rfl | rfl | rfl) | rfl | h
    · exact ml
    · exact stt
    · exact ini
    · exact co
    · exact h
  exact ⟨h, good_of_word (aw_good h)⟩
theorem g_callSi {V : EV} {X : CX} {own : String} {cc : ByteArray} {nL : Nat} {R : Room} (C : OK V X own cc nL R) {σ : Mem} {pc pc' : Nat} {L : List (Option Value)} {st : List Value} {y : MethodName} {idx maxL n : Nat} {bytes : ByteArray} {ret : Option FieldType} {R' : Room} {av : List Value} {w : Prop} {P : Int32 → Mem → Prop} (hM : ∀ l, Met l y (.code y bytes maxL ret :: AW) R' (va_Pc av (fun U => wP V σ U ∧ w)) (va_Qi P (wB V) (AA V)) 0 0 (AA V)) (ml : Cond.methodLink own idx y ∈ AW) (stt : Cond.static y ∈ AW) (ini : Cond.initialized own ∈ AW) (co : Cond.code y bytes maxL ret ∈ AW) (hd : y.cls = own ∧ y.cls ≠ "java/lang/invoke/MethodHandle" ∧ y.cls ≠ "java/lang/invoke/VarHandle" ∧ (parseMethodDescriptor y.desc).map (fun d => d.parameters.length) = some n) (hn : av.length = n) (h0 : R'.cells = 0 ∧ R'.slots = 0) (hr : R'.frames + 1 ≤ R.frames ∧ 8 + (maxL + 11) + R'.locals ≤ R.locals) (hst : (st.map fun v => v.category).sum ≤ 8) (d : decode cc pc = .ok (.invokestatic idx, 3)) (hL : L.length = nL) (hp : pc + 3 = pc') (hw : w) (k : ∀ r τ, P r τ → GG V X τ pc' L (.int r :: st)) : GG V X σ pc L (av.reverse ++ st) := by
  obtain ⟨p, l, e, R0, s, m, args, below, meth, c, A, kc, ks, Q⟩ := X
  obtain ⟨rfl, hx, hb, hml, hown, hts, hT, hI, hA, hk1, hk2⟩ := C
  subst hp
  intro H locs ls hP hS hls
  have cw := cwS (R := R0) (Ts := AW) (ws' := AW) (rm := R') (mc := 0) (ms := 0) n hts (aw_wsS ml stt ini co) rfl h0.1 h0.2 hd hr
  refine va_calli (va_runS (As := av) (rest := st) ⟨hx, hb, hml, hown, hts⟩ (hM l) cw ⟨wP_blind V σ _ w, fun U hU hW => ⟨rfl, wP_of hP hT hI hU hW, hw⟩⟩ rfl hn (hls.1.trans hL) rfl (lv_room hst) d ⟨by omega, by omega⟩) hS (fun q _ h => by obtain ⟨j, hj, rfl⟩ := h; exact hA j hj) (fun q h => by obtain ⟨j, hj, rfl⟩ := h; exact hA j hj) (fun r τ t H1 locs1 ht hvm hpost hB hz hk1 hS1 => ?_)
  exact k r τ hpost H1 locs1 ls (by rw [← ht]; exact hB) hS1 hls
theorem g_callSv {V : EV} {X : CX} {own : String} {cc : ByteArray} {nL : Nat} {R : Room} (C : OK V X own cc nL R) {σ : Mem} {pc pc' : Nat} {L : List (Option Value)} {st : List Value} {y : MethodName} {idx maxL n : Nat} {bytes : ByteArray} {ret : Option FieldType} {R' : Room} {av : List Value} {w : Prop} {P : Mem → Prop} (hM : ∀ l, Met l y (.code y bytes maxL ret :: AW) R' (va_Pc av (fun U => wP V σ U ∧ w)) (va_Qv P (wB V) (AA V)) 0 0 (AA V)) (ml : Cond.methodLink own idx y ∈ AW) (stt : Cond.static y ∈ AW) (ini : Cond.initialized own ∈ AW) (co : Cond.code y bytes maxL ret ∈ AW) (hd : y.cls = own ∧ y.cls ≠ "java/lang/invoke/MethodHandle" ∧ y.cls ≠ "java/lang/invoke/VarHandle" ∧ (parseMethodDescriptor y.desc).map (fun d => d.parameters.length) = some n) (hn : av.length = n) (h0 : R'.cells = 0 ∧ R'.slots = 0) (hr : R'.frames + 1 ≤ R.frames ∧ 8 + (maxL + 11) + R'.locals ≤ R.locals) (hst : (st.map fun v => v.category).sum ≤ 8) (d : decode cc pc = .ok (.invokestatic idx, 3)) (hL : L.length = nL) (hp : pc + 3 = pc') (hw : w) (k : ∀ τ, P τ → GG V X τ pc' L st) : GG V X σ pc L (av.reverse ++ st) := by
  obtain ⟨p, l, e, R0, s, m, args, below, meth, c, A, kc, ks, Q⟩ := X
  obtain ⟨rfl, hx, hb, hml, hown, hts, hT, hI, hA, hk1, hk2⟩ := C
  subst hp
  intro H locs ls hP hS hls
  have cw := cwS (R := R0) (Ts := AW) (ws' := AW) (rm := R') (mc := 0) (ms := 0) n hts (aw_wsS ml stt ini co) rfl h0.1 h0.2 hd hr
  refine va_callv (va_runS (As := av) (rest := st) ⟨hx, hb, hml, hown, hts⟩ (hM l) cw ⟨wP_blind V σ _ w, fun U hU hW => ⟨rfl, wP_of hP hT hI hU hW, hw⟩⟩ rfl hn (hls.1.trans hL) rfl (lv_room hst) d ⟨by omega, by omega⟩) hS (fun q _ h => by obtain ⟨j, hj, rfl⟩ := h; exact hA j hj) (fun q h => by obtain ⟨j, hj, rfl⟩ := h; exact hA j hj) (fun τ t H1 locs1 ht hvm hpost hB hz hk1 hS1 => ?_)
  exact k τ hpost H1 locs1 ls (by rw [← ht]; exact hB) hS1 hls
theorem g_callNi {V : EV} {X : CX} {own host : String} {cc : ByteArray} {nL : Nat} {R : Room} (C : OK V X own cc nL R) {σ : Mem} {pc pc' : Nat} {L : List (Option Value)} {st : List Value} {y : MethodName} {idx maxL n : Nat} {bytes : ByteArray} {ret : Option FieldType} {R' : Room} {av : List Value} {w : Prop} {P : Int32 → Mem → Prop} (hM : ∀ l, Met l y (.code y bytes maxL ret :: AW) R' (va_Pc av (fun U => wP V σ U ∧ w)) (va_Qi P (wB V) (AA V)) 0 0 (AA V)) (nl : ∀ U, TK V U → va_Nw (.methodLinkNest own idx y host) U) (stt : Cond.static y ∈ AW) (ini : Cond.initialized y.cls ∈ AW) (co : Cond.code y bytes maxL ret ∈ AW) (hd : y.cls ≠ "java/lang/invoke/MethodHandle" ∧ y.cls ≠ "java/lang/invoke/VarHandle" ∧ (parseMethodDescriptor y.desc).map (fun d => d.parameters.length) = some n) (hn : av.length = n) (h0 : R'.cells = 0 ∧ R'.slots = 0) (hr : R'.frames + 1 ≤ R.frames ∧ 8 + (maxL + 11) + R'.locals ≤ R.locals) (hst : (st.map fun v => v.category).sum ≤ 8) (d : decode cc pc = .ok (.invokestatic idx, 3)) (hL : L.length = nL) (hp : pc + 3 = pc') (hw : w) (k : ∀ r τ, P r τ → GG V X τ pc' L (.int r :: st)) : GG V X σ pc L (av.reverse ++ st) := by
  obtain ⟨p, l, e, R0, s, m, args, below, meth, c, A, kc, ks, Q⟩ := X
  obtain ⟨rfl, hx, hb, hml, hown, hts, hT, hI, hA, hk1, hk2⟩ := C
  subst hp
  intro H locs ls hP hS hls
  have cw := va_cnB (R := R0) (Ts := AW) (ws' := AW) (rm := R') (mc := 0) (ms := 0) n hts (aw_goodIn co) rfl h0.1 h0.2 (nl s hT) (hts _ ini) hd hr
  refine va_calli (va_runSN (As := av) (rest := st) ⟨hx, hb, hml, hown, hts⟩ (hM l) ⟨cw, hts _ stt, trivial⟩ ⟨wP_blind V σ _ w, fun U hU hW => ⟨rfl, wP_of hP hT hI hU hW, hw⟩⟩ rfl hn (hls.1.trans hL) rfl (lv_room hst) d ⟨by omega, by omega⟩) hS (fun q _ h => by obtain ⟨j, hj, rfl⟩ := h; exact hA j hj) (fun q h => by obtain ⟨j, hj, rfl⟩ := h; exact hA j hj) (fun r τ t H1 locs1 ht hvm hpost hB hz hk1 hS1 => ?_)
  exact k r τ hpost H1 locs1 ls (by rw [← ht]; exact hB) hS1 hls
/-- System.arraycopy of a whole array of ints, or booleans -/
theorem g_copy {V : EV} {X : CX} {own : String} {cc : ByteArray} {nL : Nat} {R : Room} (C : OK V X own cc nL R) {σ : Mem} {pc pc' : Nat} {L : List (Option Value)} {st : List Value} {idx a b n tq : Nat} {cls : ClassId} {ty : FieldType} {z : Int32} (ha : a < 100) (hb' : b < 100) (hea : ent V σ a = .inl (cls, n, .inl (σ a))) (heb : ∀ τ, ent V τ b = .inl (cls, n, .inl (τ b))) (ht : (tyv V)[tq]? = some (cls, ty)) (hprim : refKind ty = false) (hz : z.toNatClampNeg = n) (hz0 : ¬ z < 0) (hfit : ∀ i, i < n → fits ty (.int (σ a i)) = true) (ml : Cond.methodLink own idx arraycopyName ∈ AW) (hR : 1 ≤ R.frames ∧ (st.map fun v => v.category).sum + (nativeFrameWords "java/lang/System" "arraycopy" 5 + 11) ≤ R.locals) (d : decode cc pc = .ok (.invokestatic idx, 3)) (hL : L.length = nL) {f : Mem → Prop} (hp : pc + 3 = pc') (h : bm (cpA σ a b n) f) (k : ∀ τ, f τ → GG V X τ pc' L st) : GG V X σ pc L (.int z :: .int 0 :: .ref (ad V b) :: .int 0 :: .ref (ad V a) :: st) := by
  obtain ⟨p, l, e, R0, s, m, args, below, meth, c, A, kc, ks, Q⟩ := X
  obtain ⟨rfl, hx, hb, hml, hown, hts, hT, hI, hA, hk1, hk2⟩ := C
  subst hp
  intro H locs ls hP hS hls
  have hD := ws_D hI hA σ
  refine va_copyi hx hb (by rw [hml, hls.1, hL]) hown (hts _ ml) (hts _ na_arraycopyName) (hts _ st_arraycopyName) (hts _ ini_System) hT.1 hP hD hS a b tq tq (ws_e ha hea) (ws_e hb' (heb σ)) ht ht hprim (sp := 0) (dp := 0) (n := z) (by decide) (by decide) hz0 (by rw [hz]; show 0 + n ≤ n; omega) (by rw [hz]; show 0 + n ≤ n; omega) (fun i hi => by rw [hz] at hi; show fits ty (.int (σ a (0 + i))) = true; rw [Nat.zero_add]; exact hfit i hi) hR.1 hR.2 d (fun H1 locs1 hP1 hD1 hS1 => ?_)
  rw [hz] at hP1
  rw [ws_set V (τ := cpA σ a b n) hb' (by rw [heb, cpA_eq]; rfl) (fun j hj => cpA_ne σ hj)] at hP1
  exact k _ h H1 locs1 ls hP1 hS1 hls
