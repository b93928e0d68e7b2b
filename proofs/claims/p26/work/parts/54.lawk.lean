/-! the law: its calls, its instructions -/
theorem k_L_13 {V : EV} {X : CX} {cc : ByteArray} {nL : Nat} {R : Room} {y1 : Int32} {y2 : Int32} {y3 : Int32} (C : OK V X RL cc nL R) {σ : Mem} {pc pc' : Nat} {L : List (Option Value)} {st : List Value} {P : Int32 → Mem → Prop} (d : decode cc pc = .ok (.invokevirtual 13, 3)) (hst : (st.map fun v => v.category).sum ≤ 8) (hr : 5 + 1 ≤ R.frames ∧ 8 + (4 + 11) + 114 ≤ R.locals) (hL : L.length = nL) (hp : pc + 3 = pc') (h : wp_X4_write σ y1 y2 y3 P) (k : ∀ r τ, P r τ → GG V X τ pc' L (.int r :: st)) : GG V X σ pc L (.int y3 :: .int y2 :: .int y1 :: .ref (ad V 84) :: st) :=
  g_callVi C (av := [.int y1, .int y2, .int y3]) (fun l => c_X4_write V σ y1 y2 y3 P l) (by decide) (en_84 V σ) (q := (RX4, TX4, 9)) rfl rfl ml_RL_13 im_X4_write se_X4_write ini_RX4 co_X4_write hd_X4_write rfl ⟨rfl, rfl⟩ hr hst d hL hp h k

theorem k_L_18 {V : EV} {X : CX} {cc : ByteArray} {nL : Nat} {R : Room} {y1 : Int32} {y2 : Int32} (C : OK V X RL cc nL R) {σ : Mem} {pc pc' : Nat} {L : List (Option Value)} {st : List Value} {P : Int32 → Mem → Prop} (d : decode cc pc = .ok (.invokevirtual 18, 3)) (hst : (st.map fun v => v.category).sum ≤ 8) (hr : 5 + 1 ≤ R.frames ∧ 8 + (3 + 11) + 113 ≤ R.locals) (hL : L.length = nL) (hp : pc + 3 = pc') (h : wp_X4_giveBack σ y1 y2 P) (k : ∀ r τ, P r τ → GG V X τ pc' L (.int r :: st)) : GG V X σ pc L (.int y2 :: .int y1 :: .ref (ad V 84) :: st) :=
  g_callVi C (av := [.int y1, .int y2]) (fun l => c_X4_giveBack V σ y1 y2 P l) (by decide) (en_84 V σ) (q := (RX4, TX4, 9)) rfl rfl ml_RL_18 im_X4_giveBack se_X4_giveBack ini_RX4 co_X4_giveBack hd_X4_giveBack rfl ⟨rfl, rfl⟩ hr hst d hL hp h k

theorem k_L_23 {V : EV} {X : CX} {cc : ByteArray} {nL : Nat} {R : Room} {y1 : Int32} {y2 : Int32} {y3 : Int32} (C : OK V X RL cc nL R) {σ : Mem} {pc pc' : Nat} {L : List (Option Value)} {st : List Value} {P : Int32 → Mem → Prop} (d : decode cc pc = .ok (.invokevirtual 23, 3)) (hst : (st.map fun v => v.category).sum ≤ 8) (hr : 5 + 1 ≤ R.frames ∧ 8 + (4 + 11) + 113 ≤ R.locals) (hL : L.length = nL) (hp : pc + 3 = pc') (h : wp_X4_pin σ y1 y2 y3 P) (k : ∀ r τ, P r τ → GG V X τ pc' L (.int r :: st)) : GG V X σ pc L (.int y3 :: .int y2 :: .int y1 :: .ref (ad V 84) :: st) :=
  g_callVi C (av := [.int y1, .int y2, .int y3]) (fun l => c_X4_pin V σ y1 y2 y3 P l) (by decide) (en_84 V σ) (q := (RX4, TX4, 9)) rfl rfl ml_RL_23 im_X4_pin se_X4_pin ini_RX4 co_X4_pin hd_X4_pin rfl ⟨rfl, rfl⟩ hr hst d hL hp h k

theorem k_L_28 {V : EV} {X : CX} {cc : ByteArray} {nL : Nat} {R : Room} {y1 : Int32} (C : OK V X RL cc nL R) {σ : Mem} {pc pc' : Nat} {L : List (Option Value)} {st : List Value} {P : Int32 → Mem → Prop} (d : decode cc pc = .ok (.invokevirtual 28, 3)) (hst : (st.map fun v => v.category).sum ≤ 8) (hr : 5 + 1 ≤ R.frames ∧ 8 + (2 + 11) + 112 ≤ R.locals) (hL : L.length = nL) (hp : pc + 3 = pc') (h : wp_X4_error σ y1 P) (k : ∀ r τ, P r τ → GG V X τ pc' L (.int r :: st)) : GG V X σ pc L (.int y1 :: .ref (ad V 84) :: st) :=
  g_callVi C (av := [.int y1]) (fun l => c_X4_error V σ y1 P l) (by decide) (en_84 V σ) (q := (RX4, TX4, 9)) rfl rfl ml_RL_28 im_X4_error se_X4_error ini_RX4 co_X4_error hd_X4_error rfl ⟨rfl, rfl⟩ hr hst d hL hp h k

theorem k_L_33 {V : EV} {X : CX} {cc : ByteArray} {nL : Nat} {R : Room} {y1 : Int32} (C : OK V X RL cc nL R) {σ : Mem} {pc pc' : Nat} {L : List (Option Value)} {st : List Value} {P : Int32 → Mem → Prop} (d : decode cc pc = .ok (.invokevirtual 33, 3)) (hst : (st.map fun v => v.category).sum ≤ 8) (hr : 5 + 1 ≤ R.frames ∧ 8 + (2 + 11) + 113 ≤ R.locals) (hL : L.length = nL) (hp : pc + 3 = pc') (h : wp_X4_hardError σ y1 P) (k : ∀ r τ, P r τ → GG V X τ pc' L (.int r :: st)) : GG V X σ pc L (.int y1 :: .ref (ad V 84) :: st) :=
  g_callVi C (av := [.int y1]) (fun l => c_X4_hardError V σ y1 P l) (by decide) (en_84 V σ) (q := (RX4, TX4, 9)) rfl rfl ml_RL_33 im_X4_hardError se_X4_hardError ini_RX4 co_X4_hardError hd_X4_hardError rfl ⟨rfl, rfl⟩ hr hst d hL hp h k

theorem k_L_37 {V : EV} {X : CX} {cc : ByteArray} {nL : Nat} {R : Room} (C : OK V X RL cc nL R) {σ : Mem} {pc pc' : Nat} {L : List (Option Value)} {st : List Value} {P : Int32 → Mem → Prop} (d : decode cc pc = .ok (.invokevirtual 37, 3)) (hst : (st.map fun v => v.category).sum ≤ 8) (hr : 5 + 1 ≤ R.frames ∧ 8 + (1 + 11) + 112 ≤ R.locals) (hL : L.length = nL) (hp : pc + 3 = pc') (h : wp_X4_start σ P) (k : ∀ r τ, P r τ → GG V X τ pc' L (.int r :: st)) : GG V X σ pc L (.ref (ad V 84) :: st) :=
  g_callVi C (av := []) (fun l => c_X4_start V σ P l) (by decide) (en_84 V σ) (q := (RX4, TX4, 9)) rfl rfl ml_RL_37 im_X4_start se_X4_start ini_RX4 co_X4_start hd_X4_start rfl ⟨rfl, rfl⟩ hr hst d hL hp h k

theorem k_L_42 {V : EV} {X : CX} {cc : ByteArray} {nL : Nat} {R : Room} {y1 : Int32} (C : OK V X RL cc nL R) {σ : Mem} {pc pc' : Nat} {L : List (Option Value)} {st : List Value} {P : Int32 → Mem → Prop} (d : decode cc pc = .ok (.invokevirtual 42, 3)) (hst : (st.map fun v => v.category).sum ≤ 8) (hr : 5 + 1 ≤ R.frames ∧ 8 + (2 + 11) + 113 ≤ R.locals) (hL : L.length = nL) (hp : pc + 3 = pc') (h : wp_X4_pass σ y1 P) (k : ∀ r τ, P r τ → GG V X τ pc' L (.int r :: st)) : GG V X σ pc L (.int y1 :: .ref (ad V 84) :: st) :=
  g_callVi C (av := [.int y1]) (fun l => c_X4_pass V σ y1 P l) (by decide) (en_84 V σ) (q := (RX4, TX4, 9)) rfl rfl ml_RL_42 im_X4_pass se_X4_pass ini_RX4 co_X4_pass hd_X4_pass rfl ⟨rfl, rfl⟩ hr hst d hL hp h k

theorem k_L_46 {V : EV} {X : CX} {cc : ByteArray} {nL : Nat} {R : Room} {y1 : Int32} {y2 : Int32} (C : OK V X RL cc nL R) {σ : Mem} {pc pc' : Nat} {L : List (Option Value)} {st : List Value} {P : Int32 → Mem → Prop} (d : decode cc pc = .ok (.invokevirtual 46, 3)) (hst : (st.map fun v => v.category).sum ≤ 8) (hr : 5 + 1 ≤ R.frames ∧ 8 + (3 + 11) + 114 ≤ R.locals) (hL : L.length = nL) (hp : pc + 3 = pc') (h : wp_X4_set σ y1 y2 P) (k : ∀ r τ, P r τ → GG V X τ pc' L (.int r :: st)) : GG V X σ pc L (.int y2 :: .int y1 :: .ref (ad V 84) :: st) :=
  g_callVi C (av := [.int y1, .int y2]) (fun l => c_X4_set V σ y1 y2 P l) (by decide) (en_84 V σ) (q := (RX4, TX4, 9)) rfl rfl ml_RL_46 im_X4_set se_X4_set ini_RX4 co_X4_set hd_X4_set rfl ⟨rfl, rfl⟩ hr hst d hL hp h k

theorem k_L_50 {V : EV} {X : CX} {cc : ByteArray} {nL : Nat} {R : Room} {y1 : Int32} (C : OK V X RL cc nL R) {σ : Mem} {pc pc' : Nat} {L : List (Option Value)} {st : List Value} {P : Int32 → Mem → Prop} (d : decode cc pc = .ok (.invokevirtual 50, 3)) (hst : (st.map fun v => v.category).sum ≤ 8) (hr : 1 + 1 ≤ R.frames ∧ 8 + (2 + 11) + 21 ≤ R.locals) (hL : L.length = nL) (hp : pc + 3 = pc') (h : wp_X4_type σ y1 P) (k : ∀ r τ, P r τ → GG V X τ pc' L (.int r :: st)) : GG V X σ pc L (.int y1 :: .ref (ad V 84) :: st) :=
  g_callVi C (av := [.int y1]) (fun l => c_X4_type V σ y1 P l) (by decide) (en_84 V σ) (q := (RX4, TX4, 9)) rfl rfl ml_RL_50 im_X4_type se_X4_type ini_RX4 co_X4_type hd_X4_type rfl ⟨rfl, rfl⟩ hr hst d hL hp h k

theorem k_L_55 {V : EV} {X : CX} {cc : ByteArray} {nL : Nat} {R : Room} (C : OK V X RL cc nL R) {σ : Mem} {pc pc' : Nat} {L : List (Option Value)} {st : List Value} {P : Int32 → Mem → Prop} (d : decode cc pc = .ok (.invokevirtual 55, 3)) (hst : (st.map fun v => v.category).sum ≤ 8) (hr : 1 + 1 ≤ R.frames ∧ 8 + (1 + 11) + 21 ≤ R.locals) (hL : L.length = nL) (hp : pc + 3 = pc') (h : wp_X4_clearText σ P) (k : ∀ r τ, P r τ → GG V X τ pc' L (.int r :: st)) : GG V X σ pc L (.ref (ad V 84) :: st) :=
  g_callVi C (av := []) (fun l => c_X4_clearText V σ P l) (by decide) (en_84 V σ) (q := (RX4, TX4, 9)) rfl rfl ml_RL_55 im_X4_clearText se_X4_clearText ini_RX4 co_X4_clearText hd_X4_clearText rfl ⟨rfl, rfl⟩ hr hst d hL hp h k

theorem k_L_59 {V : EV} {X : CX} {cc : ByteArray} {nL : Nat} {R : Room} (C : OK V X RL cc nL R) {σ : Mem} {pc pc' : Nat} {L : List (Option Value)} {st : List Value} {P : Int32 → Mem → Prop} (d : decode cc pc = .ok (.invokevirtual 59, 3)) (hst : (st.map fun v => v.category).sum ≤ 8) (hr : 6 + 1 ≤ R.frames ∧ 8 + (5 + 11) + 137 ≤ R.locals) (hL : L.length = nL) (hp : pc + 3 = pc') (h : wp_X4_perform σ P) (k : ∀ r τ, P r τ → GG V X τ pc' L (.int r :: st)) : GG V X σ pc L (.ref (ad V 84) :: st) :=
  g_callVi C (av := []) (fun l => c_X4_perform V σ P l) (by decide) (en_84 V σ) (q := (RX4, TX4, 9)) rfl rfl ml_RL_59 im_X4_perform se_X4_perform ini_RX4 co_X4_perform hd_X4_perform rfl ⟨rfl, rfl⟩ hr hst d hL hp h k

theorem k_L_63 {V : EV} {X : CX} {cc : ByteArray} {nL : Nat} {R : Room} {y1 : Int32} (C : OK V X RL cc nL R) {σ : Mem} {pc pc' : Nat} {L : List (Option Value)} {st : List Value} {P : Int32 → Prop} (d : decode cc pc = .ok (.invokevirtual 63, 3)) (hst : (st.map fun v => v.category).sum ≤ 8) (hr : 0 + 1 ≤ R.frames ∧ 8 + (2 + 11) + 0 ≤ R.locals) (hL : L.length = nL) (hp : pc + 3 = pc') (h : wp_X4_stopped σ y1 P) (k : ∀ r, P r → GG V X σ pc' L (.int r :: st)) : GG V X σ pc L (.int y1 :: .ref (ad V 84) :: st) :=
  g_callVi C (av := [.int y1]) (fun l => c_X4_stopped V σ y1 P l) (by decide) (en_84 V σ) (q := (RX4, TX4, 9)) rfl rfl ml_RL_63 im_X4_stopped se_X4_stopped ini_RX4 co_X4_stopped hd_X4_stopped rfl ⟨rfl, rfl⟩ hr hst d hL hp h (fun r τ hq => by obtain ⟨rfl, hq⟩ := hq; exact k r hq)

theorem k_L_67 {V : EV} {X : CX} {cc : ByteArray} {nL : Nat} {R : Room} (C : OK V X RL cc nL R) {σ : Mem} {pc pc' : Nat} {L : List (Option Value)} {st : List Value} {P : Int32 → Mem → Prop} (d : decode cc pc = .ok (.invokevirtual 67, 3)) (hst : (st.map fun v => v.category).sum ≤ 8) (hr : 3 + 1 ≤ R.frames ∧ 8 + (1 + 11) + 66 ≤ R.locals) (hL : L.length = nL) (hp : pc + 3 = pc') (h : wp_X4_undo σ P) (k : ∀ r τ, P r τ → GG V X τ pc' L (.int r :: st)) : GG V X σ pc L (.ref (ad V 84) :: st) :=
  g_callVi C (av := []) (fun l => c_X4_undo V σ P l) (by decide) (en_84 V σ) (q := (RX4, TX4, 9)) rfl rfl ml_RL_67 im_X4_undo se_X4_undo ini_RX4 co_X4_undo hd_X4_undo rfl ⟨rfl, rfl⟩ hr hst d hL hp h k

theorem k_L_71 {V : EV} {X : CX} {cc : ByteArray} {nL : Nat} {R : Room} (C : OK V X RL cc nL R) {σ : Mem} {pc pc' : Nat} {L : List (Option Value)} {st : List Value} {P : Int32 → Mem → Prop} (d : decode cc pc = .ok (.invokevirtual 71, 3)) (hst : (st.map fun v => v.category).sum ≤ 8) (hr : 3 + 1 ≤ R.frames ∧ 8 + (1 + 11) + 64 ≤ R.locals) (hL : L.length = nL) (hp : pc + 3 = pc') (h : wp_X4_keep σ P) (k : ∀ r τ, P r τ → GG V X τ pc' L (.int r :: st)) : GG V X σ pc L (.ref (ad V 84) :: st) :=
  g_callVi C (av := []) (fun l => c_X4_keep V σ P l) (by decide) (en_84 V σ) (q := (RX4, TX4, 9)) rfl rfl ml_RL_71 im_X4_keep se_X4_keep ini_RX4 co_X4_keep hd_X4_keep rfl ⟨rfl, rfl⟩ hr hst d hL hp h k

theorem k_L_75 {V : EV} {X : CX} {cc : ByteArray} {nL : Nat} {R : Room} (C : OK V X RL cc nL R) {σ : Mem} {pc pc' : Nat} {L : List (Option Value)} {st : List Value} {P : Int32 → Mem → Prop} (d : decode cc pc = .ok (.invokevirtual 75, 3)) (hst : (st.map fun v => v.category).sum ≤ 8) (hr : 4 + 1 ≤ R.frames ∧ 8 + (1 + 11) + 91 ≤ R.locals) (hL : L.length = nL) (hp : pc + 3 = pc') (h : wp_X4_restore σ P) (k : ∀ r τ, P r τ → GG V X τ pc' L (.int r :: st)) : GG V X σ pc L (.ref (ad V 84) :: st) :=
  g_callVi C (av := []) (fun l => c_X4_restore V σ P l) (by decide) (en_84 V σ) (q := (RX4, TX4, 9)) rfl rfl ml_RL_75 im_X4_restore se_X4_restore ini_RX4 co_X4_restore hd_X4_restore rfl ⟨rfl, rfl⟩ hr hst d hL hp h k

theorem k_L_79 {V : EV} {X : CX} {cc : ByteArray} {nL : Nat} {R : Room} {y1 : Int32} {y2 : Int32} {y3 : Int32} (C : OK V X RL cc nL R) {σ : Mem} {pc pc' : Nat} {L : List (Option Value)} {st : List Value} {P : Int32 → Prop} (d : decode cc pc = .ok (.invokevirtual 79, 3)) (hst : (st.map fun v => v.category).sum ≤ 8) (hr : 2 + 1 ≤ R.frames ∧ 8 + (4 + 11) + 43 ≤ R.locals) (hL : L.length = nL) (hp : pc + 3 = pc') (h : wp_X4_page σ y1 y2 y3 P) (k : ∀ r, P r → GG V X σ pc' L (.int r :: st)) : GG V X σ pc L (.int y3 :: .int y2 :: .int y1 :: .ref (ad V 84) :: st) :=
  g_callVi C (av := [.int y1, .int y2, .int y3]) (fun l => c_X4_page V σ y1 y2 y3 P l) (by decide) (en_84 V σ) (q := (RX4, TX4, 9)) rfl rfl ml_RL_79 im_X4_page se_X4_page ini_RX4 co_X4_page hd_X4_page rfl ⟨rfl, rfl⟩ hr hst d hL hp h (fun r τ hq => by obtain ⟨rfl, hq⟩ := hq; exact k r hq)

theorem k_L_83 {V : EV} {X : CX} {cc : ByteArray} {nL : Nat} {R : Room} {y1 : Int32} {y2 : Int32} (C : OK V X RL cc nL R) {σ : Mem} {pc pc' : Nat} {L : List (Option Value)} {st : List Value} {P : Int32 → Prop} (d : decode cc pc = .ok (.invokevirtual 83, 3)) (hst : (st.map fun v => v.category).sum ≤ 8) (hr : 3 + 1 ≤ R.frames ∧ 8 + (3 + 11) + 66 ≤ R.locals) (hL : L.length = nL) (hp : pc + 3 = pc') (h : wp_X4_program σ y1 y2 P) (k : ∀ r, P r → GG V X σ pc' L (.int r :: st)) : GG V X σ pc L (.int y2 :: .int y1 :: .ref (ad V 84) :: st) :=
  g_callVi C (av := [.int y1, .int y2]) (fun l => c_X4_program V σ y1 y2 P l) (by decide) (en_84 V σ) (q := (RX4, TX4, 9)) rfl rfl ml_RL_83 im_X4_program se_X4_program ini_RX4 co_X4_program hd_X4_program rfl ⟨rfl, rfl⟩ hr hst d hL hp h (fun r τ hq => by obtain ⟨rfl, hq⟩ := hq; exact k r hq)

theorem k_L_87 {V : EV} {X : CX} {cc : ByteArray} {nL : Nat} {R : Room} {y1 : Int32} {y2 : Int32} (C : OK V X RL cc nL R) {σ : Mem} {pc pc' : Nat} {L : List (Option Value)} {st : List Value} {P : Int32 → Prop} (d : decode cc pc = .ok (.invokevirtual 87, 3)) (hst : (st.map fun v => v.category).sum ≤ 8) (hr : 3 + 1 ≤ R.frames ∧ 8 + (3 + 11) + 65 ≤ R.locals) (hL : L.length = nL) (hp : pc + 3 = pc') (h : wp_X4_cell σ y1 y2 P) (k : ∀ r, P r → GG V X σ pc' L (.int r :: st)) : GG V X σ pc L (.int y2 :: .int y1 :: .ref (ad V 84) :: st) :=
  g_callVi C (av := [.int y1, .int y2]) (fun l => c_X4_cell V σ y1 y2 P l) (by decide) (en_84 V σ) (q := (RX4, TX4, 9)) rfl rfl ml_RL_87 im_X4_cell se_X4_cell ini_RX4 co_X4_cell hd_X4_cell rfl ⟨rfl, rfl⟩ hr hst d hL hp h (fun r τ hq => by obtain ⟨rfl, hq⟩ := hq; exact k r hq)

theorem k_L_91 {V : EV} {X : CX} {cc : ByteArray} {nL : Nat} {R : Room} {y1 : Int32} (C : OK V X RL cc nL R) {σ : Mem} {pc pc' : Nat} {L : List (Option Value)} {st : List Value} {P : Int32 → Prop} (d : decode cc pc = .ok (.invokevirtual 91, 3)) (hst : (st.map fun v => v.category).sum ≤ 8) (hr : 1 + 1 ≤ R.frames ∧ 8 + (2 + 11) + 21 ≤ R.locals) (hL : L.length = nL) (hp : pc + 3 = pc') (h : wp_X4_list σ y1 P) (k : ∀ r, P r → GG V X σ pc' L (.int r :: st)) : GG V X σ pc L (.int y1 :: .ref (ad V 84) :: st) :=
  g_callVi C (av := [.int y1]) (fun l => c_X4_list V σ y1 P l) (by decide) (en_84 V σ) (q := (RX4, TX4, 9)) rfl rfl ml_RL_91 im_X4_list se_X4_list ini_RX4 co_X4_list hd_X4_list rfl ⟨rfl, rfl⟩ hr hst d hL hp h (fun r τ hq => by obtain ⟨rfl, hq⟩ := hq; exact k r hq)

theorem k_L_95 {V : EV} {X : CX} {cc : ByteArray} {nL : Nat} {R : Room} (C : OK V X RL cc nL R) {σ : Mem} {pc pc' : Nat} {L : List (Option Value)} {st : List Value} {P : Int32 → Prop} (d : decode cc pc = .ok (.invokevirtual 95, 3)) (hst : (st.map fun v => v.category).sum ≤ 8) (hr : 2 + 1 ≤ R.frames ∧ 8 + (1 + 11) + 46 ≤ R.locals) (hL : L.length = nL) (hp : pc + 3 = pc') (h : wp_X4_next σ P) (k : ∀ r, P r → GG V X σ pc' L (.int r :: st)) : GG V X σ pc L (.ref (ad V 84) :: st) :=
  g_callVi C (av := []) (fun l => c_X4_next V σ P l) (by decide) (en_84 V σ) (q := (RX4, TX4, 9)) rfl rfl ml_RL_95 im_X4_next se_X4_next ini_RX4 co_X4_next hd_X4_next rfl ⟨rfl, rfl⟩ hr hst d hL hp h (fun r τ hq => by obtain ⟨rfl, hq⟩ := hq; exact k r hq)

theorem k_L_99 {V : EV} {X : CX} {cc : ByteArray} {nL : Nat} {R : Room} {y1 : Int32} (C : OK V X RL cc nL R) {σ : Mem} {pc pc' : Nat} {L : List (Option Value)} {st : List Value} {P : Int32 → Prop} (d : decode cc pc = .ok (.invokevirtual 99, 3)) (hst : (st.map fun v => v.category).sum ≤ 8) (hr : 2 + 1 ≤ R.frames ∧ 8 + (2 + 11) + 43 ≤ R.locals) (hL : L.length = nL) (hp : pc + 3 = pc') (h : wp_X4_reason σ y1 P) (k : ∀ r, P r → GG V X σ pc' L (.int r :: st)) : GG V X σ pc L (.int y1 :: .ref (ad V 84) :: st) :=
  g_callVi C (av := [.int y1]) (fun l => c_X4_reason V σ y1 P l) (by decide) (en_84 V σ) (q := (RX4, TX4, 9)) rfl rfl ml_RL_99 im_X4_reason se_X4_reason ini_RX4 co_X4_reason hd_X4_reason rfl ⟨rfl, rfl⟩ hr hst d hL hp h (fun r τ hq => by obtain ⟨rfl, hq⟩ := hq; exact k r hq)

theorem k_L_103 {V : EV} {X : CX} {cc : ByteArray} {nL : Nat} {R : Room} {y1 : Int32} (C : OK V X RL cc nL R) {σ : Mem} {pc pc' : Nat} {L : List (Option Value)} {st : List Value} {P : Int32 → Prop} (d : decode cc pc = .ok (.invokevirtual 103, 3)) (hst : (st.map fun v => v.category).sum ≤ 8) (hr : 4 + 1 ≤ R.frames ∧ 8 + (2 + 11) + 89 ≤ R.locals) (hL : L.length = nL) (hp : pc + 3 = pc') (h : wp_X4_errorsLeft σ y1 P) (k : ∀ r, P r → GG V X σ pc' L (.int r :: st)) : GG V X σ pc L (.int y1 :: .ref (ad V 84) :: st) :=
  g_callVi C (av := [.int y1]) (fun l => c_X4_errorsLeft V σ y1 P l) (by decide) (en_84 V σ) (q := (RX4, TX4, 9)) rfl rfl ml_RL_103 im_X4_errorsLeft se_X4_errorsLeft ini_RX4 co_X4_errorsLeft hd_X4_errorsLeft rfl ⟨rfl, rfl⟩ hr hst d hL hp h (fun r τ hq => by obtain ⟨rfl, hq⟩ := hq; exact k r hq)

theorem k_L_107 {V : EV} {X : CX} {cc : ByteArray} {nL : Nat} {R : Room} (C : OK V X RL cc nL R) {σ : Mem} {pc pc' : Nat} {L : List (Option Value)} {st : List Value} {P : Int32 → Prop} (d : decode cc pc = .ok (.invokevirtual 107, 3)) (hst : (st.map fun v => v.category).sum ≤ 8) (hr : 1 + 1 ≤ R.frames ∧ 8 + (1 + 11) + 23 ≤ R.locals) (hL : L.length = nL) (hp : pc + 3 = pc') (h : wp_X4_worst σ P) (k : ∀ r, P r → GG V X σ pc' L (.int r :: st)) : GG V X σ pc L (.ref (ad V 84) :: st) :=
  g_callVi C (av := []) (fun l => c_X4_worst V σ P l) (by decide) (en_84 V σ) (q := (RX4, TX4, 9)) rfl rfl ml_RL_107 im_X4_worst se_X4_worst ini_RX4 co_X4_worst hd_X4_worst rfl ⟨rfl, rfl⟩ hr hst d hL hp h (fun r τ hq => by obtain ⟨rfl, hq⟩ := hq; exact k r hq)

theorem k_L_111 {V : EV} {X : CX} {cc : ByteArray} {nL : Nat} {R : Room} (C : OK V X RL cc nL R) {σ : Mem} {pc pc' : Nat} {L : List (Option Value)} {st : List Value} {P : Int32 → Prop} (d : decode cc pc = .ok (.invokevirtual 111, 3)) (hst : (st.map fun v => v.category).sum ≤ 8) (hr : 1 + 1 ≤ R.frames ∧ 8 + (1 + 11) + 20 ≤ R.locals) (hL : L.length = nL) (hp : pc + 3 = pc') (h : wp_X4_ifStarted σ P) (k : ∀ r, P r → GG V X σ pc' L (.int r :: st)) : GG V X σ pc L (.ref (ad V 84) :: st) :=
  g_callVi C (av := []) (fun l => c_X4_ifStarted V σ P l) (by decide) (en_84 V σ) (q := (RX4, TX4, 9)) rfl rfl ml_RL_111 im_X4_ifStarted se_X4_ifStarted ini_RX4 co_X4_ifStarted hd_X4_ifStarted rfl ⟨rfl, rfl⟩ hr hst d hL hp h (fun r τ hq => by obtain ⟨rfl, hq⟩ := hq; exact k r hq)

theorem k_L_115 {V : EV} {X : CX} {cc : ByteArray} {nL : Nat} {R : Room} {y1 : Int32} (C : OK V X RL cc nL R) {σ : Mem} {pc pc' : Nat} {L : List (Option Value)} {st : List Value} {P : Int32 → Prop} (d : decode cc pc = .ok (.invokevirtual 115, 3)) (hst : (st.map fun v => v.category).sum ≤ 8) (hr : 4 + 1 ≤ R.frames ∧ 8 + (2 + 11) + 87 ≤ R.locals) (hL : L.length = nL) (hp : pc + 3 = pc') (h : wp_X4_count σ y1 P) (k : ∀ r, P r → GG V X σ pc' L (.int r :: st)) : GG V X σ pc L (.int y1 :: .ref (ad V 84) :: st) :=
  g_callVi C (av := [.int y1]) (fun l => c_X4_count V σ y1 P l) (by decide) (en_84 V σ) (q := (RX4, TX4, 9)) rfl rfl ml_RL_115 im_X4_count se_X4_count ini_RX4 co_X4_count hd_X4_count rfl ⟨rfl, rfl⟩ hr hst d hL hp h (fun r τ hq => by obtain ⟨rfl, hq⟩ := hq; exact k r hq)

theorem k_L_70 {V : EV} {X : CX} {cc : ByteArray} {nL : Nat} {R : Room} (C : OK V X RL cc nL R) {σ : Mem} {pc pc' : Nat} {L : List (Option Value)} {st : List Value} {P : Int32 → Mem → Prop} (d : decode cc pc = .ok (.invokevirtual 70, 3)) (hst : (st.map fun v => v.category).sum ≤ 8) (hr : 1 + 1 ≤ R.frames ∧ 8 + (1 + 11) + 24 ≤ R.locals) (hL : L.length = nL) (hp : pc + 3 = pc') (h : wp_X5_undo σ P) (k : ∀ r τ, P r τ → GG V X τ pc' L (.int r :: st)) : GG V X σ pc L (.ref (ad V 93) :: st) :=
  g_callVi C (av := []) (fun l => c_X5_undo V σ P l) (by decide) (en_93 V σ) (q := (RX5, TX5, 13)) rfl rfl ml_RL_70 im_X5_undo se_X5_undo ini_RX5 co_X5_undo hd_X5_undo rfl ⟨rfl, rfl⟩ hr hst d hL hp h k

theorem k_L_74 {V : EV} {X : CX} {cc : ByteArray} {nL : Nat} {R : Room} (C : OK V X RL cc nL R) {σ : Mem} {pc pc' : Nat} {L : List (Option Value)} {st : List Value} {P : Int32 → Mem → Prop} (d : decode cc pc = .ok (.invokevirtual 74, 3)) (hst : (st.map fun v => v.category).sum ≤ 8) (hr : 1 + 1 ≤ R.frames ∧ 8 + (1 + 11) + 24 ≤ R.locals) (hL : L.length = nL) (hp : pc + 3 = pc') (h : wp_X5_keep σ P) (k : ∀ r τ, P r τ → GG V X τ pc' L (.int r :: st)) : GG V X σ pc L (.ref (ad V 93) :: st) :=
  g_callVi C (av := []) (fun l => c_X5_keep V σ P l) (by decide) (en_93 V σ) (q := (RX5, TX5, 13)) rfl rfl ml_RL_74 im_X5_keep se_X5_keep ini_RX5 co_X5_keep hd_X5_keep rfl ⟨rfl, rfl⟩ hr hst d hL hp h k

theorem k_L_78 {V : EV} {X : CX} {cc : ByteArray} {nL : Nat} {R : Room} (C : OK V X RL cc nL R) {σ : Mem} {pc pc' : Nat} {L : List (Option Value)} {st : List Value} {P : Int32 → Mem → Prop} (d : decode cc pc = .ok (.invokevirtual 78, 3)) (hst : (st.map fun v => v.category).sum ≤ 8) (hr : 3 + 1 ≤ R.frames ∧ 8 + (1 + 11) + 71 ≤ R.locals) (hL : L.length = nL) (hp : pc + 3 = pc') (h : wp_X5_restore σ P) (k : ∀ r τ, P r τ → GG V X τ pc' L (.int r :: st)) : GG V X σ pc L (.ref (ad V 93) :: st) :=
  g_callVi C (av := []) (fun l => c_X5_restore V σ P l) (by decide) (en_93 V σ) (q := (RX5, TX5, 13)) rfl rfl ml_RL_78 im_X5_restore se_X5_restore ini_RX5 co_X5_restore hd_X5_restore rfl ⟨rfl, rfl⟩ hr hst d hL hp h k

theorem k_L_17 {V : EV} {X : CX} {cc : ByteArray} {nL : Nat} {R : Room} {y1 : Int32} {y2 : Int32} {y3 : Int32} (C : OK V X RL cc nL R) {σ : Mem} {pc pc' : Nat} {L : List (Option Value)} {st : List Value} {P : Int32 → Mem → Prop} (d : decode cc pc = .ok (.invokevirtual 17, 3)) (hst : (st.map fun v => v.category).sum ≤ 8) (hr : 4 + 1 ≤ R.frames ∧ 8 + (5 + 11) + 93 ≤ R.locals) (hL : L.length = nL) (hp : pc + 3 = pc') (h : wp_X5_write σ y1 y2 y3 P) (k : ∀ r τ, P r τ → GG V X τ pc' L (.int r :: st)) : GG V X σ pc L (.int y3 :: .int y2 :: .int y1 :: .ref (ad V 93) :: st) :=
  g_callVi C (av := [.int y1, .int y2, .int y3]) (fun l => c_X5_write V σ y1 y2 y3 P l) (by decide) (en_93 V σ) (q := (RX5, TX5, 13)) rfl rfl ml_RL_17 im_X5_write se_X5_write ini_RX5 co_X5_write hd_X5_write rfl ⟨rfl, rfl⟩ hr hst d hL hp h k

theorem k_L_22 {V : EV} {X : CX} {cc : ByteArray} {nL : Nat} {R : Room} {y1 : Int32} {y2 : Int32} (C : OK V X RL cc nL R) {σ : Mem} {pc pc' : Nat} {L : List (Option Value)} {st : List Value} {P : Int32 → Mem → Prop} (d : decode cc pc = .ok (.invokevirtual 22, 3)) (hst : (st.map fun v => v.category).sum ≤ 8) (hr : 4 + 1 ≤ R.frames ∧ 8 + (4 + 11) + 92 ≤ R.locals) (hL : L.length = nL) (hp : pc + 3 = pc') (h : wp_X5_giveBack σ y1 y2 P) (k : ∀ r τ, P r τ → GG V X τ pc' L (.int r :: st)) : GG V X σ pc L (.int y2 :: .int y1 :: .ref (ad V 93) :: st) :=
  g_callVi C (av := [.int y1, .int y2]) (fun l => c_X5_giveBack V σ y1 y2 P l) (by decide) (en_93 V σ) (q := (RX5, TX5, 13)) rfl rfl ml_RL_22 im_X5_giveBack se_X5_giveBack ini_RX5 co_X5_giveBack hd_X5_giveBack rfl ⟨rfl, rfl⟩ hr hst d hL hp h k

theorem k_L_27 {V : EV} {X : CX} {cc : ByteArray} {nL : Nat} {R : Room} {y1 : Int32} {y2 : Int32} {y3 : Int32} (C : OK V X RL cc nL R) {σ : Mem} {pc pc' : Nat} {L : List (Option Value)} {st : List Value} {P : Int32 → Mem → Prop} (d : decode cc pc = .ok (.invokevirtual 27, 3)) (hst : (st.map fun v => v.category).sum ≤ 8) (hr : 4 + 1 ≤ R.frames ∧ 8 + (6 + 11) + 93 ≤ R.locals) (hL : L.length = nL) (hp : pc + 3 = pc') (h : wp_X5_pin σ y1 y2 y3 P) (k : ∀ r τ, P r τ → GG V X τ pc' L (.int r :: st)) : GG V X σ pc L (.int y3 :: .int y2 :: .int y1 :: .ref (ad V 93) :: st) :=
  g_callVi C (av := [.int y1, .int y2, .int y3]) (fun l => c_X5_pin V σ y1 y2 y3 P l) (by decide) (en_93 V σ) (q := (RX5, TX5, 13)) rfl rfl ml_RL_27 im_X5_pin se_X5_pin ini_RX5 co_X5_pin hd_X5_pin rfl ⟨rfl, rfl⟩ hr hst d hL hp h k

theorem k_L_32 {V : EV} {X : CX} {cc : ByteArray} {nL : Nat} {R : Room} {y1 : Int32} (C : OK V X RL cc nL R) {σ : Mem} {pc pc' : Nat} {L : List (Option Value)} {st : List Value} {P : Int32 → Mem → Prop} (d : decode cc pc = .ok (.invokevirtual 32, 3)) (hst : (st.map fun v => v.category).sum ≤ 8) (hr : 4 + 1 ≤ R.frames ∧ 8 + (3 + 11) + 93 ≤ R.locals) (hL : L.length = nL) (hp : pc + 3 = pc') (h : wp_X5_error σ y1 P) (k : ∀ r τ, P r τ → GG V X τ pc' L (.int r :: st)) : GG V X σ pc L (.int y1 :: .ref (ad V 93) :: st) :=
  g_callVi C (av := [.int y1]) (fun l => c_X5_error V σ y1 P l) (by decide) (en_93 V σ) (q := (RX5, TX5, 13)) rfl rfl ml_RL_32 im_X5_error se_X5_error ini_RX5 co_X5_error hd_X5_error rfl ⟨rfl, rfl⟩ hr hst d hL hp h k

theorem k_L_36 {V : EV} {X : CX} {cc : ByteArray} {nL : Nat} {R : Room} {y1 : Int32} (C : OK V X RL cc nL R) {σ : Mem} {pc pc' : Nat} {L : List (Option Value)} {st : List Value} {P : Int32 → Mem → Prop} (d : decode cc pc = .ok (.invokevirtual 36, 3)) (hst : (st.map fun v => v.category).sum ≤ 8) (hr : 4 + 1 ≤ R.frames ∧ 8 + (3 + 11) + 94 ≤ R.locals) (hL : L.length = nL) (hp : pc + 3 = pc') (h : wp_X5_hardError σ y1 P) (k : ∀ r τ, P r τ → GG V X τ pc' L (.int r :: st)) : GG V X σ pc L (.int y1 :: .ref (ad V 93) :: st) :=
  g_callVi C (av := [.int y1]) (fun l => c_X5_hardError V σ y1 P l) (by decide) (en_93 V σ) (q := (RX5, TX5, 13)) rfl rfl ml_RL_36 im_X5_hardError se_X5_hardError ini_RX5 co_X5_hardError hd_X5_hardError rfl ⟨rfl, rfl⟩ hr hst d hL hp h k

theorem k_L_41 {V : EV} {X : CX} {cc : ByteArray} {nL : Nat} {R : Room} (C : OK V X RL cc nL R) {σ : Mem} {pc pc' : Nat} {L : List (Option Value)} {st : List Value} {P : Int32 → Mem → Prop} (d : decode cc pc = .ok (.invokevirtual 41, 3)) (hst : (st.map fun v => v.category).sum ≤ 8) (hr : 4 + 1 ≤ R.frames ∧ 8 + (1 + 11) + 92 ≤ R.locals) (hL : L.length = nL) (hp : pc + 3 = pc') (h : wp_X5_start σ P) (k : ∀ r τ, P r τ → GG V X τ pc' L (.int r :: st)) : GG V X σ pc L (.ref (ad V 93) :: st) :=
  g_callVi C (av := []) (fun l => c_X5_start V σ P l) (by decide) (en_93 V σ) (q := (RX5, TX5, 13)) rfl rfl ml_RL_41 im_X5_start se_X5_start ini_RX5 co_X5_start hd_X5_start rfl ⟨rfl, rfl⟩ hr hst d hL hp h k

theorem k_L_45 {V : EV} {X : CX} {cc : ByteArray} {nL : Nat} {R : Room} {y1 : Int32} (C : OK V X RL cc nL R) {σ : Mem} {pc pc' : Nat} {L : List (Option Value)} {st : List Value} {P : Int32 → Mem → Prop} (d : decode cc pc = .ok (.invokevirtual 45, 3)) (hst : (st.map fun v => v.category).sum ≤ 8) (hr : 4 + 1 ≤ R.frames ∧ 8 + (3 + 11) + 94 ≤ R.locals) (hL : L.length = nL) (hp : pc + 3 = pc') (h : wp_X5_pass σ y1 P) (k : ∀ r τ, P r τ → GG V X τ pc' L (.int r :: st)) : GG V X σ pc L (.int y1 :: .ref (ad V 93) :: st) :=
  g_callVi C (av := [.int y1]) (fun l => c_X5_pass V σ y1 P l) (by decide) (en_93 V σ) (q := (RX5, TX5, 13)) rfl rfl ml_RL_45 im_X5_pass se_X5_pass ini_RX5 co_X5_pass hd_X5_pass rfl ⟨rfl, rfl⟩ hr hst d hL hp h k

theorem k_L_49 {V : EV} {X : CX} {cc : ByteArray} {nL : Nat} {R : Room} {y1 : Int32} {y2 : Int32} (C : OK V X RL cc nL R) {σ : Mem} {pc pc' : Nat} {L : List (Option Value)} {st : List Value} {P : Int32 → Mem → Prop} (d : decode cc pc = .ok (.invokevirtual 49, 3)) (hst : (st.map fun v => v.category).sum ≤ 8) (hr : 3 + 1 ≤ R.frames ∧ 8 + (4 + 11) + 71 ≤ R.locals) (hL : L.length = nL) (hp : pc + 3 = pc') (h : wp_X5_set σ y1 y2 P) (k : ∀ r τ, P r τ → GG V X τ pc' L (.int r :: st)) : GG V X σ pc L (.int y2 :: .int y1 :: .ref (ad V 93) :: st) :=
  g_callVi C (av := [.int y1, .int y2]) (fun l => c_X5_set V σ y1 y2 P l) (by decide) (en_93 V σ) (q := (RX5, TX5, 13)) rfl rfl ml_RL_49 im_X5_set se_X5_set ini_RX5 co_X5_set hd_X5_set rfl ⟨rfl, rfl⟩ hr hst d hL hp h k

theorem k_L_54 {V : EV} {X : CX} {cc : ByteArray} {nL : Nat} {R : Room} {y1 : Int32} (C : OK V X RL cc nL R) {σ : Mem} {pc pc' : Nat} {L : List (Option Value)} {st : List Value} {P : Int32 → Mem → Prop} (d : decode cc pc = .ok (.invokevirtual 54, 3)) (hst : (st.map fun v => v.category).sum ≤ 8) (hr : 0 + 1 ≤ R.frames ∧ 8 + (2 + 11) + 0 ≤ R.locals) (hL : L.length = nL) (hp : pc + 3 = pc') (h : wp_X5_type σ y1 P) (k : ∀ r τ, P r τ → GG V X τ pc' L (.int r :: st)) : GG V X σ pc L (.int y1 :: .ref (ad V 93) :: st) :=
  g_callVi C (av := [.int y1]) (fun l => c_X5_type V σ y1 P l) (by decide) (en_93 V σ) (q := (RX5, TX5, 13)) rfl rfl ml_RL_54 im_X5_type se_X5_type ini_RX5 co_X5_type hd_X5_type rfl ⟨rfl, rfl⟩ hr hst d hL hp h k

theorem k_L_58 {V : EV} {X : CX} {cc : ByteArray} {nL : Nat} {R : Room} (C : OK V X RL cc nL R) {σ : Mem} {pc pc' : Nat} {L : List (Option Value)} {st : List Value} {P : Int32 → Mem → Prop} (d : decode cc pc = .ok (.invokevirtual 58, 3)) (hst : (st.map fun v => v.category).sum ≤ 8) (hr : 0 + 1 ≤ R.frames ∧ 8 + (2 + 11) + 0 ≤ R.locals) (hL : L.length = nL) (hp : pc + 3 = pc') (h : wp_X5_clearText σ P) (k : ∀ r τ, P r τ → GG V X τ pc' L (.int r :: st)) : GG V X σ pc L (.ref (ad V 93) :: st) :=
  g_callVi C (av := []) (fun l => c_X5_clearText V σ P l) (by decide) (en_93 V σ) (q := (RX5, TX5, 13)) rfl rfl ml_RL_58 im_X5_clearText se_X5_clearText ini_RX5 co_X5_clearText hd_X5_clearText rfl ⟨rfl, rfl⟩ hr hst d hL hp h k

theorem k_L_62 {V : EV} {X : CX} {cc : ByteArray} {nL : Nat} {R : Room} (C : OK V X RL cc nL R) {σ : Mem} {pc pc' : Nat} {L : List (Option Value)} {st : List Value} {P : Int32 → Mem → Prop} (d : decode cc pc = .ok (.invokevirtual 62, 3)) (hst : (st.map fun v => v.category).sum ≤ 8) (hr : 6 + 1 ≤ R.frames ∧ 8 + (3 + 11) + 134 ≤ R.locals) (hL : L.length = nL) (hp : pc + 3 = pc') (h : wp_X5_perform σ P) (k : ∀ r τ, P r τ → GG V X τ pc' L (.int r :: st)) : GG V X σ pc L (.ref (ad V 93) :: st) :=
  g_callVi C (av := []) (fun l => c_X5_perform V σ P l) (by decide) (en_93 V σ) (q := (RX5, TX5, 13)) rfl rfl ml_RL_62 im_X5_perform se_X5_perform ini_RX5 co_X5_perform hd_X5_perform rfl ⟨rfl, rfl⟩ hr hst d hL hp h k

theorem k_L_66 {V : EV} {X : CX} {cc : ByteArray} {nL : Nat} {R : Room} {y1 : Int32} (C : OK V X RL cc nL R) {σ : Mem} {pc pc' : Nat} {L : List (Option Value)} {st : List Value} {P : Int32 → Prop} (d : decode cc pc = .ok (.invokevirtual 66, 3)) (hst : (st.map fun v => v.category).sum ≤ 8) (hr : 1 + 1 ≤ R.frames ∧ 8 + (2 + 11) + 22 ≤ R.locals) (hL : L.length = nL) (hp : pc + 3 = pc') (h : wp_X5_stopped σ y1 P) (k : ∀ r, P r → GG V X σ pc' L (.int r :: st)) : GG V X σ pc L (.int y1 :: .ref (ad V 93) :: st) :=
  g_callVi C (av := [.int y1]) (fun l => c_X5_stopped V σ y1 P l) (by decide) (en_93 V σ) (q := (RX5, TX5, 13)) rfl rfl ml_RL_66 im_X5_stopped se_X5_stopped ini_RX5 co_X5_stopped hd_X5_stopped rfl ⟨rfl, rfl⟩ hr hst d hL hp h (fun r τ hq => by obtain ⟨rfl, hq⟩ := hq; exact k r hq)

theorem k_L_82 {V : EV} {X : CX} {cc : ByteArray} {nL : Nat} {R : Room} {y1 : Int32} {y2 : Int32} {y3 : Int32} (C : OK V X RL cc nL R) {σ : Mem} {pc pc' : Nat} {L : List (Option Value)} {st : List Value} {P : Int32 → Prop} (d : decode cc pc = .ok (.invokevirtual 82, 3)) (hst : (st.map fun v => v.category).sum ≤ 8) (hr : 2 + 1 ≤ R.frames ∧ 8 + (4 + 11) + 43 ≤ R.locals) (hL : L.length = nL) (hp : pc + 3 = pc') (h : wp_X5_page σ y1 y2 y3 P) (k : ∀ r, P r → GG V X σ pc' L (.int r :: st)) : GG V X σ pc L (.int y3 :: .int y2 :: .int y1 :: .ref (ad V 93) :: st) :=
  g_callVi C (av := [.int y1, .int y2, .int y3]) (fun l => c_X5_page V σ y1 y2 y3 P l) (by decide) (en_93 V σ) (q := (RX5, TX5, 13)) rfl rfl ml_RL_82 im_X5_page se_X5_page ini_RX5 co_X5_page hd_X5_page rfl ⟨rfl, rfl⟩ hr hst d hL hp h (fun r τ hq => by obtain ⟨rfl, hq⟩ := hq; exact k r hq)

theorem k_L_86 {V : EV} {X : CX} {cc : ByteArray} {nL : Nat} {R : Room} {y1 : Int32} {y2 : Int32} (C : OK V X RL cc nL R) {σ : Mem} {pc pc' : Nat} {L : List (Option Value)} {st : List Value} {P : Int32 → Prop} (d : decode cc pc = .ok (.invokevirtual 86, 3)) (hst : (st.map fun v => v.category).sum ≤ 8) (hr : 2 + 1 ≤ R.frames ∧ 8 + (3 + 11) + 46 ≤ R.locals) (hL : L.length = nL) (hp : pc + 3 = pc') (h : wp_X5_program σ y1 y2 P) (k : ∀ r, P r → GG V X σ pc' L (.int r :: st)) : GG V X σ pc L (.int y2 :: .int y1 :: .ref (ad V 93) :: st) :=
  g_callVi C (av := [.int y1, .int y2]) (fun l => c_X5_program V σ y1 y2 P l) (by decide) (en_93 V σ) (q := (RX5, TX5, 13)) rfl rfl ml_RL_86 im_X5_program se_X5_program ini_RX5 co_X5_program hd_X5_program rfl ⟨rfl, rfl⟩ hr hst d hL hp h (fun r τ hq => by obtain ⟨rfl, hq⟩ := hq; exact k r hq)

theorem k_L_90 {V : EV} {X : CX} {cc : ByteArray} {nL : Nat} {R : Room} {y1 : Int32} {y2 : Int32} (C : OK V X RL cc nL R) {σ : Mem} {pc pc' : Nat} {L : List (Option Value)} {st : List Value} {P : Int32 → Prop} (d : decode cc pc = .ok (.invokevirtual 90, 3)) (hst : (st.map fun v => v.category).sum ≤ 8) (hr : 2 + 1 ≤ R.frames ∧ 8 + (4 + 11) + 45 ≤ R.locals) (hL : L.length = nL) (hp : pc + 3 = pc') (h : wp_X5_cell σ y1 y2 P) (k : ∀ r, P r → GG V X σ pc' L (.int r :: st)) : GG V X σ pc L (.int y2 :: .int y1 :: .ref (ad V 93) :: st) :=
  g_callVi C (av := [.int y1, .int y2]) (fun l => c_X5_cell V σ y1 y2 P l) (by decide) (en_93 V σ) (q := (RX5, TX5, 13)) rfl rfl ml_RL_90 im_X5_cell se_X5_cell ini_RX5 co_X5_cell hd_X5_cell rfl ⟨rfl, rfl⟩ hr hst d hL hp h (fun r τ hq => by obtain ⟨rfl, hq⟩ := hq; exact k r hq)

theorem k_L_94 {V : EV} {X : CX} {cc : ByteArray} {nL : Nat} {R : Room} {y1 : Int32} (C : OK V X RL cc nL R) {σ : Mem} {pc pc' : Nat} {L : List (Option Value)} {st : List Value} {P : Int32 → Prop} (d : decode cc pc = .ok (.invokevirtual 94, 3)) (hst : (st.map fun v => v.category).sum ≤ 8) (hr : 0 + 1 ≤ R.frames ∧ 8 + (2 + 11) + 0 ≤ R.locals) (hL : L.length = nL) (hp : pc + 3 = pc') (h : wp_X5_list σ y1 P) (k : ∀ r, P r → GG V X σ pc' L (.int r :: st)) : GG V X σ pc L (.int y1 :: .ref (ad V 93) :: st) :=
  g_callVi C (av := [.int y1]) (fun l => c_X5_list V σ y1 P l) (by decide) (en_93 V σ) (q := (RX5, TX5, 13)) rfl rfl ml_RL_94 im_X5_list se_X5_list ini_RX5 co_X5_list hd_X5_list rfl ⟨rfl, rfl⟩ hr hst d hL hp h (fun r τ hq => by obtain ⟨rfl, hq⟩ := hq; exact k r hq)

theorem k_L_98 {V : EV} {X : CX} {cc : ByteArray} {nL : Nat} {R : Room} (C : OK V X RL cc nL R) {σ : Mem} {pc pc' : Nat} {L : List (Option Value)} {st : List Value} {P : Int32 → Prop} (d : decode cc pc = .ok (.invokevirtual 98, 3)) (hst : (st.map fun v => v.category).sum ≤ 8) (hr : 2 + 1 ≤ R.frames ∧ 8 + (1 + 11) + 48 ≤ R.locals) (hL : L.length = nL) (hp : pc + 3 = pc') (h : wp_X5_next σ P) (k : ∀ r, P r → GG V X σ pc' L (.int r :: st)) : GG V X σ pc L (.ref (ad V 93) :: st) :=
  g_callVi C (av := []) (fun l => c_X5_next V σ P l) (by decide) (en_93 V σ) (q := (RX5, TX5, 13)) rfl rfl ml_RL_98 im_X5_next se_X5_next ini_RX5 co_X5_next hd_X5_next rfl ⟨rfl, rfl⟩ hr hst d hL hp h (fun r τ hq => by obtain ⟨rfl, hq⟩ := hq; exact k r hq)

theorem k_L_102 {V : EV} {X : CX} {cc : ByteArray} {nL : Nat} {R : Room} {y1 : Int32} (C : OK V X RL cc nL R) {σ : Mem} {pc pc' : Nat} {L : List (Option Value)} {st : List Value} {P : Int32 → Prop} (d : decode cc pc = .ok (.invokevirtual 102, 3)) (hst : (st.map fun v => v.category).sum ≤ 8) (hr : 2 + 1 ≤ R.frames ∧ 8 + (3 + 11) + 45 ≤ R.locals) (hL : L.length = nL) (hp : pc + 3 = pc') (h : wp_X5_reason σ y1 P) (k : ∀ r, P r → GG V X σ pc' L (.int r :: st)) : GG V X σ pc L (.int y1 :: .ref (ad V 93) :: st) :=
  g_callVi C (av := [.int y1]) (fun l => c_X5_reason V σ y1 P l) (by decide) (en_93 V σ) (q := (RX5, TX5, 13)) rfl rfl ml_RL_102 im_X5_reason se_X5_reason ini_RX5 co_X5_reason hd_X5_reason rfl ⟨rfl, rfl⟩ hr hst d hL hp h (fun r τ hq => by obtain ⟨rfl, hq⟩ := hq; exact k r hq)

theorem k_L_106 {V : EV} {X : CX} {cc : ByteArray} {nL : Nat} {R : Room} {y1 : Int32} (C : OK V X RL cc nL R) {σ : Mem} {pc pc' : Nat} {L : List (Option Value)} {st : List Value} {P : Int32 → Prop} (d : decode cc pc = .ok (.invokevirtual 106, 3)) (hst : (st.map fun v => v.category).sum ≤ 8) (hr : 3 + 1 ≤ R.frames ∧ 8 + (5 + 11) + 63 ≤ R.locals) (hL : L.length = nL) (hp : pc + 3 = pc') (h : wp_X5_errorsLeft σ y1 P) (k : ∀ r, P r → GG V X σ pc' L (.int r :: st)) : GG V X σ pc L (.int y1 :: .ref (ad V 93) :: st) :=
  g_callVi C (av := [.int y1]) (fun l => c_X5_errorsLeft V σ y1 P l) (by decide) (en_93 V σ) (q := (RX5, TX5, 13)) rfl rfl ml_RL_106 im_X5_errorsLeft se_X5_errorsLeft ini_RX5 co_X5_errorsLeft hd_X5_errorsLeft rfl ⟨rfl, rfl⟩ hr hst d hL hp h (fun r τ hq => by obtain ⟨rfl, hq⟩ := hq; exact k r hq)

theorem k_L_110 {V : EV} {X : CX} {cc : ByteArray} {nL : Nat} {R : Room} (C : OK V X RL cc nL R) {σ : Mem} {pc pc' : Nat} {L : List (Option Value)} {st : List Value} {P : Int32 → Prop} (d : decode cc pc = .ok (.invokevirtual 110, 3)) (hst : (st.map fun v => v.category).sum ≤ 8) (hr : 0 + 1 ≤ R.frames ∧ 8 + (4 + 11) + 0 ≤ R.locals) (hL : L.length = nL) (hp : pc + 3 = pc') (h : wp_X5_worst σ P) (k : ∀ r, P r → GG V X σ pc' L (.int r :: st)) : GG V X σ pc L (.ref (ad V 93) :: st) :=
  g_callVi C (av := []) (fun l => c_X5_worst V σ P l) (by decide) (en_93 V σ) (q := (RX5, TX5, 13)) rfl rfl ml_RL_110 im_X5_worst se_X5_worst ini_RX5 co_X5_worst hd_X5_worst rfl ⟨rfl, rfl⟩ hr hst d hL hp h (fun r τ hq => by obtain ⟨rfl, hq⟩ := hq; exact k r hq)

theorem k_L_114 {V : EV} {X : CX} {cc : ByteArray} {nL : Nat} {R : Room} (C : OK V X RL cc nL R) {σ : Mem} {pc pc' : Nat} {L : List (Option Value)} {st : List Value} {P : Int32 → Prop} (d : decode cc pc = .ok (.invokevirtual 114, 3)) (hst : (st.map fun v => v.category).sum ≤ 8) (hr : 0 + 1 ≤ R.frames ∧ 8 + (1 + 11) + 0 ≤ R.locals) (hL : L.length = nL) (hp : pc + 3 = pc') (h : wp_X5_ifStarted σ P) (k : ∀ r, P r → GG V X σ pc' L (.int r :: st)) : GG V X σ pc L (.ref (ad V 93) :: st) :=
  g_callVi C (av := []) (fun l => c_X5_ifStarted V σ P l) (by decide) (en_93 V σ) (q := (RX5, TX5, 13)) rfl rfl ml_RL_114 im_X5_ifStarted se_X5_ifStarted ini_RX5 co_X5_ifStarted hd_X5_ifStarted rfl ⟨rfl, rfl⟩ hr hst d hL hp h (fun r τ hq => by obtain ⟨rfl, hq⟩ := hq; exact k r hq)

theorem k_L_118 {V : EV} {X : CX} {cc : ByteArray} {nL : Nat} {R : Room} {y1 : Int32} (C : OK V X RL cc nL R) {σ : Mem} {pc pc' : Nat} {L : List (Option Value)} {st : List Value} {P : Int32 → Prop} (d : decode cc pc = .ok (.invokevirtual 118, 3)) (hst : (st.map fun v => v.category).sum ≤ 8) (hr : 2 + 1 ≤ R.frames ∧ 8 + (2 + 11) + 46 ≤ R.locals) (hL : L.length = nL) (hp : pc + 3 = pc') (h : wp_X5_count σ y1 P) (k : ∀ r, P r → GG V X σ pc' L (.int r :: st)) : GG V X σ pc L (.int y1 :: .ref (ad V 93) :: st) :=
  g_callVi C (av := [.int y1]) (fun l => c_X5_count V σ y1 P l) (by decide) (en_93 V σ) (q := (RX5, TX5, 13)) rfl rfl ml_RL_118 im_X5_count se_X5_count ini_RX5 co_X5_count hd_X5_count rfl ⟨rfl, rfl⟩ hr hst d hL hp h (fun r τ hq => by obtain ⟨rfl, hq⟩ := hq; exact k r hq)

theorem dL_law_0 : decode code 0 = .ok (.new 7, 3) := by decide +kernel
theorem dL_law_3 : decode code 3 = .ok (.dup, 1) := by decide +kernel
theorem dL_law_4 : decode code 4 = .ok (.invokespecial 9, 3) := by decide +kernel
theorem dL_law_7 : decode code 7 = .ok (.astore_n 1, 1) := by decide +kernel
theorem dL_law_8 : decode code 8 = .ok (.new 10, 3) := by decide +kernel
theorem dL_law_11 : decode code 11 = .ok (.dup, 1) := by decide +kernel
theorem dL_law_12 : decode code 12 = .ok (.invokespecial 12, 3) := by decide +kernel
theorem dL_law_15 : decode code 15 = .ok (.astore_n 2, 1) := by decide +kernel
theorem dL_law_16 : decode code 16 = .ok (.iconst 0, 1) := by decide +kernel
theorem dL_law_17 : decode code 17 = .ok (.istore_n 3, 1) := by decide +kernel
theorem dL_law_18 : decode code 18 = .ok (.iload_n 3, 1) := by decide +kernel
theorem dL_law_19 : decode code 19 = .ok (.aload_n 0, 1) := by decide +kernel
theorem dL_law_20 : decode code 20 = .ok (.arraylength, 1) := by decide +kernel
theorem dL_law_21 : decode code 21 = .ok (.iconst 4, 1) := by decide +kernel
theorem dL_law_22 : decode code 22 = .ok (.isub, 1) := by decide +kernel
theorem dL_law_23 : decode code 23 = .ok (.if_icmp .gt 734, 3) := by decide +kernel
theorem dL_law_26 : decode code 26 = .ok (.aload_n 0, 1) := by decide +kernel
theorem dL_law_27 : decode code 27 = .ok (.iload_n 3, 1) := by decide +kernel
theorem dL_law_28 : decode code 28 = .ok (.iaload, 1) := by decide +kernel
theorem dL_law_29 : decode code 29 = .ok (.bipush 31, 2) := by decide +kernel
theorem dL_law_31 : decode code 31 = .ok (.iand, 1) := by decide +kernel
theorem dL_law_32 : decode code 32 = .ok (.tableswitch 719 0 24 #[116, 159, 192, 251, 274, 297, 310, 333, 366, 391, 404, 417, 440, 453, 466, 479, 522, 555, 588, 611, 624, 647, 670, 683, 696], 116) := by decide +kernel
theorem dL_law_148 : decode code 148 = .ok (.aload_n 1, 1) := by decide +kernel
theorem dL_law_149 : decode code 149 = .ok (.aload_n 0, 1) := by decide +kernel
theorem dL_law_150 : decode code 150 = .ok (.iload_n 3, 1) := by decide +kernel
theorem dL_law_151 : decode code 151 = .ok (.iconst 1, 1) := by decide +kernel
theorem dL_law_152 : decode code 152 = .ok (.iadd, 1) := by decide +kernel
theorem dL_law_153 : decode code 153 = .ok (.iaload, 1) := by decide +kernel
theorem dL_law_154 : decode code 154 = .ok (.aload_n 0, 1) := by decide +kernel
theorem dL_law_155 : decode code 155 = .ok (.iload_n 3, 1) := by decide +kernel
theorem dL_law_156 : decode code 156 = .ok (.iconst 2, 1) := by decide +kernel
theorem dL_law_157 : decode code 157 = .ok (.iadd, 1) := by decide +kernel
theorem dL_law_158 : decode code 158 = .ok (.iaload, 1) := by decide +kernel
theorem dL_law_159 : decode code 159 = .ok (.aload_n 0, 1) := by decide +kernel
theorem dL_law_160 : decode code 160 = .ok (.iload_n 3, 1) := by decide +kernel
theorem dL_law_161 : decode code 161 = .ok (.iconst 3, 1) := by decide +kernel
theorem dL_law_162 : decode code 162 = .ok (.iadd, 1) := by decide +kernel
theorem dL_law_163 : decode code 163 = .ok (.iaload, 1) := by decide +kernel
theorem dL_law_164 : decode code 164 = .ok (.invokevirtual 13, 3) := by decide +kernel
theorem dL_law_167 : decode code 167 = .ok (.pop, 1) := by decide +kernel
theorem dL_law_168 : decode code 168 = .ok (.aload_n 2, 1) := by decide +kernel
theorem dL_law_169 : decode code 169 = .ok (.aload_n 0, 1) := by decide +kernel
theorem dL_law_170 : decode code 170 = .ok (.iload_n 3, 1) := by decide +kernel
theorem dL_law_171 : decode code 171 = .ok (.iconst 1, 1) := by decide +kernel
theorem dL_law_172 : decode code 172 = .ok (.iadd, 1) := by decide +kernel
theorem dL_law_173 : decode code 173 = .ok (.iaload, 1) := by decide +kernel
theorem dL_law_174 : decode code 174 = .ok (.aload_n 0, 1) := by decide +kernel
theorem dL_law_175 : decode code 175 = .ok (.iload_n 3, 1) := by decide +kernel
theorem dL_law_176 : decode code 176 = .ok (.iconst 2, 1) := by decide +kernel
theorem dL_law_177 : decode code 177 = .ok (.iadd, 1) := by decide +kernel
theorem dL_law_178 : decode code 178 = .ok (.iaload, 1) := by decide +kernel
theorem dL_law_179 : decode code 179 = .ok (.aload_n 0, 1) := by decide +kernel
theorem dL_law_180 : decode code 180 = .ok (.iload_n 3, 1) := by decide +kernel
theorem dL_law_181 : decode code 181 = .ok (.iconst 3, 1) := by decide +kernel
theorem dL_law_182 : decode code 182 = .ok (.iadd, 1) := by decide +kernel
theorem dL_law_183 : decode code 183 = .ok (.iaload, 1) := by decide +kernel
theorem dL_law_184 : decode code 184 = .ok (.invokevirtual 17, 3) := by decide +kernel
theorem dL_law_187 : decode code 187 = .ok (.pop, 1) := by decide +kernel
theorem dL_law_188 : decode code 188 = .ok (.goto 563, 3) := by decide +kernel
theorem dL_law_191 : decode code 191 = .ok (.aload_n 1, 1) := by decide +kernel
theorem dL_law_192 : decode code 192 = .ok (.aload_n 0, 1) := by decide +kernel
theorem dL_law_193 : decode code 193 = .ok (.iload_n 3, 1) := by decide +kernel
theorem dL_law_194 : decode code 194 = .ok (.iconst 1, 1) := by decide +kernel
theorem dL_law_195 : decode code 195 = .ok (.iadd, 1) := by decide +kernel
theorem dL_law_196 : decode code 196 = .ok (.iaload, 1) := by decide +kernel
theorem dL_law_197 : decode code 197 = .ok (.aload_n 0, 1) := by decide +kernel
theorem dL_law_198 : decode code 198 = .ok (.iload_n 3, 1) := by decide +kernel
theorem dL_law_199 : decode code 199 = .ok (.iconst 2, 1) := by decide +kernel
theorem dL_law_200 : decode code 200 = .ok (.iadd, 1) := by decide +kernel
theorem dL_law_201 : decode code 201 = .ok (.iaload, 1) := by decide +kernel
theorem dL_law_202 : decode code 202 = .ok (.invokevirtual 18, 3) := by decide +kernel
theorem dL_law_205 : decode code 205 = .ok (.pop, 1) := by decide +kernel
theorem dL_law_206 : decode code 206 = .ok (.aload_n 2, 1) := by decide +kernel
theorem dL_law_207 : decode code 207 = .ok (.aload_n 0, 1) := by decide +kernel
theorem dL_law_208 : decode code 208 = .ok (.iload_n 3, 1) := by decide +kernel
theorem dL_law_209 : decode code 209 = .ok (.iconst 1, 1) := by decide +kernel
theorem dL_law_210 : decode code 210 = .ok (.iadd, 1) := by decide +kernel
theorem dL_law_211 : decode code 211 = .ok (.iaload, 1) := by decide +kernel
theorem dL_law_212 : decode code 212 = .ok (.aload_n 0, 1) := by decide +kernel
theorem dL_law_213 : decode code 213 = .ok (.iload_n 3, 1) := by decide +kernel
theorem dL_law_214 : decode code 214 = .ok (.iconst 2, 1) := by decide +kernel
theorem dL_law_215 : decode code 215 = .ok (.iadd, 1) := by decide +kernel
theorem dL_law_216 : decode code 216 = .ok (.iaload, 1) := by decide +kernel
theorem dL_law_217 : decode code 217 = .ok (.invokevirtual 22, 3) := by decide +kernel
theorem dL_law_220 : decode code 220 = .ok (.pop, 1) := by decide +kernel
theorem dL_law_221 : decode code 221 = .ok (.goto 530, 3) := by decide +kernel
theorem dL_law_224 : decode code 224 = .ok (.aload_n 1, 1) := by decide +kernel
theorem dL_law_225 : decode code 225 = .ok (.aload_n 0, 1) := by decide +kernel
theorem dL_law_226 : decode code 226 = .ok (.iload_n 3, 1) := by decide +kernel
theorem dL_law_227 : decode code 227 = .ok (.iconst 1, 1) := by decide +kernel
theorem dL_law_228 : decode code 228 = .ok (.iadd, 1) := by decide +kernel
theorem dL_law_229 : decode code 229 = .ok (.iaload, 1) := by decide +kernel
theorem dL_law_230 : decode code 230 = .ok (.aload_n 0, 1) := by decide +kernel
theorem dL_law_231 : decode code 231 = .ok (.iload_n 3, 1) := by decide +kernel
theorem dL_law_232 : decode code 232 = .ok (.iconst 2, 1) := by decide +kernel
theorem dL_law_233 : decode code 233 = .ok (.iadd, 1) := by decide +kernel
theorem dL_law_234 : decode code 234 = .ok (.iaload, 1) := by decide +kernel
theorem dL_law_235 : decode code 235 = .ok (.aload_n 0, 1) := by decide +kernel
theorem dL_law_236 : decode code 236 = .ok (.iload_n 3, 1) := by decide +kernel
theorem dL_law_237 : decode code 237 = .ok (.iconst 3, 1) := by decide +kernel
theorem dL_law_238 : decode code 238 = .ok (.iadd, 1) := by decide +kernel
theorem dL_law_239 : decode code 239 = .ok (.iaload, 1) := by decide +kernel
theorem dL_law_240 : decode code 240 = .ok (.ifCond .eq 7, 3) := by decide +kernel
theorem dL_law_243 : decode code 243 = .ok (.iconst 1, 1) := by decide +kernel
theorem dL_law_244 : decode code 244 = .ok (.goto 4, 3) := by decide +kernel
theorem dL_law_247 : decode code 247 = .ok (.iconst 0, 1) := by decide +kernel
theorem dL_law_248 : decode code 248 = .ok (.invokevirtual 23, 3) := by decide +kernel
theorem dL_law_251 : decode code 251 = .ok (.pop, 1) := by decide +kernel
theorem dL_law_252 : decode code 252 = .ok (.aload_n 2, 1) := by decide +kernel
theorem dL_law_253 : decode code 253 = .ok (.aload_n 0, 1) := by decide +kernel
theorem dL_law_254 : decode code 254 = .ok (.iload_n 3, 1) := by decide +kernel
theorem dL_law_255 : decode code 255 = .ok (.iconst 1, 1) := by decide +kernel
theorem dL_law_256 : decode code 256 = .ok (.iadd, 1) := by decide +kernel
theorem dL_law_257 : decode code 257 = .ok (.iaload, 1) := by decide +kernel
theorem dL_law_258 : decode code 258 = .ok (.aload_n 0, 1) := by decide +kernel
theorem dL_law_259 : decode code 259 = .ok (.iload_n 3, 1) := by decide +kernel
theorem dL_law_260 : decode code 260 = .ok (.iconst 2, 1) := by decide +kernel
theorem dL_law_261 : decode code 261 = .ok (.iadd, 1) := by decide +kernel
theorem dL_law_262 : decode code 262 = .ok (.iaload, 1) := by decide +kernel
theorem dL_law_263 : decode code 263 = .ok (.aload_n 0, 1) := by decide +kernel
theorem dL_law_264 : decode code 264 = .ok (.iload_n 3, 1) := by decide +kernel
theorem dL_law_265 : decode code 265 = .ok (.iconst 3, 1) := by decide +kernel
theorem dL_law_266 : decode code 266 = .ok (.iadd, 1) := by decide +kernel
theorem dL_law_267 : decode code 267 = .ok (.iaload, 1) := by decide +kernel
theorem dL_law_268 : decode code 268 = .ok (.ifCond .eq 7, 3) := by decide +kernel
theorem dL_law_271 : decode code 271 = .ok (.iconst 1, 1) := by decide +kernel
theorem dL_law_272 : decode code 272 = .ok (.goto 4, 3) := by decide +kernel
theorem dL_law_275 : decode code 275 = .ok (.iconst 0, 1) := by decide +kernel
theorem dL_law_276 : decode code 276 = .ok (.invokevirtual 27, 3) := by decide +kernel
theorem dL_law_279 : decode code 279 = .ok (.pop, 1) := by decide +kernel
theorem dL_law_280 : decode code 280 = .ok (.goto 471, 3) := by decide +kernel
theorem dL_law_283 : decode code 283 = .ok (.aload_n 1, 1) := by decide +kernel
theorem dL_law_284 : decode code 284 = .ok (.aload_n 0, 1) := by decide +kernel
theorem dL_law_285 : decode code 285 = .ok (.iload_n 3, 1) := by decide +kernel
theorem dL_law_286 : decode code 286 = .ok (.iconst 1, 1) := by decide +kernel
theorem dL_law_287 : decode code 287 = .ok (.iadd, 1) := by decide +kernel
theorem dL_law_288 : decode code 288 = .ok (.iaload, 1) := by decide +kernel
theorem dL_law_289 : decode code 289 = .ok (.invokevirtual 28, 3) := by decide +kernel
theorem dL_law_292 : decode code 292 = .ok (.pop, 1) := by decide +kernel
theorem dL_law_293 : decode code 293 = .ok (.aload_n 2, 1) := by decide +kernel
theorem dL_law_294 : decode code 294 = .ok (.aload_n 0, 1) := by decide +kernel
theorem dL_law_295 : decode code 295 = .ok (.iload_n 3, 1) := by decide +kernel
theorem dL_law_296 : decode code 296 = .ok (.iconst 1, 1) := by decide +kernel
theorem dL_law_297 : decode code 297 = .ok (.iadd, 1) := by decide +kernel
theorem dL_law_298 : decode code 298 = .ok (.iaload, 1) := by decide +kernel
theorem dL_law_299 : decode code 299 = .ok (.invokevirtual 32, 3) := by decide +kernel
theorem dL_law_302 : decode code 302 = .ok (.pop, 1) := by decide +kernel
theorem dL_law_303 : decode code 303 = .ok (.goto 448, 3) := by decide +kernel
theorem dL_law_306 : decode code 306 = .ok (.aload_n 1, 1) := by decide +kernel
theorem dL_law_307 : decode code 307 = .ok (.aload_n 0, 1) := by decide +kernel
theorem dL_law_308 : decode code 308 = .ok (.iload_n 3, 1) := by decide +kernel
theorem dL_law_309 : decode code 309 = .ok (.iconst 1, 1) := by decide +kernel
theorem dL_law_310 : decode code 310 = .ok (.iadd, 1) := by decide +kernel
theorem dL_law_311 : decode code 311 = .ok (.iaload, 1) := by decide +kernel
theorem dL_law_312 : decode code 312 = .ok (.invokevirtual 33, 3) := by decide +kernel
theorem dL_law_315 : decode code 315 = .ok (.pop, 1) := by decide +kernel
theorem dL_law_316 : decode code 316 = .ok (.aload_n 2, 1) := by decide +kernel
theorem dL_law_317 : decode code 317 = .ok (.aload_n 0, 1) := by decide +kernel
theorem dL_law_318 : decode code 318 = .ok (.iload_n 3, 1) := by decide +kernel
theorem dL_law_319 : decode code 319 = .ok (.iconst 1, 1) := by decide +kernel
theorem dL_law_320 : decode code 320 = .ok (.iadd, 1) := by decide +kernel
theorem dL_law_321 : decode code 321 = .ok (.iaload, 1) := by decide +kernel
theorem dL_law_322 : decode code 322 = .ok (.invokevirtual 36, 3) := by decide +kernel
theorem dL_law_325 : decode code 325 = .ok (.pop, 1) := by decide +kernel
theorem dL_law_326 : decode code 326 = .ok (.goto 425, 3) := by decide +kernel
theorem dL_law_329 : decode code 329 = .ok (.aload_n 1, 1) := by decide +kernel
theorem dL_law_330 : decode code 330 = .ok (.invokevirtual 37, 3) := by decide +kernel
theorem dL_law_333 : decode code 333 = .ok (.pop, 1) := by decide +kernel
theorem dL_law_334 : decode code 334 = .ok (.aload_n 2, 1) := by decide +kernel
theorem dL_law_335 : decode code 335 = .ok (.invokevirtual 41, 3) := by decide +kernel
theorem dL_law_338 : decode code 338 = .ok (.pop, 1) := by decide +kernel
theorem dL_law_339 : decode code 339 = .ok (.goto 412, 3) := by decide +kernel
theorem dL_law_342 : decode code 342 = .ok (.aload_n 1, 1) := by decide +kernel
theorem dL_law_343 : decode code 343 = .ok (.aload_n 0, 1) := by decide +kernel
theorem dL_law_344 : decode code 344 = .ok (.iload_n 3, 1) := by decide +kernel
theorem dL_law_345 : decode code 345 = .ok (.iconst 1, 1) := by decide +kernel
theorem dL_law_346 : decode code 346 = .ok (.iadd, 1) := by decide +kernel
theorem dL_law_347 : decode code 347 = .ok (.iaload, 1) := by decide +kernel
theorem dL_law_348 : decode code 348 = .ok (.invokevirtual 42, 3) := by decide +kernel
theorem dL_law_351 : decode code 351 = .ok (.pop, 1) := by decide +kernel
theorem dL_law_352 : decode code 352 = .ok (.aload_n 2, 1) := by decide +kernel
theorem dL_law_353 : decode code 353 = .ok (.aload_n 0, 1) := by decide +kernel
theorem dL_law_354 : decode code 354 = .ok (.iload_n 3, 1) := by decide +kernel
theorem dL_law_355 : decode code 355 = .ok (.iconst 1, 1) := by decide +kernel
theorem dL_law_356 : decode code 356 = .ok (.iadd, 1) := by decide +kernel
theorem dL_law_357 : decode code 357 = .ok (.iaload, 1) := by decide +kernel
theorem dL_law_358 : decode code 358 = .ok (.invokevirtual 45, 3) := by decide +kernel
theorem dL_law_361 : decode code 361 = .ok (.pop, 1) := by decide +kernel
theorem dL_law_362 : decode code 362 = .ok (.goto 389, 3) := by decide +kernel
theorem dL_law_365 : decode code 365 = .ok (.aload_n 1, 1) := by decide +kernel
theorem dL_law_366 : decode code 366 = .ok (.aload_n 0, 1) := by decide +kernel
theorem dL_law_367 : decode code 367 = .ok (.iload_n 3, 1) := by decide +kernel
theorem dL_law_368 : decode code 368 = .ok (.iconst 1, 1) := by decide +kernel
theorem dL_law_369 : decode code 369 = .ok (.iadd, 1) := by decide +kernel
theorem dL_law_370 : decode code 370 = .ok (.iaload, 1) := by decide +kernel
theorem dL_law_371 : decode code 371 = .ok (.aload_n 0, 1) := by decide +kernel
theorem dL_law_372 : decode code 372 = .ok (.iload_n 3, 1) := by decide +kernel
theorem dL_law_373 : decode code 373 = .ok (.iconst 2, 1) := by decide +kernel
theorem dL_law_374 : decode code 374 = .ok (.iadd, 1) := by decide +kernel
theorem dL_law_375 : decode code 375 = .ok (.iaload, 1) := by decide +kernel
theorem dL_law_376 : decode code 376 = .ok (.invokevirtual 46, 3) := by decide +kernel
theorem dL_law_379 : decode code 379 = .ok (.pop, 1) := by decide +kernel
theorem dL_law_380 : decode code 380 = .ok (.aload_n 2, 1) := by decide +kernel
theorem dL_law_381 : decode code 381 = .ok (.aload_n 0, 1) := by decide +kernel
theorem dL_law_382 : decode code 382 = .ok (.iload_n 3, 1) := by decide +kernel
theorem dL_law_383 : decode code 383 = .ok (.iconst 1, 1) := by decide +kernel
theorem dL_law_384 : decode code 384 = .ok (.iadd, 1) := by decide +kernel
theorem dL_law_385 : decode code 385 = .ok (.iaload, 1) := by decide +kernel
theorem dL_law_386 : decode code 386 = .ok (.aload_n 0, 1) := by decide +kernel
theorem dL_law_387 : decode code 387 = .ok (.iload_n 3, 1) := by decide +kernel
theorem dL_law_388 : decode code 388 = .ok (.iconst 2, 1) := by decide +kernel
theorem dL_law_389 : decode code 389 = .ok (.iadd, 1) := by decide +kernel
theorem dL_law_390 : decode code 390 = .ok (.iaload, 1) := by decide +kernel
theorem dL_law_391 : decode code 391 = .ok (.invokevirtual 49, 3) := by decide +kernel
theorem dL_law_394 : decode code 394 = .ok (.pop, 1) := by decide +kernel
theorem dL_law_395 : decode code 395 = .ok (.goto 356, 3) := by decide +kernel
theorem dL_law_398 : decode code 398 = .ok (.aload_n 1, 1) := by decide +kernel
theorem dL_law_399 : decode code 399 = .ok (.aload_n 0, 1) := by decide +kernel
theorem dL_law_400 : decode code 400 = .ok (.iload_n 3, 1) := by decide +kernel
theorem dL_law_401 : decode code 401 = .ok (.iconst 1, 1) := by decide +kernel
theorem dL_law_402 : decode code 402 = .ok (.iadd, 1) := by decide +kernel
theorem dL_law_403 : decode code 403 = .ok (.iaload, 1) := by decide +kernel
theorem dL_law_404 : decode code 404 = .ok (.i2c, 1) := by decide +kernel
theorem dL_law_405 : decode code 405 = .ok (.invokevirtual 50, 3) := by decide +kernel
theorem dL_law_408 : decode code 408 = .ok (.pop, 1) := by decide +kernel
theorem dL_law_409 : decode code 409 = .ok (.aload_n 2, 1) := by decide +kernel
theorem dL_law_410 : decode code 410 = .ok (.aload_n 0, 1) := by decide +kernel
theorem dL_law_411 : decode code 411 = .ok (.iload_n 3, 1) := by decide +kernel
theorem dL_law_412 : decode code 412 = .ok (.iconst 1, 1) := by decide +kernel
theorem dL_law_413 : decode code 413 = .ok (.iadd, 1) := by decide +kernel
theorem dL_law_414 : decode code 414 = .ok (.iaload, 1) := by decide +kernel
theorem dL_law_415 : decode code 415 = .ok (.i2c, 1) := by decide +kernel
theorem dL_law_416 : decode code 416 = .ok (.invokevirtual 54, 3) := by decide +kernel
theorem dL_law_419 : decode code 419 = .ok (.pop, 1) := by decide +kernel
theorem dL_law_420 : decode code 420 = .ok (.goto 331, 3) := by decide +kernel
theorem dL_law_423 : decode code 423 = .ok (.aload_n 1, 1) := by decide +kernel
theorem dL_law_424 : decode code 424 = .ok (.invokevirtual 55, 3) := by decide +kernel
theorem dL_law_427 : decode code 427 = .ok (.pop, 1) := by decide +kernel
theorem dL_law_428 : decode code 428 = .ok (.aload_n 2, 1) := by decide +kernel
theorem dL_law_429 : decode code 429 = .ok (.invokevirtual 58, 3) := by decide +kernel
theorem dL_law_432 : decode code 432 = .ok (.pop, 1) := by decide +kernel
theorem dL_law_433 : decode code 433 = .ok (.goto 318, 3) := by decide +kernel
theorem dL_law_436 : decode code 436 = .ok (.aload_n 1, 1) := by decide +kernel
theorem dL_law_437 : decode code 437 = .ok (.invokevirtual 59, 3) := by decide +kernel
theorem dL_law_440 : decode code 440 = .ok (.pop, 1) := by decide +kernel
theorem dL_law_441 : decode code 441 = .ok (.aload_n 2, 1) := by decide +kernel
theorem dL_law_442 : decode code 442 = .ok (.invokevirtual 62, 3) := by decide +kernel
theorem dL_law_445 : decode code 445 = .ok (.pop, 1) := by decide +kernel
theorem dL_law_446 : decode code 446 = .ok (.goto 305, 3) := by decide +kernel
theorem dL_law_449 : decode code 449 = .ok (.aload_n 1, 1) := by decide +kernel
theorem dL_law_450 : decode code 450 = .ok (.aload_n 0, 1) := by decide +kernel
theorem dL_law_451 : decode code 451 = .ok (.iload_n 3, 1) := by decide +kernel
theorem dL_law_452 : decode code 452 = .ok (.iconst 1, 1) := by decide +kernel
theorem dL_law_453 : decode code 453 = .ok (.iadd, 1) := by decide +kernel
theorem dL_law_454 : decode code 454 = .ok (.iaload, 1) := by decide +kernel
theorem dL_law_455 : decode code 455 = .ok (.invokevirtual 63, 3) := by decide +kernel
theorem dL_law_458 : decode code 458 = .ok (.pop, 1) := by decide +kernel
theorem dL_law_459 : decode code 459 = .ok (.aload_n 2, 1) := by decide +kernel
theorem dL_law_460 : decode code 460 = .ok (.aload_n 0, 1) := by decide +kernel
theorem dL_law_461 : decode code 461 = .ok (.iload_n 3, 1) := by decide +kernel
theorem dL_law_462 : decode code 462 = .ok (.iconst 1, 1) := by decide +kernel
theorem dL_law_463 : decode code 463 = .ok (.iadd, 1) := by decide +kernel
theorem dL_law_464 : decode code 464 = .ok (.iaload, 1) := by decide +kernel
theorem dL_law_465 : decode code 465 = .ok (.invokevirtual 66, 3) := by decide +kernel
theorem dL_law_468 : decode code 468 = .ok (.pop, 1) := by decide +kernel
theorem dL_law_469 : decode code 469 = .ok (.goto 282, 3) := by decide +kernel
theorem dL_law_472 : decode code 472 = .ok (.aload_n 1, 1) := by decide +kernel
theorem dL_law_473 : decode code 473 = .ok (.invokevirtual 67, 3) := by decide +kernel
theorem dL_law_476 : decode code 476 = .ok (.pop, 1) := by decide +kernel
theorem dL_law_477 : decode code 477 = .ok (.aload_n 2, 1) := by decide +kernel
theorem dL_law_478 : decode code 478 = .ok (.invokevirtual 70, 3) := by decide +kernel
theorem dL_law_481 : decode code 481 = .ok (.pop, 1) := by decide +kernel
theorem dL_law_482 : decode code 482 = .ok (.goto 269, 3) := by decide +kernel
theorem dL_law_485 : decode code 485 = .ok (.aload_n 1, 1) := by decide +kernel
theorem dL_law_486 : decode code 486 = .ok (.invokevirtual 71, 3) := by decide +kernel
theorem dL_law_489 : decode code 489 = .ok (.pop, 1) := by decide +kernel
theorem dL_law_490 : decode code 490 = .ok (.aload_n 2, 1) := by decide +kernel
theorem dL_law_491 : decode code 491 = .ok (.invokevirtual 74, 3) := by decide +kernel
theorem dL_law_494 : decode code 494 = .ok (.pop, 1) := by decide +kernel
theorem dL_law_495 : decode code 495 = .ok (.goto 256, 3) := by decide +kernel
theorem dL_law_498 : decode code 498 = .ok (.aload_n 1, 1) := by decide +kernel
theorem dL_law_499 : decode code 499 = .ok (.invokevirtual 75, 3) := by decide +kernel
theorem dL_law_502 : decode code 502 = .ok (.pop, 1) := by decide +kernel
theorem dL_law_503 : decode code 503 = .ok (.aload_n 2, 1) := by decide +kernel
theorem dL_law_504 : decode code 504 = .ok (.invokevirtual 78, 3) := by decide +kernel
theorem dL_law_507 : decode code 507 = .ok (.pop, 1) := by decide +kernel
theorem dL_law_508 : decode code 508 = .ok (.goto 243, 3) := by decide +kernel
theorem dL_law_511 : decode code 511 = .ok (.aload_n 1, 1) := by decide +kernel
theorem dL_law_512 : decode code 512 = .ok (.aload_n 0, 1) := by decide +kernel
theorem dL_law_513 : decode code 513 = .ok (.iload_n 3, 1) := by decide +kernel
theorem dL_law_514 : decode code 514 = .ok (.iconst 1, 1) := by decide +kernel
theorem dL_law_515 : decode code 515 = .ok (.iadd, 1) := by decide +kernel
theorem dL_law_516 : decode code 516 = .ok (.iaload, 1) := by decide +kernel
theorem dL_law_517 : decode code 517 = .ok (.aload_n 0, 1) := by decide +kernel
theorem dL_law_518 : decode code 518 = .ok (.iload_n 3, 1) := by decide +kernel
theorem dL_law_519 : decode code 519 = .ok (.iconst 2, 1) := by decide +kernel
theorem dL_law_520 : decode code 520 = .ok (.iadd, 1) := by decide +kernel
theorem dL_law_521 : decode code 521 = .ok (.iaload, 1) := by decide +kernel
theorem dL_law_522 : decode code 522 = .ok (.aload_n 0, 1) := by decide +kernel
theorem dL_law_523 : decode code 523 = .ok (.iload_n 3, 1) := by decide +kernel
theorem dL_law_524 : decode code 524 = .ok (.iconst 3, 1) := by decide +kernel
theorem dL_law_525 : decode code 525 = .ok (.iadd, 1) := by decide +kernel
theorem dL_law_526 : decode code 526 = .ok (.iaload, 1) := by decide +kernel
theorem dL_law_527 : decode code 527 = .ok (.invokevirtual 79, 3) := by decide +kernel
theorem dL_law_530 : decode code 530 = .ok (.pop, 1) := by decide +kernel
theorem dL_law_531 : decode code 531 = .ok (.aload_n 2, 1) := by decide +kernel
theorem dL_law_532 : decode code 532 = .ok (.aload_n 0, 1) := by decide +kernel
theorem dL_law_533 : decode code 533 = .ok (.iload_n 3, 1) := by decide +kernel
theorem dL_law_534 : decode code 534 = .ok (.iconst 1, 1) := by decide +kernel
theorem dL_law_535 : decode code 535 = .ok (.iadd, 1) := by decide +kernel
theorem dL_law_536 : decode code 536 = .ok (.iaload, 1) := by decide +kernel
theorem dL_law_537 : decode code 537 = .ok (.aload_n 0, 1) := by decide +kernel
theorem dL_law_538 : decode code 538 = .ok (.iload_n 3, 1) := by decide +kernel
theorem dL_law_539 : decode code 539 = .ok (.iconst 2, 1) := by decide +kernel
theorem dL_law_540 : decode code 540 = .ok (.iadd, 1) := by decide +kernel
theorem dL_law_541 : decode code 541 = .ok (.iaload, 1) := by decide +kernel
theorem dL_law_542 : decode code 542 = .ok (.aload_n 0, 1) := by decide +kernel
theorem dL_law_543 : decode code 543 = .ok (.iload_n 3, 1) := by decide +kernel
theorem dL_law_544 : decode code 544 = .ok (.iconst 3, 1) := by decide +kernel
theorem dL_law_545 : decode code 545 = .ok (.iadd, 1) := by decide +kernel
theorem dL_law_546 : decode code 546 = .ok (.iaload, 1) := by decide +kernel
theorem dL_law_547 : decode code 547 = .ok (.invokevirtual 82, 3) := by decide +kernel
theorem dL_law_550 : decode code 550 = .ok (.pop, 1) := by decide +kernel
theorem dL_law_551 : decode code 551 = .ok (.goto 200, 3) := by decide +kernel
theorem dL_law_554 : decode code 554 = .ok (.aload_n 1, 1) := by decide +kernel
theorem dL_law_555 : decode code 555 = .ok (.aload_n 0, 1) := by decide +kernel
theorem dL_law_556 : decode code 556 = .ok (.iload_n 3, 1) := by decide +kernel
theorem dL_law_557 : decode code 557 = .ok (.iconst 1, 1) := by decide +kernel
theorem dL_law_558 : decode code 558 = .ok (.iadd, 1) := by decide +kernel
theorem dL_law_559 : decode code 559 = .ok (.iaload, 1) := by decide +kernel
theorem dL_law_560 : decode code 560 = .ok (.aload_n 0, 1) := by decide +kernel
theorem dL_law_561 : decode code 561 = .ok (.iload_n 3, 1) := by decide +kernel
theorem dL_law_562 : decode code 562 = .ok (.iconst 2, 1) := by decide +kernel
theorem dL_law_563 : decode code 563 = .ok (.iadd, 1) := by decide +kernel
theorem dL_law_564 : decode code 564 = .ok (.iaload, 1) := by decide +kernel
theorem dL_law_565 : decode code 565 = .ok (.invokevirtual 83, 3) := by decide +kernel
theorem dL_law_568 : decode code 568 = .ok (.pop, 1) := by decide +kernel
theorem dL_law_569 : decode code 569 = .ok (.aload_n 2, 1) := by decide +kernel
theorem dL_law_570 : decode code 570 = .ok (.aload_n 0, 1) := by decide +kernel
theorem dL_law_571 : decode code 571 = .ok (.iload_n 3, 1) := by decide +kernel
theorem dL_law_572 : decode code 572 = .ok (.iconst 1, 1) := by decide +kernel
theorem dL_law_573 : decode code 573 = .ok (.iadd, 1) := by decide +kernel
theorem dL_law_574 : decode code 574 = .ok (.iaload, 1) := by decide +kernel
theorem dL_law_575 : decode code 575 = .ok (.aload_n 0, 1) := by decide +kernel
theorem dL_law_576 : decode code 576 = .ok (.iload_n 3, 1) := by decide +kernel
theorem dL_law_577 : decode code 577 = .ok (.iconst 2, 1) := by decide +kernel
theorem dL_law_578 : decode code 578 = .ok (.iadd, 1) := by decide +kernel
theorem dL_law_579 : decode code 579 = .ok (.iaload, 1) := by decide +kernel
theorem dL_law_580 : decode code 580 = .ok (.invokevirtual 86, 3) := by decide +kernel
theorem dL_law_583 : decode code 583 = .ok (.pop, 1) := by decide +kernel
theorem dL_law_584 : decode code 584 = .ok (.goto 167, 3) := by decide +kernel
theorem dL_law_587 : decode code 587 = .ok (.aload_n 1, 1) := by decide +kernel
theorem dL_law_588 : decode code 588 = .ok (.aload_n 0, 1) := by decide +kernel
theorem dL_law_589 : decode code 589 = .ok (.iload_n 3, 1) := by decide +kernel
theorem dL_law_590 : decode code 590 = .ok (.iconst 1, 1) := by decide +kernel
theorem dL_law_591 : decode code 591 = .ok (.iadd, 1) := by decide +kernel
theorem dL_law_592 : decode code 592 = .ok (.iaload, 1) := by decide +kernel
theorem dL_law_593 : decode code 593 = .ok (.aload_n 0, 1) := by decide +kernel
theorem dL_law_594 : decode code 594 = .ok (.iload_n 3, 1) := by decide +kernel
theorem dL_law_595 : decode code 595 = .ok (.iconst 2, 1) := by decide +kernel
theorem dL_law_596 : decode code 596 = .ok (.iadd, 1) := by decide +kernel
theorem dL_law_597 : decode code 597 = .ok (.iaload, 1) := by decide +kernel
theorem dL_law_598 : decode code 598 = .ok (.invokevirtual 87, 3) := by decide +kernel
theorem dL_law_601 : decode code 601 = .ok (.pop, 1) := by decide +kernel
theorem dL_law_602 : decode code 602 = .ok (.aload_n 2, 1) := by decide +kernel
theorem dL_law_603 : decode code 603 = .ok (.aload_n 0, 1) := by decide +kernel
theorem dL_law_604 : decode code 604 = .ok (.iload_n 3, 1) := by decide +kernel
theorem dL_law_605 : decode code 605 = .ok (.iconst 1, 1) := by decide +kernel
theorem dL_law_606 : decode code 606 = .ok (.iadd, 1) := by decide +kernel
theorem dL_law_607 : decode code 607 = .ok (.iaload, 1) := by decide +kernel
theorem dL_law_608 : decode code 608 = .ok (.aload_n 0, 1) := by decide +kernel
theorem dL_law_609 : decode code 609 = .ok (.iload_n 3, 1) := by decide +kernel
theorem dL_law_610 : decode code 610 = .ok (.iconst 2, 1) := by decide +kernel
theorem dL_law_611 : decode code 611 = .ok (.iadd, 1) := by decide +kernel
theorem dL_law_612 : decode code 612 = .ok (.iaload, 1) := by decide +kernel
theorem dL_law_613 : decode code 613 = .ok (.invokevirtual 90, 3) := by decide +kernel
theorem dL_law_616 : decode code 616 = .ok (.pop, 1) := by decide +kernel
theorem dL_law_617 : decode code 617 = .ok (.goto 134, 3) := by decide +kernel
theorem dL_law_620 : decode code 620 = .ok (.aload_n 1, 1) := by decide +kernel
theorem dL_law_621 : decode code 621 = .ok (.aload_n 0, 1) := by decide +kernel
theorem dL_law_622 : decode code 622 = .ok (.iload_n 3, 1) := by decide +kernel
theorem dL_law_623 : decode code 623 = .ok (.iconst 1, 1) := by decide +kernel
theorem dL_law_624 : decode code 624 = .ok (.iadd, 1) := by decide +kernel
theorem dL_law_625 : decode code 625 = .ok (.iaload, 1) := by decide +kernel
theorem dL_law_626 : decode code 626 = .ok (.invokevirtual 91, 3) := by decide +kernel
theorem dL_law_629 : decode code 629 = .ok (.pop, 1) := by decide +kernel
theorem dL_law_630 : decode code 630 = .ok (.aload_n 2, 1) := by decide +kernel
theorem dL_law_631 : decode code 631 = .ok (.aload_n 0, 1) := by decide +kernel
theorem dL_law_632 : decode code 632 = .ok (.iload_n 3, 1) := by decide +kernel
theorem dL_law_633 : decode code 633 = .ok (.iconst 1, 1) := by decide +kernel
theorem dL_law_634 : decode code 634 = .ok (.iadd, 1) := by decide +kernel
theorem dL_law_635 : decode code 635 = .ok (.iaload, 1) := by decide +kernel
theorem dL_law_636 : decode code 636 = .ok (.invokevirtual 94, 3) := by decide +kernel
theorem dL_law_639 : decode code 639 = .ok (.pop, 1) := by decide +kernel
theorem dL_law_640 : decode code 640 = .ok (.goto 111, 3) := by decide +kernel
theorem dL_law_643 : decode code 643 = .ok (.aload_n 1, 1) := by decide +kernel
theorem dL_law_644 : decode code 644 = .ok (.invokevirtual 95, 3) := by decide +kernel
theorem dL_law_647 : decode code 647 = .ok (.pop, 1) := by decide +kernel
theorem dL_law_648 : decode code 648 = .ok (.aload_n 2, 1) := by decide +kernel
theorem dL_law_649 : decode code 649 = .ok (.invokevirtual 98, 3) := by decide +kernel
theorem dL_law_652 : decode code 652 = .ok (.pop, 1) := by decide +kernel
theorem dL_law_653 : decode code 653 = .ok (.goto 98, 3) := by decide +kernel
theorem dL_law_656 : decode code 656 = .ok (.aload_n 1, 1) := by decide +kernel
theorem dL_law_657 : decode code 657 = .ok (.aload_n 0, 1) := by decide +kernel
theorem dL_law_658 : decode code 658 = .ok (.iload_n 3, 1) := by decide +kernel
theorem dL_law_659 : decode code 659 = .ok (.iconst 1, 1) := by decide +kernel
theorem dL_law_660 : decode code 660 = .ok (.iadd, 1) := by decide +kernel
theorem dL_law_661 : decode code 661 = .ok (.iaload, 1) := by decide +kernel
theorem dL_law_662 : decode code 662 = .ok (.invokevirtual 99, 3) := by decide +kernel
theorem dL_law_665 : decode code 665 = .ok (.pop, 1) := by decide +kernel
theorem dL_law_666 : decode code 666 = .ok (.aload_n 2, 1) := by decide +kernel
theorem dL_law_667 : decode code 667 = .ok (.aload_n 0, 1) := by decide +kernel
theorem dL_law_668 : decode code 668 = .ok (.iload_n 3, 1) := by decide +kernel
theorem dL_law_669 : decode code 669 = .ok (.iconst 1, 1) := by decide +kernel
theorem dL_law_670 : decode code 670 = .ok (.iadd, 1) := by decide +kernel
theorem dL_law_671 : decode code 671 = .ok (.iaload, 1) := by decide +kernel
theorem dL_law_672 : decode code 672 = .ok (.invokevirtual 102, 3) := by decide +kernel
theorem dL_law_675 : decode code 675 = .ok (.pop, 1) := by decide +kernel
theorem dL_law_676 : decode code 676 = .ok (.goto 75, 3) := by decide +kernel
theorem dL_law_679 : decode code 679 = .ok (.aload_n 1, 1) := by decide +kernel
theorem dL_law_680 : decode code 680 = .ok (.aload_n 0, 1) := by decide +kernel
theorem dL_law_681 : decode code 681 = .ok (.iload_n 3, 1) := by decide +kernel
theorem dL_law_682 : decode code 682 = .ok (.iconst 1, 1) := by decide +kernel
theorem dL_law_683 : decode code 683 = .ok (.iadd, 1) := by decide +kernel
theorem dL_law_684 : decode code 684 = .ok (.iaload, 1) := by decide +kernel
theorem dL_law_685 : decode code 685 = .ok (.invokevirtual 103, 3) := by decide +kernel
theorem dL_law_688 : decode code 688 = .ok (.pop, 1) := by decide +kernel
theorem dL_law_689 : decode code 689 = .ok (.aload_n 2, 1) := by decide +kernel
theorem dL_law_690 : decode code 690 = .ok (.aload_n 0, 1) := by decide +kernel
theorem dL_law_691 : decode code 691 = .ok (.iload_n 3, 1) := by decide +kernel
theorem dL_law_692 : decode code 692 = .ok (.iconst 1, 1) := by decide +kernel
theorem dL_law_693 : decode code 693 = .ok (.iadd, 1) := by decide +kernel
theorem dL_law_694 : decode code 694 = .ok (.iaload, 1) := by decide +kernel
theorem dL_law_695 : decode code 695 = .ok (.invokevirtual 106, 3) := by decide +kernel
theorem dL_law_698 : decode code 698 = .ok (.pop, 1) := by decide +kernel
theorem dL_law_699 : decode code 699 = .ok (.goto 52, 3) := by decide +kernel
theorem dL_law_702 : decode code 702 = .ok (.aload_n 1, 1) := by decide +kernel
theorem dL_law_703 : decode code 703 = .ok (.invokevirtual 107, 3) := by decide +kernel
theorem dL_law_706 : decode code 706 = .ok (.pop, 1) := by decide +kernel
theorem dL_law_707 : decode code 707 = .ok (.aload_n 2, 1) := by decide +kernel
theorem dL_law_708 : decode code 708 = .ok (.invokevirtual 110, 3) := by decide +kernel
theorem dL_law_711 : decode code 711 = .ok (.pop, 1) := by decide +kernel
theorem dL_law_712 : decode code 712 = .ok (.goto 39, 3) := by decide +kernel
theorem dL_law_715 : decode code 715 = .ok (.aload_n 1, 1) := by decide +kernel
theorem dL_law_716 : decode code 716 = .ok (.invokevirtual 111, 3) := by decide +kernel
theorem dL_law_719 : decode code 719 = .ok (.pop, 1) := by decide +kernel
theorem dL_law_720 : decode code 720 = .ok (.aload_n 2, 1) := by decide +kernel
theorem dL_law_721 : decode code 721 = .ok (.invokevirtual 114, 3) := by decide +kernel
theorem dL_law_724 : decode code 724 = .ok (.pop, 1) := by decide +kernel
theorem dL_law_725 : decode code 725 = .ok (.goto 26, 3) := by decide +kernel
theorem dL_law_728 : decode code 728 = .ok (.aload_n 1, 1) := by decide +kernel
theorem dL_law_729 : decode code 729 = .ok (.aload_n 0, 1) := by decide +kernel
theorem dL_law_730 : decode code 730 = .ok (.iload_n 3, 1) := by decide +kernel
theorem dL_law_731 : decode code 731 = .ok (.iconst 1, 1) := by decide +kernel
theorem dL_law_732 : decode code 732 = .ok (.iadd, 1) := by decide +kernel
theorem dL_law_733 : decode code 733 = .ok (.iaload, 1) := by decide +kernel
theorem dL_law_734 : decode code 734 = .ok (.invokevirtual 115, 3) := by decide +kernel
theorem dL_law_737 : decode code 737 = .ok (.aload_n 2, 1) := by decide +kernel
theorem dL_law_738 : decode code 738 = .ok (.aload_n 0, 1) := by decide +kernel
theorem dL_law_739 : decode code 739 = .ok (.iload_n 3, 1) := by decide +kernel
theorem dL_law_740 : decode code 740 = .ok (.iconst 1, 1) := by decide +kernel
theorem dL_law_741 : decode code 741 = .ok (.iadd, 1) := by decide +kernel
theorem dL_law_742 : decode code 742 = .ok (.iaload, 1) := by decide +kernel
theorem dL_law_743 : decode code 743 = .ok (.invokevirtual 118, 3) := by decide +kernel
theorem dL_law_746 : decode code 746 = .ok (.if_icmp .eq 5, 3) := by decide +kernel
theorem dL_law_749 : decode code 749 = .ok (.iconst 0, 1) := by decide +kernel
theorem dL_law_750 : decode code 750 = .ok (.ireturn, 1) := by decide +kernel
theorem dL_law_751 : decode code 751 = .ok (.iinc 3 4, 3) := by decide +kernel
theorem dL_law_754 : decode code 754 = .ok (.goto (-736), 3) := by decide +kernel
theorem dL_law_757 : decode code 757 = .ok (.iconst 1, 1) := by decide +kernel
theorem dL_law_758 : decode code 758 = .ok (.ireturn, 1) := by decide +kernel
