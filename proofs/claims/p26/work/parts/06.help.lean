/-! constants, arrays, fields of this system over the fixed world -/
def isZ (x : Int32) : Prop := x = 0 ∨ x = 1
theorem isZ_0 : isZ 0 := Or.inl rfl
theorem isZ_1 : isZ 1 := Or.inr rfl
def isC (x : Int32) : Prop := narrow .char (.int x) = .int x
def isM (b : Nat) : Prop := b % 12 = 0 ∧ b < 84
theorem isM_st {i : Int32} (h : vp_in i 4) : isM (36 + 12 * i.toNatClampNeg) := by
  have : i.toNatClampNeg < 4 := Nat.not_le.mp fun q => h (Or.inr q)
  unfold isM
  omega
theorem isM_0 : isM 0 := ⟨by decide, by decide⟩
theorem isM_12 : isM 12 := ⟨by decide, by decide⟩
theorem isM_24 : isM 24 := ⟨by decide, by decide⟩
def aln (k : Nat) : Nat := if k = 96 then 1252 else 313
def isZr (k : Nat) : Prop := k = 94 ∨ k = 95 ∨ k = 96 ∨ k = 97
theorem isZr_94 : isZr 94 := by unfold isZr; decide
theorem isZr_95 : isZr 95 := by unfold isZr; decide
theorem isZr_96 : isZr 96 := by unfold isZr; decide
theorem isZr_97 : isZr 97 := by unfold isZr; decide
theorem ic_m1 : Int32.ofInt (-1) = (-1) := by decide
theorem ic_0 : Int32.ofInt 0 = 0 := by decide
theorem ic_1 : Int32.ofInt 1 = 1 := by decide
theorem ic_2 : Int32.ofInt 2 = 2 := by decide
theorem ic_3 : Int32.ofInt 3 = 3 := by decide
theorem ic_4 : Int32.ofInt 4 = 4 := by decide
theorem ic_5 : Int32.ofInt 5 = 5 := by decide
theorem bp_m100 : (Int8.ofInt (-100)).toInt32 = (-100) := by decide
theorem bp_m5 : (Int8.ofInt (-5)).toInt32 = (-5) := by decide
theorem bp_m4 : (Int8.ofInt (-4)).toInt32 = (-4) := by decide
theorem bp_m3 : (Int8.ofInt (-3)).toInt32 = (-3) := by decide
theorem bp_m2 : (Int8.ofInt (-2)).toInt32 = (-2) := by decide
theorem bp_6 : (Int8.ofInt 6).toInt32 = 6 := by decide
theorem bp_7 : (Int8.ofInt 7).toInt32 = 7 := by decide
theorem bp_8 : (Int8.ofInt 8).toInt32 = 8 := by decide
theorem bp_9 : (Int8.ofInt 9).toInt32 = 9 := by decide
theorem bp_10 : (Int8.ofInt 10).toInt32 = 10 := by decide
theorem bp_11 : (Int8.ofInt 11).toInt32 = 11 := by decide
theorem bp_12 : (Int8.ofInt 12).toInt32 = 12 := by decide
theorem bp_13 : (Int8.ofInt 13).toInt32 = 13 := by decide
theorem bp_20 : (Int8.ofInt 20).toInt32 = 20 := by decide
theorem bp_23 : (Int8.ofInt 23).toInt32 = 23 := by decide
theorem bp_30 : (Int8.ofInt 30).toInt32 = 30 := by decide
theorem bp_39 : (Int8.ofInt 39).toInt32 = 39 := by decide
theorem bp_40 : (Int8.ofInt 40).toInt32 = 40 := by decide
theorem bp_46 : (Int8.ofInt 46).toInt32 = 46 := by decide
theorem bp_48 : (Int8.ofInt 48).toInt32 = 48 := by decide
theorem bp_50 : (Int8.ofInt 50).toInt32 = 50 := by decide
theorem bp_57 : (Int8.ofInt 57).toInt32 = 57 := by decide
theorem bp_59 : (Int8.ofInt 59).toInt32 = 59 := by decide
theorem bp_60 : (Int8.ofInt 60).toInt32 = 60 := by decide
theorem bp_61 : (Int8.ofInt 61).toInt32 = 61 := by decide
theorem bp_63 : (Int8.ofInt 63).toInt32 = 63 := by decide
theorem bp_99 : (Int8.ofInt 99).toInt32 = 99 := by decide
theorem bp_101 : (Int8.ofInt 101).toInt32 = 101 := by decide
theorem bp_102 : (Int8.ofInt 102).toInt32 = 102 := by decide
theorem bp_103 : (Int8.ofInt 103).toInt32 = 103 := by decide
theorem bp_104 : (Int8.ofInt 104).toInt32 = 104 := by decide
theorem bp_112 : (Int8.ofInt 112).toInt32 = 112 := by decide
theorem bp_115 : (Int8.ofInt 115).toInt32 = 115 := by decide
theorem bp_119 : (Int8.ofInt 119).toInt32 = 119 := by decide
theorem sp_303 : (Int16.ofInt 303).toInt32 = 303 := by decide
theorem sp_308 : (Int16.ofInt 308).toInt32 = 308 := by decide
theorem sp_313 : (Int16.ofInt 313).toInt32 = 313 := by decide
theorem sp_939 : (Int16.ofInt 939).toInt32 = 939 := by decide
theorem sp_9999 : (Int16.ofInt 9999).toInt32 = 9999 := by decide
theorem sp_10000 : (Int16.ofInt 10000).toInt32 = 10000 := by decide
theorem tl_0 : Int32.toNatClampNeg 0 = 0 := by decide
theorem tl_1 : Int32.toNatClampNeg 1 = 1 := by decide
theorem tl_2 : Int32.toNatClampNeg 2 = 2 := by decide
theorem tl_3 : Int32.toNatClampNeg 3 = 3 := by decide
theorem tl_4 : Int32.toNatClampNeg 4 = 4 := by decide
theorem tl_5 : Int32.toNatClampNeg 5 = 5 := by decide
theorem tl_6 : Int32.toNatClampNeg 6 = 6 := by decide
theorem tl_7 : Int32.toNatClampNeg 7 = 7 := by decide
theorem tl_8 : Int32.toNatClampNeg 8 = 8 := by decide
theorem tl_9 : Int32.toNatClampNeg 9 = 9 := by decide
theorem tl_10 : Int32.toNatClampNeg 10 = 10 := by decide
theorem vi_0_3 : vp_in 0 3 := by unfold vp_in; decide
theorem vi_0_313 : vp_in 0 313 := by unfold vp_in; decide
theorem vi_1_3 : vp_in 1 3 := by unfold vp_in; decide
theorem vi_1_313 : vp_in 1 313 := by unfold vp_in; decide
theorem vi_2_3 : vp_in 2 3 := by unfold vp_in; decide
theorem vi_2_313 : vp_in 2 313 := by unfold vp_in; decide
theorem vi_3_313 : vp_in 3 313 := by unfold vp_in; decide
theorem vi_4_313 : vp_in 4 313 := by unfold vp_in; decide
theorem vi_5_313 : vp_in 5 313 := by unfold vp_in; decide
theorem vi_6_313 : vp_in 6 313 := by unfold vp_in; decide
theorem vi_7_313 : vp_in 7 313 := by unfold vp_in; decide
theorem vi_8_313 : vp_in 8 313 := by unfold vp_in; decide
theorem vi_9_313 : vp_in 9 313 := by unfold vp_in; decide
theorem vi_10_313 : vp_in 10 313 := by unfold vp_in; decide
theorem arr_1 : zA 1 40 := ⟨by decide, fun _ _ => rfl⟩
theorem arr_2 : iA 2 40 := ⟨by decide, fun _ _ => rfl⟩
theorem arr_3 : iA 3 40 := ⟨by decide, fun _ _ => rfl⟩
theorem arr_4 : iA 4 50 := ⟨by decide, fun _ _ => rfl⟩
theorem arr_5 : iA 5 50 := ⟨by decide, fun _ _ => rfl⟩
theorem arr_6 : zA 6 50 := ⟨by decide, fun _ _ => rfl⟩
theorem arr_7 : iA 7 50 := ⟨by decide, fun _ _ => rfl⟩
theorem arr_8 : iA 8 5 := ⟨by decide, fun _ _ => rfl⟩
theorem arr_9 : iA 9 5 := ⟨by decide, fun _ _ => rfl⟩
theorem arr_10 : iA 10 12 := ⟨by decide, fun _ _ => rfl⟩
theorem arr_11 : iA 11 3 := ⟨by decide, fun _ _ => rfl⟩
theorem arr_88 : cA 88 60 := ⟨by decide, fun _ _ => rfl⟩
theorem arr_90 : cA 90 30 := ⟨by decide, fun _ _ => rfl⟩
theorem arr_91 : iA 91 30 := ⟨by decide, fun _ _ => rfl⟩
theorem arr_92 : iA 92 30 := ⟨by decide, fun _ _ => rfl⟩
theorem arr_94 : iA 94 313 := ⟨by decide, fun _ _ => rfl⟩
theorem arr_95 : iA 95 313 := ⟨by decide, fun _ _ => rfl⟩
theorem arr_96 : iA 96 1252 := ⟨by decide, fun _ _ => rfl⟩
theorem arr_97 : iA 97 313 := ⟨by decide, fun _ _ => rfl⟩
theorem arr_98 : iA 98 60 := ⟨by decide, fun _ _ => rfl⟩
theorem arr_99 : iA 99 93 := ⟨by decide, fun _ _ => rfl⟩
theorem iA_zr {k : Nat} (h : isZr k) : iA k (aln k) := by
  rcases h with rfl | rfl | rfl | rfl
  · exact arr_94
  · exact arr_95
  · exact arr_96
  · exact arr_97
theorem isM_lt {b : Nat} (h : isM b) : b < 100 := by unfold isM at h; omega
theorem en_84 (V : EV) (σ : Mem) : ent V σ 84 = .inr (4, [.ref (ad V 0), .ref (ad V 12), .ref (ad V 24), .int (σ 84 3), .ref (ad V 85), .ref (ad V 87), .ref (ad V 89), .int (σ 84 7), .int (σ 84 8)]) := rfl
theorem en_85 (V : EV) (σ : Mem) : ent V σ 85 = .inr (0, [.ref (ad V 86), .int (σ 85 1), .int (σ 85 2)]) := rfl
theorem en_87 (V : EV) (σ : Mem) : ent V σ 87 = .inr (3, [.ref (ad V 88), .int (σ 87 1)]) := rfl
theorem en_89 (V : EV) (σ : Mem) : ent V σ 89 = .inr (2, [.ref (ad V 87), .ref (ad V 90), .ref (ad V 91), .ref (ad V 92), .int (σ 89 4), .int (σ 89 5)]) := rfl
theorem en_93 (V : EV) (σ : Mem) : ent V σ 93 = .inr (5, [.ref (ad V 94), .ref (ad V 95), .ref (ad V 96), .int (σ 93 3), .ref (ad V 97), .int (σ 93 5), .ref (ad V 98), .int (σ 93 7), .int (σ 93 8), .int (σ 93 9), .ref (ad V 99), .int (σ 93 11), .int (σ 93 12)]) := rfl
theorem en_0 (V : EV) (σ : Mem) : ent V σ 0 = .inr (1, [.ref (ad V 1), .ref (ad V 2), .ref (ad V 3), .ref (ad V 4), .ref (ad V 5), .ref (ad V 6), .ref (ad V 7), .ref (ad V 8), .ref (ad V 9), .ref (ad V 10), .int (σ 0 10), .ref (ad V 11), .int (σ 0 12), .int (σ 0 13), .int (σ 0 14), .int (σ 0 15), .int (σ 0 16)]) := rfl
theorem en_M (V : EV) (σ : Mem) {b : Nat} (h : isM b) : ent V σ b = .inr (1, [.ref (ad V (b + 1)), .ref (ad V (b + 2)), .ref (ad V (b + 3)), .ref (ad V (b + 4)), .ref (ad V (b + 5)), .ref (ad V (b + 6)), .ref (ad V (b + 7)), .ref (ad V (b + 8)), .ref (ad V (b + 9)), .ref (ad V (b + 10)), .int (σ b 10), .ref (ad V (b + 11)), .int (σ b 12), .int (σ b 13), .int (σ b 14), .int (σ b 15), .int (σ b 16)]) := by
  have := ent_mem V σ h.1 h.2 (j := 0) (by decide)
  rw [Nat.add_zero] at this
  rw [this]; rfl
theorem f_X0_11 {V : EV} {X : CX} {cc : ByteArray} {nL : Nat} {R : Room} (C : OK V X RX0 cc nL R) {σ : Mem} {pc pc' : Nat} {L : List (Option Value)} {st : List Value} (d : decode cc pc = .ok (.getfield 11, 3)) (hp : pc + 3 = pc') (k : GG V X σ pc' L (.ref (ad V 86) :: st)) : GG V X σ pc L (.ref (ad V 85) :: st) :=
  g_get C d (j := 0) (T := TX0) (N := 3) (Cn := RX0) (ref := RX0) (by decide) (en_85 V σ) rfl (by decide) fl_RX0_11 inlX0 rfl rfl hp k
theorem f_X0_18 {V : EV} {X : CX} {cc : ByteArray} {nL : Nat} {R : Room} (C : OK V X RX0 cc nL R) {σ : Mem} {pc pc' : Nat} {L : List (Option Value)} {st : List Value} (d : decode cc pc = .ok (.getfield 18, 3)) (hp : pc + 3 = pc') (k : GG V X σ pc' L (.int (σ 85 1) :: st)) : GG V X σ pc L (.ref (ad V 85) :: st) :=
  g_get C d (j := 1) (T := TX0) (N := 3) (Cn := RX0) (ref := RX0) (by decide) (en_85 V σ) rfl (by decide) fl_RX0_18 inlX0 rfl rfl hp k
theorem f_X0_22 {V : EV} {X : CX} {cc : ByteArray} {nL : Nat} {R : Room} (C : OK V X RX0 cc nL R) {σ : Mem} {pc pc' : Nat} {L : List (Option Value)} {st : List Value} (d : decode cc pc = .ok (.getfield 22, 3)) (hp : pc + 3 = pc') (k : GG V X σ pc' L (.int (σ 85 2) :: st)) : GG V X σ pc L (.ref (ad V 85) :: st) :=
  g_get C d (j := 2) (T := TX0) (N := 3) (Cn := RX0) (ref := RX0) (by decide) (en_85 V σ) rfl (by decide) fl_RX0_22 inlX0 rfl rfl hp k
theorem fb_X1_9 {V : EV} {X : CX} {cc : ByteArray} {nL : Nat} {R : Room} {b : Nat} (hb : isM b) (C : OK V X RX1 cc nL R) {σ : Mem} {pc pc' : Nat} {L : List (Option Value)} {st : List Value} (d : decode cc pc = .ok (.getfield 9, 3)) (hp : pc + 3 = pc') (k : GG V X σ pc' L (.ref (ad V (b + 1)) :: st)) : GG V X σ pc L (.ref (ad V b) :: st) :=
  g_get C d (j := 0) (T := TX1) (N := 17) (Cn := RX1) (ref := RX1) (isM_lt hb) (en_M V σ hb) rfl (by decide) fl_RX1_9 inlX1 rfl rfl hp k
theorem f_X1_9 {V : EV} {X : CX} {cc : ByteArray} {nL : Nat} {R : Room} (C : OK V X RX1 cc nL R) {σ : Mem} {pc pc' : Nat} {L : List (Option Value)} {st : List Value} (d : decode cc pc = .ok (.getfield 9, 3)) (hp : pc + 3 = pc') (k : GG V X σ pc' L (.ref (ad V 1) :: st)) : GG V X σ pc L (.ref (ad V 0) :: st) :=
  g_get C d (j := 0) (T := TX1) (N := 17) (Cn := RX1) (ref := RX1) (by decide) (en_0 V σ) rfl (by decide) fl_RX1_9 inlX1 rfl rfl hp k
theorem fb_X1_15 {V : EV} {X : CX} {cc : ByteArray} {nL : Nat} {R : Room} {b : Nat} (hb : isM b) (C : OK V X RX1 cc nL R) {σ : Mem} {pc pc' : Nat} {L : List (Option Value)} {st : List Value} (d : decode cc pc = .ok (.getfield 15, 3)) (hp : pc + 3 = pc') (k : GG V X σ pc' L (.ref (ad V (b + 2)) :: st)) : GG V X σ pc L (.ref (ad V b) :: st) :=
  g_get C d (j := 1) (T := TX1) (N := 17) (Cn := RX1) (ref := RX1) (isM_lt hb) (en_M V σ hb) rfl (by decide) fl_RX1_15 inlX1 rfl rfl hp k
theorem f_X1_15 {V : EV} {X : CX} {cc : ByteArray} {nL : Nat} {R : Room} (C : OK V X RX1 cc nL R) {σ : Mem} {pc pc' : Nat} {L : List (Option Value)} {st : List Value} (d : decode cc pc = .ok (.getfield 15, 3)) (hp : pc + 3 = pc') (k : GG V X σ pc' L (.ref (ad V 2) :: st)) : GG V X σ pc L (.ref (ad V 0) :: st) :=
  g_get C d (j := 1) (T := TX1) (N := 17) (Cn := RX1) (ref := RX1) (by decide) (en_0 V σ) rfl (by decide) fl_RX1_15 inlX1 rfl rfl hp k
theorem fb_X1_19 {V : EV} {X : CX} {cc : ByteArray} {nL : Nat} {R : Room} {b : Nat} (hb : isM b) (C : OK V X RX1 cc nL R) {σ : Mem} {pc pc' : Nat} {L : List (Option Value)} {st : List Value} (d : decode cc pc = .ok (.getfield 19, 3)) (hp : pc + 3 = pc') (k : GG V X σ pc' L (.ref (ad V (b + 3)) :: st)) : GG V X σ pc L (.ref (ad V b) :: st) :=
  g_get C d (j := 2) (T := TX1) (N := 17) (Cn := RX1) (ref := RX1) (isM_lt hb) (en_M V σ hb) rfl (by decide) fl_RX1_19 inlX1 rfl rfl hp k
theorem f_X1_19 {V : EV} {X : CX} {cc : ByteArray} {nL : Nat} {R : Room} (C : OK V X RX1 cc nL R) {σ : Mem} {pc pc' : Nat} {L : List (Option Value)} {st : List Value} (d : decode cc pc = .ok (.getfield 19, 3)) (hp : pc + 3 = pc') (k : GG V X σ pc' L (.ref (ad V 3) :: st)) : GG V X σ pc L (.ref (ad V 0) :: st) :=
  g_get C d (j := 2) (T := TX1) (N := 17) (Cn := RX1) (ref := RX1) (by decide) (en_0 V σ) rfl (by decide) fl_RX1_19 inlX1 rfl rfl hp k
theorem fb_X1_22 {V : EV} {X : CX} {cc : ByteArray} {nL : Nat} {R : Room} {b : Nat} (hb : isM b) (C : OK V X RX1 cc nL R) {σ : Mem} {pc pc' : Nat} {L : List (Option Value)} {st : List Value} (d : decode cc pc = .ok (.getfield 22, 3)) (hp : pc + 3 = pc') (k : GG V X σ pc' L (.ref (ad V (b + 4)) :: st)) : GG V X σ pc L (.ref (ad V b) :: st) :=
  g_get C d (j := 3) (T := TX1) (N := 17) (Cn := RX1) (ref := RX1) (isM_lt hb) (en_M V σ hb) rfl (by decide) fl_RX1_22 inlX1 rfl rfl hp k
theorem f_X1_22 {V : EV} {X : CX} {cc : ByteArray} {nL : Nat} {R : Room} (C : OK V X RX1 cc nL R) {σ : Mem} {pc pc' : Nat} {L : List (Option Value)} {st : List Value} (d : decode cc pc = .ok (.getfield 22, 3)) (hp : pc + 3 = pc') (k : GG V X σ pc' L (.ref (ad V 4) :: st)) : GG V X σ pc L (.ref (ad V 0) :: st) :=
  g_get C d (j := 3) (T := TX1) (N := 17) (Cn := RX1) (ref := RX1) (by decide) (en_0 V σ) rfl (by decide) fl_RX1_22 inlX1 rfl rfl hp k
theorem fb_X1_25 {V : EV} {X : CX} {cc : ByteArray} {nL : Nat} {R : Room} {b : Nat} (hb : isM b) (C : OK V X RX1 cc nL R) {σ : Mem} {pc pc' : Nat} {L : List (Option Value)} {st : List Value} (d : decode cc pc = .ok (.getfield 25, 3)) (hp : pc + 3 = pc') (k : GG V X σ pc' L (.ref (ad V (b + 5)) :: st)) : GG V X σ pc L (.ref (ad V b) :: st) :=
  g_get C d (j := 4) (T := TX1) (N := 17) (Cn := RX1) (ref := RX1) (isM_lt hb) (en_M V σ hb) rfl (by decide) fl_RX1_25 inlX1 rfl rfl hp k
theorem f_X1_25 {V : EV} {X : CX} {cc : ByteArray} {nL : Nat} {R : Room} (C : OK V X RX1 cc nL R) {σ : Mem} {pc pc' : Nat} {L : List (Option Value)} {st : List Value} (d : decode cc pc = .ok (.getfield 25, 3)) (hp : pc + 3 = pc') (k : GG V X σ pc' L (.ref (ad V 5) :: st)) : GG V X σ pc L (.ref (ad V 0) :: st) :=
  g_get C d (j := 4) (T := TX1) (N := 17) (Cn := RX1) (ref := RX1) (by decide) (en_0 V σ) rfl (by decide) fl_RX1_25 inlX1 rfl rfl hp k
theorem fb_X1_28 {V : EV} {X : CX} {cc : ByteArray} {nL : Nat} {R : Room} {b : Nat} (hb : isM b) (C : OK V X RX1 cc nL R) {σ : Mem} {pc pc' : Nat} {L : List (Option Value)} {st : List Value} (d : decode cc pc = .ok (.getfield 28, 3)) (hp : pc + 3 = pc') (k : GG V X σ pc' L (.ref (ad V (b + 6)) :: st)) : GG V X σ pc L (.ref (ad V b) :: st) :=
  g_get C d (j := 5) (T := TX1) (N := 17) (Cn := RX1) (ref := RX1) (isM_lt hb) (en_M V σ hb) rfl (by decide) fl_RX1_28 inlX1 rfl rfl hp k
theorem f_X1_28 {V : EV} {X : CX} {cc : ByteArray} {nL : Nat} {R : Room} (C : OK V X RX1 cc nL R) {σ : Mem} {pc pc' : Nat} {L : List (Option Value)} {st : List Value} (d : decode cc pc = .ok (.getfield 28, 3)) (hp : pc + 3 = pc') (k : GG V X σ pc' L (.ref (ad V 6) :: st)) : GG V X σ pc L (.ref (ad V 0) :: st) :=
  g_get C d (j := 5) (T := TX1) (N := 17) (Cn := RX1) (ref := RX1) (by decide) (en_0 V σ) rfl (by decide) fl_RX1_28 inlX1 rfl rfl hp k
theorem fb_X1_31 {V : EV} {X : CX} {cc : ByteArray} {nL : Nat} {R : Room} {b : Nat} (hb : isM b) (C : OK V X RX1 cc nL R) {σ : Mem} {pc pc' : Nat} {L : List (Option Value)} {st : List Value} (d : decode cc pc = .ok (.getfield 31, 3)) (hp : pc + 3 = pc') (k : GG V X σ pc' L (.ref (ad V (b + 7)) :: st)) : GG V X σ pc L (.ref (ad V b) :: st) :=
  g_get C d (j := 6) (T := TX1) (N := 17) (Cn := RX1) (ref := RX1) (isM_lt hb) (en_M V σ hb) rfl (by decide) fl_RX1_31 inlX1 rfl rfl hp k
theorem f_X1_31 {V : EV} {X : CX} {cc : ByteArray} {nL : Nat} {R : Room} (C : OK V X RX1 cc nL R) {σ : Mem} {pc pc' : Nat} {L : List (Option Value)} {st : List Value} (d : decode cc pc = .ok (.getfield 31, 3)) (hp : pc + 3 = pc') (k : GG V X σ pc' L (.ref (ad V 7) :: st)) : GG V X σ pc L (.ref (ad V 0) :: st) :=
  g_get C d (j := 6) (T := TX1) (N := 17) (Cn := RX1) (ref := RX1) (by decide) (en_0 V σ) rfl (by decide) fl_RX1_31 inlX1 rfl rfl hp k
theorem fb_X1_34 {V : EV} {X : CX} {cc : ByteArray} {nL : Nat} {R : Room} {b : Nat} (hb : isM b) (C : OK V X RX1 cc nL R) {σ : Mem} {pc pc' : Nat} {L : List (Option Value)} {st : List Value} (d : decode cc pc = .ok (.getfield 34, 3)) (hp : pc + 3 = pc') (k : GG V X σ pc' L (.ref (ad V (b + 8)) :: st)) : GG V X σ pc L (.ref (ad V b) :: st) :=
  g_get C d (j := 7) (T := TX1) (N := 17) (Cn := RX1) (ref := RX1) (isM_lt hb) (en_M V σ hb) rfl (by decide) fl_RX1_34 inlX1 rfl rfl hp k
theorem f_X1_34 {V : EV} {X : CX} {cc : ByteArray} {nL : Nat} {R : Room} (C : OK V X RX1 cc nL R) {σ : Mem} {pc pc' : Nat} {L : List (Option Value)} {st : List Value} (d : decode cc pc = .ok (.getfield 34, 3)) (hp : pc + 3 = pc') (k : GG V X σ pc' L (.ref (ad V 8) :: st)) : GG V X σ pc L (.ref (ad V 0) :: st) :=
  g_get C d (j := 7) (T := TX1) (N := 17) (Cn := RX1) (ref := RX1) (by decide) (en_0 V σ) rfl (by decide) fl_RX1_34 inlX1 rfl rfl hp k
theorem fb_X1_37 {V : EV} {X : CX} {cc : ByteArray} {nL : Nat} {R : Room} {b : Nat} (hb : isM b) (C : OK V X RX1 cc nL R) {σ : Mem} {pc pc' : Nat} {L : List (Option Value)} {st : List Value} (d : decode cc pc = .ok (.getfield 37, 3)) (hp : pc + 3 = pc') (k : GG V X σ pc' L (.ref (ad V (b + 9)) :: st)) : GG V X σ pc L (.ref (ad V b) :: st) :=
  g_get C d (j := 8) (T := TX1) (N := 17) (Cn := RX1) (ref := RX1) (isM_lt hb) (en_M V σ hb) rfl (by decide) fl_RX1_37 inlX1 rfl rfl hp k
theorem f_X1_37 {V : EV} {X : CX} {cc : ByteArray} {nL : Nat} {R : Room} (C : OK V X RX1 cc nL R) {σ : Mem} {pc pc' : Nat} {L : List (Option Value)} {st : List Value} (d : decode cc pc = .ok (.getfield 37, 3)) (hp : pc + 3 = pc') (k : GG V X σ pc' L (.ref (ad V 9) :: st)) : GG V X σ pc L (.ref (ad V 0) :: st) :=
  g_get C d (j := 8) (T := TX1) (N := 17) (Cn := RX1) (ref := RX1) (by decide) (en_0 V σ) rfl (by decide) fl_RX1_37 inlX1 rfl rfl hp k
theorem fb_X1_40 {V : EV} {X : CX} {cc : ByteArray} {nL : Nat} {R : Room} {b : Nat} (hb : isM b) (C : OK V X RX1 cc nL R) {σ : Mem} {pc pc' : Nat} {L : List (Option Value)} {st : List Value} (d : decode cc pc = .ok (.getfield 40, 3)) (hp : pc + 3 = pc') (k : GG V X σ pc' L (.ref (ad V (b + 10)) :: st)) : GG V X σ pc L (.ref (ad V b) :: st) :=
  g_get C d (j := 9) (T := TX1) (N := 17) (Cn := RX1) (ref := RX1) (isM_lt hb) (en_M V σ hb) rfl (by decide) fl_RX1_40 inlX1 rfl rfl hp k
theorem f_X1_40 {V : EV} {X : CX} {cc : ByteArray} {nL : Nat} {R : Room} (C : OK V X RX1 cc nL R) {σ : Mem} {pc pc' : Nat} {L : List (Option Value)} {st : List Value} (d : decode cc pc = .ok (.getfield 40, 3)) (hp : pc + 3 = pc') (k : GG V X σ pc' L (.ref (ad V 10) :: st)) : GG V X σ pc L (.ref (ad V 0) :: st) :=
  g_get C d (j := 9) (T := TX1) (N := 17) (Cn := RX1) (ref := RX1) (by decide) (en_0 V σ) rfl (by decide) fl_RX1_40 inlX1 rfl rfl hp k
theorem fb_X1_43 {V : EV} {X : CX} {cc : ByteArray} {nL : Nat} {R : Room} {b : Nat} (hb : isM b) (C : OK V X RX1 cc nL R) {σ : Mem} {pc pc' : Nat} {L : List (Option Value)} {st : List Value} (d : decode cc pc = .ok (.getfield 43, 3)) (hp : pc + 3 = pc') (k : GG V X σ pc' L (.ref (ad V (b + 11)) :: st)) : GG V X σ pc L (.ref (ad V b) :: st) :=
  g_get C d (j := 11) (T := TX1) (N := 17) (Cn := RX1) (ref := RX1) (isM_lt hb) (en_M V σ hb) rfl (by decide) fl_RX1_43 inlX1 rfl rfl hp k
theorem f_X1_43 {V : EV} {X : CX} {cc : ByteArray} {nL : Nat} {R : Room} (C : OK V X RX1 cc nL R) {σ : Mem} {pc pc' : Nat} {L : List (Option Value)} {st : List Value} (d : decode cc pc = .ok (.getfield 43, 3)) (hp : pc + 3 = pc') (k : GG V X σ pc' L (.ref (ad V 11) :: st)) : GG V X σ pc L (.ref (ad V 0) :: st) :=
  g_get C d (j := 11) (T := TX1) (N := 17) (Cn := RX1) (ref := RX1) (by decide) (en_0 V σ) rfl (by decide) fl_RX1_43 inlX1 rfl rfl hp k
theorem fb_X1_46 {V : EV} {X : CX} {cc : ByteArray} {nL : Nat} {R : Room} {b : Nat} (hb : isM b) (C : OK V X RX1 cc nL R) {σ : Mem} {pc pc' : Nat} {L : List (Option Value)} {st : List Value} (d : decode cc pc = .ok (.getfield 46, 3)) (hp : pc + 3 = pc') (k : GG V X σ pc' L (.int (σ b 13) :: st)) : GG V X σ pc L (.ref (ad V b) :: st) :=
  g_get C d (j := 13) (T := TX1) (N := 17) (Cn := RX1) (ref := RX1) (isM_lt hb) (en_M V σ hb) rfl (by decide) fl_RX1_46 inlX1 rfl rfl hp k
theorem f_X1_46 {V : EV} {X : CX} {cc : ByteArray} {nL : Nat} {R : Room} (C : OK V X RX1 cc nL R) {σ : Mem} {pc pc' : Nat} {L : List (Option Value)} {st : List Value} (d : decode cc pc = .ok (.getfield 46, 3)) (hp : pc + 3 = pc') (k : GG V X σ pc' L (.int (σ 0 13) :: st)) : GG V X σ pc L (.ref (ad V 0) :: st) :=
  g_get C d (j := 13) (T := TX1) (N := 17) (Cn := RX1) (ref := RX1) (by decide) (en_0 V σ) rfl (by decide) fl_RX1_46 inlX1 rfl rfl hp k
theorem fb_X1_56 {V : EV} {X : CX} {cc : ByteArray} {nL : Nat} {R : Room} {b : Nat} (hb : isM b) (C : OK V X RX1 cc nL R) {σ : Mem} {pc pc' : Nat} {L : List (Option Value)} {st : List Value} (d : decode cc pc = .ok (.getfield 56, 3)) (hp : pc + 3 = pc') (k : GG V X σ pc' L (.int (σ b 10) :: st)) : GG V X σ pc L (.ref (ad V b) :: st) :=
  g_get C d (j := 10) (T := TX1) (N := 17) (Cn := RX1) (ref := RX1) (isM_lt hb) (en_M V σ hb) rfl (by decide) fl_RX1_56 inlX1 rfl rfl hp k
theorem f_X1_56 {V : EV} {X : CX} {cc : ByteArray} {nL : Nat} {R : Room} (C : OK V X RX1 cc nL R) {σ : Mem} {pc pc' : Nat} {L : List (Option Value)} {st : List Value} (d : decode cc pc = .ok (.getfield 56, 3)) (hp : pc + 3 = pc') (k : GG V X σ pc' L (.int (σ 0 10) :: st)) : GG V X σ pc L (.ref (ad V 0) :: st) :=
  g_get C d (j := 10) (T := TX1) (N := 17) (Cn := RX1) (ref := RX1) (by decide) (en_0 V σ) rfl (by decide) fl_RX1_56 inlX1 rfl rfl hp k
theorem fb_X1_59 {V : EV} {X : CX} {cc : ByteArray} {nL : Nat} {R : Room} {b : Nat} (hb : isM b) (C : OK V X RX1 cc nL R) {σ : Mem} {pc pc' : Nat} {L : List (Option Value)} {st : List Value} (d : decode cc pc = .ok (.getfield 59, 3)) (hp : pc + 3 = pc') (k : GG V X σ pc' L (.int (σ b 12) :: st)) : GG V X σ pc L (.ref (ad V b) :: st) :=
  g_get C d (j := 12) (T := TX1) (N := 17) (Cn := RX1) (ref := RX1) (isM_lt hb) (en_M V σ hb) rfl (by decide) fl_RX1_59 inlX1 rfl rfl hp k
theorem f_X1_59 {V : EV} {X : CX} {cc : ByteArray} {nL : Nat} {R : Room} (C : OK V X RX1 cc nL R) {σ : Mem} {pc pc' : Nat} {L : List (Option Value)} {st : List Value} (d : decode cc pc = .ok (.getfield 59, 3)) (hp : pc + 3 = pc') (k : GG V X σ pc' L (.int (σ 0 12) :: st)) : GG V X σ pc L (.ref (ad V 0) :: st) :=
  g_get C d (j := 12) (T := TX1) (N := 17) (Cn := RX1) (ref := RX1) (by decide) (en_0 V σ) rfl (by decide) fl_RX1_59 inlX1 rfl rfl hp k
theorem fb_X1_62 {V : EV} {X : CX} {cc : ByteArray} {nL : Nat} {R : Room} {b : Nat} (hb : isM b) (C : OK V X RX1 cc nL R) {σ : Mem} {pc pc' : Nat} {L : List (Option Value)} {st : List Value} (d : decode cc pc = .ok (.getfield 62, 3)) (hp : pc + 3 = pc') (k : GG V X σ pc' L (.int (σ b 14) :: st)) : GG V X σ pc L (.ref (ad V b) :: st) :=
  g_get C d (j := 14) (T := TX1) (N := 17) (Cn := RX1) (ref := RX1) (isM_lt hb) (en_M V σ hb) rfl (by decide) fl_RX1_62 inlX1 rfl rfl hp k
theorem f_X1_62 {V : EV} {X : CX} {cc : ByteArray} {nL : Nat} {R : Room} (C : OK V X RX1 cc nL R) {σ : Mem} {pc pc' : Nat} {L : List (Option Value)} {st : List Value} (d : decode cc pc = .ok (.getfield 62, 3)) (hp : pc + 3 = pc') (k : GG V X σ pc' L (.int (σ 0 14) :: st)) : GG V X σ pc L (.ref (ad V 0) :: st) :=
  g_get C d (j := 14) (T := TX1) (N := 17) (Cn := RX1) (ref := RX1) (by decide) (en_0 V σ) rfl (by decide) fl_RX1_62 inlX1 rfl rfl hp k
theorem fb_X1_65 {V : EV} {X : CX} {cc : ByteArray} {nL : Nat} {R : Room} {b : Nat} (hb : isM b) (C : OK V X RX1 cc nL R) {σ : Mem} {pc pc' : Nat} {L : List (Option Value)} {st : List Value} (d : decode cc pc = .ok (.getfield 65, 3)) (hp : pc + 3 = pc') (k : GG V X σ pc' L (.int (σ b 15) :: st)) : GG V X σ pc L (.ref (ad V b) :: st) :=
  g_get C d (j := 15) (T := TX1) (N := 17) (Cn := RX1) (ref := RX1) (isM_lt hb) (en_M V σ hb) rfl (by decide) fl_RX1_65 inlX1 rfl rfl hp k
theorem f_X1_65 {V : EV} {X : CX} {cc : ByteArray} {nL : Nat} {R : Room} (C : OK V X RX1 cc nL R) {σ : Mem} {pc pc' : Nat} {L : List (Option Value)} {st : List Value} (d : decode cc pc = .ok (.getfield 65, 3)) (hp : pc + 3 = pc') (k : GG V X σ pc' L (.int (σ 0 15) :: st)) : GG V X σ pc L (.ref (ad V 0) :: st) :=
  g_get C d (j := 15) (T := TX1) (N := 17) (Cn := RX1) (ref := RX1) (by decide) (en_0 V σ) rfl (by decide) fl_RX1_65 inlX1 rfl rfl hp k
theorem fb_X1_68 {V : EV} {X : CX} {cc : ByteArray} {nL : Nat} {R : Room} {b : Nat} (hb : isM b) (C : OK V X RX1 cc nL R) {σ : Mem} {pc pc' : Nat} {L : List (Option Value)} {st : List Value} (d : decode cc pc = .ok (.getfield 68, 3)) (hp : pc + 3 = pc') (k : GG V X σ pc' L (.int (σ b 16) :: st)) : GG V X σ pc L (.ref (ad V b) :: st) :=
  g_get C d (j := 16) (T := TX1) (N := 17) (Cn := RX1) (ref := RX1) (isM_lt hb) (en_M V σ hb) rfl (by decide) fl_RX1_68 inlX1 rfl rfl hp k
theorem f_X1_68 {V : EV} {X : CX} {cc : ByteArray} {nL : Nat} {R : Room} (C : OK V X RX1 cc nL R) {σ : Mem} {pc pc' : Nat} {L : List (Option Value)} {st : List Value} (d : decode cc pc = .ok (.getfield 68, 3)) (hp : pc + 3 = pc') (k : GG V X σ pc' L (.int (σ 0 16) :: st)) : GG V X σ pc L (.ref (ad V 0) :: st) :=
  g_get C d (j := 16) (T := TX1) (N := 17) (Cn := RX1) (ref := RX1) (by decide) (en_0 V σ) rfl (by decide) fl_RX1_68 inlX1 rfl rfl hp k
theorem f_X2_9 {V : EV} {X : CX} {cc : ByteArray} {nL : Nat} {R : Room} (C : OK V X RX2 cc nL R) {σ : Mem} {pc pc' : Nat} {L : List (Option Value)} {st : List Value} (d : decode cc pc = .ok (.getfield 9, 3)) (hp : pc + 3 = pc') (k : GG V X σ pc' L (.ref (ad V 87) :: st)) : GG V X σ pc L (.ref (ad V 89) :: st) :=
  g_get C d (j := 0) (T := TX2) (N := 6) (Cn := RX2) (ref := RX2) (by decide) (en_89 V σ) rfl (by decide) fl_RX2_9 inlX2 rfl rfl hp k
theorem f_X2_15 {V : EV} {X : CX} {cc : ByteArray} {nL : Nat} {R : Room} (C : OK V X RX2 cc nL R) {σ : Mem} {pc pc' : Nat} {L : List (Option Value)} {st : List Value} (d : decode cc pc = .ok (.getfield 15, 3)) (hp : pc + 3 = pc') (k : GG V X σ pc' L (.ref (ad V 90) :: st)) : GG V X σ pc L (.ref (ad V 89) :: st) :=
  g_get C d (j := 1) (T := TX2) (N := 6) (Cn := RX2) (ref := RX2) (by decide) (en_89 V σ) rfl (by decide) fl_RX2_15 inlX2 rfl rfl hp k
theorem f_X2_19 {V : EV} {X : CX} {cc : ByteArray} {nL : Nat} {R : Room} (C : OK V X RX2 cc nL R) {σ : Mem} {pc pc' : Nat} {L : List (Option Value)} {st : List Value} (d : decode cc pc = .ok (.getfield 19, 3)) (hp : pc + 3 = pc') (k : GG V X σ pc' L (.ref (ad V 91) :: st)) : GG V X σ pc L (.ref (ad V 89) :: st) :=
  g_get C d (j := 2) (T := TX2) (N := 6) (Cn := RX2) (ref := RX2) (by decide) (en_89 V σ) rfl (by decide) fl_RX2_19 inlX2 rfl rfl hp k
theorem f_X2_23 {V : EV} {X : CX} {cc : ByteArray} {nL : Nat} {R : Room} (C : OK V X RX2 cc nL R) {σ : Mem} {pc pc' : Nat} {L : List (Option Value)} {st : List Value} (d : decode cc pc = .ok (.getfield 23, 3)) (hp : pc + 3 = pc') (k : GG V X σ pc' L (.ref (ad V 92) :: st)) : GG V X σ pc L (.ref (ad V 89) :: st) :=
  g_get C d (j := 3) (T := TX2) (N := 6) (Cn := RX2) (ref := RX2) (by decide) (en_89 V σ) rfl (by decide) fl_RX2_23 inlX2 rfl rfl hp k
theorem f_X2_26 {V : EV} {X : CX} {cc : ByteArray} {nL : Nat} {R : Room} (C : OK V X RX2 cc nL R) {σ : Mem} {pc pc' : Nat} {L : List (Option Value)} {st : List Value} (d : decode cc pc = .ok (.getfield 26, 3)) (hp : pc + 3 = pc') (k : GG V X σ pc' L (.int (σ 89 4) :: st)) : GG V X σ pc L (.ref (ad V 89) :: st) :=
  g_get C d (j := 4) (T := TX2) (N := 6) (Cn := RX2) (ref := RX2) (by decide) (en_89 V σ) rfl (by decide) fl_RX2_26 inlX2 rfl rfl hp k
theorem f_X2_30 {V : EV} {X : CX} {cc : ByteArray} {nL : Nat} {R : Room} (C : OK V X RX2 cc nL R) {σ : Mem} {pc pc' : Nat} {L : List (Option Value)} {st : List Value} (d : decode cc pc = .ok (.getfield 30, 3)) (hp : pc + 3 = pc') (k : GG V X σ pc' L (.int (σ 89 5) :: st)) : GG V X σ pc L (.ref (ad V 89) :: st) :=
  g_get C d (j := 5) (T := TX2) (N := 6) (Cn := RX2) (ref := RX2) (by decide) (en_89 V σ) rfl (by decide) fl_RX2_30 inlX2 rfl rfl hp k
theorem f_X3_9 {V : EV} {X : CX} {cc : ByteArray} {nL : Nat} {R : Room} (C : OK V X RX3 cc nL R) {σ : Mem} {pc pc' : Nat} {L : List (Option Value)} {st : List Value} (d : decode cc pc = .ok (.getfield 9, 3)) (hp : pc + 3 = pc') (k : GG V X σ pc' L (.ref (ad V 88) :: st)) : GG V X σ pc L (.ref (ad V 87) :: st) :=
  g_get C d (j := 0) (T := TX3) (N := 2) (Cn := RX3) (ref := RX3) (by decide) (en_87 V σ) rfl (by decide) fl_RX3_9 inlX3 rfl rfl hp k
theorem f_X3_15 {V : EV} {X : CX} {cc : ByteArray} {nL : Nat} {R : Room} (C : OK V X RX3 cc nL R) {σ : Mem} {pc pc' : Nat} {L : List (Option Value)} {st : List Value} (d : decode cc pc = .ok (.getfield 15, 3)) (hp : pc + 3 = pc') (k : GG V X σ pc' L (.int (σ 87 1) :: st)) : GG V X σ pc L (.ref (ad V 87) :: st) :=
  g_get C d (j := 1) (T := TX3) (N := 2) (Cn := RX3) (ref := RX3) (by decide) (en_87 V σ) rfl (by decide) fl_RX3_15 inlX3 rfl rfl hp k
theorem f_X4_12 {V : EV} {X : CX} {cc : ByteArray} {nL : Nat} {R : Room} (C : OK V X RX4 cc nL R) {σ : Mem} {pc pc' : Nat} {L : List (Option Value)} {st : List Value} (d : decode cc pc = .ok (.getfield 12, 3)) (hp : pc + 3 = pc') (k : GG V X σ pc' L (.ref (ad V 0) :: st)) : GG V X σ pc L (.ref (ad V 84) :: st) :=
  g_get C d (j := 0) (T := TX4) (N := 9) (Cn := RX4) (ref := RX4) (by decide) (en_84 V σ) rfl (by decide) fl_RX4_12 inlX4 rfl rfl hp k
theorem f_X4_16 {V : EV} {X : CX} {cc : ByteArray} {nL : Nat} {R : Room} (C : OK V X RX4 cc nL R) {σ : Mem} {pc pc' : Nat} {L : List (Option Value)} {st : List Value} (d : decode cc pc = .ok (.getfield 16, 3)) (hp : pc + 3 = pc') (k : GG V X σ pc' L (.ref (ad V 12) :: st)) : GG V X σ pc L (.ref (ad V 84) :: st) :=
  g_get C d (j := 1) (T := TX4) (N := 9) (Cn := RX4) (ref := RX4) (by decide) (en_84 V σ) rfl (by decide) fl_RX4_16 inlX4 rfl rfl hp k
theorem f_X4_19 {V : EV} {X : CX} {cc : ByteArray} {nL : Nat} {R : Room} (C : OK V X RX4 cc nL R) {σ : Mem} {pc pc' : Nat} {L : List (Option Value)} {st : List Value} (d : decode cc pc = .ok (.getfield 19, 3)) (hp : pc + 3 = pc') (k : GG V X σ pc' L (.ref (ad V 24) :: st)) : GG V X σ pc L (.ref (ad V 84) :: st) :=
  g_get C d (j := 2) (T := TX4) (N := 9) (Cn := RX4) (ref := RX4) (by decide) (en_84 V σ) rfl (by decide) fl_RX4_19 inlX4 rfl rfl hp k
theorem f_X4_22 {V : EV} {X : CX} {cc : ByteArray} {nL : Nat} {R : Room} (C : OK V X RX4 cc nL R) {σ : Mem} {pc pc' : Nat} {L : List (Option Value)} {st : List Value} (d : decode cc pc = .ok (.getfield 22, 3)) (hp : pc + 3 = pc') (k : GG V X σ pc' L (.int (σ 84 3) :: st)) : GG V X σ pc L (.ref (ad V 84) :: st) :=
  g_get C d (j := 3) (T := TX4) (N := 9) (Cn := RX4) (ref := RX4) (by decide) (en_84 V σ) rfl (by decide) fl_RX4_22 inlX4 rfl rfl hp k
theorem f_X4_29 {V : EV} {X : CX} {cc : ByteArray} {nL : Nat} {R : Room} (C : OK V X RX4 cc nL R) {σ : Mem} {pc pc' : Nat} {L : List (Option Value)} {st : List Value} (d : decode cc pc = .ok (.getfield 29, 3)) (hp : pc + 3 = pc') (k : GG V X σ pc' L (.ref (ad V 85) :: st)) : GG V X σ pc L (.ref (ad V 84) :: st) :=
  g_get C d (j := 4) (T := TX4) (N := 9) (Cn := RX4) (ref := RX4) (by decide) (en_84 V σ) rfl (by decide) fl_RX4_29 inlX4 rfl rfl hp k
theorem f_X4_36 {V : EV} {X : CX} {cc : ByteArray} {nL : Nat} {R : Room} (C : OK V X RX4 cc nL R) {σ : Mem} {pc pc' : Nat} {L : List (Option Value)} {st : List Value} (d : decode cc pc = .ok (.getfield 36, 3)) (hp : pc + 3 = pc') (k : GG V X σ pc' L (.ref (ad V 87) :: st)) : GG V X σ pc L (.ref (ad V 84) :: st) :=
  g_get C d (j := 5) (T := TX4) (N := 9) (Cn := RX4) (ref := RX4) (by decide) (en_84 V σ) rfl (by decide) fl_RX4_36 inlX4 rfl rfl hp k
theorem f_X4_45 {V : EV} {X : CX} {cc : ByteArray} {nL : Nat} {R : Room} (C : OK V X RX4 cc nL R) {σ : Mem} {pc pc' : Nat} {L : List (Option Value)} {st : List Value} (d : decode cc pc = .ok (.getfield 45, 3)) (hp : pc + 3 = pc') (k : GG V X σ pc' L (.ref (ad V 89) :: st)) : GG V X σ pc L (.ref (ad V 84) :: st) :=
  g_get C d (j := 6) (T := TX4) (N := 9) (Cn := RX4) (ref := RX4) (by decide) (en_84 V σ) rfl (by decide) fl_RX4_45 inlX4 rfl rfl hp k
theorem f_X4_49 {V : EV} {X : CX} {cc : ByteArray} {nL : Nat} {R : Room} (C : OK V X RX4 cc nL R) {σ : Mem} {pc pc' : Nat} {L : List (Option Value)} {st : List Value} (d : decode cc pc = .ok (.getfield 49, 3)) (hp : pc + 3 = pc') (k : GG V X σ pc' L (.int (σ 84 7) :: st)) : GG V X σ pc L (.ref (ad V 84) :: st) :=
  g_get C d (j := 7) (T := TX4) (N := 9) (Cn := RX4) (ref := RX4) (by decide) (en_84 V σ) rfl (by decide) fl_RX4_49 inlX4 rfl rfl hp k
theorem f_X4_53 {V : EV} {X : CX} {cc : ByteArray} {nL : Nat} {R : Room} (C : OK V X RX4 cc nL R) {σ : Mem} {pc pc' : Nat} {L : List (Option Value)} {st : List Value} (d : decode cc pc = .ok (.getfield 53, 3)) (hp : pc + 3 = pc') (k : GG V X σ pc' L (.int (σ 84 8) :: st)) : GG V X σ pc L (.ref (ad V 84) :: st) :=
  g_get C d (j := 8) (T := TX4) (N := 9) (Cn := RX4) (ref := RX4) (by decide) (en_84 V σ) rfl (by decide) fl_RX4_53 inlX4 rfl rfl hp k
theorem f_X5_7 {V : EV} {X : CX} {cc : ByteArray} {nL : Nat} {R : Room} (C : OK V X RX5 cc nL R) {σ : Mem} {pc pc' : Nat} {L : List (Option Value)} {st : List Value} (d : decode cc pc = .ok (.getfield 7, 3)) (hp : pc + 3 = pc') (k : GG V X σ pc' L (.ref (ad V 94) :: st)) : GG V X σ pc L (.ref (ad V 93) :: st) :=
  g_get C d (j := 0) (T := TX5) (N := 13) (Cn := RX5) (ref := RX5) (by decide) (en_93 V σ) rfl (by decide) fl_RX5_7 inlX5 rfl rfl hp k
theorem f_X5_13 {V : EV} {X : CX} {cc : ByteArray} {nL : Nat} {R : Room} (C : OK V X RX5 cc nL R) {σ : Mem} {pc pc' : Nat} {L : List (Option Value)} {st : List Value} (d : decode cc pc = .ok (.getfield 13, 3)) (hp : pc + 3 = pc') (k : GG V X σ pc' L (.ref (ad V 95) :: st)) : GG V X σ pc L (.ref (ad V 93) :: st) :=
  g_get C d (j := 1) (T := TX5) (N := 13) (Cn := RX5) (ref := RX5) (by decide) (en_93 V σ) rfl (by decide) fl_RX5_13 inlX5 rfl rfl hp k
theorem f_X5_16 {V : EV} {X : CX} {cc : ByteArray} {nL : Nat} {R : Room} (C : OK V X RX5 cc nL R) {σ : Mem} {pc pc' : Nat} {L : List (Option Value)} {st : List Value} (d : decode cc pc = .ok (.getfield 16, 3)) (hp : pc + 3 = pc') (k : GG V X σ pc' L (.ref (ad V 96) :: st)) : GG V X σ pc L (.ref (ad V 93) :: st) :=
  g_get C d (j := 2) (T := TX5) (N := 13) (Cn := RX5) (ref := RX5) (by decide) (en_93 V σ) rfl (by decide) fl_RX5_16 inlX5 rfl rfl hp k
theorem f_X5_19 {V : EV} {X : CX} {cc : ByteArray} {nL : Nat} {R : Room} (C : OK V X RX5 cc nL R) {σ : Mem} {pc pc' : Nat} {L : List (Option Value)} {st : List Value} (d : decode cc pc = .ok (.getfield 19, 3)) (hp : pc + 3 = pc') (k : GG V X σ pc' L (.ref (ad V 97) :: st)) : GG V X σ pc L (.ref (ad V 93) :: st) :=
  g_get C d (j := 4) (T := TX5) (N := 13) (Cn := RX5) (ref := RX5) (by decide) (en_93 V σ) rfl (by decide) fl_RX5_19 inlX5 rfl rfl hp k
theorem f_X5_22 {V : EV} {X : CX} {cc : ByteArray} {nL : Nat} {R : Room} (C : OK V X RX5 cc nL R) {σ : Mem} {pc pc' : Nat} {L : List (Option Value)} {st : List Value} (d : decode cc pc = .ok (.getfield 22, 3)) (hp : pc + 3 = pc') (k : GG V X σ pc' L (.ref (ad V 98) :: st)) : GG V X σ pc L (.ref (ad V 93) :: st) :=
  g_get C d (j := 6) (T := TX5) (N := 13) (Cn := RX5) (ref := RX5) (by decide) (en_93 V σ) rfl (by decide) fl_RX5_22 inlX5 rfl rfl hp k
theorem f_X5_25 {V : EV} {X : CX} {cc : ByteArray} {nL : Nat} {R : Room} (C : OK V X RX5 cc nL R) {σ : Mem} {pc pc' : Nat} {L : List (Option Value)} {st : List Value} (d : decode cc pc = .ok (.getfield 25, 3)) (hp : pc + 3 = pc') (k : GG V X σ pc' L (.ref (ad V 99) :: st)) : GG V X σ pc L (.ref (ad V 93) :: st) :=
  g_get C d (j := 10) (T := TX5) (N := 13) (Cn := RX5) (ref := RX5) (by decide) (en_93 V σ) rfl (by decide) fl_RX5_25 inlX5 rfl rfl hp k
theorem f_X5_44 {V : EV} {X : CX} {cc : ByteArray} {nL : Nat} {R : Room} (C : OK V X RX5 cc nL R) {σ : Mem} {pc pc' : Nat} {L : List (Option Value)} {st : List Value} (d : decode cc pc = .ok (.getfield 44, 3)) (hp : pc + 3 = pc') (k : GG V X σ pc' L (.int (σ 93 3) :: st)) : GG V X σ pc L (.ref (ad V 93) :: st) :=
  g_get C d (j := 3) (T := TX5) (N := 13) (Cn := RX5) (ref := RX5) (by decide) (en_93 V σ) rfl (by decide) fl_RX5_44 inlX5 rfl rfl hp k
theorem f_X5_56 {V : EV} {X : CX} {cc : ByteArray} {nL : Nat} {R : Room} (C : OK V X RX5 cc nL R) {σ : Mem} {pc pc' : Nat} {L : List (Option Value)} {st : List Value} (d : decode cc pc = .ok (.getfield 56, 3)) (hp : pc + 3 = pc') (k : GG V X σ pc' L (.int (σ 93 5) :: st)) : GG V X σ pc L (.ref (ad V 93) :: st) :=
  g_get C d (j := 5) (T := TX5) (N := 13) (Cn := RX5) (ref := RX5) (by decide) (en_93 V σ) rfl (by decide) fl_RX5_56 inlX5 rfl rfl hp k
theorem f_X5_132 {V : EV} {X : CX} {cc : ByteArray} {nL : Nat} {R : Room} (C : OK V X RX5 cc nL R) {σ : Mem} {pc pc' : Nat} {L : List (Option Value)} {st : List Value} (d : decode cc pc = .ok (.getfield 132, 3)) (hp : pc + 3 = pc') (k : GG V X σ pc' L (.int (σ 93 7) :: st)) : GG V X σ pc L (.ref (ad V 93) :: st) :=
  g_get C d (j := 7) (T := TX5) (N := 13) (Cn := RX5) (ref := RX5) (by decide) (en_93 V σ) rfl (by decide) fl_RX5_132 inlX5 rfl rfl hp k
theorem f_X5_135 {V : EV} {X : CX} {cc : ByteArray} {nL : Nat} {R : Room} (C : OK V X RX5 cc nL R) {σ : Mem} {pc pc' : Nat} {L : List (Option Value)} {st : List Value} (d : decode cc pc = .ok (.getfield 135, 3)) (hp : pc + 3 = pc') (k : GG V X σ pc' L (.int (σ 93 12) :: st)) : GG V X σ pc L (.ref (ad V 93) :: st) :=
  g_get C d (j := 12) (T := TX5) (N := 13) (Cn := RX5) (ref := RX5) (by decide) (en_93 V σ) rfl (by decide) fl_RX5_135 inlX5 rfl rfl hp k
theorem f_X5_144 {V : EV} {X : CX} {cc : ByteArray} {nL : Nat} {R : Room} (C : OK V X RX5 cc nL R) {σ : Mem} {pc pc' : Nat} {L : List (Option Value)} {st : List Value} (d : decode cc pc = .ok (.getfield 144, 3)) (hp : pc + 3 = pc') (k : GG V X σ pc' L (.int (σ 93 11) :: st)) : GG V X σ pc L (.ref (ad V 93) :: st) :=
  g_get C d (j := 11) (T := TX5) (N := 13) (Cn := RX5) (ref := RX5) (by decide) (en_93 V σ) rfl (by decide) fl_RX5_144 inlX5 rfl rfl hp k
theorem f_X5_163 {V : EV} {X : CX} {cc : ByteArray} {nL : Nat} {R : Room} (C : OK V X RX5 cc nL R) {σ : Mem} {pc pc' : Nat} {L : List (Option Value)} {st : List Value} (d : decode cc pc = .ok (.getfield 163, 3)) (hp : pc + 3 = pc') (k : GG V X σ pc' L (.int (σ 93 8) :: st)) : GG V X σ pc L (.ref (ad V 93) :: st) :=
  g_get C d (j := 8) (T := TX5) (N := 13) (Cn := RX5) (ref := RX5) (by decide) (en_93 V σ) rfl (by decide) fl_RX5_163 inlX5 rfl rfl hp k
theorem f_X5_166 {V : EV} {X : CX} {cc : ByteArray} {nL : Nat} {R : Room} (C : OK V X RX5 cc nL R) {σ : Mem} {pc pc' : Nat} {L : List (Option Value)} {st : List Value} (d : decode cc pc = .ok (.getfield 166, 3)) (hp : pc + 3 = pc') (k : GG V X σ pc' L (.int (σ 93 9) :: st)) : GG V X σ pc L (.ref (ad V 93) :: st) :=
  g_get C d (j := 9) (T := TX5) (N := 13) (Cn := RX5) (ref := RX5) (by decide) (en_93 V σ) rfl (by decide) fl_RX5_166 inlX5 rfl rfl hp k
theorem p_X0_18 {V : EV} {X : CX} {cc : ByteArray} {nL : Nat} {R : Room} {x : Int32} (C : OK V X RX0 cc nL R) {σ : Mem} {pc pc' : Nat} {L : List (Option Value)} {st : List Value} {f : Mem → Prop} (d : decode cc pc = .ok (.putfield 18, 3)) (hp : pc + 3 = pc') (h : bm (up2 σ 85 1 x) f) (k : ∀ τ, f τ → GG V X τ pc' L st) : GG V X σ pc L (.int x :: .ref (ad V 85) :: st) :=
  g_put C d (j := 1) (T := TX0) (N := 3) (Cn := RX0) (ref := RX0) tyX0 (by decide) (en_85 V σ) rfl (by decide) fl_RX0_18 inlX0 tyX0_ok nmX0 rfl rfl (tyX0_ok 1 (by decide)) rfl rfl (Nat.le_of_ble_eq_true rfl) (by rw [en_85]; rfl) hp h k
theorem p_X0_22 {V : EV} {X : CX} {cc : ByteArray} {nL : Nat} {R : Room} {x : Int32} (C : OK V X RX0 cc nL R) {σ : Mem} {pc pc' : Nat} {L : List (Option Value)} {st : List Value} {f : Mem → Prop} (d : decode cc pc = .ok (.putfield 22, 3)) (hp : pc + 3 = pc') (h : bm (up2 σ 85 2 x) f) (k : ∀ τ, f τ → GG V X τ pc' L st) : GG V X σ pc L (.int x :: .ref (ad V 85) :: st) :=
  g_put C d (j := 2) (T := TX0) (N := 3) (Cn := RX0) (ref := RX0) tyX0 (by decide) (en_85 V σ) rfl (by decide) fl_RX0_22 inlX0 tyX0_ok nmX0 rfl rfl (tyX0_ok 2 (by decide)) rfl rfl (Nat.le_of_ble_eq_true rfl) (by rw [en_85]; rfl) hp h k
theorem pb_X1_46 {V : EV} {X : CX} {cc : ByteArray} {nL : Nat} {R : Room} {b : Nat} (hb : isM b) {x : Int32} (C : OK V X RX1 cc nL R) {σ : Mem} {pc pc' : Nat} {L : List (Option Value)} {st : List Value} {f : Mem → Prop} (d : decode cc pc = .ok (.putfield 46, 3)) (hp : pc + 3 = pc') (h : bm (up2 σ b 13 x) f) (k : ∀ τ, f τ → GG V X τ pc' L st) : GG V X σ pc L (.int x :: .ref (ad V b) :: st) :=
  g_put C d (j := 13) (T := TX1) (N := 17) (Cn := RX1) (ref := RX1) tyX1 (isM_lt hb) (en_M V σ hb) rfl (by decide) fl_RX1_46 inlX1 tyX1_ok nmX1 rfl rfl (tyX1_ok 13 (by decide)) rfl rfl (Nat.le_of_ble_eq_true rfl) (by rw [en_M V _ hb]; simp [up2, upd]) hp h k
theorem p_X1_46 {V : EV} {X : CX} {cc : ByteArray} {nL : Nat} {R : Room} {x : Int32} (C : OK V X RX1 cc nL R) {σ : Mem} {pc pc' : Nat} {L : List (Option Value)} {st : List Value} {f : Mem → Prop} (d : decode cc pc = .ok (.putfield 46, 3)) (hp : pc + 3 = pc') (h : bm (up2 σ 0 13 x) f) (k : ∀ τ, f τ → GG V X τ pc' L st) : GG V X σ pc L (.int x :: .ref (ad V 0) :: st) :=
  g_put C d (j := 13) (T := TX1) (N := 17) (Cn := RX1) (ref := RX1) tyX1 (by decide) (en_0 V σ) rfl (by decide) fl_RX1_46 inlX1 tyX1_ok nmX1 rfl rfl (tyX1_ok 13 (by decide)) rfl rfl (Nat.le_of_ble_eq_true rfl) (by rw [en_0]; rfl) hp h k
theorem pb_X1_56 {V : EV} {X : CX} {cc : ByteArray} {nL : Nat} {R : Room} {b : Nat} (hb : isM b) {x : Int32} (C : OK V X RX1 cc nL R) {σ : Mem} {pc pc' : Nat} {L : List (Option Value)} {st : List Value} {f : Mem → Prop} (d : decode cc pc = .ok (.putfield 56, 3)) (hp : pc + 3 = pc') (h : bm (up2 σ b 10 x) f) (k : ∀ τ, f τ → GG V X τ pc' L st) : GG V X σ pc L (.int x :: .ref (ad V b) :: st) :=
  g_put C d (j := 10) (T := TX1) (N := 17) (Cn := RX1) (ref := RX1) tyX1 (isM_lt hb) (en_M V σ hb) rfl (by decide) fl_RX1_56 inlX1 tyX1_ok nmX1 rfl rfl (tyX1_ok 10 (by decide)) rfl rfl (Nat.le_of_ble_eq_true rfl) (by rw [en_M V _ hb]; simp [up2, upd]) hp h k
theorem p_X1_56 {V : EV} {X : CX} {cc : ByteArray} {nL : Nat} {R : Room} {x : Int32} (C : OK V X RX1 cc nL R) {σ : Mem} {pc pc' : Nat} {L : List (Option Value)} {st : List Value} {f : Mem → Prop} (d : decode cc pc = .ok (.putfield 56, 3)) (hp : pc + 3 = pc') (h : bm (up2 σ 0 10 x) f) (k : ∀ τ, f τ → GG V X τ pc' L st) : GG V X σ pc L (.int x :: .ref (ad V 0) :: st) :=
  g_put C d (j := 10) (T := TX1) (N := 17) (Cn := RX1) (ref := RX1) tyX1 (by decide) (en_0 V σ) rfl (by decide) fl_RX1_56 inlX1 tyX1_ok nmX1 rfl rfl (tyX1_ok 10 (by decide)) rfl rfl (Nat.le_of_ble_eq_true rfl) (by rw [en_0]; rfl) hp h k
theorem pb_X1_59 {V : EV} {X : CX} {cc : ByteArray} {nL : Nat} {R : Room} {b : Nat} (hb : isM b) {x : Int32} (C : OK V X RX1 cc nL R) {σ : Mem} {pc pc' : Nat} {L : List (Option Value)} {st : List Value} {f : Mem → Prop} (d : decode cc pc = .ok (.putfield 59, 3)) (hp : pc + 3 = pc') (h : bm (up2 σ b 12 x) f) (k : ∀ τ, f τ → GG V X τ pc' L st) : GG V X σ pc L (.int x :: .ref (ad V b) :: st) :=
  g_put C d (j := 12) (T := TX1) (N := 17) (Cn := RX1) (ref := RX1) tyX1 (isM_lt hb) (en_M V σ hb) rfl (by decide) fl_RX1_59 inlX1 tyX1_ok nmX1 rfl rfl (tyX1_ok 12 (by decide)) rfl rfl (Nat.le_of_ble_eq_true rfl) (by rw [en_M V _ hb]; simp [up2, upd]) hp h k
theorem p_X1_59 {V : EV} {X : CX} {cc : ByteArray} {nL : Nat} {R : Room} {x : Int32} (C : OK V X RX1 cc nL R) {σ : Mem} {pc pc' : Nat} {L : List (Option Value)} {st : List Value} {f : Mem → Prop} (d : decode cc pc = .ok (.putfield 59, 3)) (hp : pc + 3 = pc') (h : bm (up2 σ 0 12 x) f) (k : ∀ τ, f τ → GG V X τ pc' L st) : GG V X σ pc L (.int x :: .ref (ad V 0) :: st) :=
  g_put C d (j := 12) (T := TX1) (N := 17) (Cn := RX1) (ref := RX1) tyX1 (by decide) (en_0 V σ) rfl (by decide) fl_RX1_59 inlX1 tyX1_ok nmX1 rfl rfl (tyX1_ok 12 (by decide)) rfl rfl (Nat.le_of_ble_eq_true rfl) (by rw [en_0]; rfl) hp h k
theorem pb_X1_62 {V : EV} {X : CX} {cc : ByteArray} {nL : Nat} {R : Room} {b : Nat} (hb : isM b) {x : Int32} (C : OK V X RX1 cc nL R) {σ : Mem} {pc pc' : Nat} {L : List (Option Value)} {st : List Value} {f : Mem → Prop} (d : decode cc pc = .ok (.putfield 62, 3)) (hp : pc + 3 = pc') (h : bm (up2 σ b 14 x) f) (k : ∀ τ, f τ → GG V X τ pc' L st) : GG V X σ pc L (.int x :: .ref (ad V b) :: st) :=
  g_put C d (j := 14) (T := TX1) (N := 17) (Cn := RX1) (ref := RX1) tyX1 (isM_lt hb) (en_M V σ hb) rfl (by decide) fl_RX1_62 inlX1 tyX1_ok nmX1 rfl rfl (tyX1_ok 14 (by decide)) rfl rfl (Nat.le_of_ble_eq_true rfl) (by rw [en_M V _ hb]; simp [up2, upd]) hp h k
theorem p_X1_62 {V : EV} {X : CX} {cc : ByteArray} {nL : Nat} {R : Room} {x : Int32} (C : OK V X RX1 cc nL R) {σ : Mem} {pc pc' : Nat} {L : List (Option Value)} {st : List Value} {f : Mem → Prop} (d : decode cc pc = .ok (.putfield 62, 3)) (hp : pc + 3 = pc') (h : bm (up2 σ 0 14 x) f) (k : ∀ τ, f τ → GG V X τ pc' L st) : GG V X σ pc L (.int x :: .ref (ad V 0) :: st) :=
  g_put C d (j := 14) (T := TX1) (N := 17) (Cn := RX1) (ref := RX1) tyX1 (by decide) (en_0 V σ) rfl (by decide) fl_RX1_62 inlX1 tyX1_ok nmX1 rfl rfl (tyX1_ok 14 (by decide)) rfl rfl (Nat.le_of_ble_eq_true rfl) (by rw [en_0]; rfl) hp h k
theorem pb_X1_65 {V : EV} {X : CX} {cc : ByteArray} {nL : Nat} {R : Room} {b : Nat} (hb : isM b) {x : Int32} (C : OK V X RX1 cc nL R) {σ : Mem} {pc pc' : Nat} {L : List (Option Value)} {st : List Value} {f : Mem → Prop} (d : decode cc pc = .ok (.putfield 65, 3)) (hp : pc + 3 = pc') (h : bm (up2 σ b 15 x) f) (k : ∀ τ, f τ → GG V X τ pc' L st) : GG V X σ pc L (.int x :: .ref (ad V b) :: st) :=
  g_put C d (j := 15) (T := TX1) (N := 17) (Cn := RX1) (ref := RX1) tyX1 (isM_lt hb) (en_M V σ hb) rfl (by decide) fl_RX1_65 inlX1 tyX1_ok nmX1 rfl rfl (tyX1_ok 15 (by decide)) rfl rfl (Nat.le_of_ble_eq_true rfl) (by rw [en_M V _ hb]; simp [up2, upd]) hp h k
theorem p_X1_65 {V : EV} {X : CX} {cc : ByteArray} {nL : Nat} {R : Room} {x : Int32} (C : OK V X RX1 cc nL R) {σ : Mem} {pc pc' : Nat} {L : List (Option Value)} {st : List Value} {f : Mem → Prop} (d : decode cc pc = .ok (.putfield 65, 3)) (hp : pc + 3 = pc') (h : bm (up2 σ 0 15 x) f) (k : ∀ τ, f τ → GG V X τ pc' L st) : GG V X σ pc L (.int x :: .ref (ad V 0) :: st) :=
  g_put C d (j := 15) (T := TX1) (N := 17) (Cn := RX1) (ref := RX1) tyX1 (by decide) (en_0 V σ) rfl (by decide) fl_RX1_65 inlX1 tyX1_ok nmX1 rfl rfl (tyX1_ok 15 (by decide)) rfl rfl (Nat.le_of_ble_eq_true rfl) (by rw [en_0]; rfl) hp h k
theorem pb_X1_68 {V : EV} {X : CX} {cc : ByteArray} {nL : Nat} {R : Room} {b : Nat} (hb : isM b) {x : Int32} (C : OK V X RX1 cc nL R) {σ : Mem} {pc pc' : Nat} {L : List (Option Value)} {st : List Value} {f : Mem → Prop} (d : decode cc pc = .ok (.putfield 68, 3)) (hp : pc + 3 = pc') (h : bm (up2 σ b 16 x) f) (k : ∀ τ, f τ → GG V X τ pc' L st) : GG V X σ pc L (.int x :: .ref (ad V b) :: st) :=
  g_put C d (j := 16) (T := TX1) (N := 17) (Cn := RX1) (ref := RX1) tyX1 (isM_lt hb) (en_M V σ hb) rfl (by decide) fl_RX1_68 inlX1 tyX1_ok nmX1 rfl rfl (tyX1_ok 16 (by decide)) rfl rfl (Nat.le_of_ble_eq_true rfl) (by rw [en_M V _ hb]; simp [up2, upd]) hp h k
theorem p_X1_68 {V : EV} {X : CX} {cc : ByteArray} {nL : Nat} {R : Room} {x : Int32} (C : OK V X RX1 cc nL R) {σ : Mem} {pc pc' : Nat} {L : List (Option Value)} {st : List Value} {f : Mem → Prop} (d : decode cc pc = .ok (.putfield 68, 3)) (hp : pc + 3 = pc') (h : bm (up2 σ 0 16 x) f) (k : ∀ τ, f τ → GG V X τ pc' L st) : GG V X σ pc L (.int x :: .ref (ad V 0) :: st) :=
  g_put C d (j := 16) (T := TX1) (N := 17) (Cn := RX1) (ref := RX1) tyX1 (by decide) (en_0 V σ) rfl (by decide) fl_RX1_68 inlX1 tyX1_ok nmX1 rfl rfl (tyX1_ok 16 (by decide)) rfl rfl (Nat.le_of_ble_eq_true rfl) (by rw [en_0]; rfl) hp h k
theorem p_X2_26 {V : EV} {X : CX} {cc : ByteArray} {nL : Nat} {R : Room} {x : Int32} (C : OK V X RX2 cc nL R) {σ : Mem} {pc pc' : Nat} {L : List (Option Value)} {st : List Value} {f : Mem → Prop} (d : decode cc pc = .ok (.putfield 26, 3)) (hp : pc + 3 = pc') (h : bm (up2 σ 89 4 x) f) (k : ∀ τ, f τ → GG V X τ pc' L st) : GG V X σ pc L (.int x :: .ref (ad V 89) :: st) :=
  g_put C d (j := 4) (T := TX2) (N := 6) (Cn := RX2) (ref := RX2) tyX2 (by decide) (en_89 V σ) rfl (by decide) fl_RX2_26 inlX2 tyX2_ok nmX2 rfl rfl (tyX2_ok 4 (by decide)) rfl rfl (Nat.le_of_ble_eq_true rfl) (by rw [en_89]; rfl) hp h k
theorem p_X2_30 {V : EV} {X : CX} {cc : ByteArray} {nL : Nat} {R : Room} {x : Int32} (C : OK V X RX2 cc nL R) {σ : Mem} {pc pc' : Nat} {L : List (Option Value)} {st : List Value} {f : Mem → Prop} (d : decode cc pc = .ok (.putfield 30, 3)) (hp : pc + 3 = pc') (h : bm (up2 σ 89 5 x) f) (k : ∀ τ, f τ → GG V X τ pc' L st) : GG V X σ pc L (.int x :: .ref (ad V 89) :: st) :=
  g_put C d (j := 5) (T := TX2) (N := 6) (Cn := RX2) (ref := RX2) tyX2 (by decide) (en_89 V σ) rfl (by decide) fl_RX2_30 inlX2 tyX2_ok nmX2 rfl rfl (tyX2_ok 5 (by decide)) rfl rfl (Nat.le_of_ble_eq_true rfl) (by rw [en_89]; rfl) hp h k
theorem p_X3_15 {V : EV} {X : CX} {cc : ByteArray} {nL : Nat} {R : Room} {x : Int32} (C : OK V X RX3 cc nL R) {σ : Mem} {pc pc' : Nat} {L : List (Option Value)} {st : List Value} {f : Mem → Prop} (d : decode cc pc = .ok (.putfield 15, 3)) (hp : pc + 3 = pc') (h : bm (up2 σ 87 1 x) f) (k : ∀ τ, f τ → GG V X τ pc' L st) : GG V X σ pc L (.int x :: .ref (ad V 87) :: st) :=
  g_put C d (j := 1) (T := TX3) (N := 2) (Cn := RX3) (ref := RX3) tyX3 (by decide) (en_87 V σ) rfl (by decide) fl_RX3_15 inlX3 tyX3_ok nmX3 rfl rfl (tyX3_ok 1 (by decide)) rfl rfl (Nat.le_of_ble_eq_true rfl) (by rw [en_87]; rfl) hp h k
theorem p_X4_22 {V : EV} {X : CX} {cc : ByteArray} {nL : Nat} {R : Room} {x : Int32} (hz : isZ x) (C : OK V X RX4 cc nL R) {σ : Mem} {pc pc' : Nat} {L : List (Option Value)} {st : List Value} {f : Mem → Prop} (d : decode cc pc = .ok (.putfield 22, 3)) (hp : pc + 3 = pc') (h : bm (up2 σ 84 3 x) f) (k : ∀ τ, f τ → GG V X τ pc' L st) : GG V X σ pc L (.int x :: .ref (ad V 84) :: st) :=
  g_put C d (j := 3) (T := TX4) (N := 9) (Cn := RX4) (ref := RX4) tyX4 (by decide) (en_84 V σ) rfl (by decide) fl_RX4_22 inlX4 tyX4_ok nmX4 rfl rfl (tyX4_ok 3 (by decide)) (by rcases hz with rfl | rfl <;> rfl) (by rcases hz with rfl | rfl <;> rfl) (Nat.le_of_ble_eq_true rfl) (by rw [en_84]; rfl) hp h k
theorem p_X4_49 {V : EV} {X : CX} {cc : ByteArray} {nL : Nat} {R : Room} {x : Int32} (C : OK V X RX4 cc nL R) {σ : Mem} {pc pc' : Nat} {L : List (Option Value)} {st : List Value} {f : Mem → Prop} (d : decode cc pc = .ok (.putfield 49, 3)) (hp : pc + 3 = pc') (h : bm (up2 σ 84 7 x) f) (k : ∀ τ, f τ → GG V X τ pc' L st) : GG V X σ pc L (.int x :: .ref (ad V 84) :: st) :=
  g_put C d (j := 7) (T := TX4) (N := 9) (Cn := RX4) (ref := RX4) tyX4 (by decide) (en_84 V σ) rfl (by decide) fl_RX4_49 inlX4 tyX4_ok nmX4 rfl rfl (tyX4_ok 7 (by decide)) rfl rfl (Nat.le_of_ble_eq_true rfl) (by rw [en_84]; rfl) hp h k
theorem p_X4_53 {V : EV} {X : CX} {cc : ByteArray} {nL : Nat} {R : Room} {x : Int32} (C : OK V X RX4 cc nL R) {σ : Mem} {pc pc' : Nat} {L : List (Option Value)} {st : List Value} {f : Mem → Prop} (d : decode cc pc = .ok (.putfield 53, 3)) (hp : pc + 3 = pc') (h : bm (up2 σ 84 8 x) f) (k : ∀ τ, f τ → GG V X τ pc' L st) : GG V X σ pc L (.int x :: .ref (ad V 84) :: st) :=
  g_put C d (j := 8) (T := TX4) (N := 9) (Cn := RX4) (ref := RX4) tyX4 (by decide) (en_84 V σ) rfl (by decide) fl_RX4_53 inlX4 tyX4_ok nmX4 rfl rfl (tyX4_ok 8 (by decide)) rfl rfl (Nat.le_of_ble_eq_true rfl) (by rw [en_84]; rfl) hp h k
theorem p_X5_44 {V : EV} {X : CX} {cc : ByteArray} {nL : Nat} {R : Room} {x : Int32} (C : OK V X RX5 cc nL R) {σ : Mem} {pc pc' : Nat} {L : List (Option Value)} {st : List Value} {f : Mem → Prop} (d : decode cc pc = .ok (.putfield 44, 3)) (hp : pc + 3 = pc') (h : bm (up2 σ 93 3 x) f) (k : ∀ τ, f τ → GG V X τ pc' L st) : GG V X σ pc L (.int x :: .ref (ad V 93) :: st) :=
  g_put C d (j := 3) (T := TX5) (N := 13) (Cn := RX5) (ref := RX5) tyX5 (by decide) (en_93 V σ) rfl (by decide) fl_RX5_44 inlX5 tyX5_ok nmX5 rfl rfl (tyX5_ok 3 (by decide)) rfl rfl (Nat.le_of_ble_eq_true rfl) (by rw [en_93]; rfl) hp h k
theorem p_X5_56 {V : EV} {X : CX} {cc : ByteArray} {nL : Nat} {R : Room} {x : Int32} (hz : isZ x) (C : OK V X RX5 cc nL R) {σ : Mem} {pc pc' : Nat} {L : List (Option Value)} {st : List Value} {f : Mem → Prop} (d : decode cc pc = .ok (.putfield 56, 3)) (hp : pc + 3 = pc') (h : bm (up2 σ 93 5 x) f) (k : ∀ τ, f τ → GG V X τ pc' L st) : GG V X σ pc L (.int x :: .ref (ad V 93) :: st) :=
  g_put C d (j := 5) (T := TX5) (N := 13) (Cn := RX5) (ref := RX5) tyX5 (by decide) (en_93 V σ) rfl (by decide) fl_RX5_56 inlX5 tyX5_ok nmX5 rfl rfl (tyX5_ok 5 (by decide)) (by rcases hz with rfl | rfl <;> rfl) (by rcases hz with rfl | rfl <;> rfl) (Nat.le_of_ble_eq_true rfl) (by rw [en_93]; rfl) hp h k
theorem p_X5_132 {V : EV} {X : CX} {cc : ByteArray} {nL : Nat} {R : Room} {x : Int32} (C : OK V X RX5 cc nL R) {σ : Mem} {pc pc' : Nat} {L : List (Option Value)} {st : List Value} {f : Mem → Prop} (d : decode cc pc = .ok (.putfield 132, 3)) (hp : pc + 3 = pc') (h : bm (up2 σ 93 7 x) f) (k : ∀ τ, f τ → GG V X τ pc' L st) : GG V X σ pc L (.int x :: .ref (ad V 93) :: st) :=
  g_put C d (j := 7) (T := TX5) (N := 13) (Cn := RX5) (ref := RX5) tyX5 (by decide) (en_93 V σ) rfl (by decide) fl_RX5_132 inlX5 tyX5_ok nmX5 rfl rfl (tyX5_ok 7 (by decide)) rfl rfl (Nat.le_of_ble_eq_true rfl) (by rw [en_93]; rfl) hp h k
theorem p_X5_135 {V : EV} {X : CX} {cc : ByteArray} {nL : Nat} {R : Room} {x : Int32} (C : OK V X RX5 cc nL R) {σ : Mem} {pc pc' : Nat} {L : List (Option Value)} {st : List Value} {f : Mem → Prop} (d : decode cc pc = .ok (.putfield 135, 3)) (hp : pc + 3 = pc') (h : bm (up2 σ 93 12 x) f) (k : ∀ τ, f τ → GG V X τ pc' L st) : GG V X σ pc L (.int x :: .ref (ad V 93) :: st) :=
  g_put C d (j := 12) (T := TX5) (N := 13) (Cn := RX5) (ref := RX5) tyX5 (by decide) (en_93 V σ) rfl (by decide) fl_RX5_135 inlX5 tyX5_ok nmX5 rfl rfl (tyX5_ok 12 (by decide)) rfl rfl (Nat.le_of_ble_eq_true rfl) (by rw [en_93]; rfl) hp h k
theorem p_X5_144 {V : EV} {X : CX} {cc : ByteArray} {nL : Nat} {R : Room} {x : Int32} (C : OK V X RX5 cc nL R) {σ : Mem} {pc pc' : Nat} {L : List (Option Value)} {st : List Value} {f : Mem → Prop} (d : decode cc pc = .ok (.putfield 144, 3)) (hp : pc + 3 = pc') (h : bm (up2 σ 93 11 x) f) (k : ∀ τ, f τ → GG V X τ pc' L st) : GG V X σ pc L (.int x :: .ref (ad V 93) :: st) :=
  g_put C d (j := 11) (T := TX5) (N := 13) (Cn := RX5) (ref := RX5) tyX5 (by decide) (en_93 V σ) rfl (by decide) fl_RX5_144 inlX5 tyX5_ok nmX5 rfl rfl (tyX5_ok 11 (by decide)) rfl rfl (Nat.le_of_ble_eq_true rfl) (by rw [en_93]; rfl) hp h k
theorem p_X5_163 {V : EV} {X : CX} {cc : ByteArray} {nL : Nat} {R : Room} {x : Int32} (C : OK V X RX5 cc nL R) {σ : Mem} {pc pc' : Nat} {L : List (Option Value)} {st : List Value} {f : Mem → Prop} (d : decode cc pc = .ok (.putfield 163, 3)) (hp : pc + 3 = pc') (h : bm (up2 σ 93 8 x) f) (k : ∀ τ, f τ → GG V X τ pc' L st) : GG V X σ pc L (.int x :: .ref (ad V 93) :: st) :=
  g_put C d (j := 8) (T := TX5) (N := 13) (Cn := RX5) (ref := RX5) tyX5 (by decide) (en_93 V σ) rfl (by decide) fl_RX5_163 inlX5 tyX5_ok nmX5 rfl rfl (tyX5_ok 8 (by decide)) rfl rfl (Nat.le_of_ble_eq_true rfl) (by rw [en_93]; rfl) hp h k
theorem p_X5_166 {V : EV} {X : CX} {cc : ByteArray} {nL : Nat} {R : Room} {x : Int32} (C : OK V X RX5 cc nL R) {σ : Mem} {pc pc' : Nat} {L : List (Option Value)} {st : List Value} {f : Mem → Prop} (d : decode cc pc = .ok (.putfield 166, 3)) (hp : pc + 3 = pc') (h : bm (up2 σ 93 9 x) f) (k : ∀ τ, f τ → GG V X τ pc' L st) : GG V X σ pc L (.int x :: .ref (ad V 93) :: st) :=
  g_put C d (j := 9) (T := TX5) (N := 13) (Cn := RX5) (ref := RX5) tyX5 (by decide) (en_93 V σ) rfl (by decide) fl_RX5_166 inlX5 tyX5_ok nmX5 rfl rfl (tyX5_ok 9 (by decide)) rfl rfl (Nat.le_of_ble_eq_true rfl) (by rw [en_93]; rfl) hp h k
theorem cp_X1_50_1 {V : EV} {X : CX} {cc : ByteArray} {nL : Nat} {R : Room} {σ : Mem} {a b : Nat} (ha : isM a) (hb : isM b) (hz : ∀ i, i < 40 → isZ (σ (a + 1) i)) (C : OK V X RX1 cc nL R) {pc pc' : Nat} {L : List (Option Value)} {f : Mem → Prop} (d : decode cc pc = .ok (.invokestatic 50, 3)) (hL : L.length = nL) (hp : pc + 3 = pc') (h : bm (cpA σ (a + 1) (b + 1) 40) f) (k : ∀ τ, f τ → GG V X τ pc' L []) (hR : 1 ≤ R.frames ∧ 24 ≤ R.locals := by decide) : GG V X σ pc L (.int 40 :: .int 0 :: .ref (ad V (b + 1)) :: .int 0 :: .ref (ad V (a + 1)) :: []) :=
  g_copy C (cls := V.2.1.2.1) (n := 40) (tq := 1) (by unfold isM at ha; omega) (by unfold isM at hb; omega) (by rw [ent_mem V σ ha.1 ha.2 (by decide)]; rfl) (fun τ => by rw [ent_mem V τ hb.1 hb.2 (by decide)]; rfl) rfl rfl (by decide) (by decide) (fun i hi => by rcases hz i hi with e | e <;> rw [e] <;> rfl) ml_RX1_50 ⟨hR.1, Nat.le_trans (by decide +kernel) hR.2⟩ d hL hp h k
theorem cp_X1_50_2 {V : EV} {X : CX} {cc : ByteArray} {nL : Nat} {R : Room} {σ : Mem} {a b : Nat} (ha : isM a) (hb : isM b) (C : OK V X RX1 cc nL R) {pc pc' : Nat} {L : List (Option Value)} {f : Mem → Prop} (d : decode cc pc = .ok (.invokestatic 50, 3)) (hL : L.length = nL) (hp : pc + 3 = pc') (h : bm (cpA σ (a + 2) (b + 2) 40) f) (k : ∀ τ, f τ → GG V X τ pc' L []) (hR : 1 ≤ R.frames ∧ 24 ≤ R.locals := by decide) : GG V X σ pc L (.int 40 :: .int 0 :: .ref (ad V (b + 2)) :: .int 0 :: .ref (ad V (a + 2)) :: []) :=
  g_copy C (cls := V.2.1.1) (n := 40) (tq := 0) (by unfold isM at ha; omega) (by unfold isM at hb; omega) (by rw [ent_mem V σ ha.1 ha.2 (by decide)]; rfl) (fun τ => by rw [ent_mem V τ hb.1 hb.2 (by decide)]; rfl) rfl rfl (by decide) (by decide) (fun _ _ => rfl) ml_RX1_50 ⟨hR.1, Nat.le_trans (by decide +kernel) hR.2⟩ d hL hp h k
theorem cp_X1_50_3 {V : EV} {X : CX} {cc : ByteArray} {nL : Nat} {R : Room} {σ : Mem} {a b : Nat} (ha : isM a) (hb : isM b) (C : OK V X RX1 cc nL R) {pc pc' : Nat} {L : List (Option Value)} {f : Mem → Prop} (d : decode cc pc = .ok (.invokestatic 50, 3)) (hL : L.length = nL) (hp : pc + 3 = pc') (h : bm (cpA σ (a + 3) (b + 3) 40) f) (k : ∀ τ, f τ → GG V X τ pc' L []) (hR : 1 ≤ R.frames ∧ 24 ≤ R.locals := by decide) : GG V X σ pc L (.int 40 :: .int 0 :: .ref (ad V (b + 3)) :: .int 0 :: .ref (ad V (a + 3)) :: []) :=
  g_copy C (cls := V.2.1.1) (n := 40) (tq := 0) (by unfold isM at ha; omega) (by unfold isM at hb; omega) (by rw [ent_mem V σ ha.1 ha.2 (by decide)]; rfl) (fun τ => by rw [ent_mem V τ hb.1 hb.2 (by decide)]; rfl) rfl rfl (by decide) (by decide) (fun _ _ => rfl) ml_RX1_50 ⟨hR.1, Nat.le_trans (by decide +kernel) hR.2⟩ d hL hp h k
theorem cp_X1_50_4 {V : EV} {X : CX} {cc : ByteArray} {nL : Nat} {R : Room} {σ : Mem} {a b : Nat} (ha : isM a) (hb : isM b) (C : OK V X RX1 cc nL R) {pc pc' : Nat} {L : List (Option Value)} {f : Mem → Prop} (d : decode cc pc = .ok (.invokestatic 50, 3)) (hL : L.length = nL) (hp : pc + 3 = pc') (h : bm (cpA σ (a + 4) (b + 4) 50) f) (k : ∀ τ, f τ → GG V X τ pc' L []) (hR : 1 ≤ R.frames ∧ 24 ≤ R.locals := by decide) : GG V X σ pc L (.int 50 :: .int 0 :: .ref (ad V (b + 4)) :: .int 0 :: .ref (ad V (a + 4)) :: []) :=
  g_copy C (cls := V.2.1.1) (n := 50) (tq := 0) (by unfold isM at ha; omega) (by unfold isM at hb; omega) (by rw [ent_mem V σ ha.1 ha.2 (by decide)]; rfl) (fun τ => by rw [ent_mem V τ hb.1 hb.2 (by decide)]; rfl) rfl rfl (by decide) (by decide) (fun _ _ => rfl) ml_RX1_50 ⟨hR.1, Nat.le_trans (by decide +kernel) hR.2⟩ d hL hp h k
theorem cp_X1_50_5 {V : EV} {X : CX} {cc : ByteArray} {nL : Nat} {R : Room} {σ : Mem} {a b : Nat} (ha : isM a) (hb : isM b) (C : OK V X RX1 cc nL R) {pc pc' : Nat} {L : List (Option Value)} {f : Mem → Prop} (d : decode cc pc = .ok (.invokestatic 50, 3)) (hL : L.length = nL) (hp : pc + 3 = pc') (h : bm (cpA σ (a + 5) (b + 5) 50) f) (k : ∀ τ, f τ → GG V X τ pc' L []) (hR : 1 ≤ R.frames ∧ 24 ≤ R.locals := by decide) : GG V X σ pc L (.int 50 :: .int 0 :: .ref (ad V (b + 5)) :: .int 0 :: .ref (ad V (a + 5)) :: []) :=
  g_copy C (cls := V.2.1.1) (n := 50) (tq := 0) (by unfold isM at ha; omega) (by unfold isM at hb; omega) (by rw [ent_mem V σ ha.1 ha.2 (by decide)]; rfl) (fun τ => by rw [ent_mem V τ hb.1 hb.2 (by decide)]; rfl) rfl rfl (by decide) (by decide) (fun _ _ => rfl) ml_RX1_50 ⟨hR.1, Nat.le_trans (by decide +kernel) hR.2⟩ d hL hp h k
theorem cp_X1_50_6 {V : EV} {X : CX} {cc : ByteArray} {nL : Nat} {R : Room} {σ : Mem} {a b : Nat} (ha : isM a) (hb : isM b) (hz : ∀ i, i < 50 → isZ (σ (a + 6) i)) (C : OK V X RX1 cc nL R) {pc pc' : Nat} {L : List (Option Value)} {f : Mem → Prop} (d : decode cc pc = .ok (.invokestatic 50, 3)) (hL : L.length = nL) (hp : pc + 3 = pc') (h : bm (cpA σ (a + 6) (b + 6) 50) f) (k : ∀ τ, f τ → GG V X τ pc' L []) (hR : 1 ≤ R.frames ∧ 24 ≤ R.locals := by decide) : GG V X σ pc L (.int 50 :: .int 0 :: .ref (ad V (b + 6)) :: .int 0 :: .ref (ad V (a + 6)) :: []) :=
  g_copy C (cls := V.2.1.2.1) (n := 50) (tq := 1) (by unfold isM at ha; omega) (by unfold isM at hb; omega) (by rw [ent_mem V σ ha.1 ha.2 (by decide)]; rfl) (fun τ => by rw [ent_mem V τ hb.1 hb.2 (by decide)]; rfl) rfl rfl (by decide) (by decide) (fun i hi => by rcases hz i hi with e | e <;> rw [e] <;> rfl) ml_RX1_50 ⟨hR.1, Nat.le_trans (by decide +kernel) hR.2⟩ d hL hp h k
theorem cp_X1_50_7 {V : EV} {X : CX} {cc : ByteArray} {nL : Nat} {R : Room} {σ : Mem} {a b : Nat} (ha : isM a) (hb : isM b) (C : OK V X RX1 cc nL R) {pc pc' : Nat} {L : List (Option Value)} {f : Mem → Prop} (d : decode cc pc = .ok (.invokestatic 50, 3)) (hL : L.length = nL) (hp : pc + 3 = pc') (h : bm (cpA σ (a + 7) (b + 7) 50) f) (k : ∀ τ, f τ → GG V X τ pc' L []) (hR : 1 ≤ R.frames ∧ 24 ≤ R.locals := by decide) : GG V X σ pc L (.int 50 :: .int 0 :: .ref (ad V (b + 7)) :: .int 0 :: .ref (ad V (a + 7)) :: []) :=
  g_copy C (cls := V.2.1.1) (n := 50) (tq := 0) (by unfold isM at ha; omega) (by unfold isM at hb; omega) (by rw [ent_mem V σ ha.1 ha.2 (by decide)]; rfl) (fun τ => by rw [ent_mem V τ hb.1 hb.2 (by decide)]; rfl) rfl rfl (by decide) (by decide) (fun _ _ => rfl) ml_RX1_50 ⟨hR.1, Nat.le_trans (by decide +kernel) hR.2⟩ d hL hp h k
theorem cp_X1_50_8 {V : EV} {X : CX} {cc : ByteArray} {nL : Nat} {R : Room} {σ : Mem} {a b : Nat} (ha : isM a) (hb : isM b) (C : OK V X RX1 cc nL R) {pc pc' : Nat} {L : List (Option Value)} {f : Mem → Prop} (d : decode cc pc = .ok (.invokestatic 50, 3)) (hL : L.length = nL) (hp : pc + 3 = pc') (h : bm (cpA σ (a + 8) (b + 8) 5) f) (k : ∀ τ, f τ → GG V X τ pc' L []) (hR : 1 ≤ R.frames ∧ 24 ≤ R.locals := by decide) : GG V X σ pc L (.int 5 :: .int 0 :: .ref (ad V (b + 8)) :: .int 0 :: .ref (ad V (a + 8)) :: []) :=
  g_copy C (cls := V.2.1.1) (n := 5) (tq := 0) (by unfold isM at ha; omega) (by unfold isM at hb; omega) (by rw [ent_mem V σ ha.1 ha.2 (by decide)]; rfl) (fun τ => by rw [ent_mem V τ hb.1 hb.2 (by decide)]; rfl) rfl rfl (by decide) (by decide) (fun _ _ => rfl) ml_RX1_50 ⟨hR.1, Nat.le_trans (by decide +kernel) hR.2⟩ d hL hp h k
theorem cp_X1_50_9 {V : EV} {X : CX} {cc : ByteArray} {nL : Nat} {R : Room} {σ : Mem} {a b : Nat} (ha : isM a) (hb : isM b) (C : OK V X RX1 cc nL R) {pc pc' : Nat} {L : List (Option Value)} {f : Mem → Prop} (d : decode cc pc = .ok (.invokestatic 50, 3)) (hL : L.length = nL) (hp : pc + 3 = pc') (h : bm (cpA σ (a + 9) (b + 9) 5) f) (k : ∀ τ, f τ → GG V X τ pc' L []) (hR : 1 ≤ R.frames ∧ 24 ≤ R.locals := by decide) : GG V X σ pc L (.int 5 :: .int 0 :: .ref (ad V (b + 9)) :: .int 0 :: .ref (ad V (a + 9)) :: []) :=
  g_copy C (cls := V.2.1.1) (n := 5) (tq := 0) (by unfold isM at ha; omega) (by unfold isM at hb; omega) (by rw [ent_mem V σ ha.1 ha.2 (by decide)]; rfl) (fun τ => by rw [ent_mem V τ hb.1 hb.2 (by decide)]; rfl) rfl rfl (by decide) (by decide) (fun _ _ => rfl) ml_RX1_50 ⟨hR.1, Nat.le_trans (by decide +kernel) hR.2⟩ d hL hp h k
theorem cp_X1_50_10 {V : EV} {X : CX} {cc : ByteArray} {nL : Nat} {R : Room} {σ : Mem} {a b : Nat} (ha : isM a) (hb : isM b) (C : OK V X RX1 cc nL R) {pc pc' : Nat} {L : List (Option Value)} {f : Mem → Prop} (d : decode cc pc = .ok (.invokestatic 50, 3)) (hL : L.length = nL) (hp : pc + 3 = pc') (h : bm (cpA σ (a + 10) (b + 10) 12) f) (k : ∀ τ, f τ → GG V X τ pc' L []) (hR : 1 ≤ R.frames ∧ 24 ≤ R.locals := by decide) : GG V X σ pc L (.int 12 :: .int 0 :: .ref (ad V (b + 10)) :: .int 0 :: .ref (ad V (a + 10)) :: []) :=
  g_copy C (cls := V.2.1.1) (n := 12) (tq := 0) (by unfold isM at ha; omega) (by unfold isM at hb; omega) (by rw [ent_mem V σ ha.1 ha.2 (by decide)]; rfl) (fun τ => by rw [ent_mem V τ hb.1 hb.2 (by decide)]; rfl) rfl rfl (by decide) (by decide) (fun _ _ => rfl) ml_RX1_50 ⟨hR.1, Nat.le_trans (by decide +kernel) hR.2⟩ d hL hp h k
theorem cp_X1_50_11 {V : EV} {X : CX} {cc : ByteArray} {nL : Nat} {R : Room} {σ : Mem} {a b : Nat} (ha : isM a) (hb : isM b) (C : OK V X RX1 cc nL R) {pc pc' : Nat} {L : List (Option Value)} {f : Mem → Prop} (d : decode cc pc = .ok (.invokestatic 50, 3)) (hL : L.length = nL) (hp : pc + 3 = pc') (h : bm (cpA σ (a + 11) (b + 11) 3) f) (k : ∀ τ, f τ → GG V X τ pc' L []) (hR : 1 ≤ R.frames ∧ 24 ≤ R.locals := by decide) : GG V X σ pc L (.int 3 :: .int 0 :: .ref (ad V (b + 11)) :: .int 0 :: .ref (ad V (a + 11)) :: []) :=
  g_copy C (cls := V.2.1.1) (n := 3) (tq := 0) (by unfold isM at ha; omega) (by unfold isM at hb; omega) (by rw [ent_mem V σ ha.1 ha.2 (by decide)]; rfl) (fun τ => by rw [ent_mem V τ hb.1 hb.2 (by decide)]; rfl) rfl rfl (by decide) (by decide) (fun _ _ => rfl) ml_RX1_50 ⟨hR.1, Nat.le_trans (by decide +kernel) hR.2⟩ d hL hp h k
