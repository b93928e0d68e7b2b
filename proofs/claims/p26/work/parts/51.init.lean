/-! THE CONSTRUCTORS of the class -/
def fil (i : Nat) : Nat → Int32 := fun j => if j < i then -5 else 0
theorem fil_0 : (fun _ => (0 : Int32)) = fil 0 := by
  funext j
  unfold fil
  rw [if_neg (Nat.not_lt_zero _)]
theorem fil_s {i : Nat} (h : i < 2 ^ 31) : upd (fil i) (nI i).toNatClampNeg (-5) = fil (i + 1) := by
  rw [nI_clamp h]
  funext j
  by_cases e : j = i
  · rw [e, pk_us]
    unfold fil
    rw [if_pos (Nat.lt_succ_self _)]
  · rw [pk_un e]
    unfold fil
    by_cases q : j < i
    · rw [if_pos q, if_pos (by omega)]
    · rw [if_neg q, if_neg (by omega)]
theorem nge {n k : Nat} (h : k < n) (hn : n < 2 ^ 31) : ¬ nI n ≤ nI k := nI_ge h hn
def memW (V : EV) (a : Nat) (q : Nat → Nat) : va_W := [(a, .inr (1, [.ref (q 1), .ref (q 2), .ref (q 3), .ref (q 4), .ref (q 5), .ref (q 6), .ref (q 7), .ref (q 8), .ref (q 9), .ref (q 10), .int 0, .ref (q 11), .int 0, .int 39, .int 0, .int 0, .int 0])), (q 1, .inl (V.2.1.2.1, 40, .inl (fun _ => 0))), (q 2, .inl (V.2.1.1, 40, .inl (fun _ => 0))), (q 3, .inl (V.2.1.1, 40, .inl (fil 40))), (q 4, .inl (V.2.1.1, 50, .inl (fil 50))), (q 5, .inl (V.2.1.1, 50, .inl (fun _ => 0))), (q 6, .inl (V.2.1.2.1, 50, .inl (fun _ => 0))), (q 7, .inl (V.2.1.1, 50, .inl (fun _ => 0))), (q 8, .inl (V.2.1.1, 5, .inl (fun _ => 0))), (q 9, .inl (V.2.1.1, 5, .inl (fun _ => 0))), (q 10, .inl (V.2.1.1, 12, .inl (fun _ => 0))), (q 11, .inl (V.2.1.1, 3, .inl (upd (upd (fun _ => 0) 0 3) 1 10)))]
theorem dX1_init_0 : decode cX1_init 0 = .ok (.aload_n 0, 1) := by decide +kernel
theorem dX1_init_1 : decode cX1_init 1 = .ok (.invokespecial 3, 3) := by decide +kernel
theorem dX1_init_4 : decode cX1_init 4 = .ok (.aload_n 0, 1) := by decide +kernel
theorem dX1_init_5 : decode cX1_init 5 = .ok (.bipush 40, 2) := by decide +kernel
theorem dX1_init_7 : decode cX1_init 7 = .ok (.newarray .boolean, 2) := by decide +kernel
theorem dX1_init_9 : decode cX1_init 9 = .ok (.putfield 9, 3) := by decide +kernel
theorem dX1_init_12 : decode cX1_init 12 = .ok (.aload_n 0, 1) := by decide +kernel
theorem dX1_init_13 : decode cX1_init 13 = .ok (.bipush 40, 2) := by decide +kernel
theorem dX1_init_15 : decode cX1_init 15 = .ok (.newarray .int, 2) := by decide +kernel
theorem dX1_init_17 : decode cX1_init 17 = .ok (.putfield 15, 3) := by decide +kernel
theorem dX1_init_20 : decode cX1_init 20 = .ok (.aload_n 0, 1) := by decide +kernel
theorem dX1_init_21 : decode cX1_init 21 = .ok (.bipush 40, 2) := by decide +kernel
theorem dX1_init_23 : decode cX1_init 23 = .ok (.newarray .int, 2) := by decide +kernel
theorem dX1_init_25 : decode cX1_init 25 = .ok (.putfield 19, 3) := by decide +kernel
theorem dX1_init_28 : decode cX1_init 28 = .ok (.aload_n 0, 1) := by decide +kernel
theorem dX1_init_29 : decode cX1_init 29 = .ok (.bipush 50, 2) := by decide +kernel
theorem dX1_init_31 : decode cX1_init 31 = .ok (.newarray .int, 2) := by decide +kernel
theorem dX1_init_33 : decode cX1_init 33 = .ok (.putfield 22, 3) := by decide +kernel
theorem dX1_init_36 : decode cX1_init 36 = .ok (.aload_n 0, 1) := by decide +kernel
theorem dX1_init_37 : decode cX1_init 37 = .ok (.bipush 50, 2) := by decide +kernel
theorem dX1_init_39 : decode cX1_init 39 = .ok (.newarray .int, 2) := by decide +kernel
theorem dX1_init_41 : decode cX1_init 41 = .ok (.putfield 25, 3) := by decide +kernel
theorem dX1_init_44 : decode cX1_init 44 = .ok (.aload_n 0, 1) := by decide +kernel
theorem dX1_init_45 : decode cX1_init 45 = .ok (.bipush 50, 2) := by decide +kernel
theorem dX1_init_47 : decode cX1_init 47 = .ok (.newarray .boolean, 2) := by decide +kernel
theorem dX1_init_49 : decode cX1_init 49 = .ok (.putfield 28, 3) := by decide +kernel
theorem dX1_init_52 : decode cX1_init 52 = .ok (.aload_n 0, 1) := by decide +kernel
theorem dX1_init_53 : decode cX1_init 53 = .ok (.bipush 50, 2) := by decide +kernel
theorem dX1_init_55 : decode cX1_init 55 = .ok (.newarray .int, 2) := by decide +kernel
theorem dX1_init_57 : decode cX1_init 57 = .ok (.putfield 31, 3) := by decide +kernel
theorem dX1_init_60 : decode cX1_init 60 = .ok (.aload_n 0, 1) := by decide +kernel
theorem dX1_init_61 : decode cX1_init 61 = .ok (.iconst 5, 1) := by decide +kernel
theorem dX1_init_62 : decode cX1_init 62 = .ok (.newarray .int, 2) := by decide +kernel
theorem dX1_init_64 : decode cX1_init 64 = .ok (.putfield 34, 3) := by decide +kernel
theorem dX1_init_67 : decode cX1_init 67 = .ok (.aload_n 0, 1) := by decide +kernel
theorem dX1_init_68 : decode cX1_init 68 = .ok (.iconst 5, 1) := by decide +kernel
theorem dX1_init_69 : decode cX1_init 69 = .ok (.newarray .int, 2) := by decide +kernel
theorem dX1_init_71 : decode cX1_init 71 = .ok (.putfield 37, 3) := by decide +kernel
theorem dX1_init_74 : decode cX1_init 74 = .ok (.aload_n 0, 1) := by decide +kernel
theorem dX1_init_75 : decode cX1_init 75 = .ok (.bipush 12, 2) := by decide +kernel
theorem dX1_init_77 : decode cX1_init 77 = .ok (.newarray .int, 2) := by decide +kernel
theorem dX1_init_79 : decode cX1_init 79 = .ok (.putfield 40, 3) := by decide +kernel
theorem dX1_init_82 : decode cX1_init 82 = .ok (.aload_n 0, 1) := by decide +kernel
theorem dX1_init_83 : decode cX1_init 83 = .ok (.iconst 3, 1) := by decide +kernel
theorem dX1_init_84 : decode cX1_init 84 = .ok (.newarray .int, 2) := by decide +kernel
theorem dX1_init_86 : decode cX1_init 86 = .ok (.putfield 43, 3) := by decide +kernel
theorem dX1_init_89 : decode cX1_init 89 = .ok (.aload_n 0, 1) := by decide +kernel
theorem dX1_init_90 : decode cX1_init 90 = .ok (.getfield 43, 3) := by decide +kernel
theorem dX1_init_93 : decode cX1_init 93 = .ok (.iconst 0, 1) := by decide +kernel
theorem dX1_init_94 : decode cX1_init 94 = .ok (.iconst 3, 1) := by decide +kernel
theorem dX1_init_95 : decode cX1_init 95 = .ok (.iastore, 1) := by decide +kernel
theorem dX1_init_96 : decode cX1_init 96 = .ok (.aload_n 0, 1) := by decide +kernel
theorem dX1_init_97 : decode cX1_init 97 = .ok (.getfield 43, 3) := by decide +kernel
theorem dX1_init_100 : decode cX1_init 100 = .ok (.iconst 1, 1) := by decide +kernel
theorem dX1_init_101 : decode cX1_init 101 = .ok (.bipush 10, 2) := by decide +kernel
theorem dX1_init_103 : decode cX1_init 103 = .ok (.iastore, 1) := by decide +kernel
theorem dX1_init_104 : decode cX1_init 104 = .ok (.aload_n 0, 1) := by decide +kernel
theorem dX1_init_105 : decode cX1_init 105 = .ok (.bipush 39, 2) := by decide +kernel
theorem dX1_init_107 : decode cX1_init 107 = .ok (.putfield 46, 3) := by decide +kernel
theorem dX1_init_110 : decode cX1_init 110 = .ok (.iconst 0, 1) := by decide +kernel
theorem dX1_init_111 : decode cX1_init 111 = .ok (.istore_n 1, 1) := by decide +kernel
theorem dX1_init_112 : decode cX1_init 112 = .ok (.iload_n 1, 1) := by decide +kernel
theorem dX1_init_113 : decode cX1_init 113 = .ok (.bipush 40, 2) := by decide +kernel
theorem dX1_init_115 : decode cX1_init 115 = .ok (.if_icmp .ge 17, 3) := by decide +kernel
theorem dX1_init_118 : decode cX1_init 118 = .ok (.aload_n 0, 1) := by decide +kernel
theorem dX1_init_119 : decode cX1_init 119 = .ok (.getfield 19, 3) := by decide +kernel
theorem dX1_init_122 : decode cX1_init 122 = .ok (.iload_n 1, 1) := by decide +kernel
theorem dX1_init_123 : decode cX1_init 123 = .ok (.bipush (-5), 2) := by decide +kernel
theorem dX1_init_125 : decode cX1_init 125 = .ok (.iastore, 1) := by decide +kernel
theorem dX1_init_126 : decode cX1_init 126 = .ok (.iinc 1 1, 3) := by decide +kernel
theorem dX1_init_129 : decode cX1_init 129 = .ok (.goto (-17), 3) := by decide +kernel
theorem dX1_init_132 : decode cX1_init 132 = .ok (.iconst 0, 1) := by decide +kernel
theorem dX1_init_133 : decode cX1_init 133 = .ok (.istore_n 1, 1) := by decide +kernel
theorem dX1_init_134 : decode cX1_init 134 = .ok (.iload_n 1, 1) := by decide +kernel
theorem dX1_init_135 : decode cX1_init 135 = .ok (.bipush 50, 2) := by decide +kernel
theorem dX1_init_137 : decode cX1_init 137 = .ok (.if_icmp .ge 17, 3) := by decide +kernel
theorem dX1_init_140 : decode cX1_init 140 = .ok (.aload_n 0, 1) := by decide +kernel
theorem dX1_init_141 : decode cX1_init 141 = .ok (.getfield 22, 3) := by decide +kernel
theorem dX1_init_144 : decode cX1_init 144 = .ok (.iload_n 1, 1) := by decide +kernel
theorem dX1_init_145 : decode cX1_init 145 = .ok (.bipush (-5), 2) := by decide +kernel
theorem dX1_init_147 : decode cX1_init 147 = .ok (.iastore, 1) := by decide +kernel
theorem dX1_init_148 : decode cX1_init 148 = .ok (.iinc 1 1, 3) := by decide +kernel
theorem dX1_init_151 : decode cX1_init 151 = .ok (.goto (-17), 3) := by decide +kernel
theorem dX1_init_154 : decode cX1_init 154 = .ok (.return_, 1) := by decide +kernel
theorem dX3_init_0 : decode cX3_init 0 = .ok (.aload_n 0, 1) := by decide +kernel
theorem dX3_init_1 : decode cX3_init 1 = .ok (.invokespecial 3, 3) := by decide +kernel
theorem dX3_init_4 : decode cX3_init 4 = .ok (.aload_n 0, 1) := by decide +kernel
theorem dX3_init_5 : decode cX3_init 5 = .ok (.bipush 60, 2) := by decide +kernel
theorem dX3_init_7 : decode cX3_init 7 = .ok (.newarray .char, 2) := by decide +kernel
theorem dX3_init_9 : decode cX3_init 9 = .ok (.putfield 9, 3) := by decide +kernel
theorem dX3_init_12 : decode cX3_init 12 = .ok (.aload_n 0, 1) := by decide +kernel
theorem dX3_init_13 : decode cX3_init 13 = .ok (.iconst 0, 1) := by decide +kernel
theorem dX3_init_14 : decode cX3_init 14 = .ok (.putfield 15, 3) := by decide +kernel
theorem dX3_init_17 : decode cX3_init 17 = .ok (.return_, 1) := by decide +kernel
theorem dX2_init_0 : decode cX2_init 0 = .ok (.aload_n 0, 1) := by decide +kernel
theorem dX2_init_1 : decode cX2_init 1 = .ok (.invokespecial 3, 3) := by decide +kernel
theorem dX2_init_4 : decode cX2_init 4 = .ok (.aload_n 0, 1) := by decide +kernel
theorem dX2_init_5 : decode cX2_init 5 = .ok (.aload_n 1, 1) := by decide +kernel
theorem dX2_init_6 : decode cX2_init 6 = .ok (.putfield 9, 3) := by decide +kernel
theorem dX2_init_9 : decode cX2_init 9 = .ok (.aload_n 0, 1) := by decide +kernel
theorem dX2_init_10 : decode cX2_init 10 = .ok (.bipush 30, 2) := by decide +kernel
theorem dX2_init_12 : decode cX2_init 12 = .ok (.newarray .char, 2) := by decide +kernel
theorem dX2_init_14 : decode cX2_init 14 = .ok (.putfield 15, 3) := by decide +kernel
theorem dX2_init_17 : decode cX2_init 17 = .ok (.aload_n 0, 1) := by decide +kernel
theorem dX2_init_18 : decode cX2_init 18 = .ok (.bipush 30, 2) := by decide +kernel
theorem dX2_init_20 : decode cX2_init 20 = .ok (.newarray .int, 2) := by decide +kernel
theorem dX2_init_22 : decode cX2_init 22 = .ok (.putfield 19, 3) := by decide +kernel
theorem dX2_init_25 : decode cX2_init 25 = .ok (.aload_n 0, 1) := by decide +kernel
theorem dX2_init_26 : decode cX2_init 26 = .ok (.bipush 30, 2) := by decide +kernel
theorem dX2_init_28 : decode cX2_init 28 = .ok (.newarray .int, 2) := by decide +kernel
theorem dX2_init_30 : decode cX2_init 30 = .ok (.putfield 23, 3) := by decide +kernel
theorem dX2_init_33 : decode cX2_init 33 = .ok (.aload_n 0, 1) := by decide +kernel
theorem dX2_init_34 : decode cX2_init 34 = .ok (.iconst 0, 1) := by decide +kernel
theorem dX2_init_35 : decode cX2_init 35 = .ok (.putfield 26, 3) := by decide +kernel
theorem dX2_init_38 : decode cX2_init 38 = .ok (.aload_n 0, 1) := by decide +kernel
theorem dX2_init_39 : decode cX2_init 39 = .ok (.iconst 0, 1) := by decide +kernel
theorem dX2_init_40 : decode cX2_init 40 = .ok (.putfield 30, 3) := by decide +kernel
theorem dX2_init_43 : decode cX2_init 43 = .ok (.return_, 1) := by decide +kernel
theorem dX0_init_0 : decode cX0_init 0 = .ok (.aload_n 0, 1) := by decide +kernel
theorem dX0_init_1 : decode cX0_init 1 = .ok (.invokespecial 3, 3) := by decide +kernel
theorem dX0_init_4 : decode cX0_init 4 = .ok (.aload_n 0, 1) := by decide +kernel
theorem dX0_init_5 : decode cX0_init 5 = .ok (.iconst 4, 1) := by decide +kernel
theorem dX0_init_6 : decode cX0_init 6 = .ok (.anewarray 9, 3) := by decide +kernel
theorem dX0_init_9 : decode cX0_init 9 = .ok (.putfield 11, 3) := by decide +kernel
theorem dX0_init_12 : decode cX0_init 12 = .ok (.iconst 0, 1) := by decide +kernel
theorem dX0_init_13 : decode cX0_init 13 = .ok (.istore_n 1, 1) := by decide +kernel
theorem dX0_init_14 : decode cX0_init 14 = .ok (.iload_n 1, 1) := by decide +kernel
theorem dX0_init_15 : decode cX0_init 15 = .ok (.iconst 4, 1) := by decide +kernel
theorem dX0_init_16 : decode cX0_init 16 = .ok (.if_icmp .ge 22, 3) := by decide +kernel
theorem dX0_init_19 : decode cX0_init 19 = .ok (.aload_n 0, 1) := by decide +kernel
theorem dX0_init_20 : decode cX0_init 20 = .ok (.getfield 11, 3) := by decide +kernel
theorem dX0_init_23 : decode cX0_init 23 = .ok (.iload_n 1, 1) := by decide +kernel
theorem dX0_init_24 : decode cX0_init 24 = .ok (.new 9, 3) := by decide +kernel
theorem dX0_init_27 : decode cX0_init 27 = .ok (.dup, 1) := by decide +kernel
theorem dX0_init_28 : decode cX0_init 28 = .ok (.invokespecial 17, 3) := by decide +kernel
theorem dX0_init_31 : decode cX0_init 31 = .ok (.aastore, 1) := by decide +kernel
theorem dX0_init_32 : decode cX0_init 32 = .ok (.iinc 1 1, 3) := by decide +kernel
theorem dX0_init_35 : decode cX0_init 35 = .ok (.goto (-21), 3) := by decide +kernel
theorem dX0_init_38 : decode cX0_init 38 = .ok (.aload_n 0, 1) := by decide +kernel
theorem dX0_init_39 : decode cX0_init 39 = .ok (.iconst 0, 1) := by decide +kernel
theorem dX0_init_40 : decode cX0_init 40 = .ok (.putfield 18, 3) := by decide +kernel
theorem dX0_init_43 : decode cX0_init 43 = .ok (.aload_n 0, 1) := by decide +kernel
theorem dX0_init_44 : decode cX0_init 44 = .ok (.iconst 0, 1) := by decide +kernel
theorem dX0_init_45 : decode cX0_init 45 = .ok (.putfield 22, 3) := by decide +kernel
theorem dX0_init_48 : decode cX0_init 48 = .ok (.return_, 1) := by decide +kernel
theorem dX4_init_0 : decode cX4_init 0 = .ok (.aload_n 0, 1) := by decide +kernel
theorem dX4_init_1 : decode cX4_init 1 = .ok (.invokespecial 3, 3) := by decide +kernel
theorem dX4_init_4 : decode cX4_init 4 = .ok (.aload_n 0, 1) := by decide +kernel
theorem dX4_init_5 : decode cX4_init 5 = .ok (.new 9, 3) := by decide +kernel
theorem dX4_init_8 : decode cX4_init 8 = .ok (.dup, 1) := by decide +kernel
theorem dX4_init_9 : decode cX4_init 9 = .ok (.invokespecial 11, 3) := by decide +kernel
theorem dX4_init_12 : decode cX4_init 12 = .ok (.putfield 12, 3) := by decide +kernel
theorem dX4_init_15 : decode cX4_init 15 = .ok (.aload_n 0, 1) := by decide +kernel
theorem dX4_init_16 : decode cX4_init 16 = .ok (.new 9, 3) := by decide +kernel
theorem dX4_init_19 : decode cX4_init 19 = .ok (.dup, 1) := by decide +kernel
theorem dX4_init_20 : decode cX4_init 20 = .ok (.invokespecial 11, 3) := by decide +kernel
theorem dX4_init_23 : decode cX4_init 23 = .ok (.putfield 16, 3) := by decide +kernel
theorem dX4_init_26 : decode cX4_init 26 = .ok (.aload_n 0, 1) := by decide +kernel
theorem dX4_init_27 : decode cX4_init 27 = .ok (.new 9, 3) := by decide +kernel
theorem dX4_init_30 : decode cX4_init 30 = .ok (.dup, 1) := by decide +kernel
theorem dX4_init_31 : decode cX4_init 31 = .ok (.invokespecial 11, 3) := by decide +kernel
theorem dX4_init_34 : decode cX4_init 34 = .ok (.putfield 19, 3) := by decide +kernel
theorem dX4_init_37 : decode cX4_init 37 = .ok (.aload_n 0, 1) := by decide +kernel
theorem dX4_init_38 : decode cX4_init 38 = .ok (.iconst 0, 1) := by decide +kernel
theorem dX4_init_39 : decode cX4_init 39 = .ok (.putfield 22, 3) := by decide +kernel
theorem dX4_init_42 : decode cX4_init 42 = .ok (.aload_n 0, 1) := by decide +kernel
theorem dX4_init_43 : decode cX4_init 43 = .ok (.new 26, 3) := by decide +kernel
theorem dX4_init_46 : decode cX4_init 46 = .ok (.dup, 1) := by decide +kernel
theorem dX4_init_47 : decode cX4_init 47 = .ok (.invokespecial 28, 3) := by decide +kernel
theorem dX4_init_50 : decode cX4_init 50 = .ok (.putfield 29, 3) := by decide +kernel
theorem dX4_init_53 : decode cX4_init 53 = .ok (.aload_n 0, 1) := by decide +kernel
theorem dX4_init_54 : decode cX4_init 54 = .ok (.new 33, 3) := by decide +kernel
theorem dX4_init_57 : decode cX4_init 57 = .ok (.dup, 1) := by decide +kernel
theorem dX4_init_58 : decode cX4_init 58 = .ok (.invokespecial 35, 3) := by decide +kernel
theorem dX4_init_61 : decode cX4_init 61 = .ok (.putfield 36, 3) := by decide +kernel
theorem dX4_init_64 : decode cX4_init 64 = .ok (.aload_n 0, 1) := by decide +kernel
theorem dX4_init_65 : decode cX4_init 65 = .ok (.new 40, 3) := by decide +kernel
theorem dX4_init_68 : decode cX4_init 68 = .ok (.dup, 1) := by decide +kernel
theorem dX4_init_69 : decode cX4_init 69 = .ok (.aload_n 0, 1) := by decide +kernel
theorem dX4_init_70 : decode cX4_init 70 = .ok (.getfield 36, 3) := by decide +kernel
theorem dX4_init_73 : decode cX4_init 73 = .ok (.invokespecial 42, 3) := by decide +kernel
theorem dX4_init_76 : decode cX4_init 76 = .ok (.putfield 45, 3) := by decide +kernel
theorem dX4_init_79 : decode cX4_init 79 = .ok (.aload_n 0, 1) := by decide +kernel
theorem dX4_init_80 : decode cX4_init 80 = .ok (.bipush (-5), 2) := by decide +kernel
theorem dX4_init_82 : decode cX4_init 82 = .ok (.putfield 49, 3) := by decide +kernel
theorem dX4_init_85 : decode cX4_init 85 = .ok (.aload_n 0, 1) := by decide +kernel
theorem dX4_init_86 : decode cX4_init 86 = .ok (.bipush (-5), 2) := by decide +kernel
theorem dX4_init_88 : decode cX4_init 88 = .ok (.putfield 53, 3) := by decide +kernel
theorem dX4_init_91 : decode cX4_init 91 = .ok (.return_, 1) := by decide +kernel
theorem c_X1_init (V : EV) (a : Nat) (l : Launch) (sz : Nat) : cMet V l yX1_init cX1_init 2 { frames := 1, cells := 11, slots := 345, locals := 20 } a [] [(a, .inr (1, [.null, .null, .null, .null, .null, .null, .null, .null, .null, .null, .int 0, .null, .int 0, .int 0, .int 0, .int 0, .int 0]))] sz (fun w1 => ∃ q, w1 = memW V a q) 11 345 := by
  refine met_n V (own := RX1) (by decide +kernel) rfl rfl (fun v hv => by
    simp at hv
    rw [hv]; rfl) (Nat.le_of_ble_eq_true rfl) (fun X C hname D => ?_) l sz
  show GC V X [(a, .inr (1, [.null, .null, .null, .null, .null, .null, .null, .null, .null, .null, .int 0, .null, .int 0, .int 0, .int 0, .int 0, .int 0]))] 0 0 0 [some (.ref a), none] []
  refine n_aload_n C dX1_init_0 rfl rfl rfl ?_
  refine n_obj C dX1_init_1 ml_RX1_3 (by decide) rfl rfl rfl ?_
  refine n_aload_n C dX1_init_4 rfl rfl rfl ?_
  refine n_bipush C (v := 40) dX1_init_5 (by decide) rfl ?_
  refine n_newa_boolean C (N' := 40) dX1_init_7 ac_boolean (by decide) (by decide) (by decide) (Nat.le_of_ble_eq_true rfl) (Nat.le_of_ble_eq_true rfl) rfl (fun q1 => ?_)
  refine n_putF C hname dX1_init_9 tyX1 (q0 := 0) (j := 0) (T := TX1) (N := 17) (Cn := RX1) (ref := RX1) (ws' := [(a, .inr (1, [.ref q1, .null, .null, .null, .null, .null, .null, .null, .null, .null, .int 0, .null, .int 0, .int 0, .int 0, .int 0, .int 0])), (q1, .inl (V.2.1.2.1, 40, .inl (fun _ => 0)))]) rfl rfl (by decide) fl_RX1_9 inlX1 tyX1_ok nmX1 rfl rfl rfl (tyX1_ok 0 (by decide)) rfl rfl (by show 0 < 17; decide) rfl rfl ?_
  refine n_aload_n C dX1_init_12 rfl rfl rfl ?_
  refine n_bipush C (v := 40) dX1_init_13 (by decide) rfl ?_
  refine n_newa_int C (N' := 40) dX1_init_15 ac_int (by decide) (by decide) (by decide) (Nat.le_of_ble_eq_true rfl) (Nat.le_of_ble_eq_true rfl) rfl (fun q2 => ?_)
  refine n_putF C hname dX1_init_17 tyX1 (q0 := 0) (j := 1) (T := TX1) (N := 17) (Cn := RX1) (ref := RX1) (ws' := [(a, .inr (1, [.ref q1, .ref q2, .null, .null, .null, .null, .null, .null, .null, .null, .int 0, .null, .int 0, .int 0, .int 0, .int 0, .int 0])), (q1, .inl (V.2.1.2.1, 40, .inl (fun _ => 0))), (q2, .inl (V.2.1.1, 40, .inl (fun _ => 0)))]) rfl rfl (by decide) fl_RX1_15 inlX1 tyX1_ok nmX1 rfl rfl rfl (tyX1_ok 1 (by decide)) rfl rfl (by show 1 < 17; decide) rfl rfl ?_
  refine n_aload_n C dX1_init_20 rfl rfl rfl ?_
  refine n_bipush C (v := 40) dX1_init_21 (by decide) rfl ?_
  refine n_newa_int C (N' := 40) dX1_init_23 ac_int (by decide) (by decide) (by decide) (Nat.le_of_ble_eq_true rfl) (Nat.le_of_ble_eq_true rfl) rfl (fun q3 => ?_)
  refine n_putF C hname dX1_init_25 tyX1 (q0 := 0) (j := 2) (T := TX1) (N := 17) (Cn := RX1) (ref := RX1) (ws' := [(a, .inr (1, [.ref q1, .ref q2, .ref q3, .null, .null, .null, .null, .null, .null, .null, .int 0, .null, .int 0, .int 0, .int 0, .int 0, .int 0])), (q1, .inl (V.2.1.2.1, 40, .inl (fun _ => 0))), (q2, .inl (V.2.1.1, 40, .inl (fun _ => 0))), (q3, .inl (V.2.1.1, 40, .inl (fun _ => 0)))]) rfl rfl (by decide) fl_RX1_19 inlX1 tyX1_ok nmX1 rfl rfl rfl (tyX1_ok 2 (by decide)) rfl rfl (by show 2 < 17; decide) rfl rfl ?_
  refine n_aload_n C dX1_init_28 rfl rfl rfl ?_
  refine n_bipush C (v := 50) dX1_init_29 (by decide) rfl ?_
  refine n_newa_int C (N' := 50) dX1_init_31 ac_int (by decide) (by decide) (by decide) (Nat.le_of_ble_eq_true rfl) (Nat.le_of_ble_eq_true rfl) rfl (fun q4 => ?_)
  refine n_putF C hname dX1_init_33 tyX1 (q0 := 0) (j := 3) (T := TX1) (N := 17) (Cn := RX1) (ref := RX1) (ws' := [(a, .inr (1, [.ref q1, .ref q2, .ref q3, .ref q4, .null, .null, .null, .null, .null, .null, .int 0, .null, .int 0, .int 0, .int 0, .int 0, .int 0])), (q1, .inl (V.2.1.2.1, 40, .inl (fun _ => 0))), (q2, .inl (V.2.1.1, 40, .inl (fun _ => 0))), (q3, .inl (V.2.1.1, 40, .inl (fun _ => 0))), (q4, .inl (V.2.1.1, 50, .inl (fun _ => 0)))]) rfl rfl (by decide) fl_RX1_22 inlX1 tyX1_ok nmX1 rfl rfl rfl (tyX1_ok 3 (by decide)) rfl rfl (by show 3 < 17; decide) rfl rfl ?_
  refine n_aload_n C dX1_init_36 rfl rfl rfl ?_
  refine n_bipush C (v := 50) dX1_init_37 (by decide) rfl ?_
  refine n_newa_int C (N' := 50) dX1_init_39 ac_int (by decide) (by decide) (by decide) (Nat.le_of_ble_eq_true rfl) (Nat.le_of_ble_eq_true rfl) rfl (fun q5 => ?_)
  refine n_putF C hname dX1_init_41 tyX1 (q0 := 0) (j := 4) (T := TX1) (N := 17) (Cn := RX1) (ref := RX1) (ws' := [(a, .inr (1, [.ref q1, .ref q2, .ref q3, .ref q4, .ref q5, .null, .null, .null, .null, .null, .int 0, .null, .int 0, .int 0, .int 0, .int 0, .int 0])), (q1, .inl (V.2.1.2.1, 40, .inl (fun _ => 0))), (q2, .inl (V.2.1.1, 40, .inl (fun _ => 0))), (q3, .inl (V.2.1.1, 40, .inl (fun _ => 0))), (q4, .inl (V.2.1.1, 50, .inl (fun _ => 0))), (q5, .inl (V.2.1.1, 50, .inl (fun _ => 0)))]) rfl rfl (by decide) fl_RX1_25 inlX1 tyX1_ok nmX1 rfl rfl rfl (tyX1_ok 4 (by decide)) rfl rfl (by show 4 < 17; decide) rfl rfl ?_
  refine n_aload_n C dX1_init_44 rfl rfl rfl ?_
  refine n_bipush C (v := 50) dX1_init_45 (by decide) rfl ?_
  refine n_newa_boolean C (N' := 50) dX1_init_47 ac_boolean (by decide) (by decide) (by decide) (Nat.le_of_ble_eq_true rfl) (Nat.le_of_ble_eq_true rfl) rfl (fun q6 => ?_)
  refine n_putF C hname dX1_init_49 tyX1 (q0 := 0) (j := 5) (T := TX1) (N := 17) (Cn := RX1) (ref := RX1) (ws' := [(a, .inr (1, [.ref q1, .ref q2, .ref q3, .ref q4, .ref q5, .ref q6, .null, .null, .null, .null, .int 0, .null, .int 0, .int 0, .int 0, .int 0, .int 0])), (q1, .inl (V.2.1.2.1, 40, .inl (fun _ => 0))), (q2, .inl (V.2.1.1, 40, .inl (fun _ => 0))), (q3, .inl (V.2.1.1, 40, .inl (fun _ => 0))), (q4, .inl (V.2.1.1, 50, .inl (fun _ => 0))), (q5, .inl (V.2.1.1, 50, .inl (fun _ => 0))), (q6, .inl (V.2.1.2.1, 50, .inl (fun _ => 0)))]) rfl rfl (by decide) fl_RX1_28 inlX1 tyX1_ok nmX1 rfl rfl rfl (tyX1_ok 5 (by decide)) rfl rfl (by show 5 < 17; decide) rfl rfl ?_
  refine n_aload_n C dX1_init_52 rfl rfl rfl ?_
  refine n_bipush C (v := 50) dX1_init_53 (by decide) rfl ?_
  refine n_newa_int C (N' := 50) dX1_init_55 ac_int (by decide) (by decide) (by decide) (Nat.le_of_ble_eq_true rfl) (Nat.le_of_ble_eq_true rfl) rfl (fun q7 => ?_)
  refine n_putF C hname dX1_init_57 tyX1 (q0 := 0) (j := 6) (T := TX1) (N := 17) (Cn := RX1) (ref := RX1) (ws' := [(a, .inr (1, [.ref q1, .ref q2, .ref q3, .ref q4, .ref q5, .ref q6, .ref q7, .null, .null, .null, .int 0, .null, .int 0, .int 0, .int 0, .int 0, .int 0])), (q1, .inl (V.2.1.2.1, 40, .inl (fun _ => 0))), (q2, .inl (V.2.1.1, 40, .inl (fun _ => 0))), (q3, .inl (V.2.1.1, 40, .inl (fun _ => 0))), (q4, .inl (V.2.1.1, 50, .inl (fun _ => 0))), (q5, .inl (V.2.1.1, 50, .inl (fun _ => 0))), (q6, .inl (V.2.1.2.1, 50, .inl (fun _ => 0))), (q7, .inl (V.2.1.1, 50, .inl (fun _ => 0)))]) rfl rfl (by decide) fl_RX1_31 inlX1 tyX1_ok nmX1 rfl rfl rfl (tyX1_ok 6 (by decide)) rfl rfl (by show 6 < 17; decide) rfl rfl ?_
  refine n_aload_n C dX1_init_60 rfl rfl rfl ?_
  refine n_iconst C (v := 5) dX1_init_61 (by decide) rfl ?_
  refine n_newa_int C (N' := 5) dX1_init_62 ac_int (by decide) (by decide) (by decide) (Nat.le_of_ble_eq_true rfl) (Nat.le_of_ble_eq_true rfl) rfl (fun q8 => ?_)
  refine n_putF C hname dX1_init_64 tyX1 (q0 := 0) (j := 7) (T := TX1) (N := 17) (Cn := RX1) (ref := RX1) (ws' := [(a, .inr (1, [.ref q1, .ref q2, .ref q3, .ref q4, .ref q5, .ref q6, .ref q7, .ref q8, .null, .null, .int 0, .null, .int 0, .int 0, .int 0, .int 0, .int 0])), (q1, .inl (V.2.1.2.1, 40, .inl (fun _ => 0))), (q2, .inl (V.2.1.1, 40, .inl (fun _ => 0))), (q3, .inl (V.2.1.1, 40, .inl (fun _ => 0))), (q4, .inl (V.2.1.1, 50, .inl (fun _ => 0))), (q5, .inl (V.2.1.1, 50, .inl (fun _ => 0))), (q6, .inl (V.2.1.2.1, 50, .inl (fun _ => 0))), (q7, .inl (V.2.1.1, 50, .inl (fun _ => 0))), (q8, .inl (V.2.1.1, 5, .inl (fun _ => 0)))]) rfl rfl (by decide) fl_RX1_34 inlX1 tyX1_ok nmX1 rfl rfl rfl (tyX1_ok 7 (by decide)) rfl rfl (by show 7 < 17; decide) rfl rfl ?_
  refine n_aload_n C dX1_init_67 rfl rfl rfl ?_
  refine n_iconst C (v := 5) dX1_init_68 (by decide) rfl ?_
  refine n_newa_int C (N' := 5) dX1_init_69 ac_int (by decide) (by decide) (by decide) (Nat.le_of_ble_eq_true rfl) (Nat.le_of_ble_eq_true rfl) rfl (fun q9 => ?_)
  refine n_putF C hname dX1_init_71 tyX1 (q0 := 0) (j := 8) (T := TX1) (N := 17) (Cn := RX1) (ref := RX1) (ws' := [(a, .inr (1, [.ref q1, .ref q2, .ref q3, .ref q4, .ref q5, .ref q6, .ref q7, .ref q8, .ref q9, .null, .int 0, .null, .int 0, .int 0, .int 0, .int 0, .int 0])), (q1, .inl (V.2.1.2.1, 40, .inl (fun _ => 0))), (q2, .inl (V.2.1.1, 40, .inl (fun _ => 0))), (q3, .inl (V.2.1.1, 40, .inl (fun _ => 0))), (q4, .inl (V.2.1.1, 50, .inl (fun _ => 0))), (q5, .inl (V.2.1.1, 50, .inl (fun _ => 0))), (q6, .inl (V.2.1.2.1, 50, .inl (fun _ => 0))), (q7, .inl (V.2.1.1, 50, .inl (fun _ => 0))), (q8, .inl (V.2.1.1, 5, .inl (fun _ => 0))), (q9, .inl (V.2.1.1, 5, .inl (fun _ => 0)))]) rfl rfl (by decide) fl_RX1_37 inlX1 tyX1_ok nmX1 rfl rfl rfl (tyX1_ok 8 (by decide)) rfl rfl (by show 8 < 17; decide) rfl rfl ?_
  refine n_aload_n C dX1_init_74 rfl rfl rfl ?_
  refine n_bipush C (v := 12) dX1_init_75 (by decide) rfl ?_
  refine n_newa_int C (N' := 12) dX1_init_77 ac_int (by decide) (by decide) (by decide) (Nat.le_of_ble_eq_true rfl) (Nat.le_of_ble_eq_true rfl) rfl (fun q10 => ?_)
  refine n_putF C hname dX1_init_79 tyX1 (q0 := 0) (j := 9) (T := TX1) (N := 17) (Cn := RX1) (ref := RX1) (ws' := [(a, .inr (1, [.ref q1, .ref q2, .ref q3, .ref q4, .ref q5, .ref q6, .ref q7, .ref q8, .ref q9, .ref q10, .int 0, .null, .int 0, .int 0, .int 0, .int 0, .int 0])), (q1, .inl (V.2.1.2.1, 40, .inl (fun _ => 0))), (q2, .inl (V.2.1.1, 40, .inl (fun _ => 0))), (q3, .inl (V.2.1.1, 40, .inl (fun _ => 0))), (q4, .inl (V.2.1.1, 50, .inl (fun _ => 0))), (q5, .inl (V.2.1.1, 50, .inl (fun _ => 0))), (q6, .inl (V.2.1.2.1, 50, .inl (fun _ => 0))), (q7, .inl (V.2.1.1, 50, .inl (fun _ => 0))), (q8, .inl (V.2.1.1, 5, .inl (fun _ => 0))), (q9, .inl (V.2.1.1, 5, .inl (fun _ => 0))), (q10, .inl (V.2.1.1, 12, .inl (fun _ => 0)))]) rfl rfl (by decide) fl_RX1_40 inlX1 tyX1_ok nmX1 rfl rfl rfl (tyX1_ok 9 (by decide)) rfl rfl (by show 9 < 17; decide) rfl rfl ?_
  refine n_aload_n C dX1_init_82 rfl rfl rfl ?_
  refine n_iconst C (v := 3) dX1_init_83 (by decide) rfl ?_
  refine n_newa_int C (N' := 3) dX1_init_84 ac_int (by decide) (by decide) (by decide) (Nat.le_of_ble_eq_true rfl) (Nat.le_of_ble_eq_true rfl) rfl (fun q11 => ?_)
  refine n_putF C hname dX1_init_86 tyX1 (q0 := 0) (j := 11) (T := TX1) (N := 17) (Cn := RX1) (ref := RX1) (ws' := [(a, .inr (1, [.ref q1, .ref q2, .ref q3, .ref q4, .ref q5, .ref q6, .ref q7, .ref q8, .ref q9, .ref q10, .int 0, .ref q11, .int 0, .int 0, .int 0, .int 0, .int 0])), (q1, .inl (V.2.1.2.1, 40, .inl (fun _ => 0))), (q2, .inl (V.2.1.1, 40, .inl (fun _ => 0))), (q3, .inl (V.2.1.1, 40, .inl (fun _ => 0))), (q4, .inl (V.2.1.1, 50, .inl (fun _ => 0))), (q5, .inl (V.2.1.1, 50, .inl (fun _ => 0))), (q6, .inl (V.2.1.2.1, 50, .inl (fun _ => 0))), (q7, .inl (V.2.1.1, 50, .inl (fun _ => 0))), (q8, .inl (V.2.1.1, 5, .inl (fun _ => 0))), (q9, .inl (V.2.1.1, 5, .inl (fun _ => 0))), (q10, .inl (V.2.1.1, 12, .inl (fun _ => 0))), (q11, .inl (V.2.1.1, 3, .inl (fun _ => 0)))]) rfl rfl (by decide) fl_RX1_43 inlX1 tyX1_ok nmX1 rfl rfl rfl (tyX1_ok 11 (by decide)) rfl rfl (by show 11 < 17; decide) rfl rfl ?_
  refine n_aload_n C dX1_init_89 rfl rfl rfl ?_
  refine n_get C dX1_init_90 (q0 := 0) (j := 11) (T := TX1) (N := 17) (Cn := RX1) (ref := RX1) rfl rfl (by decide) fl_RX1_43 inlX1 rfl rfl rfl ?_
  refine n_iconst C (v := 0) dX1_init_93 (by decide) rfl ?_
  refine n_iconst C (v := 3) dX1_init_94 (by decide) rfl ?_
  refine n_iast C dX1_init_95 (q0 := 11) (ws' := [(a, .inr (1, [.ref q1, .ref q2, .ref q3, .ref q4, .ref q5, .ref q6, .ref q7, .ref q8, .ref q9, .ref q10, .int 0, .ref q11, .int 0, .int 0, .int 0, .int 0, .int 0])), (q1, .inl (V.2.1.2.1, 40, .inl (fun _ => 0))), (q2, .inl (V.2.1.1, 40, .inl (fun _ => 0))), (q3, .inl (V.2.1.1, 40, .inl (fun _ => 0))), (q4, .inl (V.2.1.1, 50, .inl (fun _ => 0))), (q5, .inl (V.2.1.1, 50, .inl (fun _ => 0))), (q6, .inl (V.2.1.2.1, 50, .inl (fun _ => 0))), (q7, .inl (V.2.1.1, 50, .inl (fun _ => 0))), (q8, .inl (V.2.1.1, 5, .inl (fun _ => 0))), (q9, .inl (V.2.1.1, 5, .inl (fun _ => 0))), (q10, .inl (V.2.1.1, 12, .inl (fun _ => 0))), (q11, .inl (V.2.1.1, 3, .inl (upd (fun _ => 0) 0 3)))]) rfl (by unfold vp_in; decide) (by rw [show (0 : Int32).toNatClampNeg = 0 from by decide]; rfl) rfl ?_
  refine n_aload_n C dX1_init_96 rfl rfl rfl ?_
  refine n_get C dX1_init_97 (q0 := 0) (j := 11) (T := TX1) (N := 17) (Cn := RX1) (ref := RX1) rfl rfl (by decide) fl_RX1_43 inlX1 rfl rfl rfl ?_
  refine n_iconst C (v := 1) dX1_init_100 (by decide) rfl ?_
  refine n_bipush C (v := 10) dX1_init_101 (by decide) rfl ?_
  refine n_iast C dX1_init_103 (q0 := 11) (ws' := [(a, .inr (1, [.ref q1, .ref q2, .ref q3, .ref q4, .ref q5, .ref q6, .ref q7, .ref q8, .ref q9, .ref q10, .int 0, .ref q11, .int 0, .int 0, .int 0, .int 0, .int 0])), (q1, .inl (V.2.1.2.1, 40, .inl (fun _ => 0))), (q2, .inl (V.2.1.1, 40, .inl (fun _ => 0))), (q3, .inl (V.2.1.1, 40, .inl (fun _ => 0))), (q4, .inl (V.2.1.1, 50, .inl (fun _ => 0))), (q5, .inl (V.2.1.1, 50, .inl (fun _ => 0))), (q6, .inl (V.2.1.2.1, 50, .inl (fun _ => 0))), (q7, .inl (V.2.1.1, 50, .inl (fun _ => 0))), (q8, .inl (V.2.1.1, 5, .inl (fun _ => 0))), (q9, .inl (V.2.1.1, 5, .inl (fun _ => 0))), (q10, .inl (V.2.1.1, 12, .inl (fun _ => 0))), (q11, .inl (V.2.1.1, 3, .inl (upd (upd (fun _ => 0) 0 3) 1 10)))]) rfl (by unfold vp_in; decide) (by rw [show (1 : Int32).toNatClampNeg = 1 from by decide]; rfl) rfl ?_
  refine n_aload_n C dX1_init_104 rfl rfl rfl ?_
  refine n_bipush C (v := 39) dX1_init_105 (by decide) rfl ?_
  refine n_put C dX1_init_107 tyX1 (q0 := 0) (j := 13) (T := TX1) (N := 17) (Cn := RX1) (ref := RX1) (ws' := [(a, .inr (1, [.ref q1, .ref q2, .ref q3, .ref q4, .ref q5, .ref q6, .ref q7, .ref q8, .ref q9, .ref q10, .int 0, .ref q11, .int 0, .int 39, .int 0, .int 0, .int 0])), (q1, .inl (V.2.1.2.1, 40, .inl (fun _ => 0))), (q2, .inl (V.2.1.1, 40, .inl (fun _ => 0))), (q3, .inl (V.2.1.1, 40, .inl (fun _ => 0))), (q4, .inl (V.2.1.1, 50, .inl (fun _ => 0))), (q5, .inl (V.2.1.1, 50, .inl (fun _ => 0))), (q6, .inl (V.2.1.2.1, 50, .inl (fun _ => 0))), (q7, .inl (V.2.1.1, 50, .inl (fun _ => 0))), (q8, .inl (V.2.1.1, 5, .inl (fun _ => 0))), (q9, .inl (V.2.1.1, 5, .inl (fun _ => 0))), (q10, .inl (V.2.1.1, 12, .inl (fun _ => 0))), (q11, .inl (V.2.1.1, 3, .inl (upd (upd (fun _ => 0) 0 3) 1 10)))]) rfl rfl (by decide) fl_RX1_46 inlX1 tyX1_ok nmX1 rfl rfl (tyX1_ok 13 (by decide)) rfl rfl (by show 13 < 17; decide) rfl rfl ?_
  have loop2 : ∀ n i, i + n = 50 → GC V X [(a, .inr (1, [.ref q1, .ref q2, .ref q3, .ref q4, .ref q5, .ref q6, .ref q7, .ref q8, .ref q9, .ref q10, .int 0, .ref q11, .int 0, .int 39, .int 0, .int 0, .int 0])), (q1, .inl (V.2.1.2.1, 40, .inl (fun _ => 0))), (q2, .inl (V.2.1.1, 40, .inl (fun _ => 0))), (q3, .inl (V.2.1.1, 40, .inl (fil 40))), (q4, .inl (V.2.1.1, 50, .inl (fil i))), (q5, .inl (V.2.1.1, 50, .inl (fun _ => 0))), (q6, .inl (V.2.1.2.1, 50, .inl (fun _ => 0))), (q7, .inl (V.2.1.1, 50, .inl (fun _ => 0))), (q8, .inl (V.2.1.1, 5, .inl (fun _ => 0))), (q9, .inl (V.2.1.1, 5, .inl (fun _ => 0))), (q10, .inl (V.2.1.1, 12, .inl (fun _ => 0))), (q11, .inl (V.2.1.1, 3, .inl (upd (upd (fun _ => 0) 0 3) 1 10)))] (0 + 1 + 1 + 1 + 1 + 1 + 1 + 1 + 1 + 1 + 1 + 1) (0 + 40 + 40 + 40 + 50 + 50 + 50 + 50 + 5 + 5 + 12 + 3) 134 [some (.ref a), some (.int (nI i))] [] := by
    intro n
    induction n with
    | zero =>
      intro i hi
      have : i = 50 := by omega
      subst this
      refine n_iload_n C dX1_init_134 rfl rfl rfl ?_
      refine n_bipush C (v := 50) dX1_init_135 (by decide) rfl ?_
      refine n_icmp_ge C (tgt := 154) dX1_init_137 (by decide) rfl (fun _ => ?_) (fun q => absurd (Int32.le_refl _) q)
      exact n_vret C dX1_init_154 D rfl rfl ⟨fun j => [a, q1, q2, q3, q4, q5, q6, q7, q8, q9, q10, q11].getD j 0, rfl⟩
    | succ n ih =>
      intro i hi
      refine n_iload_n C dX1_init_134 rfl rfl rfl ?_
      refine n_bipush C (v := 50) dX1_init_135 (by decide) rfl ?_
      refine n_icmp_ge C (tgt := 154) dX1_init_137 (by decide) rfl (fun q => absurd q (nge (n := 50) (by omega) (by decide))) (fun _ => ?_)
      refine n_aload_n C dX1_init_140 rfl rfl rfl ?_
      refine n_get C dX1_init_141 (q0 := 0) (j := 3) (T := TX1) (N := 17) (Cn := RX1) (ref := RX1) rfl rfl (by decide) fl_RX1_22 inlX1 rfl rfl rfl ?_
      refine n_iload_n C dX1_init_144 rfl rfl rfl ?_
      refine n_bipush C (v := -5) dX1_init_145 (by decide) rfl ?_
      refine n_iast C dX1_init_147 (q0 := 4) (ws' := [(a, .inr (1, [.ref q1, .ref q2, .ref q3, .ref q4, .ref q5, .ref q6, .ref q7, .ref q8, .ref q9, .ref q10, .int 0, .ref q11, .int 0, .int 39, .int 0, .int 0, .int 0])), (q1, .inl (V.2.1.2.1, 40, .inl (fun _ => 0))), (q2, .inl (V.2.1.1, 40, .inl (fun _ => 0))), (q3, .inl (V.2.1.1, 40, .inl (fil 40))), (q4, .inl (V.2.1.1, 50, .inl (fil (i + 1)))), (q5, .inl (V.2.1.1, 50, .inl (fun _ => 0))), (q6, .inl (V.2.1.2.1, 50, .inl (fun _ => 0))), (q7, .inl (V.2.1.1, 50, .inl (fun _ => 0))), (q8, .inl (V.2.1.1, 5, .inl (fun _ => 0))), (q9, .inl (V.2.1.1, 5, .inl (fun _ => 0))), (q10, .inl (V.2.1.1, 12, .inl (fun _ => 0))), (q11, .inl (V.2.1.1, 3, .inl (upd (upd (fun _ => 0) 0 3) 1 10)))]) rfl (inI (by omega) (by decide)) (by rw [fil_s (by omega)]; rfl) rfl ?_
      refine n_iinc C dX1_init_148 (nI_1 i) rfl (Nat.le_of_ble_eq_true rfl) rfl rfl ?_
      refine n_goto C (pc' := 134) dX1_init_151 (by decide) ?_
      exact ih (i + 1) (by omega)
  have loop1 : ∀ n i, i + n = 40 → GC V X [(a, .inr (1, [.ref q1, .ref q2, .ref q3, .ref q4, .ref q5, .ref q6, .ref q7, .ref q8, .ref q9, .ref q10, .int 0, .ref q11, .int 0, .int 39, .int 0, .int 0, .int 0])), (q1, .inl (V.2.1.2.1, 40, .inl (fun _ => 0))), (q2, .inl (V.2.1.1, 40, .inl (fun _ => 0))), (q3, .inl (V.2.1.1, 40, .inl (fil i))), (q4, .inl (V.2.1.1, 50, .inl (fil 0))), (q5, .inl (V.2.1.1, 50, .inl (fun _ => 0))), (q6, .inl (V.2.1.2.1, 50, .inl (fun _ => 0))), (q7, .inl (V.2.1.1, 50, .inl (fun _ => 0))), (q8, .inl (V.2.1.1, 5, .inl (fun _ => 0))), (q9, .inl (V.2.1.1, 5, .inl (fun _ => 0))), (q10, .inl (V.2.1.1, 12, .inl (fun _ => 0))), (q11, .inl (V.2.1.1, 3, .inl (upd (upd (fun _ => 0) 0 3) 1 10)))] (0 + 1 + 1 + 1 + 1 + 1 + 1 + 1 + 1 + 1 + 1 + 1) (0 + 40 + 40 + 40 + 50 + 50 + 50 + 50 + 5 + 5 + 12 + 3) 112 [some (.ref a), some (.int (nI i))] [] := by
    intro n
    induction n with
    | zero =>
      intro i hi
      have : i = 40 := by omega
      subst this
      refine n_iload_n C dX1_init_112 rfl rfl rfl ?_
      refine n_bipush C (v := 40) dX1_init_113 (by decide) rfl ?_
      refine n_icmp_ge C (tgt := 132) dX1_init_115 (by decide) rfl (fun _ => ?_) (fun q => absurd (Int32.le_refl _) q)
      refine n_iconst C (v := 0) dX1_init_132 (by decide) rfl ?_
      refine n_istore_n C dX1_init_133 rfl (Nat.le_of_ble_eq_true rfl) rfl rfl ?_
      exact loop2 50 0 rfl
    | succ n ih =>
      intro i hi
      refine n_iload_n C dX1_init_112 rfl rfl rfl ?_
      refine n_bipush C (v := 40) dX1_init_113 (by decide) rfl ?_
      refine n_icmp_ge C (tgt := 132) dX1_init_115 (by decide) rfl (fun q => absurd q (nge (n := 40) (by omega) (by decide))) (fun _ => ?_)
      refine n_aload_n C dX1_init_118 rfl rfl rfl ?_
      refine n_get C dX1_init_119 (q0 := 0) (j := 2) (T := TX1) (N := 17) (Cn := RX1) (ref := RX1) rfl rfl (by decide) fl_RX1_19 inlX1 rfl rfl rfl ?_
      refine n_iload_n C dX1_init_122 rfl rfl rfl ?_
      refine n_bipush C (v := -5) dX1_init_123 (by decide) rfl ?_
      refine n_iast C dX1_init_125 (q0 := 3) (ws' := [(a, .inr (1, [.ref q1, .ref q2, .ref q3, .ref q4, .ref q5, .ref q6, .ref q7, .ref q8, .ref q9, .ref q10, .int 0, .ref q11, .int 0, .int 39, .int 0, .int 0, .int 0])), (q1, .inl (V.2.1.2.1, 40, .inl (fun _ => 0))), (q2, .inl (V.2.1.1, 40, .inl (fun _ => 0))), (q3, .inl (V.2.1.1, 40, .inl (fil (i + 1)))), (q4, .inl (V.2.1.1, 50, .inl (fil 0))), (q5, .inl (V.2.1.1, 50, .inl (fun _ => 0))), (q6, .inl (V.2.1.2.1, 50, .inl (fun _ => 0))), (q7, .inl (V.2.1.1, 50, .inl (fun _ => 0))), (q8, .inl (V.2.1.1, 5, .inl (fun _ => 0))), (q9, .inl (V.2.1.1, 5, .inl (fun _ => 0))), (q10, .inl (V.2.1.1, 12, .inl (fun _ => 0))), (q11, .inl (V.2.1.1, 3, .inl (upd (upd (fun _ => 0) 0 3) 1 10)))]) rfl (inI (by omega) (by decide)) (by rw [fil_s (by omega)]; rfl) rfl ?_
      refine n_iinc C dX1_init_126 (nI_1 i) rfl (Nat.le_of_ble_eq_true rfl) rfl rfl ?_
      refine n_goto C (pc' := 112) dX1_init_129 (by decide) ?_
      exact ih (i + 1) (by omega)
  refine n_iconst C (v := 0) dX1_init_110 (by decide) rfl ?_
  refine n_istore_n C dX1_init_111 rfl (Nat.le_of_ble_eq_true rfl) rfl rfl ?_
  have e := loop1 40 0 rfl
  simp only [← fil_0] at e
  exact e
theorem c_X3_init (V : EV) (a : Nat) (l : Launch) (sz : Nat) : cMet V l yX3_init cX3_init 1 { frames := 1, cells := 1, slots := 60, locals := 20 } a [] [(a, .inr (3, [.null, .int 0]))] sz (fun w1 => ∃ q, w1 = [(a, .inr (3, [.ref q, .int 0])), (q, .inl (V.2.1.2.2.1, 60, .inl (fun _ => 0)))]) 1 60 := by
  refine met_n V (own := RX3) (by decide +kernel) rfl rfl (fun v hv => by
    simp at hv
    rw [hv]; rfl) (Nat.le_of_ble_eq_true rfl) (fun X C hname D => ?_) l sz
  show GC V X [(a, .inr (3, [.null, .int 0]))] 0 0 0 [some (.ref a)] []
  refine n_aload_n C dX3_init_0 rfl rfl rfl ?_
  refine n_obj C dX3_init_1 ml_RX3_3 (by decide) rfl rfl rfl ?_
  refine n_aload_n C dX3_init_4 rfl rfl rfl ?_
  refine n_bipush C (v := 60) dX3_init_5 (by decide) rfl ?_
  refine n_newa_char C (N' := 60) dX3_init_7 ac_char (by decide) (by decide) (by decide) (Nat.le_of_ble_eq_true rfl) (Nat.le_of_ble_eq_true rfl) rfl (fun q1 => ?_)
  refine n_putF C hname dX3_init_9 tyX3 (q0 := 0) (j := 0) (T := TX3) (N := 2) (Cn := RX3) (ref := RX3) (ws' := [(a, .inr (3, [.ref q1, .int 0])), (q1, .inl (V.2.1.2.2.1, 60, .inl (fun _ => 0)))]) rfl rfl (by decide) fl_RX3_9 inlX3 tyX3_ok nmX3 rfl rfl rfl (tyX3_ok 0 (by decide)) rfl rfl (by show 0 < 2; decide) rfl rfl ?_
  refine n_aload_n C dX3_init_12 rfl rfl rfl ?_
  refine n_iconst C (v := 0) dX3_init_13 (by decide) rfl ?_
  refine n_put C dX3_init_14 tyX3 (q0 := 0) (j := 1) (T := TX3) (N := 2) (Cn := RX3) (ref := RX3) (ws' := [(a, .inr (3, [.ref q1, .int 0])), (q1, .inl (V.2.1.2.2.1, 60, .inl (fun _ => 0)))]) rfl rfl (by decide) fl_RX3_15 inlX3 tyX3_ok nmX3 rfl rfl (tyX3_ok 1 (by decide)) rfl rfl (by show 1 < 2; decide) rfl rfl ?_
  exact n_vret C dX3_init_17 D rfl rfl ⟨q1, rfl⟩
theorem c_X2_init (V : EV) (a : Nat) (t : Nat) (l : Launch) (sz : Nat) : cMet V l yX2_init cX2_init 2 { frames := 1, cells := 3, slots := 90, locals := 20 } a [.ref t] [(a, .inr (2, [.null, .null, .null, .null, .int 0, .int 0]))] sz (fun w1 => ∃ q : Nat → Nat, w1 = [(a, .inr (2, [.ref t, .ref (q 1), .ref (q 2), .ref (q 3), .int 0, .int 0])), (q 1, .inl (V.2.1.2.2.1, 30, .inl (fun _ => 0))), (q 2, .inl (V.2.1.1, 30, .inl (fun _ => 0))), (q 3, .inl (V.2.1.1, 30, .inl (fun _ => 0)))]) 3 90 := by
  refine met_n V (own := RX2) (by decide +kernel) rfl rfl (fun v hv => by
    simp at hv
    rcases hv with rfl | rfl <;> rfl) (Nat.le_of_ble_eq_true rfl) (fun X C hname D => ?_) l sz
  show GC V X [(a, .inr (2, [.null, .null, .null, .null, .int 0, .int 0]))] 0 0 0 [some (.ref a), some (.ref t)] []
  refine n_aload_n C dX2_init_0 rfl rfl rfl ?_
  refine n_obj C dX2_init_1 ml_RX2_3 (by decide) rfl rfl rfl ?_
  refine n_aload_n C dX2_init_4 rfl rfl rfl ?_
  refine n_aload_n C dX2_init_5 rfl rfl rfl ?_
  refine n_putF C hname dX2_init_6 tyX2 (q0 := 0) (j := 0) (T := TX2) (N := 6) (Cn := RX2) (ref := RX2) (ws' := [(a, .inr (2, [.ref t, .null, .null, .null, .int 0, .int 0]))]) rfl rfl (by decide) fl_RX2_9 inlX2 tyX2_ok nmX2 rfl rfl rfl (tyX2_ok 0 (by decide)) rfl rfl (by show 0 < 6; decide) rfl rfl ?_
  refine n_aload_n C dX2_init_9 rfl rfl rfl ?_
  refine n_bipush C (v := 30) dX2_init_10 (by decide) rfl ?_
  refine n_newa_char C (N' := 30) dX2_init_12 ac_char (by decide) (by decide) (by decide) (Nat.le_of_ble_eq_true rfl) (Nat.le_of_ble_eq_true rfl) rfl (fun q1 => ?_)
  refine n_putF C hname dX2_init_14 tyX2 (q0 := 0) (j := 1) (T := TX2) (N := 6) (Cn := RX2) (ref := RX2) (ws' := [(a, .inr (2, [.ref t, .ref q1, .null, .null, .int 0, .int 0])), (q1, .inl (V.2.1.2.2.1, 30, .inl (fun _ => 0)))]) rfl rfl (by decide) fl_RX2_15 inlX2 tyX2_ok nmX2 rfl rfl rfl (tyX2_ok 1 (by decide)) rfl rfl (by show 1 < 6; decide) rfl rfl ?_
  refine n_aload_n C dX2_init_17 rfl rfl rfl ?_
  refine n_bipush C (v := 30) dX2_init_18 (by decide) rfl ?_
  refine n_newa_int C (N' := 30) dX2_init_20 ac_int (by decide) (by decide) (by decide) (Nat.le_of_ble_eq_true rfl) (Nat.le_of_ble_eq_true rfl) rfl (fun q2 => ?_)
  refine n_putF C hname dX2_init_22 tyX2 (q0 := 0) (j := 2) (T := TX2) (N := 6) (Cn := RX2) (ref := RX2) (ws' := [(a, .inr (2, [.ref t, .ref q1, .ref q2, .null, .int 0, .int 0])), (q1, .inl (V.2.1.2.2.1, 30, .inl (fun _ => 0))), (q2, .inl (V.2.1.1, 30, .inl (fun _ => 0)))]) rfl rfl (by decide) fl_RX2_19 inlX2 tyX2_ok nmX2 rfl rfl rfl (tyX2_ok 2 (by decide)) rfl rfl (by show 2 < 6; decide) rfl rfl ?_
  refine n_aload_n C dX2_init_25 rfl rfl rfl ?_
  refine n_bipush C (v := 30) dX2_init_26 (by decide) rfl ?_
  refine n_newa_int C (N' := 30) dX2_init_28 ac_int (by decide) (by decide) (by decide) (Nat.le_of_ble_eq_true rfl) (Nat.le_of_ble_eq_true rfl) rfl (fun q3 => ?_)
  refine n_putF C hname dX2_init_30 tyX2 (q0 := 0) (j := 3) (T := TX2) (N := 6) (Cn := RX2) (ref := RX2) (ws' := [(a, .inr (2, [.ref t, .ref q1, .ref q2, .ref q3, .int 0, .int 0])), (q1, .inl (V.2.1.2.2.1, 30, .inl (fun _ => 0))), (q2, .inl (V.2.1.1, 30, .inl (fun _ => 0))), (q3, .inl (V.2.1.1, 30, .inl (fun _ => 0)))]) rfl rfl (by decide) fl_RX2_23 inlX2 tyX2_ok nmX2 rfl rfl rfl (tyX2_ok 3 (by decide)) rfl rfl (by show 3 < 6; decide) rfl rfl ?_
  refine n_aload_n C dX2_init_33 rfl rfl rfl ?_
  refine n_iconst C (v := 0) dX2_init_34 (by decide) rfl ?_
  refine n_put C dX2_init_35 tyX2 (q0 := 0) (j := 4) (T := TX2) (N := 6) (Cn := RX2) (ref := RX2) (ws' := [(a, .inr (2, [.ref t, .ref q1, .ref q2, .ref q3, .int 0, .int 0])), (q1, .inl (V.2.1.2.2.1, 30, .inl (fun _ => 0))), (q2, .inl (V.2.1.1, 30, .inl (fun _ => 0))), (q3, .inl (V.2.1.1, 30, .inl (fun _ => 0)))]) rfl rfl (by decide) fl_RX2_26 inlX2 tyX2_ok nmX2 rfl rfl (tyX2_ok 4 (by decide)) rfl rfl (by show 4 < 6; decide) rfl rfl ?_
  refine n_aload_n C dX2_init_38 rfl rfl rfl ?_
  refine n_iconst C (v := 0) dX2_init_39 (by decide) rfl ?_
  refine n_put C dX2_init_40 tyX2 (q0 := 0) (j := 5) (T := TX2) (N := 6) (Cn := RX2) (ref := RX2) (ws' := [(a, .inr (2, [.ref t, .ref q1, .ref q2, .ref q3, .int 0, .int 0])), (q1, .inl (V.2.1.2.2.1, 30, .inl (fun _ => 0))), (q2, .inl (V.2.1.1, 30, .inl (fun _ => 0))), (q3, .inl (V.2.1.1, 30, .inl (fun _ => 0)))]) rfl rfl (by decide) fl_RX2_30 inlX2 tyX2_ok nmX2 rfl rfl (tyX2_ok 5 (by decide)) rfl rfl (by show 5 < 6; decide) rfl rfl ?_
  exact n_vret C dX2_init_43 D rfl rfl ⟨fun j => [a, q1, q2, q3].getD j 0, rfl⟩
theorem dfX0 : ∀ j, j < 3 → defaultValue (tyX0 j) = vp_V [.null, .int 0, .int 0] j := by
  intro j hj
  rcases (show j = 0 ∨ j = 1 ∨ j = 2 by omega) with rfl | rfl | rfl <;> rfl
theorem dfX1 : ∀ j, j < 17 → defaultValue (tyX1 j) = vp_V [.null, .null, .null, .null, .null, .null, .null, .null, .null, .null, .int 0, .null, .int 0, .int 0, .int 0, .int 0, .int 0] j := by
  intro j hj
  rcases (show j = 0 ∨ j = 1 ∨ j = 2 ∨ j = 3 ∨ j = 4 ∨ j = 5 ∨ j = 6 ∨ j = 7 ∨ j = 8 ∨ j = 9 ∨ j = 10 ∨ j = 11 ∨ j = 12 ∨ j = 13 ∨ j = 14 ∨ j = 15 ∨ j = 16 by omega) with rfl | rfl | rfl | rfl | rfl | rfl | rfl | rfl | rfl | rfl | rfl | rfl | rfl | rfl | rfl | rfl | rfl <;> rfl
theorem dfX2 : ∀ j, j < 6 → defaultValue (tyX2 j) = vp_V [.null, .null, .null, .null, .int 0, .int 0] j := by
  intro j hj
  rcases (show j = 0 ∨ j = 1 ∨ j = 2 ∨ j = 3 ∨ j = 4 ∨ j = 5 by omega) with rfl | rfl | rfl | rfl | rfl | rfl <;> rfl
theorem dfX3 : ∀ j, j < 2 → defaultValue (tyX3 j) = vp_V [.null, .int 0] j := by
  intro j hj
  rcases (show j = 0 ∨ j = 1 by omega) with rfl | rfl <;> rfl
theorem dfX4 : ∀ j, j < 9 → defaultValue (tyX4 j) = vp_V [.null, .null, .null, .int 0, .null, .null, .null, .int 0, .int 0] j := by
  intro j hj
  rcases (show j = 0 ∨ j = 1 ∨ j = 2 ∨ j = 3 ∨ j = 4 ∨ j = 5 ∨ j = 6 ∨ j = 7 ∨ j = 8 by omega) with rfl | rfl | rfl | rfl | rfl | rfl | rfl | rfl | rfl <;> rfl
theorem dfX5 : ∀ j, j < 13 → defaultValue (tyX5 j) = vp_V [.null, .null, .null, .int 0, .null, .int 0, .null, .int 0, .int 0, .int 0, .null, .int 0, .int 0] j := by
  intro j hj
  rcases (show j = 0 ∨ j = 1 ∨ j = 2 ∨ j = 3 ∨ j = 4 ∨ j = 5 ∨ j = 6 ∨ j = 7 ∨ j = 8 ∨ j = 9 ∨ j = 10 ∨ j = 11 ∨ j = 12 by omega) with rfl | rfl | rfl | rfl | rfl | rfl | rfl | rfl | rfl | rfl | rfl | rfl | rfl <;> rfl
def histW (V : EV) (a q : Nat) (m : Nat → Nat) (r : Nat → Nat → Nat) : va_W := (((([(a, .inr (0, [.ref q, .int 0, .int 0])), (q, .inl (V.2.1.2.2.2, 4, .inr (.inr (.inr (.inr (va_up (va_up (va_up (va_up (fun _ => none) 0 (some (m 0))) 1 (some (m 1))) 2 (some (m 2))) 3 (some (m 3))))))))] ++ memW V (m 0) (r 0)) ++ memW V (m 1) (r 1)) ++ memW V (m 2) (r 2)) ++ memW V (m 3) (r 3))
theorem c_X0_init (V : EV) (a : Nat) (l : Launch) (sz : Nat) : cMet V l yX0_init cX0_init 2 { frames := 2, cells := 49, slots := 1452, locals := 41 } a [] [(a, .inr (0, [.null, .int 0, .int 0]))] sz (fun w1 => ∃ (q : Nat) (m : Nat → Nat) (r : Nat → Nat → Nat), w1 = histW V a q m r) 49 1452 := by
  refine met_n V (own := RX0) (by decide +kernel) rfl rfl (fun v hv => by
    simp at hv
    rw [hv]; rfl) (Nat.le_of_ble_eq_true rfl) (fun X C hname D => ?_) l sz
  show GC V X [(a, .inr (0, [.null, .int 0, .int 0]))] 0 0 0 [some (.ref a), none] []
  refine n_aload_n C dX0_init_0 rfl rfl rfl ?_
  refine n_obj C dX0_init_1 ml_RX0_3 (by decide) rfl rfl rfl ?_
  refine n_aload_n C dX0_init_4 rfl rfl rfl ?_
  refine n_iconst C (v := 4) dX0_init_5 (by decide) rfl ?_
  refine n_newq C (N' := 4) dX0_init_6 cl_RX0_9 (by decide) (by decide) (by decide) (Nat.le_of_ble_eq_true rfl) (Nat.le_of_ble_eq_true rfl) rfl (fun q1 => ?_)
  refine n_putF C hname dX0_init_9 tyX0 (q0 := 0) (j := 0) (T := TX0) (N := 3) (Cn := RX0) (ref := RX0) (ws' := [(a, .inr (0, [.ref q1, .int 0, .int 0])), (q1, .inl (V.2.1.2.2.2, 4, .inr (.inr (.inr (.inr (fun _ => none))))))]) rfl rfl (by decide) fl_RX0_11 inlX0 tyX0_ok nmX0 rfl rfl rfl (tyX0_ok 0 (by decide)) rfl rfl (by show 0 < 3; decide) rfl rfl ?_
  refine n_iconst C (v := 0) dX0_init_12 (by decide) rfl ?_
  refine n_istore_n C dX0_init_13 rfl (Nat.le_of_ble_eq_true rfl) rfl rfl ?_
  refine n_iload_n C dX0_init_14 rfl rfl rfl ?_
  refine n_iconst C (v := 4) dX0_init_15 (by decide) rfl ?_
  refine n_icmp_ge C (tgt := 38) dX0_init_16 (by decide) rfl (fun q => absurd q (by decide)) (fun _ => ?_)
  refine n_aload_n C dX0_init_19 rfl rfl rfl ?_
  refine n_get C dX0_init_20 (q0 := 0) (j := 0) (T := TX0) (N := 3) (Cn := RX0) (ref := RX0) rfl rfl (by decide) fl_RX0_11 inlX0 rfl rfl rfl ?_
  refine n_iload_n C dX0_init_23 rfl rfl rfl ?_
  refine n_new C (ci := 1) (Cn := RX1) (T := TX1) (N := 17) (fs := [.null, .null, .null, .null, .null, .null, .null, .null, .null, .null, .int 0, .null, .int 0, .int 0, .int 0, .int 0, .int 0]) dX0_init_24 tyX1 tyX1_ok inlX1 cl_RX0_9 ins_RX1 ini_RX1 rfl dfX1 (Nat.le_of_ble_eq_true rfl) (Nat.le_of_ble_eq_true rfl) rfl (fun m0 => ?_)
  refine n_dup C dX0_init_27 rfl rfl ?_
  refine n_init (n := 0) (kk := 2) (nn := 21) C dX0_init_28 (fun l sz => c_X1_init V m0 l sz) (wr := [(a, .inr (0, [.ref q1, .int 0, .int 0])), (q1, .inl (V.2.1.2.2.2, 4, .inr (.inr (.inr (.inr (fun _ => none))))))]) (wc := [(m0, .inr (1, [.null, .null, .null, .null, .null, .null, .null, .null, .null, .null, .int 0, .null, .int 0, .int 0, .int 0, .int 0, .int 0]))]) rfl ml_RX0_17 im_X1_init ini_RX1 co_X1_init rfl (by decide +kernel) rfl ⟨rfl, rfl⟩ ⟨(Nat.le_of_ble_eq_true rfl), (Nat.le_of_ble_eq_true rfl)⟩ (Nat.le_of_ble_eq_true rfl) rfl (Nat.le_of_ble_eq_true rfl) (Nat.le_of_ble_eq_true rfl) rfl rfl (fun w1 hw => ?_)
  obtain ⟨r0, rfl⟩ := hw
  refine n_astq C dX0_init_31 (q0 := 1) (qk := 2) (ws' := ([(a, .inr (0, [.ref q1, .int 0, .int 0])), (q1, .inl (V.2.1.2.2.2, 4, .inr (.inr (.inr (.inr (va_up (fun _ => none) 0 (some m0)))))))] ++ memW V m0 r0)) rfl rfl (by unfold vp_in; decide) (by rw [show (0 : Int32).toNatClampNeg = 0 from by decide]; rfl) rfl ?_
  refine n_iinc C (v := 1) dX0_init_32 (by decide) rfl (Nat.le_of_ble_eq_true rfl) rfl rfl ?_
  refine n_goto C (pc' := 14) dX0_init_35 (by decide) ?_
  refine n_iload_n C dX0_init_14 rfl rfl rfl ?_
  refine n_iconst C (v := 4) dX0_init_15 (by decide) rfl ?_
  refine n_icmp_ge C (tgt := 38) dX0_init_16 (by decide) rfl (fun q => absurd q (by decide)) (fun _ => ?_)
  refine n_aload_n C dX0_init_19 rfl rfl rfl ?_
  refine n_get C dX0_init_20 (q0 := 0) (j := 0) (T := TX0) (N := 3) (Cn := RX0) (ref := RX0) rfl rfl (by decide) fl_RX0_11 inlX0 rfl rfl rfl ?_
  refine n_iload_n C dX0_init_23 rfl rfl rfl ?_
  refine n_new C (ci := 1) (Cn := RX1) (T := TX1) (N := 17) (fs := [.null, .null, .null, .null, .null, .null, .null, .null, .null, .null, .int 0, .null, .int 0, .int 0, .int 0, .int 0, .int 0]) dX0_init_24 tyX1 tyX1_ok inlX1 cl_RX0_9 ins_RX1 ini_RX1 rfl dfX1 (Nat.le_of_ble_eq_true rfl) (Nat.le_of_ble_eq_true rfl) rfl (fun m1 => ?_)
  refine n_dup C dX0_init_27 rfl rfl ?_
  refine n_init (n := 0) (kk := 14) (nn := 383) C dX0_init_28 (fun l sz => c_X1_init V m1 l sz) (wr := ([(a, .inr (0, [.ref q1, .int 0, .int 0])), (q1, .inl (V.2.1.2.2.2, 4, .inr (.inr (.inr (.inr (va_up (fun _ => none) 0 (some m0)))))))] ++ memW V m0 r0)) (wc := [(m1, .inr (1, [.null, .null, .null, .null, .null, .null, .null, .null, .null, .null, .int 0, .null, .int 0, .int 0, .int 0, .int 0, .int 0]))]) rfl ml_RX0_17 im_X1_init ini_RX1 co_X1_init rfl (by decide +kernel) rfl ⟨rfl, rfl⟩ ⟨(Nat.le_of_ble_eq_true rfl), (Nat.le_of_ble_eq_true rfl)⟩ (Nat.le_of_ble_eq_true rfl) rfl (Nat.le_of_ble_eq_true rfl) (Nat.le_of_ble_eq_true rfl) rfl rfl (fun w1 hw => ?_)
  obtain ⟨r1, rfl⟩ := hw
  refine n_astq C dX0_init_31 (q0 := 1) (qk := 14) (ws' := (([(a, .inr (0, [.ref q1, .int 0, .int 0])), (q1, .inl (V.2.1.2.2.2, 4, .inr (.inr (.inr (.inr (va_up (va_up (fun _ => none) 0 (some m0)) 1 (some m1)))))))] ++ memW V m0 r0) ++ memW V m1 r1)) rfl rfl (by unfold vp_in; decide) (by rw [show (1 : Int32).toNatClampNeg = 1 from by decide]; rfl) rfl ?_
  refine n_iinc C (v := 2) dX0_init_32 (by decide) rfl (Nat.le_of_ble_eq_true rfl) rfl rfl ?_
  refine n_goto C (pc' := 14) dX0_init_35 (by decide) ?_
  refine n_iload_n C dX0_init_14 rfl rfl rfl ?_
  refine n_iconst C (v := 4) dX0_init_15 (by decide) rfl ?_
  refine n_icmp_ge C (tgt := 38) dX0_init_16 (by decide) rfl (fun q => absurd q (by decide)) (fun _ => ?_)
  refine n_aload_n C dX0_init_19 rfl rfl rfl ?_
  refine n_get C dX0_init_20 (q0 := 0) (j := 0) (T := TX0) (N := 3) (Cn := RX0) (ref := RX0) rfl rfl (by decide) fl_RX0_11 inlX0 rfl rfl rfl ?_
  refine n_iload_n C dX0_init_23 rfl rfl rfl ?_
  refine n_new C (ci := 1) (Cn := RX1) (T := TX1) (N := 17) (fs := [.null, .null, .null, .null, .null, .null, .null, .null, .null, .null, .int 0, .null, .int 0, .int 0, .int 0, .int 0, .int 0]) dX0_init_24 tyX1 tyX1_ok inlX1 cl_RX0_9 ins_RX1 ini_RX1 rfl dfX1 (Nat.le_of_ble_eq_true rfl) (Nat.le_of_ble_eq_true rfl) rfl (fun m2 => ?_)
  refine n_dup C dX0_init_27 rfl rfl ?_
  refine n_init (n := 0) (kk := 26) (nn := 745) C dX0_init_28 (fun l sz => c_X1_init V m2 l sz) (wr := (([(a, .inr (0, [.ref q1, .int 0, .int 0])), (q1, .inl (V.2.1.2.2.2, 4, .inr (.inr (.inr (.inr (va_up (va_up (fun _ => none) 0 (some m0)) 1 (some m1)))))))] ++ memW V m0 r0) ++ memW V m1 r1)) (wc := [(m2, .inr (1, [.null, .null, .null, .null, .null, .null, .null, .null, .null, .null, .int 0, .null, .int 0, .int 0, .int 0, .int 0, .int 0]))]) rfl ml_RX0_17 im_X1_init ini_RX1 co_X1_init rfl (by decide +kernel) rfl ⟨rfl, rfl⟩ ⟨(Nat.le_of_ble_eq_true rfl), (Nat.le_of_ble_eq_true rfl)⟩ (Nat.le_of_ble_eq_true rfl) rfl (Nat.le_of_ble_eq_true rfl) (Nat.le_of_ble_eq_true rfl) rfl rfl (fun w1 hw => ?_)
  obtain ⟨r2, rfl⟩ := hw
  refine n_astq C dX0_init_31 (q0 := 1) (qk := 26) (ws' := ((([(a, .inr (0, [.ref q1, .int 0, .int 0])), (q1, .inl (V.2.1.2.2.2, 4, .inr (.inr (.inr (.inr (va_up (va_up (va_up (fun _ => none) 0 (some m0)) 1 (some m1)) 2 (some m2)))))))] ++ memW V m0 r0) ++ memW V m1 r1) ++ memW V m2 r2)) rfl rfl (by unfold vp_in; decide) (by rw [show (2 : Int32).toNatClampNeg = 2 from by decide]; rfl) rfl ?_
  refine n_iinc C (v := 3) dX0_init_32 (by decide) rfl (Nat.le_of_ble_eq_true rfl) rfl rfl ?_
  refine n_goto C (pc' := 14) dX0_init_35 (by decide) ?_
  refine n_iload_n C dX0_init_14 rfl rfl rfl ?_
  refine n_iconst C (v := 4) dX0_init_15 (by decide) rfl ?_
  refine n_icmp_ge C (tgt := 38) dX0_init_16 (by decide) rfl (fun q => absurd q (by decide)) (fun _ => ?_)
  refine n_aload_n C dX0_init_19 rfl rfl rfl ?_
  refine n_get C dX0_init_20 (q0 := 0) (j := 0) (T := TX0) (N := 3) (Cn := RX0) (ref := RX0) rfl rfl (by decide) fl_RX0_11 inlX0 rfl rfl rfl ?_
  refine n_iload_n C dX0_init_23 rfl rfl rfl ?_
  refine n_new C (ci := 1) (Cn := RX1) (T := TX1) (N := 17) (fs := [.null, .null, .null, .null, .null, .null, .null, .null, .null, .null, .int 0, .null, .int 0, .int 0, .int 0, .int 0, .int 0]) dX0_init_24 tyX1 tyX1_ok inlX1 cl_RX0_9 ins_RX1 ini_RX1 rfl dfX1 (Nat.le_of_ble_eq_true rfl) (Nat.le_of_ble_eq_true rfl) rfl (fun m3 => ?_)
  refine n_dup C dX0_init_27 rfl rfl ?_
  refine n_init (n := 0) (kk := 38) (nn := 1107) C dX0_init_28 (fun l sz => c_X1_init V m3 l sz) (wr := ((([(a, .inr (0, [.ref q1, .int 0, .int 0])), (q1, .inl (V.2.1.2.2.2, 4, .inr (.inr (.inr (.inr (va_up (va_up (va_up (fun _ => none) 0 (some m0)) 1 (some m1)) 2 (some m2)))))))] ++ memW V m0 r0) ++ memW V m1 r1) ++ memW V m2 r2)) (wc := [(m3, .inr (1, [.null, .null, .null, .null, .null, .null, .null, .null, .null, .null, .int 0, .null, .int 0, .int 0, .int 0, .int 0, .int 0]))]) rfl ml_RX0_17 im_X1_init ini_RX1 co_X1_init rfl (by decide +kernel) rfl ⟨rfl, rfl⟩ ⟨(Nat.le_of_ble_eq_true rfl), (Nat.le_of_ble_eq_true rfl)⟩ (Nat.le_of_ble_eq_true rfl) rfl (Nat.le_of_ble_eq_true rfl) (Nat.le_of_ble_eq_true rfl) rfl rfl (fun w1 hw => ?_)
  obtain ⟨r3, rfl⟩ := hw
  refine n_astq C dX0_init_31 (q0 := 1) (qk := 38) (ws' := (((([(a, .inr (0, [.ref q1, .int 0, .int 0])), (q1, .inl (V.2.1.2.2.2, 4, .inr (.inr (.inr (.inr (va_up (va_up (va_up (va_up (fun _ => none) 0 (some m0)) 1 (some m1)) 2 (some m2)) 3 (some m3)))))))] ++ memW V m0 r0) ++ memW V m1 r1) ++ memW V m2 r2) ++ memW V m3 r3)) rfl rfl (by unfold vp_in; decide) (by rw [show (3 : Int32).toNatClampNeg = 3 from by decide]; rfl) rfl ?_
  refine n_iinc C (v := 4) dX0_init_32 (by decide) rfl (Nat.le_of_ble_eq_true rfl) rfl rfl ?_
  refine n_goto C (pc' := 14) dX0_init_35 (by decide) ?_
  refine n_iload_n C dX0_init_14 rfl rfl rfl ?_
  refine n_iconst C (v := 4) dX0_init_15 (by decide) rfl ?_
  refine n_icmp_ge C (tgt := 38) dX0_init_16 (by decide) rfl (fun _ => ?_) (fun q => absurd (by decide) q)
  refine n_aload_n C dX0_init_38 rfl rfl rfl ?_
  refine n_iconst C (v := 0) dX0_init_39 (by decide) rfl ?_
  refine n_put C dX0_init_40 tyX0 (q0 := 0) (j := 1) (T := TX0) (N := 3) (Cn := RX0) (ref := RX0) (ws' := (((([(a, .inr (0, [.ref q1, .int 0, .int 0])), (q1, .inl (V.2.1.2.2.2, 4, .inr (.inr (.inr (.inr (va_up (va_up (va_up (va_up (fun _ => none) 0 (some m0)) 1 (some m1)) 2 (some m2)) 3 (some m3)))))))] ++ memW V m0 r0) ++ memW V m1 r1) ++ memW V m2 r2) ++ memW V m3 r3)) rfl rfl (by decide) fl_RX0_18 inlX0 tyX0_ok nmX0 rfl rfl (tyX0_ok 1 (by decide)) rfl rfl (by show 1 < 3; decide) rfl rfl ?_
  refine n_aload_n C dX0_init_43 rfl rfl rfl ?_
  refine n_iconst C (v := 0) dX0_init_44 (by decide) rfl ?_
  refine n_put C dX0_init_45 tyX0 (q0 := 0) (j := 2) (T := TX0) (N := 3) (Cn := RX0) (ref := RX0) (ws' := (((([(a, .inr (0, [.ref q1, .int 0, .int 0])), (q1, .inl (V.2.1.2.2.2, 4, .inr (.inr (.inr (.inr (va_up (va_up (va_up (va_up (fun _ => none) 0 (some m0)) 1 (some m1)) 2 (some m2)) 3 (some m3)))))))] ++ memW V m0 r0) ++ memW V m1 r1) ++ memW V m2 r2) ++ memW V m3 r3)) rfl rfl (by decide) fl_RX0_22 inlX0 tyX0_ok nmX0 rfl rfl (tyX0_ok 2 (by decide)) rfl rfl (by show 2 < 3; decide) rfl rfl ?_
  exact n_vret C dX0_init_48 D rfl rfl ⟨q1, fun j => [m0, m1, m2, m3].getD j 0, fun j => [r0, r1, r2, r3].getD j (fun _ => 0), rfl⟩
def x4W (V : EV) (a h hq t tq n : Nat) (nq m : Nat → Nat) (r : Nat → Nat → Nat) : va_W := (((((([(a, .inr (4, [.ref (m 4), .ref (m 5), .ref (m 6), .int 0, .ref h, .ref t, .ref n, .int (-5), .int (-5)]))] ++ memW V (m 4) (r 4)) ++ memW V (m 5) (r 5)) ++ memW V (m 6) (r 6)) ++ histW V h hq m r) ++ [(t, .inr (3, [.ref tq, .int 0])), (tq, .inl (V.2.1.2.2.1, 60, .inl (fun _ => 0)))]) ++ [(n, .inr (2, [.ref t, .ref (nq 1), .ref (nq 2), .ref (nq 3), .int 0, .int 0])), (nq 1, .inl (V.2.1.2.2.1, 30, .inl (fun _ => 0))), (nq 2, .inl (V.2.1.1, 30, .inl (fun _ => 0))), (nq 3, .inl (V.2.1.1, 30, .inl (fun _ => 0)))])
theorem c_X4_init (V : EV) (a : Nat) (l : Launch) (sz : Nat) : cMet V l yX4_init cX4_init 1 { frames := 3, cells := 92, slots := 2699, locals := 62 } a [] [(a, .inr (4, [.null, .null, .null, .int 0, .null, .null, .null, .int 0, .int 0]))] sz (fun w1 => ∃ (h hq t tq n : Nat) (nq m : Nat → Nat) (r : Nat → Nat → Nat), w1 = x4W V a h hq t tq n nq m r) 92 2699 := by
  refine met_n V (own := RX4) (by decide +kernel) rfl rfl (fun v hv => by
    simp at hv
    rw [hv]; rfl) (Nat.le_of_ble_eq_true rfl) (fun X C hname D => ?_) l sz
  show GC V X [(a, .inr (4, [.null, .null, .null, .int 0, .null, .null, .null, .int 0, .int 0]))] 0 0 0 [some (.ref a)] []
  refine n_aload_n C dX4_init_0 rfl rfl rfl ?_
  refine n_obj C dX4_init_1 ml_RX4_3 (by decide) rfl rfl rfl ?_
  refine n_aload_n C dX4_init_4 rfl rfl rfl ?_
  refine n_new C (ci := 1) (Cn := RX1) (T := TX1) (N := 17) (fs := [.null, .null, .null, .null, .null, .null, .null, .null, .null, .null, .int 0, .null, .int 0, .int 0, .int 0, .int 0, .int 0]) dX4_init_5 tyX1 tyX1_ok inlX1 cl_RX4_9 ins_RX1 ini_RX1 rfl dfX1 (Nat.le_of_ble_eq_true rfl) (Nat.le_of_ble_eq_true rfl) rfl (fun m4 => ?_)
  refine n_dup C dX4_init_8 rfl rfl ?_
  refine n_init (n := 0) (kk := 1) (nn := 17) C dX4_init_9 (fun l sz => c_X1_init V m4 l sz) (wr := [(a, .inr (4, [.null, .null, .null, .int 0, .null, .null, .null, .int 0, .int 0]))]) (wc := [(m4, .inr (1, [.null, .null, .null, .null, .null, .null, .null, .null, .null, .null, .int 0, .null, .int 0, .int 0, .int 0, .int 0, .int 0]))]) rfl ml_RX4_11 im_X1_init ini_RX1 co_X1_init rfl (by decide +kernel) rfl ⟨rfl, rfl⟩ ⟨(Nat.le_of_ble_eq_true rfl), (Nat.le_of_ble_eq_true rfl)⟩ (Nat.le_of_ble_eq_true rfl) rfl (Nat.le_of_ble_eq_true rfl) (Nat.le_of_ble_eq_true rfl) rfl rfl (fun w1 hw => ?_)
  obtain ⟨r4, rfl⟩ := hw
  refine n_putF C hname dX4_init_12 tyX4 (q0 := 0) (j := 0) (T := TX4) (N := 9) (Cn := RX4) (ref := RX4) (ws' := ([(a, .inr (4, [.ref m4, .null, .null, .int 0, .null, .null, .null, .int 0, .int 0]))] ++ memW V m4 r4)) rfl rfl (by decide) fl_RX4_12 inlX4 tyX4_ok nmX4 rfl rfl rfl (tyX4_ok 0 (by decide)) rfl rfl (by show 0 < 9; decide) rfl rfl ?_
  refine n_aload_n C dX4_init_15 rfl rfl rfl ?_
  refine n_new C (ci := 1) (Cn := RX1) (T := TX1) (N := 17) (fs := [.null, .null, .null, .null, .null, .null, .null, .null, .null, .null, .int 0, .null, .int 0, .int 0, .int 0, .int 0, .int 0]) dX4_init_16 tyX1 tyX1_ok inlX1 cl_RX4_9 ins_RX1 ini_RX1 rfl dfX1 (Nat.le_of_ble_eq_true rfl) (Nat.le_of_ble_eq_true rfl) rfl (fun m5 => ?_)
  refine n_dup C dX4_init_19 rfl rfl ?_
  refine n_init (n := 0) (kk := 13) (nn := 379) C dX4_init_20 (fun l sz => c_X1_init V m5 l sz) (wr := ([(a, .inr (4, [.ref m4, .null, .null, .int 0, .null, .null, .null, .int 0, .int 0]))] ++ memW V m4 r4)) (wc := [(m5, .inr (1, [.null, .null, .null, .null, .null, .null, .null, .null, .null, .null, .int 0, .null, .int 0, .int 0, .int 0, .int 0, .int 0]))]) rfl ml_RX4_11 im_X1_init ini_RX1 co_X1_init rfl (by decide +kernel) rfl ⟨rfl, rfl⟩ ⟨(Nat.le_of_ble_eq_true rfl), (Nat.le_of_ble_eq_true rfl)⟩ (Nat.le_of_ble_eq_true rfl) rfl (Nat.le_of_ble_eq_true rfl) (Nat.le_of_ble_eq_true rfl) rfl rfl (fun w1 hw => ?_)
  obtain ⟨r5, rfl⟩ := hw
  refine n_putF C hname dX4_init_23 tyX4 (q0 := 0) (j := 1) (T := TX4) (N := 9) (Cn := RX4) (ref := RX4) (ws' := (([(a, .inr (4, [.ref m4, .ref m5, .null, .int 0, .null, .null, .null, .int 0, .int 0]))] ++ memW V m4 r4) ++ memW V m5 r5)) rfl rfl (by decide) fl_RX4_16 inlX4 tyX4_ok nmX4 rfl rfl rfl (tyX4_ok 1 (by decide)) rfl rfl (by show 1 < 9; decide) rfl rfl ?_
  refine n_aload_n C dX4_init_26 rfl rfl rfl ?_
  refine n_new C (ci := 1) (Cn := RX1) (T := TX1) (N := 17) (fs := [.null, .null, .null, .null, .null, .null, .null, .null, .null, .null, .int 0, .null, .int 0, .int 0, .int 0, .int 0, .int 0]) dX4_init_27 tyX1 tyX1_ok inlX1 cl_RX4_9 ins_RX1 ini_RX1 rfl dfX1 (Nat.le_of_ble_eq_true rfl) (Nat.le_of_ble_eq_true rfl) rfl (fun m6 => ?_)
  refine n_dup C dX4_init_30 rfl rfl ?_
  refine n_init (n := 0) (kk := 25) (nn := 741) C dX4_init_31 (fun l sz => c_X1_init V m6 l sz) (wr := (([(a, .inr (4, [.ref m4, .ref m5, .null, .int 0, .null, .null, .null, .int 0, .int 0]))] ++ memW V m4 r4) ++ memW V m5 r5)) (wc := [(m6, .inr (1, [.null, .null, .null, .null, .null, .null, .null, .null, .null, .null, .int 0, .null, .int 0, .int 0, .int 0, .int 0, .int 0]))]) rfl ml_RX4_11 im_X1_init ini_RX1 co_X1_init rfl (by decide +kernel) rfl ⟨rfl, rfl⟩ ⟨(Nat.le_of_ble_eq_true rfl), (Nat.le_of_ble_eq_true rfl)⟩ (Nat.le_of_ble_eq_true rfl) rfl (Nat.le_of_ble_eq_true rfl) (Nat.le_of_ble_eq_true rfl) rfl rfl (fun w1 hw => ?_)
  obtain ⟨r6, rfl⟩ := hw
  refine n_putF C hname dX4_init_34 tyX4 (q0 := 0) (j := 2) (T := TX4) (N := 9) (Cn := RX4) (ref := RX4) (ws' := ((([(a, .inr (4, [.ref m4, .ref m5, .ref m6, .int 0, .null, .null, .null, .int 0, .int 0]))] ++ memW V m4 r4) ++ memW V m5 r5) ++ memW V m6 r6)) rfl rfl (by decide) fl_RX4_19 inlX4 tyX4_ok nmX4 rfl rfl rfl (tyX4_ok 2 (by decide)) rfl rfl (by show 2 < 9; decide) rfl rfl ?_
  refine n_aload_n C dX4_init_37 rfl rfl rfl ?_
  refine n_iconst C (v := 0) dX4_init_38 (by decide) rfl ?_
  refine n_put C dX4_init_39 tyX4 (q0 := 0) (j := 3) (T := TX4) (N := 9) (Cn := RX4) (ref := RX4) (ws' := ((([(a, .inr (4, [.ref m4, .ref m5, .ref m6, .int 0, .null, .null, .null, .int 0, .int 0]))] ++ memW V m4 r4) ++ memW V m5 r5) ++ memW V m6 r6)) rfl rfl (by decide) fl_RX4_22 inlX4 tyX4_ok nmX4 rfl rfl (tyX4_ok 3 (by decide)) rfl rfl (by show 3 < 9; decide) rfl rfl ?_
  refine n_aload_n C dX4_init_42 rfl rfl rfl ?_
  refine n_new C (ci := 0) (Cn := RX0) (T := TX0) (N := 3) (fs := [.null, .int 0, .int 0]) dX4_init_43 tyX0 tyX0_ok inlX0 cl_RX4_26 ins_RX0 ini_RX0 rfl dfX0 (Nat.le_of_ble_eq_true rfl) (Nat.le_of_ble_eq_true rfl) rfl (fun h => ?_)
  refine n_dup C dX4_init_46 rfl rfl ?_
  refine n_init (n := 0) (kk := 37) (nn := 1089) C dX4_init_47 (fun l sz => c_X0_init V h l sz) (wr := ((([(a, .inr (4, [.ref m4, .ref m5, .ref m6, .int 0, .null, .null, .null, .int 0, .int 0]))] ++ memW V m4 r4) ++ memW V m5 r5) ++ memW V m6 r6)) (wc := [(h, .inr (0, [.null, .int 0, .int 0]))]) rfl ml_RX4_28 im_X0_init ini_RX0 co_X0_init rfl (by decide +kernel) rfl ⟨rfl, rfl⟩ ⟨(Nat.le_of_ble_eq_true rfl), (Nat.le_of_ble_eq_true rfl)⟩ (Nat.le_of_ble_eq_true rfl) rfl (Nat.le_of_ble_eq_true rfl) (Nat.le_of_ble_eq_true rfl) rfl rfl (fun w1 hw => ?_)
  obtain ⟨hq, m, r, rfl⟩ := hw
  refine n_putF C hname dX4_init_50 tyX4 (q0 := 0) (j := 4) (T := TX4) (N := 9) (Cn := RX4) (ref := RX4) (ws' := (((([(a, .inr (4, [.ref m4, .ref m5, .ref m6, .int 0, .ref h, .null, .null, .int 0, .int 0]))] ++ memW V m4 r4) ++ memW V m5 r5) ++ memW V m6 r6) ++ histW V h hq m r)) rfl rfl (by decide) fl_RX4_29 inlX4 tyX4_ok nmX4 rfl rfl rfl (tyX4_ok 4 (by decide)) rfl rfl (by show 4 < 9; decide) rfl rfl ?_
  refine n_aload_n C dX4_init_53 rfl rfl rfl ?_
  refine n_new C (ci := 3) (Cn := RX3) (T := TX3) (N := 2) (fs := [.null, .int 0]) dX4_init_54 tyX3 tyX3_ok inlX3 cl_RX4_33 ins_RX3 ini_RX3 rfl dfX3 (Nat.le_of_ble_eq_true rfl) (Nat.le_of_ble_eq_true rfl) rfl (fun t => ?_)
  refine n_dup C dX4_init_57 rfl rfl ?_
  refine n_init (n := 0) (kk := 87) (nn := 2543) C dX4_init_58 (fun l sz => c_X3_init V t l sz) (wr := (((([(a, .inr (4, [.ref m4, .ref m5, .ref m6, .int 0, .ref h, .null, .null, .int 0, .int 0]))] ++ memW V m4 r4) ++ memW V m5 r5) ++ memW V m6 r6) ++ histW V h hq m r)) (wc := [(t, .inr (3, [.null, .int 0]))]) rfl ml_RX4_35 im_X3_init ini_RX3 co_X3_init rfl (by decide +kernel) rfl ⟨rfl, rfl⟩ ⟨(Nat.le_of_ble_eq_true rfl), (Nat.le_of_ble_eq_true rfl)⟩ (Nat.le_of_ble_eq_true rfl) rfl (Nat.le_of_ble_eq_true rfl) (Nat.le_of_ble_eq_true rfl) rfl rfl (fun w1 hw => ?_)
  obtain ⟨tq, rfl⟩ := hw
  refine n_putF C hname dX4_init_61 tyX4 (q0 := 0) (j := 5) (T := TX4) (N := 9) (Cn := RX4) (ref := RX4) (ws' := ((((([(a, .inr (4, [.ref m4, .ref m5, .ref m6, .int 0, .ref h, .ref t, .null, .int 0, .int 0]))] ++ memW V m4 r4) ++ memW V m5 r5) ++ memW V m6 r6) ++ histW V h hq m r) ++ [(t, .inr (3, [.ref tq, .int 0])), (tq, .inl (V.2.1.2.2.1, 60, .inl (fun _ => 0)))])) rfl rfl (by decide) fl_RX4_36 inlX4 tyX4_ok nmX4 rfl rfl rfl (tyX4_ok 5 (by decide)) rfl rfl (by show 5 < 9; decide) rfl rfl ?_
  refine n_aload_n C dX4_init_64 rfl rfl rfl ?_
  refine n_new C (ci := 2) (Cn := RX2) (T := TX2) (N := 6) (fs := [.null, .null, .null, .null, .int 0, .int 0]) dX4_init_65 tyX2 tyX2_ok inlX2 cl_RX4_40 ins_RX2 ini_RX2 rfl dfX2 (Nat.le_of_ble_eq_true rfl) (Nat.le_of_ble_eq_true rfl) rfl (fun n => ?_)
  refine n_dup C dX4_init_68 rfl rfl ?_
  refine n_aload_n C dX4_init_69 rfl rfl rfl ?_
  refine n_get C dX4_init_70 (q0 := 0) (j := 5) (T := TX4) (N := 9) (Cn := RX4) (ref := RX4) rfl rfl (by decide) fl_RX4_36 inlX4 rfl rfl rfl ?_
  refine n_init (n := 1) (kk := 89) (nn := 2609) C dX4_init_73 (fun l sz => c_X2_init V n t l sz) (wr := ((((([(a, .inr (4, [.ref m4, .ref m5, .ref m6, .int 0, .ref h, .ref t, .null, .int 0, .int 0]))] ++ memW V m4 r4) ++ memW V m5 r5) ++ memW V m6 r6) ++ histW V h hq m r) ++ [(t, .inr (3, [.ref tq, .int 0])), (tq, .inl (V.2.1.2.2.1, 60, .inl (fun _ => 0)))])) (wc := [(n, .inr (2, [.null, .null, .null, .null, .int 0, .int 0]))]) rfl ml_RX4_42 im_X2_init ini_RX2 co_X2_init rfl (by decide +kernel) rfl ⟨rfl, rfl⟩ ⟨(Nat.le_of_ble_eq_true rfl), (Nat.le_of_ble_eq_true rfl)⟩ (Nat.le_of_ble_eq_true rfl) rfl (Nat.le_of_ble_eq_true rfl) (Nat.le_of_ble_eq_true rfl) rfl rfl (fun w1 hw => ?_)
  obtain ⟨nq, rfl⟩ := hw
  refine n_putF C hname dX4_init_76 tyX4 (q0 := 0) (j := 6) (T := TX4) (N := 9) (Cn := RX4) (ref := RX4) (ws' := (((((([(a, .inr (4, [.ref m4, .ref m5, .ref m6, .int 0, .ref h, .ref t, .ref n, .int 0, .int 0]))] ++ memW V m4 r4) ++ memW V m5 r5) ++ memW V m6 r6) ++ histW V h hq m r) ++ [(t, .inr (3, [.ref tq, .int 0])), (tq, .inl (V.2.1.2.2.1, 60, .inl (fun _ => 0)))]) ++ [(n, .inr (2, [.ref t, .ref (nq 1), .ref (nq 2), .ref (nq 3), .int 0, .int 0])), (nq 1, .inl (V.2.1.2.2.1, 30, .inl (fun _ => 0))), (nq 2, .inl (V.2.1.1, 30, .inl (fun _ => 0))), (nq 3, .inl (V.2.1.1, 30, .inl (fun _ => 0)))])) rfl rfl (by decide) fl_RX4_45 inlX4 tyX4_ok nmX4 rfl rfl rfl (tyX4_ok 6 (by decide)) rfl rfl (by show 6 < 9; decide) rfl rfl ?_
  refine n_aload_n C dX4_init_79 rfl rfl rfl ?_
  refine n_bipush C (v := -5) dX4_init_80 (by decide) rfl ?_
  refine n_put C dX4_init_82 tyX4 (q0 := 0) (j := 7) (T := TX4) (N := 9) (Cn := RX4) (ref := RX4) (ws' := (((((([(a, .inr (4, [.ref m4, .ref m5, .ref m6, .int 0, .ref h, .ref t, .ref n, .int (-5), .int 0]))] ++ memW V m4 r4) ++ memW V m5 r5) ++ memW V m6 r6) ++ histW V h hq m r) ++ [(t, .inr (3, [.ref tq, .int 0])), (tq, .inl (V.2.1.2.2.1, 60, .inl (fun _ => 0)))]) ++ [(n, .inr (2, [.ref t, .ref (nq 1), .ref (nq 2), .ref (nq 3), .int 0, .int 0])), (nq 1, .inl (V.2.1.2.2.1, 30, .inl (fun _ => 0))), (nq 2, .inl (V.2.1.1, 30, .inl (fun _ => 0))), (nq 3, .inl (V.2.1.1, 30, .inl (fun _ => 0)))])) rfl rfl (by decide) fl_RX4_49 inlX4 tyX4_ok nmX4 rfl rfl (tyX4_ok 7 (by decide)) rfl rfl (by show 7 < 9; decide) rfl rfl ?_
  refine n_aload_n C dX4_init_85 rfl rfl rfl ?_
  refine n_bipush C (v := -5) dX4_init_86 (by decide) rfl ?_
  refine n_put C dX4_init_88 tyX4 (q0 := 0) (j := 8) (T := TX4) (N := 9) (Cn := RX4) (ref := RX4) (ws' := (((((([(a, .inr (4, [.ref m4, .ref m5, .ref m6, .int 0, .ref h, .ref t, .ref n, .int (-5), .int (-5)]))] ++ memW V m4 r4) ++ memW V m5 r5) ++ memW V m6 r6) ++ histW V h hq m r) ++ [(t, .inr (3, [.ref tq, .int 0])), (tq, .inl (V.2.1.2.2.1, 60, .inl (fun _ => 0)))]) ++ [(n, .inr (2, [.ref t, .ref (nq 1), .ref (nq 2), .ref (nq 3), .int 0, .int 0])), (nq 1, .inl (V.2.1.2.2.1, 30, .inl (fun _ => 0))), (nq 2, .inl (V.2.1.1, 30, .inl (fun _ => 0))), (nq 3, .inl (V.2.1.1, 30, .inl (fun _ => 0)))])) rfl rfl (by decide) fl_RX4_53 inlX4 tyX4_ok nmX4 rfl rfl (tyX4_ok 8 (by decide)) rfl rfl (by show 8 < 9; decide) rfl rfl ?_
  exact n_vret C dX4_init_91 D rfl rfl ⟨h, hq, t, tq, n, nq, fun j => [m 0, m 1, m 2, m 3, m4, m5, m6].getD j 0, fun j => [r 0, r 1, r 2, r 3, r4, r5, r6].getD j (fun _ => 0), rfl⟩
