/-! THE LAW FROM ITS ENTRY -/
theorem aw_out {w : Cond} (h : w ∈ AW) : w ∈ lw_tbl := (List.mem_filter.mp h).1
set_option maxRecDepth 100000 in
set_option maxHeartbeats 4000000 in
theorem whole_start {p : Program} {e : Env} {s : State} {m : MethodId} {below : List Frame} {meth : Method} {c : Code} (l : Launch) (hflags : l.flags = flags0) {b L : Nat} {xs : Nat → Int32} (hL : L ≤ 2048) (C0 : lw_At p s m meth c b L xs) : W p l e room_1 s m #[Value.ref b] below meth c s.heap [] 0 0 (lw_Z below #[Value.ref b] s) (entryFrame m ([Value.ref b] : List Value).toArray 4) := by
  obtain ⟨hx, hb, hr, hml, hown, hts, hX, hbl, hlocks, hgv⟩ := id C0
  have htA : ∀ w ∈ AW, w.before #[Value.ref b] s = true := fun w h => hts w (aw_out h)
  obtain ⟨c0, s0, k0⟩ := u_known (C := RX0) (T := TX0) (N := 3) (n := 3) htA inlX0 (htA _ ins_RX0)
  obtain ⟨c1, s1, k1⟩ := u_known (C := RX1) (T := TX1) (N := 17) (n := 17) htA inlX1 (htA _ ins_RX1)
  obtain ⟨c2, s2, k2⟩ := u_known (C := RX2) (T := TX2) (N := 6) (n := 6) htA inlX2 (htA _ ins_RX2)
  obtain ⟨c3, s3, k3⟩ := u_known (C := RX3) (T := TX3) (N := 2) (n := 2) htA inlX3 (htA _ ins_RX3)
  obtain ⟨c4, s4, k4⟩ := u_known (C := RX4) (T := TX4) (N := 9) (n := 9) htA inlX4 (htA _ ins_RX4)
  obtain ⟨c5, s5, k5⟩ := u_known (C := RX5) (T := TX5) (N := 13) (n := 13) htA inlX5 (htA _ ins_RX5)
  obtain ⟨D, hD⟩ : ∃ D : va_G, ∀ (k : Nat) (q : vw_C), clv[k]? = some q → u_Kn s q.1 q.2.1 q.2.2 (D.1 k) (D.2 k) := by
    refine ⟨(fun k => [c0, c1, c2, c3, c4, c5].getD k c0, fun k => [s0, s1, s2, s3, s4, s5].getD k s0), ?_⟩
    intro k q hq
    match k, hq with
    | 0, hq => cases hq; exact k0
    | 1, hq => cases hq; exact k1
    | 2, hq => cases hq; exact k2
    | 3, hq => cases hq; exact k3
    | 4, hq => cases hq; exact k4
    | 5, hq => cases hq; exact k5
    | k + 6, hq => simp [clv] at hq
  obtain ⟨cI, i1, i2⟩ := ac_of (htA _ ac_int)
  obtain ⟨cZ, z1, z2⟩ := ac_of (htA _ ac_boolean)
  obtain ⟨cC, d1, d2⟩ := ac_of (htA _ ac_char)
  obtain ⟨cM, m1, m2⟩ := ao_of (hts _ ao_RX1)
  have KV : ∀ f : Nat → Nat, KC (D, (cI, cZ, cC, cM), f) s := by
    intro f
    refine ⟨⟨⟨hD, fun k q hq => ?_⟩, va_Nw.of rfl (hts _ nl_RX1_153), va_Nw.of rfl (hts _ nl_RX2_65), va_Nw.of rfl (hts _ nl_RX2_68)⟩, va_AO.of (hts _ ao_RX1)⟩
    match k, hq with
    | 0, hq => cases hq; exact ⟨i2, i1⟩
    | 1, hq => cases hq; exact ⟨z2, z1⟩
    | 2, hq => cases hq; exact ⟨d2, d1⟩
    | 3, hq => cases hq; exact ⟨m2, m1⟩
    | k + 4, hq => simp [tyv] at hq
  have hl := lh_entry [.ref b] (n := 4) (fun v hv => by simp at hv; rw [hv]; rfl) (Nat.le_of_ble_eq_true rfl)
  rw [lg_entry_eq]
  obtain ⟨V, hV⟩ : ∃ V : EV, V = (D, (cI, cZ, cC, cM), fun _ => 0) := ⟨_, rfl⟩
  have KV0 : KC V s := by rw [hV]; exact KV _
  have main : ∀ X, X = (p, l, e, room_1, s, m, #[Value.ref b], below, meth, c, (fun q => s.heap.size ≤ q : Nat → Prop), 0, 0, lw_Z below #[Value.ref b] s) → GC V X [] 0 0 0 [some (.ref b), none, none, none] [] := by
    intro X hX2
    have C : OC V X RL code 4 room_1 := by
      rw [hX2]
      exact ⟨rfl, hx, hb, hml, hown, htA, KV0, fun q h => h⟩
    refine n_new C (ci := 4) (Cn := RX4) (T := TX4) (N := 9) (fs := [.null, .null, .null, .int 0, .null, .null, .null, .int 0, .int 0]) dL_law_0 tyX4 tyX4_ok inlX4 cl_RL_7 ins_RX4 ini_RX4 rfl dfX4 (Nat.le_of_ble_eq_true rfl) (Nat.le_of_ble_eq_true rfl) rfl (fun a => ?_)
    refine n_dup C dL_law_3 rfl rfl ?_
    refine n_init (n := 0) (kk := 1) (nn := 9) C dL_law_4 (fun l sz => c_X4_init V a l sz) (wr := []) (wc := [(a, .inr (4, [.null, .null, .null, .int 0, .null, .null, .null, .int 0, .int 0]))]) rfl ml_RL_9 im_X4_init ini_RX4 co_X4_init rfl (by decide +kernel) rfl ⟨rfl, rfl⟩ ⟨Nat.le_of_ble_eq_true rfl, Nat.le_of_ble_eq_true rfl⟩ (Nat.le_of_ble_eq_true rfl) rfl (Nat.le_of_ble_eq_true rfl) (Nat.le_of_ble_eq_true rfl) rfl rfl (fun w1 hw => ?_)
    obtain ⟨h, hq, t, tq, n, nq, mm, r, rfl⟩ := hw
    refine n_astore_n C dL_law_7 rfl (Nat.le_of_ble_eq_true rfl) rfl rfl ?_
    refine n_new C (ci := 5) (Cn := RX5) (T := TX5) (N := 13) (fs := [.null, .null, .null, .int 0, .null, .int 0, .null, .int 0, .int 0, .int 0, .null, .int 0, .int 0]) dL_law_8 tyX5 tyX5_ok inlX5 cl_RL_10 ins_RX5 ini_RX5 rfl dfX5 (Nat.le_of_ble_eq_true rfl) (Nat.le_of_ble_eq_true rfl) rfl (fun b5 => ?_)
    refine n_dup C dL_law_11 rfl rfl ?_
    refine n_swap ?_
    refine n_init (n := 0) (kk := 94) (nn := 2721) C dL_law_12 (fun l sz => c_X5_init V b5 a h hq t tq n nq mm r l sz) (wr := []) (wc := [(b5, .inr (5, [.null, .null, .null, .int 0, .null, .int 0, .null, .int 0, .int 0, .int 0, .null, .int 0, .int 0]))] ++ x4W V a h hq t tq n nq mm r) rfl ml_RL_12 im_X5_init ini_RX5 co_X5_init rfl (by decide +kernel) rfl ⟨rfl, rfl⟩ ⟨Nat.le_of_ble_eq_true rfl, Nat.le_of_ble_eq_true rfl⟩ (Nat.le_of_ble_eq_true rfl) rfl (Nat.le_of_ble_eq_true rfl) (Nat.le_of_ble_eq_true rfl) rfl rfl (fun w1 hw => ?_)
    obtain ⟨z, rfl⟩ := hw
    refine n_astore_n C dL_law_15 rfl (Nat.le_of_ble_eq_true rfl) rfl rfl ?_
    subst hX2
    intro H locs ls hP hD2 hS hls
    have hI : INJ (V.1, V.2.1, adf a b5 h hq t tq n nq mm r z) := fun i j hi hj q => hD2.1 i j _ _ (ws_at _ ini2 hi) (ws_at _ ini2 hj) q
    have KVf : KC (V.1, V.2.1, adf a b5 h hq t tq n nq mm r z) s := by rw [hV]; exact KV _
    exact law_run (V := (V.1, V.2.1, adf a b5 h hq t tq n nq mm r z)) (X := (p, l, e, room_1, s, m, #[Value.ref b], below, meth, c, (fun q => s.heap.size ≤ q : Nat → Prop), 100, 5065, lw_Z below #[Value.ref b] s)) ⟨rfl, hx, hb, hml, hown, htA, KVf.1, hI, fun i hi => hD2.2 i _ (ws_at _ ini2 hi), Nat.le_of_ble_eq_true rfl, Nat.le_of_ble_eq_true rfl⟩ ⟨rfl, rfl, hr, hlocks, hX, hbl, rfl, Nat.le_of_ble_eq_true rfl, Nat.le_of_ble_eq_true rfl, rfl⟩ hL H locs ls hP hS hls
  exact main _ rfl s.heap [] _ (fun k q h => by simp at h) ⟨fun i j p q h => by simp at h, fun k q h => by simp at h⟩ va_S.rf hl
