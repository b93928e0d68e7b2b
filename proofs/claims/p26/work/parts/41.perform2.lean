/-! PURE PART: a text is performed, on both sides -/
theorem zeq_mix (z x : Z) : zeq z (fun i => if i < 313 then z i else x i) := fun i hi => if_pos hi
theorem CH.zq {σ : Mem} {z w : Z} {n o : Nat} {H : Nat → Z} (C : CH σ z n o H) (h : zeq z w) : CH σ w n o H := ⟨C.1, C.2.1, C.2.2.1.zeq h, C.2.2.2⟩
theorem sim_perform {σ : Mem} (S : SS σ) {Q : Int32 → Int32 → Mem → Prop} (h : ∀ r ρ, SS ρ → Q r r ρ) : wp_X4_perform σ (fun r τ => wp_X5_perform τ (fun r' ρ => Q r r' ρ)) := by
  obtain ⟨N, hN, x1, x2, x3⟩ : Tx σ := by
    obtain ⟨n, o, H, C, R, gH, g, s1, s2, s3⟩ := S
    exact s2
  generalize ht : σ 98 = t at x3
  have C : Ch t N := ⟨hN, fun i hi => (x3 i hi).2⟩
  have TAσ : TA σ t N := ⟨x1, fun i hi => (x3 i hi).1⟩
  have TBσ : TB σ t N := ⟨x2, fun i _ => by rw [ht]⟩
  unfold wp_X4_perform
  refine call_ok TAσ C (fun m p τ hpre hflt hp hg => br_f (nI_nn (by omega)) ?_) (fun m τ hpre hfin hg h4 hd => br_t m5_lt ?_)
  · -- a fault
    have Sτ := S.par hg
    have TBτ : TB τ t N := TBσ.far (by rw [hg 93 (by decide) (by decide) (by decide) (by decide)]) (hg 98 (by decide) (by decide) (by decide) (by decide))
    unfold wp_X5_perform
    refine rtext_ok TBτ C (fun m' p' ρ hpre' hflt' hg' h12 => br_t rfl ?_) (fun m' ρ hpre' hfin' hg' h11 hd' => ?_)
    · have em := hpre.un hflt.ng hpre' hflt'.ng
      subst em
      have ep := hflt.un hflt'
      subst ep
      rw [h12]
      exact h _ _ (Sτ.rpar hg')
    · have em := hpre.un hflt.ng hpre' hfin'.ng
      subst em
      exact absurd hfin' hflt.nf
  · -- the things are done
    obtain ⟨n, o, H, CC, R, gH, g, s1, s2, s3⟩ := S.par hg
    have TBτ : TB τ t N := TBσ.far (by rw [hg 93 (by decide) (by decide) (by decide) (by decide)]) (hg 98 (by decide) (by decide) (by decide) (by decide))
    have hm30 := hfin.lt C hpre
    generalize hz : τ 94 = z at CC R g
    refine before_ok CC.2.2.1 g.1 (fun α R12 hα => ?_)
    unfold wp_X2_size
    have e4 : α 89 4 = nI (m + 1) := by rw [hα 89 (by omega)]; exact h4
    rw [e4]
    have R0 : Rel α 0 z := CC.2.2.1.far (fun k _ hk => hα k (by omega))
    have hdα : ∀ j, j ≤ m → CD t N α j := fun j hj => by
      have := hd j hj
      unfold CD at this ⊢
      rw [hα 90 (by omega), hα 91 (by omega), hα 92 (by omega)]
      exact this
    have gw := fun (x : Z) => g.zeq (zeq_mix z x)
    -- what the reference does from a memory like τ on
    have ref : ∀ (r : Int32) (β υ : Mem), TB β t N → FX β υ → υ 94 = z → υ 95 = τ 95 → (∀ x : Mem, FX β x → (∀ k, k < 93 → x k = υ k) → x 94 = z → x 93 11 = nI (m + 1) → x 95 = (fun i => if i < 313 then z i else τ 95 i) → (∀ j, j ≤ m → RD t N x j) → lq2 (rrF (fun r' ρ => Q r r' ρ)) x 0) → wp_X5_perform υ (fun r' ρ => Q r r' ρ) := by
      intro r β υ TBβ fυ e94 e95 hx
      have TBυ : TB υ t N := TBβ.far (fυ.2.2 7 (by decide) (by decide)) (fυ.2.1 98 (by decide) (by decide) (by decide) (by decide) (by decide))
      unfold wp_X5_perform
      refine rtext_ok TBυ C (fun m' p' ρ hpre' hflt' hg' h12 => ?_) (fun m' ρ hpre' hfin' hg' h11 hd' => br_f n10 ?_)
      · have em := hpre.un hfin.ng hpre' hflt'.ng
        subst em
        exact absurd hfin hflt'.nf
      · have em := hpre.un hfin.ng hpre' hfin'.ng
        subst em
        refine copyState_ok (f := 0) (t := 0) nI_0.symm nI_0.symm (by decide) (by decide) (by decide) (fun x c1 c2 c3 => hx x ⟨fun k a b => ?_, fun k a b c d e => ?_, fun i a b => ?_⟩ (fun k hk => ?_) ?_ ?_ ?_ (fun j hj => ?_))
        · rw [c3 k (by omega), hg'.2 k (by omega) (by omega)]; exact fυ.1 k a b
        · rw [c3 k d, hg'.2 k c e]; exact fυ.2.1 k a b c d e
        · rw [c3 93 (by decide), hg'.1 i a b]; exact fυ.2.2 i a b
        · rw [c3 k (by omega), hg'.2 k (by omega) (by omega)]
        · rw [c3 94 (by decide), hg'.2 94 (by decide) (by decide)]; exact e94
        · rw [c3 93 (by decide)]; exact h11
        · funext i
          show x 95 i = if i < 313 then z i else τ 95 i
          by_cases hi : i < 313
          · rw [if_pos hi]
            have := c1 i hi
            rw [Nat.zero_add] at this
            rw [this, hg'.2 94 (by decide) (by decide), e94]
          · rw [if_neg hi, c2 i (by omega), hg'.2 95 (by decide) (by decide), e95]
        · have := hd' j hj
          unfold RD at this ⊢
          rw [c3 99 (by decide)]
          exact this
    refine crun_ok R0 g hm30 hdα (fun zs β hT Rβ Fβ => ?_) (fun zs j e β hj hT hS Fβ => ?_)
    · -- all are done
      have gz := hT.g g (m + 1) (Nat.le_refl _)
      have Cβ : CH β (zs (m + 1)) n o H := CC.mem Rβ (fun k hk => by rw [Fβ k (by omega), hα k (by omega)])
      refine recorded_yes (zb := fun i => if i < 313 then z i else τ 95 i) (nI_ge0 (by omega)) Cβ ((R12.far (fun k a b => Fβ k (by omega))).zeq (zeq_mix z _)) (gw _).1 (fun υ o' Cυ fυ => ?_)
      have chain : ∀ k, 24 ≤ k → ¬ (36 ≤ k ∧ k < 84) → ¬ k = 85 → υ k = τ k := fun k a b c => by rw [fυ k b c, Fβ k (by omega), hα k (by omega)]
      have fx : FX τ υ := ⟨fun k a b => chain k a (by omega) (by omega), fun k a b c d e => chain k (by omega) (by omega) b, fun i a b => by rw [chain 93 (by decide) (by decide) (by decide)]⟩
      refine ref _ τ υ TBτ fx (by rw [chain 94 (by decide) (by decide) (by decide)]; exact hz) (chain 95 (by decide) (by decide) (by decide)) (fun x fxx hlow x94 x11 x95 hdx => ?_)
      refine rrun_ok x94 g hm30 hdx x11 hT (Nat.le_refl _) (Or.inl ⟨rfl, ?_⟩)
      have Rx : RH x z n H := fxx.rh R
      have Cx : CH x (zs (m + 1)) (pushN n) o' (pushH n H (fun i => if i < 313 then z i else τ 95 i)) := Cυ.far (fun k hk => hlow k (by omega))
      refine recordRow_ok (zb := fun i => if i < 313 then z i else τ 95 i) (Rx.set (w := zs (m + 1))) (Or.inr rfl) (by rw [sz_ne _ _ (by decide)]; exact x95) (fun ρ Rρ f1 f2 => ?_)
      have e11 : ρ 93 11 = nI (m + 1) := by rw [f2 11 (by decide), sz_ne _ _ (by decide)]; exact x11
      rw [e11]
      refine h _ _ (SS.mk' (σ := x) Cx (CR.rf x) Rρ ⟨fun k a b c d => ?_, fun i hi => ?_⟩ (pushG gH R.1 (gw _)) gz (fxx.sn s1) (fxx.tx s2) (fxx.sp s3))
      · rw [f1 k a d, sz_ne _ _ b]
      · rw [f2 i hi, sz_ne _ _ (by decide)]
    · -- one stops
      have ee : ¬ e = 0 := by
        obtain ⟨k', s, a, b, -, q⟩ := hS
        exact q.neg.2.2
      refine copy_ok isM_12 isM_0 (by decide) (R12.far (fun k a b => Fβ k (by omega))) g.1 (fun γ Rγ fγ => ?_)
      have chain : ∀ k, 12 ≤ k → γ k = α k := fun k hk => by rw [fγ k (by omega), Fβ k hk]
      have up : ∀ k, ¬ k = 84 → up2 (up2 γ 84 7 (nI j)) 84 8 e k = γ k := fun k hk => by rw [up2_ne _ hk, up2_ne _ hk]
      have chain2 : ∀ k, 24 ≤ k → ¬ k = 84 → up2 (up2 γ 84 7 (nI j)) 84 8 e k = τ k := fun k a b => by rw [up k b, chain k (by omega), hα k (by omega)]
      have u84 : ∀ i, ¬ i = 7 → ¬ i = 8 → up2 (up2 γ 84 7 (nI j)) 84 8 e 84 i = τ 84 i := fun i a b => by rw [up2_eq, pk_un b, up2_eq, pk_un a, chain 84 (by omega), hα 84 (by omega)]
      have u7 : up2 (up2 γ 84 7 (nI j)) 84 8 e 84 7 = nI j := by rw [up2_eq, pk_un (by decide), up2_at]
      have u8 : up2 (up2 γ 84 7 (nI j)) 84 8 e 84 8 = e := up2_at _ _ _ _
      have Cγ : CH (up2 (up2 γ 84 7 (nI j)) 84 8 e) z n o H := CC.mem (Rγ.far (fun k a b => up k (by omega))) (fun k hk => chain2 k (by omega) (by omega))
      generalize up2 (up2 γ 84 7 (nI j)) 84 8 e = υ at chain2 u84 u7 u8 Cγ
      -- the frame, the stop aside
      obtain ⟨τ', e84, eo⟩ : ∃ τ' : Mem, τ' 84 = υ 84 ∧ ∀ k, ¬ k = 84 → τ' k = τ k := ⟨fun k => if k = 84 then υ 84 else τ k, if_pos rfl, fun k hk => if_neg hk⟩
      have e95 : υ 95 = τ 95 := chain2 95 (by decide) (by decide)
      have fx : FX τ' υ := ⟨fun k a b => by rw [eo k (by omega)]; exact chain2 k a (by omega), fun k a b c d f => ?_, fun i a b => by rw [eo 93 (by decide), chain2 93 (by decide) (by decide)]⟩
      · refine ref _ τ' υ (TBτ.far (by rw [eo 93 (by decide)]) (eo 98 (by decide))) fx (by rw [chain2 94 (by decide) (by decide)]; exact hz) e95 (fun x fxx hlow x94 x11 x95 hdx => ?_)
        refine rrun_ok x94 g hm30 hdx x11 hT (by omega) (Or.inr ⟨hj, e, hS, ?_⟩)
        refine copyState_ok (f := 0) (t := 0) nI_0.symm nI_0.symm (by decide) (by decide) (by decide) (fun v c1 c2 c3 => h _ _ ?_)
        have v93 : ∀ i, ¬ i = 8 → ¬ i = 9 → up2 (up2 v 93 8 (nI j)) 93 9 e 93 i = x 93 i := fun i a b => by rw [up2_eq, pk_un b, up2_eq, pk_un a, c3 93 (by decide), sz_ne _ _ (by decide)]
        have v8 : up2 (up2 v 93 8 (nI j)) 93 9 e 93 8 = nI j := by rw [up2_eq, pk_un (by decide), up2_at]
        have v9 : up2 (up2 v 93 8 (nI j)) 93 9 e 93 9 = e := up2_at _ _ _ _
        have vo : ∀ k, ¬ k = 93 → ¬ k = 94 → up2 (up2 v 93 8 (nI j)) 93 9 e k = x k := fun k a b => by rw [up2_ne _ a, up2_ne _ a, c3 k b, sz_ne _ _ b]
        have v94 : zeq z (up2 (up2 v 93 8 (nI j)) 93 9 e 94) := fun i hi => by
          have := c1 i hi
          rw [Nat.zero_add] at this
          rw [up2_ne _ (by decide), up2_ne _ (by decide), this, sz_ne _ _ (by decide), x95]
          exact if_pos hi
        generalize up2 (up2 v 93 8 (nI j)) 93 9 e = y at v93 v8 v9 vo v94
        have x84 : x 84 = υ 84 := hlow 84 (by decide)
        have fy : ∀ k, 84 ≤ k → ¬ k = 84 → ¬ k = 85 → ¬ k = 93 → ¬ k = 94 → ¬ k = 95 → ¬ k = 99 → y k = τ k := fun k a0 a b c d f g => by rw [vo k c d, fxx.2.1 k a0 b c f g, eo k a]
        have fy93 : ∀ i, ¬ i = 8 → ¬ i = 9 → ¬ i = 11 → ¬ i = 12 → y 93 i = τ 93 i := fun i a b c d => by rw [v93 i a b, fxx.2.2 i c d, eo 93 (by decide)]
        have y84 : y 84 = υ 84 := by rw [vo 84 (by decide) (by decide)]; exact x84
        refine ⟨n, o, H, (Cγ.far (fun k hk => ?_)).zq v94, ⟨R.1, rfl, ?_, fun i hi => ?_⟩, gH, g.zeq v94, s1.far ?_ ?_ ?_ (fun k a b => ?_), s2.far ?_ ?_ ?_ ?_, Or.inr ⟨?_, ?_, ?_⟩⟩
        · rw [vo k (by omega) (by omega), hlow k (by omega)]
        · rw [fy93 3 (by decide) (by decide) (by decide) (by decide)]; exact R.2.2.1
        · rw [fy 96 (by decide) (by decide) (by decide) (by decide) (by decide) (by decide) (by decide)]; exact R.2.2.2 i hi
        · rw [y84, u84 3 (by decide) (by decide)]
        · exact fy93 5 (by decide) (by decide) (by decide) (by decide)
        · exact fy 97 (by decide) (by decide) (by decide) (by decide) (by decide) (by decide) (by decide)
        · rw [vo k (by omega) (by omega), fxx.1 k a b, eo k (by omega)]
        · rw [fy 87 (by decide) (by decide) (by decide) (by decide) (by decide) (by decide) (by decide)]
        · exact fy93 7 (by decide) (by decide) (by decide) (by decide)
        · exact fy 88 (by decide) (by decide) (by decide) (by decide) (by decide) (by decide) (by decide)
        · exact fy 98 (by decide) (by decide) (by decide) (by decide) (by decide) (by decide) (by decide)
        · rw [v9]; exact ee
        · rw [y84, u7, v8]
        · rw [y84, u8, v9]
      · by_cases q : k = 84
        · rw [q, e84]
        · rw [eo k q]; exact chain2 k (by omega) q
