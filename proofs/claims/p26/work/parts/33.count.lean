theorem sim_count {σ : Mem} (S : SS σ) (y1 : Int32) {Q : Int32 → Int32 → Prop} (h : ∀ r, Q r r) : wp_X4_count σ y1 (fun r => wp_X5_count σ y1 (fun r' => Q r r')) := by
  obtain ⟨n, o, H, C, R, gH, g, s1, s2, s3⟩ := id S
  obtain ⟨I, F, L, -⟩ := id g
  have Rl := C.2.2.1
  unfold wp_X4_count wp_X1_tellCount wp_X5_count
  by_cases e0 : y1 = 0
  · subst e0
    refine br_f (by decide) (br_f (by decide) (br_t rfl ?_))
    refine br_t rfl ?_
    rw [show σ 0 12 = _ from Rl.day]
    exact h _
  by_cases e1 : y1 = 1
  · subst e1
    refine br_f (by decide) (br_f (by decide) (br_f (by decide) (br_t rfl ?_)))
    unfold wp_X1_freeCells
    refine cellsThatAre_ok Rl I ?_
    refine br_f (by decide) (br_t rfl ?_)
    exact cells_ok (h _)
  by_cases e2 : y1 = 2
  · subst e2
    refine br_f (by decide) (br_f (by decide) (br_f (by decide) (br_f (by decide) (br_t rfl ?_))))
    unfold wp_X1_usedCells
    refine cellsThatAre_ok Rl I ?_
    refine br_f (by decide) (br_f (by decide) (br_t rfl ?_))
    exact cells_ok (h _)
  by_cases e3 : y1 = 3
  · subst e3
    refine br_f (by decide) (br_f (by decide) (br_f (by decide) (br_f (by decide) (br_f (by decide) (br_t rfl ?_)))))
    unfold wp_X1_retiredCells
    refine cellsThatAre_ok Rl I ?_
    refine br_f (by decide) (br_f (by decide) (br_f (by decide) (br_t rfl ?_)))
    exact cells_ok (h _)
  by_cases e4 : y1 = 4
  · subst e4
    refine br_f (by decide) (br_f (by decide) (br_f (by decide) (br_f (by decide) (br_f (by decide) (br_f (by decide) (br_t rfl ?_))))))
    refine waitingCells_ok Rl ?_
    refine br_f (by decide) (br_f (by decide) (br_f (by decide) (br_f (by decide) (br_t rfl ?_))))
    exact waiting_ok (h _)
  by_cases e5 : y1 = 5
  · subst e5
    refine br_f (by decide) (br_f (by decide) (br_f (by decide) (br_f (by decide) (br_f (by decide) (br_f (by decide) (br_f (by decide) (br_t rfl ?_)))))))
    refine br_f (by decide) (br_f (by decide) (br_f (by decide) (br_f (by decide) (br_f (by decide) (br_t rfl ?_)))))
    rw [show σ 0 10 = _ from Rl.len]
    exact h _
  by_cases e6 : y1 = 6
  · subst e6
    refine br_f (by decide) (br_f (by decide) (br_f (by decide) (br_f (by decide) (br_f (by decide) (br_f (by decide) (br_f (by decide) (br_f (by decide) (br_t rfl ?_))))))))
    unfold wp_X1_usedCells
    refine cellsThatAre_ok Rl I ?_
    refine br_f (by decide) (br_f (by decide) (br_f (by decide) (br_f (by decide) (br_f (by decide) (br_f (by decide) (br_t rfl ?_))))))
    refine withCells_ok nI_0.symm rfl (by decide) ?_
    rw [used_pages I]
    exact h _
  by_cases e7 : y1 = 7
  · subst e7
    refine br_f (by decide) (br_f (by decide) (br_f (by decide) (br_f (by decide) (br_f (by decide) (br_f (by decide) (br_f (by decide) (br_f (by decide) (br_f (by decide) (br_t rfl ?_)))))))))
    refine pinnedPages_ok Rl I ?_
    refine br_f (by decide) (br_f (by decide) (br_f (by decide) (br_f (by decide) (br_f (by decide) (br_f (by decide) (br_f (by decide) (br_t rfl ?_)))))))
    exact pinned_ok nI_0.symm rfl (by decide) (h _)
  by_cases e8 : y1 = 8
  · subst e8
    refine br_f (by decide) (br_f (by decide) (br_f (by decide) (br_f (by decide) (br_f (by decide) (br_f (by decide) (br_f (by decide) (br_f (by decide) (br_f (by decide) (br_f (by decide) (br_t rfl ?_))))))))))
    refine br_f (by decide) (br_f (by decide) (br_f (by decide) (br_f (by decide) (br_f (by decide) (br_f (by decide) (br_f (by decide) (br_f (by decide) (br_t rfl ?_))))))))
    rw [show ((4 : Int32) + 8 - 8) = nI 4 from by decide, clI (by omega)]
    rw [show σ 0 14 = _ from Rl.ers]
    exact ⟨inI (by omega) (by decide), h _⟩
  by_cases e9 : y1 = 9
  · subst e9
    refine br_f (by decide) (br_f (by decide) (br_f (by decide) (br_f (by decide) (br_f (by decide) (br_f (by decide) (br_f (by decide) (br_f (by decide) (br_f (by decide) (br_f (by decide) (br_f (by decide) (br_t rfl ?_)))))))))))
    refine br_f (by decide) (br_f (by decide) (br_f (by decide) (br_f (by decide) (br_f (by decide) (br_f (by decide) (br_f (by decide) (br_f (by decide) (br_f (by decide) (br_t rfl ?_)))))))))
    rw [show ((4 : Int32) + 9 - 8) = nI 5 from by decide, clI (by omega)]
    rw [show σ 0 15 = _ from Rl.hrd]
    exact ⟨inI (by omega) (by decide), h _⟩
  by_cases e10 : y1 = 10
  · subst e10
    refine br_f (by decide) (br_f (by decide) (br_f (by decide) (br_f (by decide) (br_f (by decide) (br_f (by decide) (br_f (by decide) (br_f (by decide) (br_f (by decide) (br_f (by decide) (br_f (by decide) (br_f (by decide) (br_t rfl ?_))))))))))))
    refine csum_ok (b := 308) Rl.mov ?_
    refine br_f (by decide) (br_f (by decide) (br_f (by decide) (br_f (by decide) (br_f (by decide) (br_f (by decide) (br_f (by decide) (br_f (by decide) (br_f (by decide) (br_f (by decide) (br_t rfl ?_))))))))))
    rw [show ((4 : Int32) + 10 - 8) = nI 6 from by decide, clI (by omega)]
    rw [← I.2.2.2.2.2.2.1]
    exact ⟨inI (by omega) (by decide), h _⟩
  by_cases e11 : y1 = 11
  · subst e11
    refine br_f (by decide) (br_f (by decide) (br_f (by decide) (br_f (by decide) (br_f (by decide) (br_f (by decide) (br_f (by decide) (br_f (by decide) (br_f (by decide) (br_f (by decide) (br_f (by decide) (br_f (by decide) (br_f (by decide) (br_t rfl ?_)))))))))))))
    refine csum_ok (b := 303) Rl.los ?_
    refine br_f (by decide) (br_f (by decide) (br_f (by decide) (br_f (by decide) (br_f (by decide) (br_f (by decide) (br_f (by decide) (br_f (by decide) (br_f (by decide) (br_f (by decide) (br_f (by decide) (br_t rfl ?_)))))))))))
    rw [show ((4 : Int32) + 11 - 8) = nI 7 from by decide, clI (by omega)]
    rw [← I.2.2.2.2.2.2.2]
    exact ⟨inI (by omega) (by decide), h _⟩
  by_cases e12 : y1 = 12
  · subst e12
    refine br_f (by decide) (br_f (by decide) (br_f (by decide) (br_f (by decide) (br_f (by decide) (br_f (by decide) (br_f (by decide) (br_f (by decide) (br_f (by decide) (br_f (by decide) (br_f (by decide) (br_f (by decide) (br_f (by decide) (br_f (by decide) (br_t rfl ?_))))))))))))))
    refine br_f (by decide) (br_f (by decide) (br_f (by decide) (br_f (by decide) (br_f (by decide) (br_f (by decide) (br_f (by decide) (br_f (by decide) (br_f (by decide) (br_f (by decide) (br_f (by decide) (br_f (by decide) (br_t rfl ?_))))))))))))
    rw [show ((4 : Int32) + 12 - 8) = nI 8 from by decide, clI (by omega)]
    rw [show σ 0 16 = _ from Rl.sta]
    exact ⟨inI (by omega) (by decide), h _⟩
  by_cases e13 : y1 = 13
  · subst e13
    refine br_f (by decide) (br_f (by decide) (br_f (by decide) (br_f (by decide) (br_f (by decide) (br_f (by decide) (br_f (by decide) (br_f (by decide) (br_f (by decide) (br_f (by decide) (br_f (by decide) (br_f (by decide) (br_f (by decide) (br_f (by decide) (br_f (by decide) (br_t rfl ?_)))))))))))))))
    refine br_f (by decide) (br_f (by decide) (br_f (by decide) (br_f (by decide) (br_f (by decide) (br_f (by decide) (br_f (by decide) (br_f (by decide) (br_f (by decide) (br_f (by decide) (br_f (by decide) (br_f (by decide) (br_f (by decide) (br_t rfl ?_)))))))))))))
    rw [show ((13 : Int32) - 13) = nI 0 from by decide, clI (by omega), show σ 11 0 = _ from Rl.set 0 (by decide)]
    exact ⟨inI (by omega) (by decide), h _⟩
  by_cases e14 : y1 = 14
  · subst e14
    refine br_f (by decide) (br_f (by decide) (br_f (by decide) (br_f (by decide) (br_f (by decide) (br_f (by decide) (br_f (by decide) (br_f (by decide) (br_f (by decide) (br_f (by decide) (br_f (by decide) (br_f (by decide) (br_f (by decide) (br_f (by decide) (br_f (by decide) (br_f (by decide) (br_t rfl ?_))))))))))))))))
    refine br_f (by decide) (br_f (by decide) (br_f (by decide) (br_f (by decide) (br_f (by decide) (br_f (by decide) (br_f (by decide) (br_f (by decide) (br_f (by decide) (br_f (by decide) (br_f (by decide) (br_f (by decide) (br_f (by decide) (br_f (by decide) (br_t rfl ?_))))))))))))))
    rw [show ((14 : Int32) - 13) = nI 1 from by decide, clI (by omega), show σ 11 1 = _ from Rl.set 1 (by decide)]
    exact ⟨inI (by omega) (by decide), h _⟩
  by_cases e15 : y1 = 15
  · subst e15
    refine br_f (by decide) (br_f (by decide) (br_f (by decide) (br_f (by decide) (br_f (by decide) (br_f (by decide) (br_f (by decide) (br_f (by decide) (br_f (by decide) (br_f (by decide) (br_f (by decide) (br_f (by decide) (br_f (by decide) (br_f (by decide) (br_f (by decide) (br_f (by decide) (br_f (by decide) (br_t rfl ?_)))))))))))))))))
    refine br_f (by decide) (br_f (by decide) (br_f (by decide) (br_f (by decide) (br_f (by decide) (br_f (by decide) (br_f (by decide) (br_f (by decide) (br_f (by decide) (br_f (by decide) (br_f (by decide) (br_f (by decide) (br_f (by decide) (br_f (by decide) (br_f (by decide) (br_t rfl ?_)))))))))))))))
    rw [show ((15 : Int32) - 13) = nI 2 from by decide, clI (by omega), show σ 11 2 = _ from Rl.set 2 (by decide)]
    exact ⟨inI (by omega) (by decide), h _⟩
  by_cases e16 : y1 = 16
  · subst e16
    refine br_t rfl ?_
    unfold wp_X0_size
    refine br_f (by decide) (br_f (by decide) (br_f (by decide) (br_f (by decide) (br_f (by decide) (br_f (by decide) (br_f (by decide) (br_f (by decide) (br_f (by decide) (br_f (by decide) (br_f (by decide) (br_f (by decide) (br_f (by decide) (br_f (by decide) (br_f (by decide) (br_f (by decide) (br_t rfl ?_))))))))))))))))
    rw [C.2.2.2.1, R.2.2.1]
    exact h _
  by_cases e17 : y1 = 17
  · subst e17
    refine br_f (by decide) (br_t rfl ?_)
    unfold wp_X3_length
    refine br_f (by decide) (br_f (by decide) (br_f (by decide) (br_f (by decide) (br_f (by decide) (br_f (by decide) (br_f (by decide) (br_f (by decide) (br_f (by decide) (br_f (by decide) (br_f (by decide) (br_f (by decide) (br_f (by decide) (br_f (by decide) (br_f (by decide) (br_f (by decide) (br_f (by decide) (br_t rfl ?_)))))))))))))))))
    obtain ⟨m, hm, a, b, -⟩ := s2
    rw [a, b]
    exact h _
  exact br_f e16 (br_f e17 (br_f e0 (br_f e1 (br_f e2 (br_f e3 (br_f e4 (br_f e5 (br_f e6 (br_f e7 (br_f e8 (br_f e9 (br_f e10 (br_f e11 (br_f e12 (br_f e13 (br_f e14 (br_f e15 (br_f e0 (br_f e1 (br_f e2 (br_f e3 (br_f e4 (br_f e5 (br_f e6 (br_f e7 (br_f e8 (br_f e9 (br_f e10 (br_f e11 (br_f e12 (br_f e13 (br_f e14 (br_f e15 (br_f e16 (br_f e17 (h _))))))))))))))))))))))))))))))))))))
