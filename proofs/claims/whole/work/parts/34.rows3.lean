/-- asked() tells another number -/
theorem Inv.told {M : Mem} (h : Inv M) (v : Int32) : Inv (sI (sI M 1 10 v) 65 12 v) := by
  have e1 : ∀ x, x ≠ 1 → x ≠ 65 → mI (sI (sI M 1 10 v) 65 12 v) x = mI M x := fun x a b => by rw [mI_sI_row b, mI_sI_row a]
  refine h.rows h.1 rfl rfl (fun x hx => e1 x (by omega) (by omega)) (fun q hq => ?_) (fun q hq => ?_) ?_ (h.2.1.congr (fun x hx => e1 x (by omega) (by omega)))
  · rw [mI_sI_row (by omega), mI_sI, if_neg (by omega)]
  · rw [mI_sI, if_neg (by omega), mI_sI_row (by omega)]
  · rw [mI_sI, if_pos ⟨rfl, rfl⟩, mI_sI_row (by omega), mI_sI, if_pos ⟨rfl, rfl⟩]
theorem op2 {M : Mem} (h : Inv M) (a1 a2 : Int32) : ∃ M', lawOp_2 a1 a2 M = some M' ∧ Inv M' := by
  have hS := h.1
  unfold lawOp_2 f_X7_at f_X8_at
  simp only [KQ hS, if_true]
  rcases ixc a1 6 (by decide) with h1 | ⟨r, hr, rfl⟩
  · rw [rowOf_bad hS h1]
    simp only [Option.bind_some, if_true, KQ hS]
    rw [refused_bad hS h1]
    simp only [Option.bind_some, if_true, show ¬ (-1 : Int32) = 0 by decide, if_false]
    exact ⟨M, rfl, h⟩
  · obtain ⟨w1, w2, w3⟩ := h.2.1 r hr
    obtain ⟨-, k1, g1, k2, l2⟩ := rowF hS hr
    rw [rowOf_ok hS hr]
    simp only [Option.bind_some, show ¬ 39 + 2 * r = 0 by omega, if_false]
    rw [isMissing_X hS hr]
    rcases szc w1 with hz | ⟨s, hs, hz⟩
    · simp only [hz, if_true, Option.bind_some, show ¬ (1 : Int32) = 0 by decide, if_false]
      rw [show f_X7_refuse 1 1 M = some (-3, rf 1 M) from refuse_X hS (by decide)]
      simp only [Option.bind_some, KQ hS.rf, if_true]
      rw [refused_no hS.rf hr (by rw [rf_row (by decide) (by decide), w2, hz])]
      simp only [Option.bind_some, show ¬ (-3 : Int32) = 0 by decide, if_false, if_true]
      exact ⟨_, rfl, h.refused (by decide)⟩
    · rw [hz]
      simp only [n1 (show s < 2 ^ 31 by omega), if_false, Option.bind_some, if_true]
      rw [has_X hS hr, hz]
      rcases ixc a2 s (by omega) with h2 | ⟨j, hj, rfl⟩
      · have hcond : (if a2 < 0 then (0 : Int32) else if nI s ≤ a2 then 0 else 1) = 0 := by
          by_cases q : a2 < 0
          · rw [if_pos q]
          · rw [if_neg q, if_pos (h2.resolve_left q)]
        simp only [hcond, Option.bind_some, if_true]
        rw [show f_X7_refuse 1 2 M = some (-3, rf 2 M) from refuse_X hS (by decide)]
        simp only [Option.bind_some, KQ hS.rf, if_true]
        rw [refused_be hS.rf hr hs (by rw [rf_row (by decide) (by decide), w2, hz]) h2]
        simp only [Option.bind_some, show ¬ (-3 : Int32) = 0 by decide, if_false, if_true]
        exact ⟨_, rfl, h.refused (by decide)⟩
      · simp only [if_neg (nI_pos (show j < 2 ^ 31 by omega)), if_neg (nI_ge hj (show s < 2 ^ 31 by omega)), Option.bind_some, show ¬ (1 : Int32) = 0 by decide, if_false, g1, gR_sI, KQ hS, pI_k]
        rw [aI_k k2 (by rw [l2]; omega)]
        simp only [Option.bind_some]
        have hS1 : SF (sI M 1 10 (mI M (40 + 2 * r) j)) := hS
        simp only [KQ hS1, if_true]
        rw [refused_ok hS1 hr hs (by rw [mI_sI_row (by decide), w2, hz]) hj]
        simp only [Option.bind_some, if_true, RQ hS1, m40]
        rw [aI_k (by simp only [KQ hS1]) (by simp only [LQ]; omega)]
        simp only [Option.bind_some]
        rw [tell_Y hS1]
        simp only [Option.bind_some, if_true]
        refine ⟨_, rfl, ?_⟩
        rw [mI_sI_row (by decide), w3 j (by omega)]
        exact h.told _
theorem op3 {M : Mem} (h : Inv M) (a1 : Int32) : ∃ M', lawOp_3 a1 M = some M' ∧ Inv M' := by
  have hS := h.1
  unfold lawOp_3 f_X7_tear f_X8_tear
  simp only [KQ hS, if_true]
  rcases ixc a1 6 (by decide) with h1 | ⟨r, hr, rfl⟩
  · rw [rowOf_bad hS h1]
    simp only [Option.bind_some, if_true, KQ hS]
    rw [isRow_bad h1]
    simp only [Option.bind_some, if_true]
    exact ⟨M, rfl, h⟩
  · obtain ⟨w1, w2, w3⟩ := h.2.1 r hr
    obtain ⟨-, k1, g1, k2, l2⟩ := rowF hS hr
    rw [rowOf_ok hS hr]
    simp only [Option.bind_some, show ¬ 39 + 2 * r = 0 by omega, if_false]
    rw [isMissing_X hS hr]
    rcases szc w1 with hz | ⟨s, hs, hz⟩
    · simp only [hz, if_true, Option.bind_some, show ¬ (1 : Int32) = 0 by decide, if_false]
      rw [show f_X7_refuse 1 1 M = some (-3, rf 1 M) from refuse_X hS (by decide)]
      simp only [Option.bind_some, KQ hS.rf, if_true]
      rw [isRow_ok hr]
      simp only [Option.bind_some, show ¬ (1 : Int32) = 0 by decide, if_false, RQ hS.rf]
      rw [aI_k (by simp only [KQ hS.rf]) (by simp only [LQ]; omega), rf_row (by decide) (by decide), w2, hz, show f_X8_find 65 1 (rf 1 M) = some (-3, rm_ 1 (rf 1 M)) from find_Y hS.rf (by decide)]
      simp only [Option.bind_some, show ¬ (0 : Int32) ≤ -1 by decide, if_false, if_true]
      exact ⟨_, rfl, h.refused (by decide)⟩
    · rw [hz]
      simp only [n1 (show s < 2 ^ 31 by omega), if_false, Option.bind_some, if_true]
      rw [pI_k k1]
      simp only [Option.bind_some]
      generalize hM1 : sI M (39 + 2 * r) 1 (-1) = M1
      have hS1 : SF M1 := by rw [← hM1]; exact hS
      have e1 : ∀ x, x ≠ 39 + 2 * r → mI M1 x = mI M x := fun x a => by rw [← hM1, mI_sI_row a]
      simp only [KQ hS1, if_true]
      rw [isRow_ok hr]
      simp only [Option.bind_some, show ¬ (1 : Int32) = 0 by decide, if_false, RQ hS1]
      rw [aI_k (by simp only [KQ hS1]) (by simp only [LQ]; omega), e1 72 (by omega), w2, hz, eI_k (by simp only [KQ hS1]) (by simp only [LQ]; omega)]
      simp only [Option.bind_some, nI_pos' (show s < 2 ^ 31 by omega), if_true]
      refine ⟨_, rfl, ?_⟩
      refine h.rows (SF.sI hS1) (by rw [← hM1]; rfl) (by rw [← hM1]; rfl) (fun x hx => ?_) (fun q hq => ?_) (fun q hq => ?_) ?_ (fun q hq => ?_)
      · rw [mI_sI_row (by omega), e1 x (by omega)]
      · rw [mI_sI_row (by omega), e1 1 (by omega)]
      · rw [mI_sI_row (by omega), e1 65 (by omega)]
      · rw [mI_sI_row (by omega), e1 65 (by omega), mI_sI_row (by omega), e1 1 (by omega)]
        exact h.2.2.2.1.1
      · obtain ⟨v1, v2, v3⟩ := h.2.1 q hq
        rw [mI_sI_row (x := 72) (y := 39 + 2 * q) (by omega), mI_sI_row (x := 72) (y := 40 + 2 * q) (by omega), mI_sI_row (x := 72) (y := 73) (by omega), e1 73 (by omega), e1 (40 + 2 * q) (by omega), mI_sI, e1 72 (by omega)]
        by_cases hqr : q = r
        · subst hqr
          rw [if_pos ⟨rfl, rfl⟩, ← hM1, mI_sI, if_pos ⟨rfl, rfl⟩]
          exact ⟨⟨0, by omega, rfl⟩, rfl, v3⟩
        · rw [if_neg (by omega), e1 (39 + 2 * q) (by omega)]
          exact ⟨v1, v2, v3⟩
/-- the sum of k ints from place j on -/
theorem total_X {M : Mem} (h : SF M) {r s : Nat} (hr : r < 6) (hs : s ≤ 40) (hz : mI M (39 + 2 * r) 1 = nI s) : f_X4_total (39 + 2 * r) M = some (iter (fun j a => a + (mI M (40 + 2 * r) j).toInt64) 0 s 0) := by
  obtain ⟨-, k1, g1, k2, l2⟩ := rowF h hr
  unfold f_X4_total
  rw [if_pos k1]
  have key := lp_up (F := fun fu j (a : Int64) => f_X4_total_4 fu (39 + 2 * r) a (nI j) M) s (fun a => some a) (fun j a => a + (mI M (40 + 2 * r) j).toInt64) (fun _ _ => True)
    (fun fu a _ => by simp only [f_X4_total_4]; rw [gI_k k1, hz, Option.bind_some, if_pos (nI_le (Nat.le_refl _) (by omega))])
    (fun fu j a hj _ => by
      refine ⟨?_, trivial⟩
      simp only [f_X4_total_4]
      rw [gI_k k1, hz, Option.bind_some, if_neg (nI_ge hj (by omega)), g1, Option.bind_some, aI_k k2 (by rw [l2]; omega), Option.bind_some, nI_1])
    s FU 0 0 (by omega) (by unfold FU; omega) trivial
  exact key.1
theorem l0 {s : Nat} (h0 : s ≠ 0) (hs : s < 2 ^ 31) : ¬ (nI s).toInt64 = 0 := by
  rw [nI_l hs, show (0 : Int64) = lN 0 from rfl, lN_eq hs (by decide)]
  exact h0
theorem n0 {s : Nat} (h0 : s ≠ 0) (hs : s < 2 ^ 31) : ¬ nI s = 0 := by
  rw [show (0 : Int32) = nI 0 from rfl, nI_eq hs (by decide)]
  exact h0
theorem mean_Y {M : Mem} (h : SF M) {r s : Nat} (hr : r < 6) (hs : s ≤ 40) (h0 : s ≠ 0) (hz : mI M 72 r = nI s) : f_X8_mean_44 FU 65 (nI r) 0 0 M = f_X8_tell 65 (iter (fun j a => a + (mI M 73 (40 * r + j)).toInt64) 0 s 0 / (nI s).toInt64).toInt32 M := by
  have key := lp_up (F := fun fu j (a : Int64) => f_X8_mean_44 fu 65 (nI r) a (nI j) M) s (fun a => f_X8_tell 65 (a / (nI s).toInt64).toInt32 M) (fun j a => a + (mI M 73 (40 * r + j)).toInt64) (fun _ _ => True)
    (fun fu a _ => by
      simp only [f_X8_mean_44, RQ h, Option.bind_some]
      rw [aI_k (by simp only [KQ h]) (by simp only [LQ]; omega), hz, Option.bind_some, if_pos (nI_le (Nat.le_refl _) (by omega)), Option.bind_some, if_neg (l0 h0 (by omega))]
      rw [tell_Y h]; rfl)
    (fun fu j a hj _ => by
      refine ⟨?_, trivial⟩
      simp only [f_X8_mean_44, RQ h, Option.bind_some]
      rw [aI_k (by simp only [KQ h]) (by simp only [LQ]; omega), hz, Option.bind_some, if_neg (nI_ge hj (by omega)), m40, aI_k (by simp only [KQ h]) (by simp only [LQ]; omega), Option.bind_some, nI_1])
    s FU 0 0 (by omega) (by unfold FU; omega) trivial
  exact key.1
theorem op5 {M : Mem} (h : Inv M) (a1 : Int32) : ∃ M', lawOp_5 a1 M = some M' ∧ Inv M' := by
  have hS := h.1
  unfold lawOp_5 f_X7_mean f_X8_mean
  simp only [KQ hS, if_true]
  rcases ixc a1 6 (by decide) with h1 | ⟨r, hr, rfl⟩
  · rw [rowOf_bad hS h1]
    simp only [Option.bind_some, if_true, KQ hS]
    rw [isRow_bad h1]
    simp only [Option.bind_some, if_true]
    exact ⟨M, rfl, h⟩
  · obtain ⟨w1, w2, w3⟩ := h.2.1 r hr
    obtain ⟨-, k1, g1, k2, l2⟩ := rowF hS hr
    rw [rowOf_ok hS hr]
    simp only [Option.bind_some, show ¬ 39 + 2 * r = 0 by omega, if_false]
    rw [isMissing_X hS hr]
    rcases szc w1 with hz | ⟨s, hs, hz⟩
    · simp only [hz, if_true, Option.bind_some, show ¬ (1 : Int32) = 0 by decide, if_false]
      rw [show f_X7_refuse 1 1 M = some (-3, rf 1 M) from refuse_X hS (by decide)]
      simp only [Option.bind_some, KQ hS.rf, if_true]
      rw [isRow_ok hr]
      simp only [Option.bind_some, show ¬ (1 : Int32) = 0 by decide, if_false, RQ hS.rf]
      rw [aI_k (by simp only [KQ hS.rf]) (by simp only [LQ]; omega), rf_row (by decide) (by decide), w2, hz, show f_X8_find 65 1 (rf 1 M) = some (-3, rm_ 1 (rf 1 M)) from find_Y hS.rf (by decide)]
      simp only [Option.bind_some, show ¬ (0 : Int32) ≤ -1 by decide, if_false, if_true]
      exact ⟨_, rfl, h.refused (by decide)⟩
    · rw [gI_k k1, hz]
      simp only [n1 (show s < 2 ^ 31 by omega), if_false, Option.bind_some, if_true]
      by_cases h0 : s = 0
      · subst h0
        rw [if_pos (show nI 0 = 0 from rfl), show f_X7_refuse 1 4 M = some (-3, rf 4 M) from refuse_X hS (by decide)]
        simp only [Option.bind_some, KQ hS.rf, if_true]
        rw [isRow_ok hr]
        simp only [Option.bind_some, show ¬ (1 : Int32) = 0 by decide, if_false, RQ hS.rf]
        rw [aI_k (by simp only [KQ hS.rf]) (by simp only [LQ]; omega), rf_row (by decide) (by decide), w2, hz]
        simp only [Option.bind_some, nI_pos' (show 0 < 2 ^ 31 by omega), if_true]
        rw [if_pos (show nI 0 = 0 from rfl), show f_X8_find 65 4 (rf 4 M) = some (-3, rm_ 4 (rf 4 M)) from find_Y hS.rf (by decide)]
        simp only [Option.bind_some, if_true]
        exact ⟨_, rfl, h.refused (by decide)⟩
      · rw [if_neg (n0 h0 (by omega)), total_X hS hr hs hz]
        simp only [Option.bind_some, if_neg (l0 h0 (show s < 2 ^ 31 by omega)), KQ hS, pI_k]
        generalize hv : (iter (fun j a => a + (mI M (40 + 2 * r) j).toInt64) 0 s 0 / (nI s).toInt64).toInt32 = v
        have hS1 : SF (sI M 1 10 v) := hS
        simp only [KQ hS1, if_true]
        rw [isRow_ok hr]
        simp only [Option.bind_some, show ¬ (1 : Int32) = 0 by decide, if_false, RQ hS1]
        rw [aI_k (by simp only [KQ hS1]) (by simp only [LQ]; omega), mI_sI_row (by decide), w2, hz]
        simp only [Option.bind_some, nI_pos' (show s < 2 ^ 31 by omega), if_true]
        rw [if_neg (n0 h0 (by omega)), mean_Y hS1 hr hs h0 (by rw [mI_sI_row (by decide), w2, hz]), mI_sI_row (by decide)]
        rw [iter_congr (g := fun j a => a + (mI M (40 + 2 * r) j).toInt64) s 0 0 (fun i a _ hi => by rw [w3 i (by omega)]), hv, tell_Y hS1]
        simp only [Option.bind_some, if_true]
        exact ⟨_, rfl, h.told v⟩
