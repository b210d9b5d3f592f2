theorem isMissing_X {M : Mem} (h : SF M) {r : Nat} (hr : r < 6) : f_X4_isMissing (39 + 2 * r) M = some (if mI M (39 + 2 * r) 1 = -1 then 1 else 0) := by
  obtain ⟨-, k1, g1, k2, l2⟩ := rowF h hr
  unfold f_X4_isMissing
  rw [if_pos k1, gI_k k1, Option.bind_some]
  by_cases hh : mI M (39 + 2 * r) 1 = -1
  · simp [hh]
  · simp [hh]
theorem has_X {M : Mem} (h : SF M) {r : Nat} (hr : r < 6) (x : Int32) : f_X4_has (39 + 2 * r) x M = some (if x < 0 then 0 else if mI M (39 + 2 * r) 1 ≤ x then 0 else 1) := by
  obtain ⟨-, k1, g1, k2, l2⟩ := rowF h hr
  unfold f_X4_has
  rw [if_pos k1, gI_k k1]
  by_cases h1 : x < 0
  · simp [h1]
  · by_cases h2 : mI M (39 + 2 * r) 1 ≤ x
    · simp [h1, h2]
    · simp [h1, h2]
theorem tell_Y {M : Mem} (h : SF M) (v : Int32) : f_X8_tell 65 v M = some (1, sI M 65 12 v) := by
  unfold f_X8_tell
  simp only [KQ h, if_true, pI_k, Option.bind_some]
/-- how large a row is: none, or a number -/
theorem szc {x : Int32} {N : Nat} (h : ∃ z, z ≤ N + 1 ∧ x = nI z - 1) : x = -1 ∨ ∃ s, s ≤ N ∧ x = nI s := by
  obtain ⟨z, hz, e⟩ := h
  cases z with
  | zero => exact Or.inl (by rw [e]; rfl)
  | succ z => exact Or.inr ⟨z, by omega, by rw [e, nI_pred]⟩
theorem szi {N : Nat} {x : Int32} (h : x = -1 ∨ ∃ s, s ≤ N ∧ x = nI s) : ∃ z, z ≤ N + 1 ∧ x = nI z - 1 := by
  rcases h with h | ⟨s, hs, e⟩
  · exact ⟨0, by omega, by rw [h]; rfl⟩
  · exact ⟨s + 1, by omega, by rw [e, nI_pred]⟩
theorem n1 {s : Nat} (h : s < 2 ^ 31) : ¬ nI s = -1 := by
  intro q
  have := congrArg Int32.toInt q
  rw [nI_toInt h] at this
  have h2 : (-1 : Int32).toInt = -1 := rfl
  omega
theorem refused_bad {M : Mem} (h : SF M) {x : Int32} (hx : x < 0 ∨ nI 6 ≤ x) (i : Int32) : f_X8_refused 65 x i M = some (-1, M) := by
  unfold f_X8_refused
  rw [isRow_bad hx]
  simp only [KQ h, if_true, Option.bind_some]
theorem refused_no {M : Mem} (h : SF M) {r : Nat} (hr : r < 6) (hz : mI M 72 r = -1) (i : Int32) : f_X8_refused 65 (nI r) i M = some (-3, rm_ 1 M) := by
  unfold f_X8_refused
  rw [isRow_ok hr]
  simp only [KQ h, RQ h, if_true, Option.bind_some, show ¬ (1 : Int32) = 0 by decide, if_false]
  rw [aI_k (by simp only [KQ h]) (by simp only [LQ]; omega), hz, show f_X8_find 65 1 M = some (-3, rm_ 1 M) from find_Y h (by decide)]
  simp only [Option.bind_some, show ¬ (0 : Int32) ≤ -1 by decide, if_false]
theorem refused_be {M : Mem} (h : SF M) {r s : Nat} (hr : r < 6) (hs : s ≤ 40) (hz : mI M 72 r = nI s) {i : Int32} (hi : i < 0 ∨ nI s ≤ i) : f_X8_refused 65 (nI r) i M = some (-3, rm_ 2 M) := by
  unfold f_X8_refused
  rw [isRow_ok hr]
  simp only [KQ h, RQ h, if_true, Option.bind_some, show ¬ (1 : Int32) = 0 by decide, if_false]
  rw [aI_k (by simp only [KQ h]) (by simp only [LQ]; omega), hz]
  simp only [Option.bind_some, nI_pos' (show s < 2 ^ 31 by omega), if_true]
  have hin : f_X8_in (Int32.toInt64 i) 0 (Int32.toInt64 (nI s - 1)) = 0 := by
    rw [in_i, if_neg]
    rw [Int32.lt_iff_toInt_lt, Int32.le_iff_toInt_le, nI_toInt (show s < 2 ^ 31 by omega), show (0 : Int32).toInt = 0 from rfl] at hi
    rw [Int32.toInt_toInt64, show (nI s - 1).toInt = (s : Int) - 1 from pk_sub_toInt (b := 1) (by omega) (by decide), show (0 : Int64).toInt = 0 from rfl]
    omega
  rw [hin, show f_X8_find 65 2 M = some (-3, rm_ 2 M) from find_Y h (by decide)]
  simp only [if_true, Option.bind_some]
theorem refused_ok {M : Mem} (h : SF M) {r s j : Nat} (hr : r < 6) (hs : s ≤ 40) (hz : mI M 72 r = nI s) (hj : j < s) : f_X8_refused 65 (nI r) (nI j) M = some (0, M) := by
  unfold f_X8_refused
  rw [isRow_ok hr]
  simp only [KQ h, RQ h, if_true, Option.bind_some, show ¬ (1 : Int32) = 0 by decide, if_false]
  rw [aI_k (by simp only [KQ h]) (by simp only [LQ]; omega), hz]
  simp only [Option.bind_some, nI_pos' (show s < 2 ^ 31 by omega), if_true]
  have hin : f_X8_in (Int32.toInt64 (nI j)) 0 (Int32.toInt64 (nI s - 1)) = 1 := by
    rw [in_i, if_pos]
    rw [Int32.toInt_toInt64, show (nI s - 1).toInt = (s : Int) - 1 from pk_sub_toInt (b := 1) (by omega) (by decide), nI_toInt (by omega), show (0 : Int64).toInt = 0 from rfl]
    omega
  rw [hin]
  simp only [show ¬ (1 : Int32) = 0 by decide, if_false]
theorem m40 (r j : Nat) : (40 : Int32) * nI r + nI j = nI (40 * r + j) := by rw [show (40 : Int32) = nI 40 from rfl, pk_mul, nI_add]
theorem op1 {M : Mem} (h : Inv M) (a1 a2 a3 : Int32) : ∃ M', lawOp_1 a1 a2 a3 M = some M' ∧ Inv M' := by
  have hS := h.1
  unfold lawOp_1 f_X7_lay f_X8_lay
  simp only [KQ hS, if_true]
  rcases ixc a1 6 (by decide) with h1 | ⟨r, hr, rfl⟩
  · rw [rowOf_bad hS h1]
    simp only [Option.bind_some, if_true, KQ hS]
    rw [refused_bad hS h1]
    simp only [Option.bind_some, if_true, show ¬ (-1 : Int32) = 0 by decide, if_false]
    exact ⟨M, rfl, h⟩
  · obtain ⟨w1, w2, w3⟩ := h.2.1 r hr
    obtain ⟨-, k1, g1, k2, l2⟩ := rowF hS hr
    rw [rowOf_ok hS hr]
    simp only [Option.bind_some, show ¬ 39 + 2 * r = 0 by omega, if_false]
    rw [isMissing_X hS hr]
    rcases szc w1 with hz | ⟨s, hs, hz⟩
    · simp only [hz, if_true, Option.bind_some, show ¬ (1 : Int32) = 0 by decide, if_false]
      rw [show f_X7_refuse 1 1 M = some (-3, rf 1 M) from refuse_X hS (by decide)]
      simp only [Option.bind_some, KQ hS.rf, if_true]
      rw [refused_no hS.rf hr (by rw [rf_row (by decide) (by decide), w2, hz])]
      simp only [Option.bind_some, show ¬ (-3 : Int32) = 0 by decide, if_false, if_true]
      exact ⟨_, rfl, h.refused (by decide)⟩
    · rw [hz]
      simp only [n1 (show s < 2 ^ 31 by omega), if_false, Option.bind_some, if_true]
      rw [has_X hS hr, hz]
      rcases ixc a2 s (by omega) with h2 | ⟨j, hj, rfl⟩
      · have hcond : (if a2 < 0 then (0 : Int32) else if nI s ≤ a2 then 0 else 1) = 0 := by
          by_cases q : a2 < 0
          · rw [if_pos q]
          · rw [if_neg q, if_pos (h2.resolve_left q)]
        simp only [hcond, Option.bind_some, if_true]
        rw [show f_X7_refuse 1 2 M = some (-3, rf 2 M) from refuse_X hS (by decide)]
        simp only [Option.bind_some, KQ hS.rf, if_true]
        rw [refused_be hS.rf hr hs (by rw [rf_row (by decide) (by decide), w2, hz]) h2]
        simp only [Option.bind_some, show ¬ (-3 : Int32) = 0 by decide, if_false, if_true]
        exact ⟨_, rfl, h.refused (by decide)⟩
      · simp only [if_neg (nI_pos (show j < 2 ^ 31 by omega)), if_neg (nI_ge hj (show s < 2 ^ 31 by omega)), Option.bind_some, show ¬ (1 : Int32) = 0 by decide, if_false, g1, gR_sI, KQ hS, pI_k]
        rw [aI_k k2 (by rw [l2]; omega)]
        simp only [Option.bind_some, g1, gR_sI, KQ hS, pI_k]
        rw [eI_k (by rw [kd_sI]; exact k2) (by rw [l2]; omega)]
        simp only [Option.bind_some]
        generalize hM1 : sI (sI M 1 10 (mI M (40 + 2 * r) j)) (40 + 2 * r) j a3 = M1
        have hS1 : SF M1 := by rw [← hM1]; exact hS
        have e1 : ∀ x, x ≠ 1 → x ≠ 40 + 2 * r → mI M1 x = mI M x := fun x a b => by rw [← hM1, mI_sI_row b, mI_sI_row a]
        simp only [KQ hS1, if_true]
        rw [refused_ok hS1 hr hs (by rw [e1 72 (by omega) (by omega), w2, hz]) hj]
        simp only [Option.bind_some, if_true, RQ hS1, m40]
        rw [aI_k (by simp only [KQ hS1]) (by simp only [LQ]; omega)]
        simp only [Option.bind_some]
        rw [eI_k (by simp only [KQ hS1]) (by simp only [LQ]; omega)]
        simp only [Option.bind_some]
        rw [tell_Y (SF.sI hS1)]
        simp only [Option.bind_some, if_true]
        refine ⟨_, rfl, ?_⟩
        refine h.rows (SF.sI (SF.sI hS1)) (by rw [← hM1]; rfl) (by rw [← hM1]; rfl) (fun x hx => ?_) (fun q hq => ?_) (fun q hq => ?_) ?_ (fun q hq => ?_)
        · rw [mI_sI_row (by omega), mI_sI_row (by omega), e1 x (by omega) (by omega)]
        · rw [mI_sI_row (by omega), mI_sI_row (by omega), ← hM1, mI_sI_row (by omega), mI_sI, if_neg (by omega)]
        · rw [mI_sI, if_neg (by omega), mI_sI_row (by omega), e1 65 (by omega) (by omega)]
        · rw [mI_sI, if_pos ⟨rfl, rfl⟩, mI_sI_row (by omega), mI_sI_row (by omega), e1 73 (by omega) (by omega), w3 j (by omega), ← hM1, mI_sI_row (by omega), mI_sI, if_pos ⟨rfl, rfl⟩]
        · obtain ⟨v1, v2, v3⟩ := h.2.1 q hq
          rw [mI_sI_row (x := 65) (y := 39 + 2 * q) (by omega), mI_sI_row (x := 73) (y := 39 + 2 * q) (by omega), mI_sI_row (x := 65) (y := 40 + 2 * q) (by omega), mI_sI_row (x := 73) (y := 40 + 2 * q) (by omega), mI_sI_row (x := 65) (y := 72) (by omega), mI_sI_row (x := 73) (y := 72) (by omega), mI_sI_row (x := 65) (y := 73) (by omega), e1 (39 + 2 * q) (by omega) (by omega), e1 72 (by omega) (by omega)]
          refine ⟨v1, v2, fun i hi => ?_⟩
          rw [mI_sI, e1 73 (by omega) (by omega), ← hM1, mI_sI, mI_sI_row (x := 1) (by omega)]
          by_cases hc : q = r ∧ i = j
          · obtain ⟨rfl, rfl⟩ := hc
            simp
          · rw [if_neg (by omega), if_neg (by omega)]
            exact v3 i hi
