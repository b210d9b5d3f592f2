/-! ===== mark(), takes(), brings(), count() ===== -/
def mkv (G S : Nat → Nat → Nat) (i o w : Nat) : Int32 := if w = 1 then nI (G 3 o) - nI (tk (G 0 i) (G 3 o)) else if w = 2 then (if td (G 0 i) (G 3 o) = true then 1 else 0) else if w = 3 then nI (G 4 o) - nI (bg (G 0 i) (G 4 o)) else if w = 4 then (if (S 2 0).testBit o = true then 0 else 1) else (if td (G 0 i) (G 3 o) = true then 0 else if td 2 (G 3 o) = true then 1 else 0)
theorem kof1 : ∀ k, k < 6 → ∀ d, d < 10 → kof k 1 = true → td k d = false := by decide +kernel
theorem kof5 : ∀ k, k < 6 → kof k 5 = true → k = 5 := by decide +kernel
theorem td25 : ∀ d, d < 10 → (if (if td 2 d = true then (1 : Int32) else 0) = 0 then some (0 : Int32) else if (if td 5 d = true then (1 : Int32) else 0) = 0 then some 1 else some 0) = some (if td 5 d = true then 0 else if td 2 d = true then 1 else 0) := by decide +kernel
theorem markOfOrder_X {M : Mem} {r n m : Nat} {G S : Nat → Nat → Nat} {q : Nat} (h : Gd M r n m G) (hN : NwP n S (mI M 22) (mI M (22 + 1)) (mI M (22 + 2))) (hB : Bd n m S q) {i o w : Nat} (hi : i < n) (ho : o < m) (h1 : 1 ≤ w) (h5 : w ≤ 5) (hw : kof (G 0 i) w = true) : f_X7_markOfOrder 1 (nI i) (nI w) (nI o) M = some (mkv G S i o w) := by
  have hnm := h.nm
  have hk := (h.s hi).1.2.2
  have hd := (h.o ho).2.1.2.2.2
  unfold f_X7_markOfOrder mkv
  simp only [KQ h.1, RQ h.1, h.R, if_true, Option.bind_some, rollF h.1 h.2.1, (ctab h).1 i hi, (ctab h).2 o ho, tdX _ hk _ (show G 3 o < 10 by omega), show f_X7_isTooDeep 2 (nI (G 3 o)) = _ from tdX 2 (by decide) _ (show G 3 o < 10 by omega), brF h hi ho, goF h hi ho, isDone_X h.1 (Or.inl rfl) hN.1 (lt64 hnm.2.1 hB.2.1) (show o < 6 by omega)]
  rcases (show w = 1 ∨ w = 2 ∨ w = 3 ∨ w = 4 ∨ w = 5 by omega) with rfl | rfl | rfl | rfl | rfl
  · have := kof1 _ hk (G 3 o) (by omega) hw
    rw [if_pos (show nI 1 = 1 by decide), if_pos rfl, btv, if_neg (by rw [this]; decide)]
  · rw [if_neg (show ¬ nI 2 = 1 by decide), if_pos (show nI 2 = 2 by decide), if_neg (show ¬ 2 = 1 by decide), if_pos rfl]
    by_cases hc : td (G 0 i) (G 3 o) = true
    · simp only [hc, if_true, show ¬ (1 : Int32) = 0 by decide, if_false]
    · simp only [hc, if_true, if_false, Bool.false_eq_true]
  · rfl
  · rw [if_neg (show ¬ nI 4 = 1 by decide), if_neg (show ¬ nI 4 = 2 by decide), if_neg (show ¬ nI 4 = 3 by decide), if_pos (show nI 4 = 4 by decide), if_neg (show ¬ 4 = 1 by decide), if_neg (show ¬ 4 = 2 by decide), if_neg (show ¬ 4 = 3 by decide), if_pos rfl]
    by_cases hc : (S 2 0).testBit o = true
    · simp only [hc, if_true, show ¬ (1 : Int32) = 0 by decide, if_false]
    · simp only [hc, if_true, if_false, Bool.false_eq_true]
  · rw [if_neg (show ¬ nI 5 = 1 by decide), if_neg (show ¬ nI 5 = 2 by decide), if_neg (show ¬ nI 5 = 3 by decide), if_neg (show ¬ nI 5 = 4 by decide), if_neg (show ¬ 5 = 1 by decide), if_neg (show ¬ 5 = 2 by decide), if_neg (show ¬ 5 = 3 by decide), if_neg (show ¬ 5 = 4 by decide)]
    by_cases hc : td (G 0 i) (G 3 o) = true
    · simp only [hc, if_true, show ¬ (1 : Int32) = 0 by decide, if_false]
    · simp only [hc, if_true, if_false, Bool.false_eq_true]
      by_cases hc2 : td 2 (G 3 o) = true
      · simp only [hc2, if_true, show ¬ (1 : Int32) = 0 by decide, if_false]
      · simp only [hc2, if_true, if_false, Bool.false_eq_true]
theorem markOf_Y {M : Mem} {r n m : Nat} {G S : Nat → Nat → Nat} {q : Nat} (h : Gd M r n m G) (hP : Part (mI M 66) 0 n S) (hB : Bd n m S q) {i o w : Nat} (hi : i < n) (ho : o < m) (h1 : 1 ≤ w) (h5 : w ≤ 5) (hw : kof (G 0 i) w = true) : f_X8_markOf 65 (nI i) (nI o) (nI w) M = some (mkv G S i o w) := by
  have hnm := h.nm
  have hk := (h.s hi).1.2.2
  have hd := (h.o ho).2.1.2.2.2
  unfold f_X8_markOf mkv
  simp only [KQ h.1, RQ h.1, if_true, Option.bind_some, (mtab h).1 i hi, (mtab h).2 o ho, tdY _ hk _ (show G 3 o < 10 by omega), show f_X8_isTooDeep 2 (nI (G 3 o)) = _ from tdY 2 (by decide) _ (show G 3 o < 10 by omega), show f_X8_isTooDeep 5 (nI (G 3 o)) = _ from tdY 5 (by decide) _ (show G 3 o < 10 by omega), tkn h hi ho, brt h hi ho]
  rw [show aI M 66 2 = _ from aI_k (j := 2) (by simp only [KQ h.1]) (by simp only [LQ]; omega), show mI M 66 2 = _ from hP.2.1]
  simp only [Option.bind_some, hs2 _ (lt64 hnm.2.1 hB.2.1) o (show o < 6 by omega)]
  rcases (show w = 1 ∨ w = 2 ∨ w = 3 ∨ w = 4 ∨ w = 5 by omega) with rfl | rfl | rfl | rfl | rfl
  · rfl
  · rw [if_neg (show ¬ nI 2 = 1 by decide), if_pos (show nI 2 = 2 by decide), if_neg (show ¬ 2 = 1 by decide), if_pos rfl]
    by_cases hc : td (G 0 i) (G 3 o) = true
    · simp only [hc, if_true, show ¬ (1 : Int32) = 0 by decide, if_false]
    · simp only [hc, if_true, if_false, Bool.false_eq_true]
  · rfl
  · rw [if_neg (show ¬ nI 4 = 1 by decide), if_neg (show ¬ nI 4 = 2 by decide), if_neg (show ¬ nI 4 = 3 by decide), if_pos (show nI 4 = 4 by decide), if_neg (show ¬ 4 = 1 by decide), if_neg (show ¬ 4 = 2 by decide), if_neg (show ¬ 4 = 3 by decide), if_pos rfl]
    by_cases hc : (S 2 0).testBit o = true
    · simp only [hc, if_true, show ¬ (1 : Int32) = 0 by decide, if_false]
    · simp only [hc, if_true, if_false, Bool.false_eq_true]
  · rw [if_neg (show ¬ nI 5 = 1 by decide), if_neg (show ¬ nI 5 = 2 by decide), if_neg (show ¬ nI 5 = 3 by decide), if_neg (show ¬ nI 5 = 4 by decide), if_neg (show ¬ 5 = 1 by decide), if_neg (show ¬ 5 = 2 by decide), if_neg (show ¬ 5 = 3 by decide), if_neg (show ¬ 5 = 4 by decide), kof5 _ hk hw]
    exact td25 (G 3 o) (by omega)
theorem isOfY {M : Mem} {r n m : Nat} {G : Nat → Nat → Nat} (h : Gd M r n m G) {i w : Nat} (hi : i < n) (h1 : 1 ≤ w) (h5 : w ≤ 5) : f_X8_isOf 65 (nI i) (nI w) M = some (if kof (G 0 i) w = true then 1 else 0) := by
  unfold f_X8_isOf f_X8_isOf_22
  simp only [KQ h.1, RQ h.1, if_true, Option.bind_some, (mtab h).1 i hi]
  have hk := (h.s hi).1.2.2
  have key : ∀ k, k < 6 → ∀ w, w < 6 → 1 ≤ w → (if nI k = nI w then some (1 : Int32) else if nI w = 1 then if nI k = 4 then some 1 else if nI w = 2 then if nI k = 5 then some 1 else some 0 else some 0 else if nI w = 2 then if nI k = 5 then some 1 else some 0 else some 0) = some (if kof k w = true then 1 else 0) := by decide +kernel
  exact key _ hk w (by omega) h1
theorem mark_X {M : Mem} {r n m : Nat} {G S : Nat → Nat → Nat} {q : Nat} (h : Gd M r n m G) (hN : NwP n S (mI M 22) (mI M (22 + 1)) (mI M (22 + 2))) (hB : Bd n m S q) {i w : Nat} (hi : i < n) (h1 : 1 ≤ w) (h5 : w ≤ 5) (hw : kof (G 0 i) w = true) : f_X7_mark_50 FU 1 (nI i) (nI w) 0 0 M = some (iter (fun o a => a + mkv G S i o w) 0 m 0, M) := by
  have hnm := h.nm
  have key := lp_up (F := fun fu j (a : Int32) => f_X7_mark_50 fu 1 (nI i) (nI w) a (nI j) M) m (fun a => some (a, M)) (fun o a => a + mkv G S i o w) (fun _ _ => True)
    (fun fu a _ => by simp only [f_X7_mark_50, h.R, h.sz, Option.bind_some]; rw [if_pos (nI_le (Nat.le_refl _) (by omega))])
    (fun fu j a hj _ => by
      refine ⟨?_, trivial⟩
      simp only [f_X7_mark_50, h.R, h.sz, Option.bind_some]
      rw [if_neg (nI_ge hj (by omega)), markOfOrder_X h hN hB hi hj h1 h5 hw, Option.bind_some, nI_1])
    m FU 0 0 (by omega) (by unfold FU; omega) trivial
  exact key.1
theorem mark_Y {M : Mem} {r n m : Nat} {G S : Nat → Nat → Nat} {q : Nat} (h : Gd M r n m G) (hP : Part (mI M 66) 0 n S) (hB : Bd n m S q) {i w : Nat} (hi : i < n) (h1 : 1 ≤ w) (h5 : w ≤ 5) (hw : kof (G 0 i) w = true) : f_X8_mark_42 FU 65 (nI i) (nI w) 0 0 M = some (iter (fun o a => a + mkv G S i o w) 0 m 0, M) := by
  have hnm := h.nm
  have key := lp_up (F := fun fu j (a : Int32) => f_X8_mark_42 fu 65 (nI i) (nI w) a (nI j) M) m (fun a => some (a, M)) (fun o a => a + mkv G S i o w) (fun _ _ => True)
    (fun fu a _ => by simp only [f_X8_mark_42, h.sz, Option.bind_some]; rw [if_pos (nI_le (Nat.le_refl _) (by omega))])
    (fun fu j a hj _ => by
      refine ⟨?_, trivial⟩
      simp only [f_X8_mark_42, h.sz, Option.bind_some]
      rw [if_neg (nI_ge hj (by omega)), markOf_Y h hP hB hi hj h1 h5 hw, Option.bind_some, nI_1])
    m FU 0 0 (by omega) (by unfold FU; omega) trivial
  exact key.1
theorem op12 {M : Mem} (h : Inv M) (a1 a2 : Int32) : ∃ M', lawOp_12 a1 a2 M = some M' ∧ Inv M' := by
  have hS := h.1
  obtain ⟨r, s, n, m, G, d, cd, -, -, hG, hN, hP, hB, -⟩ := h.op
  have hnm := hG.nm
  have hb := i32_b a2
  unfold lawOp_12 f_X7_mark f_X8_mark
  rw [in_i, show (1 : Int64).toInt = 1 from rfl, show (5 : Int64).toInt = 5 from rfl]
  simp only [KQ hS, if_true, hG.R, Option.bind_some]
  rcases ixc a1 n (by omega) with h1 | ⟨i, hi, rfl⟩
  · rw [hasS_bad hG h1]
    simp only [Option.bind_some, if_true, KQ hS]
    rw [isS_bad hG h1]
    simp only [Option.bind_some, if_true]
    exact ⟨M, rfl, h⟩
  · rw [hasS_ok hG hi]
    simp only [Option.bind_some, show ¬ (1 : Int32) = 0 by decide, if_false]
    by_cases h1 : a2 < 1
    · rw [Int32.lt_iff_toInt_lt, show (1 : Int32).toInt = 1 from rfl] at h1
      rw [if_pos (show a2 < 1 by rw [Int32.lt_iff_toInt_lt]; exact h1), if_neg (show ¬ (1 ≤ a2.toInt ∧ a2.toInt ≤ 5) by omega)]
      simp only [Option.bind_some, if_true, KQ hS, isS_ok hG hi, show ¬ (1 : Int32) = 0 by decide, if_false]
      exact ⟨M, rfl, h⟩
    · rw [if_neg h1]
      rw [Int32.lt_iff_toInt_lt, show (1 : Int32).toInt = 1 from rfl] at h1
      by_cases h2 : a2 ≤ 5
      · rw [if_pos h2]
        rw [Int32.le_iff_toInt_le, show (5 : Int32).toInt = 5 from rfl] at h2
        obtain ⟨w, hw1, hw5, rfl⟩ : ∃ w : Nat, 1 ≤ w ∧ w ≤ 5 ∧ a2 = nI w := ⟨a2.toInt.toNat, by omega, by omega, by apply Int32.toInt_inj.mp; rw [nI_toInt (by omega)]; omega⟩
        rw [if_pos (show 1 ≤ (nI w).toInt ∧ (nI w).toInt ≤ 5 by omega)]
        simp only [rollF hS hG.2.1, Option.bind_some, (ctab hG).1 i hi, isOfX _ (hG.s hi).1.2.2 w (show w < 6 by omega)]
        by_cases hk : kof (G 0 i) w = true
        · simp only [hk, if_true, show ¬ (1 : Int32) = 0 by decide, if_false, mark_X hG hN hB hi hw1 hw5 hk, Option.bind_some, KQ hS, isS_ok hG hi, isOfY hG hi hw1 hw5, mark_Y hG hP hB hi hw1 hw5 hk]
          exact ⟨M, rfl, h⟩
        · simp only [hk, if_true, if_false, Bool.false_eq_true]
          rw [show f_X7_refuse 1 3 M = some (-3, rf 3 M) from refuse_X hS (by decide)]
          have hG1 : Gd (rf 3 M) r n m G := hG.congr hS.rf rfl (fun x hx => rf_row (by omega) (by omega)) (by rw [rf_row (by decide) (by decide)]) (by rw [rf_row (by decide) (by decide)])
          simp only [Option.bind_some, KQ hS.rf, if_true, isS_ok hG1 hi, isOfY hG1 hi hw1 hw5, hk, if_false, Bool.false_eq_true, show ¬ (1 : Int32) = 0 by decide]
          rw [show f_X8_find 65 3 (rf 3 M) = some (-3, rm_ 3 (rf 3 M)) from find_Y hS.rf (by decide)]
          simp only [Option.bind_some, if_true]
          exact ⟨_, rfl, h.refused (by decide)⟩
      · rw [if_neg h2]
        rw [Int32.le_iff_toInt_le, show (5 : Int32).toInt = 5 from rfl] at h2
        rw [if_neg (show ¬ (1 ≤ a2.toInt ∧ a2.toInt ≤ 5) by omega)]
        simp only [Option.bind_some, if_true, KQ hS, isS_ok hG hi, show ¬ (1 : Int32) = 0 by decide, if_false]
        exact ⟨M, rfl, h⟩
theorem op19 {M : Mem} (h : Inv M) (a1 a2 : Int32) : ∃ M', lawOp_19 a1 a2 M = some M' ∧ Inv M' := by
  have hS := h.1
  obtain ⟨r, s, n, m, G, d, cd, -, -, hG, hN, hP, hB, -⟩ := h.op
  have hnm := hG.nm
  refine ⟨M, ?_, h⟩
  unfold lawOp_19 f_X7_takes f_X8_takes
  simp only [KQ hS, if_true, hG.R, Option.bind_some]
  rcases ixc a1 n (by omega) with h1 | ⟨i, hi, rfl⟩
  · simp only [hasS_bad hG h1, isS_bad hG h1, Option.bind_some, if_true]
  · simp only [hasS_ok hG hi, isS_ok hG hi, Option.bind_some, show ¬ (1 : Int32) = 0 by decide, if_false]
    rcases ixc a2 m (by omega) with h2 | ⟨o, ho, rfl⟩
    · simp only [hasO_bad hG h2, isO_bad hG h2, Option.bind_some, if_true]
    · have hd := (hG.o ho).2.1.2.2.2
      simp only [hasO_ok hG ho, isO_ok hG ho, Option.bind_some, show ¬ (1 : Int32) = 0 by decide, if_false, brF hG hi ho, RQ hS, (mtab hG).1 i hi, (mtab hG).2 o ho, tkn hG hi ho, tdY _ (hG.s hi).1.2.2 _ (show G 3 o < 10 by omega), btv]
      by_cases hc : td (G 0 i) (G 3 o) = true
      · simp only [hc, if_true, show ¬ (1 : Int32) = 0 by decide, if_false, Option.bind_some]
      · simp only [hc, if_true, if_false, Bool.false_eq_true, Option.bind_some]
theorem op20 {M : Mem} (h : Inv M) (a1 a2 : Int32) : ∃ M', lawOp_20 a1 a2 M = some M' ∧ Inv M' := by
  have hS := h.1
  obtain ⟨r, s, n, m, G, d, cd, -, -, hG, hN, hP, hB, -⟩ := h.op
  have hnm := hG.nm
  refine ⟨M, ?_, h⟩
  unfold lawOp_20 f_X7_brings f_X8_brings
  simp only [KQ hS, if_true, hG.R, Option.bind_some]
  rcases ixc a1 n (by omega) with h1 | ⟨i, hi, rfl⟩
  · simp only [hasS_bad hG h1, isS_bad hG h1, Option.bind_some, if_true]
  · simp only [hasS_ok hG hi, isS_ok hG hi, Option.bind_some, show ¬ (1 : Int32) = 0 by decide, if_false]
    rcases ixc a2 m (by omega) with h2 | ⟨o, ho, rfl⟩
    · simp only [hasO_bad hG h2, isO_bad hG h2, Option.bind_some, if_true]
    · simp only [hasO_ok hG ho, isO_ok hG ho, Option.bind_some, show ¬ (1 : Int32) = 0 by decide, if_false, goF hG hi ho, brt hG hi ho, if_true]
