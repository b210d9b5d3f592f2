/-! ===== what a guild is now; sigher(), order(), mark(), takes(), brings() ===== -/
theorem perf_Bd {n m : Nat} {G S : Nat → Nat → Nat} {q c : Nat} (hG : ∀ i, i < n → G 0 i < 6) (hO : ∀ o, o < m → G 4 o ≤ 9) (hB : Bd n m S q) (hc : okc n m c) : Bd n m (perf G c S) (q + 1) := by
  obtain ⟨b1, b2, b3⟩ := hB
  obtain ⟨c1, c2, c3⟩ := hc
  unfold perf
  by_cases h0 : c / 100 = 0
  · rw [if_pos h0]
    refine ⟨fun i hi => ?_, by simpa [walked] using b2, by simp [walked]; omega⟩
    obtain ⟨p1, p2⟩ := b1 i hi
    refine ⟨by simpa [walked] using p1, ?_⟩
    simp only [walked]
    by_cases hi2 : i = c / 10 % 10
    · rw [if_pos ⟨trivial, hi2⟩]; omega
    · rw [if_neg (fun q => hi2 q.2)]; exact p2
  · rw [if_neg h0]
    by_cases h1 : c / 100 = 1
    · rw [if_pos h1]
      by_cases hcan : can G S (c / 10 % 10) (c % 10) = true
      · rw [if_pos hcan]
        have hb := bg_le _ (hG _ c2) (G 4 (c % 10)) (by have := hO _ (c3 h1); omega)
        refine ⟨fun i hi => ?_, ?_, ?_⟩
        · obtain ⟨p1, p2⟩ := b1 i hi
          simp only [sighed, if_true, if_neg (show ¬ (1 : Nat) = 0 by decide)]
          refine ⟨?_, p2⟩
          by_cases hi2 : i = c / 10 % 10
          · rw [if_pos hi2, ← hi2]; omega
          · rw [if_neg hi2]; exact p1
        · simp only [sighed, if_true, if_neg (show ¬ (2 : Nat) = 0 by decide), if_neg (show ¬ (2 : Nat) = 1 by decide)]
          exact Nat.or_lt_two_pow b2 (Nat.pow_lt_pow_right (by decide) (c3 h1))
        · simp only [sighed, if_true, if_neg (show ¬ (2 : Nat) = 0 by decide), if_neg (show ¬ (2 : Nat) = 1 by decide), if_neg (show ¬ (1 : Nat) = 0 by decide)]
          omega
      · rw [if_neg hcan]
        exact ⟨b1, b2, by omega⟩
    · rw [if_neg h1]
      refine ⟨fun i hi => ?_, by simpa [rested] using b2, by simp [rested]; omega⟩
      obtain ⟨p1, p2⟩ := b1 i hi
      refine ⟨?_, by simpa [rested] using p2⟩
      simp only [rested]
      by_cases hi2 : i = c / 10 % 10
      · rw [if_pos ⟨trivial, hi2⟩]
        by_cases h7 : 7 < S 0 (c / 10 % 10)
        · rw [if_pos h7]; omega
        · rw [if_neg h7]; omega
      · rw [if_neg (fun q => hi2 q.2)]; exact p1
theorem run_Bd {n m : Nat} {G : Nat → Nat → Nat} {cd : Nat → Nat} (hG : ∀ i, i < n → G 0 i < 6 ∧ G 5 i ≤ 9) (hO : ∀ o, o < m → G 4 o ≤ 9) : ∀ d, (∀ k, k < d → okc n m (cd k)) → Bd n m (run G cd d) d := by
  intro d
  induction d with
  | zero =>
    intro _
    refine ⟨fun i hi => ?_, ?_, ?_⟩
    · exact ⟨(hG i hi).2, Nat.zero_le _⟩
    · exact Nat.two_pow_pos m
    · exact Nat.zero_le _
  | succ d ih =>
    intro h
    exact perf_Bd (fun i hi => (hG i hi).1) hO (ih (fun k hk => h k (by omega))) (h d (by omega))
theorem Inv.op {M : Mem} (h : Inv M) : ∃ r s n m G d cd, RoP r s M ∧ GhP r (mI M) (mI M 65 1) (mI M 65 4) n m G d cd ∧ Gd M r n m G ∧ NwP n (run G cd d) (mI M 22) (mI M (22 + 1)) (mI M (22 + 2)) ∧ Part (mI M 66) 0 n (run G cd d) ∧ Bd n m (run G cd d) d ∧ d ≤ 40 := by
  obtain ⟨h0, h1, h2, h3, r, s, n, m, G, d, cd, h4, h5⟩ := h
  have hG : Gd M r n m G := ⟨h0, by obtain ⟨q, -, -⟩ := h4; omega, h4.2.1, h5.1⟩
  exact ⟨r, s, n, m, G, d, cd, h4, h5, hG, h5.2.2.1, h5.2.1.2.2.2.2.1, run_Bd (fun i hi => ⟨(hG.s hi).1.2.2, (hG.s hi).2.2.2⟩) (fun o ho => (hG.o ho).2.2.2.2) d (fun k hk => (h5.2.1.2.2.2.1 k hk).2), h5.2.1.1⟩
def sgv (G S : Nat → Nat → Nat) (m i w : Nat) : Int32 := if w = 0 then nI (G 0 i) else if w = 1 then nI (S 0 i) else if w = 2 then nI (G 1 i) else if w = 3 then nI (S 1 i) else iter (fun o a => if can G S i o = true then a ||| nI (2 ^ o) else a) 0 m 0
def orv (G S : Nat → Nat → Nat) (n o w : Nat) : Int32 := if w = 0 then nI (G 2 o) else if w = 1 then nI (G 3 o) else if w = 2 then nI (G 4 o) else if w = 3 then (if (S 2 0).testBit o = true then 1 else 0) else iter (fun i a => if can G S i o = true then a ||| nI (2 ^ i) else a) 0 n 0
theorem ordersFor_X {M : Mem} {r n m : Nat} {G S : Nat → Nat → Nat} {q : Nat} (h : Gd M r n m G) (hN : NwP n S (mI M 22) (mI M (22 + 1)) (mI M (22 + 2))) (hB : Bd n m S q) {i : Nat} (hi : i < n) : f_X7_ordersFor 1 (nI i) M = some (iter (fun o a => if can G S i o = true then a ||| nI (2 ^ o) else a) 0 m 0) := by
  have hnm := h.nm
  unfold f_X7_ordersFor
  simp only [KQ h.1, if_true]
  have key := lp_up (F := fun fu j (a : Int32) => f_X7_ordersFor_4 fu 1 (nI i) a (nI j) M) m (fun a => some a) (fun o a => if can G S i o = true then a ||| nI (2 ^ o) else a) (fun _ _ => True)
    (fun fu a _ => by simp only [f_X7_ordersFor_4, h.R, h.sz, Option.bind_some]; rw [if_pos (nI_le (Nat.le_refl _) (by omega))])
    (fun fu j a hj _ => by
      refine ⟨?_, trivial⟩
      simp only [f_X7_ordersFor_4, h.R, h.sz, Option.bind_some, RQ h.1]
      rw [if_neg (nI_ge hj (by omega)), able_X h (Or.inl rfl) hN (lt64 hnm.2.1 hB.2.1) hi hj (hB.1 i hi).1]
      simp only [Option.bind_some, nI_1, sh1 j (show j < 10 by omega)]
      by_cases hc : can G S i j = true
      · simp only [hc, if_true, show ¬ (1 : Int32) = 0 by decide, if_false]
      · simp only [hc, if_true, if_false, Bool.false_eq_true])
    m FU 0 0 (by omega) (by unfold FU; omega) trivial
  exact key.1
theorem sighersFor_X {M : Mem} {r n m : Nat} {G S : Nat → Nat → Nat} {q : Nat} (h : Gd M r n m G) (hN : NwP n S (mI M 22) (mI M (22 + 1)) (mI M (22 + 2))) (hB : Bd n m S q) {o : Nat} (ho : o < m) : f_X7_sighersFor 1 (nI o) M = some (iter (fun i a => if can G S i o = true then a ||| nI (2 ^ i) else a) 0 n 0) := by
  have hnm := h.nm
  unfold f_X7_sighersFor
  simp only [KQ h.1, if_true]
  have key := lp_up (F := fun fu j (a : Int32) => f_X7_sighersFor_4 fu 1 (nI o) a (nI j) M) n (fun a => some a) (fun i a => if can G S i o = true then a ||| nI (2 ^ i) else a) (fun _ _ => True)
    (fun fu a _ => by simp only [f_X7_sighersFor_4, h.R, h.sz, Option.bind_some]; rw [if_pos (nI_le (Nat.le_refl _) (by omega))])
    (fun fu j a hj _ => by
      refine ⟨?_, trivial⟩
      simp only [f_X7_sighersFor_4, h.R, h.sz, Option.bind_some, RQ h.1]
      rw [if_neg (nI_ge hj (by omega)), able_X h (Or.inl rfl) hN (lt64 hnm.2.1 hB.2.1) hj ho (hB.1 j hj).1]
      simp only [Option.bind_some, nI_1, sh1 j (show j < 10 by omega)]
      by_cases hc : can G S j o = true
      · simp only [hc, if_true, show ¬ (1 : Int32) = 0 by decide, if_false]
      · simp only [hc, if_true, if_false, Bool.false_eq_true])
    n FU 0 0 (by omega) (by unfold FU; omega) trivial
  exact key.1
theorem sigherTells_X {M : Mem} {r n m : Nat} {G S : Nat → Nat → Nat} {q : Nat} (h : Gd M r n m G) (hN : NwP n S (mI M 22) (mI M (22 + 1)) (mI M (22 + 2))) (hB : Bd n m S q) {i w : Nat} (hi : i < n) (hw : w < 5) : f_X7_sigherTells 1 (nI i) (nI w) M = some (sgv G S m i w) := by
  have hnm := h.nm
  unfold f_X7_sigherTells sgv
  simp only [KQ h.1, RQ h.1, h.R, if_true, Option.bind_some, hasS_ok h hi, show ¬ (1 : Int32) = 0 by decide, if_false, rollF h.1 h.2.1, (ctab h).1 i hi, ordersFor_X h hN hB hi]
  rw [aI_k (by simp only [KQ h.1]) (by simp only [LQ]; omega), aI_k (by simp only [KQ h.1]) (by simp only [LQ]; omega), show mI M 23 i = _ from (hN.2.2 i hi).1, show mI M 24 i = _ from (hN.2.2 i hi).2]
  rcases (show w = 0 ∨ w = 1 ∨ w = 2 ∨ w = 3 ∨ w = 4 by omega) with rfl | rfl | rfl | rfl | rfl
  all_goals rfl
theorem orderTells_X {M : Mem} {r n m : Nat} {G S : Nat → Nat → Nat} {q : Nat} (h : Gd M r n m G) (hN : NwP n S (mI M 22) (mI M (22 + 1)) (mI M (22 + 2))) (hB : Bd n m S q) {o w : Nat} (ho : o < m) (hw : w < 5) : f_X7_orderTells 1 (nI o) (nI w) M = some (orv G S n o w) := by
  have hnm := h.nm
  unfold f_X7_orderTells orv
  simp only [KQ h.1, RQ h.1, h.R, if_true, Option.bind_some, hasO_ok h ho, show ¬ (1 : Int32) = 0 by decide, if_false, rollF h.1 h.2.1, (ctab h).2 o ho, sighersFor_X h hN hB ho, isDone_X h.1 (Or.inl rfl) hN.1 (lt64 hnm.2.1 hB.2.1) (show o < 6 by omega)]
  rcases (show w = 0 ∨ w = 1 ∨ w = 2 ∨ w = 3 ∨ w = 4 by omega) with rfl | rfl | rfl | rfl | rfl
  · rfl
  · rfl
  · rfl
  · rw [if_neg (show ¬ nI 3 = 0 by decide), if_neg (show ¬ nI 3 = 1 by decide), if_neg (show ¬ nI 3 = 2 by decide), if_pos (show nI 3 = 3 by decide)]
    by_cases hc : (S 2 0).testBit o = true
    · simp only [hc, if_true, show ¬ (1 : Int32) = 0 by decide, if_false]; rfl
    · simp only [hc, if_true, if_false, Bool.false_eq_true]; rfl
  · rfl
theorem sigherTold_Y {M : Mem} {r n m : Nat} {G S : Nat → Nat → Nat} {q : Nat} (h : Gd M r n m G) (hP : Part (mI M 66) 0 n S) (hB : Bd n m S q) {i w : Nat} (hi : i < n) (hw : w < 5) : f_X8_sigherTold 65 (nI i) (nI w) M = some (sgv G S m i w) := by
  have hnm := h.nm
  have key := lp_up (F := fun fu j (a : Int32) => f_X8_sigherTold_68 fu 65 (nI i) a (nI j) M) m (fun a => some a) (fun o a => if can G S i o = true then a ||| nI (2 ^ o) else a) (fun _ _ => True)
    (fun fu a _ => by simp only [f_X8_sigherTold_68, h.sz, Option.bind_some]; rw [if_pos (nI_le (Nat.le_refl _) (by omega))])
    (fun fu j a hj _ => by
      refine ⟨?_, trivial⟩
      simp only [f_X8_sigherTold_68, h.sz, Option.bind_some, RQ h.1]
      rw [if_neg (nI_ge hj (by omega)), show f_X8_can 65 0 (nI i) (nI j) M = _ from can_Y h (b := 0) (by omega) hP (lt64 hnm.2.1 hB.2.1) hi hj (hB.1 i hi).1]
      simp only [Option.bind_some, nI_1, sh1 j (show j < 10 by omega), Int32.or_zero]
      by_cases hc : can G S i j = true
      · simp only [hc, if_true, show ¬ (1 : Int32) = 0 by decide, if_false]
      · simp only [hc, if_true, if_false, Bool.false_eq_true])
    m FU 0 0 (by omega) (by unfold FU; omega) trivial
  unfold f_X8_sigherTold sgv
  simp only [KQ h.1, RQ h.1, if_true, Option.bind_some, (mtab h).1 i hi, show (3 : Int32) + nI i = nI (3 + i) from nI_add 3 i, show (8 : Int32) + nI i = nI (8 + i) from nI_add 8 i, show f_X8_sigherTold_68 FU 65 (nI i) 0 0 M = _ from key.1]
  rw [aI_k (by simp only [KQ h.1]) (by simp only [LQ]; omega), aI_k (by simp only [KQ h.1]) (by simp only [LQ]; omega), show mI M 66 (3 + i) = _ from (hP.2.2 i hi).1, show mI M 66 (8 + i) = _ from (hP.2.2 i hi).2]
  rcases (show w = 0 ∨ w = 1 ∨ w = 2 ∨ w = 3 ∨ w = 4 by omega) with rfl | rfl | rfl | rfl | rfl
  all_goals rfl
theorem bit1 : ∀ s, s < 64 → ∀ k, k < 6 → (nI s >>> (nI k &&& 31)) &&& 1 = if s.testBit k = true then 1 else 0 := by decide +kernel
theorem orderTold_Y {M : Mem} {r n m : Nat} {G S : Nat → Nat → Nat} {q : Nat} (h : Gd M r n m G) (hP : Part (mI M 66) 0 n S) (hB : Bd n m S q) {o w : Nat} (ho : o < m) (hw : w < 5) : f_X8_orderTold 65 (nI o) (nI w) M = some (orv G S n o w) := by
  have hnm := h.nm
  have key := lp_up (F := fun fu j (a : Int32) => f_X8_orderTold_67 fu 65 (nI o) a (nI j) M) n (fun a => some a) (fun i a => if can G S i o = true then a ||| nI (2 ^ i) else a) (fun _ _ => True)
    (fun fu a _ => by simp only [f_X8_orderTold_67, h.sz, Option.bind_some]; rw [if_pos (nI_le (Nat.le_refl _) (by omega))])
    (fun fu j a hj _ => by
      refine ⟨?_, trivial⟩
      simp only [f_X8_orderTold_67, h.sz, Option.bind_some, RQ h.1]
      rw [if_neg (nI_ge hj (by omega)), show f_X8_can 65 0 (nI j) (nI o) M = _ from can_Y h (b := 0) (by omega) hP (lt64 hnm.2.1 hB.2.1) hj ho (hB.1 j hj).1]
      simp only [Option.bind_some, nI_1, sh1 j (show j < 10 by omega), Int32.or_zero]
      by_cases hc : can G S j o = true
      · simp only [hc, if_true, show ¬ (1 : Int32) = 0 by decide, if_false]
      · simp only [hc, if_true, if_false, Bool.false_eq_true])
    n FU 0 0 (by omega) (by unfold FU; omega) trivial
  unfold f_X8_orderTold orv
  simp only [KQ h.1, RQ h.1, if_true, Option.bind_some, (mtab h).2 o ho, show f_X8_orderTold_67 FU 65 (nI o) 0 0 M = _ from key.1]
  rw [show aI M 66 2 = _ from aI_k (j := 2) (by simp only [KQ h.1]) (by simp only [LQ]; omega), show mI M 66 2 = _ from hP.2.1]
  simp only [Option.bind_some, bit1 _ (lt64 hnm.2.1 hB.2.1) o (show o < 6 by omega)]
  rcases (show w = 0 ∨ w = 1 ∨ w = 2 ∨ w = 3 ∨ w = 4 by omega) with rfl | rfl | rfl | rfl | rfl
  all_goals rfl
theorem in_bad {x : Int32} {n : Nat} {b : Int64} (hn : n < 2 ^ 30) (hb : b.toInt = (n : Int) - 1) (hx : x < 0 ∨ nI n ≤ x) : f_X8_in (Int32.toInt64 x) 0 b = 0 := by
  rw [in_i, if_neg]
  rw [Int32.lt_iff_toInt_lt, Int32.le_iff_toInt_le, nI_toInt (show n < 2 ^ 31 by omega), show (0 : Int32).toInt = 0 from rfl] at hx
  rw [hb, show (0 : Int64).toInt = 0 from rfl]
  omega
theorem in_ok {n j : Nat} {b : Int64} (hn : n < 2 ^ 30) (hb : b.toInt = (n : Int) - 1) (hj : j < n) : f_X8_in (Int32.toInt64 (nI j)) 0 b = 1 := by
  rw [in_i, if_pos]
  rw [hb, nI_toInt (by omega), show (0 : Int64).toInt = 0 from rfl]
  omega
theorem op10 {M : Mem} (h : Inv M) (a1 a2 : Int32) : ∃ M', lawOp_10 a1 a2 M = some M' ∧ Inv M' := by
  have hS := h.1
  obtain ⟨r, s, n, m, G, d, cd, -, -, hG, hN, hP, hB, -⟩ := h.op
  have hnm := hG.nm
  unfold lawOp_10 f_X7_sigher f_X8_sigher
  simp only [KQ hS, if_true, hG.R, Option.bind_some]
  rcases ixc a1 n (by omega) with h1 | ⟨i, hi, rfl⟩
  · rw [hasS_bad hG h1]
    simp only [Option.bind_some, if_true, KQ hS]
    rw [isS_bad hG h1]
    simp only [Option.bind_some, if_true]
    exact ⟨M, rfl, h⟩
  · rw [hasS_ok hG hi]
    simp only [Option.bind_some, show ¬ (1 : Int32) = 0 by decide, if_false]
    rcases ixc a2 5 (by omega) with h2 | ⟨w, hw, rfl⟩
    · have e0 : f_X8_in (Int32.toInt64 a2) 0 4 = 0 := in_bad (n := 5) (by decide) rfl h2
      by_cases q : a2 < 0
      · simp only [if_pos q, Option.bind_some, KQ hS, if_true, isS_ok hG hi, show ¬ (1 : Int32) = 0 by decide, if_false, e0]
        exact ⟨M, rfl, h⟩
      · have q5 : ¬ a2 < 5 := Int32.not_lt.mpr (h2.resolve_left q)
        simp only [if_neg q, if_neg q5, Option.bind_some, KQ hS, if_true, isS_ok hG hi, show ¬ (1 : Int32) = 0 by decide, if_false, e0]
        exact ⟨M, rfl, h⟩
    · have e1 : f_X8_in (Int32.toInt64 (nI w)) 0 4 = 1 := in_ok (n := 5) (by decide) rfl hw
      simp only [if_neg (nI_pos (show w < 2 ^ 31 by omega)), if_pos (show nI w < 5 from nI_lt (b := 5) hw (by decide)), sigherTells_X hG hN hB hi hw, Option.bind_some, KQ hS, pI_k]
      have hS1 : SF (sI M 1 10 (sgv G (run G cd d) m i w)) := hS
      have hG1 : Gd (sI M 1 10 (sgv G (run G cd d) m i w)) r n m G := hG.congr hS1 rfl (fun x hx => mI_sI_row (by omega)) (by rw [mI_sI_row (by decide)]) (by rw [mI_sI_row (by decide)])
      have hP1 : Part (mI (sI M 1 10 (sgv G (run G cd d) m i w)) 66) 0 n (run G cd d) := by rw [mI_sI_row (by decide)]; exact hP
      simp only [KQ hS1, if_true, isS_ok hG1 hi, Option.bind_some, show ¬ (1 : Int32) = 0 by decide, if_false, e1, sigherTold_Y hG1 hP1 hB hi hw, tell_Y hS1]
      exact ⟨_, rfl, h.told _⟩
theorem op11 {M : Mem} (h : Inv M) (a1 a2 : Int32) : ∃ M', lawOp_11 a1 a2 M = some M' ∧ Inv M' := by
  have hS := h.1
  obtain ⟨r, s, n, m, G, d, cd, -, -, hG, hN, hP, hB, -⟩ := h.op
  have hnm := hG.nm
  unfold lawOp_11 f_X7_order f_X8_order
  simp only [KQ hS, if_true, hG.R, Option.bind_some]
  rcases ixc a1 m (by omega) with h1 | ⟨i, hi, rfl⟩
  · rw [hasO_bad hG h1]
    simp only [Option.bind_some, if_true, KQ hS]
    rw [isO_bad hG h1]
    simp only [Option.bind_some, if_true]
    exact ⟨M, rfl, h⟩
  · rw [hasO_ok hG hi]
    simp only [Option.bind_some, show ¬ (1 : Int32) = 0 by decide, if_false]
    rcases ixc a2 5 (by omega) with h2 | ⟨w, hw, rfl⟩
    · have e0 : f_X8_in (Int32.toInt64 a2) 0 4 = 0 := in_bad (n := 5) (by decide) rfl h2
      by_cases q : a2 < 0
      · simp only [if_pos q, Option.bind_some, KQ hS, if_true, isO_ok hG hi, show ¬ (1 : Int32) = 0 by decide, if_false, e0]
        exact ⟨M, rfl, h⟩
      · have q5 : ¬ a2 < 5 := Int32.not_lt.mpr (h2.resolve_left q)
        simp only [if_neg q, if_neg q5, Option.bind_some, KQ hS, if_true, isO_ok hG hi, show ¬ (1 : Int32) = 0 by decide, if_false, e0]
        exact ⟨M, rfl, h⟩
    · have e1 : f_X8_in (Int32.toInt64 (nI w)) 0 4 = 1 := in_ok (n := 5) (by decide) rfl hw
      simp only [if_neg (nI_pos (show w < 2 ^ 31 by omega)), if_pos (show nI w < 5 from nI_lt (b := 5) hw (by decide)), orderTells_X hG hN hB hi hw, Option.bind_some, KQ hS, pI_k]
      have hS1 : SF (sI M 1 10 (orv G (run G cd d) n i w)) := hS
      have hG1 : Gd (sI M 1 10 (orv G (run G cd d) n i w)) r n m G := hG.congr hS1 rfl (fun x hx => mI_sI_row (by omega)) (by rw [mI_sI_row (by decide)]) (by rw [mI_sI_row (by decide)])
      have hP1 : Part (mI (sI M 1 10 (orv G (run G cd d) n i w)) 66) 0 n (run G cd d) := by rw [mI_sI_row (by decide)]; exact hP
      simp only [KQ hS1, if_true, isO_ok hG1 hi, Option.bind_some, show ¬ (1 : Int32) = 0 by decide, if_false, e1, orderTold_Y hG1 hP1 hB hi hw, tell_Y hS1]
      exact ⟨_, rfl, h.told _⟩
