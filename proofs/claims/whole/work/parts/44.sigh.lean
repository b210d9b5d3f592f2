theorem Cf.congr {G : Nat → Nat → Nat} {n m d : Nat} {cd : Nat → Nat} {M M' : Mem} (h : Cf G n m d cd M) (e : ∀ x, x ≠ 66 → mI M' x = mI M x) : Cf G n m d cd M' := by
  obtain ⟨c1, c2, c3, c4⟩ := h
  refine ⟨c1, ?_, ?_, ?_⟩
  · rw [e 28 (by decide)]; exact c2
  · rw [e 29 (by decide)]; exact c3
  · rw [e 22 (by decide), e (22 + 1) (by decide), e (22 + 2) (by decide)]; exact c4
theorem op14 {M : Mem} (h : Inv M) (a1 a2 : Int32) : ∃ M', lawOp_14 a1 a2 M = some M' ∧ Inv M' := by
  have hS := h.1
  obtain ⟨r, s, n, m, G, d, cd, hR, hH, hG, hN, hP, hB, hd⟩ := h.op
  have hnm := hG.nm
  unfold lawOp_14 f_X7_sigh f_X8_sigh
  simp only [KQ hS, if_true, hG.R, Option.bind_some]
  rcases ixc a1 n (by omega) with h1 | ⟨i, hi, rfl⟩
  · simp only [hasS_bad hG h1, Option.bind_some, if_true, KQ hS, isS_bad hG h1]
    exact ⟨M, rfl, h⟩
  · simp only [hasS_ok hG hi, Option.bind_some, show ¬ (1 : Int32) = 0 by decide, if_false]
    rcases ixc a2 m (by omega) with h2 | ⟨o, ho, rfl⟩
    · simp only [hasO_bad hG h2, Option.bind_some, if_true, KQ hS, isS_ok hG hi, isO_bad hG h2, show ¬ (1 : Int32) = 0 by decide, if_false]
      exact ⟨M, rfl, h⟩
    · have h64 := lt64 hnm.2.1 hB.2.1
      have hk := (hG.s hi).1.2.2
      have hdp := (hG.o ho).2.1.2.2.2
      have hb9 := (hB.1 i hi).1
      have hp9 := (hB.1 i hi).2
      have hh9 := (hG.o ho).1.2.2
      have htk := tk_le _ hk (G 3 o) (by omega)
      have ea : mI M 66 (8 + i) = nI (run G cd d 1 i) := by have := (hP.2.2 i hi).2; rw [Nat.zero_add] at this; exact this
      have eb : mI M 66 (3 + i) = nI (run G cd d 0 i) := by have := (hP.2.2 i hi).1; rw [Nat.zero_add] at this; exact this
      have e2 : mI M 66 2 = nI (run G cd d 2 0) := hP.2.1
      simp only [hasO_ok hG ho, brF hG hi ho, isDone_X hS (Or.inl rfl) hN.1 h64 (show o < 6 by omega), RQ hS, Option.bind_some, show ¬ (1 : Int32) = 0 by decide, if_false]
      by_cases hdn : (run G cd d 2 0).testBit o = true
      · simp only [hdn, if_true, show ¬ (1 : Int32) = 0 by decide, if_false, Option.bind_some, KQ hS, isS_ok hG hi, isO_ok hG ho, RQ hS]
        rw [show aI M 66 2 = _ from aI_k (j := 2) (by simp only [KQ hS]) (by simp only [LQ]; omega), e2]
        simp only [Option.bind_some, hs2 _ h64 o (show o < 6 by omega), hdn, if_true, show ¬ (1 : Int32) = 0 by decide, if_false]
        exact ⟨M, rfl, h⟩
      · simp only [hdn, if_true, if_false, Bool.false_eq_true]
        rw [aI_k (x := 24) (by simp only [KQ hS]) (by simp only [LQ]; omega), show mI M 24 i = _ from (hN.2.2 i hi).2]
        simp only [Option.bind_some, rollF hS hG.2.1, (ctab hG).2 o ho]
        by_cases hpl : run G cd d 1 i = G 2 o
        · rw [if_pos (by rw [hpl])]
          have hbt : (btv (G 0 i) (G 3 o) = -9) ↔ (td (G 0 i) (G 3 o) = true) := Iff.of_eq (btv_n _ hk _ (show G 3 o < 10 by omega))
          by_cases htd : td (G 0 i) (G 3 o) = true
          · rw [if_pos (hbt.mpr htd)]
            simp only [Option.bind_some, KQ hS, if_true, isS_ok hG hi, isO_ok hG ho, show ¬ (1 : Int32) = 0 by decide, if_false, RQ hS, show (8 : Int32) + nI i = nI (8 + i) from nI_add 8 i]
            rw [show aI M 66 2 = _ from aI_k (j := 2) (by simp only [KQ hS]) (by simp only [LQ]; omega), e2, aI_k (by simp only [KQ hS]) (by simp only [LQ]; omega), ea]
            simp only [Option.bind_some, hs2 _ h64 o (show o < 6 by omega), hdn, if_true, if_false, Bool.false_eq_true, (mtab hG).2 o ho, (mtab hG).1 i hi, hpl, tdY _ hk _ (show G 3 o < 10 by omega), htd, show ¬ (1 : Int32) = 0 by decide]
            exact ⟨M, rfl, h⟩
          · rw [if_neg (fun q => htd (hbt.mp q)), aI_k (x := 23) (by simp only [KQ hS]) (by simp only [LQ]; omega), show mI M 23 i = _ from (hN.2.2 i hi).1, btv, if_neg htd]
            simp only [Option.bind_some]
            by_cases hbr : tk (G 0 i) (G 3 o) ≤ run G cd d 0 i
            · rw [if_pos (nI_le hbr (by omega)), show f_X0_lackRoomFor 28 1 M = _ from lack_X hS (k := 1) hH.2.1.2.1 hd (by decide)]
              by_cases h40 : d + 1 ≤ 40
              · have hcan : can G (run G cd d) i o = true := by
                  unfold can
                  simp [hdn, htd, hbr]
                obtain ⟨hC, hM⟩ := Inv.hf hH
                obtain ⟨M1, q1, q2, q3, q4, q5, q6⟩ := enact_X hG hC (by omega) (w := 1) (i := i) (t := o) (by decide) (by omega) ⟨by omega, by omega, by omega⟩
                have hG1 : Gd M1 r n m G := hG.congr q2 (by rw [q3]) (fun x hx => q5 x (by omega)) (by rw [q5 65 (by omega)]) (by rw [q5 65 (by omega)])
                have hM1 : Mf G n d 0 cd (mI M1 66) := by rw [q5 66 (by omega)]; exact hM
                obtain ⟨M2, M3, w1, w2, w3, w4, w5, w6, w7, w8, w9, w10, w11, w12⟩ := msigh_Y hG1 hM1 (by omega) hi ho hcan
                have hC3 := q6.congr w10
                have e66 : mI M1 66 = mI M 66 := q5 66 (by omega)
                simp only [if_pos h40, Option.bind_some, if_true, show f_X7_enact 1 1 (nI i) (nI o) M = some M1 from q1, RQ q2, KQ q2, gI_k, isS_ok hG1 hi, isO_ok hG1 ho, show ¬ (1 : Int32) = 0 by decide, if_false, show (8 : Int32) + nI i = nI (8 + i) from nI_add 8 i, show (3 : Int32) + nI i = nI (3 + i) from nI_add 3 i]
                rw [show aI M1 66 2 = _ from aI_k (j := 2) (by simp only [KQ q2]) (by simp only [LQ]; omega), aI_k (j := 8 + i) (by simp only [KQ q2]) (by simp only [LQ]; omega), aI_k (j := 3 + i) (by simp only [KQ q2]) (by simp only [LQ]; omega), show aI M1 66 0 = _ from aI_k (j := 0) (by simp only [KQ q2]) (by simp only [LQ]; omega), e66, ea, eb, e2, hM.1]
                simp only [Option.bind_some, hs2 _ h64 o (show o < 6 by omega), hdn, if_true, if_false, Bool.false_eq_true, (mtab hG1).2 o ho, (mtab hG1).1 i hi, hpl, tdY _ hk _ (show G 3 o < 10 by omega), htd, tkn hG1 hi ho, if_pos (nI_le hbr (show run G cd d 0 i < 2 ^ 31 by omega))]
                rw [if_neg (show ¬ nI d = 40 from fun q => absurd ((nI_eq (by omega) (b := 40) (by decide)).mp q) (by omega)), w1, Option.bind_some, w6, Option.bind_some]
                simp only [RQ w7, Option.bind_some]
                rw [show aI M3 66 1 = _ from aI_k (j := 1) (by simp only [KQ w7]) (by simp only [LQ]; omega), Option.bind_some, show mI M3 66 1 = _ from w12.2.1.1, show mI M1 22 3 = _ from q6.2.2.2.2.1]
                simp only [Option.bind_some, if_true]
                exact ⟨M3, rfl, h.deeds hR hH w7 (w8.trans q3) (w9.trans q4) (fun x h1 h2 => (w10 x h2).trans (q5 x (by omega))) (fun j hj => (w11 j hj).trans (by rw [e66])) hC3 w12⟩
              · have hd40 : d = 40 := by omega
                simp only [if_neg h40, Option.bind_some, KQ hS, if_true, isS_ok hG hi, isO_ok hG ho, show ¬ (1 : Int32) = 0 by decide, if_false, RQ hS, show (8 : Int32) + nI i = nI (8 + i) from nI_add 8 i, show (3 : Int32) + nI i = nI (3 + i) from nI_add 3 i]
                rw [show aI M 66 2 = _ from aI_k (j := 2) (by simp only [KQ hS]) (by simp only [LQ]; omega), e2, aI_k (j := 8 + i) (by simp only [KQ hS]) (by simp only [LQ]; omega), ea, aI_k (j := 3 + i) (by simp only [KQ hS]) (by simp only [LQ]; omega), eb, show aI M 66 0 = _ from aI_k (j := 0) (by simp only [KQ hS]) (by simp only [LQ]; omega), hH.2.1.2.2.1, hd40]
                simp only [Option.bind_some, hs2 _ (hd40 ▸ h64) o (show o < 6 by omega), show ¬ (run G cd 40 2 0).testBit o = true from hd40 ▸ hdn, if_true, if_false, Bool.false_eq_true, (mtab hG).2 o ho, (mtab hG).1 i hi, show run G cd 40 1 i = G 2 o from hd40 ▸ hpl, tdY _ hk _ (show G 3 o < 10 by omega), htd, tkn hG hi ho, if_pos (nI_le (hd40 ▸ hbr : tk (G 0 i) (G 3 o) ≤ run G cd 40 0 i) (show run G cd 40 0 i < 2 ^ 31 by rw [← hd40]; omega))]
                rw [if_pos (show nI 40 = 40 from rfl)]
                exact ⟨M, rfl, h⟩
            · rw [if_neg (nI_ge (by omega) (by omega))]
              simp only [Option.bind_some, KQ hS, if_true, isS_ok hG hi, isO_ok hG ho, show ¬ (1 : Int32) = 0 by decide, if_false, RQ hS, show (8 : Int32) + nI i = nI (8 + i) from nI_add 8 i, show (3 : Int32) + nI i = nI (3 + i) from nI_add 3 i]
              rw [show aI M 66 2 = _ from aI_k (j := 2) (by simp only [KQ hS]) (by simp only [LQ]; omega), e2, aI_k (j := 8 + i) (by simp only [KQ hS]) (by simp only [LQ]; omega), ea, aI_k (j := 3 + i) (by simp only [KQ hS]) (by simp only [LQ]; omega), eb]
              simp only [Option.bind_some, hs2 _ h64 o (show o < 6 by omega), hdn, if_true, if_false, Bool.false_eq_true, (mtab hG).2 o ho, (mtab hG).1 i hi, hpl, tdY _ hk _ (show G 3 o < 10 by omega), htd, tkn hG hi ho, if_neg (nI_ge (show run G cd d 0 i < tk (G 0 i) (G 3 o) by omega) (show tk (G 0 i) (G 3 o) < 2 ^ 31 by omega))]
              exact ⟨M, rfl, h⟩
        · have hpl2 : ¬ nI (run G cd d 1 i) = nI (G 2 o) := fun q => hpl ((nI_eq (by omega) (by omega)).mp q)
          rw [if_neg hpl2]
          simp only [Option.bind_some, KQ hS, if_true, isS_ok hG hi, isO_ok hG ho, show ¬ (1 : Int32) = 0 by decide, if_false, RQ hS, show (8 : Int32) + nI i = nI (8 + i) from nI_add 8 i]
          rw [show aI M 66 2 = _ from aI_k (j := 2) (by simp only [KQ hS]) (by simp only [LQ]; omega), e2, aI_k (by simp only [KQ hS]) (by simp only [LQ]; omega), ea]
          simp only [Option.bind_some, hs2 _ h64 o (show o < 6 by omega), hdn, if_true, if_false, Bool.false_eq_true, (mtab hG).2 o ho, if_neg hpl2]
          exact ⟨M, rfl, h⟩
theorem op15 {M : Mem} (h : Inv M) (a1 : Int32) : ∃ M', lawOp_15 a1 M = some M' ∧ Inv M' := by
  have hS := h.1
  obtain ⟨r, s, n, m, G, d, cd, hR, hH, hG, hN, hP, hB, hd⟩ := h.op
  have hnm := hG.nm
  unfold lawOp_15 f_X7_rest f_X8_rest
  simp only [KQ hS, if_true, hG.R, Option.bind_some]
  rcases ixc a1 n (by omega) with h1 | ⟨i, hi, rfl⟩
  · simp only [hasS_bad hG h1, Option.bind_some, if_true, KQ hS, isS_bad hG h1]
    exact ⟨M, rfl, h⟩
  · have hb9 := (hB.1 i hi).1
    have eb : mI M 66 (3 + i) = nI (run G cd d 0 i) := by have := (hP.2.2 i hi).1; rw [Nat.zero_add] at this; exact this
    simp only [hasS_ok hG hi, Option.bind_some, show ¬ (1 : Int32) = 0 by decide, if_false, RQ hS]
    rw [aI_k (x := 23) (by simp only [KQ hS]) (by simp only [LQ]; omega), show mI M 23 i = _ from (hN.2.2 i hi).1]
    simp only [Option.bind_some]
    by_cases h9 : run G cd d 0 i < 9
    · have h9n : ¬ nI (run G cd d 0 i) = 9 := fun q => absurd ((nI_eq (by omega) (b := 9) (by decide)).mp q) (by omega)
      rw [if_pos (show nI (run G cd d 0 i) < 9 from nI_lt (b := 9) h9 (by decide)), show f_X0_lackRoomFor 28 1 M = _ from lack_X hS (k := 1) hH.2.1.2.1 hd (by decide)]
      by_cases h40 : d + 1 ≤ 40
      · obtain ⟨hC, hM⟩ := Inv.hf hH
        obtain ⟨M1, q1, q2, q3, q4, q5, q6⟩ := enact_X hG hC (by omega) (w := 2) (i := i) (t := 0) (by decide) (by omega) ⟨by omega, by omega, by omega⟩
        have hG1 : Gd M1 r n m G := hG.congr q2 (by rw [q3]) (fun x hx => q5 x (by omega)) (by rw [q5 65 (by omega)]) (by rw [q5 65 (by omega)])
        have hM1 : Mf G n d 0 cd (mI M1 66) := by rw [q5 66 (by omega)]; exact hM
        obtain ⟨M2, M3, w1, w2, w3, w4, w5, w6, w7, w8, w9, w10, w11, w12⟩ := mrest_Y hG1 hM1 (by omega) hi hb9
        have e66 : mI M1 66 = mI M 66 := q5 66 (by omega)
        simp only [if_pos h40, Option.bind_some, if_true, show f_X7_enact 1 2 (nI i) 0 M = some M1 from q1, RQ q2, KQ q2, isS_ok hG1 hi, show ¬ (1 : Int32) = 0 by decide, if_false, show (3 : Int32) + nI i = nI (3 + i) from nI_add 3 i]
        rw [aI_k (x := 23) (by simp only [KQ q2]) (by simp only [LQ]; omega), show mI M1 23 i = _ from (q6.2.2.2.2.2 i hi).1]
        simp only [Option.bind_some, KQ q2, if_true, isS_ok hG1 hi, show ¬ (1 : Int32) = 0 by decide, if_false, if_neg h9n, RQ q2]
        rw [aI_k (x := 66) (j := 3 + i) (by simp only [KQ q2]) (by simp only [LQ]; omega), e66, eb]
        simp only [Option.bind_some, if_neg h9n]
        rw [show aI M1 66 0 = _ from aI_k (j := 0) (by simp only [KQ q2]) (by simp only [LQ]; omega), e66, hM.1]
        simp only [Option.bind_some]
        rw [if_neg (show ¬ nI d = 40 from fun q => absurd ((nI_eq (by omega) (b := 40) (by decide)).mp q) (by omega)), w1, Option.bind_some, w6, Option.bind_some]
        simp only [RQ w7, Option.bind_some]
        rw [aI_k (x := 66) (j := 3 + i) (by simp only [KQ w7]) (by simp only [LQ]; omega), Option.bind_some, show mI M3 66 (3 + i) = nI (run G (psh cd d (100 * 2 + 10 * i + 0)) (d + 1) 0 i) from by have := (w12.2.1.2.2 i hi).1; rw [Nat.zero_add] at this; exact this]
        simp only [Option.bind_some, if_true]
        exact ⟨M3, rfl, h.deeds hR hH w7 (w8.trans q3) (w9.trans q4) (fun x h1 h2 => (w10 x h2).trans (q5 x (by omega))) (fun j hj => (w11 j hj).trans (by rw [e66])) (q6.congr w10) w12⟩
      · have hd40 : d = 40 := by omega
        simp only [if_neg h40, Option.bind_some, KQ hS, if_true, isS_ok hG hi, show ¬ (1 : Int32) = 0 by decide, if_false, RQ hS, show (3 : Int32) + nI i = nI (3 + i) from nI_add 3 i]
        rw [aI_k (x := 66) (j := 3 + i) (by simp only [KQ hS]) (by simp only [LQ]; omega), eb]
        simp only [Option.bind_some, if_neg h9n]
        rw [show aI M 66 0 = _ from aI_k (j := 0) (by simp only [KQ hS]) (by simp only [LQ]; omega), hH.2.1.2.2.1, hd40]
        simp only [Option.bind_some]
        rw [if_pos (show nI 40 = 40 from rfl)]
        exact ⟨M, rfl, h⟩
    · have h9e : run G cd d 0 i = 9 := by omega
      rw [if_neg (show ¬ nI (run G cd d 0 i) < 9 from nI_nlt (b := 9) (by omega) (by omega))]
      simp only [Option.bind_some, KQ hS, if_true, isS_ok hG hi, show ¬ (1 : Int32) = 0 by decide, if_false, RQ hS, show (3 : Int32) + nI i = nI (3 + i) from nI_add 3 i]
      rw [aI_k (x := 66) (j := 3 + i) (by simp only [KQ hS]) (by simp only [LQ]; omega), eb, h9e]
      simp only [Option.bind_some]
      rw [if_pos (show nI 9 = 9 from rfl)]
      exact ⟨M, rfl, h⟩
