/-! ===== count() ===== -/
def cn (M : Mem) (b k : Nat) : Int32 := iter (fun r a => if mI M (b + 2 * r) 1 = -1 then a else a + 1) 0 k 0
def knv (G : Nat → Nat → Nat) (n w : Nat) : Int32 := iter (fun i a => if kof (G 0 i) w = true then a + 1 else a) 0 n 0
def cnv (G S : Nat → Nat → Nat) (n m d : Nat) (M : Mem) (w : Nat) : Int32 := if w = 0 then nI n else if w = 1 then nI m else if w = 2 then nI d else if w = 3 then nI (S 2 1) else if w = 4 then nI (S 2 0) else if w = 5 then iter (fun i a => a + nI (S 0 i)) 0 n 0 else if w = 6 then knv G n 1 else if w = 7 then knv G n 2 else if w = 8 then cn M 39 6 else if w = 9 then cn M 51 4 else cn M 59 3
theorem keptF {M : Mem} (h : SF M) {q : Nat} (hq : q < 3) : aR M 3 30 (nI q) = some (59 + 2 * q) ∧ kd M (59 + 2 * q) = 10 ∧ gR M 10 (59 + 2 * q) 0 = some (60 + 2 * q) ∧ kd M (60 + 2 * q) = 1 ∧ ln (60 + 2 * q) = 40 := by
  rcases (show q = 0 ∨ q = 1 ∨ q = 2 by omega) with rfl | rfl | rfl
  all_goals exact ⟨aR_k (h.k (by decide +kernel) (by decide)) (by decide +kernel) (h.r (by decide +kernel)) (by decide), h.k (by decide +kernel) (by decide), gR_k (h.k (by decide +kernel) (by decide)) (h.r (by decide +kernel)) (by decide), h.k (by decide +kernel) (by decide), by decide +kernel⟩
theorem kpc {M : Mem} {r n m : Nat} {G : Nat → Nat → Nat} {d : Nat} {cd : Nat → Nat} (h : GhP r (mI M) (mI M 65 1) (mI M 65 4) n m G d cd) {q : Nat} (hq : q < 3) : mI M 66 (493 * (q + 1)) = mI M (59 + 2 * q) 1 ∧ ∃ z, z ≤ 41 ∧ mI M (59 + 2 * q) 1 = nI z - 1 := by
  rcases h.2.2.2 q hq with ⟨e1, e2⟩ | ⟨-, d', cd', e⟩
  · rw [e1, e2]; exact ⟨rfl, 0, by omega, rfl⟩
  · rw [e.2.1, e.2.2.1]; exact ⟨rfl, d' + 1, by have := e.1; omega, (nI_pred _).symm⟩
theorem countRows_X {M : Mem} (h : SF M) : f_X7_countRows 1 M = some (cn M 39 6) := by
  unfold f_X7_countRows
  simp only [KQ h, if_true]
  have key := lp_up (F := fun fu j (a : Int32) => f_X7_countRows_4 fu 1 a (nI j) M) 6 (fun a => some a) (fun r a => if mI M (39 + 2 * r) 1 = -1 then a else a + 1) (fun _ _ => True)
    (fun fu a _ => by simp only [f_X7_countRows_4, RQ h, KQ h, LQ, aN_k, Option.bind_some]; rw [if_pos (nI_le (Nat.le_refl _) (by omega))])
    (fun fu j a hj _ => by
      refine ⟨?_, trivial⟩
      simp only [f_X7_countRows_4, RQ h, KQ h, LQ, aN_k, Option.bind_some]
      rw [if_neg (nI_ge hj (by omega)), (rowF h hj).1, Option.bind_some, isMissing_X h hj, Option.bind_some, nI_1, Int32.add_zero]
      by_cases hc : mI M (39 + 2 * j) 1 = -1
      · simp only [hc, if_true, show ¬ (1 : Int32) = 0 by decide, if_false]
      · simp only [hc, if_true, if_false])
    6 FU 0 0 (by omega) (by unfold FU; omega) trivial
  exact key.1
theorem countTexts_X {M : Mem} (h : SF M) : f_X7_countTexts 1 M = some (cn M 51 4) := by
  unfold f_X7_countTexts
  simp only [KQ h, if_true]
  have key := lp_up (F := fun fu j (a : Int32) => f_X7_countTexts_4 fu 1 a (nI j) M) 4 (fun a => some a) (fun r a => if mI M (51 + 2 * r) 1 = -1 then a else a + 1) (fun _ _ => True)
    (fun fu a _ => by simp only [f_X7_countTexts_4, RQ h, KQ h, LQ, aN_k, Option.bind_some]; rw [if_pos (nI_le (Nat.le_refl _) (by omega))])
    (fun fu j a hj _ => by
      refine ⟨?_, trivial⟩
      simp only [f_X7_countTexts_4, RQ h, KQ h, LQ, aN_k, Option.bind_some]
      rw [if_neg (nI_ge hj (by omega)), (textF h hj).1, Option.bind_some, isMissingT_X h hj, Option.bind_some, nI_1, Int32.add_zero]
      by_cases hc : mI M (51 + 2 * j) 1 = -1
      · simp only [hc, if_true, show ¬ (1 : Int32) = 0 by decide, if_false]
      · simp only [hc, if_true, if_false])
    4 FU 0 0 (by omega) (by unfold FU; omega) trivial
  exact key.1
theorem countKept_X {M : Mem} (h : SF M) : f_X7_countKept 1 M = some (cn M 59 3) := by
  unfold f_X7_countKept
  simp only [KQ h, if_true]
  have key := lp_up (F := fun fu j (a : Int32) => f_X7_countKept_4 fu 1 a (nI j) M) 3 (fun a => some a) (fun r a => if mI M (59 + 2 * r) 1 = -1 then a else a + 1) (fun _ _ => True)
    (fun fu a _ => by simp only [f_X7_countKept_4, RQ h, KQ h, LQ, aN_k, Option.bind_some]; rw [if_pos (nI_le (Nat.le_refl _) (by omega))])
    (fun fu j a hj _ => by
      refine ⟨?_, trivial⟩
      simp only [f_X7_countKept_4, RQ h, KQ h, LQ, aN_k, Option.bind_some]
      rw [if_neg (nI_ge hj (by omega)), (keptF h hj).1, Option.bind_some, gI_k (keptF h hj).2.1, Option.bind_some, nI_1, Int32.add_zero]
      by_cases hc : mI M (59 + 2 * j) 1 = -1
      · simp only [hc, if_true]
      · simp only [hc, if_false])
    3 FU 0 0 (by omega) (by unfold FU; omega) trivial
  exact key.1
theorem allBreath_X {M : Mem} {r n m : Nat} {G S : Nat → Nat → Nat} (h : Gd M r n m G) (hN : NwP n S (mI M 22) (mI M (22 + 1)) (mI M (22 + 2))) : f_X6_allBreath 22 r M = some (iter (fun i a => a + nI (S 0 i)) 0 n 0) := by
  have hnm := h.nm
  unfold f_X6_allBreath
  simp only [KQ h.1, if_true]
  have key := lp_up (F := fun fu j (a : Int32) => f_X6_allBreath_4 fu 22 r a (nI j) M) n (fun a => some a) (fun i a => a + nI (S 0 i)) (fun _ _ => True)
    (fun fu a _ => by simp only [f_X6_allBreath_4, h.sz, Option.bind_some]; rw [if_pos (nI_le (Nat.le_refl _) (by omega))])
    (fun fu j a hj _ => by
      refine ⟨?_, trivial⟩
      simp only [f_X6_allBreath_4, h.sz, Option.bind_some, RQ h.1]
      rw [if_neg (nI_ge hj (by omega)), aI_k (by simp only [KQ h.1]) (by simp only [LQ]; omega), Option.bind_some, nI_1, show mI M 23 j = _ from (hN.2.2 j hj).1])
    n FU 0 0 (by omega) (by unfold FU; omega) trivial
  exact key.1
theorem countOfKind_X {M : Mem} {r n m : Nat} {G : Nat → Nat → Nat} (h : Gd M r n m G) {w : Nat} (hw : w < 6) : f_X2_countOfKind r (nI w) M = some (knv G n w) := by
  have hnm := h.nm
  unfold f_X2_countOfKind
  simp only [rollF h.1 h.2.1, if_true]
  have key := lp_up (F := fun fu j (a : Int32) => f_X2_countOfKind_4 fu r (nI w) a (nI j) M) n (fun a => some a) (fun i a => if kof (G 0 i) w = true then a + 1 else a) (fun _ _ => True)
    (fun fu a _ => by simp only [f_X2_countOfKind_4, h.sz, Option.bind_some]; rw [if_pos (nI_le (Nat.le_refl _) (by omega))])
    (fun fu j a hj _ => by
      refine ⟨?_, trivial⟩
      simp only [f_X2_countOfKind_4, h.sz, Option.bind_some, rollF h.1 h.2.1]
      rw [if_neg (nI_ge hj (by omega)), ((ctab h).1 j hj).1, Option.bind_some, isOfX _ (h.s hj).1.2.2 w hw, Option.bind_some, nI_1, Int32.add_zero]
      by_cases hc : kof (G 0 j) w = true
      · simp only [hc, if_true, show ¬ (1 : Int32) = 0 by decide, if_false]
      · simp only [hc, if_true, if_false, Bool.false_eq_true])
    n FU 0 0 (by omega) (by unfold FU; omega) trivial
  exact key.1
theorem countOf_X {M : Mem} {r n m : Nat} {G : Nat → Nat → Nat} {d : Nat} {cd : Nat → Nat} (hH : GhP r (mI M) (mI M 65 1) (mI M 65 4) n m G d cd) (h : Gd M r n m G) {w : Nat} (hw : w < 11) : f_X7_countOf 1 (nI w) M = some (cnv G (run G cd d) n m d M w) := by
  have hN : NwP n (run G cd d) (mI M 22) (mI M (22 + 1)) (mI M (22 + 2)) := hH.2.2.1
  unfold f_X7_countOf cnv
  simp only [KQ h.1, RQ h.1, h.R, h.sz, gI_k, if_true, Option.bind_some, countRows_X h.1, countTexts_X h.1, countKept_X h.1, allBreath_X h hN, show f_X2_countOfKind r 1 M = _ from countOfKind_X h (w := 1) (by decide), show f_X2_countOfKind r 2 M = _ from countOfKind_X h (w := 2) (by decide), hN.1, hN.2.1, hH.2.1.2.1]
  rcases (show w = 0 ∨ w = 1 ∨ w = 2 ∨ w = 3 ∨ w = 4 ∨ w = 5 ∨ w = 6 ∨ w = 7 ∨ w = 8 ∨ w = 9 ∨ w = 10 by omega) with rfl | rfl | rfl | rfl | rfl | rfl | rfl | rfl | rfl | rfl | rfl
  all_goals rfl
-- the model
theorem allBreath_Y {M : Mem} {r n m : Nat} {G S : Nat → Nat → Nat} (h : Gd M r n m G) (hP : Part (mI M 66) 0 n S) : f_X8_allBreath 65 M = some (iter (fun i a => a + nI (S 0 i)) 0 n 0) := by
  have hnm := h.nm
  unfold f_X8_allBreath
  simp only [KQ h.1, if_true]
  have key := lp_up (F := fun fu j (a : Int32) => f_X8_allBreath_4 fu 65 a (nI j) M) n (fun a => some a) (fun i a => a + nI (S 0 i)) (fun _ _ => True)
    (fun fu a _ => by simp only [f_X8_allBreath_4, h.sz, Option.bind_some]; rw [if_pos (nI_le (Nat.le_refl _) (by omega))])
    (fun fu j a hj _ => by
      refine ⟨?_, trivial⟩
      simp only [f_X8_allBreath_4, h.sz, Option.bind_some, RQ h.1]
      rw [if_neg (nI_ge hj (by omega)), show (3 : Int32) + nI j = nI (3 + j) from nI_add 3 j, aI_k (by simp only [KQ h.1]) (by simp only [LQ]; omega), Option.bind_some, nI_1, show mI M 66 (3 + j) = _ from (hP.2.2 j hj).1])
    n FU 0 0 (by omega) (by unfold FU; omega) trivial
  exact key.1
theorem those_Y {M : Mem} {r n m : Nat} {G : Nat → Nat → Nat} (h : Gd M r n m G) {w : Nat} (h1 : 1 ≤ w) (h5 : w ≤ 5) : f_X8_those 65 (nI w) M = some (knv G n w) := by
  have hnm := h.nm
  unfold f_X8_those
  simp only [KQ h.1, if_true]
  have key := lp_up (F := fun fu j (a : Int32) => f_X8_those_4 fu 65 (nI w) a (nI j) M) n (fun a => some a) (fun i a => if kof (G 0 i) w = true then a + 1 else a) (fun _ _ => True)
    (fun fu a _ => by simp only [f_X8_those_4, h.sz, Option.bind_some]; rw [if_pos (nI_le (Nat.le_refl _) (by omega))])
    (fun fu j a hj _ => by
      refine ⟨?_, trivial⟩
      simp only [f_X8_those_4, h.sz, Option.bind_some]
      rw [if_neg (nI_ge hj (by omega)), isOfY h hj h1 h5, Option.bind_some, nI_1, Int32.add_zero]
      by_cases hc : kof (G 0 j) w = true
      · simp only [hc, if_true, show ¬ (1 : Int32) = 0 by decide, if_false]
      · simp only [hc, if_true, if_false, Bool.false_eq_true])
    n FU 0 0 (by omega) (by unfold FU; omega) trivial
  exact key.1
theorem sz_neg {x : Int32} {N : Nat} (hN : N < 2 ^ 30) (h : ∃ z, z ≤ N + 1 ∧ x = nI z - 1) : (x < 0 ↔ x = -1) ∧ (0 ≤ x ↔ ¬ x = -1) := by
  rcases szc h with e | ⟨s, hs, e⟩
  · subst e; decide
  · subst e
    have h1 := n1 (show s < 2 ^ 31 by omega)
    have h2 := nI_pos (show s < 2 ^ 31 by omega)
    have h3 := nI_pos' (show s < 2 ^ 31 by omega)
    exact ⟨⟨fun q => absurd q h2, fun q => absurd q h1⟩, ⟨fun _ => h1, fun _ => h3⟩⟩
theorem thereOf8 {M : Mem} (h : Inv M) : f_X8_thereOf 65 8 M = some (cn M 39 6) := by
  have hS := h.1
  unfold f_X8_thereOf
  simp only [KQ hS, if_true]
  have key := lp_up (F := fun fu j (a : Int32) => f_X8_thereOf_4 fu 65 8 a (nI j) M) 6 (fun a => some a) (fun r a => if mI M (39 + 2 * r) 1 = -1 then a else a + 1) (fun _ _ => True)
    (fun fu a _ => by simp only [f_X8_thereOf_4]; rw [if_pos (show (6 : Int32) ≤ nI 6 from Int32.le_refl _)])
    (fun fu j a hj _ => by
      refine ⟨?_, trivial⟩
      obtain ⟨w1, w2, -⟩ := h.2.1 j hj
      have hz := (sz_neg (by decide) w1).2
      simp only [f_X8_thereOf_4, RQ hS, Option.bind_some]
      rw [if_neg (show ¬ (6 : Int32) ≤ nI j from nI_ge (b := 6) hj (by omega)), if_pos trivial, aI_k (by simp only [KQ hS]) (by simp only [LQ]; omega), Option.bind_some, w2, nI_1, Int32.add_zero]
      by_cases hc : mI M (39 + 2 * j) 1 = -1
      · rw [if_neg (fun q => (hz.mp q) hc), if_pos hc]
      · rw [if_pos (hz.mpr hc), if_neg hc])
    6 FU 0 0 (by omega) (by unfold FU; omega) trivial
  exact key.1
theorem thereOf9 {M : Mem} (h : Inv M) : f_X8_thereOf 65 9 M = some (cn M 51 4) := by
  have hS := h.1
  unfold f_X8_thereOf
  simp only [KQ hS, if_true]
  have key := lp_up (F := fun fu j (a : Int32) => f_X8_thereOf_4 fu 65 9 a (nI j) M) 6 (fun a => some a) (fun r a => if 4 ≤ r then a else if mI M (51 + 2 * r) 1 = -1 then a else a + 1) (fun _ _ => True)
    (fun fu a _ => by simp only [f_X8_thereOf_4]; rw [if_pos (show (6 : Int32) ≤ nI 6 from Int32.le_refl _)])
    (fun fu j a hj _ => by
      refine ⟨?_, trivial⟩
      simp only [f_X8_thereOf_4, RQ hS, Option.bind_some]
      rw [if_neg (show ¬ (6 : Int32) ≤ nI j from nI_ge (b := 6) hj (by omega)), if_neg (show ¬ (9 : Int32) = 8 by decide), if_pos trivial, nI_1, Int32.add_zero]
      by_cases h4 : j < 4
      · obtain ⟨w1, w2, -⟩ := h.2.2.1 j h4
        have hz := (sz_neg (by decide) w1).1
        rw [if_neg (show ¬ (4 : Int32) ≤ nI j from nI_ge (b := 4) h4 (by omega)), aI_k (by simp only [KQ hS]) (by simp only [LQ]; omega), Option.bind_some, w2, if_neg (show ¬ 4 ≤ j by omega)]
        by_cases hc : mI M (51 + 2 * j) 1 = -1
        · rw [if_pos (hz.mpr hc), if_pos hc]
        · rw [if_neg (fun q => hc (hz.mp q)), if_neg hc]
      · rw [if_pos (show (4 : Int32) ≤ nI j from nI_le (a := 4) (by omega) (by omega)), if_pos (show 4 ≤ j by omega)])
    6 FU 0 0 (by omega) (by unfold FU; omega) trivial
  exact key.1
theorem i493 (k : Nat) : (493 : Int32) * nI k + 0 = nI (493 * k) := by rw [Int32.add_zero, show (493 : Int32) = nI 493 from rfl, pk_mul]
theorem i493s (k : Nat) : (493 : Int32) * (1 + nI k) + 0 = nI (493 * (k + 1)) := by rw [show (1 : Int32) + nI k = nI (1 + k) from nI_add 1 k, i493, Nat.add_comm 1 k]
theorem thereOf10 {M : Mem} {r n m : Nat} {G : Nat → Nat → Nat} {d : Nat} {cd : Nat → Nat} (hS : SF M) (hH : GhP r (mI M) (mI M 65 1) (mI M 65 4) n m G d cd) : f_X8_thereOf 65 10 M = some (cn M 59 3) := by
  unfold f_X8_thereOf
  simp only [KQ hS, if_true]
  have key := lp_up (F := fun fu j (a : Int32) => f_X8_thereOf_4 fu 65 10 a (nI j) M) 6 (fun a => some a) (fun r a => if 3 ≤ r then a else if mI M (59 + 2 * r) 1 = -1 then a else a + 1) (fun _ _ => True)
    (fun fu a _ => by simp only [f_X8_thereOf_4]; rw [if_pos (show (6 : Int32) ≤ nI 6 from Int32.le_refl _)])
    (fun fu j a hj _ => by
      refine ⟨?_, trivial⟩
      simp only [f_X8_thereOf_4, RQ hS, Option.bind_some, i493s]
      rw [if_neg (show ¬ (6 : Int32) ≤ nI j from nI_ge (b := 6) hj (by omega)), if_neg (show ¬ (10 : Int32) = 8 by decide), if_neg (show ¬ (10 : Int32) = 9 by decide), nI_1, Int32.add_zero]
      by_cases h4 : j < 3
      · obtain ⟨w2, w1⟩ := kpc hH h4
        have hz := (sz_neg (N := 40) (by decide) w1).1
        rw [if_neg (show ¬ (3 : Int32) ≤ nI j from nI_ge (b := 3) h4 (by omega)), aI_k (by simp only [KQ hS]) (by simp only [LQ]; omega), Option.bind_some, w2, if_neg (show ¬ 3 ≤ j by omega)]
        by_cases hc : mI M (59 + 2 * j) 1 = -1
        · rw [if_pos (hz.mpr hc), if_pos hc]
        · rw [if_neg (fun q => hc (hz.mp q)), if_neg hc]
      · rw [if_pos (show (3 : Int32) ≤ nI j from nI_le (a := 3) (by omega) (by omega)), if_pos (show 3 ≤ j by omega)])
    6 FU 0 0 (by omega) (by unfold FU; omega) trivial
  exact key.1
theorem countOf_Y {M : Mem} {r n m : Nat} {G : Nat → Nat → Nat} {d : Nat} {cd : Nat → Nat} (hI : Inv M) (hH : GhP r (mI M) (mI M 65 1) (mI M 65 4) n m G d cd) (h : Gd M r n m G) {w : Nat} (hw : w < 11) : f_X8_countOf 65 (nI w) M = some (cnv G (run G cd d) n m d M w) := by
  have hP : Part (mI M 66) 0 n (run G cd d) := hH.2.1.2.2.2.2.1
  unfold f_X8_countOf cnv
  simp only [KQ h.1, RQ h.1, h.sz, if_true, Option.bind_some, allBreath_Y h hP, show f_X8_those 65 1 M = _ from those_Y h (w := 1) (by decide) (by decide), show f_X8_those 65 2 M = _ from those_Y h (w := 2) (by decide) (by decide)]
  rw [show aI M 66 0 = _ from aI_k (j := 0) (by simp only [KQ h.1]) (by simp only [LQ]; omega), show aI M 66 1 = _ from aI_k (j := 1) (by simp only [KQ h.1]) (by simp only [LQ]; omega), show aI M 66 2 = _ from aI_k (j := 2) (by simp only [KQ h.1]) (by simp only [LQ]; omega), show mI M 66 0 = _ from hH.2.1.2.2.1, show mI M 66 1 = _ from hP.1, show mI M 66 2 = _ from hP.2.1]
  rcases (show w = 0 ∨ w = 1 ∨ w = 2 ∨ w = 3 ∨ w = 4 ∨ w = 5 ∨ w = 6 ∨ w = 7 ∨ w = 8 ∨ w = 9 ∨ w = 10 by omega) with rfl | rfl | rfl | rfl | rfl | rfl | rfl | rfl | rfl | rfl | rfl
  · rfl
  · rfl
  · rfl
  · rfl
  · rfl
  · rfl
  · rfl
  · rfl
  · rw [show f_X8_thereOf 65 (nI 8) M = _ from thereOf8 hI]; rfl
  · rw [show f_X8_thereOf 65 (nI 9) M = _ from thereOf9 hI]; rfl
  · rw [show f_X8_thereOf 65 (nI 10) M = _ from thereOf10 h.1 hH]; rfl
theorem op40 {M : Mem} (h : Inv M) (a1 : Int32) : ∃ M', lawOp_40 a1 M = some M' ∧ Inv M' := by
  have hS := h.1
  obtain ⟨r, s, n, m, G, d, cd, -, hH, hG, hN, hP, hB, -⟩ := h.op
  refine ⟨M, ?_, h⟩
  unfold lawOp_40 f_X7_count f_X8_count
  simp only [KQ hS, if_true]
  rcases ixc a1 11 (by omega) with h2 | ⟨w, hw, rfl⟩
  · have e0 : f_X8_in (Int32.toInt64 a1) 0 10 = 0 := in_bad (n := 11) (by decide) rfl h2
    by_cases q : a1 < 0
    · simp only [if_pos q, e0, if_true, Option.bind_some]
    · have q5 : ¬ a1 < 11 := Int32.not_lt.mpr (h2.resolve_left q)
      simp only [if_neg q, if_neg q5, e0, if_true, Option.bind_some]
  · have e1 : f_X8_in (Int32.toInt64 (nI w)) 0 10 = 1 := in_ok (n := 11) (by decide) rfl hw
    simp only [if_neg (nI_pos (show w < 2 ^ 31 by omega)), if_pos (show nI w < 11 from nI_lt (b := 11) hw (by decide)), e1, show ¬ (1 : Int32) = 0 by decide, if_false, countOf_X hH hG hw, countOf_Y h hH hG hw, Option.bind_some, if_true]
