/-! ===== texts ===== -/
theorem textF {M : Mem} (h : SF M) {r : Nat} (hr : r < 4) : aR M 5 3 (nI r) = some (51 + 2 * r) ∧ kd M (51 + 2 * r) = 15 ∧ gR M 15 (51 + 2 * r) 0 = some (52 + 2 * r) ∧ kd M (52 + 2 * r) = 2 ∧ ln (52 + 2 * r) = 60 := by
  rcases (show r = 0 ∨ r = 1 ∨ r = 2 ∨ r = 3 by omega) with rfl | rfl | rfl | rfl
  all_goals exact ⟨aR_k (h.k (by decide +kernel) (by decide)) (by decide +kernel) (h.r (by decide +kernel)) (by decide), h.k (by decide +kernel) (by decide), gR_k (h.k (by decide +kernel) (by decide)) (h.r (by decide +kernel)) (by decide), h.k (by decide +kernel) (by decide), by decide +kernel⟩
theorem textOf_bad {M : Mem} (h : SF M) {x : Int32} (hx : x < 0 ∨ nI 4 ≤ x) : f_X7_textOf 1 x M = some 0 := by
  unfold f_X7_textOf
  by_cases h0 : x < 0
  · simp only [KQ h, if_true, if_pos h0]
  · have h6 : nI 4 ≤ x := hx.resolve_left h0
    simp only [KQ h, RQ h, LQ, if_true, if_neg h0, Option.bind_some, aN_k, if_pos h6]
theorem textOf_ok {M : Mem} (h : SF M) {r : Nat} (hr : r < 4) : f_X7_textOf 1 (nI r) M = some (51 + 2 * r) := by
  unfold f_X7_textOf
  simp only [KQ h, RQ h, LQ, if_true, if_neg (nI_pos (show r < 2 ^ 31 by omega)), Option.bind_some, aN_k, if_neg (nI_ge hr (by omega)), textF h hr]
theorem isText_bad {x : Int32} (hx : x < 0 ∨ nI 4 ≤ x) : f_X8_isText x = some 0 := by
  rw [isText_eq, if_neg]
  rw [Int32.lt_iff_toInt_lt, Int32.le_iff_toInt_le, nI_toInt (by omega)] at hx
  simp at hx
  omega
theorem isText_ok {r : Nat} (hr : r < 4) : f_X8_isText (nI r) = some 1 := by
  rw [isText_eq, if_pos]
  rw [nI_toInt (by omega)]
  omega
theorem fillB {M : Mem} {x : Nat} (hk : kd M x = 2) (v : Int32) : f_J7_fill_031fb x v M = some (sW M x (fun j => if j < ln x then vp_nar .byte v else mI M x j)) := by
  have hl := ln_le x
  unfold f_J7_fill_031fb
  rw [aN_k hk, Option.bind_some]
  have key := lp_up (F := fun fu j (N : Mem) => f_J7_fill_031fb_5 fu x v (nI j) (nI (ln x)) N) (ln x) (fun N => some N) (fun j N => sI N x j (vp_nar .byte v)) (fun j N => kd N x = 2)
    (fun fu N _ => by simp only [f_J7_fill_031fb_5]; rw [if_pos (nI_le (Nat.le_refl _) (by omega))])
    (fun fu j N hj hI => by
      refine ⟨?_, hI⟩
      simp only [f_J7_fill_031fb_5]
      rw [if_neg (nI_ge hj (by omega)), eB_k hI hj, Option.bind_some, nI_1])
    (ln x) FU 0 M (by omega) (by unfold FU; omega) hk
  refine key.1.trans ?_
  congr 1
  have it := iter_sI (M := M) (x := x) (p := 0) (v := fun _ => vp_nar .byte v) (ln x)
  simp only [Nat.zero_add, Nat.zero_le, true_and] at it
  exact it
theorem renewT_X {M : Mem} (h : SF M) {r : Nat} (hr : r < 4) (v : Int32) : f_X5_renew (51 + 2 * r) v M = some (sI (sW M (52 + 2 * r) (fun j => if j < 60 then 32 else mI M (52 + 2 * r) j)) (51 + 2 * r) 1 v) := by
  obtain ⟨-, k1, g1, k2, l2⟩ := textF h hr
  unfold f_X5_renew
  rw [if_pos k1, g1, Option.bind_some, fillB k2, l2, Option.bind_some, pI_k (by rw [kd_sW]; exact k1)]
  rfl
theorem m60 (r j : Nat) : (60 : Int32) * nI r + nI j = nI (60 * r + j) := by rw [show (60 : Int32) = nI 60 from rfl, pk_mul, nI_add]
theorem text_Y {M : Mem} (h : SF M) {r : Nat} (hr : r < 4) (v : Int32) : f_X8_text_34 FU 65 (nI r) v 0 M = some (v, sW M 75 (fun j => if 60 * r ≤ j ∧ j < 60 * r + 60 then 32 else mI M 75 j)) := by
  have key := lp_up (F := fun fu j (N : Mem) => f_X8_text_34 fu 65 (nI r) v (nI j) N) 60 (fun N => some (v, N)) (fun j N => sI N 75 (60 * r + j) 32) (fun j N => SF N)
    (fun fu N _ => by simp only [f_X8_text_34]; rw [if_pos (show (60 : Int32) ≤ nI 60 from Int32.le_refl _)])
    (fun fu j N hj hI => by
      refine ⟨?_, hI⟩
      simp only [f_X8_text_34]
      rw [if_neg (show ¬ (60 : Int32) ≤ nI j from nI_ge (b := 60) hj (by omega))]
      simp only [RQ hI, Option.bind_some]
      rw [m60, eI_k (by simp only [KQ hI]) (by simp only [LQ]; omega), Option.bind_some, nI_1])
    60 FU 0 M (by omega) (by unfold FU; omega) h
  refine (show f_X8_text_34 FU 65 (nI r) v 0 M = _ from key.1).trans ?_
  rw [iter_sI (M := M) (x := 75) (p := 60 * r) (v := fun _ => 32) 60]
theorem Inv.texts {M M' : Mem} (h : Inv M) (hS : SF M') (hR : mR M' = mR M) (hL : mL M' = mL M) (hrow : ∀ x, x ≤ 50 ∨ (59 ≤ x ∧ x ≠ 74 ∧ x ≠ 75) → mI M' x = mI M x) (hw : TxP (mI M')) : Inv M' := by
  obtain ⟨g0, g1, g2, g3, r, s, n, m, G, d, cd, g4, g5⟩ := h
  have hr : r = 4 ∨ r = 13 := by obtain ⟨q, -, -⟩ := g4; omega
  refine ⟨hS, g1.congr (fun x hx => hrow x (by omega)), hw, ?_, r, s, n, m, G, d, cd, ?_, g5.congr (fun x hx => hrow x (by unfold gset at hx; omega)) (by rw [hrow 65 (by omega)]) (by rw [hrow 65 (by omega)])⟩
  · unfold TlP
    rw [hrow 65 (by omega), hrow 1 (by omega), hrow 76 (by omega), hrow 38 (by omega), hL]
    exact g3
  · obtain ⟨q1, q2, q3⟩ := g4
    exact ⟨q1, by rw [hR]; exact q2, by rw [hR]; exact q3⟩
theorem op6 {M : Mem} (h : Inv M) (a1 a2 : Int32) : ∃ M', lawOp_6 a1 a2 M = some M' ∧ Inv M' := by
  have hS := h.1
  unfold lawOp_6 f_X7_text f_X8_text
  simp only [KQ hS, if_true]
  rcases ixc a1 4 (by decide) with h1 | ⟨r, hr, rfl⟩
  · rw [textOf_bad hS h1]
    simp only [Option.bind_some, if_true, KQ hS]
    rw [isText_bad h1]
    simp only [Option.bind_some, if_true]
    exact ⟨M, rfl, h⟩
  · rw [textOf_ok hS hr]
    simp only [Option.bind_some, show ¬ 51 + 2 * r = 0 by omega, if_false]
    by_cases h40 : a2 ≤ 60
    · simp only [if_pos h40]
      by_cases h0 : 0 ≤ a2
      · simp only [if_pos h0]
        rw [renewT_X hS hr]
        simp only [Option.bind_some]
        generalize hM1 : sI (sW M (52 + 2 * r) (fun j => if j < 60 then 32 else mI M (52 + 2 * r) j)) (51 + 2 * r) 1 a2 = M1
        have hS1 : SF M1 := by rw [← hM1]; exact hS
        simp only [KQ hS1, if_true]
        rw [isText_ok hr]
        simp only [Option.bind_some, show ¬ (1 : Int32) = 0 by decide, if_false, RQ hS1]
        rw [eI_k (by simp only [KQ hS1]) (by simp only [LQ]; omega), Option.bind_some, text_Y (SF.sI hS1) hr, mI_sI_row (by decide)]
        simp only [Option.bind_some, if_true]
        refine ⟨_, rfl, ?_⟩
        have e1 : ∀ x, x ≠ 51 + 2 * r → x ≠ 52 + 2 * r → mI M1 x = mI M x := fun x a b => by rw [← hM1, mI_sI_row a, mI_ne b]
        refine h.texts hS1 (by rw [← hM1]; rfl) (by rw [← hM1]; rfl) (fun x hx => ?_) (fun q hq => ?_)
        · rw [mI_ne (by omega), mI_sI_row (by omega), e1 x (by omega) (by omega)]
        · obtain ⟨w1, w2, w3⟩ := h.2.2.1 q hq
          rw [mI_ne (x := 75) (y := 51 + 2 * q) (by omega), mI_ne (x := 75) (y := 52 + 2 * q) (by omega), mI_eq, mI_ne (x := 75) (y := 74) (by decide), mI_sI_row (x := 74) (show 51 + 2 * q ≠ 74 by omega), mI_sI_row (x := 74) (show 52 + 2 * q ≠ 74 by omega), mI_sI, e1 74 (by omega) (by omega), e1 75 (by omega) (by omega)]
          by_cases hqr : q = r
          · subst hqr
            obtain ⟨z, hz, rfl⟩ : ∃ z, z ≤ 60 ∧ a2 = nI z := nI_of2 (M := 60) (n := 60) rfl (by rw [Int32.not_lt]; exact h0) h40
            refine ⟨⟨z + 1, by omega, ?_⟩, ?_, fun j hj => ?_⟩
            · rw [← hM1, mI_sI]; simp [nI_pred]
            · rw [← hM1, mI_sI]; simp
            · rw [if_pos (by omega), ← hM1, mI_sI_row (by omega), mI_eq, if_pos hj]
              exact ⟨rfl, rfl⟩
          · rw [e1 (51 + 2 * q) (by omega) (by omega), e1 (52 + 2 * q) (by omega) (by omega), if_neg (by omega)]
            refine ⟨w1, w2, fun j hj => ?_⟩
            rw [if_neg (by omega)]
            exact w3 j hj
      · simp only [if_neg h0]
        rw [show (5 : Int32) = nI 5 from rfl, refuse_X hS (by decide)]
        simp only [Option.bind_some, KQ hS.rf, if_true]
        rw [isText_ok hr]
        simp only [Option.bind_some, show ¬ (1 : Int32) = 0 by decide, if_false]
        rw [find_Y hS.rf (by decide)]
        simp only [Option.bind_some, if_true]
        exact ⟨_, rfl, h.refused (by decide)⟩
    · simp only [if_neg h40, Option.bind_some, KQ hS, if_true]
      rw [isText_ok hr]
      simp only [Option.bind_some, show ¬ (1 : Int32) = 0 by decide, if_false, if_true]
      exact ⟨M, rfl, h⟩
theorem isMissingT_X {M : Mem} (h : SF M) {r : Nat} (hr : r < 4) : f_X5_isMissing (51 + 2 * r) M = some (if mI M (51 + 2 * r) 1 = -1 then 1 else 0) := by
  obtain ⟨-, k1, g1, k2, l2⟩ := textF h hr
  unfold f_X5_isMissing
  rw [if_pos k1, gI_k k1, Option.bind_some]
  by_cases hh : mI M (51 + 2 * r) 1 = -1
  · simp [hh]
  · simp [hh]
theorem hasT_X {M : Mem} (h : SF M) {r : Nat} (hr : r < 4) (x : Int32) : f_X5_has (51 + 2 * r) x M = some (if x < 0 then 0 else if mI M (51 + 2 * r) 1 ≤ x then 0 else 1) := by
  obtain ⟨-, k1, g1, k2, l2⟩ := textF h hr
  unfold f_X5_has
  rw [if_pos k1, gI_k k1]
  by_cases h1 : x < 0
  · simp [h1]
  · by_cases h2 : mI M (51 + 2 * r) 1 ≤ x
    · simp [h1, h2]
    · simp [h1, h2]
theorem inT0 {s : Nat} (hs : s ≤ 60) {i : Int32} (hi : i < 0 ∨ nI s ≤ i) : f_X8_in (Int32.toInt64 i) 0 (Int32.toInt64 (nI s - 1)) = 0 := by
  rw [in_i, if_neg]
  rw [Int32.lt_iff_toInt_lt, Int32.le_iff_toInt_le, nI_toInt (show s < 2 ^ 31 by omega), show (0 : Int32).toInt = 0 from rfl] at hi
  rw [Int32.toInt_toInt64, show (nI s - 1).toInt = (s : Int) - 1 from pk_sub_toInt (b := 1) (by omega) (by decide), show (0 : Int64).toInt = 0 from rfl]
  omega
theorem inT1 {s j : Nat} (hs : s ≤ 60) (hj : j < s) : f_X8_in (Int32.toInt64 (nI j)) 0 (Int32.toInt64 (nI s - 1)) = 1 := by
  rw [in_i, if_pos]
  rw [Int32.toInt_toInt64, show (nI s - 1).toInt = (s : Int) - 1 from pk_sub_toInt (b := 1) (by omega) (by decide), nI_toInt (by omega), show (0 : Int64).toInt = 0 from rfl]
  omega
theorem op7 {M : Mem} (h : Inv M) (a1 a2 a3 : Int32) : ∃ M', lawOp_7 a1 a2 a3 M = some M' ∧ Inv M' := by
  have hS := h.1
  unfold lawOp_7 f_X7_put f_X8_put
  simp only [KQ hS, if_true]
  rcases ixc a1 4 (by decide) with h1 | ⟨r, hr, rfl⟩
  · rw [textOf_bad hS h1]
    simp only [Option.bind_some, if_true, KQ hS]
    rw [isText_bad h1]
    simp only [Option.bind_some, if_true]
    exact ⟨M, rfl, h⟩
  · obtain ⟨w1, w2, w3⟩ := h.2.2.1 r hr
    obtain ⟨-, k1, g1, k2, l2⟩ := textF hS hr
    rw [textOf_ok hS hr]
    simp only [Option.bind_some, show ¬ 51 + 2 * r = 0 by omega, if_false]
    rw [isMissingT_X hS hr]
    rcases szc w1 with hz | ⟨s, hs, hz⟩
    · simp only [hz, if_true, Option.bind_some, show ¬ (1 : Int32) = 0 by decide, if_false]
      rw [show f_X7_refuse 1 1 M = some (-3, rf 1 M) from refuse_X hS (by decide)]
      simp only [Option.bind_some, KQ hS.rf, if_true]
      rw [isText_ok hr]
      simp only [Option.bind_some, show ¬ (1 : Int32) = 0 by decide, if_false, RQ hS.rf]
      rw [aI_k (by simp only [KQ hS.rf]) (by simp only [LQ]; omega), rf_row (by decide) (by decide), w2, hz, show f_X8_find 65 1 (rf 1 M) = some (-3, rm_ 1 (rf 1 M)) from find_Y hS.rf (by decide)]
      simp only [Option.bind_some, show ¬ (0 : Int32) ≤ -1 by decide, if_false, if_true]
      exact ⟨_, rfl, h.refused (by decide)⟩
    · rw [hz]
      simp only [n1 (show s < 2 ^ 31 by omega), if_false, Option.bind_some, if_true]
      rw [hasT_X hS hr, hz]
      rcases ixc a2 s (by omega) with h2 | ⟨j, hj, rfl⟩
      · have hcond : (if a2 < 0 then (0 : Int32) else if nI s ≤ a2 then 0 else 1) = 0 := by
          by_cases q : a2 < 0
          · rw [if_pos q]
          · rw [if_neg q, if_pos (h2.resolve_left q)]
        simp only [hcond, Option.bind_some, if_true]
        rw [show f_X7_refuse 1 2 M = some (-3, rf 2 M) from refuse_X hS (by decide)]
        simp only [Option.bind_some, KQ hS.rf, if_true]
        rw [isText_ok hr]
        simp only [Option.bind_some, show ¬ (1 : Int32) = 0 by decide, if_false, RQ hS.rf]
        rw [aI_k (by simp only [KQ hS.rf]) (by simp only [LQ]; omega), rf_row (by decide) (by decide), w2, hz]
        simp only [Option.bind_some, nI_pos' (show s < 2 ^ 31 by omega), if_true, inT0 hs h2]
        rw [show f_X8_find 65 2 (rf 2 M) = some (-3, rm_ 2 (rf 2 M)) from find_Y hS.rf (by decide)]
        simp only [Option.bind_some, if_true]
        exact ⟨_, rfl, h.refused (by decide)⟩
      · simp only [if_neg (nI_pos (show j < 2 ^ 31 by omega)), if_neg (nI_ge hj (show s < 2 ^ 31 by omega)), Option.bind_some, show ¬ (1 : Int32) = 0 by decide, if_false, g1]
        rw [aB_k k2 (by rw [l2]; omega)]
        simp only [Option.bind_some]
        rw [eB_k k2 (by rw [l2]; omega), pk_vb]
        simp only [Option.bind_some]
        generalize hM1 : sI M (52 + 2 * r) j (Int8.toInt32 (Int32.toInt8 a3)) = M1
        have hS1 : SF M1 := by rw [← hM1]; exact hS
        have e1 : ∀ x, x ≠ 52 + 2 * r → mI M1 x = mI M x := fun x b => by rw [← hM1, mI_sI_row b]
        simp only [KQ hS1, if_true]
        rw [isText_ok hr]
        simp only [Option.bind_some, show ¬ (1 : Int32) = 0 by decide, if_false, RQ hS1]
        rw [aI_k (j := r) (by simp only [KQ hS1]) (by simp only [LQ]; omega), e1 74 (by omega), w2, hz]
        simp only [Option.bind_some, nI_pos' (show s < 2 ^ 31 by omega), if_true, inT1 hs hj, show ¬ (1 : Int32) = 0 by decide, if_false, m60]
        rw [aI_k (by simp only [KQ hS1]) (by simp only [LQ]; omega)]
        simp only [Option.bind_some]
        rw [eI_k (by simp only [KQ hS1]) (by simp only [LQ]; omega)]
        simp only [Option.bind_some, e1 75 (show 75 ≠ 52 + 2 * r by omega), (w3 j (show j < 60 by omega)).1, if_true]
        refine ⟨_, rfl, ?_⟩
        refine h.texts (SF.sI hS1) (by rw [← hM1]; rfl) (by rw [← hM1]; rfl) (fun x hx => ?_) (fun q hq => ?_)
        · rw [mI_sI_row (by omega), e1 x (by omega)]
        · obtain ⟨v1, v2, v3⟩ := h.2.2.1 q hq
          rw [mI_sI_row (x := 75) (y := 51 + 2 * q) (by omega), mI_sI_row (x := 75) (y := 52 + 2 * q) (by omega), mI_sI_row (x := 75) (y := 74) (by omega), e1 (51 + 2 * q) (by omega), e1 74 (by omega)]
          refine ⟨v1, v2, fun i hi => ?_⟩
          rw [mI_sI, e1 75 (by omega), ← hM1, mI_sI]
          by_cases hc : q = r ∧ i = j
          · obtain ⟨rfl, rfl⟩ := hc
            simp
          · rw [if_neg (by omega), if_neg (by omega)]
            exact v3 i hi
-- what is told
theorem op37 {M : Mem} (h : Inv M) : ∃ M', lawOp_37 M = some M' ∧ Inv M' := by
  have hS := h.1
  unfold lawOp_37 f_X7_asked f_X8_asked
  simp only [KQ hS, if_true, gI_k, Option.bind_some, h.2.2.2.1.1]
  exact ⟨M, rfl, h⟩
theorem op38 {M : Mem} (h : Inv M) : ∃ M', lawOp_38 M = some M' ∧ Inv M' := by
  have hS := h.1
  unfold lawOp_38 f_X7_upper f_X8_upper
  simp only [KQ hS, if_true, gL_k, Option.bind_some, h.2.2.2.1.2.1, (lgc_eq _ _).mpr rfl]
  exact ⟨M, rfl, h⟩
theorem op39 {M : Mem} (h : Inv M) : ∃ M', lawOp_39 M = some M' ∧ Inv M' := by
  have hS := h.1
  unfold lawOp_39 f_X7_lower f_X8_lower
  simp only [KQ hS, if_true, gL_k, Option.bind_some, h.2.2.2.1.2.2.1, (lgc_eq _ _).mpr rfl]
  exact ⟨M, rfl, h⟩
theorem op41 {M : Mem} (h : Inv M) : ∃ M', lawOp_41 M = some M' ∧ Inv M' := by
  have hS := h.1
  unfold lawOp_41 f_X7_finding f_X8_finding
  simp only [KQ hS, if_true, gI_k, Option.bind_some, h.2.2.2.1.2.2.2.1]
  exact ⟨M, rfl, h⟩
theorem op42 {M : Mem} (h : Inv M) (a1 : Int32) : ∃ M', lawOp_42 a1 M = some M' ∧ Inv M' := by
  have hS := h.1
  have hb := i32_b a1
  unfold lawOp_42 f_X7_findings f_X8_findings
  rw [in_i, show (1 : Int64).toInt = 1 from rfl, show (5 : Int64).toInt = 5 from rfl]
  simp only [KQ hS, if_true]
  by_cases h1 : a1 < 1
  · rw [Int32.lt_iff_toInt_lt, show (1 : Int32).toInt = 1 from rfl] at h1
    rw [if_pos (by rw [Int32.lt_iff_toInt_lt]; exact h1), if_neg (show ¬ (1 ≤ a1.toInt ∧ a1.toInt ≤ 5) by omega)]
    simp only [Option.bind_some, if_true]
    exact ⟨M, rfl, h⟩
  · rw [if_neg h1]
    rw [Int32.lt_iff_toInt_lt, show (1 : Int32).toInt = 1 from rfl] at h1
    by_cases h2 : a1 ≤ 5
    · rw [if_pos h2]
      rw [Int32.le_iff_toInt_le, show (5 : Int32).toInt = 5 from rfl] at h2
      obtain ⟨f, hf, rfl⟩ : ∃ f : Nat, f < 6 ∧ a1 = nI f := ⟨a1.toInt.toNat, by omega, by apply Int32.toInt_inj.mp; rw [nI_toInt (by omega)]; omega⟩
      rw [if_pos (show 1 ≤ (nI f).toInt ∧ (nI f).toInt ≤ 5 by omega)]
      simp only [RQ hS, Option.bind_some, show ¬ (1 : Int32) = 0 by decide, if_false]
      rw [aI_k (by simp only [KQ hS]) (by simp only [LQ]; omega), aI_k (by simp only [KQ hS]) (by simp only [LQ]; omega), h.2.2.2.1.2.2.2.2 f hf]
      simp only [Option.bind_some, if_true]
      exact ⟨M, rfl, h⟩
    · rw [if_neg h2]
      rw [Int32.le_iff_toInt_le, show (5 : Int32).toInt = 5 from rfl] at h2
      rw [if_neg (show ¬ (1 ≤ a1.toInt ∧ a1.toInt ≤ 5) by omega)]
      simp only [Option.bind_some, if_true]
      exact ⟨M, rfl, h⟩
